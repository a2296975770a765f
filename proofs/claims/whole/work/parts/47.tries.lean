theorem fcF_le (f : Nat → Int32) : ∀ n m, fcF f n m ≤ n
  | 0, _ => Nat.le_refl 0
  | n + 1, m => by
    have h := fcF_le f n (m + 1)
    rw [fcF]
    split <;> omega
theorem fallK_le (k : KS) : fallK k ≤ 4 := fcF_le k.1 4 0
theorem sub_0 {a b : Nat} (ha : a < 1000) (hb : b < 1000) : nI a - nI b = 0 ↔ a = b := by
  rw [← Int32.toInt_inj, pk_sub_toInt (by omega) (by omega)]
  show (a : Int) - b = 0 ↔ a = b
  omega
theorem Co.keep {tr : TrS} {mb : Nat} {sp : SpS} {f g : Nat → Int32} {k : KS} (h : Co tr mb sp f 0 k) (e : ∀ i, i < 7 → g i = f i) : Co tr mb sp g 0 k :=
  h.blk (fun _ _ => rfl) rfl (fun j hj => by rw [show 7 * 0 + j = j by omega]; exact e j hj)
theorem c_try {tr : TrS} {mb w : Nat} {no : SpS} {k : KS} (sr : SpS) (hmb : tr.2.2.2.1 = nI mb) (h4 : mb ≤ 4) (hw : w < 4) (hR : CR no k) (hV : VK k) : ∃ s', tw_X6_tryTilt no sr tr (nI w) = some s' ∧ CR s' (tiltK tr mb w k) := by
  obtain ⟨s1, e1, e2, e3⟩ := tw_take sr no
  obtain ⟨s2, f1, f2, f3, f4⟩ := c_roll hmb h4 hw (hR.take e2 e3) hV
  refine ⟨s2, ?_, f2⟩
  rw [tw_X6_tryTilt, e1, Option.bind_some, f1, Option.bind_some]
theorem m_try {tr : TrS} {mm : Int32} {mk mt : Nat → Int32} {mb : Nat} {th : Int32} {now : Nat → Int32} {w : Nat} {k : KS} (hT : RT tr mb mm mk mt) (hw : w < 4) (hV : VK k) (hR : MR mb th now 0 k) (sm : Int32) :
    ∃ q5 now2 sm2, tw_X7_layTrial now = some q5 ∧ tw_X7_tiltOn mm mk mt q5 th sm 1 (nI w) = some (nI (fallK (tiltK tr mb w k)) - nI (fallK k), now2, sm2) ∧ MR mb th now2 1 (tiltK tr mb w k) ∧ ∀ i, i < 7 → now2 i = now i := by
  obtain ⟨q5, e1, e2, e3⟩ := tw_lay now
  obtain ⟨now2, sm2, f1, f2, f3, f4, f5⟩ := m_tilt (b := 1) hT (by omega) hw hV (hR.lay e2) sm
  exact ⟨q5, now2, sm2, e1, f1, f2, fun i hi => (f5 i (by omega)).trans (e3 i (by omega))⟩
def acF (p : Nat → Bool) : Nat → Nat → Int32 → Int32
  | 0, _, a => a
  | n + 1, v, a => acF p n (v + 1) (if p v = true then a ||| bs v else a)
theorem c_rest {tr : TrS} {mb w m : Nat} {no : SpS} {k : KS} (sr : SpS) (hmb : tr.2.2.2.1 = nI mb) (h4 : mb ≤ 4) (hw : w < 4) (hm : m < 4) (hR : CR no k) (hV : VK k) : ∃ s', tw_X6_restOf no sr tr (nI m) (nI w) = some ((tiltK tr mb w k).1 m, s') ∧ CR s' (tiltK tr mb w k) := by
  obtain ⟨s', e1, e2⟩ := c_try sr hmb h4 hw hR hV
  refine ⟨s', ?_, e2⟩
  rw [tw_X6_restOf, e1, Option.bind_some, if_pos (ix_nI hm (by omega)), nI_clamp (by omega), e2.1 m hm]
theorem MR.now {mb : Nat} {now : Nat → Int32} {b : Nat} {k : KS} (h : MR mb 15 now b k) {m : Nat} (hm : m < mb) (h4 : mb ≤ 4) : now (7 * b + m) = k.1 m := by
  have h1 := h.1 m (by omega)
  rw [if_pos ⟨hm, b15 m (by omega)⟩] at h1
  exact h1.symm
theorem add7 (m : Nat) : (7 : Int32) + nI m = nI (7 + m) := nI_add 7 m
/-- rolls -/
theorem s_rolls {tr : TrS} {mb : Nat} {mm : Int32} {mk mt : Nat → Int32} {no : SpS} {now : Nat → Int32} {k : KS} (hT : RT tr mb mm mk mt) (hC : Co tr mb no now 0 k) (sr : SpS) (sm y z : Int32) : ∃ (r : Int32) (sr' : SpS) (now' : Nat → Int32) (sm' : Int32), tw_X6_rolls no sr tr y z = some (r, sr') ∧ tw_X7_rolls mm mk mt now 15 sm y z = some (r, now', sm') ∧ ∀ i, i < 7 → now' i = now i := by
  obtain ⟨c1, c2, c3, c4, c5⟩ := hC
  have h4 := hT.2.2.1
  rw [tw_X6_rolls, tw_X7_rolls, tw_hasM hT.1 h4, Option.bind_some, tw_mMarble hT.2.1 h4, Option.bind_some, tw_isWay, Option.bind_some, tw_in z 4 3 (by decide), Option.bind_some]
  cases hy : ix y mb with
  | false => exact ⟨_, _, _, _, rfl, rfl, fun _ _ => rfl⟩
  | true =>
    cases hz : ix z 4 with
    | false => exact ⟨_, _, _, _, rfl, rfl, fun _ _ => rfl⟩
    | true =>
      obtain ⟨m, hm, rfl⟩ := ix_of hy (by omega)
      obtain ⟨w, hw, rfl⟩ := ix_of hz (by omega)
      obtain ⟨s', e1, e2⟩ := c_rest sr hT.1 h4 hw (show m < 4 by omega) c1 c2
      obtain ⟨q5, now2, sm2, f1, f2, f3, f4⟩ := m_try hT hw c2 c4 sm
      rw [if_neg (b1_ne rfl), if_neg (b1_ne rfl), if_neg (b1_ne rfl), if_neg (b1_ne rfl), e1, f1, Option.bind_some, Option.bind_some, f2, Option.bind_some, add7, if_pos (ix_nI (by omega) (by omega)), nI_clamp (by omega)]
      have e3 : now2 (7 + m) = (tiltK tr mb w k).1 m := f3.now hm h4
      dsimp only
      rw [e3]
      exact ⟨_, _, _, _, rfl, rfl, f4⟩
theorem c_safe {tr : TrS} {mb : Nat} {no : SpS} {k : KS} (hmb : tr.2.2.2.1 = nI mb) (h4 : mb ≤ 4) (hR : CR no k) (hV : VK k) : ∀ (n v : Nat) (a : Int32) (sr : SpS), v ≤ 4 → 4 - v < n → ∃ sr', tw_X6_safe_12 no tr n a (nI (fallK k)) (nI v) sr = some (acF (fun v => decide (fallK (tiltK tr mb v k) = fallK k)) (4 - v) v a, sr') := by
  intro n
  induction n with
  | zero => intro v a sr h1 h2; omega
  | succ n ih =>
    intro v a sr h1 h2
    rw [tw_X6_safe_12]
    by_cases hv : v = 4
    · subst hv
      rw [if_pos (by decide), Nat.sub_self, acF]
      exact ⟨_, rfl⟩
    · obtain ⟨s', e1, e2⟩ := c_try (w := v) sr hmb h4 (by omega) hR hV
      have hf := fallK_le k
      have hg := fallK_le (tiltK tr mb v k)
      rw [if_neg (show ¬ (4 : Int32) ≤ nI v from nI_ge (b := 4) (by omega) (by omega)), e1, Option.bind_some, tw_fallen e2, Option.bind_some, show 4 - v = (4 - (v + 1)) + 1 by omega, acF, nI_1]
      by_cases h : fallK (tiltK tr mb v k) = fallK k
      · rw [if_pos (by rw [h]), decide_eq_true h, if_pos rfl]
        exact ih (v + 1) _ s' (by omega) (by omega)
      · rw [if_neg (fun q => h ((nI_eq (by omega) (by omega)).mp q)), decide_eq_false h, if_neg (by decide)]
        exact ih (v + 1) _ s' (by omega) (by omega)
theorem m_safe {tr : TrS} {mm : Int32} {mk mt : Nat → Int32} {mb : Nat} {k : KS} (hT : RT tr mb mm mk mt) (hV : VK k) : ∀ (n v : Nat) (a : Int32) (now : Nat → Int32) (sm : Int32), v ≤ 4 → 4 - v < n → MR mb 15 now 0 k → ∃ now' sm', tw_X7_safe_4 mm mk mt 15 n a (nI v) now sm = some (acF (fun v => decide (fallK (tiltK tr mb v k) = fallK k)) (4 - v) v a, now', sm') ∧ ∀ i, i < 7 → now' i = now i := by
  intro n
  induction n with
  | zero => intro v a now sm h1 h2; omega
  | succ n ih =>
    intro v a now sm h1 h2 hR
    rw [tw_X7_safe_4]
    by_cases hv : v = 4
    · subst hv
      rw [if_pos (by decide), Nat.sub_self, acF]
      exact ⟨_, _, rfl, fun _ _ => rfl⟩
    · obtain ⟨q5, now2, sm2, f1, f2, f3, f4⟩ := m_try (w := v) hT (by omega) hV hR sm
      have hf := fallK_le k
      have hg := fallK_le (tiltK tr mb v k)
      have hR2 : MR mb 15 now2 0 k := hR.cong (fun i h1 h2 => f4 i (by omega))
      rw [if_neg (show ¬ (4 : Int32) ≤ nI v from nI_ge (b := 4) (by omega) (by omega)), f1, Option.bind_some, f2, Option.bind_some, show 4 - v = (4 - (v + 1)) + 1 by omega, acF, nI_1, or_0]
      by_cases h : fallK (tiltK tr mb v k) = fallK k
      · rw [if_pos ((sub_0 (by omega) (by omega)).mpr h), decide_eq_true h, if_pos rfl]
        obtain ⟨now', sm', g1, g2⟩ := ih (v + 1) (a ||| bs v) now2 sm2 (by omega) (by omega) hR2
        exact ⟨now', sm', g1, fun i hi => (g2 i hi).trans (f4 i hi)⟩
      · rw [if_neg (fun q => h ((sub_0 (by omega) (by omega)).mp q)), decide_eq_false h, if_neg (by decide)]
        obtain ⟨now', sm', g1, g2⟩ := ih (v + 1) a now2 sm2 (by omega) (by omega) hR2
        exact ⟨now', sm', g1, fun i hi => (g2 i hi).trans (f4 i hi)⟩
/-- safe -/
theorem s_safe {tr : TrS} {mb : Nat} {mm : Int32} {mk mt : Nat → Int32} {no : SpS} {now : Nat → Int32} {k : KS} (hT : RT tr mb mm mk mt) (hC : Co tr mb no now 0 k) (sr : SpS) (sm : Int32) : ∃ (r : Int32) (sr' : SpS) (now' : Nat → Int32) (sm' : Int32), tw_X6_safe no sr tr = some (r, sr') ∧ tw_X7_safe mm mk mt now 15 sm = some (r, now', sm') ∧ ∀ i, i < 7 → now' i = now i := by
  obtain ⟨c1, c2, c3, c4, c5⟩ := hC
  obtain ⟨sr', e1⟩ := c_safe hT.1 hT.2.2.1 c1 c2 5 0 0 sr (by omega) (by omega)
  obtain ⟨now', sm', f1, f2⟩ := m_safe hT c2 5 0 0 now sm (by omega) (by omega) c4
  refine ⟨_, sr', now', sm', ?_, f1, f2⟩
  rw [tw_X6_safe, tw_fallen c1, Option.bind_some]
  exact e1
/-! marble: ways behind which it is elsewhere, ways by which it falls -/
def elB (tr : TrS) (mb : Nat) (k : KS) (m : Nat) (v : Nat) : Bool := decide (¬ (tiltK tr mb v k).1 m = k.1 m)
def faB (tr : TrS) (mb : Nat) (k : KS) (m : Nat) (v : Nat) : Bool := !inH (k.1 m) && inH ((tiltK tr mb v k).1 m)
theorem c_else {tr : TrS} {mb m : Nat} {no : SpS} {k : KS} (hmb : tr.2.2.2.1 = nI mb) (h4 : mb ≤ 4) (hm : m < 4) (hR : CR no k) (hV : VK k) : ∀ (n v : Nat) (a : Int32) (sr : SpS), v ≤ 4 → 4 - v < n → ∃ sr', tw_X6_waysElsewhere_4 no tr (nI m) n a (nI v) sr = some (acF (elB tr mb k m) (4 - v) v a, sr') := by
  intro n
  induction n with
  | zero => intro v a sr h1 h2; omega
  | succ n ih =>
    intro v a sr h1 h2
    rw [tw_X6_waysElsewhere_4]
    by_cases hv : v = 4
    · subst hv
      rw [if_pos (by decide), Nat.sub_self, acF]
      exact ⟨_, rfl⟩
    · obtain ⟨s', e1, e2⟩ := c_rest (w := v) sr hmb h4 (by omega) hm hR hV
      rw [if_neg (show ¬ (4 : Int32) ≤ nI v from nI_ge (b := 4) (by omega) (by omega)), e1, Option.bind_some, if_pos (ix_nI hm (by omega)), nI_clamp (by omega), hR.1 m hm, show 4 - v = (4 - (v + 1)) + 1 by omega, acF, nI_1]
      unfold elB
      by_cases h : (tiltK tr mb v k).1 m = k.1 m
      · rw [if_pos h, if_neg (by simp [h])]
        exact ih (v + 1) _ s' (by omega) (by omega)
      · rw [if_neg h, if_pos (by simp [h])]
        exact ih (v + 1) _ s' (by omega) (by omega)
theorem acF_no {p : Nat → Bool} : ∀ (n v : Nat) (a : Int32), (∀ j, p j = false) → acF p n v a = a
  | 0, _, _, _ => rfl
  | n + 1, v, a, h => by rw [acF, h v, if_neg (by decide), acF_no n (v + 1) a h]
theorem c_fallW {tr : TrS} {mb m : Nat} {no : SpS} {k : KS} (hmb : tr.2.2.2.1 = nI mb) (h4 : mb ≤ 4) (hm : m < 4) (hR : CR no k) (hV : VK k) : ∀ (n v : Nat) (a : Int32) (sr : SpS), v ≤ 4 → 4 - v < n → ∃ sr', tw_X6_waysOfFall_4 no tr (nI m) n a (nI v) sr = some (acF (faB tr mb k m) (4 - v) v a, sr') := by
  intro n
  induction n with
  | zero => intro v a sr h1 h2; omega
  | succ n ih =>
    intro v a sr h1 h2
    rw [tw_X6_waysOfFall_4]
    by_cases hv : v = 4
    · subst hv
      rw [if_pos (by decide), Nat.sub_self, acF]
      exact ⟨_, rfl⟩
    · rw [if_neg (show ¬ (4 : Int32) ≤ nI v from nI_ge (b := 4) (by omega) (by omega)), tw_isIn hm, Option.bind_some, hR.1 m hm]
      cases hi : inH (k.1 m) with
      | true =>
        rw [if_neg (b1_ne rfl), acF_no _ _ _ (fun j => by unfold faB; rw [hi]; rfl)]
        exact ⟨_, rfl⟩
      | false =>
        obtain ⟨s', e1, e2⟩ := c_rest (w := v) sr hmb h4 (by omega) hm hR hV
        rw [if_pos (by decide), e1, Option.bind_some, show 4 - v = (4 - (v + 1)) + 1 by omega, acF, nI_1]
        unfold faB
        rw [hi]
        unfold inH
        by_cases h : (tiltK tr mb v k).1 m < 100
        · rw [if_pos h, if_neg (by simp [h])]
          have g := ih (v + 1) a s' (by omega) (by omega)
          unfold faB at g
          rw [hi] at g
          exact g
        · rw [if_neg h, if_pos (by simp [h])]
          have g := ih (v + 1) (a ||| bs v) s' (by omega) (by omega)
          unfold faB at g
          rw [hi] at g
          exact g
theorem m_ways {tr : TrS} {mm : Int32} {mk mt : Nat → Int32} {mb m : Nat} {k : KS} (hT : RT tr mb mm mk mt) (hm : m < mb) (hV : VK k) (fl : Bool) : ∀ (n v : Nat) (a : Int32) (now : Nat → Int32) (sm : Int32), v ≤ 4 → 4 - v < n → MR mb 15 now 0 k → ∃ now' sm', tw_X7_waysOf_5 mm mk mt 15 (nI m) (b1 fl) n a (nI v) now sm = some (acF (if fl = true then faB tr mb k m else elB tr mb k m) (4 - v) v a, now', sm') ∧ ∀ i, i < 7 → now' i = now i := by
  intro n
  induction n with
  | zero => intro v a now sm h1 h2; omega
  | succ n ih =>
    intro v a now sm h1 h2 hR
    have h4 := hT.2.2.1
    rw [tw_X7_waysOf_5]
    by_cases hv : v = 4
    · subst hv
      rw [if_pos (by decide), Nat.sub_self, acF]
      exact ⟨_, _, rfl, fun _ _ => rfl⟩
    · obtain ⟨q5, now2, sm2, f1, f2, f3, f4⟩ := m_try (w := v) hT (by omega) hV hR sm
      have hR2 : MR mb 15 now2 0 k := hR.cong (fun i h1 h2 => f4 i (by omega))
      have e1 : now2 (7 + m) = (tiltK tr mb v k).1 m := f3.now hm h4
      have e0 : now2 m = k.1 m := by
        have h9 := hR2.now hm h4
        rw [show 7 * 0 + m = m by omega] at h9
        exact h9
      have no : ∀ z, (∃ now' sm', tw_X7_waysOf_83 mm mk mt 15 (nI m) (b1 fl) (tw_X7_waysOf_5 mm mk mt 15 (nI m) (b1 fl) n) a (nI v) (b1 z) now2 sm2 = some (acF (if fl = true then faB tr mb k m else elB tr mb k m) (4 - (v + 1)) (v + 1) (if z = true then a ||| bs v else a), now', sm') ∧ ∀ i, i < 7 → now' i = now i) := by
        intro z
        rw [tw_X7_waysOf_83, nI_1, or_0]
        cases z with
        | true =>
          obtain ⟨now', sm', g1, g2⟩ := ih (v + 1) (a ||| bs v) now2 sm2 (by omega) (by omega) hR2
          exact ⟨now', sm', g1, fun i hi => (g2 i hi).trans (f4 i hi)⟩
        | false =>
          obtain ⟨now', sm', g1, g2⟩ := ih (v + 1) a now2 sm2 (by omega) (by omega) hR2
          exact ⟨now', sm', g1, fun i hi => (g2 i hi).trans (f4 i hi)⟩
      rw [if_neg (show ¬ (4 : Int32) ≤ nI v from nI_ge (b := 4) (by omega) (by omega)), f1, Option.bind_some, f2, Option.bind_some, show 4 - v = (4 - (v + 1)) + 1 by omega, acF, add7, nI_clamp (show 7 + m < 2 ^ 31 by omega), nI_clamp (show m < 2 ^ 31 by omega)]
      simp only [if_pos (ix_nI (show 7 + m < 14 by omega) (show 14 < 2 ^ 31 by omega)), if_pos (ix_nI (show m < 14 by omega) (show 14 < 2 ^ 31 by omega)), tw_X7_waysOf_56]
      simp only [e1, e0]
      cases fl with
      | false =>
        rw [if_pos (by decide)]
        by_cases h : (tiltK tr mb v k).1 m = k.1 m
        · have g := no false
          rw [if_pos h]
          simp only [Bool.false_eq_true, if_false, elB, h, not_true, decide_false] at g ⊢
          exact g
        · have g := no true
          rw [if_neg h]
          simp only [Bool.false_eq_true, if_false, elB, h, not_false_eq_true, decide_true, if_true] at g ⊢
          exact g
      | true =>
        rw [if_neg (b1_ne rfl)]
        by_cases h : k.1 m < 100
        · rw [if_neg (fun q => absurd h (Int32.not_lt.mpr q))]
          by_cases h2 : (tiltK tr mb v k).1 m < 100
          · have g := no false
            rw [if_pos h2]
            have e : faB tr mb k m v = false := by unfold faB inH; simp [h2]
            simp only [if_true, e, Bool.false_eq_true, if_false] at g ⊢
            exact g
          · have g := no true
            rw [if_neg h2]
            have e : faB tr mb k m v = true := by unfold faB inH; simp [h, h2]
            simp only [if_true, e] at g ⊢
            exact g
        · rw [if_pos (Int32.not_lt.mp h)]
          have g := no false
          have e : faB tr mb k m v = false := by unfold faB inH; simp [h]
          simp only [if_true, e, Bool.false_eq_true, if_false] at g ⊢
          exact g
/-- marble -/
theorem s_marble {tr : TrS} {mb : Nat} {mm : Int32} {mk mt : Nat → Int32} {no : SpS} {now : Nat → Int32} {k : KS} (hT : RT tr mb mm mk mt) (hC : Co tr mb no now 0 k) (sr : SpS) (sm y z : Int32) : ∃ (r : Int32) (sr' : SpS) (now' : Nat → Int32) (sm' : Int32), tw_X6_marble no sr tr y z = some (r, sr') ∧ tw_X7_marble mm mk mt now 15 sm y z = some (r, now', sm') ∧ ∀ i, i < 7 → now' i = now i := by
  obtain ⟨c1, c2, c3, c4, c5⟩ := hC
  have h4 := hT.2.2.1
  rw [tw_X6_marble, tw_X7_marble, tw_hasM hT.1 h4, Option.bind_some, tw_mMarble hT.2.1 h4, Option.bind_some]
  cases hy : ix y mb with
  | false => exact ⟨_, _, _, _, rfl, rfl, fun _ _ => rfl⟩
  | true =>
    obtain ⟨m, hm, rfl⟩ := ix_of hy (by omega)
    have hm4 : m < 4 := by omega
    have en : now m = k.1 m := by
      have h9 := c4.now hm h4
      rw [show 7 * 0 + m = m by omega] at h9
      exact h9
    rw [if_neg (b1_ne rfl), if_neg (b1_ne rfl), if_pos (ix_nI hm4 (by omega)), if_pos (ix_nI hm4 (by omega)), if_pos (ix_nI hm4 (by omega)), if_pos (ix_nI (show m < 14 by omega) (by omega)), nI_clamp (by omega), hT.2.2.2.1 m hm, en, c1.1 m hm4]
    by_cases z0 : z = 0
    · rw [if_pos z0, if_pos z0]; exact ⟨_, _, _, _, rfl, rfl, fun _ _ => rfl⟩
    · rw [if_neg z0, if_neg z0]
      by_cases z1 : z = 1
      · rw [if_pos z1, if_pos z1]; exact ⟨_, _, _, _, rfl, rfl, fun _ _ => rfl⟩
      · rw [if_neg z1, if_neg z1]
        by_cases z2 : z = 2
        · rw [if_pos z2, if_pos z2]
          obtain ⟨sr', e1⟩ := c_else hT.1 h4 hm4 c1 c2 5 0 0 sr (by omega) (by omega)
          obtain ⟨now', sm', f1, f2⟩ := m_ways hT hm c2 false 5 0 0 now sm (by omega) (by omega) c4
          rw [show tw_X6_waysElsewhere no sr tr (nI m) = _ from e1, show tw_X7_waysOf mm mk mt now 15 sm (nI m) 0 = _ from f1]
          exact ⟨_, _, _, _, rfl, rfl, f2⟩
        · rw [if_neg z2, if_neg z2]
          by_cases z3 : z = 3
          · rw [if_pos z3, if_pos z3]
            obtain ⟨sr', e1⟩ := c_fallW hT.1 h4 hm4 c1 c2 5 0 0 sr (by omega) (by omega)
            obtain ⟨now', sm', f1, f2⟩ := m_ways hT hm c2 true 5 0 0 now sm (by omega) (by omega) c4
            rw [show tw_X6_waysOfFall no sr tr (nI m) = _ from e1, show tw_X7_waysOf mm mk mt now 15 sm (nI m) 1 = _ from f1]
            exact ⟨_, _, _, _, rfl, rfl, f2⟩
          · rw [if_neg z3, if_neg z3]; exact ⟨_, _, _, _, rfl, rfl, fun _ _ => rfl⟩
