theorem or_xor {x : Int32} {c : Nat} (hc : c < 32) (h : bt x c = false) : x ||| bs c = x ^^^ bs c := by
  apply b_ext
  intro i hi
  unfold bs
  rw [b_set x c hc hi, b_flip x c hc hi]
  by_cases q : i = c
  · subst q; rw [h]; simp
  · simp [q]
def svB (tr : TrS) (k : KS) (c : Nat) : Bool := !bt k.2.2 c && decide (wrK tr k c = 0)
def svF (tr : TrS) (mb w m : Nat) (k : KS) : Nat → Nat → Int32
  | 0, _ => -9
  | n + 1, v => if (svB tr k v && !inH ((tiltK tr mb w (weK k v)).1 m)) = true then nI v else svF tr mb w m k n (v + 1)
theorem svF_no {tr : TrS} {mb w m : Nat} {k : KS} (h : ∀ v, svB tr k v = false) : ∀ n v, svF tr mb w m k n v = -9
  | 0, _ => rfl
  | n + 1, v => by rw [svF, h v, Bool.false_and, if_neg (by decide), svF_no h n (v + 1)]
theorem sv_ok {tr : TrS} {k : KS} {c : Nat} (h : svB tr k c = true) : bt k.2.2 c = false ∧ wrK tr k c = 0 := by
  unfold svB at h
  simp only [Bool.and_eq_true, Bool.not_eq_true', decide_eq_true_eq] at h
  exact h
theorem c_save {tr : TrS} {mb w m : Nat} {no : SpS} {k : KS} (hmb : tr.2.2.2.1 = nI mb) (h4 : mb ≤ 4) (hw : w < 4) (hm : m < 4) (hR : CR no k) (hV : VK k) (hW : WK tr k) : ∀ (n v : Nat) (sr : SpS), v ≤ 25 → 25 - v < n → ∃ sr', tw_X6_leastSaving_2 no tr (nI m) (nI w) n (nI v) sr = some (svF tr mb w m k (25 - v) v, sr') := by
  intro n
  induction n with
  | zero => intro v sr h1 h2; omega
  | succ n ih =>
    intro v sr h1 h2
    rw [tw_X6_leastSaving_2]
    by_cases hv : v = 25
    · subst hv
      rw [if_pos (by decide), Nat.sub_self, svF]
      exact ⟨_, rfl⟩
    · rw [if_neg (show ¬ (25 : Int32) ≤ nI v from nI_ge (b := 25) (by omega) (by omega)), tw_bitOf _ v (by omega), Option.bind_some, hR.2.2.1, tw_refusal hR hW (by omega), Option.bind_some, show 25 - v = (25 - (v + 1)) + 1 by omega, svF, nI_1]
      have skip : ∀ sr1, svB tr k v = false → ∃ sr', tw_X6_leastSaving_2 no tr (nI m) (nI w) n (nI (v + 1)) sr1 = some (if (svB tr k v && !inH ((tiltK tr mb w (weK k v)).1 m)) = true then nI v else svF tr mb w m k (25 - (v + 1)) (v + 1), sr') := by
        intro sr1 q
        rw [q, Bool.false_and, if_neg (by decide)]
        exact ih (v + 1) sr1 (by omega) (by omega)
      cases hb : bt k.2.2 v with
      | true =>
        rw [if_neg (b1_ne rfl)]
        exact skip sr (by unfold svB; rw [hb]; rfl)
      | false =>
        rw [if_pos (by decide)]
        by_cases hz : wrK tr k v = 0
        · rw [if_pos hz]
          obtain ⟨s1, e1, e2, e3⟩ := tw_take sr no
          have hR1 : CR (s1.1, s1.2.1, s1.2.2.1, s1.2.2.2.1 ||| (1 <<< (nI v &&& 31)), s1.2.2.2.2) (weK k v) := by
            have h9 := (hR.take e2 e3).wedge v
            have e4 : s1.2.2.2.1 = k.2.2 := (hR.take e2 e3).2.2.1
            have e5 : s1.2.2.2.1 ||| (1 <<< (nI v &&& 31)) = s1.2.2.2.1 ^^^ bs v := by
              rw [e4]
              exact or_xor (by omega) hb
            rw [e5]
            exact h9
          obtain ⟨s2, f1, f2, f3, f4⟩ := c_roll hmb h4 hw hR1 (show VK (weK k v) from hV)
          rw [e1, Option.bind_some, f1, Option.bind_some, tw_isIn hm, Option.bind_some, f2.1 m hm]
          have hs : svB tr k v = true := by unfold svB; rw [hb, decide_eq_true hz]; rfl
          rw [hs, Bool.true_and]
          cases inH ((tiltK tr mb w (weK k v)).1 m) with
          | false => exact ⟨_, rfl⟩
          | true =>
            rw [if_neg (b1_ne rfl)]
            exact ih (v + 1) s2 (by omega) (by omega)
        · rw [if_neg hz]
          exact skip sr (by unfold svB; rw [decide_eq_false hz, Bool.and_false])
theorem m_save {tr : TrS} {mm : Int32} {mk mt : Nat → Int32} {mb w m : Nat} {k : KS} (hT : RT tr mb mm mk mt) (hw : w < 4) (hm : m < mb) (hV : VK k) (hW : WK tr k) : ∀ (n v : Nat) (now : Nat → Int32) (sm : Int32), v ≤ 25 → 25 - v < n → MR mb 15 now 0 k → ∃ now' sm', tw_X7_saves_69 mm mk mt 15 (nI m) (nI w) n (nI v) now sm = some (svF tr mb w m k (25 - v) v, now', sm') ∧ ∀ i, i < 7 → now' i = now i := by
  intro n
  induction n with
  | zero => intro v now sm h1 h2; omega
  | succ n ih =>
    intro v now sm h1 h2 hR
    have h4 := hT.2.2.1
    have hp3 := hW.2.2
    rw [tw_X7_saves_69]
    by_cases hv : v = 25
    · subst hv
      rw [if_pos (by decide), Nat.sub_self, svF]
      exact ⟨_, _, rfl, fun _ _ => rfl⟩
    · have h5 : now 5 = k.2.2 := hR.2.2.1.symm
      rw [if_neg (show ¬ (25 : Int32) ≤ nI v from nI_ge (b := 25) (by omega) (by omega)), t5, h5, tw_ones, Option.bind_some]
      by_cases hp : pop k.2.2 < 3
      · rw [if_neg (show ¬ (3 : Int32) ≤ nI (pop k.2.2) from nI_ge (b := 3) hp (by omega)), tw_has _ v (by omega), Option.bind_some, show tw_X7_canWedge mm mt now 15 0 (nI v) = _ from tw_canWedge (b := 0) hT (by omega) (by omega) hR, Option.bind_some, show 25 - v = (25 - (v + 1)) + 1 by omega, svF, nI_1]
        have skip : svB tr k v = false → ∃ now' sm', tw_X7_saves_69 mm mk mt 15 (nI m) (nI w) n (nI (v + 1)) now sm = some (if (svB tr k v && !inH ((tiltK tr mb w (weK k v)).1 m)) = true then nI v else svF tr mb w m k (25 - (v + 1)) (v + 1), now', sm') ∧ ∀ i, i < 7 → now' i = now i := by
          intro q
          rw [q, Bool.false_and, if_neg (by decide)]
          exact ih (v + 1) now sm (by omega) (by omega) hR
        cases hb : bt k.2.2 v with
        | true =>
          rw [if_neg (b1_ne rfl)]
          exact skip (by unfold svB; rw [hb]; rfl)
        | false =>
          rw [if_pos (by decide)]
          cases hpo : (plB tr v && !occ k.1 v) with
          | false =>
            rw [if_pos (by decide)]
            exact skip (by unfold svB wrK; rw [hpo]; simp)
          | true =>
            rw [if_neg (b1_ne rfl)]
            obtain ⟨q8, e1, e2, e3⟩ := tw_lay now
            have hR8 := (hR.lay e2).wedge v
            have e12 : q8 12 = k.2.2 := (hR.lay e2).2.2.1.symm
            have ex : upd q8 12 (q8 12 ||| (1 <<< (nI v &&& 31))) = upd q8 (7 * 1 + 5) (q8 (7 * 1 + 5) ^^^ bs v) := by
              show upd q8 12 (q8 12 ||| bs v) = upd q8 12 (q8 12 ^^^ bs v)
              rw [e12, or_xor (by omega) hb]
            obtain ⟨now2, sm2, f1, f2, f3, f4, f5⟩ := m_tilt (b := 1) hT (by omega) hw (show VK (weK k v) from hV) hR8 sm
            have hn2 : ∀ i, i < 7 → now2 i = now i := fun i hi => by rw [f5 i (by omega), pk_un (by omega), e3 i (by omega)]
            have e7 : now2 (7 + m) = (tiltK tr mb w (weK k v)).1 m := f2.now hm h4
            rw [e1, Option.bind_some, t12, ex, show tw_X7_tiltOn mm mk mt (upd q8 (7 * 1 + 5) (q8 (7 * 1 + 5) ^^^ bs v)) 15 sm 1 (nI w) = _ from f1, Option.bind_some, add7, if_pos (ix_nI (by omega) (by omega)), nI_clamp (by omega)]
            have hs : svB tr k v = true := by
              unfold svB wrK
              rw [hb, hpo, if_pos rfl, if_pos (Or.inr hp)]
              rfl
            rw [hs, Bool.true_and]
            dsimp only
            simp only [e7]
            unfold inH
            by_cases hz : (tiltK tr mb w (weK k v)).1 m < 100
            · rw [if_neg (fun q => absurd hz (Int32.not_lt.mpr q)), if_pos (by simp [hz])]
              exact ⟨_, _, rfl, hn2⟩
            · rw [if_pos (Int32.not_lt.mp hz), if_neg (by simp [hz])]
              obtain ⟨now', sm', g1, g2⟩ := ih (v + 1) now2 sm2 (by omega) (by omega) (hR.cong (fun i h1 h2 => hn2 i (by omega)))
              exact ⟨now', sm', g1, fun i hi => (g2 i hi).trans (hn2 i hi)⟩
      · rw [if_pos (show (3 : Int32) ≤ nI (pop k.2.2) from nI_le (a := 3) (by omega) (by omega)), svF_no (fun c => ?_)]
        · exact ⟨_, _, rfl, fun _ _ => rfl⟩
        · unfold svB wrK
          cases bt k.2.2 c with
          | true => rfl
          | false =>
            split
            · rw [if_neg (by simp [hp])]; rfl
            · rfl
/-- saves -/
theorem s_saves {tr : TrS} {mb : Nat} {mm : Int32} {mk mt : Nat → Int32} {no : SpS} {now : Nat → Int32} {k : KS} (hT : RT tr mb mm mk mt) (hC : Co tr mb no now 0 k) (sr : SpS) (sm y z : Int32) : ∃ (r : Int32) (sr' : SpS) (now' : Nat → Int32) (sm' : Int32), tw_X6_saves no sr tr y z = some (r, sr') ∧ tw_X7_saves mm mk mt now 15 sm y z = some (r, now', sm') ∧ ∀ i, i < 7 → now' i = now i := by
  obtain ⟨c1, c2, c3, c4, c5⟩ := hC
  have h4 := hT.2.2.1
  rw [tw_X6_saves, tw_X7_saves, tw_hasM hT.1 h4, Option.bind_some, tw_mMarble hT.2.1 h4, Option.bind_some, tw_isWay, Option.bind_some, tw_in z 4 3 (by decide), Option.bind_some]
  cases hy : ix y mb with
  | false => exact ⟨_, _, _, _, rfl, rfl, fun _ _ => rfl⟩
  | true =>
    cases hz : ix z 4 with
    | false => exact ⟨_, _, _, _, rfl, rfl, fun _ _ => rfl⟩
    | true =>
      obtain ⟨m, hm, rfl⟩ := ix_of hy (by omega)
      obtain ⟨w, hw, rfl⟩ := ix_of hz (by omega)
      have hm4 : m < 4 := by omega
      have en : now m = k.1 m := by
        have h9 := c4.now hm h4
        rw [show 7 * 0 + m = m by omega] at h9
        exact h9
      rw [if_neg (b1_ne rfl), if_neg (b1_ne rfl), if_neg (b1_ne rfl), if_neg (b1_ne rfl), tw_isIn hm4, Option.bind_some, if_pos (ix_nI (show m < 14 by omega) (by omega)), nI_clamp (by omega), en, c1.1 m hm4]
      unfold inH
      by_cases hi : k.1 m < 100
      · rw [if_pos hi, if_pos (by simp [hi, b1])]
        obtain ⟨s', e1, e2⟩ := c_rest sr hT.1 h4 hw hm4 c1 c2
        obtain ⟨q5, now2, sm2, f1, f2, f3, f4⟩ := m_try hT hw c2 c4 sm
        have e3 : now2 (7 + m) = (tiltK tr mb w k).1 m := f3.now hm h4
        rw [e1, Option.bind_some, f1, Option.bind_some, f2, Option.bind_some, add7, if_pos (ix_nI (by omega) (by omega)), nI_clamp (by omega)]
        dsimp only
        simp only [e3]
        by_cases hq : 100 ≤ (tiltK tr mb w k).1 m
        · rw [if_pos hq, if_pos hq]
          obtain ⟨sr', g1⟩ := c_save hT.1 h4 hw hm4 c1 c2 c3 26 0 s' (by omega) (by omega)
          obtain ⟨now', sm', g2, g3⟩ := m_save hT hw hm c2 c3 26 0 now2 sm2 (by omega) (by omega) (c4.cong (fun i h1 h2 => f4 i (by omega)))
          rw [show tw_X6_leastSaving no s' tr (nI m) (nI w) = _ from g1, show tw_X7_saves_69 mm mk mt 15 (nI m) (nI w) 26 0 now2 sm2 = _ from g2, Option.bind_some]
          exact ⟨_, _, _, _, rfl, rfl, fun i hi => (g3 i hi).trans (f4 i hi)⟩
        · rw [if_neg hq, if_neg hq]
          exact ⟨_, _, _, _, rfl, rfl, f4⟩
      · rw [if_neg hi, if_neg (by simp [hi, b1])]
        exact ⟨_, _, _, _, rfl, rfl, fun _ _ => rfl⟩
/-! count -/
def lyF (f : Nat → Int32) : Nat → Nat → Int32 → Int32
  | 0, _, a => a
  | n + 1, m, a => lyF f n (m + 1) (match cel (f m) with
    | none => a
    | some c => a ||| bs c)
def ocF (f : Nat → Int32) (e : Nat) : Nat → Nat → Bool
  | 0, _ => false
  | n + 1, m => decide (cel (f m) = some e) || ocF f e n (m + 1)
theorem ly_bits {k : KS} (hV : VK k) {e : Nat} (he : e < 32) : ∀ (n m : Nat) (a : Int32), m + n ≤ 4 → bt (lyF k.1 n m a) e = (bt a e || ocF k.1 e n m)
  | 0, _, a, _ => by rw [lyF, ocF, Bool.or_false]
  | n + 1, m, a, h => by
    rw [lyF, ocF, ly_bits hV he n (m + 1) _ (by omega)]
    cases hc : cel (k.1 m) with
    | none => simp
    | some c =>
      obtain ⟨hc5, -⟩ := cel_some hV (by omega) hc
      show (bt (a ||| bs c) e || _) = _
      unfold bs
      rw [b_set a c (by omega) he]
      have e1 : decide (some c = some e) = decide (e = c) := decide_eq_decide.mpr ⟨fun q => (Option.some.inj q).symm, fun q => by rw [q]⟩
      rw [e1, Bool.or_assoc]
theorem oc_occ {k : KS} (hV : VK k) (e : Nat) : ocF k.1 e 4 0 = (decide (e < 25) && occ k.1 e) := by
  have h : ∀ j, j < 4 → decide (cel (k.1 j) = some e) = (decide (e < 25) && decide (k.1 j = nI e)) := by
    intro j hj
    by_cases he : e < 25
    · rw [decide_eq_true he, Bool.true_and]
      apply decide_eq_decide.mpr
      exact ⟨fun q => (cel_some hV hj q).2, fun q => by rw [q]; exact cel_c e he⟩
    · rw [decide_eq_false he, Bool.false_and]
      exact decide_eq_false (fun q => he (cel_some hV hj q).1)
  simp only [ocF]
  rw [h 0 (by omega), h (0 + 1) (by omega), h (0 + 1 + 1) (by omega), h (0 + 1 + 1 + 1) (by omega)]
  unfold occ
  cases decide (e < 25) <;> simp
theorem m_ly {mm : Int32} {mb : Nat} {now : Nat → Int32} {k : KS} (hmm : mm = nI mb) (h4 : mb ≤ 4) (hV : VK k) (hR : MR mb 15 now 0 k) : ∀ (n m : Nat) (a : Int32), m ≤ mb → mb - m < n → tw_X7_lying_4 mm now n a (nI m) = some (lyF k.1 (mb - m) m a) := by
  intro n
  induction n with
  | zero => intro m a h1 h2; omega
  | succ n ih =>
    intro m a h1 h2
    rw [tw_X7_lying_4, hmm]
    by_cases hm : m < mb
    · have en : now m = k.1 m := by
        have h9 := hR.now hm h4
        rw [show 7 * 0 + m = m by omega] at h9
        exact h9
      rw [if_neg (nI_ge hm (by omega)), if_pos (ix_nI (by omega) (by omega)), if_pos (ix_nI (by omega) (by omega)), nI_clamp (by omega), en, nI_1, or_0, show mb - m = (mb - (m + 1)) + 1 by omega, lyF, ← hmm]
      rcases hV.1 m (by omega) with q | ⟨c, hc, q⟩ | ⟨c, hc, q⟩
      · exact absurd q (hR.2.2.2 m hm (b15 m (by omega)))
      · rw [q, if_neg (fun z => absurd (lt100 c hc) (Int32.not_lt.mpr z)), cel_c c hc]
        exact ih (m + 1) _ (by omega) (by omega)
      · rw [q, if_pos (Int32.not_lt.mp (nlt100 c hc)), cel_h c hc]
        exact ih (m + 1) _ (by omega) (by omega)
    · have e : m = mb := by omega
      subst e
      rw [if_pos (nI_le (Nat.le_refl m) (by omega)), Nat.sub_self, lyF]
theorem ly_end {k : KS} {mb : Nat} (h : ∀ j, mb ≤ j → j < 4 → k.1 j = -1) : ∀ (n m : Nat) (a : Int32), mb ≤ m → m + n ≤ 4 → lyF k.1 n m a = a
  | 0, _, _, _, _ => rfl
  | n + 1, m, a, h1, h2 => by
    rw [lyF, h m h1 (by omega), cel_m]
    exact ly_end h n (m + 1) a (by omega) (by omega)
theorem ly_app {k : KS} : ∀ (n e m : Nat) (a : Int32), lyF k.1 (n + e) m a = lyF k.1 e (m + n) (lyF k.1 n m a)
  | 0, e, m, a => by rw [Nat.zero_add, lyF, Nat.add_zero]
  | n + 1, e, m, a => by
    rw [show n + 1 + e = (n + e) + 1 by omega, lyF, ly_app n e (m + 1), lyF, show m + 1 + n = m + (n + 1) by omega]
theorem ite_s {α : Type} {c : Prop} [Decidable c] {a : α} {B : Option α} (h : ∃ r, B = some r) : ∃ r, (if c then some a else B) = some r := by
  by_cases hc : c
  · exact ⟨a, if_pos hc⟩
  · rw [if_neg hc]; exact h
theorem both {α : Type} {E : Option α} (h : ∃ r, E = some r) : ∃ r, E = some r ∧ E = some r := by
  obtain ⟨r, h⟩ := h
  exact ⟨r, h, h⟩
theorem s_count {tr : TrS} {mb : Nat} {mm : Int32} {mk mt : Nat → Int32} {no : SpS} {now : Nat → Int32} {k : KS} {le ml acn ma sn ms : Int32} (hT : RT tr mb mm mk mt) (hC : Co tr mb no now 0 k) (h1 : le = ml) (h2 : acn = ma) (h3 : sn = ms) (y : Int32) : ∃ r, tw_X6_count no acn sn tr le y = some r ∧ tw_X7_count mm mt now ml ma ms y = some r := by
  obtain ⟨c1, c2, c3, c4, c5⟩ := hC
  have h4 := hT.2.2.1
  have el : tw_X7_lying mm now = some no.2.1 := by
    have e := m_ly hT.2.1 h4 c2 c4 6 0 0 (Nat.zero_le _) (by omega)
    rw [Nat.sub_zero] at e
    have e2 : lyF k.1 mb 0 0 = no.2.1 := by
      have e3 := ly_app (k := k) mb (4 - mb) 0 0
      have e4 := ly_end (k := k) (mb := mb) (fun j a b => c4.away a b) (4 - mb) (0 + mb) (lyF k.1 mb 0 0) (by omega) (by omega)
      rw [show mb + (4 - mb) = 4 by omega, e4] at e3
      rw [← e3]
      apply b_ext
      intro i hi
      rw [ly_bits c2 hi 4 0 0 (by omega), b_0, Bool.false_or, oc_occ c2, c1.2.2.2 i hi]
    rw [← e2]
    exact e
  rw [tw_X6_count, tw_X7_count, el, Option.bind_some, h1, h2, h3, hT.1, hT.2.1, t0, t1, t2, t3, t4, t5, t6, hT.2.2.2.2.1, hT.2.2.2.2.2.1, hT.2.2.2.2.2.2.1, hT.2.2.2.2.2.2.2.1, c1.2.1, c1.2.2.1, c5, show now 4 = k.2.1 from c4.2.1.symm, show now 5 = k.2.2 from c4.2.2.1.symm, show now (7 * 0 + 6) = now 6 from rfl]
  exact both (ite_s (ite_s (ite_s (ite_s (ite_s (ite_s (ite_s (ite_s (ite_s (ite_s (ite_s (ite_s ⟨_, rfl⟩))))))))))))
