/-! rows of tilts -/
theorem pw4 : ∀ r, r < 8 → 4 ^ r < 100000 ∧ 0 < 4 ^ r := by decide +kernel
theorem tw_pow4 : ∀ n, n < 7 → tw_X7_power 4 (nI n) = some (nI (4 ^ n)) := by decide +kernel
/-- a row of tilts told by a number in fours; some (bits of fl) fail -/
def rnK (tr : TrS) (mb n F : Nat) (fl : Int32) : Nat → KS → KS
  | 0, k => k
  | r + 1, k => rnK tr mb n F fl r (if bt fl (n - (r + 1)) = true then k else tiltK tr mb (F / 4 ^ r % 4) k)
def runK (tr : TrS) (mb : Nat) : Nat → Nat → KS → KS
  | 0, _, k => k
  | r + 1, F, k => runK tr mb r F (tiltK tr mb (F / 4 ^ r % 4) k)
theorem rn_0 (tr : TrS) (mb n F : Nat) : ∀ r k, rnK tr mb n F 0 r k = runK tr mb r F k
  | 0, _ => rfl
  | r + 1, k => by
    rw [rnK, runK, b_0, if_neg (by decide)]
    exact rn_0 tr mb n F r _
def fgA : Nat → Nat → Nat → Nat
  | 0, _, a => a
  | r + 1, F, a => fgA r F (10 * a + F / 4 ^ r % 4 + 1)
theorem run_cong (tr : TrS) (mb : Nat) : ∀ (r F G : Nat) (k : KS), (∀ s, s < r → F / 4 ^ s % 4 = G / 4 ^ s % 4) → runK tr mb r F k = runK tr mb r G k
  | 0, _, _, _, _ => rfl
  | r + 1, F, G, k, h => by
    rw [runK, runK, h r (by omega)]
    exact run_cong tr mb r F G _ (fun s hs => h s (by omega))
theorem fg_cong : ∀ (r F G a : Nat), (∀ s, s < r → F / 4 ^ s % 4 = G / 4 ^ s % 4) → fgA r F a = fgA r G a
  | 0, _, _, _, _ => rfl
  | r + 1, F, G, a, h => by
    rw [fgA, fgA, h r (by omega)]
    exact fg_cong r F G _ (fun s hs => h s (by omega))
theorem dg_lo {r s : Nat} (h : s < r) (a b : Nat) : (a * 4 ^ r + b) / 4 ^ s % 4 = b / 4 ^ s % 4 := by
  have e : 4 ^ r = 4 ^ s * (4 * 4 ^ (r - s - 1)) := by
    rw [← Nat.pow_succ', ← Nat.pow_add]
    congr 1
    omega
  have hp : 0 < 4 ^ s := Nat.pow_pos (by omega)
  have e2 : a * 4 ^ r + b = 4 ^ s * (4 * (a * 4 ^ (r - s - 1))) + b := by
    rw [e]
    congr 1
    rw [Nat.mul_left_comm a, Nat.mul_left_comm a]
  rw [e2, Nat.mul_add_div hp]
  omega
theorem dg_hi {r w b : Nat} (hw : w < 4) (hb : b < 4 ^ r) : (w * 4 ^ r + b) / 4 ^ r % 4 = w := by
  have hp : 0 < 4 ^ r := Nat.pow_pos (by omega)
  rw [Nat.mul_comm, Nat.mul_add_div hp, Nat.div_eq_of_lt hb]
  omega
theorem run_cons (tr : TrS) (mb r w b : Nat) (k : KS) (hw : w < 4) (hb : b < 4 ^ r) : runK tr mb (r + 1) (w * 4 ^ r + b) k = runK tr mb r b (tiltK tr mb w k) := by
  rw [runK, dg_hi hw hb]
  exact run_cong tr mb r _ _ _ (fun s hs => dg_lo hs w b)
theorem fg_cons (r w b a : Nat) (hw : w < 4) (hb : b < 4 ^ r) : fgA (r + 1) (w * 4 ^ r + b) a = fgA r b (10 * a + w + 1) := by
  rw [fgA, dg_hi hw hb]
  exact fg_cong r _ _ _ (fun s hs => dg_lo hs w b)
theorem dig (F r : Nat) (hF : F < 2 ^ 31) (hr : r < 7) : nI F / nI (4 ^ r) - nI F / nI (4 ^ r) / 4 * 4 = nI (F / 4 ^ r % 4) := by
  have h := pw4 r (by omega)
  rw [pk_div hF h.2 (by omega)]
  exact pk_rem (d := 4) (Nat.lt_of_le_of_lt (Nat.div_le_self _ _) hF) (by omega) (by omega)
theorem tw_fig4 {n F : Nat} (hn : n ≤ 5) (hF : F < 2 ^ 31) : ∀ (f v a : Nat), v ≤ n → n - v < f → tw_X7_figuresOf_4 (nI n) (nI F) f (nI a) (nI v) = some (nI (fgA (n - v) F a)) := by
  intro f
  induction f with
  | zero => intro v a h1 h2; omega
  | succ f ih =>
    intro v a h1 h2
    rw [tw_X7_figuresOf_4]
    by_cases hv : v = n
    · subst hv
      rw [if_pos (nI_le (Nat.le_refl _) (by omega)), Nat.sub_self, fgA]
    · obtain ⟨r, hr⟩ : ∃ r, n - v = r + 1 := ⟨n - v - 1, by omega⟩
      have e1 : (nI n - 1) - nI v = nI r := by
        rw [show nI n - 1 = nI (n - 1) from pk_sub (b := 1) (by omega), pk_sub (by omega)]
        congr 1
        omega
      have h := pw4 r (by omega)
      rw [if_neg (nI_ge (by omega) (by omega)), e1, tw_pow4 r (by omega), Option.bind_some, if_pos (nI_ne0 h.2 (by omega)), dig F r hF (by omega), nI_1, show (10 : Int32) * nI a = nI (10 * a) from pk_mul 10 a, nI_add, nI_1, ih (v + 1) _ (by omega) (by omega), hr, fgA, show n - (v + 1) = r by omega]
theorem tw_fig {n F : Nat} (hn : n ≤ 5) (hF : F < 2 ^ 31) : tw_X7_figuresOf (nI n) (nI F) = some (nI (fgA n F 0)) := tw_fig4 hn hF 7 0 0 (by omega) (by omega)
theorem m_row7 {tr : TrS} {mm : Int32} {mk mt : Nat → Int32} {mb : Nat} {th fl : Int32} {n F : Nat} (hT : RT tr mb mm mk mt) (hn : n ≤ 5) (hF : F < 2 ^ 31) : ∀ (f v : Nat) (k : KS) (now : Nat → Int32) (sm : Int32), v ≤ n → n - v < f → VK k → MR mb th now 1 k → ∃ now' sm', tw_X7_tiltRow_7 mm mk mt th (nI n) (nI F) fl f (nI v) now sm = some (now', sm') ∧ MR mb th now' 1 (rnK tr mb n F fl (n - v) k) ∧ VK (rnK tr mb n F fl (n - v) k) ∧ ∀ i, i < 7 → now' i = now i := by
  intro f
  induction f with
  | zero => intro v k now sm h1 h2; omega
  | succ f ih =>
    intro v k now sm h1 h2 hV hM
    rw [tw_X7_tiltRow_7]
    by_cases hv : v = n
    · subst hv
      rw [if_pos (nI_le (Nat.le_refl _) (by omega)), Nat.sub_self, rnK]
      exact ⟨_, _, rfl, hM, hV, fun _ _ => rfl⟩
    · obtain ⟨r, hr⟩ : ∃ r, n - v = r + 1 := ⟨n - v - 1, by omega⟩
      have e1 : (nI n - 1) - nI v = nI r := by
        rw [show nI n - 1 = nI (n - 1) from pk_sub (b := 1) (by omega), pk_sub (by omega)]
        congr 1
        omega
      have h := pw4 r (by omega)
      rw [if_neg (nI_ge (by omega) (by omega)), tw_has fl v (by omega), Option.bind_some, hr, rnK, show n - (r + 1) = v by omega, nI_1]
      cases hb : bt fl v with
      | true =>
        rw [if_neg (b1_ne rfl), if_pos rfl]
        have g := ih (v + 1) k now sm (by omega) (by omega) hV hM
        rw [show n - (v + 1) = r by omega] at g
        exact g
      | false =>
        rw [if_pos (show b1 false = 0 by decide), if_neg (by decide), e1, tw_pow4 r (by omega), Option.bind_some, if_pos (nI_ne0 h.2 (by omega)), dig F r hF (by omega)]
        obtain ⟨now1, sm1, f1, f2, f3, f4, f5⟩ := m_tilt (b := 1) hT (by omega) (Nat.mod_lt (F / 4 ^ r) (show 0 < 4 by omega)) hV hM sm
        rw [show tw_X7_tiltOn mm mk mt now th sm 1 (nI (F / 4 ^ r % 4)) = _ from f1, Option.bind_some]
        obtain ⟨now', sm', g1, g2, g3, g4⟩ := ih (v + 1) _ now1 sm1 (by omega) (by omega) f3 f2
        rw [show n - (v + 1) = r by omega] at g2 g3
        exact ⟨now', sm', g1, g2, g3, fun i hi => (g4 i hi).trans (f5 i (by omega))⟩
theorem m_row {tr : TrS} {mm : Int32} {mk mt : Nat → Int32} {mb : Nat} {th fl : Int32} {n F : Nat} {k : KS} {now : Nat → Int32} (hT : RT tr mb mm mk mt) (hn : n ≤ 5) (hF : F < 2 ^ 31) (hV : VK k) (hM : MR mb th now 0 k) (sm : Int32) : ∃ now' sm', tw_X7_tiltRow mm mk mt now th sm (nI n) (nI F) fl = some (now', sm') ∧ MR mb th now' 1 (rnK tr mb n F fl n k) ∧ VK (rnK tr mb n F fl n k) ∧ ∀ i, i < 7 → now' i = now i := by
  obtain ⟨q5, e1, e2, e3⟩ := tw_lay now
  obtain ⟨now', sm', g1, g2, g3, g4⟩ := m_row7 (fl := fl) hT hn hF 7 0 k q5 sm (by omega) (by omega) hV (hM.lay e2)
  rw [Nat.sub_zero] at g2 g3
  refine ⟨now', sm', ?_, g2, g3, fun i hi => (g4 i hi).trans (e3 i (by omega))⟩
  rw [tw_X7_tiltRow, e1, Option.bind_some]
  exact g1
theorem m_run {tr : TrS} {mm : Int32} {mk mt : Nat → Int32} {mb : Nat} {th : Int32} {n F : Nat} {k : KS} {now : Nat → Int32} (hT : RT tr mb mm mk mt) (hn : n ≤ 5) (hF : F < 2 ^ 31) (hV : VK k) (hM : MR mb th now 0 k) (sm : Int32) : ∃ now' sm', tw_X7_tiltRow mm mk mt now th sm (nI n) (nI F) 0 = some (now', sm') ∧ MR mb th now' 1 (runK tr mb n F k) ∧ VK (runK tr mb n F k) ∧ ∀ i, i < 7 → now' i = now i := by
  have g := m_row (fl := 0) hT hn hF hV hM sm
  rw [rn_0] at g
  exact g
theorem MR.down {mb : Nat} {th : Int32} {now now' : Nat → Int32} {k : KS} (h : MR mb th now 0 k) (e : ∀ i, i < 7 → now' i = now i) : MR mb th now' 0 k :=
  h.cong (fun i _ hi => e i (by omega))
/-! what a tilt keeps -/
theorem rd_ind {tr : TrS} {w : Nat} (hw : w < 4) {P : KS → Prop} (hs : ∀ (k k' : KS) (st st' : Int32) (m : Nat), m < 4 → VK k → P k → stepK tr w m k st = some (k', st') → P k') : ∀ (n m : Nat) (k : KS) (st : Int32) (wt : Bool), m + n ≤ 4 → VK k → P k → P (rdK tr w n m k st wt).1 ∧ VK (rdK tr w n m k st wt).1
  | 0, _, _, _, _, _, hV, hW => ⟨hW, hV⟩
  | n + 1, m, k, st, wt, h, hV, hW => by
    rw [rdK]
    cases hq : stepK tr w m k st with
    | none => exact rd_ind hw hs n (m + 1) k st wt (by omega) hV hW
    | some q =>
      obtain ⟨k', st'⟩ := q
      exact rd_ind hw hs n (m + 1) k' st' true (by omega) (hV.step (by omega) hw hq) (hs k k' st st' m (by omega) hV hW hq)
theorem it_ind {tr : TrS} {w mb : Nat} (h4 : mb ≤ 4) (hw : w < 4) {P : KS → Prop} (hs : ∀ (k k' : KS) (st st' : Int32) (m : Nat), m < 4 → VK k → P k → stepK tr w m k st = some (k', st') → P k') : ∀ (n : Nat) (k : KS) (st : Int32) (wt : Bool), VK k → P k → P (itK tr w mb n k st wt)
  | 0, _, _, _, _, hW => hW
  | n + 1, k, st, wt, hV, hW => by
    rw [itK]
    split
    · obtain ⟨a, b⟩ := rd_ind hw hs mb 0 k st false (by omega) hV hW
      exact it_ind h4 hw hs n _ _ _ b a
    · exact hW
theorem tilt_ind {tr : TrS} {w mb : Nat} {k : KS} (h4 : mb ≤ 4) (hw : w < 4) {P : KS → Prop} (hs : ∀ (k k' : KS) (st st' : Int32) (m : Nat), m < 4 → VK k → P k → stepK tr w m k st = some (k', st') → P k') (hV : VK k) (h : P k) : P (tiltK tr mb w k) := it_ind h4 hw hs 17 k _ true hV h
/-- a step moves one marble on, or lets it fall -/
theorem step_is {tr : TrS} {w m : Nat} {k k' : KS} {st st' : Int32} (hm : m < 4) (hw : w < 4) (hV : VK k) (h : stepK tr w m k st = some (k', st')) : ∃ c d, c < 25 ∧ d < 25 ∧ k.1 m = nI c ∧ blk tr k d = false ∧ ((opn tr k d = true ∧ k' = faK k m d) ∨ (opn tr k d = false ∧ k' = mvK k m d)) := by
  unfold stepK at h
  by_cases h0 : bt st m = true
  · rw [if_pos h0] at h; cases h
  · rw [if_neg h0] at h
    cases hc : cel (k.1 m) with
    | none => rw [hc] at h; cases h
    | some c =>
      rw [hc] at h
      obtain ⟨hc5, hp⟩ := cel_some hV hm hc
      cases hn : nxt c (dirK tr m w) with
      | none => simp only [hn] at h; cases h
      | some d =>
        simp only [hn] at h
        have hd := nxt_lt hc5 (dirK_lt hw) hn
        by_cases hb : blk tr k d = true
        · rw [if_pos hb] at h; cases h
        · rw [if_neg hb] at h
          by_cases ho : opn tr k d = true
          · rw [if_pos ho] at h
            cases h
            exact ⟨c, d, hc5, hd, hp, by simpa using hb, Or.inl ⟨ho, rfl⟩⟩
          · rw [if_neg ho] at h
            cases h
            exact ⟨c, d, hc5, hd, hp, by simpa using hb, Or.inr ⟨by simpa using ho, rfl⟩⟩
/-- a marble that is on no cell stays -/
theorem tilt_off {tr : TrS} {w mb m : Nat} {k : KS} (h4 : mb ≤ 4) (hw : w < 4) (hm : m < 4) (hV : VK k) (h : cel (k.1 m) = none) : (tiltK tr mb w k).1 m = k.1 m := by
  refine tilt_ind (P := fun q => q.1 m = k.1 m) h4 hw (fun k1 k2 st st' j hj hV1 hP hs => ?_) hV rfl
  obtain ⟨c, d, hc, hd, hp, hb, q⟩ := step_is hj hw hV1 hs
  have hne : m ≠ j := fun z => by
    subst z
    have hP : k1.1 m = k.1 m := hP
    rw [← hP, hp, cel_c c hc] at h
    cases h
  rcases q with ⟨_, rfl⟩ | ⟨_, rfl⟩
  · show upd k1.1 j _ m = _
    rw [pk_un hne]; exact hP
  · show upd k1.1 j _ m = _
    rw [pk_un hne]; exact hP
theorem run_off {tr : TrS} {mb m : Nat} (h4 : mb ≤ 4) (hm : m < 4) : ∀ (r F : Nat) (k : KS), VK k → cel (k.1 m) = none → (runK tr mb r F k).1 m = k.1 m
  | 0, _, _, _, _ => rfl
  | r + 1, F, k, hV, h => by
    have hw : F / 4 ^ r % 4 < 4 := Nat.mod_lt _ (by omega)
    have e := tilt_off (tr := tr) h4 hw hm hV h
    rw [runK, run_off h4 hm r F _ (hV.tilt h4 hw) (by rw [e]; exact h), e]
/-- a tilt by which no marble comes elsewhere changes nothing -/
theorem rd_none {tr : TrS} {w : Nat} (hw : w < 4) : ∀ (n m : Nat) (k : KS) (st : Int32) (wt : Bool), m + n ≤ 4 → VK k → (rdK tr w n m k st wt = (k, st, wt) ∨ mu tr w (rdK tr w n m k st wt).1 < mu tr w k) ∧ mu tr w (rdK tr w n m k st wt).1 ≤ mu tr w k ∧ VK (rdK tr w n m k st wt).1
  | 0, _, _, _, _, _, hV => ⟨Or.inl rfl, Nat.le_refl _, hV⟩
  | n + 1, m, k, st, wt, h, hV => by
    rw [rdK]
    cases hq : stepK tr w m k st with
    | none => exact rd_none hw n (m + 1) k st wt (by omega) hV
    | some q =>
      obtain ⟨k', st'⟩ := q
      obtain ⟨a, b, c⟩ := rd_none (tr := tr) hw n (m + 1) k' st' true (by omega) (hV.step (by omega) hw hq)
      have hm := mu_step (show m < 4 by omega) hw hV hq
      exact ⟨Or.inr (by show mu tr w (rdK tr w n (m + 1) k' st' true).1 < _; omega), by show mu tr w (rdK tr w n (m + 1) k' st' true).1 ≤ _; omega, c⟩
theorem it_none {tr : TrS} {w mb : Nat} (h4 : mb ≤ 4) (hw : w < 4) : ∀ (n : Nat) (k : KS) (st : Int32) (wt : Bool), VK k → itK tr w mb n k st wt = k ∨ mu tr w (itK tr w mb n k st wt) < mu tr w k
  | 0, _, _, _, _ => Or.inl rfl
  | n + 1, k, st, wt, hV => by
    rw [itK]
    split
    · obtain ⟨a, b, c⟩ := rd_none (tr := tr) hw mb 0 k st false (by omega) hV
      rcases a with a | a
      · rw [a]
        exact it_none h4 hw n k st false hV
      · rcases it_none (tr := tr) h4 hw n _ (rdK tr w mb 0 k st false).2.1 (rdK tr w mb 0 k st false).2.2 c with q | q
        · rw [q]; exact Or.inr a
        · exact Or.inr (by omega)
    · exact Or.inl rfl
theorem tilt_same {tr : TrS} {w mb : Nat} {k : KS} (h4 : mb ≤ 4) (hw : w < 4) (hV : VK k) (h : ∀ j, j < 4 → (tiltK tr mb w k).1 j = k.1 j) : tiltK tr mb w k = k := by
  rcases it_none (tr := tr) h4 hw 17 k (saK tr k mb 0 0) true hV with q | q
  · exact q
  · exfalso
    have e : mu tr w (tiltK tr mb w k) = mu tr w k := by
      unfold mu far
      rw [h 0 (by omega), h 1 (by omega), h 2 (by omega), h 3 (by omega)]
    have q : mu tr w (tiltK tr mb w k) < mu tr w k := q
    omega
theorem tw_same {sp sq : SpS} {k k' : KS} (h : CR sp k) (h' : CR sq k') : ∃ b : Bool, tw_X4_hasSamePlaces sp sq = some (b1 b) ∧ (b = true → ∀ j, j < 4 → k.1 j = k'.1 j) ∧ ((∀ j, j < 4 → k.1 j = k'.1 j) → b = true) := by
  rw [tw_X4_hasSamePlaces, t0, t1, t2, t3, h.1 0 (by omega), h.1 1 (by omega), h.1 2 (by omega), h.1 3 (by omega), h'.1 0 (by omega), h'.1 1 (by omega), h'.1 2 (by omega), h'.1 3 (by omega)]
  by_cases q0 : k.1 0 = k'.1 0
  · rw [if_pos q0]
    by_cases q1 : k.1 1 = k'.1 1
    · rw [if_pos q1]
      by_cases q2 : k.1 2 = k'.1 2
      · rw [if_pos q2]
        by_cases q3 : k.1 3 = k'.1 3
        · rw [if_pos q3]
          refine ⟨true, rfl, fun _ j hj => ?_, fun _ => rfl⟩
          rcases (show j = 0 ∨ j = 1 ∨ j = 2 ∨ j = 3 by omega) with rfl | rfl | rfl | rfl
          · exact q0
          · exact q1
          · exact q2
          · exact q3
        · rw [if_neg q3]; exact ⟨false, rfl, fun z => by (cases z), fun z => absurd (z 3 (by omega)) q3⟩
      · rw [if_neg q2]; exact ⟨false, rfl, fun z => by (cases z), fun z => absurd (z 2 (by omega)) q2⟩
    · rw [if_neg q1]; exact ⟨false, rfl, fun z => by (cases z), fun z => absurd (z 1 (by omega)) q1⟩
  · rw [if_neg q0]; exact ⟨false, rfl, fun z => by (cases z), fun z => absurd (z 0 (by omega)) q0⟩
