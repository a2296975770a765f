theorem b1_ne {b : Bool} (h : b = true) : ¬ b1 b = 0 := by rw [h]; decide
theorem c_iter {tr : TrS} {mb w : Nat} (hmb : tr.2.2.2.1 = nI mb) (h4 : mb ≤ 4) (hw : w < 4) :
    ∀ (n rr : Nat) (st : Int32) (wt : Bool) (k : KS) (sp : SpS), rr ≤ 17 → 17 - rr < n → CR sp k → VK k → SK mb k st →
      ∃ sp', tw_X5_roll_12 tr (nI w) n st (b1 wt) (nI rr) sp = some sp' ∧ CR sp' (itK tr w mb (17 - rr) k st wt) ∧ VK (itK tr w mb (17 - rr) k st wt) ∧ sp'.2.2.2.2 = sp.2.2.2.2 := by
  intro n
  induction n with
  | zero => intro rr st wt k sp h1 h2; omega
  | succ n ih =>
    intro rr st wt k sp h1 h2 hR hV hS
    rw [tw_X5_roll_12]
    by_cases h17 : rr = 17
    · subst h17
      rw [if_pos (by decide)]
      exact ⟨sp, rfl, hR, hV, rfl⟩
    · rw [if_neg (show ¬ (17 : Int32) ≤ nI rr from nI_ge (a := rr) (b := 17) (by omega) (by omega)), show 17 - rr = (17 - (rr + 1)) + 1 by omega, itK]
      cases wt with
      | false => exact ⟨sp, rfl, hR, hV, rfl⟩
      | true =>
        rw [if_neg (b1_ne rfl), if_pos rfl]
        obtain ⟨sp1, e1, e2, e3, e4, e5⟩ := c_round hmb h4 hw (tw_X5_roll_12 tr (nI w) n) (nI rr) 5 0 st false k sp (Nat.zero_le _) (by omega) hR hV hS
        rw [Nat.sub_zero] at e1 e2 e3 e4
        obtain ⟨sp2, f1, f2, f3, f4⟩ := ih (rr + 1) _ _ _ sp1 (by omega) (by omega) e2 e3 e4
        refine ⟨sp2, ?_, f2, f3, f4.trans e5⟩
        rw [← f1, ← nI_1, ← e1]
        rfl
theorem c_sa {tr : TrS} {mb : Nat} {sp : SpS} {k : KS} (hmb : tr.2.2.2.1 = nI mb) (h4 : mb ≤ 4) (hR : CR sp k) (hV : VK k) :
    ∀ (n m : Nat) (st : Int32), m ≤ mb → mb - m < n → tw_X5_stoppedAhead_4 tr sp n st (nI m) = some (saK tr k (mb - m) m st) := by
  intro n
  induction n with
  | zero => intro m st h1 h2; omega
  | succ n ih =>
    intro m st h1 h2
    rw [tw_X5_stoppedAhead_4, hmb]
    by_cases hm : m < mb
    · have hi : ix (nI m) 4 = true := ix_nI (by omega) (by omega)
      rw [if_neg (nI_ge hm (by omega)), if_pos hi, nI_clamp (by omega), hR.1 m (by omega), if_pos hi, show mb - m = (mb - (m + 1)) + 1 by omega, saK]
      have e1 := ih (m + 1) (st ||| bs m) (by omega) (by omega)
      have e2 := ih (m + 1) st (by omega) (by omega)
      rw [← nI_1] at e1 e2
      have no : cel (k.1 m) = none → tw_X6_isCell (k.1 m) = some 0 → ((tw_X6_isCell (k.1 m)).bind (fun q3 => if q3 = 0 then (tw_X5_stoppedAhead_51 tr sp (tw_X5_stoppedAhead_4 tr sp n) st (nI m)) else (if (tr.2.1 m) = 1 then ((tw_X6_bitOf tr.2.2.2.2 (k.1 m)).bind (fun q7 => if q7 = 1 then (tw_X5_stoppedAhead_51 tr sp (tw_X5_stoppedAhead_4 tr sp n) st (nI m)) else ((tw_X5_stoppedAhead_4 tr sp n) st (nI m + 1)))) else ((tw_X5_stoppedAhead_4 tr sp n) st (nI m + 1))))) = some (saK tr k (mb - (m + 1)) (m + 1) (if shK tr k m = true then st ||| bs m else st)) := by
        intro a1 a2
        have a3 : shK tr k m = true := by unfold shK; rw [a1]
        rw [a2, a3, if_pos rfl, ← e1]
        rfl
      rcases hV.1 m (by omega) with e | ⟨c, hc, e⟩ | ⟨c, hc, e⟩
      · exact no (by rw [e]; exact cel_m) (by rw [e]; exact isCell_m)
      · have a1 : cel (k.1 m) = some c := by rw [e]; exact cel_c c hc
        rw [e, isCell_c c hc, tw_bitOf _ c (by omega)]
        rw [Option.bind_some, if_neg (by decide)]
        unfold shK
        rw [a1]
        by_cases hk : tr.2.1 m = 1
        · rw [if_pos hk]
          simp only [hk, decide_true, Bool.true_and]
          cases bt tr.2.2.2.2 c with
          | true => rw [if_pos rfl, ← e1]; rfl
          | false => rw [if_neg (by decide), ← e2]; rfl
        · rw [if_neg hk]
          simp only [hk, decide_false, Bool.false_and]
          rw [if_neg (by decide), ← e2]
      · exact no (by rw [e]; exact cel_h c hc) (by rw [e]; exact isCell_h c hc)
    · have e : m = mb := by omega
      subst e
      rw [if_pos (nI_le (Nat.le_refl m) (by omega)), Nat.sub_self, saK]
theorem sa_bits {tr : TrS} {k : KS} : ∀ (n m : Nat) (st : Int32) (j : Nat), m + n ≤ 4 → j < 4 → bt (saK tr k n m st) j = (bt st j || (decide (m ≤ j) && (decide (j < m + n) && shK tr k j)))
  | 0, m, st, j, _, _ => by
    rw [saK]
    by_cases h : m ≤ j
    · have h2 : ¬ j < m := by omega
      simp [h2]
    · simp [h]
  | n + 1, m, st, j, h, hj => by
    rw [saK, sa_bits n (m + 1) _ j (by omega) hj]
    have e : bt (if shK tr k m = true then st ||| bs m else st) j = (bt st j || (decide (j = m) && shK tr k m)) := by
      cases shK tr k m with
      | true => rw [if_pos rfl, bt_set (by omega) hj]; simp
      | false => rw [if_neg (by decide)]; simp
    rw [e]
    by_cases hjm : j = m
    · subst hjm
      have h1 : ¬ j + 1 ≤ j := by omega
      have h2 : j < j + (n + 1) := by omega
      simp [h1, h2]
    · by_cases h1 : m ≤ j
      · have h2 : m + 1 ≤ j := by omega
        have h3 : (decide (j < m + 1 + n)) = (decide (j < m + (n + 1))) := decide_eq_decide.mpr (by omega)
        simp [hjm, h1, h2, h3]
      · have h2 : ¬ m + 1 ≤ j := by omega
        simp [hjm, h1, h2]
theorem sa_SK {tr : TrS} {k : KS} {mb : Nat} (h4 : mb ≤ 4) : SK mb k (saK tr k mb 0 0) := by
  intro j hj hc
  rw [sa_bits mb 0 0 j (by omega) (by omega)]
  have h : shK tr k j = true := by unfold shK; rw [hc]
  simp [h, hj]
/-- the class's tilt -/
theorem c_roll {tr : TrS} {mb w : Nat} {sp : SpS} {k : KS} (hmb : tr.2.2.2.1 = nI mb) (h4 : mb ≤ 4) (hw : w < 4) (hR : CR sp k) (hV : VK k) :
    ∃ sp', tw_X5_roll tr sp (nI w) = some sp' ∧ CR sp' (tiltK tr mb w k) ∧ VK (tiltK tr mb w k) ∧ sp'.2.2.2.2 = sp.2.2.2.2 := by
  obtain ⟨sp', e1, e2⟩ := c_iter hmb h4 hw 18 0 (saK tr k mb 0 0) true k sp (by omega) (by omega) hR hV (sa_SK h4)
  refine ⟨sp', ?_, e2⟩
  have e3 := c_sa hmb h4 hR hV 5 0 0 (Nat.zero_le _) (by omega)
  rw [tw_X5_roll, tw_X5_stoppedAhead]
  rw [show tw_X5_stoppedAhead_4 tr sp 5 0 0 = some (saK tr k mb 0 0) from e3, ← e1]
  rfl
/-! how far a marble can go: rounds come to an end -/
def rem (c w : Nat) : Nat := match w with
  | 0 => c % 5
  | 1 => 4 - c % 5
  | 2 => c / 5
  | _ => 4 - c / 5
theorem rem_all : ∀ c, c < 25 → ∀ w, w < 4 → ((nxt c w).all (fun d => decide (rem d w + 1 = rem c w))) = true := by decide +kernel
theorem rem_le : ∀ c, c < 25 → ∀ w, w < 4 → rem c w ≤ 4 := by decide +kernel
theorem rem_nxt {c w d : Nat} (hc : c < 25) (hw : w < 4) (h : nxt c w = some d) : rem d w + 1 = rem c w := by
  have h1 := rem_all c hc w hw
  rw [h] at h1
  exact of_decide_eq_true h1
def far (tr : TrS) (w : Nat) (k : KS) (j : Nat) : Nat := match cel (k.1 j) with
  | none => 0
  | some c => rem c (dirK tr j w)
def mu (tr : TrS) (w : Nat) (k : KS) : Nat := far tr w k 0 + far tr w k 1 + far tr w k 2 + far tr w k 3
theorem far_le {tr : TrS} {w j : Nat} {k : KS} (hV : VK k) (hw : w < 4) (hj : j < 4) : far tr w k j ≤ 4 := by
  unfold far
  cases hc : cel (k.1 j) with
  | none => exact Nat.zero_le _
  | some c => exact rem_le c (cel_some hV hj hc).1 _ (dirK_lt hw)
theorem mu_le {tr : TrS} {w : Nat} {k : KS} (hV : VK k) (hw : w < 4) : mu tr w k ≤ 16 := by
  unfold mu
  have h0 := far_le (tr := tr) hV hw (show 0 < 4 by omega)
  have h1 := far_le (tr := tr) hV hw (show 1 < 4 by omega)
  have h2 := far_le (tr := tr) hV hw (show 2 < 4 by omega)
  have h3 := far_le (tr := tr) hV hw (show 3 < 4 by omega)
  omega
theorem mu_upd {tr : TrS} {w m : Nat} {k k' : KS} (hm : m < 4) (ho : ∀ j, j ≠ m → k'.1 j = k.1 j) (h : far tr w k' m < far tr w k m) : mu tr w k' < mu tr w k := by
  have hf : ∀ j, j ≠ m → far tr w k' j = far tr w k j := fun j hj => by unfold far; rw [ho j hj]
  unfold mu
  rcases (show m = 0 ∨ m = 1 ∨ m = 2 ∨ m = 3 by omega) with rfl | rfl | rfl | rfl
  · rw [hf 1 (by omega), hf 2 (by omega), hf 3 (by omega)]; omega
  · rw [hf 0 (by omega), hf 2 (by omega), hf 3 (by omega)]; omega
  · rw [hf 0 (by omega), hf 1 (by omega), hf 3 (by omega)]; omega
  · rw [hf 0 (by omega), hf 1 (by omega), hf 2 (by omega)]; omega
theorem mu_step {tr : TrS} {w m : Nat} {k k' : KS} {st st' : Int32} (hm : m < 4) (hw : w < 4) (hV : VK k) (h : stepK tr w m k st = some (k', st')) : mu tr w k' < mu tr w k := by
  unfold stepK at h
  by_cases h0 : bt st m = true
  · rw [if_pos h0] at h; cases h
  · rw [if_neg h0] at h
    cases hc : cel (k.1 m) with
    | none => rw [hc] at h; cases h
    | some c =>
      rw [hc] at h
      obtain ⟨hc5, hp⟩ := cel_some hV hm hc
      cases hn : nxt c (dirK tr m w) with
      | none => simp only [hn] at h; cases h
      | some d =>
        simp only [hn] at h
        have hd := nxt_lt hc5 (dirK_lt hw) hn
        have hr := rem_nxt hc5 (dirK_lt hw) hn
        by_cases hb : blk tr k d = true
        · rw [if_pos hb] at h; cases h
        · rw [if_neg hb] at h
          have f0 : far tr w k m = rem c (dirK tr m w) := by unfold far; rw [hc]
          by_cases ho : opn tr k d = true
          · rw [if_pos ho] at h
            cases h
            refine mu_upd hm (fun j hj => pk_un hj) ?_
            have f1 : far tr w (faK k m d) m = 0 := by
              unfold far
              rw [show (faK k m d).1 m = nI (100 + d) from pk_us, cel_h d hd]
            omega
          · rw [if_neg ho] at h
            cases h
            refine mu_upd hm (fun j hj => pk_un hj) ?_
            have f1 : far tr w (mvK k m d) m = rem d (dirK tr m w) := by
              unfold far
              rw [show (mvK k m d).1 m = nI d from pk_us, cel_c d hd]
            omega
theorem rd_ok {tr : TrS} {w mb : Nat} (h4 : mb ≤ 4) (hw : w < 4) : ∀ (n m : Nat) (k : KS) (st : Int32) (wt : Bool), m + n ≤ mb → VK k → SK mb k st →
    VK (rdK tr w n m k st wt).1 ∧ SK mb (rdK tr w n m k st wt).1 (rdK tr w n m k st wt).2.1 ∧ mu tr w (rdK tr w n m k st wt).1 ≤ mu tr w k ∧ (wt = true → (rdK tr w n m k st wt).2.2 = true) ∧ ((rdK tr w n m k st wt).2.2 = true → wt = true ∨ mu tr w (rdK tr w n m k st wt).1 < mu tr w k)
  | 0, m, k, st, wt, _, hV, hS => ⟨hV, hS, Nat.le_refl _, fun h => h, fun h => Or.inl h⟩
  | n + 1, m, k, st, wt, h, hV, hS => by
    rw [rdK]
    cases hs : stepK tr w m k st with
    | none => exact rd_ok h4 hw n (m + 1) k st wt (by omega) hV hS
    | some q =>
      obtain ⟨k', st'⟩ := q
      have hV' := hV.step (show m < 4 by omega) hw hs
      have hS' := SK.step h4 (show m < mb by omega) hw hV hS hs
      have hm := mu_step (show m < 4 by omega) hw hV hs
      obtain ⟨a1, a2, a3, a4, a5⟩ := rd_ok (tr := tr) h4 hw n (m + 1) k' st' true (by omega) hV' hS'
      exact ⟨a1, a2, by show mu tr w (rdK tr w n (m + 1) k' st' true).1 ≤ _; omega, fun _ => a4 rfl, fun _ => Or.inr (by show mu tr w (rdK tr w n (m + 1) k' st' true).1 < _; omega)⟩
theorem it_more {tr : TrS} {w mb : Nat} (h4 : mb ≤ 4) (hw : w < 4) : ∀ (n : Nat) (k : KS) (st : Int32) (wt : Bool), VK k → SK mb k st → (wt = true → mu tr w k < n) → itK tr w mb n k st wt = itK tr w mb (n + 1) k st wt
  | 0, k, st, wt, _, _, h => by
    cases wt with
    | true => exact absurd (h rfl) (by omega)
    | false => rfl
  | n + 1, k, st, wt, hV, hS, h => by
    rw [itK, itK]
    cases wt with
    | false => rfl
    | true =>
      rw [if_pos rfl, if_pos rfl]
      obtain ⟨a1, a2, a3, a4, a5⟩ := rd_ok (tr := tr) h4 hw mb 0 k st false (by omega) hV hS
      refine it_more h4 hw n _ _ _ a1 a2 (fun q => ?_)
      have h1 := h rfl
      rcases a5 q with z | z
      · cases z
      · omega
