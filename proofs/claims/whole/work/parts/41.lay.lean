theorem t7 : (7 : Int32).toNatClampNeg = 7 := by decide
theorem t8 : (8 : Int32).toNatClampNeg = 8 := by decide
theorem t9 : (9 : Int32).toNatClampNeg = 9 := by decide
theorem t10 : (10 : Int32).toNatClampNeg = 10 := by decide
theorem t11 : (11 : Int32).toNatClampNeg = 11 := by decide
theorem t12 : (12 : Int32).toNatClampNeg = 12 := by decide
theorem t13 : (13 : Int32).toNatClampNeg = 13 := by decide
theorem tw_lay (now : Nat → Int32) : ∃ now', tw_X7_layTrial now = some now' ∧ (∀ j, j < 7 → now' (7 + j) = now j) ∧ ∀ i, (i < 7 ∨ 14 ≤ i) → now' i = now i := by
  refine ⟨fun i => if 7 ≤ i ∧ i < 14 then now (i - 7) else now i, ?_, fun j hj => ?_, fun i hi => ?_⟩
  · rw [tw_X7_layTrial]
    simp only [t0, t1, t2, t3, t4, t5, t6, t7, t8, t9, t10, t11, t12, t13]
    congr 1
    funext i
    simp only [upd]
    by_cases h : 7 ≤ i ∧ i < 14
    · rw [if_pos h]
      rcases (show i = 7 ∨ i = 8 ∨ i = 9 ∨ i = 10 ∨ i = 11 ∨ i = 12 ∨ i = 13 by omega) with rfl | rfl | rfl | rfl | rfl | rfl | rfl <;> simp
    · rw [if_neg h, if_neg (by omega), if_neg (by omega), if_neg (by omega), if_neg (by omega), if_neg (by omega), if_neg (by omega), if_neg (by omega)]
  · show (if 7 ≤ 7 + j ∧ 7 + j < 14 then now (7 + j - 7) else now (7 + j)) = now j
    rw [if_pos (by omega), show 7 + j - 7 = j by omega]
  · show (if 7 ≤ i ∧ i < 14 then now (i - 7) else now i) = now i
    rw [if_neg (by omega)]
theorem b15 : ∀ j, j < 4 → bt 15 j = true := by decide +kernel
/-- cells with nothing told but marbles -/
def plB (tr : TrS) (c : Nat) : Bool := !(bt (tr.1 1) c || (bt (tr.1 2) c || (bt (tr.1 3) c || bt (tr.1 4) c)))
def popF (x : Int32) : Nat → Nat
  | 0 => 0
  | n + 1 => popF x n + (if bt x n = true then 1 else 0)
/-- how many cells -/
def pop (x : Int32) : Nat := popF x 25
/-- what is wedged: plain cells, nobody there, three at most -/
def WK (tr : TrS) (k : KS) : Prop := (∀ c, c < 25 → bt k.2.2 c = true → plB tr c = true ∧ occ k.1 c = false) ∧ (∀ c, 25 ≤ c → bt k.2.2 c = false) ∧ pop k.2.2 ≤ 3
/-- spot and block hold the same k -/
def Co (tr : TrS) (mb : Nat) (sp : SpS) (f : Nat → Int32) (b : Nat) (k : KS) : Prop := CR sp k ∧ VK k ∧ WK tr k ∧ MR mb 15 f b k ∧ sp.2.2.2.2 = f (7 * b + 6)
theorem MR.lay {mb : Nat} {th : Int32} {now now' : Nat → Int32} {k : KS} (h : MR mb th now 0 k) (e : ∀ j, j < 7 → now' (7 + j) = now j) : MR mb th now' 1 k := by
  refine ⟨fun j hj => ?_, ?_, ?_, h.2.2.2⟩
  · rw [show 7 * 1 + j = 7 + j by omega, e j (by omega)]
    have h1 := h.1 j hj
    rw [show 7 * 0 + j = j by omega] at h1
    exact h1
  · rw [show 7 * 1 + 4 = 7 + 4 by omega, e 4 (by omega)]
    exact h.2.1
  · rw [show 7 * 1 + 5 = 7 + 5 by omega, e 5 (by omega)]
    exact h.2.2.1
/-- a trial in the class: a copy of a spot -/
theorem tw_take (sp sq : SpS) : ∃ s', tw_X4_take sp sq = some s' ∧ (∀ j, j < 4 → s'.1 j = sq.1 j) ∧ s'.2 = sq.2 := by
  refine ⟨_, rfl, fun j hj => ?_, rfl⟩
  simp only [t0, t1, t2, t3, upd]
  rcases (show j = 0 ∨ j = 1 ∨ j = 2 ∨ j = 3 by omega) with rfl | rfl | rfl | rfl <;> simp
theorem CR.take {sp sq : SpS} {k : KS} (h : CR sq k) (e : ∀ j, j < 4 → sp.1 j = sq.1 j) (e2 : sp.2 = sq.2) : CR sp k := by
  refine ⟨fun j hj => (e j hj).trans (h.1 j hj), ?_, ?_, fun c hc => ?_⟩
  · rw [e2]; exact h.2.1
  · rw [e2]; exact h.2.2.1
  · rw [e2]; exact h.2.2.2 c hc
theorem WK.step {tr : TrS} {w m : Nat} {k k' : KS} {st st' : Int32} (hm : m < 4) (hw : w < 4) (hV : VK k) (hW : WK tr k) (h : stepK tr w m k st = some (k', st')) : WK tr k' := by
  unfold stepK at h
  by_cases h0 : bt st m = true
  · rw [if_pos h0] at h; cases h
  · rw [if_neg h0] at h
    cases hc : cel (k.1 m) with
    | none => rw [hc] at h; cases h
    | some c =>
      rw [hc] at h
      obtain ⟨hc5, hp⟩ := cel_some hV hm hc
      cases hn : nxt c (dirK tr m w) with
      | none => simp only [hn] at h; cases h
      | some d =>
        simp only [hn] at h
        have hd := nxt_lt hc5 (dirK_lt hw) hn
        by_cases hb : blk tr k d = true
        · rw [if_pos hb] at h; cases h
        · rw [if_neg hb] at h
          have hwd : bt k.2.2 d = false := by
            cases q : bt k.2.2 d with
            | false => rfl
            | true => exact absurd (by unfold blk; rw [q]; simp) hb
          have hoc : ∀ e, e < 25 → bt k.2.2 e = true → ∀ x, ¬ x = nI e → occ (upd k.1 m x) e = false := by
            intro e he hwe x hx
            rw [occ_upd hm (fun j hj hjm => hV.2 m j hm hj (Ne.symm hjm) c hc5 hp) hp, (hW.1 e he hwe).2]
            simp [hx]
          by_cases ho : opn tr k d = true
          · rw [if_pos ho] at h
            cases h
            exact ⟨fun e he hwe => ⟨(hW.1 e he hwe).1, hoc e he hwe _ (h_ne_c d hd e he)⟩, hW.2.1, hW.2.2⟩
          · rw [if_neg ho] at h
            cases h
            refine ⟨fun e he hwe => ⟨(hW.1 e he hwe).1, hoc e he hwe _ (fun q => ?_)⟩, hW.2.1, hW.2.2⟩
            rw [nI_inj hd he] at q
            subst q
            have hwe : bt k.2.2 d = true := hwe
            rw [hwd] at hwe
            cases hwe
theorem WK.rd {tr : TrS} {w : Nat} (hw : w < 4) : ∀ (n m : Nat) (k : KS) (st : Int32) (wt : Bool), m + n ≤ 4 → VK k → WK tr k → WK tr (rdK tr w n m k st wt).1 ∧ VK (rdK tr w n m k st wt).1
  | 0, _, _, _, _, _, hV, hW => ⟨hW, hV⟩
  | n + 1, m, k, st, wt, h, hV, hW => by
    rw [rdK]
    cases hs : stepK tr w m k st with
    | none => exact WK.rd hw n (m + 1) k st wt (by omega) hV hW
    | some q =>
      obtain ⟨k', st'⟩ := q
      exact WK.rd hw n (m + 1) k' st' true (by omega) (hV.step (by omega) hw hs) (hW.step (by omega) hw hV hs)
theorem WK.it {tr : TrS} {w mb : Nat} (h4 : mb ≤ 4) (hw : w < 4) : ∀ (n : Nat) (k : KS) (st : Int32) (wt : Bool), VK k → WK tr k → WK tr (itK tr w mb n k st wt)
  | 0, _, _, _, _, hW => hW
  | n + 1, k, st, wt, hV, hW => by
    rw [itK]
    split
    · obtain ⟨a, b⟩ := WK.rd hw mb 0 k st false (by omega) hV hW
      exact WK.it h4 hw n _ _ _ b a
    · exact hW
theorem WK.tilt {tr : TrS} {w mb : Nat} {k : KS} (h4 : mb ≤ 4) (hw : w < 4) (hV : VK k) (hW : WK tr k) : WK tr (tiltK tr mb w k) := WK.it h4 hw 17 k _ true hV hW
theorem VK.tilt {tr : TrS} {w mb : Nat} {k : KS} (h4 : mb ≤ 4) (hw : w < 4) (hV : VK k) : VK (tiltK tr mb w k) := by
  have key : ∀ (n : Nat) (k : KS) (st : Int32) (wt : Bool), VK k → SK mb k st → VK (itK tr w mb n k st wt) := by
    intro n
    induction n with
    | zero => intro k st wt hV _; exact hV
    | succ n ih =>
      intro k st wt hV hS
      rw [itK]
      split
      · obtain ⟨a1, a2, -⟩ := rd_ok (tr := tr) h4 hw mb 0 k st false (by omega) hV hS
        exact ih _ _ _ a1 a2
      · exact hV
  exact key 17 k _ true hV (sa_SK h4)
