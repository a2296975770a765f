/-! where a wall is hidden -/
def lnF (bl hl : Nat → Bool) (w : Nat) : Nat → Nat → Int32
  | 0, c => nI c
  | n + 1, c => match nxt c w with
    | none => nI c
    | some d => if bl d = true then nI c else if hl d = true then 25 else lnF bl hl w n d
theorem lnF_more {bl hl : Nat → Bool} {w : Nat} (hw : w < 4) : ∀ (n c : Nat), c < 25 → rem c w < n → lnF bl hl w n c = lnF bl hl w (n + 1) c
  | 0, c, _, h => by omega
  | n + 1, c, hc, h => by
    rw [lnF, lnF]
    cases hn : nxt c w with
    | none => rfl
    | some d =>
      have h1 := rem_nxt hc hw hn
      simp only
      rw [lnF_more hw n d (nxt_lt hc hw hn) (by omega)]
theorem tw_comes {x3 x4 : Int32} {w : Nat} (p1 : Int32) (hw : w < 4) : ∀ (n s c : Nat), c < 25 → s ≤ 5 → 5 - s < n → tw_X3_comesTo_6 p1 (nI w) x4 x3 n (nI c) (nI s) = some (lnF (fun d => bt x4 d) (fun d => bt x3 d) w (5 - s) c) := by
  intro n
  induction n with
  | zero => intro s c h0 h1 h2; omega
  | succ n ih =>
    intro s c h0 h1 h2
    rw [tw_X3_comesTo_6]
    by_cases hs : s = 5
    · subst hs
      rw [if_pos (by decide), Nat.sub_self, lnF]
    · rw [if_neg (show ¬ (5 : Int32) ≤ nI s from nI_ge (b := 5) (by omega) (by omega)), tw_nextCell c h0 w hw, Option.bind_some, show 5 - s = (5 - (s + 1)) + 1 by omega, lnF]
      cases hn : nxt c w with
      | none => rw [if_pos (show o1 none = -1 from rfl)]
      | some d =>
        have hd := nxt_lt h0 hw hn
        rw [if_neg (show ¬ o1 (some d) = -1 from o1_m d hd), show o1 (some d) = nI d from rfl, tw_bitOf _ d (by omega), Option.bind_some, tw_bitOf _ d (by omega), Option.bind_some, nI_1]
        cases h3 : bt x4 d with
        | true => rw [if_pos (by decide)]; simp [h3]
        | false =>
          rw [if_neg (by decide)]
          cases h4 : bt x3 d with
          | true => rw [if_pos (by decide)]; simp [h3, h4]
          | false =>
            rw [if_neg (by decide), ih (s + 1) d hd (by omega) (by omega)]
            simp [h3, h4]
theorem tw_alone {mt : Nat → Int32} {w v : Nat} (p1 : Int32) (hw : w < 4) (hv : v < 25) : ∀ (n c : Nat), c < 25 → rem c w < n → tw_X7_alone_11 mt p1 (nI w) (nI v) n (nI c) (o9 (nxt c w)) = some (lnF (fun d => decide (d = v) || bt (mt 0 ||| mt 3) d) (fun d => bt (mt 1) d) w n c) := by
  intro n
  induction n with
  | zero => intro c h0 h1; omega
  | succ n ih =>
    intro c h0 h1
    rw [tw_X7_alone_11, lnF]
    cases hn : nxt c w with
    | none => rw [if_pos (show o9 none = -9 from rfl)]
    | some d =>
      have hd := nxt_lt h0 hw hn
      have hr := rem_nxt h0 hw hn
      rw [if_neg (show ¬ o9 (some d) = -9 from o9_m d hd), show o9 (some d) = nI d from rfl, t0, t3, t1, tw_has _ d (by omega), Option.bind_some, tw_has _ d (by omega), Option.bind_some, tw_onward d hd w hw, Option.bind_some]
      by_cases hdv : d = v
      · subst hdv
        rw [if_pos rfl]
        simp
      · rw [if_neg (fun q => hdv ((nI_inj hd hv).mp q))]
        cases h3 : bt (mt 0 ||| mt 3) d with
        | true => rw [if_neg (b1_ne rfl)]; simp [h3]
        | false =>
          rw [if_pos (by decide)]
          cases h4 : bt (mt 1) d with
          | true => rw [if_neg (b1_ne rfl)]; simp [h3, h4, hdv]
          | false =>
            rw [if_pos (by decide), ih d hd (by omega)]
            simp [h3, h4, hdv]
theorem lnF_cong {bl bl' hl hl' : Nat → Bool} {w : Nat} (hw : w < 4) (h1 : ∀ d, d < 25 → bl d = bl' d) (h2 : ∀ d, d < 25 → hl d = hl' d) : ∀ (n c : Nat), c < 25 → lnF bl hl w n c = lnF bl' hl' w n c
  | 0, _, _ => rfl
  | n + 1, c, hc => by
    rw [lnF, lnF]
    cases hn : nxt c w with
    | none => rfl
    | some d =>
      have hd := nxt_lt hc hw hn
      simp only
      rw [h1 d hd, h2 d hd, lnF_cong hw h1 h2 n d hd]
def alB (p : Nat → Bool) : Nat → Nat → Bool
  | 0, _ => true
  | n + 1, j => p j && alB p n (j + 1)
/-- sight j would do with a wall at v -/
def siB (tr : TrS) (u w q : Nat → Int32) (v : Nat) (j : Nat) : Bool := match cel (u j) with
  | none => false
  | some c => !(decide (c = v) || (bt (tr.1 1) c || (bt (tr.1 2) c || bt (tr.1 4) c))) && decide (lnF (fun d => decide (d = v) || (bt (tr.1 1) d || bt (tr.1 4) d)) (fun d => bt (tr.1 2) d) (w j).toNatClampNeg 5 c = q j)
theorem c_agree {tr : TrS} {u w q : Nat → Int32} {sn ms : Int32} {mc mw mq : Nat → Int32} {N v : Nat} (hS : SIR u w q sn ms mc mw mq N) (hv : v < 25) : ∀ (n j : Nat), j ≤ N → N - j < n → tw_X3_agree_29 u w q sn tr (nI v) n (tr.1 2) ((tr.1 1 ||| tr.1 4) ||| bs v) (nI j) = some (b1 (alB (siB tr u w q v) (N - j) j)) := by
  obtain ⟨h1, h2, h3, h4⟩ := hS
  intro n
  induction n with
  | zero => intro j a b; omega
  | succ n ih =>
    intro j a b
    rw [tw_X3_agree_29, h1]
    by_cases hj : j = N
    · subst hj
      rw [if_pos (nI_le (Nat.le_refl _) (by omega)), Nat.sub_self, alB]
      rfl
    · obtain ⟨-, -, -, ⟨c, hc, ec⟩, y, hy, ey⟩ := h4 j (by omega)
      have hi : ix (nI j) 6 = true := ix_nI (by omega) (by omega)
      have e := ih (j + 1) (by omega) (by omega)
      rw [← nI_1, h1] at e
      have ecm : tw_X3_comesTo (nI c) (nI y) ((tr.1 1 ||| tr.1 4) ||| bs v) (tr.1 2) = some (lnF (fun d => bt ((tr.1 1 ||| tr.1 4) ||| bs v) d) (fun d => bt (tr.1 2) d) y 5 c) := tw_comes (nI c) hy 6 0 c hc (by omega) (by omega)
      have eb : ∀ d, d < 25 → bt ((tr.1 1 ||| tr.1 4) ||| bs v) d = (decide (d = v) || (bt (tr.1 1) d || bt (tr.1 4) d)) := by
        intro d hd
        unfold bs
        rw [b_set _ v (by omega) (by omega), b_or, Bool.or_comm]
      rw [if_neg (nI_ge (by omega) (by omega))]
      simp only [hi, eq_self, if_true]
      rw [nI_clamp (by omega), ec, ey, tw_bitOf _ c (by omega), Option.bind_some, b_or, eb c hc, ecm, Option.bind_some, lnF_cong hy eb (fun _ _ => rfl) 5 c hc, e, show N - j = (N - (j + 1)) + 1 by omega, alB]
      have es : siB tr u w q v j = (!(decide (c = v) || (bt (tr.1 1) c || (bt (tr.1 2) c || bt (tr.1 4) c))) && decide (lnF (fun d => decide (d = v) || (bt (tr.1 1) d || bt (tr.1 4) d)) (fun d => bt (tr.1 2) d) y 5 c = q j)) := by
        unfold siB
        rw [ec, cel_c c hc, ey, nI_clamp (by omega)]
      rw [es]
      cases decide (c = v) <;> cases bt (tr.1 1) c <;> cases bt (tr.1 2) c <;> cases bt (tr.1 4) c <;> first
        | rfl
        | (by_cases hq : lnF (fun d => decide (d = v) || (bt (tr.1 1) d || bt (tr.1 4) d)) (fun d => bt (tr.1 2) d) y 5 c = q j
           · rw [if_neg (by decide), if_pos hq, decide_eq_true hq]; rfl
           · rw [if_neg (by decide), if_neg hq, decide_eq_false hq]; rfl)
theorem m_agree {tr : TrS} {mm : Int32} {mk mt : Nat → Int32} {mb : Nat} {u w q : Nat → Int32} {sn ms : Int32} {mc mw mq : Nat → Int32} {N v : Nat} (hT : RT tr mb mm mk mt) (hS : SIR u w q sn ms mc mw mq N) (hv : v < 25) (K : Int32 → Int32 → Int32 → Option Int32) (x1 x2 : Int32) : ∀ (n j : Nat) (f : Bool), j ≤ N → N - j < n → tw_X7_hidden_56 mt ms mc mw mq K n x1 x2 (nI v) (b1 f) (nI j) = tw_X7_hidden_150 mt ms mc mw mq K x1 x2 (nI v) (b1 (f && alB (siB tr u w q v) (N - j) j)) := by
  obtain ⟨h1, h2, h3, h4⟩ := hS
  obtain ⟨t1', t2', t3', t4', t5', t6', t7', t8', t9', t10', t11'⟩ := hT
  intro n
  induction n with
  | zero => intro j f a b; omega
  | succ n ih =>
    intro j f a b
    rw [tw_X7_hidden_56]
    by_cases hj : j = N
    · subst hj
      rw [if_pos (by rw [h2]; exact nI_le (Nat.le_refl _) (by omega)), Nat.sub_self, alB, Bool.and_true]
    · rw [if_neg (by rw [h2]; exact nI_ge (by omega) (by omega))]
      cases f with
      | false => rw [if_pos (by decide), Bool.false_and]
      | true =>
        obtain ⟨s1, s2, s3, ⟨c, hc, ec⟩, y, hy, ey⟩ := h4 j (by omega)
        have hi : ix (nI j) 6 = true := ix_nI (by omega) (by omega)
        have e := fun f => ih (j + 1) f (by omega) (by omega)
        simp only [← nI_1] at e
        have hr := rem_le c hc y hy
        have ea : tw_X7_alone mt (nI c) (nI y) (nI v) = some (lnF (fun d => decide (d = v) || (bt (tr.1 1) d || bt (tr.1 4) d)) (fun d => bt (tr.1 2) d) y 5 c) := by
          rw [tw_X7_alone, tw_onward c hc y hy, Option.bind_some, tw_alone (nI c) hy hv 7 c hc (by omega), lnF_cong hy (fun d hd => by rw [b_or, t5', t8']) (fun d hd => by rw [t6']) 7 c hc, ← lnF_more hy 6 c hc (by omega), ← lnF_more hy 5 c hc (by omega)]
        rw [if_neg (b1_ne rfl)]
        simp only [hi, eq_self, if_true]
        rw [nI_clamp (by omega), ← s1, ← s2, ← s3, ec, ey, t0, t1, t3, tw_has _ c (by omega), Option.bind_some, b_or, b_or, ea, Option.bind_some, t5', t6', t8', Bool.true_and, show N - j = (N - (j + 1)) + 1 by omega, alB]
        have es : siB tr u w q v j = (!(decide (c = v) || (bt (tr.1 1) c || (bt (tr.1 2) c || bt (tr.1 4) c))) && decide (lnF (fun d => decide (d = v) || (bt (tr.1 1) d || bt (tr.1 4) d)) (fun d => bt (tr.1 2) d) y 5 c = q j)) := by
          unfold siB
          rw [ec, cel_c c hc, ey, nI_clamp (by omega)]
        rw [es]
        by_cases hcv : c = v
        · subst hcv
          rw [if_pos rfl]
          have e0 := e false
          rw [Bool.false_and] at e0
          simp only [decide_true, Bool.true_or, Bool.not_true, Bool.false_and]
          exact e0
        · rw [if_neg (fun z => hcv ((nI_inj hc hv).mp z)), decide_eq_false hcv]
          have e0 := e false
          have e1 := e true
          rw [Bool.false_and] at e0
          rw [Bool.true_and] at e1
          by_cases hq : lnF (fun d => decide (d = v) || (bt (tr.1 1) d || bt (tr.1 4) d)) (fun d => bt (tr.1 2) d) y 5 c = q j
          · rw [if_pos hq, decide_eq_true hq]
            cases bt (tr.1 1) c <;> cases bt (tr.1 2) c <;> cases bt (tr.1 4) c <;> first
              | exact e0
              | exact e1
          · rw [if_neg hq, decide_eq_false hq]
            cases bt (tr.1 1) c <;> cases bt (tr.1 2) c <;> cases bt (tr.1 4) c <;> exact e0
def hdB (tr : TrS) (u w q : Nat → Int32) (N : Nat) (v : Nat) : Bool := plB tr v && alB (siB tr u w q v) N 0
theorem s_hidden {tr : TrS} {mb : Nat} {mm : Int32} {mk mt : Nat → Int32} {u w q : Nat → Int32} {sn ms : Int32} {mc mw mq : Nat → Int32} {N : Nat} (hT : RT tr mb mm mk mt) (hS : SIR u w q sn ms mc mw mq N) : ∃ r, tw_X6_hidden u w q sn tr = some r ∧ tw_X7_hidden mt ms mc mw mq = some r := by
  refine ⟨acF (hdB tr u w q N) 25 0 0, ?_, ?_⟩
  · have key : ∀ (n v : Nat) (a : Int32), v ≤ 25 → 25 - v < n → tw_X6_hidden_4 u w q sn tr n a (nI v) = some (acF (hdB tr u w q N) (25 - v) v a) := by
      intro n
      induction n with
      | zero => intro v a h1 h2; omega
      | succ n ih =>
        intro v a h1 h2
        rw [tw_X6_hidden_4]
        by_cases hv : v = 25
        · subst hv
          rw [if_pos (by decide), Nat.sub_self, acF]
        · have ea : tw_X3_agree u w q sn tr (nI v) = some (b1 (alB (siB tr u w q v) N 0)) := by
            have h := c_agree (tr := tr) hS (show v < 25 by omega) 7 0 (Nat.zero_le _) (by have := hS.2.2.1; omega)
            rw [Nat.sub_zero] at h
            rw [tw_X3_agree]
            exact h
          rw [if_neg (show ¬ (25 : Int32) ≤ nI v from nI_ge (b := 25) (by omega) (by omega)), tw_plain (by omega), Option.bind_some, ea, Option.bind_some, nI_1, show 25 - v = (25 - (v + 1)) + 1 by omega, acF]
          have e1 := ih (v + 1) a (by omega) (by omega)
          have e2 := ih (v + 1) (a ||| bs v) (by omega) (by omega)
          unfold hdB at e1 e2 ⊢
          cases plB tr v with
          | false => exact e1
          | true =>
            cases alB (siB tr u w q v) N 0 with
            | false => exact e1
            | true => exact e2
    exact key 26 0 0 (by omega) (by omega)
  · have key : ∀ (n v : Nat) (a : Int32), v ≤ 25 → 25 - v < n → tw_X7_hidden_32 mt ms mc mw mq n (((mt 0 ||| mt 1) ||| mt 2) ||| mt 3) a (nI v) = some (acF (hdB tr u w q N) (25 - v) v a) := by
      intro n
      induction n with
      | zero => intro v a h1 h2; omega
      | succ n ih =>
        intro v a h1 h2
        rw [tw_X7_hidden_32]
        by_cases hv : v = 25
        · subst hv
          rw [if_pos (by decide), Nat.sub_self, acF]
        · have em := fun f => m_agree (tr := tr) (u := u) (w := w) (q := q) hT hS (show v < 25 by omega) (tw_X7_hidden_32 mt ms mc mw mq n) (((mt 0 ||| mt 1) ||| mt 2) ||| mt 3) a 7 0 f (Nat.zero_le _) (by have := hS.2.2.1; omega)
          simp only [Nat.sub_zero] at em
          have ep : bt (((mt 0 ||| mt 1) ||| mt 2) ||| mt 3) v = !plB tr v := by
            rw [b_or, b_or, b_or, hT.2.2.2.2.1, hT.2.2.2.2.2.1, hT.2.2.2.2.2.2.1, hT.2.2.2.2.2.2.2.1]
            unfold plB
            cases bt (tr.1 1) v <;> cases bt (tr.1 2) v <;> cases bt (tr.1 3) v <;> cases bt (tr.1 4) v <;> rfl
          rw [if_neg (show ¬ (25 : Int32) ≤ nI v from nI_ge (b := 25) (by omega) (by omega)), tw_has _ v (by omega), Option.bind_some, ep, show tw_X7_hidden_56 mt ms mc mw mq (tw_X7_hidden_32 mt ms mc mw mq n) 7 (((mt 0 ||| mt 1) ||| mt 2) ||| mt 3) a (nI v) 1 0 = _ from em true, show tw_X7_hidden_56 mt ms mc mw mq (tw_X7_hidden_32 mt ms mc mw mq n) 7 (((mt 0 ||| mt 1) ||| mt 2) ||| mt 3) a (nI v) 0 0 = _ from em false, tw_X7_hidden_150, tw_X7_hidden_150, nI_1, or_0, show 25 - v = (25 - (v + 1)) + 1 by omega, acF]
          have e1 := ih (v + 1) a (by omega) (by omega)
          have e2 := ih (v + 1) (a ||| bs v) (by omega) (by omega)
          unfold hdB at e1 e2 ⊢
          cases plB tr v with
          | false => exact e1
          | true =>
            cases alB (siB tr u w q v) N 0 with
            | false => exact e1
            | true => exact e2
    rw [tw_X7_hidden, t0, t1, t2, t3]
    exact key 26 0 0 (by omega) (by omega)
