theorem popF_flip {x : Int32} {c : Nat} (hc : c < 32) : ∀ n, n ≤ 32 → popF (x ^^^ bs c) n + (if c < n ∧ bt x c = true then 1 else 0) = popF x n + (if c < n ∧ bt x c = false then 1 else 0)
  | 0, _ => by simp [popF]
  | n + 1, h => by
    have ih := popF_flip (x := x) hc n (by omega)
    rw [popF, popF]
    have e : bt (x ^^^ bs c) n = (bt x n ^^ decide (n = c)) := by unfold bs; exact b_flip x c hc (by omega)
    rw [e]
    by_cases hn : n = c
    · subst hn
      cases hb : bt x n with
      | true => simp [hb] at ih ⊢; omega
      | false => simp [hb] at ih ⊢; omega
    · have h1 : (c < n + 1) ↔ c < n := by omega
      simp only [h1]
      simp only [hn, decide_false, Bool.xor_false]
      omega
theorem pop_flip {x : Int32} {c : Nat} (hc : c < 25) : pop (x ^^^ bs c) = if bt x c = true then pop x - 1 else pop x + 1 := by
  have h := popF_flip (x := x) (show c < 32 by omega) 25 (by omega)
  unfold pop
  cases hb : bt x c with
  | true => simp [hb, hc] at h ⊢; omega
  | false => simp [hb, hc] at h ⊢; omega
theorem tw_plain {tr : TrS} {c : Nat} (hc : c < 25) : tw_X5_isPlain tr (nI c) = some (b1 (plB tr c)) := by
  rw [tw_X5_isPlain, t1, t2, t3, t4, tw_bitOf _ c (by omega), Option.bind_some, b_or, b_or, b_or]
  unfold plB
  cases bt (tr.1 1) c <;> cases bt (tr.1 2) c <;> cases bt (tr.1 3) c <;> cases bt (tr.1 4) c <;> rfl
theorem tw_canWedge {tr : TrS} {mm : Int32} {mk mt : Nat → Int32} {mb : Nat} {th : Int32} {now : Nat → Int32} {b c : Nat} {k : KS} (hT : RT tr mb mm mk mt) (hb : b < 2) (hc : c < 25) (hR : MR mb th now b k) : tw_X7_canWedge mm mt now th (nI b) (nI c) = some (b1 (plB tr c && !occ k.1 c)) := by
  obtain ⟨h1, h2, h3, h4, h5, h6, h7, h8, h9, h10, h11⟩ := hT
  rw [tw_X7_canWedge, t0, t1, t2, t3, tw_has _ c (by omega), Option.bind_some, b_or, b_or, b_or, h5, h6, h7, h8, tw_mAt h2 h3 hb hc hR, Option.bind_some]
  unfold plB
  cases ho : occ k.1 c with
  | false =>
    rw [if_pos (fa_occ.mpr ho)]
    cases bt (tr.1 1) c <;> cases bt (tr.1 2) c <;> cases bt (tr.1 3) c <;> cases bt (tr.1 4) c <;> rfl
  | true =>
    rw [if_neg (show ¬ faF k.1 (nI c) 4 0 = -9 from fun q => by rw [fa_occ.mp q] at ho; cases ho)]
    cases bt (tr.1 1) c <;> cases bt (tr.1 2) c <;> cases bt (tr.1 3) c <;> cases bt (tr.1 4) c <;> rfl
/-- what a wedge at a cell is refused with -/
def wrK (tr : TrS) (k : KS) (c : Nat) : Int32 := if (plB tr c && !occ k.1 c) = true then (if bt k.2.2 c = true ∨ pop k.2.2 < 3 then 0 else -4) else -3
theorem tw_refusal {tr : TrS} {sp : SpS} {k : KS} {c : Nat} (hR : CR sp k) (hW : WK tr k) (hc : c < 25) : tw_X5_wedgeRefusal tr sp (nI c) = some (wrK tr k c) := by
  have hp3 := hW.2.2
  rw [tw_X5_wedgeRefusal, isCell_c c hc, Option.bind_some, if_neg (by decide), tw_plain hc, Option.bind_some, tw_bitOf _ c (by omega), Option.bind_some, tw_bitOf _ c (by omega), Option.bind_some, hR.2.2.2 c (by omega), hR.2.2.1, tw_bitCount hW.2.1, Option.bind_some]
  unfold wrK
  simp only [hc, decide_true, Bool.true_and]
  cases plB tr c with
  | false => rfl
  | true =>
    cases occ k.1 c with
    | true => rfl
    | false =>
      cases bt k.2.2 c with
      | true => rfl
      | false =>
        by_cases h : pop k.2.2 < 3
        · rw [if_pos (show nI (pop k.2.2) < 3 from nI_lt (b := 3) h (by omega))]
          simp [h, b1]
        · rw [if_neg (show ¬ nI (pop k.2.2) < 3 from nI_nlt (b := 3) (by omega) (by omega))]
          simp [h, b1]
def weK (k : KS) (c : Nat) : KS := (k.1, k.2.1, k.2.2 ^^^ bs c)
theorem CR.wedge {sp : SpS} {k : KS} (h : CR sp k) (c : Nat) : CR (sp.1, sp.2.1, sp.2.2.1, sp.2.2.2.1 ^^^ bs c, sp.2.2.2.2) (weK k c) :=
  ⟨h.1, h.2.1, by show sp.2.2.2.1 ^^^ bs c = k.2.2 ^^^ bs c; rw [h.2.2.1], h.2.2.2⟩
theorem WK.wedge {tr : TrS} {k : KS} {c : Nat} (hc : c < 25) (hW : WK tr k) (h : wrK tr k c = 0) : WK tr (weK k c) := by
  unfold wrK at h
  by_cases h1 : (plB tr c && !occ k.1 c) = true
  · rw [if_pos h1] at h
    have h2 : bt k.2.2 c = true ∨ pop k.2.2 < 3 := by
      by_cases q : bt k.2.2 c = true ∨ pop k.2.2 < 3
      · exact q
      · rw [if_neg q] at h; exact absurd h (by decide)
    have hp3 := hW.2.2
    refine ⟨fun e he hb => ?_, fun e he => ?_, ?_⟩
    · have hb : bt (k.2.2 ^^^ bs c) e = true := hb
      unfold bs at hb
      rw [b_flip _ c (by omega) (by omega)] at hb
      by_cases hec : e = c
      · subst hec
        simp only [Bool.and_eq_true, Bool.not_eq_true'] at h1
        exact ⟨h1.1, h1.2⟩
      · simp only [hec, decide_false, Bool.xor_false] at hb
        exact hW.1 e he hb
    · show bt (k.2.2 ^^^ bs c) e = false
      rcases Nat.lt_or_ge e 32 with q | q
      · unfold bs
        rw [b_flip _ c (by omega) q, hW.2.1 e he]
        simp [show ¬ e = c by omega]
      · exact b_big q
    · show pop (k.2.2 ^^^ bs c) ≤ 3
      rw [pop_flip hc]
      split
      · omega
      · rcases h2 with q | q
        · contradiction
        · omega
  · rw [if_neg h1] at h
    exact absurd h (by decide)
theorem MR.wedge {mb : Nat} {th : Int32} {now : Nat → Int32} {b : Nat} {k : KS} (h : MR mb th now b k) (c : Nat) : MR mb th (upd now (7 * b + 5) (now (7 * b + 5) ^^^ bs c)) b (weK k c) := by
  refine ⟨fun j hj => ?_, ?_, ?_, h.2.2.2⟩
  · rw [pk_un (by omega)]; exact h.1 j hj
  · rw [pk_un (by omega)]; exact h.2.1
  · show k.2.2 ^^^ bs c = _
    rw [pk_us, h.2.2.1]
/-- wedge -/
theorem s_wedge {tr : TrS} {mb : Nat} {mm : Int32} {mk mt : Nat → Int32} {no : SpS} {now : Nat → Int32} {k : KS} {acf : Nat → SpS} {aci acn : Int32} {row : Nat → Int32} {ma mx : Int32} {n i x : Nat} (hT : RT tr mb mm mk mt) (hC : Co tr mb no now 0 k) (hA : ACR tr mb acf aci acn row ma mx n i x) (y : Int32) :
    ∃ (r : Int32) (no' : SpS) (acf' : Nat → SpS) (aci' acn' : Int32) (now' : Nat → Int32) (ma' mx' : Int32) (row' : Nat → Int32) (k' : KS) (n' i' x' : Nat), tw_X6_wedge no acf aci acn tr y = some (r, no', acf', aci', acn') ∧ tw_X7_wedge mm mt now 15 ma mx row y = some (r, now', ma', mx', row') ∧ Co tr mb no' now' 0 k' ∧ ACR tr mb acf' aci' acn' row' ma' mx' n' i' x' := by
  have hC0 := hC
  obtain ⟨c1, c2, c3, c4, c5⟩ := hC
  rw [tw_X6_wedge, tw_X7_wedge, tw_mCell, Option.bind_some]
  by_cases hy : ix y 25 = true
  · obtain ⟨c, hc, rfl⟩ := ix_of hy (by omega)
    have h5 : now 5 = k.2.2 := c4.2.2.1.symm
    have hp3 := c3.2.2
    rw [hy, if_neg (b1_ne rfl), tw_refusal c1 c3 hc, Option.bind_some, t5, tw_has _ c (by omega), Option.bind_some, h5, show (0 : Int32) = nI 0 from rfl, tw_canWedge hT (show 0 < 2 by omega) hc c4, Option.bind_some]
    have e36 : ∀ z, tw_X7_wedge_36 mm mt 15 (nI c) (b1 z) now ma mx row = if z = false ∧ pop k.2.2 = 3 then some (-4, now, ma, mx, row) else tw_X7_wedge_56 mm mt 15 (nI c) (b1 z) now ma mx row := by
      intro z
      rw [tw_X7_wedge_36, t5, h5, tw_ones, Option.bind_some]
      cases z with
      | true => simp [b1]
      | false =>
        rw [if_pos (show b1 false = 0 by decide)]
        by_cases q : pop k.2.2 = 3
        · rw [q, if_pos (show nI 3 = 3 from rfl)]; simp
        · rw [if_neg (show ¬ nI (pop k.2.2) = 3 from fun z2 => q ((nI_eq (b := 3) (by omega) (by omega)).mp z2))]; simp [q]
    obtain ⟨acf', aci', acn', row', ma', mx', n', i', x', e1, e2, e3⟩ := ac_keep hA hC0
    have e56 : ∀ z, tw_X7_wedge_56 mm mt 15 (nI c) (b1 z) now ma mx row = some (b1 (!z), upd now 5 (now 5 ^^^ bs c), ma', mx', row') := by
      intro z
      rw [tw_X7_wedge_56, e2, Option.bind_some, t5]
      cases z <;> rfl
    have ok : wrK tr k c = 0 → (bt k.2.2 c = true ∨ (plB tr c && !occ k.1 c) = true) := by
      intro q
      unfold wrK at q
      by_cases z : (plB tr c && !occ k.1 c) = true
      · exact Or.inr z
      · rw [if_neg z] at q; exact absurd q (by decide)
    have fin : wrK tr k c = 0 → ∃ (r : Int32) (no' : SpS) (acf2 : Nat → SpS) (aci2 acn2 : Int32) (now' : Nat → Int32) (ma2 mx2 : Int32) (row2 : Nat → Int32) (k' : KS) (n2 i2 x2 : Nat), (if wrK tr k c = nI 0 then ((tw_X0_remember acf aci acn no).bind (fun q3 => (tw_X6_bitOf (no.2.2.2.1 ^^^ (1 <<< (nI c &&& 31))) (nI c)).bind (fun q4 => some (q4, (no.1, no.2.1, no.2.2.1, no.2.2.2.1 ^^^ (1 <<< (nI c &&& 31)), no.2.2.2.2), q3.1, q3.2.1, q3.2.2)))) else (some (wrK tr k c, no, acf, aci, acn))) = some (r, no', acf2, aci2, acn2) ∧ tw_X7_wedge_56 mm mt 15 (nI c) (b1 (bt k.2.2 c)) now ma mx row = some (r, now', ma2, mx2, row2) ∧ Co tr mb no' now' 0 k' ∧ ACR tr mb acf2 aci2 acn2 row2 ma2 mx2 n2 i2 x2 := by
      intro q
      rw [if_pos (show wrK tr k c = nI 0 from q), e1, Option.bind_some, tw_bitOf _ c (by omega), Option.bind_some, e56, b_flip _ c (by omega) (by omega), c1.2.2.1]
      refine ⟨_, _, _, _, _, _, _, _, _, weK k c, n', i', x', rfl, ?_, ⟨?_, c2, c3.wedge hc q, c4.wedge c, ?_⟩, e3⟩
      · simp only [decide_true, Bool.xor_true]
      · have h9 := c1.wedge c
        rw [c1.2.2.1] at h9
        exact h9
      · show no.2.2.2.2 = upd now (7 * 0 + 5) _ (7 * 0 + 6)
        rw [pk_un (by omega)]
        exact c5
    have non : wrK tr k c ≠ 0 → (if wrK tr k c = nI 0 then ((tw_X0_remember acf aci acn no).bind (fun q3 => (tw_X6_bitOf (no.2.2.2.1 ^^^ (1 <<< (nI c &&& 31))) (nI c)).bind (fun q4 => some (q4, (no.1, no.2.1, no.2.2.1, no.2.2.2.1 ^^^ (1 <<< (nI c &&& 31)), no.2.2.2.2), q3.1, q3.2.1, q3.2.2)))) else (some (wrK tr k c, no, acf, aci, acn))) = some (wrK tr k c, no, acf, aci, acn) := fun q => if_neg q
    cases hb : bt k.2.2 c with
    | true =>
      have hpl := c3.1 c hc hb
      have hz : wrK tr k c = 0 := by
        unfold wrK
        rw [hpl.1, hpl.2, hb]
        simp
      obtain ⟨r, no', a1, a2, a3, nw, a4, a5, a6, k', n2, i2, x2, f1, f2, f3, f4⟩ := fin hz
      rw [hb] at f2
      refine ⟨r, no', a1, a2, a3, nw, a4, a5, a6, k', n2, i2, x2, f1, ?_, f3, f4⟩
      rw [if_neg (show ¬ b1 true = nI 0 by decide), e36, if_neg (by simp)]
      exact f2
    | false =>
      rw [if_pos (show b1 false = nI 0 by decide)]
      cases hpo : (plB tr c && !occ k.1 c) with
      | false =>
        have hz : wrK tr k c = -3 := by unfold wrK; rw [hpo]; rfl
        rw [non (by rw [hz]; decide), hz]
        exact ⟨_, _, _, _, _, _, _, _, _, k, n, i, x, rfl, rfl, hC0, hA⟩
      | true =>
        rw [if_neg (show ¬ b1 true = nI 0 by decide), e36]
        by_cases h3 : pop k.2.2 = 3
        · have hz : wrK tr k c = -4 := by unfold wrK; rw [hpo, hb, if_pos rfl, if_neg (by simp [h3])]
          rw [if_pos (show (false = false ∧ pop k.2.2 = 3) from ⟨rfl, h3⟩), non (by rw [hz]; decide), hz]
          exact ⟨_, _, _, _, _, _, _, _, _, k, n, i, x, rfl, rfl, hC0, hA⟩
        · have hz : wrK tr k c = 0 := by unfold wrK; rw [hpo, if_pos rfl, if_pos (Or.inr (by omega))]
          rw [if_neg (show ¬ (false = false ∧ pop k.2.2 = 3) from fun q => h3 q.2)]
          have f := fin hz
          rw [hb] at f
          exact f
  · have hyf := ix_f hy
    rw [hyf, if_pos (show b1 false = 0 by decide), tw_X5_wedgeRefusal, tw_isCell, hyf, Option.bind_some, if_pos (show b1 false = 0 by decide), Option.bind_some, if_neg (by decide)]
    exact ⟨_, _, _, _, _, _, _, _, _, k, n, i, x, rfl, rfl, hC0, hA⟩
