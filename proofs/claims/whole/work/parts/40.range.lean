/-! numbers that a call names: within 0 .. n, or not -/
theorem ix_iff {x : Int32} {n : Nat} : ix x n = true ↔ 0 ≤ x.toInt ∧ x.toInt < n := by
  rw [← vp_in_iff]
  constructor
  · exact ix_in
  · intro h
    unfold ix
    have h1 : ¬ x < 0 := fun q => h (Or.inl q)
    have h2 : ¬ n ≤ x.toNatClampNeg := fun q => h (Or.inr q)
    simp [h1, h2]
theorem ix_of {x : Int32} {n : Nat} (h : ix x n = true) (hn : n < 2 ^ 31) : ∃ j, j < n ∧ x = nI j := vp_in_of (ix_in h) hn
theorem ix_f {x : Int32} {n : Nat} (h : ¬ ix x n = true) : ix x n = false := by cases q : ix x n <;> simp_all
theorem rg_if {α : Type} (x : Int32) (n : Nat) (hn : n < 2 ^ 31) (A B : α) : (if x < 0 then A else if nI n ≤ x then A else B) = if ix x n = true then B else A := by
  by_cases h : ix x n = true
  · have h1 := ix_iff.mp h
    rw [if_pos h, if_neg (by rw [Int32.lt_iff_toInt_lt]; show ¬ x.toInt < 0; omega), if_neg (by rw [Int32.le_iff_toInt_le, nI_toInt hn]; omega)]
  · have h1 : ¬ (0 ≤ x.toInt ∧ x.toInt < n) := fun q => h (ix_iff.mpr q)
    rw [if_neg h]
    by_cases h2 : x < 0
    · rw [if_pos h2]
    · rw [if_neg h2, if_pos]
      rw [Int32.lt_iff_toInt_lt] at h2
      have h3 : ¬ x.toInt < 0 := h2
      rw [Int32.le_iff_toInt_le, nI_toInt hn]
      omega
theorem rg_le {α : Type} (x : Int32) (n : Nat) (hn : n + 1 < 2 ^ 31) (A B : α) : (if x < 0 then A else if x ≤ nI n then B else A) = if ix x (n + 1) = true then B else A := by
  rw [← rg_if x (n + 1) hn]
  by_cases q : x < 0
  · rw [if_pos q, if_pos q]
  · rw [if_neg q, if_neg q]
    have e : x ≤ nI n ↔ ¬ nI (n + 1) ≤ x := by
      rw [Int32.le_iff_toInt_le, Int32.le_iff_toInt_le, nI_toInt (by omega), nI_toInt (by omega)]
      omega
    by_cases q2 : nI (n + 1) ≤ x
    · rw [if_pos q2, if_neg (fun z => e.mp z q2)]
    · rw [if_neg q2, if_pos (e.mpr q2)]
theorem b1_if (b : Bool) : (if b = true then some (1 : Int32) else some 0) = some (b1 b) := by cases b <;> rfl
theorem tw_isCell (x : Int32) : tw_X6_isCell x = some (b1 (ix x 25)) := by
  rw [tw_X6_isCell, ← b1_if]
  exact rg_if x 25 (by omega) _ _
theorem tw_isWay (x : Int32) : tw_X6_isWay x = some (b1 (ix x 4)) := by
  rw [tw_X6_isWay, ← b1_if]
  exact rg_if x 4 (by omega) _ _
theorem tw_isSlot (x : Int32) : tw_X6_isSlot x = some (b1 (ix x 2)) := by
  rw [tw_X6_isSlot, ← b1_if]
  exact rg_if x 2 (by omega) _ _
theorem tw_hasM {tr : TrS} {mb : Nat} (hmb : tr.2.2.2.1 = nI mb) (h4 : mb ≤ 4) (x : Int32) : tw_X5_has tr x = some (b1 (ix x mb)) := by
  rw [tw_X5_has, hmb, ← b1_if]
  exact rg_if x mb (by omega) _ _
theorem in_if (a b c : Int64) : tw_X7_in a b c = if a.toInt < b.toInt ∨ c.toInt < a.toInt then some 0 else some 1 := by
  rw [tw_X7_in]
  by_cases h1 : a.toInt < b.toInt
  · rw [if_pos ((lg_cmp_lt a b).mpr (Int64.lt_iff_toInt_lt.mpr h1)), if_pos (Or.inl h1)]
  · rw [if_neg (fun q => h1 (Int64.lt_iff_toInt_lt.mp ((lg_cmp_lt a b).mp q)))]
    by_cases h2 : c.toInt < a.toInt
    · rw [if_pos ((lg_cmp_gt a c).mpr (Int64.lt_iff_toInt_lt.mpr h2)), if_pos (Or.inr h2)]
    · rw [if_neg (fun q => h2 (Int64.lt_iff_toInt_lt.mp ((lg_cmp_gt a c).mp q))), if_neg (by omega)]
theorem tw_in (x : Int32) (n : Nat) (c : Int64) (hc : c.toInt = (n : Int) - 1) : tw_X7_in x.toInt64 0 c = some (b1 (ix x n)) := by
  rw [in_if, ← b1_if, Int32.toInt_toInt64, hc]
  by_cases h : ix x n = true
  · have h1 := ix_iff.mp h
    rw [if_pos h, if_neg (by show ¬ (x.toInt < 0 ∨ _); omega)]
  · have h1 : ¬ (0 ≤ x.toInt ∧ x.toInt < n) := fun q => h (ix_iff.mpr q)
    rw [if_neg h, if_pos (by show x.toInt < 0 ∨ _; omega)]
theorem tw_mCell (x : Int32) : tw_X7_isCell x = some (b1 (ix x 25)) := by
  rw [tw_X7_isCell, tw_in x 25 24 (by decide), Option.bind_some, if_pos (b1_and _)]
theorem sub1_toInt {mb : Nat} (h : mb ≤ 4) : (nI mb - 1).toInt64.toInt = (mb : Int) - 1 := by
  rcases (show mb = 0 ∨ mb = 1 ∨ mb = 2 ∨ mb = 3 ∨ mb = 4 by omega) with rfl | rfl | rfl | rfl | rfl <;> decide
theorem tw_mMarble {mm : Int32} {mb : Nat} (hmm : mm = nI mb) (h4 : mb ≤ 4) (x : Int32) : tw_X7_isMarble mm x = some (b1 (ix x mb)) := by
  rw [tw_X7_isMarble, hmm, tw_in x mb _ (sub1_toInt h4), Option.bind_some, if_pos (b1_and _)]
/-! texts -/
def TXR (tx : Nat → Int32) (le : Int32) (mt : Nat → Int32) (ml : Int32) (n : Nat) : Prop := le = nI n ∧ ml = nI n ∧ n ≤ 48 ∧ ∀ j, j < n → tx j = mt j
theorem upd_lt {f g : Nat → Int32} {n : Nat} (h : ∀ j, j < n → f j = g j) (x : Int32) : ∀ j, j < n + 1 → upd f n x j = upd g n x j := by
  intro j hj
  by_cases hjn : j = n
  · subst hjn; rw [pk_us, pk_us]
  · rw [pk_un hjn, pk_un hjn]; exact h j (by omega)
theorem char_ok : ∀ n, n < 256 → vp_nar .char (((nI n).toUInt32 % 65536).toInt32) = nI n := by
  intro n hn
  have h := sb_byte n hn
  rw [h.2.1, vp_nar_char]
  exact (by decide +kernel : ∀ n, n < 256 → (nI n).toUInt32.toUInt16.toUInt32.toInt32 = nI n) n hn
theorem s_write {tx mt : Nat → Int32} {le ml : Int32} {n : Nat} (h : TXR tx le mt ml n) (x : Int32) : ∃ (r : Int32) (tx' mt' : Nat → Int32) (le' ml' : Int32) (n' : Nat), tw_X6_write tx le x = some (r, tx', le') ∧ tw_X7_write mt ml x = some (r, mt', ml') ∧ TXR tx' le' mt' ml' n' := by
  obtain ⟨h1, h2, h3, h4⟩ := h
  have e1 : tw_X6_write tx le x = if ix x 256 = true then (if le < 48 then (if ix le 48 = true then (some (le + 1, upd tx le.toNatClampNeg (vp_nar .char ((x.toUInt32 % 65536).toInt32)), le + 1)) else none) else (some ((-4), tx, le))) else some (-2, tx, le) := by
    rw [tw_X6_write]
    exact rg_le x 255 (by omega) _ _
  have e2 : tw_X7_write mt ml x = if ix x 256 = true then (if ml = 48 then (some ((-4), mt, ml)) else (if ix ml 48 = true then (some (ml + 1, upd mt ml.toNatClampNeg x, ml + 1)) else none)) else some (-2, mt, ml) := by
    rw [tw_X7_write, tw_in x 256 255 (by decide), Option.bind_some]
    cases ix x 256 <;> rfl
  rw [e1, e2, h1, h2]
  by_cases hx : ix x 256 = true
  · rw [if_pos hx, if_pos hx]
    by_cases hn : n < 48
    · rw [if_pos (show nI n < 48 from nI_lt (b := 48) hn (by omega)), if_neg (show ¬ nI n = 48 from fun q => by have := (nI_eq (a := n) (b := 48) (by omega) (by omega)).mp q; omega), if_pos (ix_nI hn (by omega)), nI_clamp (by omega), nI_1, if_pos (ix_nI hn (by omega))]
      obtain ⟨v, hv, rfl⟩ := ix_of hx (by omega)
      rw [char_ok v hv]
      exact ⟨_, _, _, _, _, n + 1, rfl, rfl, rfl, rfl, by omega, upd_lt h4 _⟩
    · have e : n = 48 := by omega
      subst e
      rw [if_neg (by decide), if_pos (by decide)]
      exact ⟨_, _, _, _, _, 48, rfl, rfl, rfl, rfl, h3, h4⟩
  · rw [if_neg hx, if_neg hx]
    exact ⟨_, _, _, _, _, n, rfl, rfl, rfl, rfl, h3, h4⟩
theorem s_wipe {tx mt : Nat → Int32} {le ml : Int32} {n : Nat} (h : TXR tx le mt ml n) : ∃ (r : Int32), tw_X6_wipe le = some (r, 0) ∧ tw_X7_wipe ml = some (r, 0) ∧ TXR tx 0 mt 0 0 := by
  obtain ⟨h1, h2, h3, h4⟩ := h
  refine ⟨nI n, by rw [tw_X6_wipe, h1], by rw [tw_X7_wipe, h2], rfl, rfl, by omega, fun j hj => by omega⟩
/-! what is seen -/
def SIR (u v w : Nat → Int32) (sn : Int32) (ms : Int32) (mc mw mq : Nat → Int32) (n : Nat) : Prop := sn = nI n ∧ ms = nI n ∧ n ≤ 6 ∧ ∀ j, j < n → u j = mc j ∧ v j = mw j ∧ w j = mq j ∧ (∃ c, c < 25 ∧ u j = nI c) ∧ ∃ y, y < 4 ∧ v j = nI y
theorem s_unsee {u v w : Nat → Int32} {sn ms : Int32} {mc mw mq : Nat → Int32} {n : Nat} (h : SIR u v w sn ms mc mw mq n) : ∃ r : Int32, tw_X6_unsee sn = some (r, 0) ∧ tw_X7_unsee ms = some (r, 0) ∧ SIR u v w 0 0 mc mw mq 0 := by
  obtain ⟨h1, h2, h3, h4⟩ := h
  exact ⟨nI n, by rw [tw_X6_unsee, h1], by rw [tw_X7_unsee, h2], rfl, rfl, by omega, fun j hj => by omega⟩
theorem s_see {u v w : Nat → Int32} {sn ms : Int32} {mc mw mq : Nat → Int32} {n : Nat} (h : SIR u v w sn ms mc mw mq n) (x y z : Int32) : ∃ (r : Int32) (u' v' w' : Nat → Int32) (sn' ms' : Int32) (mc' mw' mq' : Nat → Int32) (n' : Nat), tw_X6_see u v w sn x y z = some (r, u', v', w', sn') ∧ tw_X7_see ms mc mw mq x y z = some (r, ms', mc', mw', mq') ∧ SIR u' v' w' sn' ms' mc' mw' mq' n' := by
  have h0 := h
  obtain ⟨h1, h2, h3, h4⟩ := h
  rw [tw_X6_see, tw_X7_see, tw_isCell, tw_isWay, tw_mCell, Option.bind_some, Option.bind_some, Option.bind_some, tw_in y 4 3 (by decide), Option.bind_some, tw_in z 26 25 (by decide), Option.bind_some]
  cases hx : ix x 25 with
  | false => exact ⟨_, _, _, _, _, _, _, _, _, n, rfl, rfl, h0⟩
  | true =>
    rw [if_neg (b1_ne rfl), if_neg (b1_ne rfl)]
    cases hy : ix y 4 with
    | false => exact ⟨_, _, _, _, _, _, _, _, _, n, rfl, rfl, h0⟩
    | true =>
      rw [if_neg (b1_ne rfl), if_neg (b1_ne rfl)]
      have ez : ∀ {α : Type} (A B : α), (if z < 0 then A else if z ≤ 25 then B else A) = if ix z 26 = true then B else A := by
        intro α A B
        exact rg_le z 25 (by omega) A B
      rw [ez]
      cases hz : ix z 26 with
      | false => exact ⟨_, _, _, _, _, _, _, _, _, n, rfl, rfl, h0⟩
      | true =>
        rw [if_pos rfl, if_neg (b1_ne rfl), tw_X3_add, h1, h2]
        by_cases hn : n < 6
        · have hi : ix (nI n) 6 = true := ix_nI hn (by omega)
          rw [if_pos (show nI n < 6 from nI_lt (b := 6) hn (by omega)), if_neg (show ¬ nI n = 6 from fun q => by have := (nI_eq (a := n) (b := 6) (by omega) (by omega)).mp q; omega), if_pos hi, if_pos hi, if_pos hi, if_pos hi, if_pos hi, if_pos hi, nI_clamp (by omega), nI_1, Option.bind_some]
          obtain ⟨c, hc, rfl⟩ := ix_of hx (by omega)
          obtain ⟨d, hd, rfl⟩ := ix_of hy (by omega)
          refine ⟨_, _, _, _, _, _, _, _, _, n + 1, rfl, rfl, rfl, rfl, by omega, fun j hj => ?_⟩
          by_cases hjn : j = n
          · subst hjn
            dsimp only
            rw [pk_us, pk_us, pk_us, pk_us, pk_us, pk_us]
            exact ⟨rfl, rfl, rfl, ⟨c, hc, rfl⟩, d, hd, rfl⟩
          · dsimp only
            rw [pk_un hjn, pk_un hjn, pk_un hjn, pk_un hjn, pk_un hjn, pk_un hjn]
            exact h4 j (by omega)
        · have e : n = 6 := by omega
          subst e
          rw [if_neg (by decide), if_pos (by decide)]
          exact ⟨_, _, _, _, _, _, _, _, _, 6, rfl, rfl, rfl, rfl, h3, h4⟩
