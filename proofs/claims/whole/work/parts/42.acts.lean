theorem rem14 {a : Nat} (h : a < 1000) : nI a - nI a / 14 * 14 = nI (a % 14) := pk_rem (d := 14) (by omega) (by omega) (by omega)
theorem tw_keep {now row : Nat → Int32} {n x : Nat} (hn : n ≤ 14) (hx : x < 14) : ∃ row', tw_X7_keepAct now (nI n) (nI x) row = some (nI (if n < 14 then n + 1 else 14), nI ((x + 1) % 14), row') ∧ (∀ j, j < 7 → row' (7 * x + j) = now j) ∧ ∀ i, (i < 7 * x ∨ 7 * x + 7 ≤ i) → row' i = row i := by
  refine ⟨fun i => if 7 * x ≤ i ∧ i < 7 * x + 7 then now (i - 7 * x) else row i, ?_, fun j hj => ?_, fun i hi => ?_⟩
  · rw [tw_X7_keepAct, show (7 * nI x + 0 : Int32) = nI (7 * x + 0) from ixm x 0, show (7 * nI x + 1 : Int32) = nI (7 * x + 1) from ixm x 1, show (7 * nI x + 2 : Int32) = nI (7 * x + 2) from ixm x 2, show (7 * nI x + 3 : Int32) = nI (7 * x + 3) from ixm x 3, show (7 * nI x + 4 : Int32) = nI (7 * x + 4) from ixm x 4, show (7 * nI x + 5 : Int32) = nI (7 * x + 5) from ixm x 5, show (7 * nI x + 6 : Int32) = nI (7 * x + 6) from ixm x 6]
    rw [if_pos (ix_nI (by omega) (by omega)), if_pos (ix_nI (by omega) (by omega)), if_pos (ix_nI (by omega) (by omega)), if_pos (ix_nI (by omega) (by omega)), if_pos (ix_nI (by omega) (by omega)), if_pos (ix_nI (by omega) (by omega)), if_pos (ix_nI (by omega) (by omega))]
    rw [nI_clamp (show 7 * x + 0 < 2 ^ 31 by omega), nI_clamp (show 7 * x + 1 < 2 ^ 31 by omega), nI_clamp (show 7 * x + 2 < 2 ^ 31 by omega), nI_clamp (show 7 * x + 3 < 2 ^ 31 by omega), nI_clamp (show 7 * x + 4 < 2 ^ 31 by omega), nI_clamp (show 7 * x + 5 < 2 ^ 31 by omega), nI_clamp (show 7 * x + 6 < 2 ^ 31 by omega), nI_1 x, rem14 (by omega), tw_X7_keepAct_68, tw_X7_keepAct_68]
    have ef : (upd (upd (upd (upd (upd (upd (upd row (7 * x + 0) (now (0 : Int32).toNatClampNeg)) (7 * x + 1) (now (1 : Int32).toNatClampNeg)) (7 * x + 2) (now (2 : Int32).toNatClampNeg)) (7 * x + 3) (now (3 : Int32).toNatClampNeg)) (7 * x + 4) (now (4 : Int32).toNatClampNeg)) (7 * x + 5) (now (5 : Int32).toNatClampNeg)) (7 * x + 6) (now (6 : Int32).toNatClampNeg)) = fun i => if 7 * x ≤ i ∧ i < 7 * x + 7 then now (i - 7 * x) else row i := by
      funext i
      simp only [t0, t1, t2, t3, t4, t5, t6, upd]
      by_cases h : 7 * x ≤ i ∧ i < 7 * x + 7
      · rw [if_pos h]
        rcases (show i = 7 * x + 0 ∨ i = 7 * x + 1 ∨ i = 7 * x + 2 ∨ i = 7 * x + 3 ∨ i = 7 * x + 4 ∨ i = 7 * x + 5 ∨ i = 7 * x + 6 by omega) with rfl | rfl | rfl | rfl | rfl | rfl | rfl <;> simp
      · rw [if_neg h, if_neg (by omega), if_neg (by omega), if_neg (by omega), if_neg (by omega), if_neg (by omega), if_neg (by omega), if_neg (by omega)]
    rw [ef]
    by_cases h : n < 14
    · rw [if_neg (show ¬ (14 : Int32) ≤ nI n from nI_ge (b := 14) h (by omega)), if_pos h, nI_1]
    · rw [if_pos (show (14 : Int32) ≤ nI n from nI_le (a := 14) (by omega) (by omega)), if_neg h]
      rfl
  · show (if 7 * x ≤ 7 * x + j ∧ 7 * x + j < 7 * x + 7 then now (7 * x + j - 7 * x) else row (7 * x + j)) = now j
    rw [if_pos (by omega), Nat.add_sub_cancel_left]
  · show (if 7 * x ≤ i ∧ i < 7 * x + 7 then now (i - 7 * x) else row i) = row i
    rw [if_neg (by omega)]
/-- acts that can be undone: the last of them first -/
def ACR (tr : TrS) (mb : Nat) (acf : Nat → SpS) (aci acn : Int32) (row : Nat → Int32) (ma mx : Int32) (n i x : Nat) : Prop :=
  aci = nI i ∧ acn = nI n ∧ ma = nI n ∧ mx = nI x ∧ i < 14 ∧ n ≤ 14 ∧ x < 14 ∧ ∀ t, t < n → ∃ k, Co tr mb (acf ((i + n - 1 - t) % 14)) row ((x + 13 - t) % 14) k
theorem MR.blk {mb : Nat} {th : Int32} {f g : Nat → Int32} {b c : Nat} {k : KS} (h : MR mb th f b k) (e : ∀ j, j < 7 → g (7 * c + j) = f (7 * b + j)) : MR mb th g c k :=
  ⟨fun j hj => by rw [e j (by omega)]; exact h.1 j hj, by rw [e 4 (by omega)]; exact h.2.1, by rw [e 5 (by omega)]; exact h.2.2.1, h.2.2.2⟩
theorem Co.blk {tr : TrS} {mb : Nat} {sp sq : SpS} {f g : Nat → Int32} {b c : Nat} {k : KS} (h : Co tr mb sp f b k) (e1 : ∀ j, j < 4 → sq.1 j = sp.1 j) (e2 : sq.2 = sp.2) (e : ∀ j, j < 7 → g (7 * c + j) = f (7 * b + j)) : Co tr mb sq g c k :=
  ⟨h.1.take e1 e2, h.2.1, h.2.2.1, h.2.2.2.1.blk e, by rw [e2, h.2.2.2.2, e 6 (by omega)]⟩
/-- an act is remembered on both sides -/
theorem ac_keep {tr : TrS} {mb : Nat} {acf : Nat → SpS} {aci acn : Int32} {row : Nat → Int32} {ma mx : Int32} {n i x : Nat} {no : SpS} {now : Nat → Int32} {k : KS} (h : ACR tr mb acf aci acn row ma mx n i x) (hC : Co tr mb no now 0 k) :
    ∃ (acf' : Nat → SpS) (aci' acn' : Int32) (row' : Nat → Int32) (ma' mx' : Int32) (n' i' x' : Nat), tw_X0_remember acf aci acn no = some (acf', aci', acn') ∧ tw_X7_keepAct now ma mx row = some (ma', mx', row') ∧ ACR tr mb acf' aci' acn' row' ma' mx' n' i' x' := by
  obtain ⟨h1, h2, h3, h4, h5, h6, h7, h8⟩ := h
  obtain ⟨row', r1, r2, r3⟩ := tw_keep (now := now) (row := row) h6 h7
  rw [h1, h2, h3, h4]
  obtain ⟨s', s1, s2, s3⟩ := tw_take (acf ((i + n) % 14)) no
  have e0 : tw_X0_remember acf (nI i) (nI n) no = if n < 14 then some (va_up acf ((i + n) % 14) s', nI i, nI (n + 1)) else some (va_up acf ((i + n) % 14) s', nI ((i + 1) % 14), nI n) := by
    rw [tw_X0_remember, nI_add, rem14 (by omega), if_pos (ix_nI (by omega) (by omega)), nI_clamp (by omega), s1, Option.bind_some, nI_1 i, rem14 (by omega), nI_1 n]
    by_cases hn : n < 14
    · rw [if_neg (show ¬ (14 : Int32) ≤ nI n from nI_ge (b := 14) hn (by omega)), if_pos hn]
    · rw [if_pos (show (14 : Int32) ≤ nI n from nI_le (a := 14) (by omega) (by omega)), if_neg hn]
  rw [e0, r1]
  have key : ∀ (i' n' : Nat), i' < 14 → n' ≤ 14 → (i' + n' - 1) % 14 = (i + n) % 14 → n' ≤ n + 1 → (∀ t, 0 < t → t < n' → (i' + n' - 1 - t) % 14 = (i + n - 1 - (t - 1)) % 14 ∧ (i' + n' - 1 - t) % 14 ≠ (i + n) % 14 ∧ t - 1 < n) → ∀ t, t < n' → ∃ k, Co tr mb (va_up acf ((i + n) % 14) s' ((i' + n' - 1 - t) % 14)) row' (((x + 1) % 14 + 13 - t) % 14) k := by
    intro i' n' hi' hn' he hle ho t ht
    by_cases h0 : t = 0
    · subst h0
      rw [Nat.sub_zero, he, up_s, Nat.sub_zero, show ((x + 1) % 14 + 13) % 14 = x by omega]
      exact ⟨k, hC.blk s2 s3 (fun j hj => by rw [r2 j hj, show 7 * 0 + j = j by omega])⟩
    · obtain ⟨a1, a2, a3⟩ := ho t (by omega) ht
      obtain ⟨k1, hk1⟩ := h8 (t - 1) a3
      rw [up_n a2, a1]
      refine ⟨k1, hk1.blk (fun _ _ => rfl) rfl (fun j hj => ?_)⟩
      rw [show ((x + 1) % 14 + 13 - t) % 14 = (x + 13 - (t - 1)) % 14 by omega]
      exact r3 _ (by omega)
  by_cases hn : n < 14
  · rw [if_pos hn, if_pos hn]
    exact ⟨_, _, _, _, _, _, n + 1, i, (x + 1) % 14, rfl, rfl, rfl, rfl, rfl, rfl, h5, by omega, by omega, key i (n + 1) h5 (by omega) (by omega) (by omega) (fun t t1 t2 => ⟨by omega, by omega, by omega⟩)⟩
  · have e : n = 14 := by omega
    subst e
    rw [if_neg hn, if_neg hn]
    exact ⟨_, _, _, _, _, _, 14, (i + 1) % 14, (x + 1) % 14, rfl, rfl, rfl, rfl, rfl, rfl, by omega, by omega, by omega, key ((i + 1) % 14) 14 (by omega) (by omega) (by omega) (by omega) (fun t t1 t2 => ⟨by omega, by omega, by omega⟩)⟩
theorem ac_none {tr : TrS} {mb : Nat} {acf : Nat → SpS} {row : Nat → Int32} {mx : Int32} {x : Nat} (h : mx = nI x) (hx : x < 14) : ACR tr mb acf 0 0 row 0 mx 0 0 x :=
  ⟨rfl, rfl, rfl, h, by omega, by omega, hx, fun t ht => by omega⟩
/-- tilt -/
theorem s_tilt {tr : TrS} {mb : Nat} {mm : Int32} {mk mt : Nat → Int32} {no : SpS} {now : Nat → Int32} {k : KS} {acf : Nat → SpS} {aci acn : Int32} {row : Nat → Int32} {ma mx : Int32} {n i x : Nat} (hT : RT tr mb mm mk mt) (hC : Co tr mb no now 0 k) (hA : ACR tr mb acf aci acn row ma mx n i x) (sm0 y : Int32) :
    ∃ (r : Int32) (no' : SpS) (acf' : Nat → SpS) (aci' acn' : Int32) (now' : Nat → Int32) (sm' ma' mx' : Int32) (row' : Nat → Int32) (k' : KS) (n' i' x' : Nat), tw_X6_tilt no acf aci acn tr y = some (r, no', acf', aci', acn') ∧ tw_X7_tilt mm mk mt now 15 sm0 ma mx row y = some (r, now', sm', ma', mx', row') ∧ Co tr mb no' now' 0 k' ∧ ACR tr mb acf' aci' acn' row' ma' mx' n' i' x' := by
  rw [tw_X6_tilt, tw_X7_tilt, tw_isWay, Option.bind_some, tw_in y 4 3 (by decide), Option.bind_some]
  cases hy : ix y 4 with
  | false => exact ⟨_, _, _, _, _, _, _, _, _, _, k, n, i, x, rfl, rfl, hC, hA⟩
  | true =>
    obtain ⟨w, hw, rfl⟩ := ix_of hy (by omega)
    rw [if_neg (b1_ne rfl), if_neg (b1_ne rfl)]
    obtain ⟨acf', aci', acn', row', ma', mx', n', i', x', e1, e2, e3⟩ := ac_keep hA hC
    obtain ⟨c1, c2, c3, c4, c5⟩ := hC
    obtain ⟨sp', f1, f2, f3, f4⟩ := c_roll hT.1 hT.2.2.1 hw c1 c2
    obtain ⟨now', sm', g1, g2, g3, g4, g5⟩ := m_tilt hT (show 0 < 2 by omega) hw c2 c4 sm0
    have hR2 : CR (sp'.1, sp'.2.1, sp'.2.2.1, sp'.2.2.2.1, sp'.2.2.2.2 + 1) (tiltK tr mb w k) := f2
    rw [e1, e2, Option.bind_some, Option.bind_some, tw_fallen c1, Option.bind_some, f1, Option.bind_some, tw_fallen hR2, Option.bind_some, show (0 : Int32) = nI 0 from rfl, g1, Option.bind_some]
    refine ⟨_, _, _, _, _, _, _, _, _, _, tiltK tr mb w k, n', i', x', rfl, rfl, ⟨hR2, g3, c3.tilt hT.2.2.1 hw c2, g2, ?_⟩, e3⟩
    show sp'.2.2.2.2 + 1 = now' (7 * 0 + 6)
    rw [g4, f4, c5]
/-- undo -/
theorem s_undo {tr : TrS} {mb : Nat} {no : SpS} {now : Nat → Int32} {k : KS} {acf : Nat → SpS} {aci acn : Int32} {row : Nat → Int32} {ma mx : Int32} {n i x : Nat} (hC : Co tr mb no now 0 k) (hA : ACR tr mb acf aci acn row ma mx n i x) :
    ∃ (r : Int32) (no' : SpS) (acn' : Int32) (now' : Nat → Int32) (ma' mx' : Int32) (k' : KS) (n' x' : Nat), tw_X6_undo no acf aci acn = some (r, no', acn') ∧ tw_X7_undo now ma mx row = some (r, now', ma', mx') ∧ Co tr mb no' now' 0 k' ∧ (∀ j, 7 ≤ j → now' j = now j) ∧ ACR tr mb acf aci acn' row ma' mx' n' i x' := by
  have hA0 := hA
  obtain ⟨h1, h2, h3, h4, h5, h6, h7, h8⟩ := hA
  rw [tw_X6_undo, tw_X0_takeBack, tw_X7_undo, h2, h3]
  by_cases h0 : n = 0
  · subst h0
    rw [if_pos (show nI 0 = 0 from rfl), if_pos (show nI 0 = 0 from rfl)]
    rw [h2, h3] at hA0
    exact ⟨_, _, _, _, _, _, k, 0, x, rfl, rfl, hC, fun _ _ => rfl, hA0⟩
  · have hz : ¬ nI n = 0 := nI_ne0 (by omega) (by omega)
    have e1 : nI n - 1 = nI (n - 1) := by
      have h9 := nI_pred (n - 1)
      rw [show n - 1 + 1 = n by omega] at h9
      exact h9
    have e2 : nI x + 13 = nI (x + 13) := nI_add x 13
    rw [if_neg hz, if_neg hz, h1, h4, e1, nI_add, rem14 (by omega), if_pos (ix_nI (by omega) (by omega)), nI_clamp (by omega), e2, rem14 (by omega)]
    have hx2 : (x + 13) % 14 < 14 := by omega
    generalize hy : (x + 13) % 14 = y at hx2 ⊢
    obtain ⟨s', s1, s2, s3⟩ := tw_take no (acf ((i + (n - 1)) % 14))
    rw [s1, Option.bind_some, Option.bind_some, show (7 * nI y + 0 : Int32) = nI (7 * y + 0) from ixm y 0, show (7 * nI y + 1 : Int32) = nI (7 * y + 1) from ixm y 1, show (7 * nI y + 2 : Int32) = nI (7 * y + 2) from ixm y 2, show (7 * nI y + 3 : Int32) = nI (7 * y + 3) from ixm y 3, show (7 * nI y + 4 : Int32) = nI (7 * y + 4) from ixm y 4, show (7 * nI y + 5 : Int32) = nI (7 * y + 5) from ixm y 5, show (7 * nI y + 6 : Int32) = nI (7 * y + 6) from ixm y 6]
    rw [if_pos (ix_nI (by omega) (by omega)), if_pos (ix_nI (by omega) (by omega)), if_pos (ix_nI (by omega) (by omega)), if_pos (ix_nI (by omega) (by omega)), if_pos (ix_nI (by omega) (by omega)), if_pos (ix_nI (by omega) (by omega)), if_pos (ix_nI (by omega) (by omega))]
    rw [nI_clamp (show 7 * y + 0 < 2 ^ 31 by omega), nI_clamp (show 7 * y + 1 < 2 ^ 31 by omega), nI_clamp (show 7 * y + 2 < 2 ^ 31 by omega), nI_clamp (show 7 * y + 3 < 2 ^ 31 by omega), nI_clamp (show 7 * y + 4 < 2 ^ 31 by omega), nI_clamp (show 7 * y + 5 < 2 ^ 31 by omega), nI_clamp (show 7 * y + 6 < 2 ^ 31 by omega)]
    simp only [t0, t1, t2, t3, t4, t5, t6]
    obtain ⟨k1, hk1⟩ := h8 0 (by omega)
    rw [Nat.sub_zero, Nat.sub_zero, hy, show (i + n - 1) % 14 = (i + (n - 1)) % 14 by omega] at hk1
    refine ⟨_, _, _, _, _, _, k1, n - 1, y, rfl, rfl, hk1.blk s2 s3 (fun j hj => ?_), fun j hj => ?_, rfl, rfl, rfl, rfl, h5, by omega, hx2, fun t ht => ?_⟩
    · rw [show 7 * 0 + j = j by omega]
      simp only [upd]
      rcases (show j = 0 ∨ j = 1 ∨ j = 2 ∨ j = 3 ∨ j = 4 ∨ j = 5 ∨ j = 6 by omega) with rfl | rfl | rfl | rfl | rfl | rfl | rfl <;> simp
    · simp only [upd]
      rw [if_neg (by omega), if_neg (by omega), if_neg (by omega), if_neg (by omega), if_neg (by omega), if_neg (by omega), if_neg (by omega)]
    · obtain ⟨k2, hk2⟩ := h8 (t + 1) (by omega)
      refine ⟨k2, ?_⟩
      rw [show (i + (n - 1) - 1 - t) % 14 = (i + n - 1 - (t + 1)) % 14 by omega, show (y + 13 - t) % 14 = (x + 13 - (t + 1)) % 14 by omega]
      exact hk2
