def beK (df : TrS) (mb : Nat) : KS := (fun j => if j < mb then df.2.2.1 j else -1, 0, 0)
theorem be_step {df : TrS} {mb : Nat} (h1 : df.2.2.2.1 = nI mb) (h4 : mb ≤ 4) (n v : Nat) (hv : v < 4) (sp : SpS) : tw_X4_begin_27 df (n + 1) (nI v) sp = tw_X4_begin_27 df n (nI (v + 1)) (upd sp.1 v ((beK df mb).1 v), sp.2) := by
  rw [tw_X4_begin_27, if_neg (show ¬ (4 : Int32) ≤ nI v from nI_ge (b := 4) hv (by omega)), h1]
  show _ = tw_X4_begin_27 df n (nI (v + 1)) (upd sp.1 v (if v < mb then df.2.2.1 v else -1), sp.2)
  by_cases h : v < mb
  · rw [if_neg (nI_ge h (by omega)), if_pos (ix_nI hv (by omega)), tw_X4_begin_55, if_pos (ix_nI hv (by omega)), nI_clamp (by omega), nI_1, if_pos h]
  · rw [if_pos (nI_le (by omega) (by omega)), tw_X4_begin_55, if_pos (ix_nI hv (by omega)), nI_clamp (by omega), nI_1, if_neg h]
theorem tw_begin {df : TrS} {mb : Nat} (h1 : df.2.2.2.1 = nI mb) (h4 : mb ≤ 4) (sp : SpS) : ∃ s', tw_X4_begin sp df = some s' ∧ (∀ j, j < 4 → s'.1 j = (beK df mb).1 j) ∧ s'.2 = (df.1 0, 0, 0, 0) := by
  have e : tw_X4_begin sp df = tw_X4_begin_27 df 5 (nI 0) (sp.1, df.1 0, 0, 0, 0) := rfl
  rw [e, be_step h1 h4 _ _ (by omega), be_step h1 h4 _ _ (by omega), be_step h1 h4 _ _ (by omega), be_step h1 h4 _ _ (by omega), tw_X4_begin_27, if_pos (by decide)]
  refine ⟨_, rfl, fun j hj => ?_, rfl⟩
  dsimp only
  rcases (show j = 0 ∨ j = 1 ∨ j = 2 ∨ j = 3 by omega) with rfl | rfl | rfl | rfl <;> simp [upd]
theorem t73 (tx : Nat → Int32) (le : Int32) {mb : Nat} (h4 : mb ≤ 4) (told rt rc rk : Nat → Int32) (a fa ac : Int32) (isK : Nat → Int32) : ∀ (f v : Nat) (kind now : Nat → Int32), v ≤ mb → mb - v < f → ∃ kind' now', tw_X7_table_73 tx le f (nI v) (nI mb) kind told now rt rc rk a fa ac isK = some (100 * nI (pop (told 0)) + 10 * nI (pop (told 1)) + nI mb, nI mb, kind', told, now', rt, rc, rk, a, fa, 0, upd (upd isK 0 (vp_nar .boolean 0)) 1 (vp_nar .boolean 0)) ∧ (∀ j, v ≤ j → j < mb → kind' j = rk j ∧ now' j = rc j) ∧ ∀ j, ¬ (v ≤ j ∧ j < mb) → kind' j = kind j ∧ now' j = now j := by
  intro f
  induction f with
  | zero => intro v kind now h1 h2; omega
  | succ f ih =>
    intro v kind now h1 h2
    rw [tw_X7_table_73]
    by_cases hv : v = mb
    · subst hv
      rw [if_pos (nI_le (Nat.le_refl _) (by omega)), t0, t1, tw_ones, Option.bind_some, tw_ones, Option.bind_some]
      exact ⟨_, _, rfl, fun j a b => by omega, fun j _ => ⟨rfl, rfl⟩⟩
    · rw [if_neg (nI_ge (by omega) (by omega)), if_pos (ix_nI (by omega) (by omega)), if_pos (ix_nI (by omega) (by omega)), if_pos (ix_nI (by omega) (by omega)), if_pos (ix_nI (by omega) (by omega)), nI_clamp (by omega), nI_1]
      obtain ⟨kind', now', e1, e2, e3⟩ := ih (v + 1) (upd kind v (rk v)) (upd now v (rc v)) (by omega) (by omega)
      refine ⟨kind', now', e1, fun j a b => ?_, fun j hj => ?_⟩
      · by_cases q : j = v
        · subst q
          obtain ⟨x1, x2⟩ := e3 j (by omega)
          rw [x1, x2, pk_us, pk_us]
          exact ⟨rfl, rfl⟩
        · exact e2 j (by omega) b
      · obtain ⟨x1, x2⟩ := e3 j (by omega)
        rw [x1, x2, pk_un (by omega), pk_un (by omega)]
        exact ⟨rfl, rfl⟩
theorem be_Co {df : TrS} {rt rc rk : Nat → Int32} {mb : Nat} {sp : SpS} {now : Nat → Int32} (hD : DR df rt rc rk mb) (e1 : ∀ j, j < 4 → sp.1 j = (beK df mb).1 j) (e2 : sp.2 = (df.1 0, 0, 0, 0)) (n1 : ∀ j, j < mb → now j = rc j) (n2 : now 4 = 0) (n3 : now 5 = 0) (n4 : now 6 = 0) : Co df mb sp now 0 (beK df mb) := by
  obtain ⟨h1, h2, h3, h4, h5, h6, h7, h8, h9, h10⟩ := hD
  have st : ∀ j, j < mb → (beK df mb).1 j = df.2.2.1 j := fun j hj => if_pos hj
  have aw : ∀ j, ¬ j < mb → (beK df mb).1 j = -1 := fun j hj => if_neg hj
  refine ⟨⟨e1, by rw [e2]; rfl, by rw [e2]; rfl, fun c hc => ?_⟩, ⟨fun j hj => ?_, fun i j hi hj hij c hc a b => ?_⟩, ⟨fun c hc q => ?_, fun c hc => b_0 c, ?_⟩, ⟨fun j hj => ?_, ?_, ?_, fun j hj _ => ?_⟩, ?_⟩
  · rw [e2]
    show bt (df.1 0) c = _
    by_cases hc5 : c < 25
    · rw [decide_eq_true hc5, Bool.true_and]
      apply Bool.eq_iff_iff.mpr
      rw [h8 c hc5, occ_iff]
      constructor
      · rintro ⟨j, hj, q⟩
        exact ⟨j, by omega, (st j hj).trans q⟩
      · rintro ⟨j, hj, q⟩
        by_cases hm : j < mb
        · exact ⟨j, hm, (st j hm).symm.trans q⟩
        · rw [aw j hm] at q
          exact absurd q (m_ne_c c hc5)
    · rw [decide_eq_false hc5, Bool.false_and]
      exact h5 0 (by omega) c (by omega)
  · by_cases hm : j < mb
    · obtain ⟨c, hc, q⟩ := h9 j hm
      exact Or.inr (Or.inl ⟨c, hc, (st j hm).trans q⟩)
    · exact Or.inl (aw j hm)
  · by_cases hi' : i < mb
    · by_cases hj' : j < mb
      · rw [st i hi'] at a
        rw [st j hj'] at b
        exact h10 i j hi' hj' hij (a.trans b.symm)
      · rw [aw j hj'] at b
        exact m_ne_c c hc b
    · rw [aw i hi'] at a
      exact m_ne_c c hc a
  · have q : bt 0 c = true := q
    rw [b_0] at q
    cases q
  · show pop 0 ≤ 3
    rw [pop_0]; omega
  · rw [show 7 * 0 + j = j by omega]
    by_cases hm : j < mb
    · rw [if_pos ⟨hm, b15 j hj⟩, st j hm, n1 j hm, (h7 j hm).1]
    · rw [if_neg (fun q => hm q.1), aw j hm]
  · exact n2.symm
  · exact n3.symm
  · obtain ⟨c, hc, q⟩ := h9 j hj
    rw [st j hj, q]
    exact o1_m c hc
  · rw [e2]; exact n4.symm
/-- table -/
theorem s_table {tx mx : Nat → Int32} {le ml : Int32} {n : Nat} (hX : TXR tx le mx ml n) (no : SpS) (aci acn : Int32) (xt : Nat) (df : TrS) (xd : Nat) (kp : Int32) (mm : Int32) (mk mt now rt rc rk : Nat → Int32) (a0 f0 ma : Int32) (isK : Nat → Int32) :
    ∃ (r : Int32) (no' : SpS) (aci' acn' : Int32) (xt' : Nat) (df' : TrS) (xd' : Nat) (kp' mm' : Int32) (mk' mt' now' rt' rc' rk' : Nat → Int32) (a' f' ma' : Int32) (isK' : Nat → Int32), tw_X6_table tx no aci acn xt df xd le kp = some (r, no', aci', acn', xt', df', xd', kp') ∧ tw_X7_table mm mk mt now rt rc rk mx ml a0 f0 ma isK = some (r, mm', mk', mt', now', rt', rc', rk', a', f', ma', isK') ∧
    ((no' = no ∧ aci' = aci ∧ acn' = acn ∧ xt' = xt ∧ xd' = xd ∧ kp' = kp ∧ mm' = mm ∧ mk' = mk ∧ mt' = mt ∧ now' = now ∧ ma' = ma ∧ isK' = isK) ∨ (aci' = 0 ∧ acn' = 0 ∧ xt' = xd ∧ xd' = xt ∧ kp' = 0 ∧ ma' = 0 ∧ (∀ j, j < 2 → isK' j = 0) ∧ ∃ mb, RT df' mb mm' mk' mt' ∧ Co df' mb no' now' 0 (beK df' mb))) := by
  obtain ⟨r, df', rt', rc', rk', a', f', e1, e2, e3⟩ := s_read hX df rt rc rk a0 f0
  rw [tw_X6_table, tw_X7_table, e1, e2, Option.bind_some, Option.bind_some]
  dsimp only
  by_cases hr : r = -9
  · rw [if_pos hr, if_pos hr]
    obtain ⟨mb, hD⟩ := e3 hr
    have hD0 := hD
    obtain ⟨h1, h2, h3, h4, h5, h6, h7, h8, h9, h10⟩ := hD
    obtain ⟨s', b1, b2, b3⟩ := tw_begin h1 h2 no
    have eT : ∀ p, p < 5 → (upd (upd (upd (upd (upd mt 0 (rt' 0)) 1 (rt' 1)) 2 (rt' 2)) 3 (rt' 3)) 4 (rt' 4)) p = rt' p := by
      intro p hp
      simp only [upd]
      rcases (show p = 0 ∨ p = 1 ∨ p = 2 ∨ p = 3 ∨ p = 4 by omega) with rfl | rfl | rfl | rfl | rfl <;> simp
    have eN : ∀ p, p < 7 → (upd (upd (upd (upd (upd (upd (upd now 0 0) 1 0) 2 0) 3 0) 4 0) 5 0) 6 0) p = 0 := by
      intro p hp
      simp only [upd]
      rcases (show p = 0 ∨ p = 1 ∨ p = 2 ∨ p = 3 ∨ p = 4 ∨ p = 5 ∨ p = 6 by omega) with rfl | rfl | rfl | rfl | rfl | rfl | rfl <;> simp
    rw [b1, Option.bind_some, tw_X0_forget, Option.bind_some, t0, t1, t2, t3, t4, t5, t6, tw_bitCount (h5 1 (by omega)), Option.bind_some, tw_bitCount (h5 2 (by omega)), Option.bind_some]
    generalize hT : upd (upd (upd (upd (upd mt 0 (rt' 0)) 1 (rt' 1)) 2 (rt' 2)) 3 (rt' 3)) 4 (rt' 4) = T at eT ⊢
    generalize hN : upd (upd (upd (upd (upd (upd (upd now 0 0) 1 0) 2 0) 3 0) 4 0) 5 0) 6 0 = N at eN ⊢
    have q4 : T 4 = df'.1 0 := (eT 4 (by omega)).trans (h4 0 (by omega))
    have q0 : T 0 = df'.1 1 := (eT 0 (by omega)).trans (h4 1 (by omega))
    have q1 : T 1 = df'.1 2 := (eT 1 (by omega)).trans (h4 2 (by omega))
    have q2 : T 2 = df'.1 3 := (eT 2 (by omega)).trans (h4 3 (by omega))
    have q3 : T 3 = df'.1 4 := (eT 3 (by omega)).trans (h4 4 (by omega))
    rw [q4, tw_ones, Option.bind_some, h3, h1]
    obtain ⟨kind', now', k1, k2, k3⟩ := t73 mx ml h2 T rt' rc' rk' a' f' ma isK 6 0 mk N (by omega) (by omega)
    rw [show tw_X7_table_73 mx ml 6 0 (nI mb) mk T N rt' rc' rk' a' f' ma isK = _ from k1, q0, q1]
    refine ⟨_, _, _, _, _, _, _, _, _, _, _, _, _, _, _, _, _, _, _, rfl, rfl, Or.inr ⟨rfl, rfl, rfl, rfl, rfl, rfl, fun j hj => ?_, mb, ?_, ?_⟩⟩
    · rcases (show j = 0 ∨ j = 1 by omega) with rfl | rfl <;> simp [upd] <;> decide
    · exact ⟨h1, rfl, h2, fun j hj => (k2 j (by omega) hj).1.trans (h7 j hj).2, q0, q1, q2, q3, q4, h6, h5⟩
    · exact be_Co hD0 b2 b3 (fun j hj => (k2 j (by omega) hj).2) ((k3 4 (by omega)).2.trans (eN 4 (by omega))) ((k3 5 (by omega)).2.trans (eN 5 (by omega))) ((k3 6 (by omega)).2.trans (eN 6 (by omega)))
  · rw [if_neg hr, if_neg hr]
    exact ⟨_, _, _, _, _, _, _, _, _, _, _, _, _, _, _, _, _, _, _, rfl, rfl, Or.inl ⟨rfl, rfl, rfl, rfl, rfl, rfl, rfl, rfl, rfl, rfl, rfl, rfl⟩⟩
