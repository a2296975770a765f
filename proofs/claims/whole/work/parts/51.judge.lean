/-! told doings -/
theorem b1_eq {a b : Bool} : b1 a = b1 b ↔ a = b := by cases a <;> cases b <;> decide
theorem j_do {tr : TrS} {mm : Int32} {mk mt : Nat → Int32} {mb : Nat} {sp : SpS} {now : Nat → Int32} {k : KS} (hT : RT tr mb mm mk mt) (h : Tk tr mb sp now k) {t : Nat} (ht : t < 1000) (sm : Int32) :
    ∃ (b : Bool) (sp' : SpS) (now' : Nat → Int32) (sm' : Int32) (k' : KS), tw_X6_doTold sp tr (nI t) = some (b1 b, sp') ∧ tw_X7_tryThing mm mk mt now 15 sm (nI (t / 100)) (nI (t % 100)) = some (b1 b, now', sm') ∧ Tk tr mb sp' now' k' ∧ ∀ i, i < 7 → now' i = now i := by
  have h0 := h
  obtain ⟨c1, c2, c3, c4⟩ := h
  have h4 := hT.2.2.1
  have e1 : nI t / 100 = nI (t / 100) := pk_div (d := 100) (by omega) (by omega) (by omega)
  have e2 : nI t - nI t / 100 * 100 = nI (t % 100) := pk_rem (d := 100) (by omega) (by omega) (by omega)
  have hr : t % 100 < 100 := Nat.mod_lt _ (by omega)
  rw [tw_X6_doTold, e2, e1]
  rw [tw_X7_tryThing]
  generalize t % 100 = r at hr ⊢
  generalize t / 100 = g
  by_cases g0 : nI g = 0
  · rw [if_pos g0, if_pos g0, tw_isWay, Option.bind_some]
    by_cases hw : r < 4
    · rw [ix_nI hw (by omega), if_neg (b1_ne rfl), if_neg (show ¬ (4 : Int32) ≤ nI r from nI_ge (b := 4) hw (by omega)), tw_X7_tryThing_38, if_neg (by decide)]
      obtain ⟨sp1, r1, now1, sm1, w1, w2, w3, w4⟩ := h0.tilt hT hw sm
      rw [w1, w2, Option.bind_some, Option.bind_some, if_pos (by decide)]
      exact ⟨true, _, _, _, _, rfl, rfl, w3, w4⟩
    · have hf : ix (nI r) 4 = false := ix_f (fun q => by have := (ix_iff.mp q).2; rw [nI_toInt (by omega)] at this; omega)
      rw [hf, if_pos (by decide), if_pos (show (4 : Int32) ≤ nI r from nI_le (a := 4) (by omega) (by omega)), tw_X7_tryThing_38, if_pos rfl, if_pos (by decide)]
      exact ⟨false, _, _, _, k, rfl, rfl, h0, fun _ _ => rfl⟩
  · rw [if_neg g0, if_neg g0]
    by_cases g1 : nI g = 1
    · rw [if_pos g1, if_pos g1]
      obtain ⟨b, sp1, now1, k1, w1, w2, w3, w4⟩ := h0.wedge hT (nI r)
      rw [w1, w2, Option.bind_some, Option.bind_some]
      dsimp only
      rw [if_pos (b1_and b), if_pos (b1_and b)]
      exact ⟨b, _, _, _, k1, rfl, rfl, w3, w4⟩
    · rw [if_neg g1, if_neg g1]
      by_cases g2 : nI g = 2
      · have e3 : nI r / 10 = nI (r / 10) := pk_div (d := 10) (by omega) (by omega) (by omega)
        have e4 : nI r - nI r / 10 * 10 = nI (r % 10) := pk_rem (d := 10) (by omega) (by omega) (by omega)
        rw [if_pos g2, if_pos g2, e4, e3, tw_X6_isSo, tw_hasM hT.1 h4, Option.bind_some, tw_mMarble hT.2.1 h4, Option.bind_some]
        have hq : r % 10 < 10 := Nat.mod_lt _ (by omega)
        by_cases hm : r / 10 < mb
        · have hx : ix (nI (r / 10)) mb = true := ix_nI hm (by omega)
          have en : now (7 + r / 10) = k.1 (r / 10) := c4.now hm h4
          rw [hx, if_neg (b1_ne rfl), if_neg (b1_ne rfl), tw_isIn (show r / 10 < 4 by omega), Option.bind_some, c1.1 _ (show r / 10 < 4 by omega), tw_X6_isSo_28, tw_X6_isSo_28, add7, if_pos (ix_nI (show 7 + r / 10 < 14 by omega) (by omega)), nI_clamp (by omega), en, tw_X7_tryThing_99, tw_X7_tryThing_99, tw_X7_tryThing_112, tw_X7_tryThing_112, tw_X7_tryThing_112, tw_X7_tryThing_112, e4]
          generalize hz : r % 10 = z at hq ⊢
          have k0 : nI z = 0 ↔ z = 0 := nI_eq (b := 0) (by omega) (by omega)
          have k1 : nI z = 1 ↔ z = 1 := nI_eq (b := 1) (by omega) (by omega)
          unfold inH
          by_cases hi : k.1 (r / 10) < 100
          · rw [if_pos hi, if_pos (by simp [hi, b1])]
            by_cases z0 : z = 0
            · subst z0
              refine ⟨true, _, _, _, k, rfl, rfl, h0, fun _ _ => rfl⟩
            · rw [if_neg (fun q => z0 (k0.mp q))]
              by_cases z1 : z = 1
              · subst z1
                refine ⟨false, _, _, _, k, rfl, rfl, h0, fun _ _ => rfl⟩
              · rw [if_pos (show (2 : Int32) ≤ nI z from nI_le (a := 2) (by omega) (by omega))]
                exact ⟨false, _, _, _, k, rfl, rfl, h0, fun _ _ => rfl⟩
          · rw [if_neg hi, if_neg (by simp [hi, b1])]
            by_cases z1 : z = 1
            · subst z1
              refine ⟨true, _, _, _, k, rfl, rfl, h0, fun _ _ => rfl⟩
            · rw [if_neg (fun q => z1 (k1.mp q))]
              by_cases z0 : z = 0
              · subst z0
                refine ⟨false, _, _, _, k, rfl, rfl, h0, fun _ _ => rfl⟩
              · rw [if_pos (show (2 : Int32) ≤ nI z from nI_le (a := 2) (by omega) (by omega))]
                exact ⟨false, _, _, _, k, rfl, rfl, h0, fun _ _ => rfl⟩
        · have hf : ix (nI (r / 10)) mb = false := ix_f (fun q => by have := (ix_iff.mp q).2; rw [nI_toInt (by omega)] at this; omega)
          rw [hf, if_pos (by decide), if_pos (by decide)]
          exact ⟨false, _, _, _, k, rfl, rfl, h0, fun _ _ => rfl⟩
      · rw [if_neg g2, if_neg g2]
        exact ⟨false, _, _, _, k, rfl, rfl, h0, fun _ _ => rfl⟩
theorem tw_thou : ∀ M, M < 5 → tw_X7_thousandTo (nI M) = some (lN (1000 ^ M)) := by decide +kernel
theorem pw_lt : ∀ M, M < 5 → 1000 ^ M < 2 ^ 62 ∧ 0 < 1000 ^ M := by decide +kernel
theorem j_loop {tr : TrS} {mm : Int32} {mk mt : Nat → Int32} {mb : Nat} {no : SpS} {M R : Nat} (hT : RT tr mb mm mk mt) (hM : M < 5) (hR : R < 2 ^ 62) : ∀ (n v : Nat) (sp : SpS) (now : Nat → Int32) (sm : Int32) (k : KS), v ≤ M → M - v < n → Tk tr mb sp now k → ∃ (r : Int32) (sp' : SpS) (now' : Nat → Int32) (sm' : Int32), tw_X6_judge_69 no tr (nI M) (lN R) n (lN (1000 ^ (M - v))) (nI v) sp = some (r, sp') ∧ tw_X7_judge_36 mm mk mt 15 (nI M) (lN R) n (nI v) now sm = some (r, now', sm') ∧ ∀ i, i < 7 → now' i = now i := by
  intro n
  induction n with
  | zero => intro v sp now sm k h1 h2; omega
  | succ n ih =>
    intro v sp now sm k h1 h2 hk
    rw [tw_X6_judge_69, tw_X7_judge_36]
    by_cases hv : v = M
    · subst hv
      rw [if_pos (nI_le (Nat.le_refl _) (by omega)), if_pos (nI_le (Nat.le_refl _) (by omega))]
      exact ⟨_, _, _, _, rfl, rfl, fun _ _ => rfl⟩
    · have e1 : (nI M - 1) - nI v = nI (M - 1 - v) := by
        rw [show nI M - 1 = nI (M - 1) from pk_sub (b := 1) (by omega)]
        exact pk_sub (by omega)
      obtain ⟨p1, p2⟩ := pw_lt (M - 1 - v) (by omega)
      obtain ⟨p3, p4⟩ := pw_lt (M - v) (by omega)
      have e2 : lN (1000 ^ (M - v)) / 1000 = lN (1000 ^ (M - 1 - v)) := by
        rw [show (1000 : Int64) = lN 1000 from rfl, pk_lDiv (by omega) (by omega) (by omega), show M - v = (M - 1 - v) + 1 by omega, Nat.pow_succ, Nat.mul_div_cancel _ (by omega)]
      have e3 : ¬ lN (1000 ^ (M - 1 - v)) = 0 := fun q => by
        have := (pk_lEQ (a := 1000 ^ (M - 1 - v)) (b := 0) (by omega) (by omega)).mp q
        omega
      have hq : R / 1000 ^ (M - 1 - v) < 2 ^ 62 := Nat.lt_of_le_of_lt (Nat.div_le_self _ _) hR
      have e4 : ((lN R / lN (1000 ^ (M - 1 - v))) - (lN R / lN (1000 ^ (M - 1 - v))) / 1000 * 1000).toInt32 = nI (R / 1000 ^ (M - 1 - v) % 1000) := by
        rw [pk_lDiv (by omega) p2 (by omega), show (1000 : Int64) = lN 1000 from rfl, pk_lRem (by omega) (by omega) (by omega), lN_i]
      rw [if_neg (nI_ge (by omega) (by omega)), if_neg (nI_ge (by omega) (by omega)), e2, if_pos e3, e1, tw_thou _ (by omega), Option.bind_some, if_pos e3, e4]
      have ht : R / 1000 ^ (M - 1 - v) % 1000 < 1000 := Nat.mod_lt _ (by omega)
      generalize R / 1000 ^ (M - 1 - v) % 1000 = t at ht ⊢
      rw [show nI t / 100 = nI (t / 100) from pk_div (d := 100) (by omega) (by omega) (by omega), show nI t - nI (t / 100) * 100 = nI (t % 100) by rw [← show nI t / 100 = nI (t / 100) from pk_div (d := 100) (by omega) (by omega) (by omega)]; exact pk_rem (d := 100) (by omega) (by omega) (by omega)]
      obtain ⟨b, sp1, now1, sm1, k1, w1, w2, w3, w4⟩ := j_do hT hk ht sm
      rw [w1, w2, Option.bind_some, Option.bind_some, nI_1]
      cases b with
      | false => exact ⟨_, _, _, _, rfl, rfl, w4⟩
      | true =>
        rw [if_neg (b1_ne rfl), if_neg (b1_ne rfl)]
        obtain ⟨r, sp', now', sm', g1, g2, g3⟩ := ih (v + 1) sp1 now1 sm1 k1 (by omega) (by omega) w3
        rw [show M - (v + 1) = M - 1 - v by omega] at g1
        exact ⟨r, sp', now', sm', g1, g2, fun i hi => (g3 i hi).trans (w4 i hi)⟩
theorem j_part {no : SpS} {tr : TrS} {p2 : Int64} {M : Nat} (hM : M < 5) (sr : SpS) : ∀ (n v : Nat), v ≤ M → M - v < n → tw_X6_judge_25 no tr (nI M) p2 n (lN (1000 ^ v)) (nI v) sr = if p2 < lN (1000 ^ M) then ((tw_X4_take sr no).bind (fun q7 => tw_X6_judge_69 no tr (nI M) p2 6 (lN (1000 ^ M)) 0 q7)) else some (-2, sr) := by
  intro n
  induction n with
  | zero => intro v h1 h2; omega
  | succ n ih =>
    intro v h1 h2
    rw [tw_X6_judge_25]
    by_cases hv : v = M
    · subst hv
      rw [if_pos (nI_le (Nat.le_refl _) (by omega))]
      by_cases h : p2 < lN (1000 ^ v)
      · rw [if_pos ((lg_cmp_lt _ _).mpr h), if_pos h]
      · rw [if_neg (fun q => h ((lg_cmp_lt _ _).mp q)), if_neg h]
    · rw [if_neg (nI_ge (by omega) (by omega)), show lN (1000 ^ v) * 1000 = lN (1000 ^ (v + 1)) by rw [Nat.pow_succ]; exact lN_mul _ 1000, nI_1]
      exact ih (v + 1) (by omega) (by omega)
/-- judge -/
theorem s_judge {tr : TrS} {mb : Nat} {mm : Int32} {mk mt : Nat → Int32} {no : SpS} {now : Nat → Int32} {k : KS} (hT : RT tr mb mm mk mt) (hC : Co tr mb no now 0 k) (sr : SpS) (sm y : Int32) (p : Int64) : ∃ (r : Int32) (sr' : SpS) (now' : Nat → Int32) (sm' : Int32), tw_X6_judge no sr tr y p = some (r, sr') ∧ tw_X7_judge mm mk mt now 15 sm y p = some (r, now', sm') ∧ ∀ i, i < 7 → now' i = now i := by
  obtain ⟨s', q, e1, e2, e3, e4⟩ := Tk.lay (sr := sr) hC
  have ej : tw_X6_judge no sr tr y p = if (1 ≤ y.toInt ∧ y.toInt ≤ (4 : Nat)) then (if 0 ≤ p then tw_X6_judge_25 no tr y p 6 1 0 sr else some (-2, sr)) else some (-2, sr) := by
    rw [tw_X6_judge, ← rg1 y 4 (by omega)]
    by_cases a1 : y < 1
    · rw [if_pos a1, if_pos a1]
    · rw [if_neg a1, if_neg a1]
      have a2 : (4 : Int32) < y ↔ ¬ y ≤ nI 4 := by
        rw [Int32.lt_iff_toInt_lt, Int32.le_iff_toInt_le]
        show (4 : Int) < y.toInt ↔ ¬ y.toInt ≤ 4
        omega
      by_cases a3 : y ≤ nI 4
      · rw [if_neg (fun z => a2.mp z a3), if_pos a3]
        by_cases a4 : 0 ≤ p
        · rw [if_pos ((lg_cmp_ge p 0).mpr a4), if_pos a4]
        · rw [if_neg (fun z => a4 ((lg_cmp_ge p 0).mp z)), if_neg a4]
      · rw [if_pos (a2.mpr a3), if_neg a3]
  rw [ej, tw_X7_judge, in1 y 4 4 (by decide), Option.bind_some]
  by_cases h : 1 ≤ y.toInt ∧ y.toInt ≤ (4 : Nat)
  · obtain ⟨M, hM1, hM2, rfl⟩ := of1 h (by omega)
    rw [if_pos h, decide_eq_true h, if_neg (b1_ne rfl), tw_thou M (by omega), Option.bind_some, show (1 : Int64) = lN 1 from rfl]
    obtain ⟨p3, p4⟩ := pw_lt M (by omega)
    have ep : lN (1000 ^ M) - lN 1 = lN (1000 ^ M - 1) := lN_sub (by omega)
    have ei : tw_X7_in p 0 (lN (1000 ^ M) - lN 1) = some (b1 (decide (0 ≤ p.toInt ∧ p.toInt < (1000 ^ M : Nat)))) := by
      rw [in_if, ep, pk_lT (by omega), show (0 : Int64).toInt = 0 from rfl]
      by_cases z : 0 ≤ p.toInt ∧ p.toInt < (1000 ^ M : Nat)
      · rw [if_neg (by omega), decide_eq_true z]; rfl
      · rw [if_pos (by omega), decide_eq_false z]; rfl
    rw [ei, Option.bind_some, show tw_X6_judge_25 no tr (nI M) p 6 (lN 1) 0 sr = _ from j_part (by omega) sr 6 0 (by omega) (by omega)]
    by_cases z : 0 ≤ p.toInt ∧ p.toInt < (1000 ^ M : Nat)
    · obtain ⟨R, hR, rfl⟩ : ∃ R, R < 2 ^ 62 ∧ p = lN R := by
        refine ⟨p.toInt.toNat, by omega, ?_⟩
        apply Int64.toInt_inj.mp
        rw [pk_lT (by omega)]
        omega
      have z1 : 0 ≤ lN R := by
        rw [Int64.le_iff_toInt_le]
        exact z.1
      have z2 : lN R < lN (1000 ^ M) := by
        rw [Int64.lt_iff_toInt_lt, pk_lT (n := 1000 ^ M) (by omega)]
        exact z.2
      rw [decide_eq_true z, if_neg (b1_ne rfl), if_pos z1, if_pos z2, e1, e2, Option.bind_some, Option.bind_some]
      obtain ⟨r, sp', now', sm', g1, g2, g3⟩ := j_loop (no := no) hT (show M < 5 by omega) hR 6 0 s' q sm k (by omega) (by omega) e3
      exact ⟨r, sp', now', sm', g1, g2, fun i hi => (g3 i hi).trans (e4 i hi)⟩
    · rw [decide_eq_false z, if_pos (show b1 false = 0 by decide)]
      by_cases z1 : 0 ≤ p
      · have z1' : 0 ≤ p.toInt := Int64.le_iff_toInt_le.mp z1
        rw [if_pos z1, if_neg (fun w => by rw [Int64.lt_iff_toInt_lt, pk_lT (n := 1000 ^ M) (by omega)] at w; exact z ⟨z1', w⟩)]
        exact ⟨_, _, _, _, rfl, rfl, fun _ _ => rfl⟩
      · rw [if_neg z1]
        exact ⟨_, _, _, _, rfl, rfl, fun _ _ => rfl⟩
  · rw [if_neg h, decide_eq_false h, if_pos (by decide)]
    exact ⟨_, _, _, _, rfl, rfl, fun _ _ => rfl⟩
