/-! longs as numbers: the printed family, to paste -/
theorem wb_tb (n : Nat) : (lN n).toBitVec = BitVec.ofNat 64 n := rfl
theorem wb_inj {a b : Int64} (h : a.toBitVec = b.toBitVec) : a = b := Int64.toBitVec_inj.mp h
theorem wb_tn {n : Nat} (h : n < 2 ^ 64) : (lN n).toBitVec.toNat = n := by rw [wb_tb, BitVec.toNat_ofNat, Nat.mod_eq_of_lt h]
theorem wb_of (x : Int64) : ∃ n, n < 2 ^ 64 ∧ x = lN n := ⟨x.toBitVec.toNat, x.toBitVec.isLt, wb_inj (by rw [wb_tb]; simp)⟩
theorem wb_of32 (x : Int32) : ∃ n, n < 2 ^ 32 ∧ x = nI n := ⟨x.toBitVec.toNat, x.toBitVec.isLt, Int32.toBitVec_inj.mp (by show _ = BitVec.ofNat 32 _; simp)⟩
theorem wb_c : ∀ k, k < 64 → ((nI k).toInt64 &&& 63) = lN k := by decide +kernel
theorem wb_cu : ∀ k, k < 64 → ((nI k).toInt64.toUInt64 &&& Int64.toUInt64 63) = UInt64.ofNat k := by decide +kernel
theorem wb_sm : ∀ k, k < 64 → (BitVec.ofNat 64 k).smod 64 = BitVec.ofNat 64 k := by decide +kernel
theorem wb_pw {a b : Nat} (h : a ≤ b) : 2 ^ b = 2 ^ a * 2 ^ (b - a) := by rw [← Nat.pow_add]; congr 1; omega
theorem wb_lt2 {a b : Nat} (h : a < b) : 2 ^ a < 2 ^ b := Nat.pow_lt_pow_right (by decide) h
theorem wb_mod (n : Nat) : lN n = lN (n % 2 ^ 64) := wb_inj (by rw [wb_tb, wb_tb]; apply BitVec.eq_of_toNat_eq; rw [BitVec.toNat_ofNat, BitVec.toNat_ofNat, Nat.mod_mod])
theorem wb_shr {n k : Nat} (hn : n < 2 ^ 64) (hk : k < 64) : ((lN n).toUInt64 >>> ((nI k).toInt64.toUInt64 &&& Int64.toUInt64 63)).toInt64 = lN (n / 2 ^ k) := by
  rw [wb_cu k hk]
  apply wb_inj
  apply BitVec.eq_of_toNat_eq
  show ((lN n).toUInt64 >>> UInt64.ofNat k).toNat = (BitVec.ofNat 64 _).toNat
  have h1 : (UInt64.ofNat k).toNat = k := by
    show (BitVec.ofNat 64 k).toNat = k
    rw [BitVec.toNat_ofNat, Nat.mod_eq_of_lt (by omega)]
  have h2 : (lN n).toUInt64.toNat = n := wb_tn hn
  rw [UInt64.toNat_shiftRight, h1, h2, Nat.mod_eq_of_lt hk, Nat.shiftRight_eq_div_pow, BitVec.toNat_ofNat, Nat.mod_eq_of_lt (Nat.lt_of_le_of_lt (Nat.div_le_self _ _) hn)]
/-- a trial: spare spot and block 1 hold the same k -/
def Tk (tr : TrS) (mb : Nat) (sp : SpS) (now : Nat → Int32) (k : KS) : Prop := CR sp k ∧ VK k ∧ WK tr k ∧ MR mb 15 now 1 k
theorem Tk.lay {tr : TrS} {mb : Nat} {no sr : SpS} {now : Nat → Int32} {k : KS} (hC : Co tr mb no now 0 k) : ∃ s' q, tw_X4_take sr no = some s' ∧ tw_X7_layTrial now = some q ∧ Tk tr mb s' q k ∧ ∀ i, i < 7 → q i = now i := by
  obtain ⟨s', e1, e2, e3⟩ := tw_take sr no
  obtain ⟨q, f1, f2, f3⟩ := tw_lay now
  exact ⟨s', q, e1, f1, ⟨hC.1.take e2 e3, hC.2.1, hC.2.2.1, hC.2.2.2.1.lay f2⟩, fun i hi => f3 i (by omega)⟩
theorem xor_0 (x : Int32) : x ^^^ 0 = x := by
  apply b_ext
  intro i _
  rw [b_xor, b_0, Bool.xor_false]
theorem Tk.tilt {tr : TrS} {mm : Int32} {mk mt : Nat → Int32} {mb w : Nat} {sp : SpS} {now : Nat → Int32} {k : KS} (hT : RT tr mb mm mk mt) (hw : w < 4) (h : Tk tr mb sp now k) (sm : Int32) : ∃ sp' r now' sm', tw_X5_roll tr sp (nI w) = some sp' ∧ tw_X7_tiltOn mm mk mt now 15 sm 1 (nI w) = some (r, now', sm') ∧ Tk tr mb sp' now' (tiltK tr mb w k) ∧ ∀ i, i < 7 → now' i = now i := by
  obtain ⟨c1, c2, c3, c4⟩ := h
  obtain ⟨sp', e1, e2, e3, e4⟩ := c_roll hT.1 hT.2.2.1 hw c1 c2
  obtain ⟨now', sm', f1, f2, f3, f4, f5⟩ := m_tilt (b := 1) hT (by omega) hw c2 c4 sm
  exact ⟨sp', _, now', sm', e1, f1, ⟨e2, e3, c3.tilt hT.2.2.1 hw c2, f2⟩, fun i hi => f5 i (by omega)⟩
theorem Tk.wedge {tr : TrS} {mm : Int32} {mk mt : Nat → Int32} {mb : Nat} {sp : SpS} {now : Nat → Int32} {k : KS} (hT : RT tr mb mm mk mt) (h : Tk tr mb sp now k) (x : Int32) : ∃ (b : Bool) (sp' : SpS) (now' : Nat → Int32) (k' : KS), tw_X5_turnWedge tr sp x = some (b1 b, sp') ∧ tw_X7_wedgeTrial mm mt now 15 x = some (b1 b, now') ∧ Tk tr mb sp' now' k' ∧ ∀ i, i < 7 → now' i = now i := by
  have h0 := h
  obtain ⟨c1, c2, c3, c4⟩ := h
  have e54 : ∀ (z : Bool), tw_X7_wedgeTrial_54 mm mt 15 x 7 (b1 z) now = some (b1 z, upd now 12 (now 12 ^^^ (if z = true then (1 <<< (x &&& 31)) else 0))) := by
    intro z
    have hi : ix (nI 12) 14 = true := by decide
    have hn : (nI 12).toNatClampNeg = 12 := by decide
    rw [tw_X7_wedgeTrial_54, show (7 : Int32) + 5 = nI 12 from rfl, if_pos hi, hn]
    cases z with
    | true => rw [if_neg (b1_ne rfl), tw_X7_wedgeTrial_75, if_pos hi, hn, if_pos (b1_and true)]; rfl
    | false => rw [if_pos (show b1 false = 0 by decide), tw_X7_wedgeTrial_75, if_pos hi, hn, if_pos (b1_and false)]; rfl
  have e53 : tw_X7_wedgeTrial_53 mm mt 15 x 7 now = some (b1 false, upd now 12 (now 12 ^^^ 0)) := e54 false
  have e49 : tw_X7_wedgeTrial_49 mm mt 15 x 7 now = some (b1 true, upd now 12 (now 12 ^^^ (1 <<< (x &&& 31)))) := e54 true
  have stay : Tk tr mb sp (upd now 12 (now 12 ^^^ 0)) k ∧ ∀ i, i < 7 → upd now 12 (now 12 ^^^ 0) i = now i := by
    refine ⟨⟨c1, c2, c3, c4.cong (fun i h1 h2 => ?_)⟩, fun i hi => pk_un (by omega)⟩
    by_cases q : i = 12
    · subst q; rw [pk_us, xor_0]
    · rw [pk_un q]
  rw [tw_X5_turnWedge, tw_X7_wedgeTrial, tw_mCell, Option.bind_some]
  by_cases hx : ix x 25 = true
  · obtain ⟨c, hc, rfl⟩ := ix_of hx (by omega)
    have hp3 := c3.2.2
    have h12 : now 12 = k.2.2 := c4.2.2.1.symm
    rw [hx, if_neg (b1_ne rfl), tw_refusal c1 c3 hc, Option.bind_some, t12, tw_has _ c (by omega), Option.bind_some, show tw_X7_canWedge mm mt now 15 1 (nI c) = _ from tw_canWedge (b := 1) hT (by omega) hc c4, Option.bind_some, tw_ones, Option.bind_some, h12, e53, e49]
    have done : wrK tr k c = 0 → Tk tr mb (sp.1, sp.2.1, sp.2.2.1, sp.2.2.2.1 ^^^ bs c, sp.2.2.2.2) (upd now 12 (now 12 ^^^ bs c)) (weK k c) ∧ ∀ i, i < 7 → upd now 12 (now 12 ^^^ bs c) i = now i :=
      fun q => ⟨⟨c1.wedge c, c2, c3.wedge hc q, c4.wedge c⟩, fun i hi => pk_un (by omega)⟩
    cases hb : bt k.2.2 c with
    | true =>
      have hpl := c3.1 c hc hb
      have hz : wrK tr k c = 0 := by unfold wrK; rw [hpl.1, hpl.2, hb]; simp
      rw [if_pos hz, if_neg (b1_ne rfl)]
      exact ⟨true, _, _, weK k c, rfl, rfl, (done hz).1, (done hz).2⟩
    | false =>
      rw [if_pos (show b1 false = 0 by decide)]
      cases hpo : (plB tr c && !occ k.1 c) with
      | false =>
        have hz : wrK tr k c = -3 := by unfold wrK; rw [hpo]; rfl
        rw [if_neg (by rw [hz]; decide), if_pos (show b1 false = 0 by decide)]
        exact ⟨false, _, _, k, rfl, rfl, stay.1, stay.2⟩
      | true =>
        rw [if_neg (b1_ne rfl)]
        by_cases h3 : pop k.2.2 < 3
        · have hz : wrK tr k c = 0 := by unfold wrK; rw [hpo, if_pos rfl, if_pos (Or.inr h3)]
          rw [if_pos hz, if_neg (show ¬ (3 : Int32) ≤ nI (pop k.2.2) from nI_ge (b := 3) h3 (by omega))]
          exact ⟨true, _, _, weK k c, rfl, rfl, (done hz).1, (done hz).2⟩
        · have hz : wrK tr k c = -4 := by unfold wrK; rw [hpo, hb, if_pos rfl, if_neg (by simp [h3])]
          rw [if_neg (by rw [hz]; decide), if_pos (show (3 : Int32) ≤ nI (pop k.2.2) from nI_le (a := 3) (by omega) (by omega))]
          exact ⟨false, _, _, k, rfl, rfl, stay.1, stay.2⟩
  · have hxf := ix_f hx
    rw [hxf, if_pos (show b1 false = 0 by decide), tw_X5_wedgeRefusal, tw_isCell, hxf, Option.bind_some, if_pos (show b1 false = 0 by decide), Option.bind_some, if_neg (by decide), e53]
    exact ⟨false, _, _, k, rfl, rfl, stay.1, stay.2⟩
theorem draw_ok (s : Int64) : ∃ j, j < 29 ∧ (((s.toUInt64 >>> ((33 : Int32).toInt64.toUInt64 &&& Int64.toUInt64 63)).toInt64) - ((s.toUInt64 >>> ((33 : Int32).toInt64.toUInt64 &&& Int64.toUInt64 63)).toInt64) / 29 * 29).toInt32 = nI j := by
  obtain ⟨n, hn, rfl⟩ := wb_of s
  rw [show (33 : Int32) = nI 33 from rfl, wb_shr hn (by omega)]
  refine ⟨n / 2 ^ 33 % 29, Nat.mod_lt _ (by omega), ?_⟩
  rw [show (29 : Int64) = lN 29 from rfl, pk_lRem (by omega) (by omega) (by omega), lN_i]
theorem d_loop {tr : TrS} {mm : Int32} {mk mt : Nat → Int32} {mb : Nat} {no : SpS} {p1 : Int32} {M : Nat} (hT : RT tr mb mm mk mt) (hp : p1 = nI M) (hM : M ≤ 30) : ∀ (n v : Nat) (a : Int32) (sp : SpS) (now : Nat → Int32) (sm : Int32) (sd : Int64) (k : KS), v ≤ M → M - v < n → Tk tr mb sp now k → ∃ (r : Int32) (sp' : SpS) (now' : Nat → Int32) (sm' : Int32) (sd' : Int64), tw_X6_days_29 no tr p1 n a (nI v) sp sd = some (r, sp', sd') ∧ tw_X7_days_23 mm mk mt 15 p1 n a (nI v) now sm sd = some (r, now', sm', sd') ∧ ∀ i, i < 7 → now' i = now i := by
  intro n
  induction n with
  | zero => intro v a sp now sm sd k h1 h2; omega
  | succ n ih =>
    intro v a sp now sm sd k h1 h2 hk
    rw [tw_X6_days_29, tw_X7_days_23, hp]
    by_cases hv : v = M
    · subst hv
      rw [if_pos (nI_le (Nat.le_refl _) (by omega)), if_pos (nI_le (Nat.le_refl _) (by omega))]
      exact ⟨_, _, _, _, _, rfl, rfl, fun _ _ => rfl⟩
    · rw [if_neg (nI_ge (by omega) (by omega)), if_neg (nI_ge (by omega) (by omega))]
      generalize sd * 6364136223846793005 + 1442695040888963407 = s1
      obtain ⟨j, hj, e⟩ := draw_ok s1
      rw [e]
      simp only [nm]
      have go : ∀ (sp1 : SpS) (now1 : Nat → Int32) (sm1 : Int32) (k1 : KS), Tk tr mb sp1 now1 k1 → (∀ i, i < 7 → now1 i = now i) → ∃ (r : Int32) (sp' : SpS) (now' : Nat → Int32) (sm' : Int32) (sd' : Int64), tw_X6_days_104 no tr (nI M) (tw_X6_days_29 no tr (nI M) n) a (nI v) sp1 s1 = some (r, sp', sd') ∧ tw_X7_days_86 mm mk mt 15 (nI M) (tw_X7_days_23 mm mk mt 15 (nI M) n) a (nI v) now1 sm1 s1 = some (r, now', sm', sd') ∧ ∀ i, i < 7 → now' i = now i := by
        intro sp1 now1 sm1 k1 hk1 hn1
        rw [tw_X6_days_104, tw_X7_days_86, tw_fallen hk1.1, Option.bind_some, show tw_X7_fallen mm now1 15 1 = _ from tw_mfallen (b := 1) hT.2.1 hT.2.2.1 (by omega) hk1.2.2.2, Option.bind_some, nI_1]
        obtain ⟨r, sp', now', sm', sd', g1, g2, g3⟩ := ih (v + 1) (a + nI (fallK k1)) sp1 now1 sm1 s1 k1 (by omega) (by omega) hk1
        rw [hp] at g1 g2
        exact ⟨r, sp', now', sm', sd', g1, g2, fun i hi => (g3 i hi).trans (hn1 i hi)⟩
      by_cases hc : j < 25
      · rw [if_neg (show ¬ (25 : Int32) ≤ nI j from nI_ge (b := 25) hc (by omega)), if_neg (show ¬ (25 : Int32) ≤ nI j from nI_ge (b := 25) hc (by omega))]
        obtain ⟨b, sp1, now1, k1, w1, w2, w3, w4⟩ := hk.wedge hT (nI j)
        rw [w1, w2, Option.bind_some, Option.bind_some]
        exact go sp1 now1 sm k1 w3 w4
      · rw [if_pos (show (25 : Int32) ≤ nI j from nI_le (a := 25) (by omega) (by omega)), if_pos (show (25 : Int32) ≤ nI j from nI_le (a := 25) (by omega) (by omega)), show nI j - 25 = nI (j - 25) from pk_sub (b := 25) (by omega)]
        obtain ⟨sp1, r1, now1, sm1, w1, w2, w3, w4⟩ := hk.tilt hT (show j - 25 < 4 by omega) sm
        rw [w1, w2, Option.bind_some, Option.bind_some]
        exact go sp1 now1 sm1 _ w3 w4
theorem rg1 {α : Type} (x : Int32) (n : Nat) (hn : n < 1000) (A B : α) : (if x < 1 then A else if x ≤ nI n then B else A) = if (1 ≤ x.toInt ∧ x.toInt ≤ n) then B else A := by
  have e1 : x < 1 ↔ ¬ 1 ≤ x.toInt := by
    rw [Int32.lt_iff_toInt_lt]
    show x.toInt < 1 ↔ _
    omega
  have e2 : x ≤ nI n ↔ x.toInt ≤ n := by rw [Int32.le_iff_toInt_le, nI_toInt (by omega)]
  by_cases h1 : 1 ≤ x.toInt
  · rw [if_neg (fun q => e1.mp q h1)]
    by_cases h2 : x.toInt ≤ n
    · rw [if_pos (e2.mpr h2), if_pos ⟨h1, h2⟩]
    · rw [if_neg (fun q => h2 (e2.mp q)), if_neg (fun q => h2 q.2)]
  · rw [if_pos (e1.mpr h1), if_neg (fun q => h1 q.1)]
theorem in1 (x : Int32) (n : Nat) (c : Int64) (hc : c.toInt = n) : tw_X7_in x.toInt64 1 c = some (b1 (decide (1 ≤ x.toInt ∧ x.toInt ≤ n))) := by
  rw [in_if, Int32.toInt_toInt64, hc, show (1 : Int64).toInt = 1 from rfl]
  by_cases h : 1 ≤ x.toInt ∧ x.toInt ≤ n
  · rw [if_neg (by omega), decide_eq_true h]; rfl
  · rw [if_pos (by omega), decide_eq_false h]; rfl
theorem of1 {x : Int32} {n : Nat} (h : 1 ≤ x.toInt ∧ x.toInt ≤ n) (hn : n < 1000) : ∃ M, 1 ≤ M ∧ M ≤ n ∧ x = nI M := by
  refine ⟨x.toInt.toNat, by omega, by omega, ?_⟩
  apply Int32.toInt_inj.mp
  rw [nI_toInt (by omega)]
  omega
/-- days -/
theorem s_days {tr : TrS} {mb : Nat} {mm : Int32} {mk mt : Nat → Int32} {no : SpS} {now : Nat → Int32} {k : KS} (hT : RT tr mb mm mk mt) (hC : Co tr mb no now 0 k) (sr : SpS) (sm y : Int32) (sd : Int64) : ∃ (r : Int32) (sr' : SpS) (now' : Nat → Int32) (sm' : Int32) (sd' : Int64), tw_X6_days no sr tr sd y = some (r, sr', sd') ∧ tw_X7_days mm mk mt now 15 sm sd y = some (r, now', sm', sd') ∧ ∀ i, i < 7 → now' i = now i := by
  obtain ⟨s', q, e1, e2, e3, e4⟩ := Tk.lay (sr := sr) hC
  have ed : tw_X6_days no sr tr sd y = if (1 ≤ y.toInt ∧ y.toInt ≤ (30 : Nat)) then (tw_X4_take sr no).bind (fun q9 => tw_X6_days_29 no tr y 31 0 0 q9 sd) else some ((-2), sr, sd) := by
    rw [tw_X6_days]
    exact rg1 y 30 (by omega) _ _
  rw [ed, tw_X7_days, in1 y 30 30 (by decide), Option.bind_some]
  by_cases h : 1 ≤ y.toInt ∧ y.toInt ≤ (30 : Nat)
  · obtain ⟨M, hM1, hM2, hy⟩ := of1 h (by omega)
    rw [if_pos h, decide_eq_true h, if_neg (b1_ne rfl), e1, e2, Option.bind_some, Option.bind_some]
    obtain ⟨r, sp', now', sm', sd', g1, g2, g3⟩ := d_loop (no := no) hT hy hM2 31 0 0 s' q sm sd k (by omega) (by omega) e3
    exact ⟨r, sp', now', sm', sd', g1, g2, fun i hi => (g3 i hi).trans (e4 i hi)⟩
  · rw [if_neg h, decide_eq_false h, if_pos (by decide)]
    exact ⟨_, _, _, _, _, rfl, rfl, fun _ _ => rfl⟩
