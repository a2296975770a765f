def tw_X1_tell (pau : Nat → Int32) (pav : Nat → Int32) (p1 : Int32) (p2 : Int32) (p3 : Int32) (p4 : Int32) : Option ((Nat → Int32) × (Nat → Int32)) :=
  if ix ((p1 * 4) + p2) 16 = true then (if ix ((p1 * 4) + p2) 16 = true then (some (upd pau ((p1 * 4) + p2).toNatClampNeg p3, upd pav ((p1 * 4) + p2).toNatClampNeg p4)) else none) else none
set_option maxHeartbeats 4000000 in
set_option maxRecDepth 100000 in
theorem c_X1_tell (l : Launch) (D : va_G) (cy : Cy) (pah : Nat) (paa : Nat) (pab : Nat) (pau : Nat → Int32) (pav : Nat → Int32) (p1 : Int32) (p2 : Int32) (p3 : Int32) (p4 : Int32) (res : (Nat → Int32) × (Nat → Int32)) (h : tw_X1_tell pau pav p1 p2 p3 p4 = some res) : Ct l yX1_tell wsX1_tell 0 0 D cy [.ref pah, .int p1, .int p2, .int p3, .int p4] (cPa pah paa pab cy.1 pau pav) (cPa pah paa pab cy.1 res.1 res.2) (none) := by
  refine Ct.ofW (cc := cX1_tell) (maxL := 5) (ret := none) (by decide) rfl (Nat.le_of_ble_eq_true rfl) ?_
  intro p e R s m args below meth c A Q ls hRf hRl hQ hx hb hr hml hts hown hlocks hE hP hD hS hA hl
  have hiX1 : ∀ w ∈ u_ws RX1 TX1 2, w ∈ wsX1_tell := by decide +kernel
  have hl : lv_has ls 5 [(0, .ref pah), (1, .int p1), (2, .int p2), (3, .int p3), (4, .int p4)] := hl
  rw [tw_X1_tell] at h
  refine lv_aload_n hx hb dX1_tell_0 rfl (lv_at hl 0 rfl) ?_
  refine va_get (D := D) (ci := 1) (v := .ref paa) (C := RX1) (T := TX1) (N := 2) hx hb hts hiX1 hown hE.1 hP 0 rfl rfl 0 (by decide) (hts (.fieldLink RX1 9 "TiltTray$Pairs" "ofOne" "[I") (by decide +kernel)) (fun _ h9 => h9) rfl dX1_tell_1 ?_
  refine lv_iload_n hx hb dX1_tell_4 rfl (lv_at hl 1 rfl) ?_
  refine lv_iconst (v := 4) hx hb dX1_tell_5 (by decide) ?_
  refine lv_imul hx hb dX1_tell_6 ?_
  refine lv_iload_n hx hb dX1_tell_7 rfl (lv_at hl 2 rfl) ?_
  refine lv_iadd hx hb dX1_tell_8 ?_
  refine lv_iload_n hx hb dX1_tell_9 rfl (lv_at hl 3 rfl) ?_
  obtain ⟨g1, h⟩ := og h
  refine va_iast hx hb hE.1 hP hD hS 1 0 rfl rfl (ix_in g1) dX1_tell_10 (fun H locs hP hD hS => ?_)
  have hP : va_P D vwCl (cPa pah paa pab cy.1 (upd pau ((p1 * 4) + p2).toNatClampNeg p3) pav) H := hP
  have hD : va_D A (cPa pah paa pab cy.1 (upd pau ((p1 * 4) + p2).toNatClampNeg p3) pav) := hD
  refine lv_aload_n hx hb dX1_tell_11 rfl (lv_at hl 0 rfl) ?_
  refine va_get (D := D) (ci := 1) (v := .ref pab) (C := RX1) (T := TX1) (N := 2) hx hb hts hiX1 hown hE.1 hP 0 rfl rfl 1 (by decide) (hts (.fieldLink RX1 15 "TiltTray$Pairs" "ofOther" "[I") (by decide +kernel)) (fun _ h9 => h9) rfl dX1_tell_12 ?_
  refine lv_iload_n hx hb dX1_tell_15 rfl (lv_at hl 1 rfl) ?_
  refine lv_iconst (v := 4) hx hb dX1_tell_16 (by decide) ?_
  refine lv_imul hx hb dX1_tell_17 ?_
  refine lv_iload_n hx hb dX1_tell_18 rfl (lv_at hl 2 rfl) ?_
  refine lv_iadd hx hb dX1_tell_19 ?_
  refine lv_iload hx hb dX1_tell_20 (lv_at hl 4 rfl) ?_
  obtain ⟨g2, h⟩ := og h
  refine va_iast hx hb hE.1 hP hD hS 2 0 rfl rfl (ix_in g2) dX1_tell_22 (fun H locs hP hD hS => ?_)
  have hP : va_P D vwCl (cPa pah paa pab cy.1 (upd pau ((p1 * 4) + p2).toNatClampNeg p3) (upd pav ((p1 * 4) + p2).toNatClampNeg p4)) H := hP
  have hD : va_D A (cPa pah paa pab cy.1 (upd pau ((p1 * 4) + p2).toNatClampNeg p3) (upd pav ((p1 * 4) + p2).toNatClampNeg p4)) := hD
  obtain rfl := Option.some.inj h
  rw [hQ]; exact ct_vret hx hb hr hlocks hP hS rfl dX1_tell_23

def tw_X1_isAtRest_2 (pau : Nat → Int32) (pav : Nat → Int32) (p1 : Int32) (p2 : Int32) : Nat → Int32 → Option (Int32)
  | 0, _ => none
  | n + 1, x3 =>
    if 4 ≤ x3 then (some (1)) else (if ix ((x3 * 4) + p2) 16 = true then (if ix ((p1 * 4) + p2) 16 = true then (if (pau ((p1 * 4) + p2).toNatClampNeg) < (pau ((x3 * 4) + p2).toNatClampNeg) then (some (0)) else (if ix ((p1 * 4) + x3) 16 = true then (if ix ((p1 * 4) + p2) 16 = true then (if (pav ((p1 * 4) + x3).toNatClampNeg) ≤ (pav ((p1 * 4) + p2).toNatClampNeg) then ((tw_X1_isAtRest_2 pau pav p1 p2 n) (x3 + 1)) else (some (0))) else none) else none)) else none) else none)
def tw_X1_isAtRest (pau : Nat → Int32) (pav : Nat → Int32) (p1 : Int32) (p2 : Int32) : Option (Int32) :=
  tw_X1_isAtRest_2 pau pav p1 p2 5 0
set_option maxHeartbeats 4000000 in
set_option maxRecDepth 100000 in
theorem c_X1_isAtRest (l : Launch) (D : va_G) (cy : Cy) (pah : Nat) (paa : Nat) (pab : Nat) (pau : Nat → Int32) (pav : Nat → Int32) (p1 : Int32) (p2 : Int32) (res : Int32) (h : tw_X1_isAtRest pau pav p1 p2 = some res) : Ct l yX1_isAtRest wsX1_isAtRest 0 0 D cy [.ref pah, .int p1, .int p2] (cPa pah paa pab cy.1 pau pav) (cPa pah paa pab cy.1 pau pav) (some (.int res)) := by
  refine Ct.ofW (cc := cX1_isAtRest) (maxL := 4) (ret := (some .boolean)) (by decide) rfl (Nat.le_of_ble_eq_true rfl) ?_
  intro p e R s m args below meth c A Q ls hRf hRl hQ hx hb hr hml hts hown hlocks hE hP hD hS hA hl
  have hiX1 : ∀ w ∈ u_ws RX1 TX1 2, w ∈ wsX1_isAtRest := by decide +kernel
  have hl : lv_has ls 4 [(0, .ref pah), (1, .int p1), (2, .int p2)] := hl
  rw [tw_X1_isAtRest] at h
  have L2 : ∀ (n : Nat) (x3 : Int32)  (H : Heap) (locs : List Loc) (ls : Array Slot), lv_has ls 4 [(0, .ref pah), (1, .int p1), (2, .int p2), (3, .int x3)] → va_P D vwCl (cPa pah paa pab cy.1 pau pav) H → va_D A (cPa pah paa pab cy.1 pau pav) → va_S A s.heap H locs → tw_X1_isAtRest_2 pau pav p1 p2 n x3 = some res → W p l e R s m args below meth c H locs 0 0 Q (F0 m 2 ls []) := by
    intro n2
    induction n2 with
    | zero =>
      intro x3  H locs ls hl hP hD hS h
      exact absurd h (by rw [tw_X1_isAtRest_2]; exact fun q => by cases q)
    | succ n2 ih2 =>
      intro x3  H locs ls hl hP hD hS h
      rw [tw_X1_isAtRest_2] at h
      refine lv_iload_n hx hb dX1_isAtRest_2 rfl (lv_at hl 3 rfl) ?_
      refine lv_iconst (v := 4) hx hb dX1_isAtRest_3 (by decide) ?_
      refine lv_icmp_ge (tgt := 61) hx hb dX1_isAtRest_4 (by decide) (fun c1 => ?_) (fun c1 => ?_)
      · have h := oit h c1
        refine lv_iconst (v := 1) hx hb dX1_isAtRest_61 (by decide) ?_
        obtain rfl := Option.some.inj h
        rw [hQ]; exact ct_zret hx hb hr hlocks rfl hP hS rfl dX1_isAtRest_62
      · have h := oif h c1
        refine lv_aload_n hx hb dX1_isAtRest_7 rfl (lv_at hl 0 rfl) ?_
        refine va_get (D := D) (ci := 1) (v := .ref paa) (C := RX1) (T := TX1) (N := 2) hx hb hts hiX1 hown hE.1 hP 0 rfl rfl 0 (by decide) (hts (.fieldLink RX1 9 "TiltTray$Pairs" "ofOne" "[I") (by decide +kernel)) (fun _ h9 => h9) rfl dX1_isAtRest_8 ?_
        refine lv_iload_n hx hb dX1_isAtRest_11 rfl (lv_at hl 3 rfl) ?_
        refine lv_iconst (v := 4) hx hb dX1_isAtRest_12 (by decide) ?_
        refine lv_imul hx hb dX1_isAtRest_13 ?_
        refine lv_iload_n hx hb dX1_isAtRest_14 rfl (lv_at hl 2 rfl) ?_
        refine lv_iadd hx hb dX1_isAtRest_15 ?_
        obtain ⟨g2, h⟩ := og h
        refine va_iald hx hb hE.1 hP 1 0 rfl rfl (ix_in g2) dX1_isAtRest_16 ?_
        refine lv_aload_n hx hb dX1_isAtRest_17 rfl (lv_at hl 0 rfl) ?_
        refine va_get (D := D) (ci := 1) (v := .ref paa) (C := RX1) (T := TX1) (N := 2) hx hb hts hiX1 hown hE.1 hP 0 rfl rfl 0 (by decide) (hts (.fieldLink RX1 9 "TiltTray$Pairs" "ofOne" "[I") (by decide +kernel)) (fun _ h9 => h9) rfl dX1_isAtRest_18 ?_
        refine lv_iload_n hx hb dX1_isAtRest_21 rfl (lv_at hl 1 rfl) ?_
        refine lv_iconst (v := 4) hx hb dX1_isAtRest_22 (by decide) ?_
        refine lv_imul hx hb dX1_isAtRest_23 ?_
        refine lv_iload_n hx hb dX1_isAtRest_24 rfl (lv_at hl 2 rfl) ?_
        refine lv_iadd hx hb dX1_isAtRest_25 ?_
        obtain ⟨g3, h⟩ := og h
        refine va_iald hx hb hE.1 hP 1 0 rfl rfl (ix_in g3) dX1_isAtRest_26 ?_
        refine lv_icmp_gt (tgt := 53) hx hb dX1_isAtRest_27 (by decide) (fun c4 => ?_) (fun c4 => ?_)
        · have h := oit h c4
          refine lv_iconst (v := 0) hx hb dX1_isAtRest_53 (by decide) ?_
          obtain rfl := Option.some.inj h
          rw [hQ]; exact ct_zret hx hb hr hlocks rfl hP hS rfl dX1_isAtRest_54
        · have h := oif h c4
          refine lv_aload_n hx hb dX1_isAtRest_30 rfl (lv_at hl 0 rfl) ?_
          refine va_get (D := D) (ci := 1) (v := .ref pab) (C := RX1) (T := TX1) (N := 2) hx hb hts hiX1 hown hE.1 hP 0 rfl rfl 1 (by decide) (hts (.fieldLink RX1 15 "TiltTray$Pairs" "ofOther" "[I") (by decide +kernel)) (fun _ h9 => h9) rfl dX1_isAtRest_31 ?_
          refine lv_iload_n hx hb dX1_isAtRest_34 rfl (lv_at hl 1 rfl) ?_
          refine lv_iconst (v := 4) hx hb dX1_isAtRest_35 (by decide) ?_
          refine lv_imul hx hb dX1_isAtRest_36 ?_
          refine lv_iload_n hx hb dX1_isAtRest_37 rfl (lv_at hl 3 rfl) ?_
          refine lv_iadd hx hb dX1_isAtRest_38 ?_
          obtain ⟨g5, h⟩ := og h
          refine va_iald hx hb hE.1 hP 2 0 rfl rfl (ix_in g5) dX1_isAtRest_39 ?_
          refine lv_aload_n hx hb dX1_isAtRest_40 rfl (lv_at hl 0 rfl) ?_
          refine va_get (D := D) (ci := 1) (v := .ref pab) (C := RX1) (T := TX1) (N := 2) hx hb hts hiX1 hown hE.1 hP 0 rfl rfl 1 (by decide) (hts (.fieldLink RX1 15 "TiltTray$Pairs" "ofOther" "[I") (by decide +kernel)) (fun _ h9 => h9) rfl dX1_isAtRest_41 ?_
          refine lv_iload_n hx hb dX1_isAtRest_44 rfl (lv_at hl 1 rfl) ?_
          refine lv_iconst (v := 4) hx hb dX1_isAtRest_45 (by decide) ?_
          refine lv_imul hx hb dX1_isAtRest_46 ?_
          refine lv_iload_n hx hb dX1_isAtRest_47 rfl (lv_at hl 2 rfl) ?_
          refine lv_iadd hx hb dX1_isAtRest_48 ?_
          obtain ⟨g6, h⟩ := og h
          refine va_iald hx hb hE.1 hP 2 0 rfl rfl (ix_in g6) dX1_isAtRest_49 ?_
          refine lv_icmp_le (tgt := 55) hx hb dX1_isAtRest_50 (by decide) (fun c7 => ?_) (fun c7 => ?_)
          · have h := oit h c7
            refine lv_iinc (v := x3 + 1) (lv' := [(3, .int (x3 + 1)), (0, .ref pah), (1, .int p1), (2, .int p2)]) hx hb dX1_isAtRest_55 hl (k := 3) rfl rfl (by decide) rfl (fun ls hl => ?_)
            refine lv_goto (tgt := 2) hx hb dX1_isAtRest_58 (by decide) ?_
            exact ih2 (x3 + 1) _ _ _ (lv_sub hl [1, 2, 3, 0] rfl) hP hD hS h
          · have h := oif h c7
            refine lv_iconst (v := 0) hx hb dX1_isAtRest_53 (by decide) ?_
            obtain rfl := Option.some.inj h
            rw [hQ]; exact ct_zret hx hb hr hlocks rfl hP hS rfl dX1_isAtRest_54
  refine lv_iconst (v := 0) hx hb dX1_isAtRest_0 (by decide) ?_
  refine lv_istore_n (lv' := [(3, .int 0), (0, .ref pah), (1, .int p1), (2, .int p2)]) hx hb dX1_isAtRest_1 rfl hl (by decide) rfl (fun ls hl => ?_)
  exact L2 5 0 _ _ _ (lv_sub hl [1, 2, 3, 0] rfl) hP hD hS h

def tw_X3_add (siu : Nat → Int32) (siv : Nat → Int32) (siw : Nat → Int32) (sin : Int32) (p1 : Int32) (p2 : Int32) (p3 : Int32) : Option (Int32 × (Nat → Int32) × (Nat → Int32) × (Nat → Int32) × Int32) :=
  if sin < 6 then (if ix sin 6 = true then (if ix sin 6 = true then (if ix sin 6 = true then (some (sin + 1, upd siu sin.toNatClampNeg p1, upd siv sin.toNatClampNeg p2, upd siw sin.toNatClampNeg p3, sin + 1)) else none) else none) else none) else (some ((-4), siu, siv, siw, sin))
set_option maxHeartbeats 4000000 in
set_option maxRecDepth 100000 in
theorem c_X3_add (l : Launch) (D : va_G) (cy : Cy) (sih : Nat) (sia : Nat) (sib : Nat) (sic : Nat) (siu : Nat → Int32) (siv : Nat → Int32) (siw : Nat → Int32) (sin : Int32) (p1 : Int32) (p2 : Int32) (p3 : Int32) (res : Int32 × (Nat → Int32) × (Nat → Int32) × (Nat → Int32) × Int32) (h : tw_X3_add siu siv siw sin p1 p2 p3 = some res) : Ct l yX3_add wsX3_add 0 0 D cy [.ref sih, .int p1, .int p2, .int p3] (cSi sih sia sib sic cy.1 siu siv siw sin) (cSi sih sia sib sic cy.1 res.2.1 res.2.2.1 res.2.2.2.1 res.2.2.2.2) (some (.int res.1)) := by
  refine Ct.ofW (cc := cX3_add) (maxL := 4) (ret := (some .int)) (by decide) rfl (Nat.le_of_ble_eq_true rfl) ?_
  intro p e R s m args below meth c A Q ls hRf hRl hQ hx hb hr hml hts hown hlocks hE hP hD hS hA hl
  have hiX3 : ∀ w ∈ u_ws RX3 TX3 4, w ∈ wsX3_add := by decide +kernel
  have hl : lv_has ls 4 [(0, .ref sih), (1, .int p1), (2, .int p2), (3, .int p3)] := hl
  rw [tw_X3_add] at h
  refine lv_aload_n hx hb dX3_add_0 rfl (lv_at hl 0 rfl) ?_
  refine va_get (D := D) (ci := 3) (v := .int sin) (C := RX3) (T := TX3) (N := 4) hx hb hts hiX3 hown hE.1 hP 0 rfl rfl 3 (by decide) (hts (.fieldLink RX3 21 "TiltTray$Sights" "many" "I") (by decide +kernel)) (fun _ h9 => h9) rfl dX3_add_1 ?_
  refine lv_bipush (v := 6) hx hb dX3_add_4 (by decide) ?_
  refine lv_icmp_lt (tgt := 12) hx hb dX3_add_6 (by decide) (fun c1 => ?_) (fun c1 => ?_)
  · have h := oit h c1
    refine lv_aload_n hx hb dX3_add_12 rfl (lv_at hl 0 rfl) ?_
    refine va_get (D := D) (ci := 3) (v := .ref sia) (C := RX3) (T := TX3) (N := 4) hx hb hts hiX3 hown hE.1 hP 0 rfl rfl 0 (by decide) (hts (.fieldLink RX3 9 "TiltTray$Sights" "cell" "[I") (by decide +kernel)) (fun _ h9 => h9) rfl dX3_add_13 ?_
    refine lv_aload_n hx hb dX3_add_16 rfl (lv_at hl 0 rfl) ?_
    refine va_get (D := D) (ci := 3) (v := .int sin) (C := RX3) (T := TX3) (N := 4) hx hb hts hiX3 hown hE.1 hP 0 rfl rfl 3 (by decide) (hts (.fieldLink RX3 21 "TiltTray$Sights" "many" "I") (by decide +kernel)) (fun _ h9 => h9) rfl dX3_add_17 ?_
    refine lv_iload_n hx hb dX3_add_20 rfl (lv_at hl 1 rfl) ?_
    obtain ⟨g2, h⟩ := og h
    refine va_iast hx hb hE.1 hP hD hS 1 0 rfl rfl (ix_in g2) dX3_add_21 (fun H locs hP hD hS => ?_)
    have hP : va_P D vwCl (cSi sih sia sib sic cy.1 (upd siu sin.toNatClampNeg p1) siv siw sin) H := hP
    have hD : va_D A (cSi sih sia sib sic cy.1 (upd siu sin.toNatClampNeg p1) siv siw sin) := hD
    refine lv_aload_n hx hb dX3_add_22 rfl (lv_at hl 0 rfl) ?_
    refine va_get (D := D) (ci := 3) (v := .ref sib) (C := RX3) (T := TX3) (N := 4) hx hb hts hiX3 hown hE.1 hP 0 rfl rfl 1 (by decide) (hts (.fieldLink RX3 15 "TiltTray$Sights" "way" "[I") (by decide +kernel)) (fun _ h9 => h9) rfl dX3_add_23 ?_
    refine lv_aload_n hx hb dX3_add_26 rfl (lv_at hl 0 rfl) ?_
    refine va_get (D := D) (ci := 3) (v := .int sin) (C := RX3) (T := TX3) (N := 4) hx hb hts hiX3 hown hE.1 hP 0 rfl rfl 3 (by decide) (hts (.fieldLink RX3 21 "TiltTray$Sights" "many" "I") (by decide +kernel)) (fun _ h9 => h9) rfl dX3_add_27 ?_
    refine lv_iload_n hx hb dX3_add_30 rfl (lv_at hl 2 rfl) ?_
    obtain ⟨g3, h⟩ := og h
    refine va_iast hx hb hE.1 hP hD hS 2 0 rfl rfl (ix_in g3) dX3_add_31 (fun H locs hP hD hS => ?_)
    have hP : va_P D vwCl (cSi sih sia sib sic cy.1 (upd siu sin.toNatClampNeg p1) (upd siv sin.toNatClampNeg p2) siw sin) H := hP
    have hD : va_D A (cSi sih sia sib sic cy.1 (upd siu sin.toNatClampNeg p1) (upd siv sin.toNatClampNeg p2) siw sin) := hD
    refine lv_aload_n hx hb dX3_add_32 rfl (lv_at hl 0 rfl) ?_
    refine va_get (D := D) (ci := 3) (v := .ref sic) (C := RX3) (T := TX3) (N := 4) hx hb hts hiX3 hown hE.1 hP 0 rfl rfl 2 (by decide) (hts (.fieldLink RX3 18 "TiltTray$Sights" "came" "[I") (by decide +kernel)) (fun _ h9 => h9) rfl dX3_add_33 ?_
    refine lv_aload_n hx hb dX3_add_36 rfl (lv_at hl 0 rfl) ?_
    refine va_get (D := D) (ci := 3) (v := .int sin) (C := RX3) (T := TX3) (N := 4) hx hb hts hiX3 hown hE.1 hP 0 rfl rfl 3 (by decide) (hts (.fieldLink RX3 21 "TiltTray$Sights" "many" "I") (by decide +kernel)) (fun _ h9 => h9) rfl dX3_add_37 ?_
    refine lv_iload_n hx hb dX3_add_40 rfl (lv_at hl 3 rfl) ?_
    obtain ⟨g4, h⟩ := og h
    refine va_iast hx hb hE.1 hP hD hS 3 0 rfl rfl (ix_in g4) dX3_add_41 (fun H locs hP hD hS => ?_)
    have hP : va_P D vwCl (cSi sih sia sib sic cy.1 (upd siu sin.toNatClampNeg p1) (upd siv sin.toNatClampNeg p2) (upd siw sin.toNatClampNeg p3) sin) H := hP
    have hD : va_D A (cSi sih sia sib sic cy.1 (upd siu sin.toNatClampNeg p1) (upd siv sin.toNatClampNeg p2) (upd siw sin.toNatClampNeg p3) sin) := hD
    refine lv_aload_n hx hb dX3_add_42 rfl (lv_at hl 0 rfl) ?_
    refine lv_dup hx hb dX3_add_43 rfl ?_
    refine va_get (D := D) (ci := 3) (v := .int sin) (C := RX3) (T := TX3) (N := 4) hx hb hts hiX3 hown hE.1 hP 0 rfl rfl 3 (by decide) (hts (.fieldLink RX3 21 "TiltTray$Sights" "many" "I") (by decide +kernel)) (fun _ h9 => h9) rfl dX3_add_44 ?_
    refine lv_iconst (v := 1) hx hb dX3_add_47 (by decide) ?_
    refine lv_iadd hx hb dX3_add_48 ?_
    refine va_put (D := D) (ci := 3) (v := .int (sin + 1)) (ty := .int) (C := RX3) (T := TX3) (N := 4) hx hb hts hiX3 tyX3 tyX3_ok nmX3 hown hE.1 hP hD hS 0 rfl rfl 3 (by decide) (hts (.fieldLink RX3 21 "TiltTray$Sights" "many" "I") (by decide +kernel)) (fun _ h9 => h9) rfl (by decide +kernel) rfl rfl (Nat.le_of_ble_eq_true rfl) dX3_add_49 (fun H locs hP hD hS => ?_)
    have hP : va_P D vwCl (cSi sih sia sib sic cy.1 (upd siu sin.toNatClampNeg p1) (upd siv sin.toNatClampNeg p2) (upd siw sin.toNatClampNeg p3) (sin + 1)) H := hP
    have hD : va_D A (cSi sih sia sib sic cy.1 (upd siu sin.toNatClampNeg p1) (upd siv sin.toNatClampNeg p2) (upd siw sin.toNatClampNeg p3) (sin + 1)) := hD
    refine lv_aload_n hx hb dX3_add_52 rfl (lv_at hl 0 rfl) ?_
    refine va_get (D := D) (ci := 3) (v := .int (sin + 1)) (C := RX3) (T := TX3) (N := 4) hx hb hts hiX3 hown hE.1 hP 0 rfl rfl 3 (by decide) (hts (.fieldLink RX3 21 "TiltTray$Sights" "many" "I") (by decide +kernel)) (fun _ h9 => h9) rfl dX3_add_53 ?_
    obtain rfl := Option.some.inj h
    rw [hQ]; exact ct_iret hx hb hr hlocks hP hS rfl dX3_add_56
  · have h := oif h c1
    refine lv_bipush (v := (-4)) hx hb dX3_add_9 (by decide) ?_
    obtain rfl := Option.some.inj h
    rw [hQ]; exact ct_iret hx hb hr hlocks hP hS rfl dX3_add_11

def tw_X3_comesTo_6 (p1 : Int32) (p2 : Int32) (p3 : Int32) (p4 : Int32) : Nat → Int32 → Int32 → Option (Int32)
  | 0, _, _ => none
  | n + 1, x4, x5 =>
    if 5 ≤ x5 then (some (x4)) else ((tw_X6_nextCell x4 p2).bind (fun q2 => if q2 = (-1) then (some (x4)) else ((tw_X6_bitOf p3 q2).bind (fun q4 => if q4 = 1 then (some (x4)) else ((tw_X6_bitOf p4 q2).bind (fun q6 => if q6 = 1 then (some (25)) else ((tw_X3_comesTo_6 p1 p2 p3 p4 n) q2 (x5 + 1))))))))
def tw_X3_comesTo (p1 : Int32) (p2 : Int32) (p3 : Int32) (p4 : Int32) : Option (Int32) :=
  tw_X3_comesTo_6 p1 p2 p3 p4 6 p1 0
set_option maxHeartbeats 4000000 in
set_option maxRecDepth 100000 in
theorem c_X3_comesTo (l : Launch) (D : va_G) (cy : Cy) (p1 : Int32) (p2 : Int32) (p3 : Int32) (p4 : Int32) (res : Int32) (h : tw_X3_comesTo p1 p2 p3 p4 = some res) : Ct l yX3_comesTo wsX3_comesTo 1 21 D cy [.int p1, .int p2, .int p3, .int p4] ([]) ([]) (some (.int res)) := by
  refine Ct.ofW (cc := cX3_comesTo) (maxL := 7) (ret := (some .int)) (by decide) rfl (Nat.le_of_ble_eq_true rfl) ?_
  intro p e R s m args below meth c A Q ls hRf hRl hQ hx hb hr hml hts hown hlocks hE hP hD hS hA hl
  have hl : lv_has ls 7 [(0, .int p1), (1, .int p2), (2, .int p3), (3, .int p4)] := hl
  rw [tw_X3_comesTo] at h
  have L6 : ∀ (n : Nat) (x4 : Int32) (x5 : Int32)  (H : Heap) (locs : List Loc) (ls : Array Slot), lv_has ls 7 [(1, .int p2), (2, .int p3), (3, .int p4), (4, .int x4), (5, .int x5)] → va_P D vwCl ([]) H → va_D A ([]) → va_S A s.heap H locs → tw_X3_comesTo_6 p1 p2 p3 p4 n x4 x5 = some res → W p l e R s m args below meth c H locs 0 0 Q (F0 m 6 ls []) := by
    intro n6
    induction n6 with
    | zero =>
      intro x4 x5  H locs ls hl hP hD hS h
      exact absurd h (by rw [tw_X3_comesTo_6]; exact fun q => by cases q)
    | succ n6 ih6 =>
      intro x4 x5  H locs ls hl hP hD hS h
      rw [tw_X3_comesTo_6] at h
      refine lv_iload hx hb dX3_comesTo_6 (lv_at hl 4 rfl) ?_
      refine lv_iconst (v := 5) hx hb dX3_comesTo_8 (by decide) ?_
      refine lv_icmp_ge (tgt := 62) hx hb dX3_comesTo_9 (by decide) (fun c1 => ?_) (fun c1 => ?_)
      · have h := oit h c1
        refine lv_iload hx hb dX3_comesTo_62 (lv_at hl 3 rfl) ?_
        obtain rfl := Option.some.inj h
        rw [hQ]; exact ct_iret hx hb hr hlocks hP hS rfl dX3_comesTo_64
      · have h := oif h c1
        refine lv_iload hx hb dX3_comesTo_12 (lv_at hl 3 rfl) ?_
        refine lv_iload_n hx hb dX3_comesTo_14 rfl (lv_at hl 0 rfl) ?_
        obtain ⟨q2, hq2, h⟩ := ob h
        refine kSN (As := [.int x4, .int p2]) (rest := []) (w2 := []) (n := 2) (host := "TiltTray") ⟨hx, hb, hml, hown, hts⟩ (c_X6_nextCell l D cy x4 p2 q2 hq2) ggX3_comesTo_X6_nextCell rfl (hE.2.1 (.methodLinkNest RX3 38 yX6_nextCell "TiltTray") (by decide +kernel)) (hts (.initialized RX6) (by decide +kernel)) (hts (.static yX6_nextCell) (by decide +kernel)) (by decide +kernel) ⟨by rw [hRf]; exact Nat.le_of_ble_eq_true rfl, by rw [hRl]; exact Nat.le_of_ble_eq_true rfl⟩ hE hP hD hS hA [] rfl rfl rfl rfl rfl hl.1 rfl (Nat.le_of_ble_eq_true rfl) dX3_comesTo_15 ⟨Nat.zero_le _, Nat.zero_le _⟩ (fun H locs hP hD hS => ?_)
        refine lv_istore (lv' := [(6, .int q2), (1, .int p2), (2, .int p3), (3, .int p4), (4, .int x4), (5, .int x5)]) hx hb dX3_comesTo_18 hl (by decide) rfl (fun ls hl => ?_)
        refine lv_iload hx hb dX3_comesTo_20 (lv_at hl 0 rfl) ?_
        refine lv_iconst (v := (-1)) hx hb dX3_comesTo_22 (by decide) ?_
        refine lv_icmp_eq (tgt := 36) hx hb dX3_comesTo_23 (by decide) (fun c3 => ?_) (fun c3 => ?_)
        · have h := oit h c3
          refine lv_iload hx hb dX3_comesTo_36 (lv_at hl 4 rfl) ?_
          obtain rfl := Option.some.inj h
          rw [hQ]; exact ct_iret hx hb hr hlocks hP hS rfl dX3_comesTo_38
        · have h := oif h c3
          refine lv_iload_n hx hb dX3_comesTo_26 rfl (lv_at hl 2 rfl) ?_
          refine lv_iload hx hb dX3_comesTo_27 (lv_at hl 0 rfl) ?_
          obtain ⟨q4, hq4, h⟩ := ob h
          refine kSN (As := [.int p3, .int q2]) (rest := []) (w2 := []) (n := 2) (host := "TiltTray") ⟨hx, hb, hml, hown, hts⟩ (c_X6_bitOf l D cy p3 q2 q4 hq4) ggX3_comesTo_X6_bitOf rfl (hE.2.1 (.methodLinkNest RX3 30 yX6_bitOf "TiltTray") (by decide +kernel)) (hts (.initialized RX6) (by decide +kernel)) (hts (.static yX6_bitOf) (by decide +kernel)) (by decide +kernel) ⟨by rw [hRf]; exact Nat.le_of_ble_eq_true rfl, by rw [hRl]; exact Nat.le_of_ble_eq_true rfl⟩ hE hP hD hS hA [] rfl rfl rfl rfl rfl hl.1 rfl (Nat.le_of_ble_eq_true rfl) dX3_comesTo_29 ⟨Nat.zero_le _, Nat.zero_le _⟩ (fun H locs hP hD hS => ?_)
          refine lv_iconst (v := 1) hx hb dX3_comesTo_32 (by decide) ?_
          refine lv_icmp_ne (tgt := 39) hx hb dX3_comesTo_33 (by decide) (fun c5 => ?_) (fun c5 => ?_)
          · have h := oif h c5
            refine lv_iload_n hx hb dX3_comesTo_39 rfl (lv_at hl 3 rfl) ?_
            refine lv_iload hx hb dX3_comesTo_40 (lv_at hl 0 rfl) ?_
            obtain ⟨q6, hq6, h⟩ := ob h
            refine kSN (As := [.int p4, .int q2]) (rest := []) (w2 := []) (n := 2) (host := "TiltTray") ⟨hx, hb, hml, hown, hts⟩ (c_X6_bitOf l D cy p4 q2 q6 hq6) ggX3_comesTo_X6_bitOf rfl (hE.2.1 (.methodLinkNest RX3 30 yX6_bitOf "TiltTray") (by decide +kernel)) (hts (.initialized RX6) (by decide +kernel)) (hts (.static yX6_bitOf) (by decide +kernel)) (by decide +kernel) ⟨by rw [hRf]; exact Nat.le_of_ble_eq_true rfl, by rw [hRl]; exact Nat.le_of_ble_eq_true rfl⟩ hE hP hD hS hA [] rfl rfl rfl rfl rfl hl.1 rfl (Nat.le_of_ble_eq_true rfl) dX3_comesTo_42 ⟨Nat.zero_le _, Nat.zero_le _⟩ (fun H locs hP hD hS => ?_)
            refine lv_iconst (v := 1) hx hb dX3_comesTo_45 (by decide) ?_
            refine lv_icmp_ne (tgt := 52) hx hb dX3_comesTo_46 (by decide) (fun c7 => ?_) (fun c7 => ?_)
            · have h := oif h c7
              refine lv_iload hx hb dX3_comesTo_52 (lv_at hl 0 rfl) ?_
              refine lv_istore (lv' := [(4, .int q2), (6, .int q2), (1, .int p2), (2, .int p3), (3, .int p4), (5, .int x5)]) hx hb dX3_comesTo_54 hl (by decide) rfl (fun ls hl => ?_)
              refine lv_iinc (v := x5 + 1) (lv' := [(5, .int (x5 + 1)), (4, .int q2), (6, .int q2), (1, .int p2), (2, .int p3), (3, .int p4)]) hx hb dX3_comesTo_56 hl (k := 5) rfl rfl (by decide) rfl (fun ls hl => ?_)
              refine lv_goto (tgt := 6) hx hb dX3_comesTo_59 (by decide) ?_
              exact ih6 q2 (x5 + 1) _ _ _ (lv_sub hl [3, 4, 5, 1, 0] rfl) hP hD hS h
            · have h := oit h c7
              refine lv_bipush (v := 25) hx hb dX3_comesTo_49 (by decide) ?_
              obtain rfl := Option.some.inj h
              rw [hQ]; exact ct_iret hx hb hr hlocks hP hS rfl dX3_comesTo_51
          · have h := oit h c5
            refine lv_iload hx hb dX3_comesTo_36 (lv_at hl 4 rfl) ?_
            obtain rfl := Option.some.inj h
            rw [hQ]; exact ct_iret hx hb hr hlocks hP hS rfl dX3_comesTo_38
  refine lv_iload_n hx hb dX3_comesTo_0 rfl (lv_at hl 0 rfl) ?_
  refine lv_istore (lv' := [(4, .int p1), (0, .int p1), (1, .int p2), (2, .int p3), (3, .int p4)]) hx hb dX3_comesTo_1 hl (by decide) rfl (fun ls hl => ?_)
  refine lv_iconst (v := 0) hx hb dX3_comesTo_3 (by decide) ?_
  refine lv_istore (lv' := [(5, .int 0), (4, .int p1), (0, .int p1), (1, .int p2), (2, .int p3), (3, .int p4)]) hx hb dX3_comesTo_4 hl (by decide) rfl (fun ls hl => ?_)
  exact L6 6 p1 0 _ _ _ (lv_sub hl [3, 4, 5, 1, 0] rfl) hP hD hS h

def tw_X3_agree_29 (siu : Nat → Int32) (siv : Nat → Int32) (siw : Nat → Int32) (sin : Int32) (tr : TrS) (p1 : Int32) : Nat → Int32 → Int32 → Int32 → Option (Int32)
  | 0, _, _, _ => none
  | n + 1, x3, x4, x5 =>
    if sin ≤ x5 then (some (1)) else (if ix x5 6 = true then ((tw_X6_bitOf (x4 ||| x3) (siu x5.toNatClampNeg)).bind (fun q3 => if q3 = 1 then (some (0)) else (if ix x5 6 = true then (if ix x5 6 = true then ((tw_X3_comesTo (siu x5.toNatClampNeg) (siv x5.toNatClampNeg) x4 x3).bind (fun q7 => if ix x5 6 = true then (if q7 = (siw x5.toNatClampNeg) then ((tw_X3_agree_29 siu siv siw sin tr p1 n) x3 x4 (x5 + 1)) else (some (0))) else none)) else none) else none))) else none)
def tw_X3_agree (siu : Nat → Int32) (siv : Nat → Int32) (siw : Nat → Int32) (sin : Int32) (tr : TrS) (p1 : Int32) : Option (Int32) :=
  nm (((tr.1 (1 : Int32).toNatClampNeg) ||| (tr.1 (4 : Int32).toNatClampNeg)) ||| (1 <<< (p1 &&& 31))) (fun v10 => tw_X3_agree_29 siu siv siw sin tr p1 7 (tr.1 (2 : Int32).toNatClampNeg) v10 0)
set_option maxHeartbeats 4000000 in
set_option maxRecDepth 100000 in
theorem c_X3_agree (l : Launch) (D : va_G) (cy : Cy) (sih : Nat) (sia : Nat) (sib : Nat) (sic : Nat) (trh : Nat) (tra : Nat) (trb : Nat) (trc : Nat) (siu : Nat → Int32) (siv : Nat → Int32) (siw : Nat → Int32) (sin : Int32) (tr : TrS) (p1 : Int32) (res : Int32) (h : tw_X3_agree siu siv siw sin tr p1 = some res) : Ct l yX3_agree wsX3_agree 2 47 D cy [.ref sih, .ref trh, .int p1] (cSi sih sia sib sic cy.1 siu siv siw sin ++ (cTr trh tra trb trc cy.1 tr)) (cSi sih sia sib sic cy.1 siu siv siw sin ++ (cTr trh tra trb trc cy.1 tr)) (some (.int res)) := by
  refine Ct.ofW (cc := cX3_agree) (maxL := 6) (ret := (some .boolean)) (by decide) rfl (Nat.le_of_ble_eq_true rfl) ?_
  intro p e R s m args below meth c A Q ls hRf hRl hQ hx hb hr hml hts hown hlocks hE hP hD hS hA hl
  have hiX3 : ∀ w ∈ u_ws RX3 TX3 4, w ∈ wsX3_agree := by decide +kernel
  have hiX5 : ∀ w ∈ u_ws RX5 TX5 5, w ∈ wsX3_agree := by decide +kernel
  have hl : lv_has ls 6 [(0, .ref sih), (1, .ref trh), (2, .int p1)] := hl
  rw [tw_X3_agree] at h
  have L29 : ∀ (n : Nat) (x3 : Int32) (x4 : Int32) (x5 : Int32)  (H : Heap) (locs : List Loc) (ls : Array Slot), lv_has ls 6 [(0, .ref sih), (3, .int x3), (4, .int x4), (5, .int x5)] → va_P D vwCl (cSi sih sia sib sic cy.1 siu siv siw sin ++ (cTr trh tra trb trc cy.1 tr)) H → va_D A (cSi sih sia sib sic cy.1 siu siv siw sin ++ (cTr trh tra trb trc cy.1 tr)) → va_S A s.heap H locs → tw_X3_agree_29 siu siv siw sin tr p1 n x3 x4 x5 = some res → W p l e R s m args below meth c H locs 0 0 Q (F0 m 29 ls []) := by
    intro n29
    induction n29 with
    | zero =>
      intro x3 x4 x5  H locs ls hl hP hD hS h
      exact absurd h (by rw [tw_X3_agree_29]; exact fun q => by cases q)
    | succ n29 ih29 =>
      intro x3 x4 x5  H locs ls hl hP hD hS h
      rw [tw_X3_agree_29] at h
      refine lv_iload hx hb dX3_agree_29 (lv_at hl 3 rfl) ?_
      refine lv_aload_n hx hb dX3_agree_31 rfl (lv_at hl 0 rfl) ?_
      refine va_get (D := D) (ci := 3) (v := .int sin) (C := RX3) (T := TX3) (N := 4) hx hb hts hiX3 hown hE.1 hP 0 rfl rfl 3 (by decide) (hts (.fieldLink RX3 21 "TiltTray$Sights" "many" "I") (by decide +kernel)) (fun _ h9 => h9) rfl dX3_agree_32 ?_
      refine lv_icmp_ge (tgt := 96) hx hb dX3_agree_35 (by decide) (fun c1 => ?_) (fun c1 => ?_)
      · have h := oit h c1
        refine lv_iconst (v := 1) hx hb dX3_agree_96 (by decide) ?_
        obtain rfl := Option.some.inj h
        rw [hQ]; exact ct_zret hx hb hr hlocks rfl hP hS rfl dX3_agree_97
      · have h := oif h c1
        refine lv_iload hx hb dX3_agree_38 (lv_at hl 2 rfl) ?_
        refine lv_iload_n hx hb dX3_agree_40 rfl (lv_at hl 1 rfl) ?_
        refine lv_ior hx hb dX3_agree_41 ?_
        refine lv_aload_n hx hb dX3_agree_42 rfl (lv_at hl 0 rfl) ?_
        refine va_get (D := D) (ci := 3) (v := .ref sia) (C := RX3) (T := TX3) (N := 4) hx hb hts hiX3 hown hE.1 hP 0 rfl rfl 0 (by decide) (hts (.fieldLink RX3 9 "TiltTray$Sights" "cell" "[I") (by decide +kernel)) (fun _ h9 => h9) rfl dX3_agree_43 ?_
        refine lv_iload hx hb dX3_agree_46 (lv_at hl 3 rfl) ?_
        obtain ⟨g2, h⟩ := og h
        refine va_iald hx hb hE.1 hP 1 0 rfl rfl (ix_in g2) dX3_agree_48 ?_
        obtain ⟨q3, hq3, h⟩ := ob h
        refine kSN (As := [.int (x4 ||| x3), .int (siu x5.toNatClampNeg)]) (rest := []) (w2 := cSi sih sia sib sic cy.1 siu siv siw sin ++ (cTr trh tra trb trc cy.1 tr)) (n := 2) (host := "TiltTray") ⟨hx, hb, hml, hown, hts⟩ (c_X6_bitOf l D cy (x4 ||| x3) (siu x5.toNatClampNeg) q3 hq3) ggX3_agree_X6_bitOf rfl (hE.2.1 (.methodLinkNest RX3 30 yX6_bitOf "TiltTray") (by decide +kernel)) (hts (.initialized RX6) (by decide +kernel)) (hts (.static yX6_bitOf) (by decide +kernel)) (by decide +kernel) ⟨by rw [hRf]; exact Nat.le_of_ble_eq_true rfl, by rw [hRl]; exact Nat.le_of_ble_eq_true rfl⟩ hE hP hD hS hA [] rfl rfl rfl rfl rfl hl.1 rfl (Nat.le_of_ble_eq_true rfl) dX3_agree_49 ⟨Nat.zero_le _, Nat.zero_le _⟩ (fun H locs hP hD hS => ?_)
        refine lv_iconst (v := 1) hx hb dX3_agree_52 (by decide) ?_
        refine lv_icmp_ne (tgt := 58) hx hb dX3_agree_53 (by decide) (fun c4 => ?_) (fun c4 => ?_)
        · have h := oif h c4
          refine lv_aload_n hx hb dX3_agree_58 rfl (lv_at hl 0 rfl) ?_
          refine va_get (D := D) (ci := 3) (v := .ref sia) (C := RX3) (T := TX3) (N := 4) hx hb hts hiX3 hown hE.1 hP 0 rfl rfl 0 (by decide) (hts (.fieldLink RX3 9 "TiltTray$Sights" "cell" "[I") (by decide +kernel)) (fun _ h9 => h9) rfl dX3_agree_59 ?_
          refine lv_iload hx hb dX3_agree_62 (lv_at hl 3 rfl) ?_
          obtain ⟨g5, h⟩ := og h
          refine va_iald hx hb hE.1 hP 1 0 rfl rfl (ix_in g5) dX3_agree_64 ?_
          refine lv_aload_n hx hb dX3_agree_65 rfl (lv_at hl 0 rfl) ?_
          refine va_get (D := D) (ci := 3) (v := .ref sib) (C := RX3) (T := TX3) (N := 4) hx hb hts hiX3 hown hE.1 hP 0 rfl rfl 1 (by decide) (hts (.fieldLink RX3 15 "TiltTray$Sights" "way" "[I") (by decide +kernel)) (fun _ h9 => h9) rfl dX3_agree_66 ?_
          refine lv_iload hx hb dX3_agree_69 (lv_at hl 3 rfl) ?_
          obtain ⟨g6, h⟩ := og h
          refine va_iald hx hb hE.1 hP 2 0 rfl rfl (ix_in g6) dX3_agree_71 ?_
          refine lv_iload hx hb dX3_agree_72 (lv_at hl 2 rfl) ?_
          refine lv_iload_n hx hb dX3_agree_74 rfl (lv_at hl 1 rfl) ?_
          obtain ⟨q7, hq7, h⟩ := ob h
          refine kS (As := [.int (siu x5.toNatClampNeg), .int (siv x5.toNatClampNeg), .int x4, .int x3]) (rest := []) (w2 := cSi sih sia sib sic cy.1 siu siv siw sin ++ (cTr trh tra trb trc cy.1 tr)) (n := 4) ⟨hx, hb, hml, hown, hts⟩ (c_X3_comesTo l D cy (siu x5.toNatClampNeg) (siv x5.toNatClampNeg) x4 x3 q7 hq7) gX3_agree_X3_comesTo rfl (by decide +kernel) ⟨by rw [hRf]; exact Nat.le_of_ble_eq_true rfl, by rw [hRl]; exact Nat.le_of_ble_eq_true rfl⟩ hE hP hD hS hA [] rfl rfl rfl rfl rfl hl.1 rfl (Nat.le_of_ble_eq_true rfl) dX3_agree_75 ⟨Nat.zero_le _, Nat.zero_le _⟩ (fun H locs hP hD hS => ?_)
          refine lv_aload_n hx hb dX3_agree_78 rfl (lv_at hl 0 rfl) ?_
          refine va_get (D := D) (ci := 3) (v := .ref sic) (C := RX3) (T := TX3) (N := 4) hx hb hts hiX3 hown hE.1 hP 0 rfl rfl 2 (by decide) (hts (.fieldLink RX3 18 "TiltTray$Sights" "came" "[I") (by decide +kernel)) (fun _ h9 => h9) rfl dX3_agree_79 ?_
          refine lv_iload hx hb dX3_agree_82 (lv_at hl 3 rfl) ?_
          obtain ⟨g8, h⟩ := og h
          refine va_iald hx hb hE.1 hP 3 0 rfl rfl (ix_in g8) dX3_agree_84 ?_
          refine lv_icmp_eq (tgt := 90) hx hb dX3_agree_85 (by decide) (fun c9 => ?_) (fun c9 => ?_)
          · have h := oit h c9
            refine lv_iinc (v := x5 + 1) (lv' := [(5, .int (x5 + 1)), (0, .ref sih), (3, .int x3), (4, .int x4)]) hx hb dX3_agree_90 hl (k := 3) rfl rfl (by decide) rfl (fun ls hl => ?_)
            refine lv_goto (tgt := 29) hx hb dX3_agree_93 (by decide) ?_
            exact ih29 x3 x4 (x5 + 1) _ _ _ (lv_sub hl [1, 2, 3, 0] rfl) hP hD hS h
          · have h := oif h c9
            refine lv_iconst (v := 0) hx hb dX3_agree_88 (by decide) ?_
            obtain rfl := Option.some.inj h
            rw [hQ]; exact ct_zret hx hb hr hlocks rfl hP hS rfl dX3_agree_89
        · have h := oit h c4
          refine lv_iconst (v := 0) hx hb dX3_agree_56 (by decide) ?_
          obtain rfl := Option.some.inj h
          rw [hQ]; exact ct_zret hx hb hr hlocks rfl hP hS rfl dX3_agree_57
  refine lv_aload_n hx hb dX3_agree_0 rfl (lv_at hl 1 rfl) ?_
  refine va_get (D := D) (ci := 5) (v := .ref tra) (C := RX5) (T := TX5) (N := 5) hx hb hts hiX5 hown hE.1 hP 4 rfl rfl 0 (by decide) (hts (.fieldLink RX3 25 "TiltTray$Tray" "told" "[I") (by decide +kernel)) (fun _ h9 => h9) rfl dX3_agree_1 ?_
  refine lv_iconst (v := 2) hx hb dX3_agree_4 (by decide) ?_
  refine va_iald hx hb hE.1 hP 5 0 rfl rfl (ix_in (by decide)) dX3_agree_5 ?_
  refine lv_istore_n (lv' := [(3, .int (tr.1 (2 : Int32).toNatClampNeg)), (0, .ref sih), (1, .ref trh), (2, .int p1)]) hx hb dX3_agree_6 rfl hl (by decide) rfl (fun ls hl => ?_)
  refine lv_aload_n hx hb dX3_agree_7 rfl (lv_at hl 2 rfl) ?_
  refine va_get (D := D) (ci := 5) (v := .ref tra) (C := RX5) (T := TX5) (N := 5) hx hb hts hiX5 hown hE.1 hP 4 rfl rfl 0 (by decide) (hts (.fieldLink RX3 25 "TiltTray$Tray" "told" "[I") (by decide +kernel)) (fun _ h9 => h9) rfl dX3_agree_8 ?_
  refine lv_iconst (v := 1) hx hb dX3_agree_11 (by decide) ?_
  refine va_iald hx hb hE.1 hP 5 0 rfl rfl (ix_in (by decide)) dX3_agree_12 ?_
  refine lv_aload_n hx hb dX3_agree_13 rfl (lv_at hl 2 rfl) ?_
  refine va_get (D := D) (ci := 5) (v := .ref tra) (C := RX5) (T := TX5) (N := 5) hx hb hts hiX5 hown hE.1 hP 4 rfl rfl 0 (by decide) (hts (.fieldLink RX3 25 "TiltTray$Tray" "told" "[I") (by decide +kernel)) (fun _ h9 => h9) rfl dX3_agree_14 ?_
  refine lv_iconst (v := 4) hx hb dX3_agree_17 (by decide) ?_
  refine va_iald hx hb hE.1 hP 5 0 rfl rfl (ix_in (by decide)) dX3_agree_18 ?_
  refine lv_ior hx hb dX3_agree_19 ?_
  refine lv_iconst (v := 1) hx hb dX3_agree_20 (by decide) ?_
  refine lv_iload_n hx hb dX3_agree_21 rfl (lv_at hl 3 rfl) ?_
  refine lv_ishl hx hb dX3_agree_22 ?_
  refine lv_ior hx hb dX3_agree_23 ?_
  refine lv_topi (fun v10 ev10 => ?_)
  have h := nmh ev10 h
  refine lv_istore (lv' := [(4, .int v10), (3, .int (tr.1 (2 : Int32).toNatClampNeg)), (0, .ref sih), (1, .ref trh), (2, .int p1)]) hx hb dX3_agree_24 hl (by decide) rfl (fun ls hl => ?_)
  refine lv_iconst (v := 0) hx hb dX3_agree_26 (by decide) ?_
  refine lv_istore (lv' := [(5, .int 0), (4, .int v10), (3, .int (tr.1 (2 : Int32).toNatClampNeg)), (0, .ref sih), (1, .ref trh), (2, .int p1)]) hx hb dX3_agree_27 hl (by decide) rfl (fun ls hl => ?_)
  exact L29 7 (tr.1 (2 : Int32).toNatClampNeg) v10 0 _ _ _ (lv_sub hl [3, 2, 1, 0] rfl) hP hD hS h
