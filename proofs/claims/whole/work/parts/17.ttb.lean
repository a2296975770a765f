def tw_X6_tilt (no : SpS) (acf : Nat → SpS) (aci : Int32) (acn : Int32) (tr : TrS) (p1 : Int32) : Option (Int32 × SpS × (Nat → SpS) × Int32 × Int32) :=
  (tw_X6_isWay p1).bind (fun q1 => if q1 = 0 then (some ((-2), no, acf, aci, acn)) else ((tw_X0_remember acf aci acn no).bind (fun q3 => (tw_X4_fallen no).bind (fun q4 => (tw_X5_roll tr no p1).bind (fun q5 => (tw_X4_fallen (q5.1, q5.2.1, q5.2.2.1, q5.2.2.2.1, q5.2.2.2.2 + 1)).bind (fun q6 => some (q6 - q4, (q5.1, q5.2.1, q5.2.2.1, q5.2.2.2.1, q5.2.2.2.2 + 1), q3.1, q3.2.1, q3.2.2)))))))
set_option maxHeartbeats 4000000 in
set_option maxRecDepth 100000 in
theorem c_X6_tilt (l : Launch) (D : va_G) (cy : Cy) (xh : Nat) (x_text : Nat) (noh : Nat) (noa : Nat) (x_spare : Nat) (acfH : Nat → Nat) (acfB : Nat → Nat) (ach : Nat) (acr : Nat) (x_slots : Nat) (x_sights : Nat) (x_search : Nat) (x_pairs : Nat) (x_worth : Nat) (x_tray : Nat) (tra : Nat) (trb : Nat) (trc : Nat) (x_draft : Nat) (no : SpS) (acf : Nat → SpS) (aci : Int32) (acn : Int32) (tr : TrS) (x_let : Int32) (x_kept : Int32) (x_seed : Int64) (p1 : Int32) (res : Int32 × SpS × (Nat → SpS) × Int32 × Int32) (h : tw_X6_tilt no acf aci acn tr p1 = some res) : Ct l yX6_tilt wsX6_tilt 4 93 D cy [.ref xh, .int p1] ((cTT xh x_text noh x_spare ach x_slots x_sights x_search x_pairs x_worth x_tray x_draft x_let x_kept x_seed ++ (cSp noh noa cy.1 no ++ (cAc ach acr acfH cy.2.2.2.1 aci acn ++ (cTr x_tray tra trb trc cy.1 tr)))) ++ cSps acfH acfB cy.1 acf 14) ((cTT xh x_text noh x_spare ach x_slots x_sights x_search x_pairs x_worth x_tray x_draft x_let x_kept x_seed ++ (cSp noh noa cy.1 res.2.1 ++ (cAc ach acr acfH cy.2.2.2.1 res.2.2.2.1 res.2.2.2.2 ++ (cTr x_tray tra trb trc cy.1 tr)))) ++ cSps acfH acfB cy.1 res.2.2.1 14) (some (.int res.1)) := by
  refine Ct.ofW (cc := cX6_tilt) (maxL := 3) (ret := (some .int)) (by decide) rfl (Nat.le_of_ble_eq_true rfl) ?_
  intro p e R s m args below meth c A Q ls hRf hRl hQ hx hb hr hml hts hown hlocks hE hP hD hS hA hl
  have hiX4 : ∀ w ∈ u_ws RX4 TX4 5, w ∈ wsX6_tilt := by decide +kernel
  have hiX6 : ∀ w ∈ u_ws RX6 TX6 14, w ∈ wsX6_tilt := by decide +kernel
  have hl : lv_has ls 3 [(0, .ref xh), (1, .int p1)] := hl
  rw [tw_X6_tilt] at h
  refine lv_iload_n hx hb dX6_tilt_0 rfl (lv_at hl 1 rfl) ?_
  obtain ⟨q1, hq1, h⟩ := ob h
  refine kS (As := [.int p1]) (rest := []) (w2 := (cTT xh x_text noh x_spare ach x_slots x_sights x_search x_pairs x_worth x_tray x_draft x_let x_kept x_seed ++ (cSp noh noa cy.1 no ++ (cAc ach acr acfH cy.2.2.2.1 aci acn ++ (cTr x_tray tra trb trc cy.1 tr)))) ++ cSps acfH acfB cy.1 acf 14) (n := 1) ⟨hx, hb, hml, hown, hts⟩ (c_X6_isWay l D cy p1 q1 hq1) gX6_tilt_X6_isWay rfl (by decide +kernel) ⟨by rw [hRf]; exact Nat.le_of_ble_eq_true rfl, by rw [hRl]; exact Nat.le_of_ble_eq_true rfl⟩ hE hP hD hS hA [] rfl rfl rfl rfl rfl hl.1 rfl (Nat.le_of_ble_eq_true rfl) dX6_tilt_1 ⟨Nat.zero_le _, Nat.zero_le _⟩ (fun H locs hP hD hS => ?_)
  refine lv_if_ne (tgt := 10) hx hb dX6_tilt_4 (by decide) (fun c2 => ?_) (fun c2 => ?_)
  · have h := oif h c2
    refine lv_aload_n hx hb dX6_tilt_10 rfl (lv_at hl 0 rfl) ?_
    refine va_get (D := D) (ci := 6) (v := .ref ach) (C := RX6) (T := TX6) (N := 14) hx hb hts hiX6 hown hE.1 hP 0 rfl rfl 6 (by decide) (hts (.fieldLink RX6 36 "TiltTray" "acts" "LTiltTray$Acts;") (by decide +kernel)) (fun _ h9 => h9) rfl dX6_tilt_11 ?_
    refine lv_aload_n hx hb dX6_tilt_14 rfl (lv_at hl 0 rfl) ?_
    refine va_get (D := D) (ci := 6) (v := .ref noh) (C := RX6) (T := TX6) (N := 14) hx hb hts hiX6 hown hE.1 hP 0 rfl rfl 4 (by decide) (hts (.fieldLink RX6 26 "TiltTray" "now" "LTiltTray$Spot;") (by decide +kernel)) (fun _ h9 => h9) rfl dX6_tilt_15 ?_
    obtain ⟨q3, hq3, h⟩ := ob h
    refine kV (As := [.ref noh]) (rest := []) (w2 := (cTT xh x_text noh x_spare ach x_slots x_sights x_search x_pairs x_worth x_tray x_draft x_let x_kept x_seed ++ (cSp noh noa cy.1 no ++ (cAc ach acr acfH cy.2.2.2.1 q3.2.1 q3.2.2 ++ (cTr x_tray tra trb trc cy.1 tr)))) ++ cSps acfH acfB cy.1 q3.1 14) (n := 1) (q0 := 3) ⟨hx, hb, hml, hown, hts⟩ (c_X0_remember l D cy acfH acfB ach acr noh noa acf aci acn no q3 hq3) gX6_tilt_X0_remember rfl (by decide +kernel) ⟨by rw [hRf]; exact Nat.le_of_ble_eq_true rfl, by rw [hRl]; exact Nat.le_of_ble_eq_true rfl⟩ hE hP hD hS hA ([3, 4, 1, 2] ++ rng 9 28) (by decide +kernel) (blkC rfl rfl) (blkA rfl) (blkU rfl rfl rfl) rfl rfl rfl hl.1 rfl (Nat.le_of_ble_eq_true rfl) dX6_tilt_18 ⟨Nat.zero_le _, Nat.zero_le _⟩ (fun H locs hP hD hS => ?_)
    refine lv_aload_n hx hb dX6_tilt_21 rfl (lv_at hl 0 rfl) ?_
    refine va_get (D := D) (ci := 6) (v := .ref noh) (C := RX6) (T := TX6) (N := 14) hx hb hts hiX6 hown hE.1 hP 0 rfl rfl 4 (by decide) (hts (.fieldLink RX6 26 "TiltTray" "now" "LTiltTray$Spot;") (by decide +kernel)) (fun _ h9 => h9) rfl dX6_tilt_22 ?_
    obtain ⟨q4, hq4, h⟩ := ob h
    refine kV (As := []) (rest := []) (w2 := (cTT xh x_text noh x_spare ach x_slots x_sights x_search x_pairs x_worth x_tray x_draft x_let x_kept x_seed ++ (cSp noh noa cy.1 no ++ (cAc ach acr acfH cy.2.2.2.1 q3.2.1 q3.2.2 ++ (cTr x_tray tra trb trc cy.1 tr)))) ++ cSps acfH acfB cy.1 q3.1 14) (n := 0) (q0 := 1) ⟨hx, hb, hml, hown, hts⟩ (c_X4_fallen l D cy noh noa no q4 hq4) gX6_tilt_X4_fallen rfl (by decide +kernel) ⟨by rw [hRf]; exact Nat.le_of_ble_eq_true rfl, by rw [hRl]; exact Nat.le_of_ble_eq_true rfl⟩ hE hP hD hS hA [1, 2] rfl rfl rfl rfl rfl rfl rfl hl.1 rfl (Nat.le_of_ble_eq_true rfl) dX6_tilt_25 ⟨Nat.zero_le _, Nat.zero_le _⟩ (fun H locs hP hD hS => ?_)
    refine lv_istore_n (lv' := [(2, .int q4), (0, .ref xh), (1, .int p1)]) hx hb dX6_tilt_28 rfl hl (by decide) rfl (fun ls hl => ?_)
    refine lv_aload_n hx hb dX6_tilt_29 rfl (lv_at hl 1 rfl) ?_
    refine va_get (D := D) (ci := 6) (v := .ref x_tray) (C := RX6) (T := TX6) (N := 14) hx hb hts hiX6 hown hE.1 hP 0 rfl rfl 2 (by decide) (hts (.fieldLink RX6 16 "TiltTray" "tray" "LTiltTray$Tray;") (by decide +kernel)) (fun _ h9 => h9) rfl dX6_tilt_30 ?_
    refine lv_aload_n hx hb dX6_tilt_33 rfl (lv_at hl 1 rfl) ?_
    refine va_get (D := D) (ci := 6) (v := .ref noh) (C := RX6) (T := TX6) (N := 14) hx hb hts hiX6 hown hE.1 hP 0 rfl rfl 4 (by decide) (hts (.fieldLink RX6 26 "TiltTray" "now" "LTiltTray$Spot;") (by decide +kernel)) (fun _ h9 => h9) rfl dX6_tilt_34 ?_
    refine lv_iload_n hx hb dX6_tilt_37 rfl (lv_at hl 2 rfl) ?_
    obtain ⟨q5, hq5, h⟩ := ob h
    refine kV (As := [.ref noh, .int p1]) (rest := []) (w2 := (cTT xh x_text noh x_spare ach x_slots x_sights x_search x_pairs x_worth x_tray x_draft x_let x_kept x_seed ++ (cSp noh noa cy.1 q5 ++ (cAc ach acr acfH cy.2.2.2.1 q3.2.1 q3.2.2 ++ (cTr x_tray tra trb trc cy.1 tr)))) ++ cSps acfH acfB cy.1 q3.1 14) (n := 2) (q0 := 5) ⟨hx, hb, hml, hown, hts⟩ (c_X5_roll l D cy x_tray tra trb trc noh noa tr no p1 q5 hq5) gX6_tilt_X5_roll rfl (by decide +kernel) ⟨by rw [hRf]; exact Nat.le_of_ble_eq_true rfl, by rw [hRl]; exact Nat.le_of_ble_eq_true rfl⟩ hE hP hD hS hA [5, 6, 7, 8, 1, 2] rfl rfl rfl rfl rfl rfl rfl hl.1 rfl (Nat.le_of_ble_eq_true rfl) dX6_tilt_38 ⟨Nat.zero_le _, Nat.zero_le _⟩ (fun H locs hP hD hS => ?_)
    refine lv_aload_n hx hb dX6_tilt_41 rfl (lv_at hl 1 rfl) ?_
    refine va_get (D := D) (ci := 6) (v := .ref noh) (C := RX6) (T := TX6) (N := 14) hx hb hts hiX6 hown hE.1 hP 0 rfl rfl 4 (by decide) (hts (.fieldLink RX6 26 "TiltTray" "now" "LTiltTray$Spot;") (by decide +kernel)) (fun _ h9 => h9) rfl dX6_tilt_42 ?_
    refine lv_dup hx hb dX6_tilt_45 rfl ?_
    refine va_get (D := D) (ci := 4) (v := .int q5.2.2.2.2) (C := RX4) (T := TX4) (N := 5) hx hb hts hiX4 hown hE.1 hP 1 rfl rfl 4 (by decide) (hts (.fieldLink RX6 148 "TiltTray$Spot" "tilts" "I") (by decide +kernel)) (fun _ h9 => h9) rfl dX6_tilt_46 ?_
    refine lv_iconst (v := 1) hx hb dX6_tilt_49 (by decide) ?_
    refine lv_iadd hx hb dX6_tilt_50 ?_
    refine va_put (D := D) (ci := 4) (v := .int (q5.2.2.2.2 + 1)) (ty := .int) (C := RX4) (T := TX4) (N := 5) hx hb hts hiX4 tyX4 tyX4_ok nmX4 hown hE.1 hP hD hS 1 rfl rfl 4 (by decide) (hts (.fieldLink RX6 148 "TiltTray$Spot" "tilts" "I") (by decide +kernel)) (fun _ h9 => h9) rfl (by decide +kernel) rfl rfl (Nat.le_of_ble_eq_true rfl) dX6_tilt_51 (fun H locs hP hD hS => ?_)
    have hP : va_P D vwCl ((cTT xh x_text noh x_spare ach x_slots x_sights x_search x_pairs x_worth x_tray x_draft x_let x_kept x_seed ++ (cSp noh noa cy.1 (q5.1, q5.2.1, q5.2.2.1, q5.2.2.2.1, q5.2.2.2.2 + 1) ++ (cAc ach acr acfH cy.2.2.2.1 q3.2.1 q3.2.2 ++ (cTr x_tray tra trb trc cy.1 tr)))) ++ cSps acfH acfB cy.1 q3.1 14) H := hP
    have hD : va_D A ((cTT xh x_text noh x_spare ach x_slots x_sights x_search x_pairs x_worth x_tray x_draft x_let x_kept x_seed ++ (cSp noh noa cy.1 (q5.1, q5.2.1, q5.2.2.1, q5.2.2.2.1, q5.2.2.2.2 + 1) ++ (cAc ach acr acfH cy.2.2.2.1 q3.2.1 q3.2.2 ++ (cTr x_tray tra trb trc cy.1 tr)))) ++ cSps acfH acfB cy.1 q3.1 14) := hD
    refine lv_aload_n hx hb dX6_tilt_54 rfl (lv_at hl 1 rfl) ?_
    refine va_get (D := D) (ci := 6) (v := .ref noh) (C := RX6) (T := TX6) (N := 14) hx hb hts hiX6 hown hE.1 hP 0 rfl rfl 4 (by decide) (hts (.fieldLink RX6 26 "TiltTray" "now" "LTiltTray$Spot;") (by decide +kernel)) (fun _ h9 => h9) rfl dX6_tilt_55 ?_
    obtain ⟨q6, hq6, h⟩ := ob h
    refine kV (As := []) (rest := []) (w2 := (cTT xh x_text noh x_spare ach x_slots x_sights x_search x_pairs x_worth x_tray x_draft x_let x_kept x_seed ++ (cSp noh noa cy.1 (q5.1, q5.2.1, q5.2.2.1, q5.2.2.2.1, q5.2.2.2.2 + 1) ++ (cAc ach acr acfH cy.2.2.2.1 q3.2.1 q3.2.2 ++ (cTr x_tray tra trb trc cy.1 tr)))) ++ cSps acfH acfB cy.1 q3.1 14) (n := 0) (q0 := 1) ⟨hx, hb, hml, hown, hts⟩ (c_X4_fallen l D cy noh noa (q5.1, q5.2.1, q5.2.2.1, q5.2.2.2.1, q5.2.2.2.2 + 1) q6 hq6) gX6_tilt_X4_fallen rfl (by decide +kernel) ⟨by rw [hRf]; exact Nat.le_of_ble_eq_true rfl, by rw [hRl]; exact Nat.le_of_ble_eq_true rfl⟩ hE hP hD hS hA [1, 2] rfl rfl rfl rfl rfl rfl rfl hl.1 rfl (Nat.le_of_ble_eq_true rfl) dX6_tilt_58 ⟨Nat.zero_le _, Nat.zero_le _⟩ (fun H locs hP hD hS => ?_)
    refine lv_iload_n hx hb dX6_tilt_61 rfl (lv_at hl 0 rfl) ?_
    refine lv_isub hx hb dX6_tilt_62 ?_
    obtain rfl := Option.some.inj h
    rw [hQ]; exact ct_iret hx hb hr hlocks hP hS rfl dX6_tilt_63
  · have h := oit h c2
    refine lv_bipush (v := (-2)) hx hb dX6_tilt_7 (by decide) ?_
    obtain rfl := Option.some.inj h
    rw [hQ]; exact ct_iret hx hb hr hlocks hP hS rfl dX6_tilt_9

def tw_X6_lift (no : SpS) (acf : Nat → SpS) (aci : Int32) (acn : Int32) (tr : TrS) (p1 : Int32) (p2 : Int32) : Option (Int32 × SpS × (Nat → SpS) × Int32 × Int32) :=
  (tw_X5_has tr p1).bind (fun q1 => if q1 = 0 then (some ((-1), no, acf, aci, acn)) else ((tw_X6_isCell p2).bind (fun q3 => if q3 = 0 then (some ((-1), no, acf, aci, acn)) else (if ix p1 4 = true then (if (no.1 p1.toNatClampNeg) = p2 then (some ((-3), no, acf, aci, acn)) else (if (no.1 p1.toNatClampNeg) = (100 + p2) then (some ((-3), no, acf, aci, acn)) else ((tw_X5_canBe tr no p2).bind (fun q8 => if q8 = 0 then (some ((-3), no, acf, aci, acn)) else ((tw_X5_isOpenHole tr no p2).bind (fun q10 => if q10 = 0 then ((tw_X0_remember acf aci acn no).bind (fun q12 => (tw_X4_put no p1 p2).bind (fun q13 => some (no.1 p1.toNatClampNeg, q13, q12.1, q12.2.1, q12.2.2)))) else (some ((-3), no, acf, aci, acn)))))))) else none))))
set_option maxHeartbeats 4000000 in
set_option maxRecDepth 100000 in
theorem c_X6_lift (l : Launch) (D : va_G) (cy : Cy) (xh : Nat) (x_text : Nat) (noh : Nat) (noa : Nat) (x_spare : Nat) (acfH : Nat → Nat) (acfB : Nat → Nat) (ach : Nat) (acr : Nat) (x_slots : Nat) (x_sights : Nat) (x_search : Nat) (x_pairs : Nat) (x_worth : Nat) (x_tray : Nat) (tra : Nat) (trb : Nat) (trc : Nat) (x_draft : Nat) (no : SpS) (acf : Nat → SpS) (aci : Int32) (acn : Int32) (tr : TrS) (x_let : Int32) (x_kept : Int32) (x_seed : Int64) (p1 : Int32) (p2 : Int32) (res : Int32 × SpS × (Nat → SpS) × Int32 × Int32) (h : tw_X6_lift no acf aci acn tr p1 p2 = some res) : Ct l yX6_lift wsX6_lift 2 43 D cy [.ref xh, .int p1, .int p2] ((cTT xh x_text noh x_spare ach x_slots x_sights x_search x_pairs x_worth x_tray x_draft x_let x_kept x_seed ++ (cSp noh noa cy.1 no ++ (cAc ach acr acfH cy.2.2.2.1 aci acn ++ (cTr x_tray tra trb trc cy.1 tr)))) ++ cSps acfH acfB cy.1 acf 14) ((cTT xh x_text noh x_spare ach x_slots x_sights x_search x_pairs x_worth x_tray x_draft x_let x_kept x_seed ++ (cSp noh noa cy.1 res.2.1 ++ (cAc ach acr acfH cy.2.2.2.1 res.2.2.2.1 res.2.2.2.2 ++ (cTr x_tray tra trb trc cy.1 tr)))) ++ cSps acfH acfB cy.1 res.2.2.1 14) (some (.int res.1)) := by
  refine Ct.ofW (cc := cX6_lift) (maxL := 4) (ret := (some .int)) (by decide) rfl (Nat.le_of_ble_eq_true rfl) ?_
  intro p e R s m args below meth c A Q ls hRf hRl hQ hx hb hr hml hts hown hlocks hE hP hD hS hA hl
  have hiX4 : ∀ w ∈ u_ws RX4 TX4 5, w ∈ wsX6_lift := by decide +kernel
  have hiX6 : ∀ w ∈ u_ws RX6 TX6 14, w ∈ wsX6_lift := by decide +kernel
  have hl : lv_has ls 4 [(0, .ref xh), (1, .int p1), (2, .int p2)] := hl
  rw [tw_X6_lift] at h
  refine lv_aload_n hx hb dX6_lift_0 rfl (lv_at hl 0 rfl) ?_
  refine va_get (D := D) (ci := 6) (v := .ref x_tray) (C := RX6) (T := TX6) (N := 14) hx hb hts hiX6 hown hE.1 hP 0 rfl rfl 2 (by decide) (hts (.fieldLink RX6 16 "TiltTray" "tray" "LTiltTray$Tray;") (by decide +kernel)) (fun _ h9 => h9) rfl dX6_lift_1 ?_
  refine lv_iload_n hx hb dX6_lift_4 rfl (lv_at hl 1 rfl) ?_
  obtain ⟨q1, hq1, h⟩ := ob h
  refine kV (As := [.int p1]) (rest := []) (w2 := (cTT xh x_text noh x_spare ach x_slots x_sights x_search x_pairs x_worth x_tray x_draft x_let x_kept x_seed ++ (cSp noh noa cy.1 no ++ (cAc ach acr acfH cy.2.2.2.1 aci acn ++ (cTr x_tray tra trb trc cy.1 tr)))) ++ cSps acfH acfB cy.1 acf 14) (n := 1) (q0 := 5) ⟨hx, hb, hml, hown, hts⟩ (c_X5_has l D cy x_tray tra trb trc tr p1 q1 hq1) gX6_lift_X5_has rfl (by decide +kernel) ⟨by rw [hRf]; exact Nat.le_of_ble_eq_true rfl, by rw [hRl]; exact Nat.le_of_ble_eq_true rfl⟩ hE hP hD hS hA [5, 6, 7, 8] rfl rfl rfl rfl rfl rfl rfl hl.1 rfl (Nat.le_of_ble_eq_true rfl) dX6_lift_5 ⟨Nat.zero_le _, Nat.zero_le _⟩ (fun H locs hP hD hS => ?_)
  refine lv_if_eq (tgt := 18) hx hb dX6_lift_8 (by decide) (fun c2 => ?_) (fun c2 => ?_)
  · have h := oit h c2
    refine lv_iconst (v := (-1)) hx hb dX6_lift_18 (by decide) ?_
    obtain rfl := Option.some.inj h
    rw [hQ]; exact ct_iret hx hb hr hlocks hP hS rfl dX6_lift_19
  · have h := oif h c2
    refine lv_iload_n hx hb dX6_lift_11 rfl (lv_at hl 2 rfl) ?_
    obtain ⟨q3, hq3, h⟩ := ob h
    refine kS (As := [.int p2]) (rest := []) (w2 := (cTT xh x_text noh x_spare ach x_slots x_sights x_search x_pairs x_worth x_tray x_draft x_let x_kept x_seed ++ (cSp noh noa cy.1 no ++ (cAc ach acr acfH cy.2.2.2.1 aci acn ++ (cTr x_tray tra trb trc cy.1 tr)))) ++ cSps acfH acfB cy.1 acf 14) (n := 1) ⟨hx, hb, hml, hown, hts⟩ (c_X6_isCell l D cy p2 q3 hq3) gX6_lift_X6_isCell rfl (by decide +kernel) ⟨by rw [hRf]; exact Nat.le_of_ble_eq_true rfl, by rw [hRl]; exact Nat.le_of_ble_eq_true rfl⟩ hE hP hD hS hA [] rfl rfl rfl rfl rfl hl.1 rfl (Nat.le_of_ble_eq_true rfl) dX6_lift_12 ⟨Nat.zero_le _, Nat.zero_le _⟩ (fun H locs hP hD hS => ?_)
    refine lv_if_ne (tgt := 20) hx hb dX6_lift_15 (by decide) (fun c4 => ?_) (fun c4 => ?_)
    · have h := oif h c4
      refine lv_aload_n hx hb dX6_lift_20 rfl (lv_at hl 0 rfl) ?_
      refine va_get (D := D) (ci := 6) (v := .ref noh) (C := RX6) (T := TX6) (N := 14) hx hb hts hiX6 hown hE.1 hP 0 rfl rfl 4 (by decide) (hts (.fieldLink RX6 26 "TiltTray" "now" "LTiltTray$Spot;") (by decide +kernel)) (fun _ h9 => h9) rfl dX6_lift_21 ?_
      refine va_get (D := D) (ci := 4) (v := .ref noa) (C := RX4) (T := TX4) (N := 5) hx hb hts hiX4 hown hE.1 hP 1 rfl rfl 0 (by decide) (hts (.fieldLink RX6 125 "TiltTray$Spot" "at" "[I") (by decide +kernel)) (fun _ h9 => h9) rfl dX6_lift_24 ?_
      refine lv_iload_n hx hb dX6_lift_27 rfl (lv_at hl 1 rfl) ?_
      obtain ⟨g5, h⟩ := og h
      refine va_iald hx hb hE.1 hP 2 0 rfl rfl (ix_in g5) dX6_lift_28 ?_
      refine lv_istore_n (lv' := [(3, .int (no.1 p1.toNatClampNeg)), (0, .ref xh), (1, .int p1), (2, .int p2)]) hx hb dX6_lift_29 rfl hl (by decide) rfl (fun ls hl => ?_)
      refine lv_iload_n hx hb dX6_lift_30 rfl (lv_at hl 0 rfl) ?_
      refine lv_iload_n hx hb dX6_lift_31 rfl (lv_at hl 3 rfl) ?_
      refine lv_icmp_eq (tgt := 73) hx hb dX6_lift_32 (by decide) (fun c6 => ?_) (fun c6 => ?_)
      · have h := oit h c6
        refine lv_bipush (v := (-3)) hx hb dX6_lift_73 (by decide) ?_
        obtain rfl := Option.some.inj h
        rw [hQ]; exact ct_iret hx hb hr hlocks hP hS rfl dX6_lift_75
      · have h := oif h c6
        refine lv_iload_n hx hb dX6_lift_35 rfl (lv_at hl 0 rfl) ?_
        refine lv_bipush (v := 100) hx hb dX6_lift_36 (by decide) ?_
        refine lv_iload_n hx hb dX6_lift_38 rfl (lv_at hl 3 rfl) ?_
        refine lv_iadd hx hb dX6_lift_39 ?_
        refine lv_icmp_eq (tgt := 73) hx hb dX6_lift_40 (by decide) (fun c7 => ?_) (fun c7 => ?_)
        · have h := oit h c7
          refine lv_bipush (v := (-3)) hx hb dX6_lift_73 (by decide) ?_
          obtain rfl := Option.some.inj h
          rw [hQ]; exact ct_iret hx hb hr hlocks hP hS rfl dX6_lift_75
        · have h := oif h c7
          refine lv_aload_n hx hb dX6_lift_43 rfl (lv_at hl 1 rfl) ?_
          refine va_get (D := D) (ci := 6) (v := .ref x_tray) (C := RX6) (T := TX6) (N := 14) hx hb hts hiX6 hown hE.1 hP 0 rfl rfl 2 (by decide) (hts (.fieldLink RX6 16 "TiltTray" "tray" "LTiltTray$Tray;") (by decide +kernel)) (fun _ h9 => h9) rfl dX6_lift_44 ?_
          refine lv_aload_n hx hb dX6_lift_47 rfl (lv_at hl 1 rfl) ?_
          refine va_get (D := D) (ci := 6) (v := .ref noh) (C := RX6) (T := TX6) (N := 14) hx hb hts hiX6 hown hE.1 hP 0 rfl rfl 4 (by decide) (hts (.fieldLink RX6 26 "TiltTray" "now" "LTiltTray$Spot;") (by decide +kernel)) (fun _ h9 => h9) rfl dX6_lift_48 ?_
          refine lv_iload_n hx hb dX6_lift_51 rfl (lv_at hl 3 rfl) ?_
          obtain ⟨q8, hq8, h⟩ := ob h
          refine kV (As := [.ref noh, .int p2]) (rest := []) (w2 := (cTT xh x_text noh x_spare ach x_slots x_sights x_search x_pairs x_worth x_tray x_draft x_let x_kept x_seed ++ (cSp noh noa cy.1 no ++ (cAc ach acr acfH cy.2.2.2.1 aci acn ++ (cTr x_tray tra trb trc cy.1 tr)))) ++ cSps acfH acfB cy.1 acf 14) (n := 2) (q0 := 5) ⟨hx, hb, hml, hown, hts⟩ (c_X5_canBe l D cy x_tray tra trb trc noh noa tr no p2 q8 hq8) gX6_lift_X5_canBe rfl (by decide +kernel) ⟨by rw [hRf]; exact Nat.le_of_ble_eq_true rfl, by rw [hRl]; exact Nat.le_of_ble_eq_true rfl⟩ hE hP hD hS hA [5, 6, 7, 8, 1, 2] rfl rfl rfl rfl rfl rfl rfl hl.1 rfl (Nat.le_of_ble_eq_true rfl) dX6_lift_52 ⟨Nat.zero_le _, Nat.zero_le _⟩ (fun H locs hP hD hS => ?_)
          refine lv_if_eq (tgt := 73) hx hb dX6_lift_55 (by decide) (fun c9 => ?_) (fun c9 => ?_)
          · have h := oit h c9
            refine lv_bipush (v := (-3)) hx hb dX6_lift_73 (by decide) ?_
            obtain rfl := Option.some.inj h
            rw [hQ]; exact ct_iret hx hb hr hlocks hP hS rfl dX6_lift_75
          · have h := oif h c9
            refine lv_aload_n hx hb dX6_lift_58 rfl (lv_at hl 1 rfl) ?_
            refine va_get (D := D) (ci := 6) (v := .ref x_tray) (C := RX6) (T := TX6) (N := 14) hx hb hts hiX6 hown hE.1 hP 0 rfl rfl 2 (by decide) (hts (.fieldLink RX6 16 "TiltTray" "tray" "LTiltTray$Tray;") (by decide +kernel)) (fun _ h9 => h9) rfl dX6_lift_59 ?_
            refine lv_aload_n hx hb dX6_lift_62 rfl (lv_at hl 1 rfl) ?_
            refine va_get (D := D) (ci := 6) (v := .ref noh) (C := RX6) (T := TX6) (N := 14) hx hb hts hiX6 hown hE.1 hP 0 rfl rfl 4 (by decide) (hts (.fieldLink RX6 26 "TiltTray" "now" "LTiltTray$Spot;") (by decide +kernel)) (fun _ h9 => h9) rfl dX6_lift_63 ?_
            refine lv_iload_n hx hb dX6_lift_66 rfl (lv_at hl 3 rfl) ?_
            obtain ⟨q10, hq10, h⟩ := ob h
            refine kV (As := [.ref noh, .int p2]) (rest := []) (w2 := (cTT xh x_text noh x_spare ach x_slots x_sights x_search x_pairs x_worth x_tray x_draft x_let x_kept x_seed ++ (cSp noh noa cy.1 no ++ (cAc ach acr acfH cy.2.2.2.1 aci acn ++ (cTr x_tray tra trb trc cy.1 tr)))) ++ cSps acfH acfB cy.1 acf 14) (n := 2) (q0 := 5) ⟨hx, hb, hml, hown, hts⟩ (c_X5_isOpenHole l D cy x_tray tra trb trc noh noa tr no p2 q10 hq10) gX6_lift_X5_isOpenHole rfl (by decide +kernel) ⟨by rw [hRf]; exact Nat.le_of_ble_eq_true rfl, by rw [hRl]; exact Nat.le_of_ble_eq_true rfl⟩ hE hP hD hS hA [5, 6, 7, 8, 1, 2] rfl rfl rfl rfl rfl rfl rfl hl.1 rfl (Nat.le_of_ble_eq_true rfl) dX6_lift_67 ⟨Nat.zero_le _, Nat.zero_le _⟩ (fun H locs hP hD hS => ?_)
            refine lv_if_eq (tgt := 76) hx hb dX6_lift_70 (by decide) (fun c11 => ?_) (fun c11 => ?_)
            · have h := oit h c11
              refine lv_aload_n hx hb dX6_lift_76 rfl (lv_at hl 1 rfl) ?_
              refine va_get (D := D) (ci := 6) (v := .ref ach) (C := RX6) (T := TX6) (N := 14) hx hb hts hiX6 hown hE.1 hP 0 rfl rfl 6 (by decide) (hts (.fieldLink RX6 36 "TiltTray" "acts" "LTiltTray$Acts;") (by decide +kernel)) (fun _ h9 => h9) rfl dX6_lift_77 ?_
              refine lv_aload_n hx hb dX6_lift_80 rfl (lv_at hl 1 rfl) ?_
              refine va_get (D := D) (ci := 6) (v := .ref noh) (C := RX6) (T := TX6) (N := 14) hx hb hts hiX6 hown hE.1 hP 0 rfl rfl 4 (by decide) (hts (.fieldLink RX6 26 "TiltTray" "now" "LTiltTray$Spot;") (by decide +kernel)) (fun _ h9 => h9) rfl dX6_lift_81 ?_
              obtain ⟨q12, hq12, h⟩ := ob h
              refine kV (As := [.ref noh]) (rest := []) (w2 := (cTT xh x_text noh x_spare ach x_slots x_sights x_search x_pairs x_worth x_tray x_draft x_let x_kept x_seed ++ (cSp noh noa cy.1 no ++ (cAc ach acr acfH cy.2.2.2.1 q12.2.1 q12.2.2 ++ (cTr x_tray tra trb trc cy.1 tr)))) ++ cSps acfH acfB cy.1 q12.1 14) (n := 1) (q0 := 3) ⟨hx, hb, hml, hown, hts⟩ (c_X0_remember l D cy acfH acfB ach acr noh noa acf aci acn no q12 hq12) gX6_lift_X0_remember rfl (by decide +kernel) ⟨by rw [hRf]; exact Nat.le_of_ble_eq_true rfl, by rw [hRl]; exact Nat.le_of_ble_eq_true rfl⟩ hE hP hD hS hA ([3, 4, 1, 2] ++ rng 9 28) (by decide +kernel) (blkC rfl rfl) (blkA rfl) (blkU rfl rfl rfl) rfl rfl rfl hl.1 rfl (Nat.le_of_ble_eq_true rfl) dX6_lift_84 ⟨Nat.zero_le _, Nat.zero_le _⟩ (fun H locs hP hD hS => ?_)
              refine lv_aload_n hx hb dX6_lift_87 rfl (lv_at hl 1 rfl) ?_
              refine va_get (D := D) (ci := 6) (v := .ref noh) (C := RX6) (T := TX6) (N := 14) hx hb hts hiX6 hown hE.1 hP 0 rfl rfl 4 (by decide) (hts (.fieldLink RX6 26 "TiltTray" "now" "LTiltTray$Spot;") (by decide +kernel)) (fun _ h9 => h9) rfl dX6_lift_88 ?_
              refine lv_iload_n hx hb dX6_lift_91 rfl (lv_at hl 2 rfl) ?_
              refine lv_iload_n hx hb dX6_lift_92 rfl (lv_at hl 3 rfl) ?_
              obtain ⟨q13, hq13, h⟩ := ob h
              refine kV (As := [.int p1, .int p2]) (rest := []) (w2 := (cTT xh x_text noh x_spare ach x_slots x_sights x_search x_pairs x_worth x_tray x_draft x_let x_kept x_seed ++ (cSp noh noa cy.1 q13 ++ (cAc ach acr acfH cy.2.2.2.1 q12.2.1 q12.2.2 ++ (cTr x_tray tra trb trc cy.1 tr)))) ++ cSps acfH acfB cy.1 q12.1 14) (n := 2) (q0 := 1) ⟨hx, hb, hml, hown, hts⟩ (c_X4_put l D cy noh noa no p1 p2 q13 hq13) gX6_lift_X4_put rfl (by decide +kernel) ⟨by rw [hRf]; exact Nat.le_of_ble_eq_true rfl, by rw [hRl]; exact Nat.le_of_ble_eq_true rfl⟩ hE hP hD hS hA [1, 2] rfl rfl rfl rfl rfl rfl rfl hl.1 rfl (Nat.le_of_ble_eq_true rfl) dX6_lift_93 ⟨Nat.zero_le _, Nat.zero_le _⟩ (fun H locs hP hD hS => ?_)
              refine lv_iload_n hx hb dX6_lift_96 rfl (lv_at hl 0 rfl) ?_
              obtain rfl := Option.some.inj h
              rw [hQ]; exact ct_iret hx hb hr hlocks hP hS rfl dX6_lift_97
            · have h := oif h c11
              refine lv_bipush (v := (-3)) hx hb dX6_lift_73 (by decide) ?_
              obtain rfl := Option.some.inj h
              rw [hQ]; exact ct_iret hx hb hr hlocks hP hS rfl dX6_lift_75
    · have h := oit h c4
      refine lv_iconst (v := (-1)) hx hb dX6_lift_18 (by decide) ?_
      obtain rfl := Option.some.inj h
      rw [hQ]; exact ct_iret hx hb hr hlocks hP hS rfl dX6_lift_19

def tw_X6_wedge (no : SpS) (acf : Nat → SpS) (aci : Int32) (acn : Int32) (tr : TrS) (p1 : Int32) : Option (Int32 × SpS × (Nat → SpS) × Int32 × Int32) :=
  (tw_X5_wedgeRefusal tr no p1).bind (fun q1 => if q1 = 0 then ((tw_X0_remember acf aci acn no).bind (fun q3 => (tw_X6_bitOf (no.2.2.2.1 ^^^ (1 <<< (p1 &&& 31))) p1).bind (fun q4 => some (q4, (no.1, no.2.1, no.2.2.1, no.2.2.2.1 ^^^ (1 <<< (p1 &&& 31)), no.2.2.2.2), q3.1, q3.2.1, q3.2.2)))) else (some (q1, no, acf, aci, acn)))
set_option maxHeartbeats 4000000 in
set_option maxRecDepth 100000 in
theorem c_X6_wedge (l : Launch) (D : va_G) (cy : Cy) (xh : Nat) (x_text : Nat) (noh : Nat) (noa : Nat) (x_spare : Nat) (acfH : Nat → Nat) (acfB : Nat → Nat) (ach : Nat) (acr : Nat) (x_slots : Nat) (x_sights : Nat) (x_search : Nat) (x_pairs : Nat) (x_worth : Nat) (x_tray : Nat) (tra : Nat) (trb : Nat) (trc : Nat) (x_draft : Nat) (no : SpS) (acf : Nat → SpS) (aci : Int32) (acn : Int32) (tr : TrS) (x_let : Int32) (x_kept : Int32) (x_seed : Int64) (p1 : Int32) (res : Int32 × SpS × (Nat → SpS) × Int32 × Int32) (h : tw_X6_wedge no acf aci acn tr p1 = some res) : Ct l yX6_wedge wsX6_wedge 3 64 D cy [.ref xh, .int p1] ((cTT xh x_text noh x_spare ach x_slots x_sights x_search x_pairs x_worth x_tray x_draft x_let x_kept x_seed ++ (cSp noh noa cy.1 no ++ (cAc ach acr acfH cy.2.2.2.1 aci acn ++ (cTr x_tray tra trb trc cy.1 tr)))) ++ cSps acfH acfB cy.1 acf 14) ((cTT xh x_text noh x_spare ach x_slots x_sights x_search x_pairs x_worth x_tray x_draft x_let x_kept x_seed ++ (cSp noh noa cy.1 res.2.1 ++ (cAc ach acr acfH cy.2.2.2.1 res.2.2.2.1 res.2.2.2.2 ++ (cTr x_tray tra trb trc cy.1 tr)))) ++ cSps acfH acfB cy.1 res.2.2.1 14) (some (.int res.1)) := by
  refine Ct.ofW (cc := cX6_wedge) (maxL := 3) (ret := (some .int)) (by decide) rfl (Nat.le_of_ble_eq_true rfl) ?_
  intro p e R s m args below meth c A Q ls hRf hRl hQ hx hb hr hml hts hown hlocks hE hP hD hS hA hl
  have hiX4 : ∀ w ∈ u_ws RX4 TX4 5, w ∈ wsX6_wedge := by decide +kernel
  have hiX6 : ∀ w ∈ u_ws RX6 TX6 14, w ∈ wsX6_wedge := by decide +kernel
  have hl : lv_has ls 3 [(0, .ref xh), (1, .int p1)] := hl
  rw [tw_X6_wedge] at h
  refine lv_aload_n hx hb dX6_wedge_0 rfl (lv_at hl 0 rfl) ?_
  refine va_get (D := D) (ci := 6) (v := .ref x_tray) (C := RX6) (T := TX6) (N := 14) hx hb hts hiX6 hown hE.1 hP 0 rfl rfl 2 (by decide) (hts (.fieldLink RX6 16 "TiltTray" "tray" "LTiltTray$Tray;") (by decide +kernel)) (fun _ h9 => h9) rfl dX6_wedge_1 ?_
  refine lv_aload_n hx hb dX6_wedge_4 rfl (lv_at hl 0 rfl) ?_
  refine va_get (D := D) (ci := 6) (v := .ref noh) (C := RX6) (T := TX6) (N := 14) hx hb hts hiX6 hown hE.1 hP 0 rfl rfl 4 (by decide) (hts (.fieldLink RX6 26 "TiltTray" "now" "LTiltTray$Spot;") (by decide +kernel)) (fun _ h9 => h9) rfl dX6_wedge_5 ?_
  refine lv_iload_n hx hb dX6_wedge_8 rfl (lv_at hl 1 rfl) ?_
  obtain ⟨q1, hq1, h⟩ := ob h
  refine kV (As := [.ref noh, .int p1]) (rest := []) (w2 := (cTT xh x_text noh x_spare ach x_slots x_sights x_search x_pairs x_worth x_tray x_draft x_let x_kept x_seed ++ (cSp noh noa cy.1 no ++ (cAc ach acr acfH cy.2.2.2.1 aci acn ++ (cTr x_tray tra trb trc cy.1 tr)))) ++ cSps acfH acfB cy.1 acf 14) (n := 2) (q0 := 5) ⟨hx, hb, hml, hown, hts⟩ (c_X5_wedgeRefusal l D cy x_tray tra trb trc noh noa tr no p1 q1 hq1) gX6_wedge_X5_wedgeRefusal rfl (by decide +kernel) ⟨by rw [hRf]; exact Nat.le_of_ble_eq_true rfl, by rw [hRl]; exact Nat.le_of_ble_eq_true rfl⟩ hE hP hD hS hA [5, 6, 7, 8, 1, 2] rfl rfl rfl rfl rfl rfl rfl hl.1 rfl (Nat.le_of_ble_eq_true rfl) dX6_wedge_9 ⟨Nat.zero_le _, Nat.zero_le _⟩ (fun H locs hP hD hS => ?_)
  refine lv_istore_n (lv' := [(2, .int q1), (0, .ref xh), (1, .int p1)]) hx hb dX6_wedge_12 rfl hl (by decide) rfl (fun ls hl => ?_)
  refine lv_iload_n hx hb dX6_wedge_13 rfl (lv_at hl 0 rfl) ?_
  refine lv_if_eq (tgt := 19) hx hb dX6_wedge_14 (by decide) (fun c2 => ?_) (fun c2 => ?_)
  · have h := oit h c2
    refine lv_aload_n hx hb dX6_wedge_19 rfl (lv_at hl 1 rfl) ?_
    refine va_get (D := D) (ci := 6) (v := .ref ach) (C := RX6) (T := TX6) (N := 14) hx hb hts hiX6 hown hE.1 hP 0 rfl rfl 6 (by decide) (hts (.fieldLink RX6 36 "TiltTray" "acts" "LTiltTray$Acts;") (by decide +kernel)) (fun _ h9 => h9) rfl dX6_wedge_20 ?_
    refine lv_aload_n hx hb dX6_wedge_23 rfl (lv_at hl 1 rfl) ?_
    refine va_get (D := D) (ci := 6) (v := .ref noh) (C := RX6) (T := TX6) (N := 14) hx hb hts hiX6 hown hE.1 hP 0 rfl rfl 4 (by decide) (hts (.fieldLink RX6 26 "TiltTray" "now" "LTiltTray$Spot;") (by decide +kernel)) (fun _ h9 => h9) rfl dX6_wedge_24 ?_
    obtain ⟨q3, hq3, h⟩ := ob h
    refine kV (As := [.ref noh]) (rest := []) (w2 := (cTT xh x_text noh x_spare ach x_slots x_sights x_search x_pairs x_worth x_tray x_draft x_let x_kept x_seed ++ (cSp noh noa cy.1 no ++ (cAc ach acr acfH cy.2.2.2.1 q3.2.1 q3.2.2 ++ (cTr x_tray tra trb trc cy.1 tr)))) ++ cSps acfH acfB cy.1 q3.1 14) (n := 1) (q0 := 3) ⟨hx, hb, hml, hown, hts⟩ (c_X0_remember l D cy acfH acfB ach acr noh noa acf aci acn no q3 hq3) gX6_wedge_X0_remember rfl (by decide +kernel) ⟨by rw [hRf]; exact Nat.le_of_ble_eq_true rfl, by rw [hRl]; exact Nat.le_of_ble_eq_true rfl⟩ hE hP hD hS hA ([3, 4, 1, 2] ++ rng 9 28) (by decide +kernel) (blkC rfl rfl) (blkA rfl) (blkU rfl rfl rfl) rfl rfl rfl hl.1 rfl (Nat.le_of_ble_eq_true rfl) dX6_wedge_27 ⟨Nat.zero_le _, Nat.zero_le _⟩ (fun H locs hP hD hS => ?_)
    refine lv_aload_n hx hb dX6_wedge_30 rfl (lv_at hl 1 rfl) ?_
    refine va_get (D := D) (ci := 6) (v := .ref noh) (C := RX6) (T := TX6) (N := 14) hx hb hts hiX6 hown hE.1 hP 0 rfl rfl 4 (by decide) (hts (.fieldLink RX6 26 "TiltTray" "now" "LTiltTray$Spot;") (by decide +kernel)) (fun _ h9 => h9) rfl dX6_wedge_31 ?_
    refine lv_dup hx hb dX6_wedge_34 rfl ?_
    refine va_get (D := D) (ci := 4) (v := .int no.2.2.2.1) (C := RX4) (T := TX4) (N := 5) hx hb hts hiX4 hown hE.1 hP 1 rfl rfl 3 (by decide) (hts (.fieldLink RX6 116 "TiltTray$Spot" "wedged" "I") (by decide +kernel)) (fun _ h9 => h9) rfl dX6_wedge_35 ?_
    refine lv_iconst (v := 1) hx hb dX6_wedge_38 (by decide) ?_
    refine lv_iload_n hx hb dX6_wedge_39 rfl (lv_at hl 2 rfl) ?_
    refine lv_ishl hx hb dX6_wedge_40 ?_
    refine lv_ixor hx hb dX6_wedge_41 ?_
    refine va_put (D := D) (ci := 4) (v := .int (no.2.2.2.1 ^^^ (1 <<< (p1 &&& 31)))) (ty := .int) (C := RX4) (T := TX4) (N := 5) hx hb hts hiX4 tyX4 tyX4_ok nmX4 hown hE.1 hP hD hS 1 rfl rfl 3 (by decide) (hts (.fieldLink RX6 116 "TiltTray$Spot" "wedged" "I") (by decide +kernel)) (fun _ h9 => h9) rfl (by decide +kernel) rfl rfl (Nat.le_of_ble_eq_true rfl) dX6_wedge_42 (fun H locs hP hD hS => ?_)
    have hP : va_P D vwCl ((cTT xh x_text noh x_spare ach x_slots x_sights x_search x_pairs x_worth x_tray x_draft x_let x_kept x_seed ++ (cSp noh noa cy.1 (no.1, no.2.1, no.2.2.1, no.2.2.2.1 ^^^ (1 <<< (p1 &&& 31)), no.2.2.2.2) ++ (cAc ach acr acfH cy.2.2.2.1 q3.2.1 q3.2.2 ++ (cTr x_tray tra trb trc cy.1 tr)))) ++ cSps acfH acfB cy.1 q3.1 14) H := hP
    have hD : va_D A ((cTT xh x_text noh x_spare ach x_slots x_sights x_search x_pairs x_worth x_tray x_draft x_let x_kept x_seed ++ (cSp noh noa cy.1 (no.1, no.2.1, no.2.2.1, no.2.2.2.1 ^^^ (1 <<< (p1 &&& 31)), no.2.2.2.2) ++ (cAc ach acr acfH cy.2.2.2.1 q3.2.1 q3.2.2 ++ (cTr x_tray tra trb trc cy.1 tr)))) ++ cSps acfH acfB cy.1 q3.1 14) := hD
    refine lv_aload_n hx hb dX6_wedge_45 rfl (lv_at hl 1 rfl) ?_
    refine va_get (D := D) (ci := 6) (v := .ref noh) (C := RX6) (T := TX6) (N := 14) hx hb hts hiX6 hown hE.1 hP 0 rfl rfl 4 (by decide) (hts (.fieldLink RX6 26 "TiltTray" "now" "LTiltTray$Spot;") (by decide +kernel)) (fun _ h9 => h9) rfl dX6_wedge_46 ?_
    refine va_get (D := D) (ci := 4) (v := .int (no.2.2.2.1 ^^^ (1 <<< (p1 &&& 31)))) (C := RX4) (T := TX4) (N := 5) hx hb hts hiX4 hown hE.1 hP 1 rfl rfl 3 (by decide) (hts (.fieldLink RX6 116 "TiltTray$Spot" "wedged" "I") (by decide +kernel)) (fun _ h9 => h9) rfl dX6_wedge_49 ?_
    refine lv_iload_n hx hb dX6_wedge_52 rfl (lv_at hl 2 rfl) ?_
    obtain ⟨q4, hq4, h⟩ := ob h
    refine kS (As := [.int (no.2.2.2.1 ^^^ (1 <<< (p1 &&& 31))), .int p1]) (rest := []) (w2 := (cTT xh x_text noh x_spare ach x_slots x_sights x_search x_pairs x_worth x_tray x_draft x_let x_kept x_seed ++ (cSp noh noa cy.1 (no.1, no.2.1, no.2.2.1, no.2.2.2.1 ^^^ (1 <<< (p1 &&& 31)), no.2.2.2.2) ++ (cAc ach acr acfH cy.2.2.2.1 q3.2.1 q3.2.2 ++ (cTr x_tray tra trb trc cy.1 tr)))) ++ cSps acfH acfB cy.1 q3.1 14) (n := 2) ⟨hx, hb, hml, hown, hts⟩ (c_X6_bitOf l D cy (no.2.2.2.1 ^^^ (1 <<< (p1 &&& 31))) p1 q4 hq4) gX6_wedge_X6_bitOf rfl (by decide +kernel) ⟨by rw [hRf]; exact Nat.le_of_ble_eq_true rfl, by rw [hRl]; exact Nat.le_of_ble_eq_true rfl⟩ hE hP hD hS hA [] rfl rfl rfl rfl rfl hl.1 rfl (Nat.le_of_ble_eq_true rfl) dX6_wedge_53 ⟨Nat.zero_le _, Nat.zero_le _⟩ (fun H locs hP hD hS => ?_)
    obtain rfl := Option.some.inj h
    rw [hQ]; exact ct_iret hx hb hr hlocks hP hS rfl dX6_wedge_56
  · have h := oif h c2
    refine lv_iload_n hx hb dX6_wedge_17 rfl (lv_at hl 0 rfl) ?_
    obtain rfl := Option.some.inj h
    rw [hQ]; exact ct_iret hx hb hr hlocks hP hS rfl dX6_wedge_18

def tw_X6_undo (no : SpS) (acf : Nat → SpS) (aci : Int32) (acn : Int32) : Option (Int32 × SpS × Int32) :=
  (tw_X0_takeBack acf aci acn no).bind (fun q1 => some (q1.1, q1.2.2, q1.2.1))
set_option maxHeartbeats 4000000 in
set_option maxRecDepth 100000 in
theorem c_X6_undo (l : Launch) (D : va_G) (cy : Cy) (xh : Nat) (x_text : Nat) (noh : Nat) (noa : Nat) (x_spare : Nat) (acfH : Nat → Nat) (acfB : Nat → Nat) (ach : Nat) (acr : Nat) (x_slots : Nat) (x_sights : Nat) (x_search : Nat) (x_pairs : Nat) (x_worth : Nat) (x_tray : Nat) (x_draft : Nat) (no : SpS) (acf : Nat → SpS) (aci : Int32) (acn : Int32) (x_let : Int32) (x_kept : Int32) (x_seed : Int64) (res : Int32 × SpS × Int32) (h : tw_X6_undo no acf aci acn = some res) : Ct l yX6_undo wsX6_undo 2 43 D cy [.ref xh] ((cTT xh x_text noh x_spare ach x_slots x_sights x_search x_pairs x_worth x_tray x_draft x_let x_kept x_seed ++ (cSp noh noa cy.1 no ++ (cAc ach acr acfH cy.2.2.2.1 aci acn))) ++ cSps acfH acfB cy.1 acf 14) ((cTT xh x_text noh x_spare ach x_slots x_sights x_search x_pairs x_worth x_tray x_draft x_let x_kept x_seed ++ (cSp noh noa cy.1 res.2.1 ++ (cAc ach acr acfH cy.2.2.2.1 aci res.2.2))) ++ cSps acfH acfB cy.1 acf 14) (some (.int res.1)) := by
  refine Ct.ofW (cc := cX6_undo) (maxL := 1) (ret := (some .int)) (by decide) rfl (Nat.le_of_ble_eq_true rfl) ?_
  intro p e R s m args below meth c A Q ls hRf hRl hQ hx hb hr hml hts hown hlocks hE hP hD hS hA hl
  have hiX6 : ∀ w ∈ u_ws RX6 TX6 14, w ∈ wsX6_undo := by decide +kernel
  have hl : lv_has ls 1 [(0, .ref xh)] := hl
  rw [tw_X6_undo] at h
  refine lv_aload_n hx hb dX6_undo_0 rfl (lv_at hl 0 rfl) ?_
  refine va_get (D := D) (ci := 6) (v := .ref ach) (C := RX6) (T := TX6) (N := 14) hx hb hts hiX6 hown hE.1 hP 0 rfl rfl 6 (by decide) (hts (.fieldLink RX6 36 "TiltTray" "acts" "LTiltTray$Acts;") (by decide +kernel)) (fun _ h9 => h9) rfl dX6_undo_1 ?_
  refine lv_aload_n hx hb dX6_undo_4 rfl (lv_at hl 0 rfl) ?_
  refine va_get (D := D) (ci := 6) (v := .ref noh) (C := RX6) (T := TX6) (N := 14) hx hb hts hiX6 hown hE.1 hP 0 rfl rfl 4 (by decide) (hts (.fieldLink RX6 26 "TiltTray" "now" "LTiltTray$Spot;") (by decide +kernel)) (fun _ h9 => h9) rfl dX6_undo_5 ?_
  obtain ⟨q1, hq1, h⟩ := ob h
  refine kV (As := [.ref noh]) (rest := []) (w2 := (cTT xh x_text noh x_spare ach x_slots x_sights x_search x_pairs x_worth x_tray x_draft x_let x_kept x_seed ++ (cSp noh noa cy.1 q1.2.2 ++ (cAc ach acr acfH cy.2.2.2.1 aci q1.2.1))) ++ cSps acfH acfB cy.1 acf 14) (n := 1) (q0 := 3) ⟨hx, hb, hml, hown, hts⟩ (c_X0_takeBack l D cy acfH acfB ach acr noh noa acf aci acn no q1 hq1) gX6_undo_X0_takeBack rfl (by decide +kernel) ⟨by rw [hRf]; exact Nat.le_of_ble_eq_true rfl, by rw [hRl]; exact Nat.le_of_ble_eq_true rfl⟩ hE hP hD hS hA ([3, 4, 1, 2] ++ rng 5 28) (by decide +kernel) (blkC rfl rfl) (blkA rfl) (blkU rfl rfl rfl) rfl rfl rfl hl.1 rfl (Nat.le_of_ble_eq_true rfl) dX6_undo_8 ⟨Nat.zero_le _, Nat.zero_le _⟩ (fun H locs hP hD hS => ?_)
  obtain rfl := Option.some.inj h
  rw [hQ]; exact ct_iret hx hb hr hlocks hP hS rfl dX6_undo_11

def tw_X6_rolls (no : SpS) (sr : SpS) (tr : TrS) (p1 : Int32) (p2 : Int32) : Option (Int32 × SpS) :=
  (tw_X5_has tr p1).bind (fun q1 => if q1 = 0 then (some ((-1), sr)) else ((tw_X6_isWay p2).bind (fun q3 => if q3 = 0 then (some ((-2), sr)) else ((tw_X6_restOf no sr tr p1 p2).bind (fun q5 => some (q5.1, q5.2))))))
set_option maxHeartbeats 4000000 in
set_option maxRecDepth 100000 in
theorem c_X6_rolls (l : Launch) (D : va_G) (cy : Cy) (xh : Nat) (x_text : Nat) (noh : Nat) (noa : Nat) (srh : Nat) (sra : Nat) (x_acts : Nat) (x_slots : Nat) (x_sights : Nat) (x_search : Nat) (x_pairs : Nat) (x_worth : Nat) (x_tray : Nat) (tra : Nat) (trb : Nat) (trc : Nat) (x_draft : Nat) (no : SpS) (sr : SpS) (tr : TrS) (x_let : Int32) (x_kept : Int32) (x_seed : Int64) (p1 : Int32) (p2 : Int32) (res : Int32 × SpS) (h : tw_X6_rolls no sr tr p1 p2 = some res) : Ct l yX6_rolls wsX6_rolls 6 136 D cy [.ref xh, .int p1, .int p2] (cTT xh x_text noh srh x_acts x_slots x_sights x_search x_pairs x_worth x_tray x_draft x_let x_kept x_seed ++ (cSp noh noa cy.1 no ++ (cSp srh sra cy.1 sr ++ (cTr x_tray tra trb trc cy.1 tr)))) (cTT xh x_text noh srh x_acts x_slots x_sights x_search x_pairs x_worth x_tray x_draft x_let x_kept x_seed ++ (cSp noh noa cy.1 no ++ (cSp srh sra cy.1 res.2 ++ (cTr x_tray tra trb trc cy.1 tr)))) (some (.int res.1)) := by
  refine Ct.ofW (cc := cX6_rolls) (maxL := 3) (ret := (some .int)) (by decide) rfl (Nat.le_of_ble_eq_true rfl) ?_
  intro p e R s m args below meth c A Q ls hRf hRl hQ hx hb hr hml hts hown hlocks hE hP hD hS hA hl
  have hiX6 : ∀ w ∈ u_ws RX6 TX6 14, w ∈ wsX6_rolls := by decide +kernel
  have hl : lv_has ls 3 [(0, .ref xh), (1, .int p1), (2, .int p2)] := hl
  rw [tw_X6_rolls] at h
  refine lv_aload_n hx hb dX6_rolls_0 rfl (lv_at hl 0 rfl) ?_
  refine va_get (D := D) (ci := 6) (v := .ref x_tray) (C := RX6) (T := TX6) (N := 14) hx hb hts hiX6 hown hE.1 hP 0 rfl rfl 2 (by decide) (hts (.fieldLink RX6 16 "TiltTray" "tray" "LTiltTray$Tray;") (by decide +kernel)) (fun _ h9 => h9) rfl dX6_rolls_1 ?_
  refine lv_iload_n hx hb dX6_rolls_4 rfl (lv_at hl 1 rfl) ?_
  obtain ⟨q1, hq1, h⟩ := ob h
  refine kV (As := [.int p1]) (rest := []) (w2 := cTT xh x_text noh srh x_acts x_slots x_sights x_search x_pairs x_worth x_tray x_draft x_let x_kept x_seed ++ (cSp noh noa cy.1 no ++ (cSp srh sra cy.1 sr ++ (cTr x_tray tra trb trc cy.1 tr)))) (n := 1) (q0 := 5) ⟨hx, hb, hml, hown, hts⟩ (c_X5_has l D cy x_tray tra trb trc tr p1 q1 hq1) gX6_rolls_X5_has rfl (by decide +kernel) ⟨by rw [hRf]; exact Nat.le_of_ble_eq_true rfl, by rw [hRl]; exact Nat.le_of_ble_eq_true rfl⟩ hE hP hD hS hA [5, 6, 7, 8] rfl rfl rfl rfl rfl rfl rfl hl.1 rfl (Nat.le_of_ble_eq_true rfl) dX6_rolls_5 ⟨Nat.zero_le _, Nat.zero_le _⟩ (fun H locs hP hD hS => ?_)
  refine lv_if_ne (tgt := 13) hx hb dX6_rolls_8 (by decide) (fun c2 => ?_) (fun c2 => ?_)
  · have h := oif h c2
    refine lv_iload_n hx hb dX6_rolls_13 rfl (lv_at hl 2 rfl) ?_
    obtain ⟨q3, hq3, h⟩ := ob h
    refine kS (As := [.int p2]) (rest := []) (w2 := cTT xh x_text noh srh x_acts x_slots x_sights x_search x_pairs x_worth x_tray x_draft x_let x_kept x_seed ++ (cSp noh noa cy.1 no ++ (cSp srh sra cy.1 sr ++ (cTr x_tray tra trb trc cy.1 tr)))) (n := 1) ⟨hx, hb, hml, hown, hts⟩ (c_X6_isWay l D cy p2 q3 hq3) gX6_rolls_X6_isWay rfl (by decide +kernel) ⟨by rw [hRf]; exact Nat.le_of_ble_eq_true rfl, by rw [hRl]; exact Nat.le_of_ble_eq_true rfl⟩ hE hP hD hS hA [] rfl rfl rfl rfl rfl hl.1 rfl (Nat.le_of_ble_eq_true rfl) dX6_rolls_14 ⟨Nat.zero_le _, Nat.zero_le _⟩ (fun H locs hP hD hS => ?_)
    refine lv_if_ne (tgt := 23) hx hb dX6_rolls_17 (by decide) (fun c4 => ?_) (fun c4 => ?_)
    · have h := oif h c4
      refine lv_aload_n hx hb dX6_rolls_23 rfl (lv_at hl 0 rfl) ?_
      refine lv_iload_n hx hb dX6_rolls_24 rfl (lv_at hl 1 rfl) ?_
      refine lv_iload_n hx hb dX6_rolls_25 rfl (lv_at hl 2 rfl) ?_
      obtain ⟨q5, hq5, h⟩ := ob h
      refine kV (As := [.int p1, .int p2]) (rest := []) (w2 := cTT xh x_text noh srh x_acts x_slots x_sights x_search x_pairs x_worth x_tray x_draft x_let x_kept x_seed ++ (cSp noh noa cy.1 no ++ (cSp srh sra cy.1 q5.2 ++ (cTr x_tray tra trb trc cy.1 tr)))) (n := 2) (q0 := 0) ⟨hx, hb, hml, hown, hts⟩ (c_X6_restOf l D cy xh x_text noh noa srh sra x_acts x_slots x_sights x_search x_pairs x_worth x_tray tra trb trc x_draft no sr tr x_let x_kept x_seed p1 p2 q5 hq5) gX6_rolls_X6_restOf rfl (by decide +kernel) ⟨by rw [hRf]; exact Nat.le_of_ble_eq_true rfl, by rw [hRl]; exact Nat.le_of_ble_eq_true rfl⟩ hE hP hD hS hA [0, 1, 2, 3, 4, 5, 6, 7, 8] rfl rfl rfl rfl rfl rfl rfl hl.1 rfl (Nat.le_of_ble_eq_true rfl) dX6_rolls_26 ⟨Nat.zero_le _, Nat.zero_le _⟩ (fun H locs hP hD hS => ?_)
      obtain rfl := Option.some.inj h
      rw [hQ]; exact ct_iret hx hb hr hlocks hP hS rfl dX6_rolls_29
    · have h := oit h c4
      refine lv_bipush (v := (-2)) hx hb dX6_rolls_20 (by decide) ?_
      obtain rfl := Option.some.inj h
      rw [hQ]; exact ct_iret hx hb hr hlocks hP hS rfl dX6_rolls_22
  · have h := oit h c2
    refine lv_iconst (v := (-1)) hx hb dX6_rolls_11 (by decide) ?_
    obtain rfl := Option.some.inj h
    rw [hQ]; exact ct_iret hx hb hr hlocks hP hS rfl dX6_rolls_12

def tw_X6_safe_12 (no : SpS) (tr : TrS) : Nat → Int32 → Int32 → Int32 → SpS → Option (Int32 × SpS)
  | 0, _, _, _, _ => none
  | n + 1, x1, x2, x3, sr =>
    if 4 ≤ x3 then (some (x1, sr)) else ((tw_X6_tryTilt no sr tr x3).bind (fun q2 => (tw_X4_fallen q2).bind (fun q3 => if q3 = x2 then ((tw_X6_safe_12 no tr n) (x1 ||| (1 <<< (x3 &&& 31))) x2 (x3 + 1) q2) else ((tw_X6_safe_12 no tr n) x1 x2 (x3 + 1) q2))))
def tw_X6_safe (no : SpS) (sr : SpS) (tr : TrS) : Option (Int32 × SpS) :=
  (tw_X4_fallen no).bind (fun q5 => tw_X6_safe_12 no tr 5 0 q5 0 sr)
set_option maxHeartbeats 4000000 in
set_option maxRecDepth 100000 in
theorem c_X6_safe (l : Launch) (D : va_G) (cy : Cy) (xh : Nat) (x_text : Nat) (noh : Nat) (noa : Nat) (srh : Nat) (sra : Nat) (x_acts : Nat) (x_slots : Nat) (x_sights : Nat) (x_search : Nat) (x_pairs : Nat) (x_worth : Nat) (x_tray : Nat) (tra : Nat) (trb : Nat) (trc : Nat) (x_draft : Nat) (no : SpS) (sr : SpS) (tr : TrS) (x_let : Int32) (x_kept : Int32) (x_seed : Int64) (res : Int32 × SpS) (h : tw_X6_safe no sr tr = some res) : Ct l yX6_safe wsX6_safe 5 114 D cy [.ref xh] (cTT xh x_text noh srh x_acts x_slots x_sights x_search x_pairs x_worth x_tray x_draft x_let x_kept x_seed ++ (cSp noh noa cy.1 no ++ (cSp srh sra cy.1 sr ++ (cTr x_tray tra trb trc cy.1 tr)))) (cTT xh x_text noh srh x_acts x_slots x_sights x_search x_pairs x_worth x_tray x_draft x_let x_kept x_seed ++ (cSp noh noa cy.1 no ++ (cSp srh sra cy.1 res.2 ++ (cTr x_tray tra trb trc cy.1 tr)))) (some (.int res.1)) := by
  refine Ct.ofW (cc := cX6_safe) (maxL := 4) (ret := (some .int)) (by decide) rfl (Nat.le_of_ble_eq_true rfl) ?_
  intro p e R s m args below meth c A Q ls hRf hRl hQ hx hb hr hml hts hown hlocks hE hP hD hS hA hl
  have hiX6 : ∀ w ∈ u_ws RX6 TX6 14, w ∈ wsX6_safe := by decide +kernel
  have hl : lv_has ls 4 [(0, .ref xh)] := hl
  rw [tw_X6_safe] at h
  have L12 : ∀ (n : Nat) (x1 : Int32) (x2 : Int32) (x3 : Int32) (sr : SpS)  (H : Heap) (locs : List Loc) (ls : Array Slot), lv_has ls 4 [(0, .ref xh), (1, .int x1), (2, .int x2), (3, .int x3)] → va_P D vwCl (cTT xh x_text noh srh x_acts x_slots x_sights x_search x_pairs x_worth x_tray x_draft x_let x_kept x_seed ++ (cSp noh noa cy.1 no ++ (cSp srh sra cy.1 sr ++ (cTr x_tray tra trb trc cy.1 tr)))) H → va_D A (cTT xh x_text noh srh x_acts x_slots x_sights x_search x_pairs x_worth x_tray x_draft x_let x_kept x_seed ++ (cSp noh noa cy.1 no ++ (cSp srh sra cy.1 sr ++ (cTr x_tray tra trb trc cy.1 tr)))) → va_S A s.heap H locs → tw_X6_safe_12 no tr n x1 x2 x3 sr = some res → W p l e R s m args below meth c H locs 0 0 Q (F0 m 12 ls []) := by
    intro n12
    induction n12 with
    | zero =>
      intro x1 x2 x3 sr  H locs ls hl hP hD hS h
      exact absurd h (by rw [tw_X6_safe_12]; exact fun q => by cases q)
    | succ n12 ih12 =>
      intro x1 x2 x3 sr  H locs ls hl hP hD hS h
      rw [tw_X6_safe_12] at h
      refine lv_iload_n hx hb dX6_safe_12 rfl (lv_at hl 3 rfl) ?_
      refine lv_iconst (v := 4) hx hb dX6_safe_13 (by decide) ?_
      refine lv_icmp_ge (tgt := 45) hx hb dX6_safe_14 (by decide) (fun c1 => ?_) (fun c1 => ?_)
      · have h := oit h c1
        refine lv_iload_n hx hb dX6_safe_45 rfl (lv_at hl 1 rfl) ?_
        obtain rfl := Option.some.inj h
        rw [hQ]; exact ct_iret hx hb hr hlocks hP hS rfl dX6_safe_46
      · have h := oif h c1
        refine lv_aload_n hx hb dX6_safe_17 rfl (lv_at hl 0 rfl) ?_
        refine lv_iload_n hx hb dX6_safe_18 rfl (lv_at hl 3 rfl) ?_
        obtain ⟨q2, hq2, h⟩ := ob h
        refine kV (As := [.int x3]) (rest := []) (w2 := cTT xh x_text noh srh x_acts x_slots x_sights x_search x_pairs x_worth x_tray x_draft x_let x_kept x_seed ++ (cSp noh noa cy.1 no ++ (cSp srh sra cy.1 q2 ++ (cTr x_tray tra trb trc cy.1 tr)))) (n := 1) (q0 := 0) ⟨hx, hb, hml, hown, hts⟩ (c_X6_tryTilt l D cy xh x_text noh noa srh sra x_acts x_slots x_sights x_search x_pairs x_worth x_tray tra trb trc x_draft no sr tr x_let x_kept x_seed x3 q2 hq2) gX6_safe_X6_tryTilt rfl (by decide +kernel) ⟨by rw [hRf]; exact Nat.le_of_ble_eq_true rfl, by rw [hRl]; exact Nat.le_of_ble_eq_true rfl⟩ hE hP hD hS hA [0, 1, 2, 3, 4, 5, 6, 7, 8] rfl rfl rfl rfl rfl rfl rfl hl.1 rfl (Nat.le_of_ble_eq_true rfl) dX6_safe_19 ⟨Nat.zero_le _, Nat.zero_le _⟩ (fun H locs hP hD hS => ?_)
        refine lv_aload_n hx hb dX6_safe_22 rfl (lv_at hl 0 rfl) ?_
        refine va_get (D := D) (ci := 6) (v := .ref srh) (C := RX6) (T := TX6) (N := 14) hx hb hts hiX6 hown hE.1 hP 0 rfl rfl 5 (by decide) (hts (.fieldLink RX6 30 "TiltTray" "spare" "LTiltTray$Spot;") (by decide +kernel)) (fun _ h9 => h9) rfl dX6_safe_23 ?_
        obtain ⟨q3, hq3, h⟩ := ob h
        refine kV (As := []) (rest := []) (w2 := cTT xh x_text noh srh x_acts x_slots x_sights x_search x_pairs x_worth x_tray x_draft x_let x_kept x_seed ++ (cSp noh noa cy.1 no ++ (cSp srh sra cy.1 q2 ++ (cTr x_tray tra trb trc cy.1 tr)))) (n := 0) (q0 := 3) ⟨hx, hb, hml, hown, hts⟩ (c_X4_fallen l D cy srh sra q2 q3 hq3) gX6_safe_X4_fallen rfl (by decide +kernel) ⟨by rw [hRf]; exact Nat.le_of_ble_eq_true rfl, by rw [hRl]; exact Nat.le_of_ble_eq_true rfl⟩ hE hP hD hS hA [3, 4] rfl rfl rfl rfl rfl rfl rfl hl.1 rfl (Nat.le_of_ble_eq_true rfl) dX6_safe_26 ⟨Nat.zero_le _, Nat.zero_le _⟩ (fun H locs hP hD hS => ?_)
        refine lv_iload_n hx hb dX6_safe_29 rfl (lv_at hl 2 rfl) ?_
        refine lv_icmp_ne (tgt := 39) hx hb dX6_safe_30 (by decide) (fun c4 => ?_) (fun c4 => ?_)
        · have h := oif h c4
          refine lv_iinc (v := x3 + 1) (lv' := [(3, .int (x3 + 1)), (0, .ref xh), (1, .int x1), (2, .int x2)]) hx hb dX6_safe_39 hl (k := 3) rfl rfl (by decide) rfl (fun ls hl => ?_)
          refine lv_goto (tgt := 12) hx hb dX6_safe_42 (by decide) ?_
          exact ih12 x1 x2 (x3 + 1) q2 _ _ _ (lv_sub hl [1, 2, 3, 0] rfl) hP hD hS h
        · have h := oit h c4
          refine lv_iload_n hx hb dX6_safe_33 rfl (lv_at hl 1 rfl) ?_
          refine lv_iconst (v := 1) hx hb dX6_safe_34 (by decide) ?_
          refine lv_iload_n hx hb dX6_safe_35 rfl (lv_at hl 3 rfl) ?_
          refine lv_ishl hx hb dX6_safe_36 ?_
          refine lv_ior hx hb dX6_safe_37 ?_
          refine lv_istore_n (lv' := [(1, .int (x1 ||| (1 <<< (x3 &&& 31)))), (0, .ref xh), (2, .int x2), (3, .int x3)]) hx hb dX6_safe_38 rfl hl (by decide) rfl (fun ls hl => ?_)
          refine lv_iinc (v := x3 + 1) (lv' := [(3, .int (x3 + 1)), (1, .int (x1 ||| (1 <<< (x3 &&& 31)))), (0, .ref xh), (2, .int x2)]) hx hb dX6_safe_39 hl (k := 3) rfl rfl (by decide) rfl (fun ls hl => ?_)
          refine lv_goto (tgt := 12) hx hb dX6_safe_42 (by decide) ?_
          exact ih12 (x1 ||| (1 <<< (x3 &&& 31))) x2 (x3 + 1) q2 _ _ _ (lv_sub hl [2, 1, 3, 0] rfl) hP hD hS h
  refine lv_iconst (v := 0) hx hb dX6_safe_0 (by decide) ?_
  refine lv_istore_n (lv' := [(1, .int 0), (0, .ref xh)]) hx hb dX6_safe_1 rfl hl (by decide) rfl (fun ls hl => ?_)
  refine lv_aload_n hx hb dX6_safe_2 rfl (lv_at hl 1 rfl) ?_
  refine va_get (D := D) (ci := 6) (v := .ref noh) (C := RX6) (T := TX6) (N := 14) hx hb hts hiX6 hown hE.1 hP 0 rfl rfl 4 (by decide) (hts (.fieldLink RX6 26 "TiltTray" "now" "LTiltTray$Spot;") (by decide +kernel)) (fun _ h9 => h9) rfl dX6_safe_3 ?_
  obtain ⟨q5, hq5, h⟩ := ob h
  refine kV (As := []) (rest := []) (w2 := cTT xh x_text noh srh x_acts x_slots x_sights x_search x_pairs x_worth x_tray x_draft x_let x_kept x_seed ++ (cSp noh noa cy.1 no ++ (cSp srh sra cy.1 sr ++ (cTr x_tray tra trb trc cy.1 tr)))) (n := 0) (q0 := 1) ⟨hx, hb, hml, hown, hts⟩ (c_X4_fallen l D cy noh noa no q5 hq5) gX6_safe_X4_fallen rfl (by decide +kernel) ⟨by rw [hRf]; exact Nat.le_of_ble_eq_true rfl, by rw [hRl]; exact Nat.le_of_ble_eq_true rfl⟩ hE hP hD hS hA [1, 2] rfl rfl rfl rfl rfl rfl rfl hl.1 rfl (Nat.le_of_ble_eq_true rfl) dX6_safe_6 ⟨Nat.zero_le _, Nat.zero_le _⟩ (fun H locs hP hD hS => ?_)
  refine lv_istore_n (lv' := [(2, .int q5), (1, .int 0), (0, .ref xh)]) hx hb dX6_safe_9 rfl hl (by decide) rfl (fun ls hl => ?_)
  refine lv_iconst (v := 0) hx hb dX6_safe_10 (by decide) ?_
  refine lv_istore_n (lv' := [(3, .int 0), (2, .int q5), (1, .int 0), (0, .ref xh)]) hx hb dX6_safe_11 rfl hl (by decide) rfl (fun ls hl => ?_)
  exact L12 5 0 q5 0 sr _ _ _ (lv_sub hl [3, 2, 1, 0] rfl) hP hD hS h

def tw_X6_fewest (no : SpS) (sef : Nat → SpS) (seb : Int32) (seo : Int32) (sew : Int32) (tr : TrS) (p1 : Int32) (p2 : Int32) : Option (Int32 × (Nat → SpS) × Int32 × Int32) :=
  (tw_X5_has tr p1).bind (fun q1 => if q1 = 0 then (some ((-1), sef, seo, sew)) else ((tw_X2_findFewest sef seb seo sew tr no p1).bind (fun q3 => if q3.1 = 0 then (some ((-9), q3.2.1, q3.2.2.1, q3.2.2.2)) else (if p2 = 0 then (some (q3.2.2.1, q3.2.1, q3.2.2.1, q3.2.2.2)) else (some (q3.2.2.2, q3.2.1, q3.2.2.1, q3.2.2.2))))))
set_option maxHeartbeats 4000000 in
set_option maxRecDepth 100000 in
theorem c_X6_fewest (l : Launch) (D : va_G) (cy : Cy) (xh : Nat) (x_text : Nat) (noh : Nat) (noa : Nat) (x_spare : Nat) (x_acts : Nat) (x_slots : Nat) (x_sights : Nat) (sefH : Nat → Nat) (sefB : Nat → Nat) (seh : Nat) (ser : Nat) (x_pairs : Nat) (x_worth : Nat) (x_tray : Nat) (tra : Nat) (trb : Nat) (trc : Nat) (x_draft : Nat) (no : SpS) (sef : Nat → SpS) (seb : Int32) (seo : Int32) (sew : Int32) (tr : TrS) (x_let : Int32) (x_kept : Int32) (x_seed : Int64) (p1 : Int32) (p2 : Int32) (res : Int32 × (Nat → SpS) × Int32 × Int32) (h : tw_X6_fewest no sef seb seo sew tr p1 p2 = some res) : Ct l yX6_fewest wsX6_fewest 13 324 D cy [.ref xh, .int p1, .int p2] ((cTT xh x_text noh x_spare x_acts x_slots x_sights seh x_pairs x_worth x_tray x_draft x_let x_kept x_seed ++ (cSp noh noa cy.1 no ++ (cSe seh ser sefH cy.2.2.2.1 seb seo sew ++ (cTr x_tray tra trb trc cy.1 tr)))) ++ cSps sefH sefB cy.1 sef 6) ((cTT xh x_text noh x_spare x_acts x_slots x_sights seh x_pairs x_worth x_tray x_draft x_let x_kept x_seed ++ (cSp noh noa cy.1 no ++ (cSe seh ser sefH cy.2.2.2.1 seb res.2.2.1 res.2.2.2 ++ (cTr x_tray tra trb trc cy.1 tr)))) ++ cSps sefH sefB cy.1 res.2.1 6) (some (.int res.1)) := by
  refine Ct.ofW (cc := cX6_fewest) (maxL := 3) (ret := (some .int)) (by decide) rfl (Nat.le_of_ble_eq_true rfl) ?_
  intro p e R s m args below meth c A Q ls hRf hRl hQ hx hb hr hml hts hown hlocks hE hP hD hS hA hl
  have hiX2 : ∀ w ∈ u_ws RX2 TX2 4, w ∈ wsX6_fewest := by decide +kernel
  have hiX6 : ∀ w ∈ u_ws RX6 TX6 14, w ∈ wsX6_fewest := by decide +kernel
  have hl : lv_has ls 3 [(0, .ref xh), (1, .int p1), (2, .int p2)] := hl
  rw [tw_X6_fewest] at h
  refine lv_aload_n hx hb dX6_fewest_0 rfl (lv_at hl 0 rfl) ?_
  refine va_get (D := D) (ci := 6) (v := .ref x_tray) (C := RX6) (T := TX6) (N := 14) hx hb hts hiX6 hown hE.1 hP 0 rfl rfl 2 (by decide) (hts (.fieldLink RX6 16 "TiltTray" "tray" "LTiltTray$Tray;") (by decide +kernel)) (fun _ h9 => h9) rfl dX6_fewest_1 ?_
  refine lv_iload_n hx hb dX6_fewest_4 rfl (lv_at hl 1 rfl) ?_
  obtain ⟨q1, hq1, h⟩ := ob h
  refine kV (As := [.int p1]) (rest := []) (w2 := (cTT xh x_text noh x_spare x_acts x_slots x_sights seh x_pairs x_worth x_tray x_draft x_let x_kept x_seed ++ (cSp noh noa cy.1 no ++ (cSe seh ser sefH cy.2.2.2.1 seb seo sew ++ (cTr x_tray tra trb trc cy.1 tr)))) ++ cSps sefH sefB cy.1 sef 6) (n := 1) (q0 := 5) ⟨hx, hb, hml, hown, hts⟩ (c_X5_has l D cy x_tray tra trb trc tr p1 q1 hq1) gX6_fewest_X5_has rfl (by decide +kernel) ⟨by rw [hRf]; exact Nat.le_of_ble_eq_true rfl, by rw [hRl]; exact Nat.le_of_ble_eq_true rfl⟩ hE hP hD hS hA [5, 6, 7, 8] rfl rfl rfl rfl rfl rfl rfl hl.1 rfl (Nat.le_of_ble_eq_true rfl) dX6_fewest_5 ⟨Nat.zero_le _, Nat.zero_le _⟩ (fun H locs hP hD hS => ?_)
  refine lv_if_ne (tgt := 13) hx hb dX6_fewest_8 (by decide) (fun c2 => ?_) (fun c2 => ?_)
  · have h := oif h c2
    refine lv_aload_n hx hb dX6_fewest_13 rfl (lv_at hl 0 rfl) ?_
    refine va_get (D := D) (ci := 6) (v := .ref seh) (C := RX6) (T := TX6) (N := 14) hx hb hts hiX6 hown hE.1 hP 0 rfl rfl 10 (by decide) (hts (.fieldLink RX6 54 "TiltTray" "search" "LTiltTray$Search;") (by decide +kernel)) (fun _ h9 => h9) rfl dX6_fewest_14 ?_
    refine lv_aload_n hx hb dX6_fewest_17 rfl (lv_at hl 0 rfl) ?_
    refine va_get (D := D) (ci := 6) (v := .ref x_tray) (C := RX6) (T := TX6) (N := 14) hx hb hts hiX6 hown hE.1 hP 0 rfl rfl 2 (by decide) (hts (.fieldLink RX6 16 "TiltTray" "tray" "LTiltTray$Tray;") (by decide +kernel)) (fun _ h9 => h9) rfl dX6_fewest_18 ?_
    refine lv_aload_n hx hb dX6_fewest_21 rfl (lv_at hl 0 rfl) ?_
    refine va_get (D := D) (ci := 6) (v := .ref noh) (C := RX6) (T := TX6) (N := 14) hx hb hts hiX6 hown hE.1 hP 0 rfl rfl 4 (by decide) (hts (.fieldLink RX6 26 "TiltTray" "now" "LTiltTray$Spot;") (by decide +kernel)) (fun _ h9 => h9) rfl dX6_fewest_22 ?_
    refine lv_iload_n hx hb dX6_fewest_25 rfl (lv_at hl 1 rfl) ?_
    obtain ⟨q3, hq3, h⟩ := ob h
    refine kV (As := [.ref x_tray, .ref noh, .int p1]) (rest := []) (w2 := (cTT xh x_text noh x_spare x_acts x_slots x_sights seh x_pairs x_worth x_tray x_draft x_let x_kept x_seed ++ (cSp noh noa cy.1 no ++ (cSe seh ser sefH cy.2.2.2.1 seb q3.2.2.1 q3.2.2.2 ++ (cTr x_tray tra trb trc cy.1 tr)))) ++ cSps sefH sefB cy.1 q3.2.1 6) (n := 3) (q0 := 3) ⟨hx, hb, hml, hown, hts⟩ (c_X2_findFewest l D cy sefH sefB seh ser x_tray tra trb trc noh noa sef seb seo sew tr no p1 q3 hq3) gX6_fewest_X2_findFewest rfl (by decide +kernel) ⟨by rw [hRf]; exact Nat.le_of_ble_eq_true rfl, by rw [hRl]; exact Nat.le_of_ble_eq_true rfl⟩ hE hP hD hS hA ([3, 4, 5, 6, 7, 8, 1, 2] ++ rng 9 12) (by decide +kernel) (blkC rfl rfl) (blkA rfl) (blkU rfl rfl rfl) rfl rfl rfl hl.1 rfl (Nat.le_of_ble_eq_true rfl) dX6_fewest_26 ⟨Nat.zero_le _, Nat.zero_le _⟩ (fun H locs hP hD hS => ?_)
    refine lv_if_ne (tgt := 35) hx hb dX6_fewest_29 (by decide) (fun c4 => ?_) (fun c4 => ?_)
    · have h := oif h c4
      refine lv_iload_n hx hb dX6_fewest_35 rfl (lv_at hl 2 rfl) ?_
      refine lv_if_eq (tgt := 49) hx hb dX6_fewest_36 (by decide) (fun c5 => ?_) (fun c5 => ?_)
      · have h := oit h c5
        refine lv_aload_n hx hb dX6_fewest_49 rfl (lv_at hl 0 rfl) ?_
        refine va_get (D := D) (ci := 6) (v := .ref seh) (C := RX6) (T := TX6) (N := 14) hx hb hts hiX6 hown hE.1 hP 0 rfl rfl 10 (by decide) (hts (.fieldLink RX6 54 "TiltTray" "search" "LTiltTray$Search;") (by decide +kernel)) (fun _ h9 => h9) rfl dX6_fewest_50 ?_
        refine va_get (D := D) (ci := 2) (v := .int q3.2.2.1) (C := RX2) (T := TX2) (N := 4) hx hb hts hiX2 hown hE.1 hP 3 rfl rfl 2 (by decide) (hts (.fieldLink RX6 184 "TiltTray$Search" "found" "I") (by decide +kernel)) (fun _ h9 => h9) rfl dX6_fewest_53 ?_
        obtain rfl := Option.some.inj h
        rw [hQ]; exact ct_iret hx hb hr hlocks hP hS rfl dX6_fewest_56
      · have h := oif h c5
        refine lv_aload_n hx hb dX6_fewest_39 rfl (lv_at hl 0 rfl) ?_
        refine va_get (D := D) (ci := 6) (v := .ref seh) (C := RX6) (T := TX6) (N := 14) hx hb hts hiX6 hown hE.1 hP 0 rfl rfl 10 (by decide) (hts (.fieldLink RX6 54 "TiltTray" "search" "LTiltTray$Search;") (by decide +kernel)) (fun _ h9 => h9) rfl dX6_fewest_40 ?_
        refine va_get (D := D) (ci := 2) (v := .int q3.2.2.2) (C := RX2) (T := TX2) (N := 4) hx hb hts hiX2 hown hE.1 hP 3 rfl rfl 3 (by decide) (hts (.fieldLink RX6 181 "TiltTray$Search" "row" "I") (by decide +kernel)) (fun _ h9 => h9) rfl dX6_fewest_43 ?_
        refine lv_goto (tgt := 56) hx hb dX6_fewest_46 (by decide) ?_
        obtain rfl := Option.some.inj h
        rw [hQ]; exact ct_iret hx hb hr hlocks hP hS rfl dX6_fewest_56
    · have h := oit h c4
      refine lv_bipush (v := (-9)) hx hb dX6_fewest_32 (by decide) ?_
      obtain rfl := Option.some.inj h
      rw [hQ]; exact ct_iret hx hb hr hlocks hP hS rfl dX6_fewest_34
  · have h := oit h c2
    refine lv_iconst (v := (-1)) hx hb dX6_fewest_11 (by decide) ?_
    obtain rfl := Option.some.inj h
    rw [hQ]; exact ct_iret hx hb hr hlocks hP hS rfl dX6_fewest_12

def tw_X6_reach (no : SpS) (sef : Nat → SpS) (seb : Int32) (seo : Int32) (sew : Int32) (tr : TrS) (p1 : Int32) : Option (Int32 × (Nat → SpS)) :=
  (tw_X5_has tr p1).bind (fun q1 => if q1 = 0 then (some ((-1), sef)) else ((tw_X2_findReach sef seb seo sew tr no p1).bind (fun q3 => some (q3.1, q3.2))))
set_option maxHeartbeats 4000000 in
set_option maxRecDepth 100000 in
theorem c_X6_reach (l : Launch) (D : va_G) (cy : Cy) (xh : Nat) (x_text : Nat) (noh : Nat) (noa : Nat) (x_spare : Nat) (x_acts : Nat) (x_slots : Nat) (x_sights : Nat) (sefH : Nat → Nat) (sefB : Nat → Nat) (seh : Nat) (ser : Nat) (x_pairs : Nat) (x_worth : Nat) (x_tray : Nat) (tra : Nat) (trb : Nat) (trc : Nat) (x_draft : Nat) (no : SpS) (sef : Nat → SpS) (seb : Int32) (seo : Int32) (sew : Int32) (tr : TrS) (x_let : Int32) (x_kept : Int32) (x_seed : Int64) (p1 : Int32) (res : Int32 × (Nat → SpS)) (h : tw_X6_reach no sef seb seo sew tr p1 = some res) : Ct l yX6_reach wsX6_reach 12 305 D cy [.ref xh, .int p1] ((cTT xh x_text noh x_spare x_acts x_slots x_sights seh x_pairs x_worth x_tray x_draft x_let x_kept x_seed ++ (cSp noh noa cy.1 no ++ (cSe seh ser sefH cy.2.2.2.1 seb seo sew ++ (cTr x_tray tra trb trc cy.1 tr)))) ++ cSps sefH sefB cy.1 sef 6) ((cTT xh x_text noh x_spare x_acts x_slots x_sights seh x_pairs x_worth x_tray x_draft x_let x_kept x_seed ++ (cSp noh noa cy.1 no ++ (cSe seh ser sefH cy.2.2.2.1 seb seo sew ++ (cTr x_tray tra trb trc cy.1 tr)))) ++ cSps sefH sefB cy.1 res.2 6) (some (.int res.1)) := by
  refine Ct.ofW (cc := cX6_reach) (maxL := 2) (ret := (some .int)) (by decide) rfl (Nat.le_of_ble_eq_true rfl) ?_
  intro p e R s m args below meth c A Q ls hRf hRl hQ hx hb hr hml hts hown hlocks hE hP hD hS hA hl
  have hiX6 : ∀ w ∈ u_ws RX6 TX6 14, w ∈ wsX6_reach := by decide +kernel
  have hl : lv_has ls 2 [(0, .ref xh), (1, .int p1)] := hl
  rw [tw_X6_reach] at h
  refine lv_aload_n hx hb dX6_reach_0 rfl (lv_at hl 0 rfl) ?_
  refine va_get (D := D) (ci := 6) (v := .ref x_tray) (C := RX6) (T := TX6) (N := 14) hx hb hts hiX6 hown hE.1 hP 0 rfl rfl 2 (by decide) (hts (.fieldLink RX6 16 "TiltTray" "tray" "LTiltTray$Tray;") (by decide +kernel)) (fun _ h9 => h9) rfl dX6_reach_1 ?_
  refine lv_iload_n hx hb dX6_reach_4 rfl (lv_at hl 1 rfl) ?_
  obtain ⟨q1, hq1, h⟩ := ob h
  refine kV (As := [.int p1]) (rest := []) (w2 := (cTT xh x_text noh x_spare x_acts x_slots x_sights seh x_pairs x_worth x_tray x_draft x_let x_kept x_seed ++ (cSp noh noa cy.1 no ++ (cSe seh ser sefH cy.2.2.2.1 seb seo sew ++ (cTr x_tray tra trb trc cy.1 tr)))) ++ cSps sefH sefB cy.1 sef 6) (n := 1) (q0 := 5) ⟨hx, hb, hml, hown, hts⟩ (c_X5_has l D cy x_tray tra trb trc tr p1 q1 hq1) gX6_reach_X5_has rfl (by decide +kernel) ⟨by rw [hRf]; exact Nat.le_of_ble_eq_true rfl, by rw [hRl]; exact Nat.le_of_ble_eq_true rfl⟩ hE hP hD hS hA [5, 6, 7, 8] rfl rfl rfl rfl rfl rfl rfl hl.1 rfl (Nat.le_of_ble_eq_true rfl) dX6_reach_5 ⟨Nat.zero_le _, Nat.zero_le _⟩ (fun H locs hP hD hS => ?_)
  refine lv_if_ne (tgt := 13) hx hb dX6_reach_8 (by decide) (fun c2 => ?_) (fun c2 => ?_)
  · have h := oif h c2
    refine lv_aload_n hx hb dX6_reach_13 rfl (lv_at hl 0 rfl) ?_
    refine va_get (D := D) (ci := 6) (v := .ref seh) (C := RX6) (T := TX6) (N := 14) hx hb hts hiX6 hown hE.1 hP 0 rfl rfl 10 (by decide) (hts (.fieldLink RX6 54 "TiltTray" "search" "LTiltTray$Search;") (by decide +kernel)) (fun _ h9 => h9) rfl dX6_reach_14 ?_
    refine lv_aload_n hx hb dX6_reach_17 rfl (lv_at hl 0 rfl) ?_
    refine va_get (D := D) (ci := 6) (v := .ref x_tray) (C := RX6) (T := TX6) (N := 14) hx hb hts hiX6 hown hE.1 hP 0 rfl rfl 2 (by decide) (hts (.fieldLink RX6 16 "TiltTray" "tray" "LTiltTray$Tray;") (by decide +kernel)) (fun _ h9 => h9) rfl dX6_reach_18 ?_
    refine lv_aload_n hx hb dX6_reach_21 rfl (lv_at hl 0 rfl) ?_
    refine va_get (D := D) (ci := 6) (v := .ref noh) (C := RX6) (T := TX6) (N := 14) hx hb hts hiX6 hown hE.1 hP 0 rfl rfl 4 (by decide) (hts (.fieldLink RX6 26 "TiltTray" "now" "LTiltTray$Spot;") (by decide +kernel)) (fun _ h9 => h9) rfl dX6_reach_22 ?_
    refine lv_iload_n hx hb dX6_reach_25 rfl (lv_at hl 1 rfl) ?_
    obtain ⟨q3, hq3, h⟩ := ob h
    refine kV (As := [.ref x_tray, .ref noh, .int p1]) (rest := []) (w2 := (cTT xh x_text noh x_spare x_acts x_slots x_sights seh x_pairs x_worth x_tray x_draft x_let x_kept x_seed ++ (cSp noh noa cy.1 no ++ (cSe seh ser sefH cy.2.2.2.1 seb seo sew ++ (cTr x_tray tra trb trc cy.1 tr)))) ++ cSps sefH sefB cy.1 q3.2 6) (n := 3) (q0 := 3) ⟨hx, hb, hml, hown, hts⟩ (c_X2_findReach l D cy sefH sefB seh ser x_tray tra trb trc noh noa sef seb seo sew tr no p1 q3 hq3) gX6_reach_X2_findReach rfl (by decide +kernel) ⟨by rw [hRf]; exact Nat.le_of_ble_eq_true rfl, by rw [hRl]; exact Nat.le_of_ble_eq_true rfl⟩ hE hP hD hS hA ([3, 4, 5, 6, 7, 8, 1, 2] ++ rng 9 12) (by decide +kernel) (blkC rfl rfl) (blkA rfl) (blkU rfl rfl rfl) rfl rfl rfl hl.1 rfl (Nat.le_of_ble_eq_true rfl) dX6_reach_26 ⟨Nat.zero_le _, Nat.zero_le _⟩ (fun H locs hP hD hS => ?_)
    obtain rfl := Option.some.inj h
    rw [hQ]; exact ct_iret hx hb hr hlocks hP hS rfl dX6_reach_29
  · have h := oit h c2
    refine lv_iconst (v := (-1)) hx hb dX6_reach_11 (by decide) ?_
    obtain rfl := Option.some.inj h
    rw [hQ]; exact ct_iret hx hb hr hlocks hP hS rfl dX6_reach_12

def tw_X6_best (no : SpS) (sef : Nat → SpS) (seb : Int32) (seo : Int32) (sew : Int32) (tr : TrS) (p1 : Int32) (p2 : Int32) : Option (Int32 × (Nat → SpS) × Int32 × Int32 × Int32) :=
  if p1 < 1 then (some ((-2), sef, seb, seo, sew)) else (if p1 ≤ 4 then ((tw_X2_findBest sef seb seo sew tr no p1).bind (fun q3 => if p2 = 0 then (some (q3.2.2.1, q3.1, q3.2.1, q3.2.2.1, q3.2.2.2)) else (some (q3.2.2.2, q3.1, q3.2.1, q3.2.2.1, q3.2.2.2)))) else (some ((-2), sef, seb, seo, sew)))
set_option maxHeartbeats 4000000 in
set_option maxRecDepth 100000 in
theorem c_X6_best (l : Launch) (D : va_G) (cy : Cy) (xh : Nat) (x_text : Nat) (noh : Nat) (noa : Nat) (x_spare : Nat) (x_acts : Nat) (x_slots : Nat) (x_sights : Nat) (sefH : Nat → Nat) (sefB : Nat → Nat) (seh : Nat) (ser : Nat) (x_pairs : Nat) (x_worth : Nat) (x_tray : Nat) (tra : Nat) (trb : Nat) (trc : Nat) (x_draft : Nat) (no : SpS) (sef : Nat → SpS) (seb : Int32) (seo : Int32) (sew : Int32) (tr : TrS) (x_let : Int32) (x_kept : Int32) (x_seed : Int64) (p1 : Int32) (p2 : Int32) (res : Int32 × (Nat → SpS) × Int32 × Int32 × Int32) (h : tw_X6_best no sef seb seo sew tr p1 p2 = some res) : Ct l yX6_best wsX6_best 12 298 D cy [.ref xh, .int p1, .int p2] ((cTT xh x_text noh x_spare x_acts x_slots x_sights seh x_pairs x_worth x_tray x_draft x_let x_kept x_seed ++ (cSp noh noa cy.1 no ++ (cSe seh ser sefH cy.2.2.2.1 seb seo sew ++ (cTr x_tray tra trb trc cy.1 tr)))) ++ cSps sefH sefB cy.1 sef 6) ((cTT xh x_text noh x_spare x_acts x_slots x_sights seh x_pairs x_worth x_tray x_draft x_let x_kept x_seed ++ (cSp noh noa cy.1 no ++ (cSe seh ser sefH cy.2.2.2.1 res.2.2.1 res.2.2.2.1 res.2.2.2.2 ++ (cTr x_tray tra trb trc cy.1 tr)))) ++ cSps sefH sefB cy.1 res.2.1 6) (some (.int res.1)) := by
  refine Ct.ofW (cc := cX6_best) (maxL := 3) (ret := (some .int)) (by decide) rfl (Nat.le_of_ble_eq_true rfl) ?_
  intro p e R s m args below meth c A Q ls hRf hRl hQ hx hb hr hml hts hown hlocks hE hP hD hS hA hl
  have hiX2 : ∀ w ∈ u_ws RX2 TX2 4, w ∈ wsX6_best := by decide +kernel
  have hiX6 : ∀ w ∈ u_ws RX6 TX6 14, w ∈ wsX6_best := by decide +kernel
  have hl : lv_has ls 3 [(0, .ref xh), (1, .int p1), (2, .int p2)] := hl
  rw [tw_X6_best] at h
  refine lv_iload_n hx hb dX6_best_0 rfl (lv_at hl 1 rfl) ?_
  refine lv_iconst (v := 1) hx hb dX6_best_1 (by decide) ?_
  refine lv_icmp_lt (tgt := 10) hx hb dX6_best_2 (by decide) (fun c1 => ?_) (fun c1 => ?_)
  · have h := oit h c1
    refine lv_bipush (v := (-2)) hx hb dX6_best_10 (by decide) ?_
    obtain rfl := Option.some.inj h
    rw [hQ]; exact ct_iret hx hb hr hlocks hP hS rfl dX6_best_12
  · have h := oif h c1
    refine lv_iload_n hx hb dX6_best_5 rfl (lv_at hl 1 rfl) ?_
    refine lv_iconst (v := 4) hx hb dX6_best_6 (by decide) ?_
    refine lv_icmp_le (tgt := 13) hx hb dX6_best_7 (by decide) (fun c2 => ?_) (fun c2 => ?_)
    · have h := oit h c2
      refine lv_aload_n hx hb dX6_best_13 rfl (lv_at hl 0 rfl) ?_
      refine va_get (D := D) (ci := 6) (v := .ref seh) (C := RX6) (T := TX6) (N := 14) hx hb hts hiX6 hown hE.1 hP 0 rfl rfl 10 (by decide) (hts (.fieldLink RX6 54 "TiltTray" "search" "LTiltTray$Search;") (by decide +kernel)) (fun _ h9 => h9) rfl dX6_best_14 ?_
      refine lv_aload_n hx hb dX6_best_17 rfl (lv_at hl 0 rfl) ?_
      refine va_get (D := D) (ci := 6) (v := .ref x_tray) (C := RX6) (T := TX6) (N := 14) hx hb hts hiX6 hown hE.1 hP 0 rfl rfl 2 (by decide) (hts (.fieldLink RX6 16 "TiltTray" "tray" "LTiltTray$Tray;") (by decide +kernel)) (fun _ h9 => h9) rfl dX6_best_18 ?_
      refine lv_aload_n hx hb dX6_best_21 rfl (lv_at hl 0 rfl) ?_
      refine va_get (D := D) (ci := 6) (v := .ref noh) (C := RX6) (T := TX6) (N := 14) hx hb hts hiX6 hown hE.1 hP 0 rfl rfl 4 (by decide) (hts (.fieldLink RX6 26 "TiltTray" "now" "LTiltTray$Spot;") (by decide +kernel)) (fun _ h9 => h9) rfl dX6_best_22 ?_
      refine lv_iload_n hx hb dX6_best_25 rfl (lv_at hl 1 rfl) ?_
      obtain ⟨q3, hq3, h⟩ := ob h
      refine kV (As := [.ref x_tray, .ref noh, .int p1]) (rest := []) (w2 := (cTT xh x_text noh x_spare x_acts x_slots x_sights seh x_pairs x_worth x_tray x_draft x_let x_kept x_seed ++ (cSp noh noa cy.1 no ++ (cSe seh ser sefH cy.2.2.2.1 q3.2.1 q3.2.2.1 q3.2.2.2 ++ (cTr x_tray tra trb trc cy.1 tr)))) ++ cSps sefH sefB cy.1 q3.1 6) (n := 3) (q0 := 3) ⟨hx, hb, hml, hown, hts⟩ (c_X2_findBest l D cy sefH sefB seh ser x_tray tra trb trc noh noa sef seb seo sew tr no p1 q3 hq3) gX6_best_X2_findBest rfl (by decide +kernel) ⟨by rw [hRf]; exact Nat.le_of_ble_eq_true rfl, by rw [hRl]; exact Nat.le_of_ble_eq_true rfl⟩ hE hP hD hS hA ([3, 4, 5, 6, 7, 8, 1, 2] ++ rng 9 12) (by decide +kernel) (blkC rfl rfl) (blkA rfl) (blkU rfl rfl rfl) rfl rfl rfl hl.1 rfl (Nat.le_of_ble_eq_true rfl) dX6_best_26 ⟨Nat.zero_le _, Nat.zero_le _⟩ (fun H locs hP hD hS => ?_)
      refine lv_iload_n hx hb dX6_best_29 rfl (lv_at hl 2 rfl) ?_
      refine lv_if_eq (tgt := 43) hx hb dX6_best_30 (by decide) (fun c4 => ?_) (fun c4 => ?_)
      · have h := oit h c4
        refine lv_aload_n hx hb dX6_best_43 rfl (lv_at hl 0 rfl) ?_
        refine va_get (D := D) (ci := 6) (v := .ref seh) (C := RX6) (T := TX6) (N := 14) hx hb hts hiX6 hown hE.1 hP 0 rfl rfl 10 (by decide) (hts (.fieldLink RX6 54 "TiltTray" "search" "LTiltTray$Search;") (by decide +kernel)) (fun _ h9 => h9) rfl dX6_best_44 ?_
        refine va_get (D := D) (ci := 2) (v := .int q3.2.2.1) (C := RX2) (T := TX2) (N := 4) hx hb hts hiX2 hown hE.1 hP 3 rfl rfl 2 (by decide) (hts (.fieldLink RX6 184 "TiltTray$Search" "found" "I") (by decide +kernel)) (fun _ h9 => h9) rfl dX6_best_47 ?_
        obtain rfl := Option.some.inj h
        rw [hQ]; exact ct_iret hx hb hr hlocks hP hS rfl dX6_best_50
      · have h := oif h c4
        refine lv_aload_n hx hb dX6_best_33 rfl (lv_at hl 0 rfl) ?_
        refine va_get (D := D) (ci := 6) (v := .ref seh) (C := RX6) (T := TX6) (N := 14) hx hb hts hiX6 hown hE.1 hP 0 rfl rfl 10 (by decide) (hts (.fieldLink RX6 54 "TiltTray" "search" "LTiltTray$Search;") (by decide +kernel)) (fun _ h9 => h9) rfl dX6_best_34 ?_
        refine va_get (D := D) (ci := 2) (v := .int q3.2.2.2) (C := RX2) (T := TX2) (N := 4) hx hb hts hiX2 hown hE.1 hP 3 rfl rfl 3 (by decide) (hts (.fieldLink RX6 181 "TiltTray$Search" "row" "I") (by decide +kernel)) (fun _ h9 => h9) rfl dX6_best_37 ?_
        refine lv_goto (tgt := 50) hx hb dX6_best_40 (by decide) ?_
        obtain rfl := Option.some.inj h
        rw [hQ]; exact ct_iret hx hb hr hlocks hP hS rfl dX6_best_50
    · have h := oif h c2
      refine lv_bipush (v := (-2)) hx hb dX6_best_10 (by decide) ?_
      obtain rfl := Option.some.inj h
      rw [hQ]; exact ct_iret hx hb hr hlocks hP hS rfl dX6_best_12

def tw_X6_leastSaving_2 (no : SpS) (tr : TrS) (p1 : Int32) (p2 : Int32) : Nat → Int32 → SpS → Option (Int32 × SpS)
  | 0, _, _ => none
  | n + 1, x3, sr =>
    if 25 ≤ x3 then (some ((-9), sr)) else ((tw_X6_bitOf no.2.2.2.1 x3).bind (fun q2 => if q2 = 0 then ((tw_X5_wedgeRefusal tr no x3).bind (fun q4 => if q4 = 0 then ((tw_X4_take sr no).bind (fun q6 => (tw_X5_roll tr (q6.1, q6.2.1, q6.2.2.1, q6.2.2.2.1 ||| (1 <<< (x3 &&& 31)), q6.2.2.2.2) p2).bind (fun q7 => (tw_X4_isIn q7 p1).bind (fun q8 => if q8 = 0 then (some (x3, q7)) else ((tw_X6_leastSaving_2 no tr p1 p2 n) (x3 + 1) q7))))) else ((tw_X6_leastSaving_2 no tr p1 p2 n) (x3 + 1) sr))) else ((tw_X6_leastSaving_2 no tr p1 p2 n) (x3 + 1) sr)))
def tw_X6_leastSaving (no : SpS) (sr : SpS) (tr : TrS) (p1 : Int32) (p2 : Int32) : Option (Int32 × SpS) :=
  tw_X6_leastSaving_2 no tr p1 p2 26 0 sr
set_option maxHeartbeats 4000000 in
set_option maxRecDepth 100000 in
theorem c_X6_leastSaving (l : Launch) (D : va_G) (cy : Cy) (xh : Nat) (x_text : Nat) (noh : Nat) (noa : Nat) (srh : Nat) (sra : Nat) (x_acts : Nat) (x_slots : Nat) (x_sights : Nat) (x_search : Nat) (x_pairs : Nat) (x_worth : Nat) (x_tray : Nat) (tra : Nat) (trb : Nat) (trc : Nat) (x_draft : Nat) (no : SpS) (sr : SpS) (tr : TrS) (x_let : Int32) (x_kept : Int32) (x_seed : Int64) (p1 : Int32) (p2 : Int32) (res : Int32 × SpS) (h : tw_X6_leastSaving no sr tr p1 p2 = some res) : Ct l yX6_leastSaving wsX6_leastSaving 4 93 D cy [.ref xh, .int p1, .int p2] (cTT xh x_text noh srh x_acts x_slots x_sights x_search x_pairs x_worth x_tray x_draft x_let x_kept x_seed ++ (cSp noh noa cy.1 no ++ (cSp srh sra cy.1 sr ++ (cTr x_tray tra trb trc cy.1 tr)))) (cTT xh x_text noh srh x_acts x_slots x_sights x_search x_pairs x_worth x_tray x_draft x_let x_kept x_seed ++ (cSp noh noa cy.1 no ++ (cSp srh sra cy.1 res.2 ++ (cTr x_tray tra trb trc cy.1 tr)))) (some (.int res.1)) := by
  refine Ct.ofW (cc := cX6_leastSaving) (maxL := 4) (ret := (some .int)) (by decide) rfl (Nat.le_of_ble_eq_true rfl) ?_
  intro p e R s m args below meth c A Q ls hRf hRl hQ hx hb hr hml hts hown hlocks hE hP hD hS hA hl
  have hiX4 : ∀ w ∈ u_ws RX4 TX4 5, w ∈ wsX6_leastSaving := by decide +kernel
  have hiX6 : ∀ w ∈ u_ws RX6 TX6 14, w ∈ wsX6_leastSaving := by decide +kernel
  have hl : lv_has ls 4 [(0, .ref xh), (1, .int p1), (2, .int p2)] := hl
  rw [tw_X6_leastSaving] at h
  have L2 : ∀ (n : Nat) (x3 : Int32) (sr : SpS)  (H : Heap) (locs : List Loc) (ls : Array Slot), lv_has ls 4 [(0, .ref xh), (1, .int p1), (2, .int p2), (3, .int x3)] → va_P D vwCl (cTT xh x_text noh srh x_acts x_slots x_sights x_search x_pairs x_worth x_tray x_draft x_let x_kept x_seed ++ (cSp noh noa cy.1 no ++ (cSp srh sra cy.1 sr ++ (cTr x_tray tra trb trc cy.1 tr)))) H → va_D A (cTT xh x_text noh srh x_acts x_slots x_sights x_search x_pairs x_worth x_tray x_draft x_let x_kept x_seed ++ (cSp noh noa cy.1 no ++ (cSp srh sra cy.1 sr ++ (cTr x_tray tra trb trc cy.1 tr)))) → va_S A s.heap H locs → tw_X6_leastSaving_2 no tr p1 p2 n x3 sr = some res → W p l e R s m args below meth c H locs 0 0 Q (F0 m 2 ls []) := by
    intro n2
    induction n2 with
    | zero =>
      intro x3 sr  H locs ls hl hP hD hS h
      exact absurd h (by rw [tw_X6_leastSaving_2]; exact fun q => by cases q)
    | succ n2 ih2 =>
      intro x3 sr  H locs ls hl hP hD hS h
      rw [tw_X6_leastSaving_2] at h
      refine lv_iload_n hx hb dX6_leastSaving_2 rfl (lv_at hl 3 rfl) ?_
      refine lv_bipush (v := 25) hx hb dX6_leastSaving_3 (by decide) ?_
      refine lv_icmp_ge (tgt := 94) hx hb dX6_leastSaving_5 (by decide) (fun c1 => ?_) (fun c1 => ?_)
      · have h := oit h c1
        refine lv_bipush (v := (-9)) hx hb dX6_leastSaving_94 (by decide) ?_
        obtain rfl := Option.some.inj h
        rw [hQ]; exact ct_iret hx hb hr hlocks hP hS rfl dX6_leastSaving_96
      · have h := oif h c1
        refine lv_aload_n hx hb dX6_leastSaving_8 rfl (lv_at hl 0 rfl) ?_
        refine va_get (D := D) (ci := 6) (v := .ref noh) (C := RX6) (T := TX6) (N := 14) hx hb hts hiX6 hown hE.1 hP 0 rfl rfl 4 (by decide) (hts (.fieldLink RX6 26 "TiltTray" "now" "LTiltTray$Spot;") (by decide +kernel)) (fun _ h9 => h9) rfl dX6_leastSaving_9 ?_
        refine va_get (D := D) (ci := 4) (v := .int no.2.2.2.1) (C := RX4) (T := TX4) (N := 5) hx hb hts hiX4 hown hE.1 hP 1 rfl rfl 3 (by decide) (hts (.fieldLink RX6 116 "TiltTray$Spot" "wedged" "I") (by decide +kernel)) (fun _ h9 => h9) rfl dX6_leastSaving_12 ?_
        refine lv_iload_n hx hb dX6_leastSaving_15 rfl (lv_at hl 3 rfl) ?_
        obtain ⟨q2, hq2, h⟩ := ob h
        refine kS (As := [.int no.2.2.2.1, .int x3]) (rest := []) (w2 := cTT xh x_text noh srh x_acts x_slots x_sights x_search x_pairs x_worth x_tray x_draft x_let x_kept x_seed ++ (cSp noh noa cy.1 no ++ (cSp srh sra cy.1 sr ++ (cTr x_tray tra trb trc cy.1 tr)))) (n := 2) ⟨hx, hb, hml, hown, hts⟩ (c_X6_bitOf l D cy no.2.2.2.1 x3 q2 hq2) gX6_leastSaving_X6_bitOf rfl (by decide +kernel) ⟨by rw [hRf]; exact Nat.le_of_ble_eq_true rfl, by rw [hRl]; exact Nat.le_of_ble_eq_true rfl⟩ hE hP hD hS hA [] rfl rfl rfl rfl rfl hl.1 rfl (Nat.le_of_ble_eq_true rfl) dX6_leastSaving_16 ⟨Nat.zero_le _, Nat.zero_le _⟩ (fun H locs hP hD hS => ?_)
        refine lv_if_ne (tgt := 88) hx hb dX6_leastSaving_19 (by decide) (fun c3 => ?_) (fun c3 => ?_)
        · have h := oif h c3
          refine lv_iinc (v := x3 + 1) (lv' := [(3, .int (x3 + 1)), (0, .ref xh), (1, .int p1), (2, .int p2)]) hx hb dX6_leastSaving_88 hl (k := 3) rfl rfl (by decide) rfl (fun ls hl => ?_)
          refine lv_goto (tgt := 2) hx hb dX6_leastSaving_91 (by decide) ?_
          exact ih2 (x3 + 1) sr _ _ _ (lv_sub hl [1, 2, 3, 0] rfl) hP hD hS h
        · have h := oit h c3
          refine lv_aload_n hx hb dX6_leastSaving_22 rfl (lv_at hl 0 rfl) ?_
          refine va_get (D := D) (ci := 6) (v := .ref x_tray) (C := RX6) (T := TX6) (N := 14) hx hb hts hiX6 hown hE.1 hP 0 rfl rfl 2 (by decide) (hts (.fieldLink RX6 16 "TiltTray" "tray" "LTiltTray$Tray;") (by decide +kernel)) (fun _ h9 => h9) rfl dX6_leastSaving_23 ?_
          refine lv_aload_n hx hb dX6_leastSaving_26 rfl (lv_at hl 0 rfl) ?_
          refine va_get (D := D) (ci := 6) (v := .ref noh) (C := RX6) (T := TX6) (N := 14) hx hb hts hiX6 hown hE.1 hP 0 rfl rfl 4 (by decide) (hts (.fieldLink RX6 26 "TiltTray" "now" "LTiltTray$Spot;") (by decide +kernel)) (fun _ h9 => h9) rfl dX6_leastSaving_27 ?_
          refine lv_iload_n hx hb dX6_leastSaving_30 rfl (lv_at hl 3 rfl) ?_
          obtain ⟨q4, hq4, h⟩ := ob h
          refine kV (As := [.ref noh, .int x3]) (rest := []) (w2 := cTT xh x_text noh srh x_acts x_slots x_sights x_search x_pairs x_worth x_tray x_draft x_let x_kept x_seed ++ (cSp noh noa cy.1 no ++ (cSp srh sra cy.1 sr ++ (cTr x_tray tra trb trc cy.1 tr)))) (n := 2) (q0 := 5) ⟨hx, hb, hml, hown, hts⟩ (c_X5_wedgeRefusal l D cy x_tray tra trb trc noh noa tr no x3 q4 hq4) gX6_leastSaving_X5_wedgeRefusal rfl (by decide +kernel) ⟨by rw [hRf]; exact Nat.le_of_ble_eq_true rfl, by rw [hRl]; exact Nat.le_of_ble_eq_true rfl⟩ hE hP hD hS hA [5, 6, 7, 8, 1, 2] rfl rfl rfl rfl rfl rfl rfl hl.1 rfl (Nat.le_of_ble_eq_true rfl) dX6_leastSaving_31 ⟨Nat.zero_le _, Nat.zero_le _⟩ (fun H locs hP hD hS => ?_)
          refine lv_if_ne (tgt := 88) hx hb dX6_leastSaving_34 (by decide) (fun c5 => ?_) (fun c5 => ?_)
          · have h := oif h c5
            refine lv_iinc (v := x3 + 1) (lv' := [(3, .int (x3 + 1)), (0, .ref xh), (1, .int p1), (2, .int p2)]) hx hb dX6_leastSaving_88 hl (k := 3) rfl rfl (by decide) rfl (fun ls hl => ?_)
            refine lv_goto (tgt := 2) hx hb dX6_leastSaving_91 (by decide) ?_
            exact ih2 (x3 + 1) sr _ _ _ (lv_sub hl [1, 2, 3, 0] rfl) hP hD hS h
          · have h := oit h c5
            refine lv_aload_n hx hb dX6_leastSaving_37 rfl (lv_at hl 0 rfl) ?_
            refine va_get (D := D) (ci := 6) (v := .ref srh) (C := RX6) (T := TX6) (N := 14) hx hb hts hiX6 hown hE.1 hP 0 rfl rfl 5 (by decide) (hts (.fieldLink RX6 30 "TiltTray" "spare" "LTiltTray$Spot;") (by decide +kernel)) (fun _ h9 => h9) rfl dX6_leastSaving_38 ?_
            refine lv_aload_n hx hb dX6_leastSaving_41 rfl (lv_at hl 0 rfl) ?_
            refine va_get (D := D) (ci := 6) (v := .ref noh) (C := RX6) (T := TX6) (N := 14) hx hb hts hiX6 hown hE.1 hP 0 rfl rfl 4 (by decide) (hts (.fieldLink RX6 26 "TiltTray" "now" "LTiltTray$Spot;") (by decide +kernel)) (fun _ h9 => h9) rfl dX6_leastSaving_42 ?_
            obtain ⟨q6, hq6, h⟩ := ob h
            refine kV (As := [.ref noh]) (rest := []) (w2 := cTT xh x_text noh srh x_acts x_slots x_sights x_search x_pairs x_worth x_tray x_draft x_let x_kept x_seed ++ (cSp noh noa cy.1 no ++ (cSp srh sra cy.1 q6 ++ (cTr x_tray tra trb trc cy.1 tr)))) (n := 1) (q0 := 3) ⟨hx, hb, hml, hown, hts⟩ (c_X4_take l D cy srh sra noh noa sr no q6 hq6) gX6_leastSaving_X4_take rfl (by decide +kernel) ⟨by rw [hRf]; exact Nat.le_of_ble_eq_true rfl, by rw [hRl]; exact Nat.le_of_ble_eq_true rfl⟩ hE hP hD hS hA [3, 4, 1, 2] rfl rfl rfl rfl rfl rfl rfl hl.1 rfl (Nat.le_of_ble_eq_true rfl) dX6_leastSaving_45 ⟨Nat.zero_le _, Nat.zero_le _⟩ (fun H locs hP hD hS => ?_)
            refine lv_aload_n hx hb dX6_leastSaving_48 rfl (lv_at hl 0 rfl) ?_
            refine va_get (D := D) (ci := 6) (v := .ref srh) (C := RX6) (T := TX6) (N := 14) hx hb hts hiX6 hown hE.1 hP 0 rfl rfl 5 (by decide) (hts (.fieldLink RX6 30 "TiltTray" "spare" "LTiltTray$Spot;") (by decide +kernel)) (fun _ h9 => h9) rfl dX6_leastSaving_49 ?_
            refine lv_dup hx hb dX6_leastSaving_52 rfl ?_
            refine va_get (D := D) (ci := 4) (v := .int q6.2.2.2.1) (C := RX4) (T := TX4) (N := 5) hx hb hts hiX4 hown hE.1 hP 3 rfl rfl 3 (by decide) (hts (.fieldLink RX6 116 "TiltTray$Spot" "wedged" "I") (by decide +kernel)) (fun _ h9 => h9) rfl dX6_leastSaving_53 ?_
            refine lv_iconst (v := 1) hx hb dX6_leastSaving_56 (by decide) ?_
            refine lv_iload_n hx hb dX6_leastSaving_57 rfl (lv_at hl 3 rfl) ?_
            refine lv_ishl hx hb dX6_leastSaving_58 ?_
            refine lv_ior hx hb dX6_leastSaving_59 ?_
            refine va_put (D := D) (ci := 4) (v := .int (q6.2.2.2.1 ||| (1 <<< (x3 &&& 31)))) (ty := .int) (C := RX4) (T := TX4) (N := 5) hx hb hts hiX4 tyX4 tyX4_ok nmX4 hown hE.1 hP hD hS 3 rfl rfl 3 (by decide) (hts (.fieldLink RX6 116 "TiltTray$Spot" "wedged" "I") (by decide +kernel)) (fun _ h9 => h9) rfl (by decide +kernel) rfl rfl (Nat.le_of_ble_eq_true rfl) dX6_leastSaving_60 (fun H locs hP hD hS => ?_)
            have hP : va_P D vwCl (cTT xh x_text noh srh x_acts x_slots x_sights x_search x_pairs x_worth x_tray x_draft x_let x_kept x_seed ++ (cSp noh noa cy.1 no ++ (cSp srh sra cy.1 (q6.1, q6.2.1, q6.2.2.1, q6.2.2.2.1 ||| (1 <<< (x3 &&& 31)), q6.2.2.2.2) ++ (cTr x_tray tra trb trc cy.1 tr)))) H := hP
            have hD : va_D A (cTT xh x_text noh srh x_acts x_slots x_sights x_search x_pairs x_worth x_tray x_draft x_let x_kept x_seed ++ (cSp noh noa cy.1 no ++ (cSp srh sra cy.1 (q6.1, q6.2.1, q6.2.2.1, q6.2.2.2.1 ||| (1 <<< (x3 &&& 31)), q6.2.2.2.2) ++ (cTr x_tray tra trb trc cy.1 tr)))) := hD
            refine lv_aload_n hx hb dX6_leastSaving_63 rfl (lv_at hl 0 rfl) ?_
            refine va_get (D := D) (ci := 6) (v := .ref x_tray) (C := RX6) (T := TX6) (N := 14) hx hb hts hiX6 hown hE.1 hP 0 rfl rfl 2 (by decide) (hts (.fieldLink RX6 16 "TiltTray" "tray" "LTiltTray$Tray;") (by decide +kernel)) (fun _ h9 => h9) rfl dX6_leastSaving_64 ?_
            refine lv_aload_n hx hb dX6_leastSaving_67 rfl (lv_at hl 0 rfl) ?_
            refine va_get (D := D) (ci := 6) (v := .ref srh) (C := RX6) (T := TX6) (N := 14) hx hb hts hiX6 hown hE.1 hP 0 rfl rfl 5 (by decide) (hts (.fieldLink RX6 30 "TiltTray" "spare" "LTiltTray$Spot;") (by decide +kernel)) (fun _ h9 => h9) rfl dX6_leastSaving_68 ?_
            refine lv_iload_n hx hb dX6_leastSaving_71 rfl (lv_at hl 2 rfl) ?_
            obtain ⟨q7, hq7, h⟩ := ob h
            refine kV (As := [.ref srh, .int p2]) (rest := []) (w2 := cTT xh x_text noh srh x_acts x_slots x_sights x_search x_pairs x_worth x_tray x_draft x_let x_kept x_seed ++ (cSp noh noa cy.1 no ++ (cSp srh sra cy.1 q7 ++ (cTr x_tray tra trb trc cy.1 tr)))) (n := 2) (q0 := 5) ⟨hx, hb, hml, hown, hts⟩ (c_X5_roll l D cy x_tray tra trb trc srh sra tr (q6.1, q6.2.1, q6.2.2.1, q6.2.2.2.1 ||| (1 <<< (x3 &&& 31)), q6.2.2.2.2) p2 q7 hq7) gX6_leastSaving_X5_roll rfl (by decide +kernel) ⟨by rw [hRf]; exact Nat.le_of_ble_eq_true rfl, by rw [hRl]; exact Nat.le_of_ble_eq_true rfl⟩ hE hP hD hS hA [5, 6, 7, 8, 3, 4] rfl rfl rfl rfl rfl rfl rfl hl.1 rfl (Nat.le_of_ble_eq_true rfl) dX6_leastSaving_72 ⟨Nat.zero_le _, Nat.zero_le _⟩ (fun H locs hP hD hS => ?_)
            refine lv_aload_n hx hb dX6_leastSaving_75 rfl (lv_at hl 0 rfl) ?_
            refine va_get (D := D) (ci := 6) (v := .ref srh) (C := RX6) (T := TX6) (N := 14) hx hb hts hiX6 hown hE.1 hP 0 rfl rfl 5 (by decide) (hts (.fieldLink RX6 30 "TiltTray" "spare" "LTiltTray$Spot;") (by decide +kernel)) (fun _ h9 => h9) rfl dX6_leastSaving_76 ?_
            refine lv_iload_n hx hb dX6_leastSaving_79 rfl (lv_at hl 1 rfl) ?_
            obtain ⟨q8, hq8, h⟩ := ob h
            refine kV (As := [.int p1]) (rest := []) (w2 := cTT xh x_text noh srh x_acts x_slots x_sights x_search x_pairs x_worth x_tray x_draft x_let x_kept x_seed ++ (cSp noh noa cy.1 no ++ (cSp srh sra cy.1 q7 ++ (cTr x_tray tra trb trc cy.1 tr)))) (n := 1) (q0 := 3) ⟨hx, hb, hml, hown, hts⟩ (c_X4_isIn l D cy srh sra q7 p1 q8 hq8) gX6_leastSaving_X4_isIn rfl (by decide +kernel) ⟨by rw [hRf]; exact Nat.le_of_ble_eq_true rfl, by rw [hRl]; exact Nat.le_of_ble_eq_true rfl⟩ hE hP hD hS hA [3, 4] rfl rfl rfl rfl rfl rfl rfl hl.1 rfl (Nat.le_of_ble_eq_true rfl) dX6_leastSaving_80 ⟨Nat.zero_le _, Nat.zero_le _⟩ (fun H locs hP hD hS => ?_)
            refine lv_if_ne (tgt := 88) hx hb dX6_leastSaving_83 (by decide) (fun c9 => ?_) (fun c9 => ?_)
            · have h := oif h c9
              refine lv_iinc (v := x3 + 1) (lv' := [(3, .int (x3 + 1)), (0, .ref xh), (1, .int p1), (2, .int p2)]) hx hb dX6_leastSaving_88 hl (k := 3) rfl rfl (by decide) rfl (fun ls hl => ?_)
              refine lv_goto (tgt := 2) hx hb dX6_leastSaving_91 (by decide) ?_
              exact ih2 (x3 + 1) q7 _ _ _ (lv_sub hl [1, 2, 3, 0] rfl) hP hD hS h
            · have h := oit h c9
              refine lv_iload_n hx hb dX6_leastSaving_86 rfl (lv_at hl 3 rfl) ?_
              obtain rfl := Option.some.inj h
              rw [hQ]; exact ct_iret hx hb hr hlocks hP hS rfl dX6_leastSaving_87
  refine lv_iconst (v := 0) hx hb dX6_leastSaving_0 (by decide) ?_
  refine lv_istore_n (lv' := [(3, .int 0), (0, .ref xh), (1, .int p1), (2, .int p2)]) hx hb dX6_leastSaving_1 rfl hl (by decide) rfl (fun ls hl => ?_)
  exact L2 26 0 sr _ _ _ (lv_sub hl [1, 2, 3, 0] rfl) hP hD hS h

def tw_X6_saves (no : SpS) (sr : SpS) (tr : TrS) (p1 : Int32) (p2 : Int32) : Option (Int32 × SpS) :=
  (tw_X5_has tr p1).bind (fun q1 => if q1 = 0 then (some ((-1), sr)) else ((tw_X6_isWay p2).bind (fun q3 => if q3 = 0 then (some ((-2), sr)) else ((tw_X4_isIn no p1).bind (fun q5 => if q5 = 0 then ((tw_X6_restOf no sr tr p1 p2).bind (fun q7 => if 100 ≤ q7.1 then ((tw_X6_leastSaving no q7.2 tr p1 p2).bind (fun q9 => some (q9.1, q9.2))) else (some (25, q7.2)))) else (some ((-3), sr)))))))
set_option maxHeartbeats 4000000 in
set_option maxRecDepth 100000 in
theorem c_X6_saves (l : Launch) (D : va_G) (cy : Cy) (xh : Nat) (x_text : Nat) (noh : Nat) (noa : Nat) (srh : Nat) (sra : Nat) (x_acts : Nat) (x_slots : Nat) (x_sights : Nat) (x_search : Nat) (x_pairs : Nat) (x_worth : Nat) (x_tray : Nat) (tra : Nat) (trb : Nat) (trc : Nat) (x_draft : Nat) (no : SpS) (sr : SpS) (tr : TrS) (x_let : Int32) (x_kept : Int32) (x_seed : Int64) (p1 : Int32) (p2 : Int32) (res : Int32 × SpS) (h : tw_X6_saves no sr tr p1 p2 = some res) : Ct l yX6_saves wsX6_saves 6 136 D cy [.ref xh, .int p1, .int p2] (cTT xh x_text noh srh x_acts x_slots x_sights x_search x_pairs x_worth x_tray x_draft x_let x_kept x_seed ++ (cSp noh noa cy.1 no ++ (cSp srh sra cy.1 sr ++ (cTr x_tray tra trb trc cy.1 tr)))) (cTT xh x_text noh srh x_acts x_slots x_sights x_search x_pairs x_worth x_tray x_draft x_let x_kept x_seed ++ (cSp noh noa cy.1 no ++ (cSp srh sra cy.1 res.2 ++ (cTr x_tray tra trb trc cy.1 tr)))) (some (.int res.1)) := by
  refine Ct.ofW (cc := cX6_saves) (maxL := 3) (ret := (some .int)) (by decide) rfl (Nat.le_of_ble_eq_true rfl) ?_
  intro p e R s m args below meth c A Q ls hRf hRl hQ hx hb hr hml hts hown hlocks hE hP hD hS hA hl
  have hiX6 : ∀ w ∈ u_ws RX6 TX6 14, w ∈ wsX6_saves := by decide +kernel
  have hl : lv_has ls 3 [(0, .ref xh), (1, .int p1), (2, .int p2)] := hl
  rw [tw_X6_saves] at h
  refine lv_aload_n hx hb dX6_saves_0 rfl (lv_at hl 0 rfl) ?_
  refine va_get (D := D) (ci := 6) (v := .ref x_tray) (C := RX6) (T := TX6) (N := 14) hx hb hts hiX6 hown hE.1 hP 0 rfl rfl 2 (by decide) (hts (.fieldLink RX6 16 "TiltTray" "tray" "LTiltTray$Tray;") (by decide +kernel)) (fun _ h9 => h9) rfl dX6_saves_1 ?_
  refine lv_iload_n hx hb dX6_saves_4 rfl (lv_at hl 1 rfl) ?_
  obtain ⟨q1, hq1, h⟩ := ob h
  refine kV (As := [.int p1]) (rest := []) (w2 := cTT xh x_text noh srh x_acts x_slots x_sights x_search x_pairs x_worth x_tray x_draft x_let x_kept x_seed ++ (cSp noh noa cy.1 no ++ (cSp srh sra cy.1 sr ++ (cTr x_tray tra trb trc cy.1 tr)))) (n := 1) (q0 := 5) ⟨hx, hb, hml, hown, hts⟩ (c_X5_has l D cy x_tray tra trb trc tr p1 q1 hq1) gX6_saves_X5_has rfl (by decide +kernel) ⟨by rw [hRf]; exact Nat.le_of_ble_eq_true rfl, by rw [hRl]; exact Nat.le_of_ble_eq_true rfl⟩ hE hP hD hS hA [5, 6, 7, 8] rfl rfl rfl rfl rfl rfl rfl hl.1 rfl (Nat.le_of_ble_eq_true rfl) dX6_saves_5 ⟨Nat.zero_le _, Nat.zero_le _⟩ (fun H locs hP hD hS => ?_)
  refine lv_if_ne (tgt := 13) hx hb dX6_saves_8 (by decide) (fun c2 => ?_) (fun c2 => ?_)
  · have h := oif h c2
    refine lv_iload_n hx hb dX6_saves_13 rfl (lv_at hl 2 rfl) ?_
    obtain ⟨q3, hq3, h⟩ := ob h
    refine kS (As := [.int p2]) (rest := []) (w2 := cTT xh x_text noh srh x_acts x_slots x_sights x_search x_pairs x_worth x_tray x_draft x_let x_kept x_seed ++ (cSp noh noa cy.1 no ++ (cSp srh sra cy.1 sr ++ (cTr x_tray tra trb trc cy.1 tr)))) (n := 1) ⟨hx, hb, hml, hown, hts⟩ (c_X6_isWay l D cy p2 q3 hq3) gX6_saves_X6_isWay rfl (by decide +kernel) ⟨by rw [hRf]; exact Nat.le_of_ble_eq_true rfl, by rw [hRl]; exact Nat.le_of_ble_eq_true rfl⟩ hE hP hD hS hA [] rfl rfl rfl rfl rfl hl.1 rfl (Nat.le_of_ble_eq_true rfl) dX6_saves_14 ⟨Nat.zero_le _, Nat.zero_le _⟩ (fun H locs hP hD hS => ?_)
    refine lv_if_ne (tgt := 23) hx hb dX6_saves_17 (by decide) (fun c4 => ?_) (fun c4 => ?_)
    · have h := oif h c4
      refine lv_aload_n hx hb dX6_saves_23 rfl (lv_at hl 0 rfl) ?_
      refine va_get (D := D) (ci := 6) (v := .ref noh) (C := RX6) (T := TX6) (N := 14) hx hb hts hiX6 hown hE.1 hP 0 rfl rfl 4 (by decide) (hts (.fieldLink RX6 26 "TiltTray" "now" "LTiltTray$Spot;") (by decide +kernel)) (fun _ h9 => h9) rfl dX6_saves_24 ?_
      refine lv_iload_n hx hb dX6_saves_27 rfl (lv_at hl 1 rfl) ?_
      obtain ⟨q5, hq5, h⟩ := ob h
      refine kV (As := [.int p1]) (rest := []) (w2 := cTT xh x_text noh srh x_acts x_slots x_sights x_search x_pairs x_worth x_tray x_draft x_let x_kept x_seed ++ (cSp noh noa cy.1 no ++ (cSp srh sra cy.1 sr ++ (cTr x_tray tra trb trc cy.1 tr)))) (n := 1) (q0 := 1) ⟨hx, hb, hml, hown, hts⟩ (c_X4_isIn l D cy noh noa no p1 q5 hq5) gX6_saves_X4_isIn rfl (by decide +kernel) ⟨by rw [hRf]; exact Nat.le_of_ble_eq_true rfl, by rw [hRl]; exact Nat.le_of_ble_eq_true rfl⟩ hE hP hD hS hA [1, 2] rfl rfl rfl rfl rfl rfl rfl hl.1 rfl (Nat.le_of_ble_eq_true rfl) dX6_saves_28 ⟨Nat.zero_le _, Nat.zero_le _⟩ (fun H locs hP hD hS => ?_)
      refine lv_if_eq (tgt := 37) hx hb dX6_saves_31 (by decide) (fun c6 => ?_) (fun c6 => ?_)
      · have h := oit h c6
        refine lv_aload_n hx hb dX6_saves_37 rfl (lv_at hl 0 rfl) ?_
        refine lv_iload_n hx hb dX6_saves_38 rfl (lv_at hl 1 rfl) ?_
        refine lv_iload_n hx hb dX6_saves_39 rfl (lv_at hl 2 rfl) ?_
        obtain ⟨q7, hq7, h⟩ := ob h
        refine kV (As := [.int p1, .int p2]) (rest := []) (w2 := cTT xh x_text noh srh x_acts x_slots x_sights x_search x_pairs x_worth x_tray x_draft x_let x_kept x_seed ++ (cSp noh noa cy.1 no ++ (cSp srh sra cy.1 q7.2 ++ (cTr x_tray tra trb trc cy.1 tr)))) (n := 2) (q0 := 0) ⟨hx, hb, hml, hown, hts⟩ (c_X6_restOf l D cy xh x_text noh noa srh sra x_acts x_slots x_sights x_search x_pairs x_worth x_tray tra trb trc x_draft no sr tr x_let x_kept x_seed p1 p2 q7 hq7) gX6_saves_X6_restOf rfl (by decide +kernel) ⟨by rw [hRf]; exact Nat.le_of_ble_eq_true rfl, by rw [hRl]; exact Nat.le_of_ble_eq_true rfl⟩ hE hP hD hS hA [0, 1, 2, 3, 4, 5, 6, 7, 8] rfl rfl rfl rfl rfl rfl rfl hl.1 rfl (Nat.le_of_ble_eq_true rfl) dX6_saves_40 ⟨Nat.zero_le _, Nat.zero_le _⟩ (fun H locs hP hD hS => ?_)
        refine lv_bipush (v := 100) hx hb dX6_saves_43 (by decide) ?_
        refine lv_icmp_ge (tgt := 51) hx hb dX6_saves_45 (by decide) (fun c8 => ?_) (fun c8 => ?_)
        · have h := oit h c8
          refine lv_aload_n hx hb dX6_saves_51 rfl (lv_at hl 0 rfl) ?_
          refine lv_iload_n hx hb dX6_saves_52 rfl (lv_at hl 1 rfl) ?_
          refine lv_iload_n hx hb dX6_saves_53 rfl (lv_at hl 2 rfl) ?_
          obtain ⟨q9, hq9, h⟩ := ob h
          refine kV (As := [.int p1, .int p2]) (rest := []) (w2 := cTT xh x_text noh srh x_acts x_slots x_sights x_search x_pairs x_worth x_tray x_draft x_let x_kept x_seed ++ (cSp noh noa cy.1 no ++ (cSp srh sra cy.1 q9.2 ++ (cTr x_tray tra trb trc cy.1 tr)))) (n := 2) (q0 := 0) ⟨hx, hb, hml, hown, hts⟩ (c_X6_leastSaving l D cy xh x_text noh noa srh sra x_acts x_slots x_sights x_search x_pairs x_worth x_tray tra trb trc x_draft no q7.2 tr x_let x_kept x_seed p1 p2 q9 hq9) gX6_saves_X6_leastSaving rfl (by decide +kernel) ⟨by rw [hRf]; exact Nat.le_of_ble_eq_true rfl, by rw [hRl]; exact Nat.le_of_ble_eq_true rfl⟩ hE hP hD hS hA [0, 1, 2, 3, 4, 5, 6, 7, 8] rfl rfl rfl rfl rfl rfl rfl hl.1 rfl (Nat.le_of_ble_eq_true rfl) dX6_saves_54 ⟨Nat.zero_le _, Nat.zero_le _⟩ (fun H locs hP hD hS => ?_)
          obtain rfl := Option.some.inj h
          rw [hQ]; exact ct_iret hx hb hr hlocks hP hS rfl dX6_saves_57
        · have h := oif h c8
          refine lv_bipush (v := 25) hx hb dX6_saves_48 (by decide) ?_
          obtain rfl := Option.some.inj h
          rw [hQ]; exact ct_iret hx hb hr hlocks hP hS rfl dX6_saves_50
      · have h := oif h c6
        refine lv_bipush (v := (-3)) hx hb dX6_saves_34 (by decide) ?_
        obtain rfl := Option.some.inj h
        rw [hQ]; exact ct_iret hx hb hr hlocks hP hS rfl dX6_saves_36
    · have h := oit h c4
      refine lv_bipush (v := (-2)) hx hb dX6_saves_20 (by decide) ?_
      obtain rfl := Option.some.inj h
      rw [hQ]; exact ct_iret hx hb hr hlocks hP hS rfl dX6_saves_22
  · have h := oit h c2
    refine lv_iconst (v := (-1)) hx hb dX6_saves_11 (by decide) ?_
    obtain rfl := Option.some.inj h
    rw [hQ]; exact ct_iret hx hb hr hlocks hP hS rfl dX6_saves_12

def tw_X6_isSo_28 (sr : SpS) (tr : TrS) (p1 : Int32) (p2 : Int32) (z0 : Int32) (z1 : Int32) : Option (Int32) :=
  if z0 = z1 then (some (1)) else (some (0))
def tw_X6_isSo (sr : SpS) (tr : TrS) (p1 : Int32) (p2 : Int32) : Option (Int32) :=
  (tw_X5_has tr p1).bind (fun q2 => if q2 = 0 then (some (0)) else ((tw_X4_isIn sr p1).bind (fun q4 => if q4 = 0 then (tw_X6_isSo_28 sr tr p1 p2 p2 0) else (tw_X6_isSo_28 sr tr p1 p2 p2 1))))
set_option maxHeartbeats 4000000 in
set_option maxRecDepth 100000 in
theorem c_X6_isSo (l : Launch) (D : va_G) (cy : Cy) (xh : Nat) (x_text : Nat) (x_now : Nat) (srh : Nat) (sra : Nat) (x_acts : Nat) (x_slots : Nat) (x_sights : Nat) (x_search : Nat) (x_pairs : Nat) (x_worth : Nat) (x_tray : Nat) (tra : Nat) (trb : Nat) (trc : Nat) (x_draft : Nat) (sr : SpS) (tr : TrS) (x_let : Int32) (x_kept : Int32) (x_seed : Int64) (p1 : Int32) (p2 : Int32) (res : Int32) (h : tw_X6_isSo sr tr p1 p2 = some res) : Ct l yX6_isSo wsX6_isSo 1 21 D cy [.ref xh, .int p1, .int p2] (cTT xh x_text x_now srh x_acts x_slots x_sights x_search x_pairs x_worth x_tray x_draft x_let x_kept x_seed ++ (cSp srh sra cy.1 sr ++ (cTr x_tray tra trb trc cy.1 tr))) (cTT xh x_text x_now srh x_acts x_slots x_sights x_search x_pairs x_worth x_tray x_draft x_let x_kept x_seed ++ (cSp srh sra cy.1 sr ++ (cTr x_tray tra trb trc cy.1 tr))) (some (.int res)) := by
  refine Ct.ofW (cc := cX6_isSo) (maxL := 3) (ret := (some .boolean)) (by decide) rfl (Nat.le_of_ble_eq_true rfl) ?_
  intro p e R s m args below meth c A Q ls hRf hRl hQ hx hb hr hml hts hown hlocks hE hP hD hS hA hl
  have hiX6 : ∀ w ∈ u_ws RX6 TX6 14, w ∈ wsX6_isSo := by decide +kernel
  have hl : lv_has ls 3 [(0, .ref xh), (1, .int p1), (2, .int p2)] := hl
  rw [tw_X6_isSo] at h
  have L28 : ∀ (z0 : Int32) (z1 : Int32)  (H : Heap) (locs : List Loc) (ls : Array Slot), lv_has ls 3 [] → va_P D vwCl (cTT xh x_text x_now srh x_acts x_slots x_sights x_search x_pairs x_worth x_tray x_draft x_let x_kept x_seed ++ (cSp srh sra cy.1 sr ++ (cTr x_tray tra trb trc cy.1 tr))) H → va_D A (cTT xh x_text x_now srh x_acts x_slots x_sights x_search x_pairs x_worth x_tray x_draft x_let x_kept x_seed ++ (cSp srh sra cy.1 sr ++ (cTr x_tray tra trb trc cy.1 tr))) → va_S A s.heap H locs → tw_X6_isSo_28 sr tr p1 p2 z0 z1 = some res → W p l e R s m args below meth c H locs 0 0 Q (F0 m 28 ls [.int z1, .int z0]) := by
    intro z0 z1  H locs ls hl hP hD hS h
    rw [tw_X6_isSo_28] at h
    refine lv_icmp_ne (tgt := 35) hx hb dX6_isSo_28 (by decide) (fun c1 => ?_) (fun c1 => ?_)
    · have h := oif h c1
      refine lv_iconst (v := 0) hx hb dX6_isSo_35 (by decide) ?_
      obtain rfl := Option.some.inj h
      rw [hQ]; exact ct_zret hx hb hr hlocks rfl hP hS rfl dX6_isSo_36
    · have h := oit h c1
      refine lv_iconst (v := 1) hx hb dX6_isSo_31 (by decide) ?_
      refine lv_goto (tgt := 36) hx hb dX6_isSo_32 (by decide) ?_
      obtain rfl := Option.some.inj h
      rw [hQ]; exact ct_zret hx hb hr hlocks rfl hP hS rfl dX6_isSo_36
  refine lv_aload_n hx hb dX6_isSo_0 rfl (lv_at hl 0 rfl) ?_
  refine va_get (D := D) (ci := 6) (v := .ref x_tray) (C := RX6) (T := TX6) (N := 14) hx hb hts hiX6 hown hE.1 hP 0 rfl rfl 2 (by decide) (hts (.fieldLink RX6 16 "TiltTray" "tray" "LTiltTray$Tray;") (by decide +kernel)) (fun _ h9 => h9) rfl dX6_isSo_1 ?_
  refine lv_iload_n hx hb dX6_isSo_4 rfl (lv_at hl 1 rfl) ?_
  obtain ⟨q2, hq2, h⟩ := ob h
  refine kV (As := [.int p1]) (rest := []) (w2 := cTT xh x_text x_now srh x_acts x_slots x_sights x_search x_pairs x_worth x_tray x_draft x_let x_kept x_seed ++ (cSp srh sra cy.1 sr ++ (cTr x_tray tra trb trc cy.1 tr))) (n := 1) (q0 := 3) ⟨hx, hb, hml, hown, hts⟩ (c_X5_has l D cy x_tray tra trb trc tr p1 q2 hq2) gX6_isSo_X5_has rfl (by decide +kernel) ⟨by rw [hRf]; exact Nat.le_of_ble_eq_true rfl, by rw [hRl]; exact Nat.le_of_ble_eq_true rfl⟩ hE hP hD hS hA [3, 4, 5, 6] rfl rfl rfl rfl rfl rfl rfl hl.1 rfl (Nat.le_of_ble_eq_true rfl) dX6_isSo_5 ⟨Nat.zero_le _, Nat.zero_le _⟩ (fun H locs hP hD hS => ?_)
  refine lv_if_eq (tgt := 35) hx hb dX6_isSo_8 (by decide) (fun c3 => ?_) (fun c3 => ?_)
  · have h := oit h c3
    refine lv_iconst (v := 0) hx hb dX6_isSo_35 (by decide) ?_
    obtain rfl := Option.some.inj h
    rw [hQ]; exact ct_zret hx hb hr hlocks rfl hP hS rfl dX6_isSo_36
  · have h := oif h c3
    refine lv_iload_n hx hb dX6_isSo_11 rfl (lv_at hl 2 rfl) ?_
    refine lv_aload_n hx hb dX6_isSo_12 rfl (lv_at hl 0 rfl) ?_
    refine va_get (D := D) (ci := 6) (v := .ref srh) (C := RX6) (T := TX6) (N := 14) hx hb hts hiX6 hown hE.1 hP 0 rfl rfl 5 (by decide) (hts (.fieldLink RX6 30 "TiltTray" "spare" "LTiltTray$Spot;") (by decide +kernel)) (fun _ h9 => h9) rfl dX6_isSo_13 ?_
    refine lv_iload_n hx hb dX6_isSo_16 rfl (lv_at hl 1 rfl) ?_
    obtain ⟨q4, hq4, h⟩ := ob h
    refine kV (As := [.int p1]) (rest := [.int p2]) (w2 := cTT xh x_text x_now srh x_acts x_slots x_sights x_search x_pairs x_worth x_tray x_draft x_let x_kept x_seed ++ (cSp srh sra cy.1 sr ++ (cTr x_tray tra trb trc cy.1 tr))) (n := 1) (q0 := 1) ⟨hx, hb, hml, hown, hts⟩ (c_X4_isIn l D cy srh sra sr p1 q4 hq4) gX6_isSo_X4_isIn rfl (by decide +kernel) ⟨by rw [hRf]; exact Nat.le_of_ble_eq_true rfl, by rw [hRl]; exact Nat.le_of_ble_eq_true rfl⟩ hE hP hD hS hA [1, 2] rfl rfl rfl rfl rfl rfl rfl hl.1 rfl (Nat.le_of_ble_eq_true rfl) dX6_isSo_17 ⟨Nat.zero_le _, Nat.zero_le _⟩ (fun H locs hP hD hS => ?_)
    refine lv_if_eq (tgt := 27) hx hb dX6_isSo_20 (by decide) (fun c5 => ?_) (fun c5 => ?_)
    · have h := oit h c5
      refine lv_iconst (v := 0) hx hb dX6_isSo_27 (by decide) ?_
      exact L28 p2 0 _ _ _ (lv_sub hl [] rfl) hP hD hS h
    · have h := oif h c5
      refine lv_iconst (v := 1) hx hb dX6_isSo_23 (by decide) ?_
      refine lv_goto (tgt := 28) hx hb dX6_isSo_24 (by decide) ?_
      exact L28 p2 1 _ _ _ (lv_sub hl [] rfl) hP hD hS h

def tw_X6_doTold (sr : SpS) (tr : TrS) (p1 : Int32) : Option (Int32 × SpS) :=
  if (p1 / 100) = 0 then ((tw_X6_isWay (p1 - p1 / 100 * 100)).bind (fun q1 => if q1 = 0 then (some (0, sr)) else ((tw_X5_roll tr sr (p1 - p1 / 100 * 100)).bind (fun q3 => some (1, q3))))) else (if (p1 / 100) = 1 then ((tw_X5_turnWedge tr sr (p1 - p1 / 100 * 100)).bind (fun q5 => if q5.1 &&& 1 = q5.1 then (some (q5.1, q5.2)) else none)) else (if (p1 / 100) = 2 then ((tw_X6_isSo sr tr ((p1 - p1 / 100 * 100) / 10) ((p1 - p1 / 100 * 100) - (p1 - p1 / 100 * 100) / 10 * 10)).bind (fun q8 => if q8 &&& 1 = q8 then (some (q8, sr)) else none)) else (some (0, sr))))
set_option maxHeartbeats 4000000 in
set_option maxRecDepth 100000 in
theorem c_X6_doTold (l : Launch) (D : va_G) (cy : Cy) (xh : Nat) (x_text : Nat) (x_now : Nat) (srh : Nat) (sra : Nat) (x_acts : Nat) (x_slots : Nat) (x_sights : Nat) (x_search : Nat) (x_pairs : Nat) (x_worth : Nat) (x_tray : Nat) (tra : Nat) (trb : Nat) (trc : Nat) (x_draft : Nat) (sr : SpS) (tr : TrS) (x_let : Int32) (x_kept : Int32) (x_seed : Int64) (p1 : Int32) (res : Int32 × SpS) (h : tw_X6_doTold sr tr p1 = some res) : Ct l yX6_doTold wsX6_doTold 4 93 D cy [.ref xh, .int p1] (cTT xh x_text x_now srh x_acts x_slots x_sights x_search x_pairs x_worth x_tray x_draft x_let x_kept x_seed ++ (cSp srh sra cy.1 sr ++ (cTr x_tray tra trb trc cy.1 tr))) (cTT xh x_text x_now srh x_acts x_slots x_sights x_search x_pairs x_worth x_tray x_draft x_let x_kept x_seed ++ (cSp srh sra cy.1 res.2 ++ (cTr x_tray tra trb trc cy.1 tr))) (some (.int res.1)) := by
  refine Ct.ofW (cc := cX6_doTold) (maxL := 3) (ret := (some .boolean)) (by decide) rfl (Nat.le_of_ble_eq_true rfl) ?_
  intro p e R s m args below meth c A Q ls hRf hRl hQ hx hb hr hml hts hown hlocks hE hP hD hS hA hl
  have hiX6 : ∀ w ∈ u_ws RX6 TX6 14, w ∈ wsX6_doTold := by decide +kernel
  have hl : lv_has ls 3 [(0, .ref xh), (1, .int p1)] := hl
  rw [tw_X6_doTold] at h
  refine lv_iload_n hx hb dX6_doTold_0 rfl (lv_at hl 1 rfl) ?_
  refine lv_bipush (v := 100) hx hb dX6_doTold_1 (by decide) ?_
  refine lv_irem hx hb dX6_doTold_3 (by decide) ?_
  refine lv_istore_n (lv' := [(2, .int (p1 - p1 / 100 * 100)), (0, .ref xh), (1, .int p1)]) hx hb dX6_doTold_4 rfl hl (by decide) rfl (fun ls hl => ?_)
  refine lv_iload_n hx hb dX6_doTold_5 rfl (lv_at hl 2 rfl) ?_
  refine lv_bipush (v := 100) hx hb dX6_doTold_6 (by decide) ?_
  refine lv_idiv hx hb dX6_doTold_8 (by decide) ?_
  by_cases c4 : (p1 / 100) = 0
  · have h := oit h c4
    refine lv_tableIn (off := 27) (tgt := 36) hx hb dX6_doTold_9 (by rw [c4]; decide) (by rw [c4]; decide) (by rw [c4]; decide) (by decide) ?_
    refine lv_iload_n hx hb dX6_doTold_36 rfl (lv_at hl 0 rfl) ?_
    obtain ⟨q1, hq1, h⟩ := ob h
    refine kS (As := [.int (p1 - p1 / 100 * 100)]) (rest := []) (w2 := cTT xh x_text x_now srh x_acts x_slots x_sights x_search x_pairs x_worth x_tray x_draft x_let x_kept x_seed ++ (cSp srh sra cy.1 sr ++ (cTr x_tray tra trb trc cy.1 tr))) (n := 1) ⟨hx, hb, hml, hown, hts⟩ (c_X6_isWay l D cy (p1 - p1 / 100 * 100) q1 hq1) gX6_doTold_X6_isWay rfl (by decide +kernel) ⟨by rw [hRf]; exact Nat.le_of_ble_eq_true rfl, by rw [hRl]; exact Nat.le_of_ble_eq_true rfl⟩ hE hP hD hS hA [] rfl rfl rfl rfl rfl hl.1 rfl (Nat.le_of_ble_eq_true rfl) dX6_doTold_37 ⟨Nat.zero_le _, Nat.zero_le _⟩ (fun H locs hP hD hS => ?_)
    refine lv_if_ne (tgt := 45) hx hb dX6_doTold_40 (by decide) (fun c2 => ?_) (fun c2 => ?_)
    · have h := oif h c2
      refine lv_aload_n hx hb dX6_doTold_45 rfl (lv_at hl 1 rfl) ?_
      refine va_get (D := D) (ci := 6) (v := .ref x_tray) (C := RX6) (T := TX6) (N := 14) hx hb hts hiX6 hown hE.1 hP 0 rfl rfl 2 (by decide) (hts (.fieldLink RX6 16 "TiltTray" "tray" "LTiltTray$Tray;") (by decide +kernel)) (fun _ h9 => h9) rfl dX6_doTold_46 ?_
      refine lv_aload_n hx hb dX6_doTold_49 rfl (lv_at hl 1 rfl) ?_
      refine va_get (D := D) (ci := 6) (v := .ref srh) (C := RX6) (T := TX6) (N := 14) hx hb hts hiX6 hown hE.1 hP 0 rfl rfl 5 (by decide) (hts (.fieldLink RX6 30 "TiltTray" "spare" "LTiltTray$Spot;") (by decide +kernel)) (fun _ h9 => h9) rfl dX6_doTold_50 ?_
      refine lv_iload_n hx hb dX6_doTold_53 rfl (lv_at hl 0 rfl) ?_
      obtain ⟨q3, hq3, h⟩ := ob h
      refine kV (As := [.ref srh, .int (p1 - p1 / 100 * 100)]) (rest := []) (w2 := cTT xh x_text x_now srh x_acts x_slots x_sights x_search x_pairs x_worth x_tray x_draft x_let x_kept x_seed ++ (cSp srh sra cy.1 q3 ++ (cTr x_tray tra trb trc cy.1 tr))) (n := 2) (q0 := 3) ⟨hx, hb, hml, hown, hts⟩ (c_X5_roll l D cy x_tray tra trb trc srh sra tr sr (p1 - p1 / 100 * 100) q3 hq3) gX6_doTold_X5_roll rfl (by decide +kernel) ⟨by rw [hRf]; exact Nat.le_of_ble_eq_true rfl, by rw [hRl]; exact Nat.le_of_ble_eq_true rfl⟩ hE hP hD hS hA [3, 4, 5, 6, 1, 2] rfl rfl rfl rfl rfl rfl rfl hl.1 rfl (Nat.le_of_ble_eq_true rfl) dX6_doTold_54 ⟨Nat.zero_le _, Nat.zero_le _⟩ (fun H locs hP hD hS => ?_)
      refine lv_iconst (v := 1) hx hb dX6_doTold_57 (by decide) ?_
      obtain rfl := Option.some.inj h
      rw [hQ]; exact ct_zret hx hb hr hlocks rfl hP hS rfl dX6_doTold_58
    · have h := oit h c2
      refine lv_iconst (v := 0) hx hb dX6_doTold_43 (by decide) ?_
      obtain rfl := Option.some.inj h
      rw [hQ]; exact ct_zret hx hb hr hlocks rfl hP hS rfl dX6_doTold_44
  have h := oif h c4
  by_cases c7 : (p1 / 100) = 1
  · have h := oit h c7
    refine lv_tableIn (off := 50) (tgt := 59) hx hb dX6_doTold_9 (by rw [c7]; decide) (by rw [c7]; decide) (by rw [c7]; decide) (by decide) ?_
    refine lv_aload_n hx hb dX6_doTold_59 rfl (lv_at hl 1 rfl) ?_
    refine va_get (D := D) (ci := 6) (v := .ref x_tray) (C := RX6) (T := TX6) (N := 14) hx hb hts hiX6 hown hE.1 hP 0 rfl rfl 2 (by decide) (hts (.fieldLink RX6 16 "TiltTray" "tray" "LTiltTray$Tray;") (by decide +kernel)) (fun _ h9 => h9) rfl dX6_doTold_60 ?_
    refine lv_aload_n hx hb dX6_doTold_63 rfl (lv_at hl 1 rfl) ?_
    refine va_get (D := D) (ci := 6) (v := .ref srh) (C := RX6) (T := TX6) (N := 14) hx hb hts hiX6 hown hE.1 hP 0 rfl rfl 5 (by decide) (hts (.fieldLink RX6 30 "TiltTray" "spare" "LTiltTray$Spot;") (by decide +kernel)) (fun _ h9 => h9) rfl dX6_doTold_64 ?_
    refine lv_iload_n hx hb dX6_doTold_67 rfl (lv_at hl 0 rfl) ?_
    obtain ⟨q5, hq5, h⟩ := ob h
    refine kV (As := [.ref srh, .int (p1 - p1 / 100 * 100)]) (rest := []) (w2 := cTT xh x_text x_now srh x_acts x_slots x_sights x_search x_pairs x_worth x_tray x_draft x_let x_kept x_seed ++ (cSp srh sra cy.1 q5.2 ++ (cTr x_tray tra trb trc cy.1 tr))) (n := 2) (q0 := 3) ⟨hx, hb, hml, hown, hts⟩ (c_X5_turnWedge l D cy x_tray tra trb trc srh sra tr sr (p1 - p1 / 100 * 100) q5 hq5) gX6_doTold_X5_turnWedge rfl (by decide +kernel) ⟨by rw [hRf]; exact Nat.le_of_ble_eq_true rfl, by rw [hRl]; exact Nat.le_of_ble_eq_true rfl⟩ hE hP hD hS hA [3, 4, 5, 6, 1, 2] rfl rfl rfl rfl rfl rfl rfl hl.1 rfl (Nat.le_of_ble_eq_true rfl) dX6_doTold_68 ⟨Nat.zero_le _, Nat.zero_le _⟩ (fun H locs hP hD hS => ?_)
    obtain ⟨g6, h⟩ := og h
    obtain rfl := Option.some.inj h
    rw [hQ]; exact ct_zret hx hb hr hlocks (nar_z g6) hP hS rfl dX6_doTold_71
  have h := oif h c7
  by_cases c10 : (p1 / 100) = 2
  · have h := oit h c10
    refine lv_tableIn (off := 63) (tgt := 72) hx hb dX6_doTold_9 (by rw [c10]; decide) (by rw [c10]; decide) (by rw [c10]; decide) (by decide) ?_
    refine lv_aload_n hx hb dX6_doTold_72 rfl (lv_at hl 1 rfl) ?_
    refine lv_iload_n hx hb dX6_doTold_73 rfl (lv_at hl 0 rfl) ?_
    refine lv_bipush (v := 10) hx hb dX6_doTold_74 (by decide) ?_
    refine lv_idiv hx hb dX6_doTold_76 (by decide) ?_
    refine lv_iload_n hx hb dX6_doTold_77 rfl (lv_at hl 0 rfl) ?_
    refine lv_bipush (v := 10) hx hb dX6_doTold_78 (by decide) ?_
    refine lv_irem hx hb dX6_doTold_80 (by decide) ?_
    obtain ⟨q8, hq8, h⟩ := ob h
    refine kV (As := [.int ((p1 - p1 / 100 * 100) / 10), .int ((p1 - p1 / 100 * 100) - (p1 - p1 / 100 * 100) / 10 * 10)]) (rest := []) (w2 := cTT xh x_text x_now srh x_acts x_slots x_sights x_search x_pairs x_worth x_tray x_draft x_let x_kept x_seed ++ (cSp srh sra cy.1 sr ++ (cTr x_tray tra trb trc cy.1 tr))) (n := 2) (q0 := 0) ⟨hx, hb, hml, hown, hts⟩ (c_X6_isSo l D cy xh x_text x_now srh sra x_acts x_slots x_sights x_search x_pairs x_worth x_tray tra trb trc x_draft sr tr x_let x_kept x_seed ((p1 - p1 / 100 * 100) / 10) ((p1 - p1 / 100 * 100) - (p1 - p1 / 100 * 100) / 10 * 10) q8 hq8) gX6_doTold_X6_isSo rfl (by decide +kernel) ⟨by rw [hRf]; exact Nat.le_of_ble_eq_true rfl, by rw [hRl]; exact Nat.le_of_ble_eq_true rfl⟩ hE hP hD hS hA [0, 1, 2, 3, 4, 5, 6] rfl rfl rfl rfl rfl rfl rfl hl.1 rfl (Nat.le_of_ble_eq_true rfl) dX6_doTold_81 ⟨Nat.zero_le _, Nat.zero_le _⟩ (fun H locs hP hD hS => ?_)
    obtain ⟨g9, h⟩ := og h
    obtain rfl := Option.some.inj h
    rw [hQ]; exact ct_zret hx hb hr hlocks (nar_z g9) hP hS rfl dX6_doTold_84
  have h := oif h c10
  refine lv_tableOut (tgt := 85) hx hb dX6_doTold_9 (sw_out 2 (by decide) (fun k hk => by rcases (show k = 0 ∨ k = 1 ∨ k = 2 by omega) with rfl | rfl | rfl <;> assumption)) (by decide) ?_
  refine lv_iconst (v := 0) hx hb dX6_doTold_85 (by decide) ?_
  obtain rfl := Option.some.inj h
  rw [hQ]; exact ct_zret hx hb hr hlocks rfl hP hS rfl dX6_doTold_86

def tw_X6_judge_69 (no : SpS) (tr : TrS) (p1 : Int32) (p2 : Int64) : Nat → Int64 → Int32 → SpS → Option (Int32 × SpS)
  | 0, _, _, _ => none
  | n + 1, x4, x6, sr =>
    if p1 ≤ x6 then (some ((-9), sr)) else (if ¬ (x4 / 1000) = 0 then ((tw_X6_doTold sr tr (((p2 / (x4 / 1000)) - (p2 / (x4 / 1000)) / 1000 * 1000).toInt32)).bind (fun q3 => if q3.1 = 0 then (some (x6, q3.2)) else ((tw_X6_judge_69 no tr p1 p2 n) (x4 / 1000) (x6 + 1) q3.2))) else none)
def tw_X6_judge_25 (no : SpS) (tr : TrS) (p1 : Int32) (p2 : Int64) : Nat → Int64 → Int32 → SpS → Option (Int32 × SpS)
  | 0, _, _, _ => none
  | n + 1, x4, x6, sr =>
    if p1 ≤ x6 then (if (lg_cmp p2 x4) < 0 then ((tw_X4_take sr no).bind (fun q7 => tw_X6_judge_69 no tr p1 p2 6 x4 0 q7)) else (some ((-2), sr))) else ((tw_X6_judge_25 no tr p1 p2 n) (x4 * 1000) (x6 + 1) sr)
def tw_X6_judge (no : SpS) (sr : SpS) (tr : TrS) (p1 : Int32) (p2 : Int64) : Option (Int32 × SpS) :=
  if p1 < 1 then (some ((-2), sr)) else (if 4 < p1 then (some ((-2), sr)) else (if 0 ≤ (lg_cmp p2 0) then (tw_X6_judge_25 no tr p1 p2 6 1 0 sr) else (some ((-2), sr))))
set_option maxHeartbeats 4000000 in
set_option maxRecDepth 100000 in
theorem c_X6_judge (l : Launch) (D : va_G) (cy : Cy) (xh : Nat) (x_text : Nat) (noh : Nat) (noa : Nat) (srh : Nat) (sra : Nat) (x_acts : Nat) (x_slots : Nat) (x_sights : Nat) (x_search : Nat) (x_pairs : Nat) (x_worth : Nat) (x_tray : Nat) (tra : Nat) (trb : Nat) (trc : Nat) (x_draft : Nat) (no : SpS) (sr : SpS) (tr : TrS) (x_let : Int32) (x_kept : Int32) (x_seed : Int64) (p1 : Int32) (p2 : Int64) (res : Int32 × SpS) (h : tw_X6_judge no sr tr p1 p2 = some res) : Ct l yX6_judge wsX6_judge 5 115 D cy [.ref xh, .int p1, .long p2] (cTT xh x_text noh srh x_acts x_slots x_sights x_search x_pairs x_worth x_tray x_draft x_let x_kept x_seed ++ (cSp noh noa cy.1 no ++ (cSp srh sra cy.1 sr ++ (cTr x_tray tra trb trc cy.1 tr)))) (cTT xh x_text noh srh x_acts x_slots x_sights x_search x_pairs x_worth x_tray x_draft x_let x_kept x_seed ++ (cSp noh noa cy.1 no ++ (cSp srh sra cy.1 res.2 ++ (cTr x_tray tra trb trc cy.1 tr)))) (some (.int res.1)) := by
  refine Ct.ofW (cc := cX6_judge) (maxL := 7) (ret := (some .int)) (by decide) rfl (Nat.le_of_ble_eq_true rfl) ?_
  intro p e R s m args below meth c A Q ls hRf hRl hQ hx hb hr hml hts hown hlocks hE hP hD hS hA hl
  have hiX6 : ∀ w ∈ u_ws RX6 TX6 14, w ∈ wsX6_judge := by decide +kernel
  have hl : lv_has ls 7 [(0, .ref xh), (1, .int p1), (2, .long p2)] := hl
  rw [tw_X6_judge] at h
  have L69 : ∀ (n : Nat) (x4 : Int64) (x6 : Int32) (sr : SpS)  (H : Heap) (locs : List Loc) (ls : Array Slot), lv_has ls 7 [(0, .ref xh), (1, .int p1), (2, .long p2), (4, .long x4), (6, .int x6)] → va_P D vwCl (cTT xh x_text noh srh x_acts x_slots x_sights x_search x_pairs x_worth x_tray x_draft x_let x_kept x_seed ++ (cSp noh noa cy.1 no ++ (cSp srh sra cy.1 sr ++ (cTr x_tray tra trb trc cy.1 tr)))) H → va_D A (cTT xh x_text noh srh x_acts x_slots x_sights x_search x_pairs x_worth x_tray x_draft x_let x_kept x_seed ++ (cSp noh noa cy.1 no ++ (cSp srh sra cy.1 sr ++ (cTr x_tray tra trb trc cy.1 tr)))) → va_S A s.heap H locs → tw_X6_judge_69 no tr p1 p2 n x4 x6 sr = some res → W p l e R s m args below meth c H locs 0 0 Q (F0 m 69 ls []) := by
    intro n69
    induction n69 with
    | zero =>
      intro x4 x6 sr  H locs ls hl hP hD hS h
      exact absurd h (by rw [tw_X6_judge_69]; exact fun q => by cases q)
    | succ n69 ih69 =>
      intro x4 x6 sr  H locs ls hl hP hD hS h
      rw [tw_X6_judge_69] at h
      refine lv_iload hx hb dX6_judge_69 (lv_at hl 4 rfl) ?_
      refine lv_iload_n hx hb dX6_judge_71 rfl (lv_at hl 1 rfl) ?_
      refine lv_icmp_ge (tgt := 108) hx hb dX6_judge_72 (by decide) (fun c1 => ?_) (fun c1 => ?_)
      · have h := oit h c1
        refine lv_bipush (v := (-9)) hx hb dX6_judge_108 (by decide) ?_
        obtain rfl := Option.some.inj h
        rw [hQ]; exact ct_iret hx hb hr hlocks hP hS rfl dX6_judge_110
      · have h := oif h c1
        refine lv_lload hx hb dX6_judge_75 (lv_at hl 3 rfl) ?_
        refine lv_ldc2 (v := 1000) hx hb hown (hts (.constantLong RX6 201 (1000)) (by decide +kernel)) dX6_judge_77 ?_
        refine lv_ldiv hx hb dX6_judge_80 (by decide) ?_
        refine lv_lstore (lv' := [(4, .long (x4 / 1000)), (0, .ref xh), (1, .int p1), (2, .long p2), (6, .int x6)]) hx hb dX6_judge_81 hl (by decide) rfl (fun ls hl => ?_)
        refine lv_aload_n hx hb dX6_judge_83 rfl (lv_at hl 1 rfl) ?_
        refine lv_lload_n hx hb dX6_judge_84 rfl (lv_at hl 3 rfl) ?_
        refine lv_lload hx hb dX6_judge_85 (lv_at hl 0 rfl) ?_
        obtain ⟨g2, h⟩ := og h
        refine lv_ldiv hx hb dX6_judge_87 g2 ?_
        refine lv_ldc2 (v := 1000) hx hb hown (hts (.constantLong RX6 201 (1000)) (by decide +kernel)) dX6_judge_88 ?_
        refine lv_lrem hx hb dX6_judge_91 (by decide) ?_
        refine lv_l2i hx hb dX6_judge_92 rfl ?_
        obtain ⟨q3, hq3, h⟩ := ob h
        refine kV (As := [.int (((p2 / (x4 / 1000)) - (p2 / (x4 / 1000)) / 1000 * 1000).toInt32)]) (rest := []) (w2 := cTT xh x_text noh srh x_acts x_slots x_sights x_search x_pairs x_worth x_tray x_draft x_let x_kept x_seed ++ (cSp noh noa cy.1 no ++ (cSp srh sra cy.1 q3.2 ++ (cTr x_tray tra trb trc cy.1 tr)))) (n := 1) (q0 := 0) ⟨hx, hb, hml, hown, hts⟩ (c_X6_doTold l D cy xh x_text noh srh sra x_acts x_slots x_sights x_search x_pairs x_worth x_tray tra trb trc x_draft sr tr x_let x_kept x_seed (((p2 / (x4 / 1000)) - (p2 / (x4 / 1000)) / 1000 * 1000).toInt32) q3 hq3) gX6_judge_X6_doTold rfl (by decide +kernel) ⟨by rw [hRf]; exact Nat.le_of_ble_eq_true rfl, by rw [hRl]; exact Nat.le_of_ble_eq_true rfl⟩ hE hP hD hS hA [0, 3, 4, 5, 6, 7, 8] rfl rfl rfl rfl rfl rfl rfl hl.1 rfl (Nat.le_of_ble_eq_true rfl) dX6_judge_93 ⟨Nat.zero_le _, Nat.zero_le _⟩ (fun H locs hP hD hS => ?_)
        refine lv_if_ne (tgt := 102) hx hb dX6_judge_96 (by decide) (fun c4 => ?_) (fun c4 => ?_)
        · have h := oif h c4
          refine lv_iinc (v := x6 + 1) (lv' := [(6, .int (x6 + 1)), (4, .long (x4 / 1000)), (0, .ref xh), (1, .int p1), (2, .long p2)]) hx hb dX6_judge_102 hl (k := 4) rfl rfl (by decide) rfl (fun ls hl => ?_)
          refine lv_goto (tgt := 69) hx hb dX6_judge_105 (by decide) ?_
          exact ih69 (x4 / 1000) (x6 + 1) q3.2 _ _ _ (lv_sub hl [2, 3, 4, 1, 0] rfl) hP hD hS h
        · have h := oit h c4
          refine lv_iload hx hb dX6_judge_99 (lv_at hl 4 rfl) ?_
          obtain rfl := Option.some.inj h
          rw [hQ]; exact ct_iret hx hb hr hlocks hP hS rfl dX6_judge_101
  have L25 : ∀ (n : Nat) (x4 : Int64) (x6 : Int32) (sr : SpS)  (H : Heap) (locs : List Loc) (ls : Array Slot), lv_has ls 7 [(0, .ref xh), (1, .int p1), (2, .long p2), (4, .long x4), (6, .int x6)] → va_P D vwCl (cTT xh x_text noh srh x_acts x_slots x_sights x_search x_pairs x_worth x_tray x_draft x_let x_kept x_seed ++ (cSp noh noa cy.1 no ++ (cSp srh sra cy.1 sr ++ (cTr x_tray tra trb trc cy.1 tr)))) H → va_D A (cTT xh x_text noh srh x_acts x_slots x_sights x_search x_pairs x_worth x_tray x_draft x_let x_kept x_seed ++ (cSp noh noa cy.1 no ++ (cSp srh sra cy.1 sr ++ (cTr x_tray tra trb trc cy.1 tr)))) → va_S A s.heap H locs → tw_X6_judge_25 no tr p1 p2 n x4 x6 sr = some res → W p l e R s m args below meth c H locs 0 0 Q (F0 m 25 ls []) := by
    intro n25
    induction n25 with
    | zero =>
      intro x4 x6 sr  H locs ls hl hP hD hS h
      exact absurd h (by rw [tw_X6_judge_25]; exact fun q => by cases q)
    | succ n25 ih25 =>
      intro x4 x6 sr  H locs ls hl hP hD hS h
      rw [tw_X6_judge_25] at h
      refine lv_iload hx hb dX6_judge_25 (lv_at hl 4 rfl) ?_
      refine lv_iload_n hx hb dX6_judge_27 rfl (lv_at hl 1 rfl) ?_
      refine lv_icmp_ge (tgt := 45) hx hb dX6_judge_28 (by decide) (fun c5 => ?_) (fun c5 => ?_)
      · have h := oit h c5
        refine lv_lload_n hx hb dX6_judge_45 rfl (lv_at hl 2 rfl) ?_
        refine lv_lload hx hb dX6_judge_46 (lv_at hl 3 rfl) ?_
        refine W.lcmp hx hb dX6_judge_48 ?_
        refine lv_if_lt (tgt := 55) hx hb dX6_judge_49 (by decide) (fun c6 => ?_) (fun c6 => ?_)
        · have h := oit h c6
          refine lv_aload_n hx hb dX6_judge_55 rfl (lv_at hl 0 rfl) ?_
          refine va_get (D := D) (ci := 6) (v := .ref srh) (C := RX6) (T := TX6) (N := 14) hx hb hts hiX6 hown hE.1 hP 0 rfl rfl 5 (by decide) (hts (.fieldLink RX6 30 "TiltTray" "spare" "LTiltTray$Spot;") (by decide +kernel)) (fun _ h9 => h9) rfl dX6_judge_56 ?_
          refine lv_aload_n hx hb dX6_judge_59 rfl (lv_at hl 0 rfl) ?_
          refine va_get (D := D) (ci := 6) (v := .ref noh) (C := RX6) (T := TX6) (N := 14) hx hb hts hiX6 hown hE.1 hP 0 rfl rfl 4 (by decide) (hts (.fieldLink RX6 26 "TiltTray" "now" "LTiltTray$Spot;") (by decide +kernel)) (fun _ h9 => h9) rfl dX6_judge_60 ?_
          obtain ⟨q7, hq7, h⟩ := ob h
          refine kV (As := [.ref noh]) (rest := []) (w2 := cTT xh x_text noh srh x_acts x_slots x_sights x_search x_pairs x_worth x_tray x_draft x_let x_kept x_seed ++ (cSp noh noa cy.1 no ++ (cSp srh sra cy.1 q7 ++ (cTr x_tray tra trb trc cy.1 tr)))) (n := 1) (q0 := 3) ⟨hx, hb, hml, hown, hts⟩ (c_X4_take l D cy srh sra noh noa sr no q7 hq7) gX6_judge_X4_take rfl (by decide +kernel) ⟨by rw [hRf]; exact Nat.le_of_ble_eq_true rfl, by rw [hRl]; exact Nat.le_of_ble_eq_true rfl⟩ hE hP hD hS hA [3, 4, 1, 2] rfl rfl rfl rfl rfl rfl rfl hl.1 rfl (Nat.le_of_ble_eq_true rfl) dX6_judge_63 ⟨Nat.zero_le _, Nat.zero_le _⟩ (fun H locs hP hD hS => ?_)
          refine lv_iconst (v := 0) hx hb dX6_judge_66 (by decide) ?_
          refine lv_istore (lv' := [(6, .int 0), (0, .ref xh), (1, .int p1), (2, .long p2), (4, .long x4)]) hx hb dX6_judge_67 hl (by decide) rfl (fun ls hl => ?_)
          exact L69 6 x4 0 q7 _ _ _ (lv_sub hl [1, 2, 3, 4, 0] rfl) hP hD hS h
        · have h := oif h c6
          refine lv_bipush (v := (-2)) hx hb dX6_judge_52 (by decide) ?_
          obtain rfl := Option.some.inj h
          rw [hQ]; exact ct_iret hx hb hr hlocks hP hS rfl dX6_judge_54
      · have h := oif h c5
        refine lv_lload hx hb dX6_judge_31 (lv_at hl 3 rfl) ?_
        refine lv_ldc2 (v := 1000) hx hb hown (hts (.constantLong RX6 201 (1000)) (by decide +kernel)) dX6_judge_33 ?_
        refine lv_lmul hx hb dX6_judge_36 ?_
        refine lv_lstore (lv' := [(4, .long (x4 * 1000)), (0, .ref xh), (1, .int p1), (2, .long p2), (6, .int x6)]) hx hb dX6_judge_37 hl (by decide) rfl (fun ls hl => ?_)
        refine lv_iinc (v := x6 + 1) (lv' := [(6, .int (x6 + 1)), (4, .long (x4 * 1000)), (0, .ref xh), (1, .int p1), (2, .long p2)]) hx hb dX6_judge_39 hl (k := 4) rfl rfl (by decide) rfl (fun ls hl => ?_)
        refine lv_goto (tgt := 25) hx hb dX6_judge_42 (by decide) ?_
        exact ih25 (x4 * 1000) (x6 + 1) sr _ _ _ (lv_sub hl [2, 3, 4, 1, 0] rfl) hP hD hS h
  refine lv_iload_n hx hb dX6_judge_0 rfl (lv_at hl 1 rfl) ?_
  refine lv_iconst (v := 1) hx hb dX6_judge_1 (by decide) ?_
  refine lv_icmp_lt (tgt := 16) hx hb dX6_judge_2 (by decide) (fun c8 => ?_) (fun c8 => ?_)
  · have h := oit h c8
    refine lv_bipush (v := (-2)) hx hb dX6_judge_16 (by decide) ?_
    obtain rfl := Option.some.inj h
    rw [hQ]; exact ct_iret hx hb hr hlocks hP hS rfl dX6_judge_18
  · have h := oif h c8
    refine lv_iload_n hx hb dX6_judge_5 rfl (lv_at hl 1 rfl) ?_
    refine lv_iconst (v := 4) hx hb dX6_judge_6 (by decide) ?_
    refine lv_icmp_gt (tgt := 16) hx hb dX6_judge_7 (by decide) (fun c9 => ?_) (fun c9 => ?_)
    · have h := oit h c9
      refine lv_bipush (v := (-2)) hx hb dX6_judge_16 (by decide) ?_
      obtain rfl := Option.some.inj h
      rw [hQ]; exact ct_iret hx hb hr hlocks hP hS rfl dX6_judge_18
    · have h := oif h c9
      refine lv_lload_n hx hb dX6_judge_10 rfl (lv_at hl 2 rfl) ?_
      refine lv_lconst (v := 0) hx hb dX6_judge_11 (by decide) ?_
      refine W.lcmp hx hb dX6_judge_12 ?_
      refine lv_if_ge (tgt := 19) hx hb dX6_judge_13 (by decide) (fun c10 => ?_) (fun c10 => ?_)
      · have h := oit h c10
        refine lv_lconst (v := 1) hx hb dX6_judge_19 (by decide) ?_
        refine lv_lstore (lv' := [(4, .long 1), (0, .ref xh), (1, .int p1), (2, .long p2)]) hx hb dX6_judge_20 hl (by decide) rfl (fun ls hl => ?_)
        refine lv_iconst (v := 0) hx hb dX6_judge_22 (by decide) ?_
        refine lv_istore (lv' := [(6, .int 0), (4, .long 1), (0, .ref xh), (1, .int p1), (2, .long p2)]) hx hb dX6_judge_23 hl (by decide) rfl (fun ls hl => ?_)
        exact L25 6 1 0 sr _ _ _ (lv_sub hl [2, 3, 4, 1, 0] rfl) hP hD hS h
      · have h := oif h c10
        refine lv_bipush (v := (-2)) hx hb dX6_judge_16 (by decide) ?_
        obtain rfl := Option.some.inj h
        rw [hQ]; exact ct_iret hx hb hr hlocks hP hS rfl dX6_judge_18
