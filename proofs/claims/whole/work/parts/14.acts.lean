def tw_X0_forget (aci : Int32) (acn : Int32) : Option (Int32 × Int32) :=
  some (0, 0)
set_option maxHeartbeats 4000000 in
set_option maxRecDepth 100000 in
theorem c_X0_forget (l : Launch) (D : va_G) (cy : Cy) (ach : Nat) (acr : Nat) (acH : Nat → Nat) (aci : Int32) (acn : Int32) (res : Int32 × Int32) (h : tw_X0_forget aci acn = some res) : Ct l yX0_forget wsX0_forget 0 0 D cy [.ref ach] (cAc ach acr acH cy.2.2.2.1 aci acn) (cAc ach acr acH cy.2.2.2.1 res.1 res.2) (none) := by
  refine Ct.ofW (cc := cX0_forget) (maxL := 1) (ret := none) (by decide) rfl (Nat.le_of_ble_eq_true rfl) ?_
  intro p e R s m args below meth c A Q ls hRf hRl hQ hx hb hr hml hts hown hlocks hE hP hD hS hA hl
  have hiX0 : ∀ w ∈ u_ws RX0 TX0 3, w ∈ wsX0_forget := by decide +kernel
  have hl : lv_has ls 1 [(0, .ref ach)] := hl
  rw [tw_X0_forget] at h
  refine lv_aload_n hx hb dX0_forget_0 rfl (lv_at hl 0 rfl) ?_
  refine lv_iconst (v := 0) hx hb dX0_forget_1 (by decide) ?_
  refine va_put (D := D) (ci := 0) (v := .int 0) (ty := .int) (C := RX0) (T := TX0) (N := 3) hx hb hts hiX0 tyX0 tyX0_ok nmX0 hown hE.1 hP hD hS 0 rfl rfl 1 (by decide) (hts (.fieldLink RX0 18 "TiltTray$Acts" "first" "I") (by decide +kernel)) (fun _ h9 => h9) rfl (by decide +kernel) rfl rfl (Nat.le_of_ble_eq_true rfl) dX0_forget_2 (fun H locs hP hD hS => ?_)
  have hP : va_P D vwCl (cAc ach acr acH cy.2.2.2.1 0 acn) H := hP
  have hD : va_D A (cAc ach acr acH cy.2.2.2.1 0 acn) := hD
  refine lv_aload_n hx hb dX0_forget_5 rfl (lv_at hl 0 rfl) ?_
  refine lv_iconst (v := 0) hx hb dX0_forget_6 (by decide) ?_
  refine va_put (D := D) (ci := 0) (v := .int 0) (ty := .int) (C := RX0) (T := TX0) (N := 3) hx hb hts hiX0 tyX0 tyX0_ok nmX0 hown hE.1 hP hD hS 0 rfl rfl 2 (by decide) (hts (.fieldLink RX0 22 "TiltTray$Acts" "many" "I") (by decide +kernel)) (fun _ h9 => h9) rfl (by decide +kernel) rfl rfl (Nat.le_of_ble_eq_true rfl) dX0_forget_7 (fun H locs hP hD hS => ?_)
  have hP : va_P D vwCl (cAc ach acr acH cy.2.2.2.1 0 0) H := hP
  have hD : va_D A (cAc ach acr acH cy.2.2.2.1 0 0) := hD
  obtain rfl := Option.some.inj h
  rw [hQ]; exact ct_vret hx hb hr hlocks hP hS rfl dX0_forget_10

def tw_X0_remember (acf : Nat → SpS) (aci : Int32) (acn : Int32) (sp : SpS) : Option ((Nat → SpS) × Int32 × Int32) :=
  if ix ((aci + acn) - (aci + acn) / 14 * 14) 14 = true then ((tw_X4_take (acf (((aci + acn) - (aci + acn) / 14 * 14).toNatClampNeg)) sp).bind (fun q3 => if 14 ≤ acn then (some (va_up acf (((aci + acn) - (aci + acn) / 14 * 14).toNatClampNeg) q3, (aci + 1) - (aci + 1) / 14 * 14, acn)) else (some (va_up acf (((aci + acn) - (aci + acn) / 14 * 14).toNatClampNeg) q3, aci, acn + 1)))) else none
set_option maxHeartbeats 4000000 in
set_option maxRecDepth 100000 in
theorem c_X0_remember (l : Launch) (D : va_G) (cy : Cy) (acfH : Nat → Nat) (acfB : Nat → Nat) (ach : Nat) (acr : Nat) (sph : Nat) (spa : Nat) (acf : Nat → SpS) (aci : Int32) (acn : Int32) (sp : SpS) (res : (Nat → SpS) × Int32 × Int32) (h : tw_X0_remember acf aci acn sp = some res) : Ct l yX0_remember wsX0_remember 1 22 D cy [.ref ach, .ref sph] ((cAc ach acr acfH cy.2.2.2.1 aci acn ++ (cSp sph spa cy.1 sp)) ++ cSps acfH acfB cy.1 acf 14) ((cAc ach acr acfH cy.2.2.2.1 res.2.1 res.2.2 ++ (cSp sph spa cy.1 sp)) ++ cSps acfH acfB cy.1 res.1 14) (none) := by
  refine Ct.ofW (cc := cX0_remember) (maxL := 2) (ret := none) (by decide) rfl (Nat.le_of_ble_eq_true rfl) ?_
  intro p e R s m args below meth c A Q ls hRf hRl hQ hx hb hr hml hts hown hlocks hE hP hD hS hA hl
  have hiX0 : ∀ w ∈ u_ws RX0 TX0 3, w ∈ wsX0_remember := by decide +kernel
  have hl : lv_has ls 2 [(0, .ref ach), (1, .ref sph)] := hl
  rw [tw_X0_remember] at h
  refine lv_aload_n hx hb dX0_remember_0 rfl (lv_at hl 0 rfl) ?_
  refine va_get (D := D) (ci := 0) (v := .ref acr) (C := RX0) (T := TX0) (N := 3) hx hb hts hiX0 hown hE.1 hP 0 rfl rfl 0 (by decide) (hts (.fieldLink RX0 11 "TiltTray$Acts" "ahead" "[LTiltTray$Spot;") (by decide +kernel)) (fun _ h9 => h9) rfl dX0_remember_1 ?_
  refine lv_aload_n hx hb dX0_remember_4 rfl (lv_at hl 0 rfl) ?_
  refine va_get (D := D) (ci := 0) (v := .int aci) (C := RX0) (T := TX0) (N := 3) hx hb hts hiX0 hown hE.1 hP 0 rfl rfl 1 (by decide) (hts (.fieldLink RX0 18 "TiltTray$Acts" "first" "I") (by decide +kernel)) (fun _ h9 => h9) rfl dX0_remember_5 ?_
  refine lv_aload_n hx hb dX0_remember_8 rfl (lv_at hl 0 rfl) ?_
  refine va_get (D := D) (ci := 0) (v := .int acn) (C := RX0) (T := TX0) (N := 3) hx hb hts hiX0 hown hE.1 hP 0 rfl rfl 2 (by decide) (hts (.fieldLink RX0 22 "TiltTray$Acts" "many" "I") (by decide +kernel)) (fun _ h9 => h9) rfl dX0_remember_9 ?_
  refine lv_iadd hx hb dX0_remember_12 ?_
  refine lv_bipush (v := 14) hx hb dX0_remember_13 (by decide) ?_
  refine lv_irem hx hb dX0_remember_15 (by decide) ?_
  obtain ⟨g1, h⟩ := og h
  refine va_aldq hx hb hE.1 hP 1 3 rfl rfl (ix_in g1) dX0_remember_16 ?_
  have j2 : ((aci + acn) - (aci + acn) / 14 * 14).toNatClampNeg < 14 := ix_lt g1
  refine W.eq (g2 := F0 m 17 ls [.ref (acfH (((aci + acn) - (aci + acn) / 14 * 14).toNatClampNeg))]) rfl ?_
  refine lv_aload_n hx hb dX0_remember_17 rfl (lv_at hl 1 rfl) ?_
  obtain ⟨q3, hq3, h⟩ := ob h
  refine kV (As := [.ref sph]) (rest := []) (w2 := (cAc ach acr acfH cy.2.2.2.1 aci acn ++ (cSp sph spa cy.1 sp)) ++ cSps acfH acfB cy.1 (va_up acf (((aci + acn) - (aci + acn) / 14 * 14).toNatClampNeg) q3) 14) (n := 1) (q0 := (4 + 2 * (((aci + acn) - (aci + acn) / 14 * 14).toNatClampNeg))) ⟨hx, hb, hml, hown, hts⟩ (c_X4_take l D cy (acfH (((aci + acn) - (aci + acn) / 14 * 14).toNatClampNeg)) (acfB (((aci + acn) - (aci + acn) / 14 * 14).toNatClampNeg)) sph spa (acf (((aci + acn) - (aci + acn) / 14 * 14).toNatClampNeg)) sp q3 hq3) gX0_remember_X4_take rfl (by decide +kernel) ⟨by rw [hRf]; exact Nat.le_of_ble_eq_true rfl, by rw [hRl]; exact Nat.le_of_ble_eq_true rfl⟩ hE hP hD hS hA [4 + 2 * (((aci + acn) - (aci + acn) / 14 * 14).toNatClampNeg), 4 + 2 * (((aci + acn) - (aci + acn) / 14 * 14).toNatClampNeg) + 1, 2, 3] (by simp [va_nd]; try omega) (cC (pl0 rfl j2) (cC (pl1 rfl j2) (cC rfl (cC rfl rfl)))) rfl (Eq.trans (b := ups ((cAc ach acr acfH cy.2.2.2.1 aci acn ++ (cSp sph spa cy.1 sp)) ++ cSps acfH acfB cy.1 (va_up acf (((aci + acn) - (aci + acn) / 14 * 14).toNatClampNeg) q3) 14) ([2, 3]) (cSp sph spa cy.1 sp ++ (([] : va_W)))) (ups_pool rfl j2) (Eq.trans (b := ups ((cAc ach acr acfH cy.2.2.2.1 aci acn ++ (cSp sph spa cy.1 sp)) ++ cSps acfH acfB cy.1 (va_up acf (((aci + acn) - (aci + acn) / 14 * 14).toNatClampNeg) q3) 14) ([]) (([] : va_W))) rfl rfl)) (pl0 rfl j2) rfl rfl hl.1 rfl (Nat.le_of_ble_eq_true rfl) dX0_remember_18 ⟨Nat.zero_le _, Nat.zero_le _⟩ (fun H locs hP hD hS => ?_)
  refine lv_aload_n hx hb dX0_remember_21 rfl (lv_at hl 0 rfl) ?_
  refine va_get (D := D) (ci := 0) (v := .int acn) (C := RX0) (T := TX0) (N := 3) hx hb hts hiX0 hown hE.1 hP 0 rfl rfl 2 (by decide) (hts (.fieldLink RX0 22 "TiltTray$Acts" "many" "I") (by decide +kernel)) (fun _ h9 => h9) rfl dX0_remember_22 ?_
  refine lv_bipush (v := 14) hx hb dX0_remember_25 (by decide) ?_
  refine lv_icmp_ge (tgt := 43) hx hb dX0_remember_27 (by decide) (fun c4 => ?_) (fun c4 => ?_)
  · have h := oit h c4
    refine lv_aload_n hx hb dX0_remember_43 rfl (lv_at hl 0 rfl) ?_
    refine lv_aload_n hx hb dX0_remember_44 rfl (lv_at hl 0 rfl) ?_
    refine va_get (D := D) (ci := 0) (v := .int aci) (C := RX0) (T := TX0) (N := 3) hx hb hts hiX0 hown hE.1 hP 0 rfl rfl 1 (by decide) (hts (.fieldLink RX0 18 "TiltTray$Acts" "first" "I") (by decide +kernel)) (fun _ h9 => h9) rfl dX0_remember_45 ?_
    refine lv_iconst (v := 1) hx hb dX0_remember_48 (by decide) ?_
    refine lv_iadd hx hb dX0_remember_49 ?_
    refine lv_bipush (v := 14) hx hb dX0_remember_50 (by decide) ?_
    refine lv_irem hx hb dX0_remember_52 (by decide) ?_
    refine va_put (D := D) (ci := 0) (v := .int ((aci + 1) - (aci + 1) / 14 * 14)) (ty := .int) (C := RX0) (T := TX0) (N := 3) hx hb hts hiX0 tyX0 tyX0_ok nmX0 hown hE.1 hP hD hS 0 rfl rfl 1 (by decide) (hts (.fieldLink RX0 18 "TiltTray$Acts" "first" "I") (by decide +kernel)) (fun _ h9 => h9) rfl (by decide +kernel) rfl rfl (Nat.le_of_ble_eq_true rfl) dX0_remember_53 (fun H locs hP hD hS => ?_)
    have hP : va_P D vwCl ((cAc ach acr acfH cy.2.2.2.1 ((aci + 1) - (aci + 1) / 14 * 14) acn ++ (cSp sph spa cy.1 sp)) ++ cSps acfH acfB cy.1 (va_up acf (((aci + acn) - (aci + acn) / 14 * 14).toNatClampNeg) q3) 14) H := hP
    have hD : va_D A ((cAc ach acr acfH cy.2.2.2.1 ((aci + 1) - (aci + 1) / 14 * 14) acn ++ (cSp sph spa cy.1 sp)) ++ cSps acfH acfB cy.1 (va_up acf (((aci + acn) - (aci + acn) / 14 * 14).toNatClampNeg) q3) 14) := hD
    obtain rfl := Option.some.inj h
    rw [hQ]; exact ct_vret hx hb hr hlocks hP hS rfl dX0_remember_56
  · have h := oif h c4
    refine lv_aload_n hx hb dX0_remember_30 rfl (lv_at hl 0 rfl) ?_
    refine lv_dup hx hb dX0_remember_31 rfl ?_
    refine va_get (D := D) (ci := 0) (v := .int acn) (C := RX0) (T := TX0) (N := 3) hx hb hts hiX0 hown hE.1 hP 0 rfl rfl 2 (by decide) (hts (.fieldLink RX0 22 "TiltTray$Acts" "many" "I") (by decide +kernel)) (fun _ h9 => h9) rfl dX0_remember_32 ?_
    refine lv_iconst (v := 1) hx hb dX0_remember_35 (by decide) ?_
    refine lv_iadd hx hb dX0_remember_36 ?_
    refine va_put (D := D) (ci := 0) (v := .int (acn + 1)) (ty := .int) (C := RX0) (T := TX0) (N := 3) hx hb hts hiX0 tyX0 tyX0_ok nmX0 hown hE.1 hP hD hS 0 rfl rfl 2 (by decide) (hts (.fieldLink RX0 22 "TiltTray$Acts" "many" "I") (by decide +kernel)) (fun _ h9 => h9) rfl (by decide +kernel) rfl rfl (Nat.le_of_ble_eq_true rfl) dX0_remember_37 (fun H locs hP hD hS => ?_)
    have hP : va_P D vwCl ((cAc ach acr acfH cy.2.2.2.1 aci (acn + 1) ++ (cSp sph spa cy.1 sp)) ++ cSps acfH acfB cy.1 (va_up acf (((aci + acn) - (aci + acn) / 14 * 14).toNatClampNeg) q3) 14) H := hP
    have hD : va_D A ((cAc ach acr acfH cy.2.2.2.1 aci (acn + 1) ++ (cSp sph spa cy.1 sp)) ++ cSps acfH acfB cy.1 (va_up acf (((aci + acn) - (aci + acn) / 14 * 14).toNatClampNeg) q3) 14) := hD
    refine lv_goto (tgt := 56) hx hb dX0_remember_40 (by decide) ?_
    obtain rfl := Option.some.inj h
    rw [hQ]; exact ct_vret hx hb hr hlocks hP hS rfl dX0_remember_56

def tw_X0_takeBack (acf : Nat → SpS) (aci : Int32) (acn : Int32) (sp : SpS) : Option (Int32 × Int32 × SpS) :=
  if acn = 0 then (some ((-3), acn, sp)) else (if ix ((aci + (acn - 1)) - (aci + (acn - 1)) / 14 * 14) 14 = true then ((tw_X4_take sp (acf (((aci + (acn - 1)) - (aci + (acn - 1)) / 14 * 14).toNatClampNeg))).bind (fun q4 => some (acn - 1, acn - 1, q4))) else none)
set_option maxHeartbeats 4000000 in
set_option maxRecDepth 100000 in
theorem c_X0_takeBack (l : Launch) (D : va_G) (cy : Cy) (acfH : Nat → Nat) (acfB : Nat → Nat) (ach : Nat) (acr : Nat) (sph : Nat) (spa : Nat) (acf : Nat → SpS) (aci : Int32) (acn : Int32) (sp : SpS) (res : Int32 × Int32 × SpS) (h : tw_X0_takeBack acf aci acn sp = some res) : Ct l yX0_takeBack wsX0_takeBack 1 22 D cy [.ref ach, .ref sph] ((cAc ach acr acfH cy.2.2.2.1 aci acn ++ (cSp sph spa cy.1 sp)) ++ cSps acfH acfB cy.1 acf 14) ((cAc ach acr acfH cy.2.2.2.1 aci res.2.1 ++ (cSp sph spa cy.1 res.2.2)) ++ cSps acfH acfB cy.1 acf 14) (some (.int res.1)) := by
  refine Ct.ofW (cc := cX0_takeBack) (maxL := 2) (ret := (some .int)) (by decide) rfl (Nat.le_of_ble_eq_true rfl) ?_
  intro p e R s m args below meth c A Q ls hRf hRl hQ hx hb hr hml hts hown hlocks hE hP hD hS hA hl
  have hiX0 : ∀ w ∈ u_ws RX0 TX0 3, w ∈ wsX0_takeBack := by decide +kernel
  have hl : lv_has ls 2 [(0, .ref ach), (1, .ref sph)] := hl
  rw [tw_X0_takeBack] at h
  refine lv_aload_n hx hb dX0_takeBack_0 rfl (lv_at hl 0 rfl) ?_
  refine va_get (D := D) (ci := 0) (v := .int acn) (C := RX0) (T := TX0) (N := 3) hx hb hts hiX0 hown hE.1 hP 0 rfl rfl 2 (by decide) (hts (.fieldLink RX0 22 "TiltTray$Acts" "many" "I") (by decide +kernel)) (fun _ h9 => h9) rfl dX0_takeBack_1 ?_
  refine lv_if_ne (tgt := 10) hx hb dX0_takeBack_4 (by decide) (fun c1 => ?_) (fun c1 => ?_)
  · have h := oif h c1
    refine lv_aload_n hx hb dX0_takeBack_10 rfl (lv_at hl 0 rfl) ?_
    refine lv_dup hx hb dX0_takeBack_11 rfl ?_
    refine va_get (D := D) (ci := 0) (v := .int acn) (C := RX0) (T := TX0) (N := 3) hx hb hts hiX0 hown hE.1 hP 0 rfl rfl 2 (by decide) (hts (.fieldLink RX0 22 "TiltTray$Acts" "many" "I") (by decide +kernel)) (fun _ h9 => h9) rfl dX0_takeBack_12 ?_
    refine lv_iconst (v := 1) hx hb dX0_takeBack_15 (by decide) ?_
    refine lv_isub hx hb dX0_takeBack_16 ?_
    refine va_put (D := D) (ci := 0) (v := .int (acn - 1)) (ty := .int) (C := RX0) (T := TX0) (N := 3) hx hb hts hiX0 tyX0 tyX0_ok nmX0 hown hE.1 hP hD hS 0 rfl rfl 2 (by decide) (hts (.fieldLink RX0 22 "TiltTray$Acts" "many" "I") (by decide +kernel)) (fun _ h9 => h9) rfl (by decide +kernel) rfl rfl (Nat.le_of_ble_eq_true rfl) dX0_takeBack_17 (fun H locs hP hD hS => ?_)
    have hP : va_P D vwCl ((cAc ach acr acfH cy.2.2.2.1 aci (acn - 1) ++ (cSp sph spa cy.1 sp)) ++ cSps acfH acfB cy.1 acf 14) H := hP
    have hD : va_D A ((cAc ach acr acfH cy.2.2.2.1 aci (acn - 1) ++ (cSp sph spa cy.1 sp)) ++ cSps acfH acfB cy.1 acf 14) := hD
    refine lv_aload_n hx hb dX0_takeBack_20 rfl (lv_at hl 1 rfl) ?_
    refine lv_aload_n hx hb dX0_takeBack_21 rfl (lv_at hl 0 rfl) ?_
    refine va_get (D := D) (ci := 0) (v := .ref acr) (C := RX0) (T := TX0) (N := 3) hx hb hts hiX0 hown hE.1 hP 0 rfl rfl 0 (by decide) (hts (.fieldLink RX0 11 "TiltTray$Acts" "ahead" "[LTiltTray$Spot;") (by decide +kernel)) (fun _ h9 => h9) rfl dX0_takeBack_22 ?_
    refine lv_aload_n hx hb dX0_takeBack_25 rfl (lv_at hl 0 rfl) ?_
    refine va_get (D := D) (ci := 0) (v := .int aci) (C := RX0) (T := TX0) (N := 3) hx hb hts hiX0 hown hE.1 hP 0 rfl rfl 1 (by decide) (hts (.fieldLink RX0 18 "TiltTray$Acts" "first" "I") (by decide +kernel)) (fun _ h9 => h9) rfl dX0_takeBack_26 ?_
    refine lv_aload_n hx hb dX0_takeBack_29 rfl (lv_at hl 0 rfl) ?_
    refine va_get (D := D) (ci := 0) (v := .int (acn - 1)) (C := RX0) (T := TX0) (N := 3) hx hb hts hiX0 hown hE.1 hP 0 rfl rfl 2 (by decide) (hts (.fieldLink RX0 22 "TiltTray$Acts" "many" "I") (by decide +kernel)) (fun _ h9 => h9) rfl dX0_takeBack_30 ?_
    refine lv_iadd hx hb dX0_takeBack_33 ?_
    refine lv_bipush (v := 14) hx hb dX0_takeBack_34 (by decide) ?_
    refine lv_irem hx hb dX0_takeBack_36 (by decide) ?_
    obtain ⟨g2, h⟩ := og h
    refine va_aldq hx hb hE.1 hP 1 3 rfl rfl (ix_in g2) dX0_takeBack_37 ?_
    have j3 : ((aci + (acn - 1)) - (aci + (acn - 1)) / 14 * 14).toNatClampNeg < 14 := ix_lt g2
    refine W.eq (g2 := F0 m 38 ls [.ref (acfH (((aci + (acn - 1)) - (aci + (acn - 1)) / 14 * 14).toNatClampNeg)), .ref sph]) rfl ?_
    obtain ⟨q4, hq4, h⟩ := ob h
    refine kV (As := [.ref (acfH (((aci + (acn - 1)) - (aci + (acn - 1)) / 14 * 14).toNatClampNeg))]) (rest := []) (w2 := (cAc ach acr acfH cy.2.2.2.1 aci (acn - 1) ++ (cSp sph spa cy.1 q4)) ++ cSps acfH acfB cy.1 acf 14) (n := 1) (q0 := 2) ⟨hx, hb, hml, hown, hts⟩ (c_X4_take l D cy sph spa (acfH (((aci + (acn - 1)) - (aci + (acn - 1)) / 14 * 14).toNatClampNeg)) (acfB (((aci + (acn - 1)) - (aci + (acn - 1)) / 14 * 14).toNatClampNeg)) sp (acf (((aci + (acn - 1)) - (aci + (acn - 1)) / 14 * 14).toNatClampNeg)) q4 hq4) gX0_takeBack_X4_take rfl (by decide +kernel) ⟨by rw [hRf]; exact Nat.le_of_ble_eq_true rfl, by rw [hRl]; exact Nat.le_of_ble_eq_true rfl⟩ hE hP hD hS hA [2, 3, 4 + 2 * (((aci + (acn - 1)) - (aci + (acn - 1)) / 14 * 14).toNatClampNeg), 4 + 2 * (((aci + (acn - 1)) - (aci + (acn - 1)) / 14 * 14).toNatClampNeg) + 1] (by simp [va_nd]; try omega) (cC rfl (cC rfl (cC (pl0 rfl j3) (cC (pl1 rfl j3) rfl)))) rfl (Eq.trans (b := ups ((cAc ach acr acfH cy.2.2.2.1 aci (acn - 1) ++ (cSp sph spa cy.1 q4)) ++ cSps acfH acfB cy.1 acf 14) ([4 + 2 * (((aci + (acn - 1)) - (aci + (acn - 1)) / 14 * 14).toNatClampNeg), 4 + 2 * (((aci + (acn - 1)) - (aci + (acn - 1)) / 14 * 14).toNatClampNeg) + 1]) (cSp (acfH (((aci + (acn - 1)) - (aci + (acn - 1)) / 14 * 14).toNatClampNeg)) (acfB (((aci + (acn - 1)) - (aci + (acn - 1)) / 14 * 14).toNatClampNeg)) cy.1 (acf (((aci + (acn - 1)) - (aci + (acn - 1)) / 14 * 14).toNatClampNeg)) ++ (([] : va_W)))) rfl (Eq.trans (b := ups ((cAc ach acr acfH cy.2.2.2.1 aci (acn - 1) ++ (cSp sph spa cy.1 q4)) ++ cSps acfH acfB cy.1 acf 14) ([]) (([] : va_W))) (ups_poolS rfl j3) rfl)) rfl rfl rfl hl.1 rfl (Nat.le_of_ble_eq_true rfl) dX0_takeBack_38 ⟨Nat.zero_le _, Nat.zero_le _⟩ (fun H locs hP hD hS => ?_)
    refine lv_aload_n hx hb dX0_takeBack_41 rfl (lv_at hl 0 rfl) ?_
    refine va_get (D := D) (ci := 0) (v := .int (acn - 1)) (C := RX0) (T := TX0) (N := 3) hx hb hts hiX0 hown hE.1 hP 0 rfl rfl 2 (by decide) (hts (.fieldLink RX0 22 "TiltTray$Acts" "many" "I") (by decide +kernel)) (fun _ h9 => h9) rfl dX0_takeBack_42 ?_
    obtain rfl := Option.some.inj h
    rw [hQ]; exact ct_iret hx hb hr hlocks hP hS rfl dX0_takeBack_45
  · have h := oit h c1
    refine lv_bipush (v := (-3)) hx hb dX0_takeBack_7 (by decide) ?_
    obtain rfl := Option.some.inj h
    rw [hQ]; exact ct_iret hx hb hr hlocks hP hS rfl dX0_takeBack_9
