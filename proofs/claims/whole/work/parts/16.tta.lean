def tw_X6_write (tx : Nat → Int32) (x_let : Int32) (p1 : Int32) : Option (Int32 × (Nat → Int32) × Int32) :=
  if p1 < 0 then (some ((-2), tx, x_let)) else (if p1 ≤ 255 then (if x_let < 48 then (if ix x_let 48 = true then (some (x_let + 1, upd tx x_let.toNatClampNeg (vp_nar .char ((p1.toUInt32 % 65536).toInt32)), x_let + 1)) else none) else (some ((-4), tx, x_let))) else (some ((-2), tx, x_let)))
set_option maxHeartbeats 4000000 in
set_option maxRecDepth 100000 in
theorem c_X6_write (l : Launch) (D : va_G) (cy : Cy) (xh : Nat) (txr : Nat) (x_now : Nat) (x_spare : Nat) (x_acts : Nat) (x_slots : Nat) (x_sights : Nat) (x_search : Nat) (x_pairs : Nat) (x_worth : Nat) (x_tray : Nat) (x_draft : Nat) (tx : Nat → Int32) (x_let : Int32) (x_kept : Int32) (x_seed : Int64) (p1 : Int32) (res : Int32 × (Nat → Int32) × Int32) (h : tw_X6_write tx x_let p1 = some res) : Ct l yX6_write wsX6_write 0 0 D cy [.ref xh, .int p1] (cTT xh txr x_now x_spare x_acts x_slots x_sights x_search x_pairs x_worth x_tray x_draft x_let x_kept x_seed ++ ([(txr, .inl (cy.2.1, 48, .inl tx))])) (cTT xh txr x_now x_spare x_acts x_slots x_sights x_search x_pairs x_worth x_tray x_draft res.2.2 x_kept x_seed ++ ([(txr, .inl (cy.2.1, 48, .inl res.2.1))])) (some (.int res.1)) := by
  refine Ct.ofW (cc := cX6_write) (maxL := 2) (ret := (some .int)) (by decide) rfl (Nat.le_of_ble_eq_true rfl) ?_
  intro p e R s m args below meth c A Q ls hRf hRl hQ hx hb hr hml hts hown hlocks hE hP hD hS hA hl
  have hiX6 : ∀ w ∈ u_ws RX6 TX6 14, w ∈ wsX6_write := by decide +kernel
  have hl : lv_has ls 2 [(0, .ref xh), (1, .int p1)] := hl
  rw [tw_X6_write] at h
  refine lv_iload_n hx hb dX6_write_0 rfl (lv_at hl 1 rfl) ?_
  refine lv_if_lt (tgt := 11) hx hb dX6_write_1 (by decide) (fun c1 => ?_) (fun c1 => ?_)
  · have h := oit h c1
    refine lv_bipush (v := (-2)) hx hb dX6_write_11 (by decide) ?_
    obtain rfl := Option.some.inj h
    rw [hQ]; exact ct_iret hx hb hr hlocks hP hS rfl dX6_write_13
  · have h := oif h c1
    refine lv_iload_n hx hb dX6_write_4 rfl (lv_at hl 1 rfl) ?_
    refine lv_sipush (v := 255) hx hb dX6_write_5 (by decide) ?_
    refine lv_icmp_le (tgt := 14) hx hb dX6_write_8 (by decide) (fun c2 => ?_) (fun c2 => ?_)
    · have h := oit h c2
      refine lv_aload_n hx hb dX6_write_14 rfl (lv_at hl 0 rfl) ?_
      refine va_get (D := D) (ci := 6) (v := .int x_let) (C := RX6) (T := TX6) (N := 14) hx hb hts hiX6 hown hE.1 hP 0 rfl rfl 1 (by decide) (hts (.fieldLink RX6 69 "TiltTray" "letters" "I") (by decide +kernel)) (fun _ h9 => h9) rfl dX6_write_15 ?_
      refine lv_bipush (v := 48) hx hb dX6_write_18 (by decide) ?_
      refine lv_icmp_lt (tgt := 26) hx hb dX6_write_20 (by decide) (fun c3 => ?_) (fun c3 => ?_)
      · have h := oit h c3
        refine lv_aload_n hx hb dX6_write_26 rfl (lv_at hl 0 rfl) ?_
        refine va_get (D := D) (ci := 6) (v := .ref txr) (C := RX6) (T := TX6) (N := 14) hx hb hts hiX6 hown hE.1 hP 0 rfl rfl 0 (by decide) (hts (.fieldLink RX6 9 "TiltTray" "text" "[C") (by decide +kernel)) (fun _ h9 => h9) rfl dX6_write_27 ?_
        refine lv_aload_n hx hb dX6_write_30 rfl (lv_at hl 0 rfl) ?_
        refine va_get (D := D) (ci := 6) (v := .int x_let) (C := RX6) (T := TX6) (N := 14) hx hb hts hiX6 hown hE.1 hP 0 rfl rfl 1 (by decide) (hts (.fieldLink RX6 69 "TiltTray" "letters" "I") (by decide +kernel)) (fun _ h9 => h9) rfl dX6_write_31 ?_
        refine lv_iload_n hx hb dX6_write_34 rfl (lv_at hl 1 rfl) ?_
        refine lv_i2c hx hb dX6_write_35 rfl ?_
        obtain ⟨g4, h⟩ := og h
        refine va_cast hx hb hE.1 hP hD hS 1 1 rfl rfl (ix_in g4) dX6_write_36 (fun H locs hP hD hS => ?_)
        have hP : va_P D vwCl (cTT xh txr x_now x_spare x_acts x_slots x_sights x_search x_pairs x_worth x_tray x_draft x_let x_kept x_seed ++ ([(txr, .inl (cy.2.1, 48, .inl (upd tx x_let.toNatClampNeg (vp_nar .char ((p1.toUInt32 % 65536).toInt32)))))])) H := hP
        have hD : va_D A (cTT xh txr x_now x_spare x_acts x_slots x_sights x_search x_pairs x_worth x_tray x_draft x_let x_kept x_seed ++ ([(txr, .inl (cy.2.1, 48, .inl (upd tx x_let.toNatClampNeg (vp_nar .char ((p1.toUInt32 % 65536).toInt32)))))])) := hD
        refine lv_aload_n hx hb dX6_write_37 rfl (lv_at hl 0 rfl) ?_
        refine lv_dup hx hb dX6_write_38 rfl ?_
        refine va_get (D := D) (ci := 6) (v := .int x_let) (C := RX6) (T := TX6) (N := 14) hx hb hts hiX6 hown hE.1 hP 0 rfl rfl 1 (by decide) (hts (.fieldLink RX6 69 "TiltTray" "letters" "I") (by decide +kernel)) (fun _ h9 => h9) rfl dX6_write_39 ?_
        refine lv_iconst (v := 1) hx hb dX6_write_42 (by decide) ?_
        refine lv_iadd hx hb dX6_write_43 ?_
        refine va_put (D := D) (ci := 6) (v := .int (x_let + 1)) (ty := .int) (C := RX6) (T := TX6) (N := 14) hx hb hts hiX6 tyX6 tyX6_ok nmX6 hown hE.1 hP hD hS 0 rfl rfl 1 (by decide) (hts (.fieldLink RX6 69 "TiltTray" "letters" "I") (by decide +kernel)) (fun _ h9 => h9) rfl (by decide +kernel) rfl rfl (Nat.le_of_ble_eq_true rfl) dX6_write_44 (fun H locs hP hD hS => ?_)
        have hP : va_P D vwCl (cTT xh txr x_now x_spare x_acts x_slots x_sights x_search x_pairs x_worth x_tray x_draft (x_let + 1) x_kept x_seed ++ ([(txr, .inl (cy.2.1, 48, .inl (upd tx x_let.toNatClampNeg (vp_nar .char ((p1.toUInt32 % 65536).toInt32)))))])) H := hP
        have hD : va_D A (cTT xh txr x_now x_spare x_acts x_slots x_sights x_search x_pairs x_worth x_tray x_draft (x_let + 1) x_kept x_seed ++ ([(txr, .inl (cy.2.1, 48, .inl (upd tx x_let.toNatClampNeg (vp_nar .char ((p1.toUInt32 % 65536).toInt32)))))])) := hD
        refine lv_aload_n hx hb dX6_write_47 rfl (lv_at hl 0 rfl) ?_
        refine va_get (D := D) (ci := 6) (v := .int (x_let + 1)) (C := RX6) (T := TX6) (N := 14) hx hb hts hiX6 hown hE.1 hP 0 rfl rfl 1 (by decide) (hts (.fieldLink RX6 69 "TiltTray" "letters" "I") (by decide +kernel)) (fun _ h9 => h9) rfl dX6_write_48 ?_
        obtain rfl := Option.some.inj h
        rw [hQ]; exact ct_iret hx hb hr hlocks hP hS rfl dX6_write_51
      · have h := oif h c3
        refine lv_bipush (v := (-4)) hx hb dX6_write_23 (by decide) ?_
        obtain rfl := Option.some.inj h
        rw [hQ]; exact ct_iret hx hb hr hlocks hP hS rfl dX6_write_25
    · have h := oif h c2
      refine lv_bipush (v := (-2)) hx hb dX6_write_11 (by decide) ?_
      obtain rfl := Option.some.inj h
      rw [hQ]; exact ct_iret hx hb hr hlocks hP hS rfl dX6_write_13

def tw_X6_wipe (x_let : Int32) : Option (Int32 × Int32) :=
  some (x_let, 0)
set_option maxHeartbeats 4000000 in
set_option maxRecDepth 100000 in
theorem c_X6_wipe (l : Launch) (D : va_G) (cy : Cy) (xh : Nat) (x_text : Nat) (x_now : Nat) (x_spare : Nat) (x_acts : Nat) (x_slots : Nat) (x_sights : Nat) (x_search : Nat) (x_pairs : Nat) (x_worth : Nat) (x_tray : Nat) (x_draft : Nat) (x_let : Int32) (x_kept : Int32) (x_seed : Int64) (res : Int32 × Int32) (h : tw_X6_wipe x_let = some res) : Ct l yX6_wipe wsX6_wipe 0 0 D cy [.ref xh] (cTT xh x_text x_now x_spare x_acts x_slots x_sights x_search x_pairs x_worth x_tray x_draft x_let x_kept x_seed) (cTT xh x_text x_now x_spare x_acts x_slots x_sights x_search x_pairs x_worth x_tray x_draft res.2 x_kept x_seed) (some (.int res.1)) := by
  refine Ct.ofW (cc := cX6_wipe) (maxL := 2) (ret := (some .int)) (by decide) rfl (Nat.le_of_ble_eq_true rfl) ?_
  intro p e R s m args below meth c A Q ls hRf hRl hQ hx hb hr hml hts hown hlocks hE hP hD hS hA hl
  have hiX6 : ∀ w ∈ u_ws RX6 TX6 14, w ∈ wsX6_wipe := by decide +kernel
  have hl : lv_has ls 2 [(0, .ref xh)] := hl
  rw [tw_X6_wipe] at h
  refine lv_aload_n hx hb dX6_wipe_0 rfl (lv_at hl 0 rfl) ?_
  refine va_get (D := D) (ci := 6) (v := .int x_let) (C := RX6) (T := TX6) (N := 14) hx hb hts hiX6 hown hE.1 hP 0 rfl rfl 1 (by decide) (hts (.fieldLink RX6 69 "TiltTray" "letters" "I") (by decide +kernel)) (fun _ h9 => h9) rfl dX6_wipe_1 ?_
  refine lv_istore_n (lv' := [(1, .int x_let), (0, .ref xh)]) hx hb dX6_wipe_4 rfl hl (by decide) rfl (fun ls hl => ?_)
  refine lv_aload_n hx hb dX6_wipe_5 rfl (lv_at hl 1 rfl) ?_
  refine lv_iconst (v := 0) hx hb dX6_wipe_6 (by decide) ?_
  refine va_put (D := D) (ci := 6) (v := .int 0) (ty := .int) (C := RX6) (T := TX6) (N := 14) hx hb hts hiX6 tyX6 tyX6_ok nmX6 hown hE.1 hP hD hS 0 rfl rfl 1 (by decide) (hts (.fieldLink RX6 69 "TiltTray" "letters" "I") (by decide +kernel)) (fun _ h9 => h9) rfl (by decide +kernel) rfl rfl (Nat.le_of_ble_eq_true rfl) dX6_wipe_7 (fun H locs hP hD hS => ?_)
  have hP : va_P D vwCl (cTT xh x_text x_now x_spare x_acts x_slots x_sights x_search x_pairs x_worth x_tray x_draft 0 x_kept x_seed) H := hP
  have hD : va_D A (cTT xh x_text x_now x_spare x_acts x_slots x_sights x_search x_pairs x_worth x_tray x_draft 0 x_kept x_seed) := hD
  refine lv_iload_n hx hb dX6_wipe_10 rfl (lv_at hl 0 rfl) ?_
  obtain rfl := Option.some.inj h
  rw [hQ]; exact ct_iret hx hb hr hlocks hP hS rfl dX6_wipe_11

def tw_X6_readPart_91 (tx : Nat → Int32) (x_let : Int32) (p1 : Int32) (p2 : Int32) (p3 : Int32) (x4 : Int32) (x5 : Int32) (df : TrS) : Option (Int32 × TrS) :=
  (tw_X5_tell df p1 x4 x5).bind (fun q1 => some ((-9), q1))
def tw_X6_readPart (tx : Nat → Int32) (df : TrS) (x_let : Int32) (p1 : Int32) (p2 : Int32) (p3 : Int32) : Option (Int32 × TrS) :=
  if p2 < x_let then (if ix p2 48 = true then ((tw_X6_isCell ((tx p2.toNatClampNeg) - 97)).bind (fun q4 => if q4 = 0 then (some (p2, df)) else ((tw_X5_isUntold df ((tx p2.toNatClampNeg) - 97)).bind (fun q6 => if q6 = 0 then (some (p2, df)) else (if p3 ≤ p2 then (tw_X6_readPart_91 tx x_let p1 p2 p3 ((tx p2.toNatClampNeg) - 97) 0 df) else (if p3 < x_let then (if ix p3 48 = true then (if ((tx p3.toNatClampNeg) - 48) < 0 then (some (p3, df)) else (if ((tx p3.toNatClampNeg) - 48) < 4 then (tw_X6_readPart_91 tx x_let p1 p2 p3 ((tx p2.toNatClampNeg) - 97) ((tx p3.toNatClampNeg) - 48) df) else (some (p3, df)))) else none) else (some (x_let, df)))))))) else none) else (some (x_let, df))
set_option maxHeartbeats 4000000 in
set_option maxRecDepth 100000 in
theorem c_X6_readPart (l : Launch) (D : va_G) (cy : Cy) (xh : Nat) (txr : Nat) (x_now : Nat) (x_spare : Nat) (x_acts : Nat) (x_slots : Nat) (x_sights : Nat) (x_search : Nat) (x_pairs : Nat) (x_worth : Nat) (x_tray : Nat) (x_draft : Nat) (dfa : Nat) (dfb : Nat) (dfc : Nat) (tx : Nat → Int32) (df : TrS) (x_let : Int32) (x_kept : Int32) (x_seed : Int64) (p1 : Int32) (p2 : Int32) (p3 : Int32) (res : Int32 × TrS) (h : tw_X6_readPart tx df x_let p1 p2 p3 = some res) : Ct l yX6_readPart wsX6_readPart 3 67 D cy [.ref xh, .int p1, .int p2, .int p3] (cTT xh txr x_now x_spare x_acts x_slots x_sights x_search x_pairs x_worth x_tray x_draft x_let x_kept x_seed ++ ([(txr, .inl (cy.2.1, 48, .inl tx))] ++ (cTr x_draft dfa dfb dfc cy.1 df))) (cTT xh txr x_now x_spare x_acts x_slots x_sights x_search x_pairs x_worth x_tray x_draft x_let x_kept x_seed ++ ([(txr, .inl (cy.2.1, 48, .inl tx))] ++ (cTr x_draft dfa dfb dfc cy.1 res.2))) (some (.int res.1)) := by
  refine Ct.ofW (cc := cX6_readPart) (maxL := 6) (ret := (some .int)) (by decide) rfl (Nat.le_of_ble_eq_true rfl) ?_
  intro p e R s m args below meth c A Q ls hRf hRl hQ hx hb hr hml hts hown hlocks hE hP hD hS hA hl
  have hiX6 : ∀ w ∈ u_ws RX6 TX6 14, w ∈ wsX6_readPart := by decide +kernel
  have hl : lv_has ls 6 [(0, .ref xh), (1, .int p1), (2, .int p2), (3, .int p3)] := hl
  rw [tw_X6_readPart] at h
  have L91 : ∀ (x4 : Int32) (x5 : Int32) (df : TrS)  (H : Heap) (locs : List Loc) (ls : Array Slot), lv_has ls 6 [(0, .ref xh), (1, .int p1), (4, .int x4), (5, .int x5)] → va_P D vwCl (cTT xh txr x_now x_spare x_acts x_slots x_sights x_search x_pairs x_worth x_tray x_draft x_let x_kept x_seed ++ ([(txr, .inl (cy.2.1, 48, .inl tx))] ++ (cTr x_draft dfa dfb dfc cy.1 df))) H → va_D A (cTT xh txr x_now x_spare x_acts x_slots x_sights x_search x_pairs x_worth x_tray x_draft x_let x_kept x_seed ++ ([(txr, .inl (cy.2.1, 48, .inl tx))] ++ (cTr x_draft dfa dfb dfc cy.1 df))) → va_S A s.heap H locs → tw_X6_readPart_91 tx x_let p1 p2 p3 x4 x5 df = some res → W p l e R s m args below meth c H locs 0 0 Q (F0 m 91 ls []) := by
    intro x4 x5 df  H locs ls hl hP hD hS h
    rw [tw_X6_readPart_91] at h
    refine lv_aload_n hx hb dX6_readPart_91 rfl (lv_at hl 0 rfl) ?_
    refine va_get (D := D) (ci := 6) (v := .ref x_draft) (C := RX6) (T := TX6) (N := 14) hx hb hts hiX6 hown hE.1 hP 0 rfl rfl 3 (by decide) (hts (.fieldLink RX6 20 "TiltTray" "draft" "LTiltTray$Tray;") (by decide +kernel)) (fun _ h9 => h9) rfl dX6_readPart_92 ?_
    refine lv_iload_n hx hb dX6_readPart_95 rfl (lv_at hl 1 rfl) ?_
    refine lv_iload hx hb dX6_readPart_96 (lv_at hl 2 rfl) ?_
    refine lv_iload hx hb dX6_readPart_98 (lv_at hl 3 rfl) ?_
    obtain ⟨q1, hq1, h⟩ := ob h
    refine kV (As := [.int p1, .int x4, .int x5]) (rest := []) (w2 := cTT xh txr x_now x_spare x_acts x_slots x_sights x_search x_pairs x_worth x_tray x_draft x_let x_kept x_seed ++ ([(txr, .inl (cy.2.1, 48, .inl tx))] ++ (cTr x_draft dfa dfb dfc cy.1 q1))) (n := 3) (q0 := 2) ⟨hx, hb, hml, hown, hts⟩ (c_X5_tell l D cy x_draft dfa dfb dfc df p1 x4 x5 q1 hq1) gX6_readPart_X5_tell rfl (by decide +kernel) ⟨by rw [hRf]; exact Nat.le_of_ble_eq_true rfl, by rw [hRl]; exact Nat.le_of_ble_eq_true rfl⟩ hE hP hD hS hA [2, 3, 4, 5] rfl rfl rfl rfl rfl rfl rfl hl.1 rfl (Nat.le_of_ble_eq_true rfl) dX6_readPart_100 ⟨Nat.zero_le _, Nat.zero_le _⟩ (fun H locs hP hD hS => ?_)
    refine lv_bipush (v := (-9)) hx hb dX6_readPart_103 (by decide) ?_
    obtain rfl := Option.some.inj h
    rw [hQ]; exact ct_iret hx hb hr hlocks hP hS rfl dX6_readPart_105
  refine lv_iload_n hx hb dX6_readPart_0 rfl (lv_at hl 2 rfl) ?_
  refine lv_aload_n hx hb dX6_readPart_1 rfl (lv_at hl 0 rfl) ?_
  refine va_get (D := D) (ci := 6) (v := .int x_let) (C := RX6) (T := TX6) (N := 14) hx hb hts hiX6 hown hE.1 hP 0 rfl rfl 1 (by decide) (hts (.fieldLink RX6 69 "TiltTray" "letters" "I") (by decide +kernel)) (fun _ h9 => h9) rfl dX6_readPart_2 ?_
  refine lv_icmp_lt (tgt := 13) hx hb dX6_readPart_5 (by decide) (fun c2 => ?_) (fun c2 => ?_)
  · have h := oit h c2
    refine lv_aload_n hx hb dX6_readPart_13 rfl (lv_at hl 0 rfl) ?_
    refine va_get (D := D) (ci := 6) (v := .ref txr) (C := RX6) (T := TX6) (N := 14) hx hb hts hiX6 hown hE.1 hP 0 rfl rfl 0 (by decide) (hts (.fieldLink RX6 9 "TiltTray" "text" "[C") (by decide +kernel)) (fun _ h9 => h9) rfl dX6_readPart_14 ?_
    refine lv_iload_n hx hb dX6_readPart_17 rfl (lv_at hl 2 rfl) ?_
    obtain ⟨g3, h⟩ := og h
    refine va_cald hx hb hE.1 hP 1 1 rfl rfl (ix_in g3) dX6_readPart_18 ?_
    refine lv_bipush (v := 97) hx hb dX6_readPart_19 (by decide) ?_
    refine lv_isub hx hb dX6_readPart_21 ?_
    refine lv_istore (lv' := [(4, .int ((tx p2.toNatClampNeg) - 97)), (0, .ref xh), (1, .int p1), (2, .int p2), (3, .int p3)]) hx hb dX6_readPart_22 hl (by decide) rfl (fun ls hl => ?_)
    refine lv_iload hx hb dX6_readPart_24 (lv_at hl 0 rfl) ?_
    obtain ⟨q4, hq4, h⟩ := ob h
    refine kS (As := [.int ((tx p2.toNatClampNeg) - 97)]) (rest := []) (w2 := cTT xh txr x_now x_spare x_acts x_slots x_sights x_search x_pairs x_worth x_tray x_draft x_let x_kept x_seed ++ ([(txr, .inl (cy.2.1, 48, .inl tx))] ++ (cTr x_draft dfa dfb dfc cy.1 df))) (n := 1) ⟨hx, hb, hml, hown, hts⟩ (c_X6_isCell l D cy ((tx p2.toNatClampNeg) - 97) q4 hq4) gX6_readPart_X6_isCell rfl (by decide +kernel) ⟨by rw [hRf]; exact Nat.le_of_ble_eq_true rfl, by rw [hRl]; exact Nat.le_of_ble_eq_true rfl⟩ hE hP hD hS hA [] rfl rfl rfl rfl rfl hl.1 rfl (Nat.le_of_ble_eq_true rfl) dX6_readPart_26 ⟨Nat.zero_le _, Nat.zero_le _⟩ (fun H locs hP hD hS => ?_)
    refine lv_if_eq (tgt := 44) hx hb dX6_readPart_29 (by decide) (fun c5 => ?_) (fun c5 => ?_)
    · have h := oit h c5
      refine lv_iload_n hx hb dX6_readPart_44 rfl (lv_at hl 3 rfl) ?_
      obtain rfl := Option.some.inj h
      rw [hQ]; exact ct_iret hx hb hr hlocks hP hS rfl dX6_readPart_45
    · have h := oif h c5
      refine lv_aload_n hx hb dX6_readPart_32 rfl (lv_at hl 1 rfl) ?_
      refine va_get (D := D) (ci := 6) (v := .ref x_draft) (C := RX6) (T := TX6) (N := 14) hx hb hts hiX6 hown hE.1 hP 0 rfl rfl 3 (by decide) (hts (.fieldLink RX6 20 "TiltTray" "draft" "LTiltTray$Tray;") (by decide +kernel)) (fun _ h9 => h9) rfl dX6_readPart_33 ?_
      refine lv_iload hx hb dX6_readPart_36 (lv_at hl 0 rfl) ?_
      obtain ⟨q6, hq6, h⟩ := ob h
      refine kV (As := [.int ((tx p2.toNatClampNeg) - 97)]) (rest := []) (w2 := cTT xh txr x_now x_spare x_acts x_slots x_sights x_search x_pairs x_worth x_tray x_draft x_let x_kept x_seed ++ ([(txr, .inl (cy.2.1, 48, .inl tx))] ++ (cTr x_draft dfa dfb dfc cy.1 df))) (n := 1) (q0 := 2) ⟨hx, hb, hml, hown, hts⟩ (c_X5_isUntold l D cy x_draft dfa dfb dfc df ((tx p2.toNatClampNeg) - 97) q6 hq6) gX6_readPart_X5_isUntold rfl (by decide +kernel) ⟨by rw [hRf]; exact Nat.le_of_ble_eq_true rfl, by rw [hRl]; exact Nat.le_of_ble_eq_true rfl⟩ hE hP hD hS hA [2, 3, 4, 5] rfl rfl rfl rfl rfl rfl rfl hl.1 rfl (Nat.le_of_ble_eq_true rfl) dX6_readPart_38 ⟨Nat.zero_le _, Nat.zero_le _⟩ (fun H locs hP hD hS => ?_)
      refine lv_if_ne (tgt := 46) hx hb dX6_readPart_41 (by decide) (fun c7 => ?_) (fun c7 => ?_)
      · have h := oif h c7
        refine lv_iconst (v := 0) hx hb dX6_readPart_46 (by decide) ?_
        refine lv_istore (lv' := [(5, .int 0), (4, .int ((tx p2.toNatClampNeg) - 97)), (0, .ref xh), (1, .int p1), (2, .int p2), (3, .int p3)]) hx hb dX6_readPart_47 hl (by decide) rfl (fun ls hl => ?_)
        refine lv_iload_n hx hb dX6_readPart_49 rfl (lv_at hl 5 rfl) ?_
        refine lv_iload_n hx hb dX6_readPart_50 rfl (lv_at hl 4 rfl) ?_
        refine lv_icmp_le (tgt := 91) hx hb dX6_readPart_51 (by decide) (fun c8 => ?_) (fun c8 => ?_)
        · have h := oit h c8
          exact L91 ((tx p2.toNatClampNeg) - 97) 0 df _ _ _ (lv_sub hl [2, 3, 1, 0] rfl) hP hD hS h
        · have h := oif h c8
          refine lv_iload_n hx hb dX6_readPart_54 rfl (lv_at hl 5 rfl) ?_
          refine lv_aload_n hx hb dX6_readPart_55 rfl (lv_at hl 2 rfl) ?_
          refine va_get (D := D) (ci := 6) (v := .int x_let) (C := RX6) (T := TX6) (N := 14) hx hb hts hiX6 hown hE.1 hP 0 rfl rfl 1 (by decide) (hts (.fieldLink RX6 69 "TiltTray" "letters" "I") (by decide +kernel)) (fun _ h9 => h9) rfl dX6_readPart_56 ?_
          refine lv_icmp_lt (tgt := 67) hx hb dX6_readPart_59 (by decide) (fun c9 => ?_) (fun c9 => ?_)
          · have h := oit h c9
            refine lv_aload_n hx hb dX6_readPart_67 rfl (lv_at hl 2 rfl) ?_
            refine va_get (D := D) (ci := 6) (v := .ref txr) (C := RX6) (T := TX6) (N := 14) hx hb hts hiX6 hown hE.1 hP 0 rfl rfl 0 (by decide) (hts (.fieldLink RX6 9 "TiltTray" "text" "[C") (by decide +kernel)) (fun _ h9 => h9) rfl dX6_readPart_68 ?_
            refine lv_iload_n hx hb dX6_readPart_71 rfl (lv_at hl 5 rfl) ?_
            obtain ⟨g10, h⟩ := og h
            refine va_cald hx hb hE.1 hP 1 1 rfl rfl (ix_in g10) dX6_readPart_72 ?_
            refine lv_bipush (v := 48) hx hb dX6_readPart_73 (by decide) ?_
            refine lv_isub hx hb dX6_readPart_75 ?_
            refine lv_istore (lv' := [(5, .int ((tx p3.toNatClampNeg) - 48)), (4, .int ((tx p2.toNatClampNeg) - 97)), (0, .ref xh), (1, .int p1), (2, .int p2), (3, .int p3)]) hx hb dX6_readPart_76 hl (by decide) rfl (fun ls hl => ?_)
            refine lv_iload hx hb dX6_readPart_78 (lv_at hl 0 rfl) ?_
            refine lv_if_lt (tgt := 89) hx hb dX6_readPart_80 (by decide) (fun c11 => ?_) (fun c11 => ?_)
            · have h := oit h c11
              refine lv_iload_n hx hb dX6_readPart_89 rfl (lv_at hl 5 rfl) ?_
              obtain rfl := Option.some.inj h
              rw [hQ]; exact ct_iret hx hb hr hlocks hP hS rfl dX6_readPart_90
            · have h := oif h c11
              refine lv_iload hx hb dX6_readPart_83 (lv_at hl 0 rfl) ?_
              refine lv_iconst (v := 4) hx hb dX6_readPart_85 (by decide) ?_
              refine lv_icmp_lt (tgt := 91) hx hb dX6_readPart_86 (by decide) (fun c12 => ?_) (fun c12 => ?_)
              · have h := oit h c12
                exact L91 ((tx p2.toNatClampNeg) - 97) ((tx p3.toNatClampNeg) - 48) df _ _ _ (lv_sub hl [2, 3, 1, 0] rfl) hP hD hS h
              · have h := oif h c12
                refine lv_iload_n hx hb dX6_readPart_89 rfl (lv_at hl 5 rfl) ?_
                obtain rfl := Option.some.inj h
                rw [hQ]; exact ct_iret hx hb hr hlocks hP hS rfl dX6_readPart_90
          · have h := oif h c9
            refine lv_aload_n hx hb dX6_readPart_62 rfl (lv_at hl 2 rfl) ?_
            refine va_get (D := D) (ci := 6) (v := .int x_let) (C := RX6) (T := TX6) (N := 14) hx hb hts hiX6 hown hE.1 hP 0 rfl rfl 1 (by decide) (hts (.fieldLink RX6 69 "TiltTray" "letters" "I") (by decide +kernel)) (fun _ h9 => h9) rfl dX6_readPart_63 ?_
            obtain rfl := Option.some.inj h
            rw [hQ]; exact ct_iret hx hb hr hlocks hP hS rfl dX6_readPart_66
      · have h := oit h c7
        refine lv_iload_n hx hb dX6_readPart_44 rfl (lv_at hl 3 rfl) ?_
        obtain rfl := Option.some.inj h
        rw [hQ]; exact ct_iret hx hb hr hlocks hP hS rfl dX6_readPart_45
  · have h := oif h c2
    refine lv_aload_n hx hb dX6_readPart_8 rfl (lv_at hl 0 rfl) ?_
    refine va_get (D := D) (ci := 6) (v := .int x_let) (C := RX6) (T := TX6) (N := 14) hx hb hts hiX6 hown hE.1 hP 0 rfl rfl 1 (by decide) (hts (.fieldLink RX6 69 "TiltTray" "letters" "I") (by decide +kernel)) (fun _ h9 => h9) rfl dX6_readPart_9 ?_
    obtain rfl := Option.some.inj h
    rw [hQ]; exact ct_iret hx hb hr hlocks hP hS rfl dX6_readPart_12

def tw_X6_readText_77 (tx : Nat → Int32) (x_let : Int32) (k29 : Int32 → TrS → Option (Int32 × TrS)) (x1 : Int32) (x2 : Int32) (z0 : Int32) (df : TrS) : Option (Int32 × TrS) :=
  (tw_X6_readPart tx df x_let x2 (x1 + 1) z0).bind (fun q1 => if q1.1 = (-9) then (k29 (z0 + 1) q1.2) else (some (q1.1, q1.2)))
def tw_X6_readText_29 (tx : Nat → Int32) (x_let : Int32) : Nat → Int32 → TrS → Option (Int32 × TrS)
  | 0, _, _ => none
  | n + 1, x1, df =>
    if x_let ≤ x1 then (some ((-9), df)) else (if ix x1 48 = true then ((tw_X6_partTold (tx x1.toNatClampNeg)).bind (fun q5 => if q5 < 0 then (some (x1, df)) else ((tw_X5_hasRoom df q5).bind (fun q7 => if q7 = 0 then (some (x1, df)) else (if q5 = 0 then (tw_X6_readText_77 tx x_let (tw_X6_readText_29 tx x_let n) x1 q5 (x1 + 2) df) else (tw_X6_readText_77 tx x_let (tw_X6_readText_29 tx x_let n) x1 q5 (x1 + 1) df)))))) else none)
def tw_X6_readText (tx : Nat → Int32) (df : TrS) (x_let : Int32) : Option (Int32 × TrS) :=
  (tw_X5_clear df).bind (fun q10 => if x_let = 0 then (some (0, q10)) else (if (tx (0 : Int32).toNatClampNeg) = 84 then (tw_X6_readText_29 tx x_let 60 1 q10) else (some (0, q10))))
set_option maxHeartbeats 4000000 in
set_option maxRecDepth 100000 in
theorem c_X6_readText (l : Launch) (D : va_G) (cy : Cy) (xh : Nat) (txr : Nat) (x_now : Nat) (x_spare : Nat) (x_acts : Nat) (x_slots : Nat) (x_sights : Nat) (x_search : Nat) (x_pairs : Nat) (x_worth : Nat) (x_tray : Nat) (x_draft : Nat) (dfa : Nat) (dfb : Nat) (dfc : Nat) (tx : Nat → Int32) (df : TrS) (x_let : Int32) (x_kept : Int32) (x_seed : Int64) (res : Int32 × TrS) (h : tw_X6_readText tx df x_let = some res) : Ct l yX6_readText wsX6_readText 4 92 D cy [.ref xh] (cTT xh txr x_now x_spare x_acts x_slots x_sights x_search x_pairs x_worth x_tray x_draft x_let x_kept x_seed ++ ([(txr, .inl (cy.2.1, 48, .inl tx))] ++ (cTr x_draft dfa dfb dfc cy.1 df))) (cTT xh txr x_now x_spare x_acts x_slots x_sights x_search x_pairs x_worth x_tray x_draft x_let x_kept x_seed ++ ([(txr, .inl (cy.2.1, 48, .inl tx))] ++ (cTr x_draft dfa dfb dfc cy.1 res.2))) (some (.int res.1)) := by
  refine Ct.ofW (cc := cX6_readText) (maxL := 5) (ret := (some .int)) (by decide) rfl (Nat.le_of_ble_eq_true rfl) ?_
  intro p e R s m args below meth c A Q ls hRf hRl hQ hx hb hr hml hts hown hlocks hE hP hD hS hA hl
  have hiX6 : ∀ w ∈ u_ws RX6 TX6 14, w ∈ wsX6_readText := by decide +kernel
  have hl : lv_has ls 5 [(0, .ref xh)] := hl
  rw [tw_X6_readText] at h
  have L29 : ∀ (n : Nat) (x1 : Int32) (df : TrS)  (H : Heap) (locs : List Loc) (ls : Array Slot), lv_has ls 5 [(0, .ref xh), (1, .int x1)] → va_P D vwCl (cTT xh txr x_now x_spare x_acts x_slots x_sights x_search x_pairs x_worth x_tray x_draft x_let x_kept x_seed ++ ([(txr, .inl (cy.2.1, 48, .inl tx))] ++ (cTr x_draft dfa dfb dfc cy.1 df))) H → va_D A (cTT xh txr x_now x_spare x_acts x_slots x_sights x_search x_pairs x_worth x_tray x_draft x_let x_kept x_seed ++ ([(txr, .inl (cy.2.1, 48, .inl tx))] ++ (cTr x_draft dfa dfb dfc cy.1 df))) → va_S A s.heap H locs → tw_X6_readText_29 tx x_let n x1 df = some res → W p l e R s m args below meth c H locs 0 0 Q (F0 m 29 ls []) := by
    intro n29
    induction n29 with
    | zero =>
      intro x1 df  H locs ls hl hP hD hS h
      exact absurd h (by rw [tw_X6_readText_29]; exact fun q => by cases q)
    | succ n29 ih29 =>
      intro x1 df  H locs ls hl hP hD hS h
      rw [tw_X6_readText_29] at h
      have L77 : ∀ (x1 : Int32) (x2 : Int32) (z0 : Int32) (df : TrS)  (H : Heap) (locs : List Loc) (ls : Array Slot), lv_has ls 5 [(0, .ref xh), (1, .int x1), (2, .int x2)] → va_P D vwCl (cTT xh txr x_now x_spare x_acts x_slots x_sights x_search x_pairs x_worth x_tray x_draft x_let x_kept x_seed ++ ([(txr, .inl (cy.2.1, 48, .inl tx))] ++ (cTr x_draft dfa dfb dfc cy.1 df))) H → va_D A (cTT xh txr x_now x_spare x_acts x_slots x_sights x_search x_pairs x_worth x_tray x_draft x_let x_kept x_seed ++ ([(txr, .inl (cy.2.1, 48, .inl tx))] ++ (cTr x_draft dfa dfb dfc cy.1 df))) → va_S A s.heap H locs → tw_X6_readText_77 tx x_let (tw_X6_readText_29 tx x_let n29) x1 x2 z0 df = some res → W p l e R s m args below meth c H locs 0 0 Q (F0 m 77 ls [.int z0]) := by
        intro x1 x2 z0 df  H locs ls hl hP hD hS h
        rw [tw_X6_readText_77] at h
        refine lv_istore_n (lv' := [(3, .int z0), (0, .ref xh), (1, .int x1), (2, .int x2)]) hx hb dX6_readText_77 rfl hl (by decide) rfl (fun ls hl => ?_)
        refine lv_aload_n hx hb dX6_readText_78 rfl (lv_at hl 1 rfl) ?_
        refine lv_iload_n hx hb dX6_readText_79 rfl (lv_at hl 3 rfl) ?_
        refine lv_iload_n hx hb dX6_readText_80 rfl (lv_at hl 2 rfl) ?_
        refine lv_iconst (v := 1) hx hb dX6_readText_81 (by decide) ?_
        refine lv_iadd hx hb dX6_readText_82 ?_
        refine lv_iload_n hx hb dX6_readText_83 rfl (lv_at hl 0 rfl) ?_
        obtain ⟨q1, hq1, h⟩ := ob h
        refine kV (As := [.int x2, .int (x1 + 1), .int z0]) (rest := []) (w2 := cTT xh txr x_now x_spare x_acts x_slots x_sights x_search x_pairs x_worth x_tray x_draft x_let x_kept x_seed ++ ([(txr, .inl (cy.2.1, 48, .inl tx))] ++ (cTr x_draft dfa dfb dfc cy.1 q1.2))) (n := 3) (q0 := 0) ⟨hx, hb, hml, hown, hts⟩ (c_X6_readPart l D cy xh txr x_now x_spare x_acts x_slots x_sights x_search x_pairs x_worth x_tray x_draft dfa dfb dfc tx df x_let x_kept x_seed x2 (x1 + 1) z0 q1 hq1) gX6_readText_X6_readPart rfl (by decide +kernel) ⟨by rw [hRf]; exact Nat.le_of_ble_eq_true rfl, by rw [hRl]; exact Nat.le_of_ble_eq_true rfl⟩ hE hP hD hS hA [0, 1, 2, 3, 4, 5] rfl rfl rfl rfl rfl rfl rfl hl.1 rfl (Nat.le_of_ble_eq_true rfl) dX6_readText_84 ⟨Nat.zero_le _, Nat.zero_le _⟩ (fun H locs hP hD hS => ?_)
        refine lv_istore (lv' := [(4, .int q1.1), (3, .int z0), (0, .ref xh), (1, .int x1), (2, .int x2)]) hx hb dX6_readText_87 hl (by decide) rfl (fun ls hl => ?_)
        refine lv_iload hx hb dX6_readText_89 (lv_at hl 0 rfl) ?_
        refine lv_bipush (v := (-9)) hx hb dX6_readText_91 (by decide) ?_
        refine lv_icmp_eq (tgt := 99) hx hb dX6_readText_93 (by decide) (fun c2 => ?_) (fun c2 => ?_)
        · have h := oit h c2
          refine lv_iload_n hx hb dX6_readText_99 rfl (lv_at hl 1 rfl) ?_
          refine lv_iconst (v := 1) hx hb dX6_readText_100 (by decide) ?_
          refine lv_iadd hx hb dX6_readText_101 ?_
          refine lv_istore_n (lv' := [(1, .int (z0 + 1)), (4, .int q1.1), (3, .int z0), (0, .ref xh), (2, .int x2)]) hx hb dX6_readText_102 rfl hl (by decide) rfl (fun ls hl => ?_)
          refine lv_goto (tgt := 29) hx hb dX6_readText_103 (by decide) ?_
          exact ih29 (z0 + 1) q1.2 _ _ _ (lv_sub hl [3, 0] rfl) hP hD hS h
        · have h := oif h c2
          refine lv_iload hx hb dX6_readText_96 (lv_at hl 0 rfl) ?_
          obtain rfl := Option.some.inj h
          rw [hQ]; exact ct_iret hx hb hr hlocks hP hS rfl dX6_readText_98
      refine lv_iload_n hx hb dX6_readText_29 rfl (lv_at hl 1 rfl) ?_
      refine lv_aload_n hx hb dX6_readText_30 rfl (lv_at hl 0 rfl) ?_
      refine va_get (D := D) (ci := 6) (v := .int x_let) (C := RX6) (T := TX6) (N := 14) hx hb hts hiX6 hown hE.1 hP 0 rfl rfl 1 (by decide) (hts (.fieldLink RX6 69 "TiltTray" "letters" "I") (by decide +kernel)) (fun _ h9 => h9) rfl dX6_readText_31 ?_
      refine lv_icmp_ge (tgt := 106) hx hb dX6_readText_34 (by decide) (fun c3 => ?_) (fun c3 => ?_)
      · have h := oit h c3
        refine lv_bipush (v := (-9)) hx hb dX6_readText_106 (by decide) ?_
        obtain rfl := Option.some.inj h
        rw [hQ]; exact ct_iret hx hb hr hlocks hP hS rfl dX6_readText_108
      · have h := oif h c3
        refine lv_aload_n hx hb dX6_readText_37 rfl (lv_at hl 0 rfl) ?_
        refine va_get (D := D) (ci := 6) (v := .ref txr) (C := RX6) (T := TX6) (N := 14) hx hb hts hiX6 hown hE.1 hP 0 rfl rfl 0 (by decide) (hts (.fieldLink RX6 9 "TiltTray" "text" "[C") (by decide +kernel)) (fun _ h9 => h9) rfl dX6_readText_38 ?_
        refine lv_iload_n hx hb dX6_readText_41 rfl (lv_at hl 1 rfl) ?_
        obtain ⟨g4, h⟩ := og h
        refine va_cald hx hb hE.1 hP 1 1 rfl rfl (ix_in g4) dX6_readText_42 ?_
        obtain ⟨q5, hq5, h⟩ := ob h
        refine kS (As := [.int (tx x1.toNatClampNeg)]) (rest := []) (w2 := cTT xh txr x_now x_spare x_acts x_slots x_sights x_search x_pairs x_worth x_tray x_draft x_let x_kept x_seed ++ ([(txr, .inl (cy.2.1, 48, .inl tx))] ++ (cTr x_draft dfa dfb dfc cy.1 df))) (n := 1) ⟨hx, hb, hml, hown, hts⟩ (c_X6_partTold l D cy (tx x1.toNatClampNeg) q5 hq5) gX6_readText_X6_partTold rfl (by decide +kernel) ⟨by rw [hRf]; exact Nat.le_of_ble_eq_true rfl, by rw [hRl]; exact Nat.le_of_ble_eq_true rfl⟩ hE hP hD hS hA [] rfl rfl rfl rfl rfl hl.1 rfl (Nat.le_of_ble_eq_true rfl) dX6_readText_43 ⟨Nat.zero_le _, Nat.zero_le _⟩ (fun H locs hP hD hS => ?_)
        refine lv_istore_n (lv' := [(2, .int q5), (0, .ref xh), (1, .int x1)]) hx hb dX6_readText_46 rfl hl (by decide) rfl (fun ls hl => ?_)
        refine lv_iload_n hx hb dX6_readText_47 rfl (lv_at hl 0 rfl) ?_
        refine lv_if_lt (tgt := 62) hx hb dX6_readText_48 (by decide) (fun c6 => ?_) (fun c6 => ?_)
        · have h := oit h c6
          refine lv_iload_n hx hb dX6_readText_62 rfl (lv_at hl 2 rfl) ?_
          obtain rfl := Option.some.inj h
          rw [hQ]; exact ct_iret hx hb hr hlocks hP hS rfl dX6_readText_63
        · have h := oif h c6
          refine lv_aload_n hx hb dX6_readText_51 rfl (lv_at hl 1 rfl) ?_
          refine va_get (D := D) (ci := 6) (v := .ref x_draft) (C := RX6) (T := TX6) (N := 14) hx hb hts hiX6 hown hE.1 hP 0 rfl rfl 3 (by decide) (hts (.fieldLink RX6 20 "TiltTray" "draft" "LTiltTray$Tray;") (by decide +kernel)) (fun _ h9 => h9) rfl dX6_readText_52 ?_
          refine lv_iload_n hx hb dX6_readText_55 rfl (lv_at hl 0 rfl) ?_
          obtain ⟨q7, hq7, h⟩ := ob h
          refine kV (As := [.int q5]) (rest := []) (w2 := cTT xh txr x_now x_spare x_acts x_slots x_sights x_search x_pairs x_worth x_tray x_draft x_let x_kept x_seed ++ ([(txr, .inl (cy.2.1, 48, .inl tx))] ++ (cTr x_draft dfa dfb dfc cy.1 df))) (n := 1) (q0 := 2) ⟨hx, hb, hml, hown, hts⟩ (c_X5_hasRoom l D cy x_draft dfa dfb dfc df q5 q7 hq7) gX6_readText_X5_hasRoom rfl (by decide +kernel) ⟨by rw [hRf]; exact Nat.le_of_ble_eq_true rfl, by rw [hRl]; exact Nat.le_of_ble_eq_true rfl⟩ hE hP hD hS hA [2, 3, 4, 5] rfl rfl rfl rfl rfl rfl rfl hl.1 rfl (Nat.le_of_ble_eq_true rfl) dX6_readText_56 ⟨Nat.zero_le _, Nat.zero_le _⟩ (fun H locs hP hD hS => ?_)
          refine lv_if_ne (tgt := 64) hx hb dX6_readText_59 (by decide) (fun c8 => ?_) (fun c8 => ?_)
          · have h := oif h c8
            refine lv_iload_n hx hb dX6_readText_64 rfl (lv_at hl 0 rfl) ?_
            refine lv_if_ne (tgt := 74) hx hb dX6_readText_65 (by decide) (fun c9 => ?_) (fun c9 => ?_)
            · have h := oif h c9
              refine lv_iload_n hx hb dX6_readText_74 rfl (lv_at hl 2 rfl) ?_
              refine lv_iconst (v := 1) hx hb dX6_readText_75 (by decide) ?_
              refine lv_iadd hx hb dX6_readText_76 ?_
              exact L77 x1 q5 (x1 + 1) df _ _ _ (lv_sub hl [1, 2, 0] rfl) hP hD hS h
            · have h := oit h c9
              refine lv_iload_n hx hb dX6_readText_68 rfl (lv_at hl 2 rfl) ?_
              refine lv_iconst (v := 2) hx hb dX6_readText_69 (by decide) ?_
              refine lv_iadd hx hb dX6_readText_70 ?_
              refine lv_goto (tgt := 77) hx hb dX6_readText_71 (by decide) ?_
              exact L77 x1 q5 (x1 + 2) df _ _ _ (lv_sub hl [1, 2, 0] rfl) hP hD hS h
          · have h := oit h c8
            refine lv_iload_n hx hb dX6_readText_62 rfl (lv_at hl 2 rfl) ?_
            obtain rfl := Option.some.inj h
            rw [hQ]; exact ct_iret hx hb hr hlocks hP hS rfl dX6_readText_63
  refine lv_aload_n hx hb dX6_readText_0 rfl (lv_at hl 0 rfl) ?_
  refine va_get (D := D) (ci := 6) (v := .ref x_draft) (C := RX6) (T := TX6) (N := 14) hx hb hts hiX6 hown hE.1 hP 0 rfl rfl 3 (by decide) (hts (.fieldLink RX6 20 "TiltTray" "draft" "LTiltTray$Tray;") (by decide +kernel)) (fun _ h9 => h9) rfl dX6_readText_1 ?_
  obtain ⟨q10, hq10, h⟩ := ob h
  refine kV (As := []) (rest := []) (w2 := cTT xh txr x_now x_spare x_acts x_slots x_sights x_search x_pairs x_worth x_tray x_draft x_let x_kept x_seed ++ ([(txr, .inl (cy.2.1, 48, .inl tx))] ++ (cTr x_draft dfa dfb dfc cy.1 q10))) (n := 0) (q0 := 2) ⟨hx, hb, hml, hown, hts⟩ (c_X5_clear l D cy x_draft dfa dfb dfc df q10 hq10) gX6_readText_X5_clear rfl (by decide +kernel) ⟨by rw [hRf]; exact Nat.le_of_ble_eq_true rfl, by rw [hRl]; exact Nat.le_of_ble_eq_true rfl⟩ hE hP hD hS hA [2, 3, 4, 5] rfl rfl rfl rfl rfl rfl rfl hl.1 rfl (Nat.le_of_ble_eq_true rfl) dX6_readText_4 ⟨Nat.zero_le _, Nat.zero_le _⟩ (fun H locs hP hD hS => ?_)
  refine lv_aload_n hx hb dX6_readText_7 rfl (lv_at hl 0 rfl) ?_
  refine va_get (D := D) (ci := 6) (v := .int x_let) (C := RX6) (T := TX6) (N := 14) hx hb hts hiX6 hown hE.1 hP 0 rfl rfl 1 (by decide) (hts (.fieldLink RX6 69 "TiltTray" "letters" "I") (by decide +kernel)) (fun _ h9 => h9) rfl dX6_readText_8 ?_
  refine lv_if_eq (tgt := 25) hx hb dX6_readText_11 (by decide) (fun c11 => ?_) (fun c11 => ?_)
  · have h := oit h c11
    refine lv_iconst (v := 0) hx hb dX6_readText_25 (by decide) ?_
    obtain rfl := Option.some.inj h
    rw [hQ]; exact ct_iret hx hb hr hlocks hP hS rfl dX6_readText_26
  · have h := oif h c11
    refine lv_aload_n hx hb dX6_readText_14 rfl (lv_at hl 0 rfl) ?_
    refine va_get (D := D) (ci := 6) (v := .ref txr) (C := RX6) (T := TX6) (N := 14) hx hb hts hiX6 hown hE.1 hP 0 rfl rfl 0 (by decide) (hts (.fieldLink RX6 9 "TiltTray" "text" "[C") (by decide +kernel)) (fun _ h9 => h9) rfl dX6_readText_15 ?_
    refine lv_iconst (v := 0) hx hb dX6_readText_18 (by decide) ?_
    refine va_cald hx hb hE.1 hP 1 1 rfl rfl (ix_in (by decide)) dX6_readText_19 ?_
    refine lv_bipush (v := 84) hx hb dX6_readText_20 (by decide) ?_
    refine lv_icmp_eq (tgt := 27) hx hb dX6_readText_22 (by decide) (fun c12 => ?_) (fun c12 => ?_)
    · have h := oit h c12
      refine lv_iconst (v := 1) hx hb dX6_readText_27 (by decide) ?_
      refine lv_istore_n (lv' := [(1, .int 1), (0, .ref xh)]) hx hb dX6_readText_28 rfl hl (by decide) rfl (fun ls hl => ?_)
      exact L29 60 1 q10 _ _ _ (lv_sub hl [1, 0] rfl) hP hD hS h
    · have h := oif h c12
      refine lv_iconst (v := 0) hx hb dX6_readText_25 (by decide) ?_
      obtain rfl := Option.some.inj h
      rw [hQ]; exact ct_iret hx hb hr hlocks hP hS rfl dX6_readText_26

def tw_X6_fault (tx : Nat → Int32) (df : TrS) (x_let : Int32) : Option (Int32 × TrS) :=
  (tw_X6_readText tx df x_let).bind (fun q1 => some (q1.1, q1.2))
set_option maxHeartbeats 4000000 in
set_option maxRecDepth 100000 in
theorem c_X6_fault (l : Launch) (D : va_G) (cy : Cy) (xh : Nat) (txr : Nat) (x_now : Nat) (x_spare : Nat) (x_acts : Nat) (x_slots : Nat) (x_sights : Nat) (x_search : Nat) (x_pairs : Nat) (x_worth : Nat) (x_tray : Nat) (x_draft : Nat) (dfa : Nat) (dfb : Nat) (dfc : Nat) (tx : Nat → Int32) (df : TrS) (x_let : Int32) (x_kept : Int32) (x_seed : Int64) (res : Int32 × TrS) (h : tw_X6_fault tx df x_let = some res) : Ct l yX6_fault wsX6_fault 5 116 D cy [.ref xh] (cTT xh txr x_now x_spare x_acts x_slots x_sights x_search x_pairs x_worth x_tray x_draft x_let x_kept x_seed ++ ([(txr, .inl (cy.2.1, 48, .inl tx))] ++ (cTr x_draft dfa dfb dfc cy.1 df))) (cTT xh txr x_now x_spare x_acts x_slots x_sights x_search x_pairs x_worth x_tray x_draft x_let x_kept x_seed ++ ([(txr, .inl (cy.2.1, 48, .inl tx))] ++ (cTr x_draft dfa dfb dfc cy.1 res.2))) (some (.int res.1)) := by
  refine Ct.ofW (cc := cX6_fault) (maxL := 1) (ret := (some .int)) (by decide) rfl (Nat.le_of_ble_eq_true rfl) ?_
  intro p e R s m args below meth c A Q ls hRf hRl hQ hx hb hr hml hts hown hlocks hE hP hD hS hA hl
  have hl : lv_has ls 1 [(0, .ref xh)] := hl
  rw [tw_X6_fault] at h
  refine lv_aload_n hx hb dX6_fault_0 rfl (lv_at hl 0 rfl) ?_
  obtain ⟨q1, hq1, h⟩ := ob h
  refine kV (As := []) (rest := []) (w2 := cTT xh txr x_now x_spare x_acts x_slots x_sights x_search x_pairs x_worth x_tray x_draft x_let x_kept x_seed ++ ([(txr, .inl (cy.2.1, 48, .inl tx))] ++ (cTr x_draft dfa dfb dfc cy.1 q1.2))) (n := 0) (q0 := 0) ⟨hx, hb, hml, hown, hts⟩ (c_X6_readText l D cy xh txr x_now x_spare x_acts x_slots x_sights x_search x_pairs x_worth x_tray x_draft dfa dfb dfc tx df x_let x_kept x_seed q1 hq1) gX6_fault_X6_readText rfl (by decide +kernel) ⟨by rw [hRf]; exact Nat.le_of_ble_eq_true rfl, by rw [hRl]; exact Nat.le_of_ble_eq_true rfl⟩ hE hP hD hS hA [0, 1, 2, 3, 4, 5] rfl rfl rfl rfl rfl rfl rfl hl.1 rfl (Nat.le_of_ble_eq_true rfl) dX6_fault_1 ⟨Nat.zero_le _, Nat.zero_le _⟩ (fun H locs hP hD hS => ?_)
  obtain rfl := Option.some.inj h
  rw [hQ]; exact ct_iret hx hb hr hlocks hP hS rfl dX6_fault_4

def tw_X6_table (tx : Nat → Int32) (no : SpS) (aci : Int32) (acn : Int32) (x_tray : Nat) (df : TrS) (x_draft : Nat) (x_let : Int32) (x_kept : Int32) : Option (Int32 × SpS × Int32 × Int32 × Nat × TrS × Nat × Int32) :=
  (tw_X6_readText tx df x_let).bind (fun q1 => if q1.1 = (-9) then ((tw_X4_begin no q1.2).bind (fun q3 => (tw_X0_forget aci acn).bind (fun q4 => (tw_J6_bitCount_0f7a4 (q1.2.1 (1 : Int32).toNatClampNeg)).bind (fun q5 => (tw_J6_bitCount_0f7a4 (q1.2.1 (2 : Int32).toNatClampNeg)).bind (fun q6 => some (((100 * q5) + (10 * q6)) + q1.2.2.2.2.1, q3, q4.1, q4.2, x_draft, q1.2, x_tray, 0)))))) else (some ((-3), no, aci, acn, x_tray, q1.2, x_draft, x_kept)))
set_option maxHeartbeats 4000000 in
set_option maxRecDepth 100000 in
theorem c_X6_table (l : Launch) (D : va_G) (cy : Cy) (xh : Nat) (txr : Nat) (noh : Nat) (noa : Nat) (x_spare : Nat) (ach : Nat) (acr : Nat) (acH : Nat → Nat) (x_slots : Nat) (x_sights : Nat) (x_search : Nat) (x_pairs : Nat) (x_worth : Nat) (x_tray : Nat) (tra : Nat) (trb : Nat) (trc : Nat) (x_draft : Nat) (dfa : Nat) (dfb : Nat) (dfc : Nat) (tx : Nat → Int32) (no : SpS) (aci : Int32) (acn : Int32) (tr : TrS) (df : TrS) (x_let : Int32) (x_kept : Int32) (x_seed : Int64) (res : Int32 × SpS × Int32 × Int32 × Nat × TrS × Nat × Int32) (h : tw_X6_table tx no aci acn x_tray df x_draft x_let x_kept = some res) : Ct l yX6_table wsX6_table 5 116 D cy [.ref xh] (cTT xh txr noh x_spare ach x_slots x_sights x_search x_pairs x_worth x_tray x_draft x_let x_kept x_seed ++ ([(txr, .inl (cy.2.1, 48, .inl tx))] ++ (cSp noh noa cy.1 no ++ (cAc ach acr acH cy.2.2.2.1 aci acn ++ (cTr x_tray tra trb trc cy.1 tr ++ (cTr x_draft dfa dfb dfc cy.1 df)))))) (cTT xh txr noh x_spare ach x_slots x_sights x_search x_pairs x_worth res.2.2.2.2.1 res.2.2.2.2.2.2.1 x_let res.2.2.2.2.2.2.2 x_seed ++ ([(txr, .inl (cy.2.1, 48, .inl tx))] ++ (cSp noh noa cy.1 res.2.1 ++ (cAc ach acr acH cy.2.2.2.1 res.2.2.1 res.2.2.2.1 ++ (cTr x_tray tra trb trc cy.1 tr ++ (cTr x_draft dfa dfb dfc cy.1 res.2.2.2.2.2.1)))))) (some (.int res.1)) := by
  refine Ct.ofW (cc := cX6_table) (maxL := 2) (ret := (some .int)) (by decide) rfl (Nat.le_of_ble_eq_true rfl) ?_
  intro p e R s m args below meth c A Q ls hRf hRl hQ hx hb hr hml hts hown hlocks hE hP hD hS hA hl
  have hiX5 : ∀ w ∈ u_ws RX5 TX5 5, w ∈ wsX6_table := by decide +kernel
  have hiX6 : ∀ w ∈ u_ws RX6 TX6 14, w ∈ wsX6_table := by decide +kernel
  have hl : lv_has ls 2 [(0, .ref xh)] := hl
  rw [tw_X6_table] at h
  refine lv_aload_n hx hb dX6_table_0 rfl (lv_at hl 0 rfl) ?_
  obtain ⟨q1, hq1, h⟩ := ob h
  refine kV (As := []) (rest := []) (w2 := cTT xh txr noh x_spare ach x_slots x_sights x_search x_pairs x_worth x_tray x_draft x_let x_kept x_seed ++ ([(txr, .inl (cy.2.1, 48, .inl tx))] ++ (cSp noh noa cy.1 no ++ (cAc ach acr acH cy.2.2.2.1 aci acn ++ (cTr x_tray tra trb trc cy.1 tr ++ (cTr x_draft dfa dfb dfc cy.1 q1.2)))))) (n := 0) (q0 := 0) ⟨hx, hb, hml, hown, hts⟩ (c_X6_readText l D cy xh txr noh x_spare ach x_slots x_sights x_search x_pairs x_worth x_tray x_draft dfa dfb dfc tx df x_let x_kept x_seed q1 hq1) gX6_table_X6_readText rfl (by decide +kernel) ⟨by rw [hRf]; exact Nat.le_of_ble_eq_true rfl, by rw [hRl]; exact Nat.le_of_ble_eq_true rfl⟩ hE hP hD hS hA [0, 1, 10, 11, 12, 13] rfl rfl rfl rfl rfl rfl rfl hl.1 rfl (Nat.le_of_ble_eq_true rfl) dX6_table_1 ⟨Nat.zero_le _, Nat.zero_le _⟩ (fun H locs hP hD hS => ?_)
  refine lv_bipush (v := (-9)) hx hb dX6_table_4 (by decide) ?_
  refine lv_icmp_eq (tgt := 12) hx hb dX6_table_6 (by decide) (fun c2 => ?_) (fun c2 => ?_)
  · have h := oit h c2
    refine lv_aload_n hx hb dX6_table_12 rfl (lv_at hl 0 rfl) ?_
    refine va_get (D := D) (ci := 6) (v := .ref x_draft) (C := RX6) (T := TX6) (N := 14) hx hb hts hiX6 hown hE.1 hP 0 rfl rfl 3 (by decide) (hts (.fieldLink RX6 20 "TiltTray" "draft" "LTiltTray$Tray;") (by decide +kernel)) (fun _ h9 => h9) rfl dX6_table_13 ?_
    refine lv_astore_n (lv' := [(1, .ref x_draft), (0, .ref xh)]) hx hb dX6_table_16 rfl hl (by decide) rfl (fun ls hl => ?_)
    refine lv_aload_n hx hb dX6_table_17 rfl (lv_at hl 1 rfl) ?_
    refine lv_aload_n hx hb dX6_table_18 rfl (lv_at hl 1 rfl) ?_
    refine va_get (D := D) (ci := 6) (v := .ref x_tray) (C := RX6) (T := TX6) (N := 14) hx hb hts hiX6 hown hE.1 hP 0 rfl rfl 2 (by decide) (hts (.fieldLink RX6 16 "TiltTray" "tray" "LTiltTray$Tray;") (by decide +kernel)) (fun _ h9 => h9) rfl dX6_table_19 ?_
    refine va_put (D := D) (ci := 6) (v := .ref x_tray) (ty := .object "TiltTray$Tray") (C := RX6) (T := TX6) (N := 14) hx hb hts hiX6 tyX6 tyX6_ok nmX6 hown hE.1 hP hD hS 0 rfl rfl 3 (by decide) (hts (.fieldLink RX6 20 "TiltTray" "draft" "LTiltTray$Tray;") (by decide +kernel)) (fun _ h9 => h9) rfl (by decide +kernel) rfl rfl (Nat.le_of_ble_eq_true rfl) dX6_table_22 (fun H locs hP hD hS => ?_)
    have hP : va_P D vwCl (cTT xh txr noh x_spare ach x_slots x_sights x_search x_pairs x_worth x_tray x_tray x_let x_kept x_seed ++ ([(txr, .inl (cy.2.1, 48, .inl tx))] ++ (cSp noh noa cy.1 no ++ (cAc ach acr acH cy.2.2.2.1 aci acn ++ (cTr x_tray tra trb trc cy.1 tr ++ (cTr x_draft dfa dfb dfc cy.1 q1.2)))))) H := hP
    have hD : va_D A (cTT xh txr noh x_spare ach x_slots x_sights x_search x_pairs x_worth x_tray x_tray x_let x_kept x_seed ++ ([(txr, .inl (cy.2.1, 48, .inl tx))] ++ (cSp noh noa cy.1 no ++ (cAc ach acr acH cy.2.2.2.1 aci acn ++ (cTr x_tray tra trb trc cy.1 tr ++ (cTr x_draft dfa dfb dfc cy.1 q1.2)))))) := hD
    refine lv_aload_n hx hb dX6_table_25 rfl (lv_at hl 1 rfl) ?_
    refine lv_aload_n hx hb dX6_table_26 rfl (lv_at hl 0 rfl) ?_
    refine va_put (D := D) (ci := 6) (v := .ref x_draft) (ty := .object "TiltTray$Tray") (C := RX6) (T := TX6) (N := 14) hx hb hts hiX6 tyX6 tyX6_ok nmX6 hown hE.1 hP hD hS 0 rfl rfl 2 (by decide) (hts (.fieldLink RX6 16 "TiltTray" "tray" "LTiltTray$Tray;") (by decide +kernel)) (fun _ h9 => h9) rfl (by decide +kernel) rfl rfl (Nat.le_of_ble_eq_true rfl) dX6_table_27 (fun H locs hP hD hS => ?_)
    have hP : va_P D vwCl (cTT xh txr noh x_spare ach x_slots x_sights x_search x_pairs x_worth x_draft x_tray x_let x_kept x_seed ++ ([(txr, .inl (cy.2.1, 48, .inl tx))] ++ (cSp noh noa cy.1 no ++ (cAc ach acr acH cy.2.2.2.1 aci acn ++ (cTr x_tray tra trb trc cy.1 tr ++ (cTr x_draft dfa dfb dfc cy.1 q1.2)))))) H := hP
    have hD : va_D A (cTT xh txr noh x_spare ach x_slots x_sights x_search x_pairs x_worth x_draft x_tray x_let x_kept x_seed ++ ([(txr, .inl (cy.2.1, 48, .inl tx))] ++ (cSp noh noa cy.1 no ++ (cAc ach acr acH cy.2.2.2.1 aci acn ++ (cTr x_tray tra trb trc cy.1 tr ++ (cTr x_draft dfa dfb dfc cy.1 q1.2)))))) := hD
    refine lv_aload_n hx hb dX6_table_30 rfl (lv_at hl 1 rfl) ?_
    refine va_get (D := D) (ci := 6) (v := .ref noh) (C := RX6) (T := TX6) (N := 14) hx hb hts hiX6 hown hE.1 hP 0 rfl rfl 4 (by decide) (hts (.fieldLink RX6 26 "TiltTray" "now" "LTiltTray$Spot;") (by decide +kernel)) (fun _ h9 => h9) rfl dX6_table_31 ?_
    refine lv_aload_n hx hb dX6_table_34 rfl (lv_at hl 1 rfl) ?_
    refine va_get (D := D) (ci := 6) (v := .ref x_draft) (C := RX6) (T := TX6) (N := 14) hx hb hts hiX6 hown hE.1 hP 0 rfl rfl 2 (by decide) (hts (.fieldLink RX6 16 "TiltTray" "tray" "LTiltTray$Tray;") (by decide +kernel)) (fun _ h9 => h9) rfl dX6_table_35 ?_
    obtain ⟨q3, hq3, h⟩ := ob h
    refine kV (As := [.ref x_draft]) (rest := []) (w2 := cTT xh txr noh x_spare ach x_slots x_sights x_search x_pairs x_worth x_draft x_tray x_let x_kept x_seed ++ ([(txr, .inl (cy.2.1, 48, .inl tx))] ++ (cSp noh noa cy.1 q3 ++ (cAc ach acr acH cy.2.2.2.1 aci acn ++ (cTr x_tray tra trb trc cy.1 tr ++ (cTr x_draft dfa dfb dfc cy.1 q1.2)))))) (n := 1) (q0 := 2) ⟨hx, hb, hml, hown, hts⟩ (c_X4_begin l D cy noh noa x_draft dfa dfb dfc no q1.2 q3 hq3) gX6_table_X4_begin rfl (by decide +kernel) ⟨by rw [hRf]; exact Nat.le_of_ble_eq_true rfl, by rw [hRl]; exact Nat.le_of_ble_eq_true rfl⟩ hE hP hD hS hA [2, 3, 10, 11, 12, 13] rfl rfl rfl rfl rfl rfl rfl hl.1 rfl (Nat.le_of_ble_eq_true rfl) dX6_table_38 ⟨Nat.zero_le _, Nat.zero_le _⟩ (fun H locs hP hD hS => ?_)
    refine lv_aload_n hx hb dX6_table_41 rfl (lv_at hl 1 rfl) ?_
    refine va_get (D := D) (ci := 6) (v := .ref ach) (C := RX6) (T := TX6) (N := 14) hx hb hts hiX6 hown hE.1 hP 0 rfl rfl 6 (by decide) (hts (.fieldLink RX6 36 "TiltTray" "acts" "LTiltTray$Acts;") (by decide +kernel)) (fun _ h9 => h9) rfl dX6_table_42 ?_
    obtain ⟨q4, hq4, h⟩ := ob h
    refine kV (As := []) (rest := []) (w2 := cTT xh txr noh x_spare ach x_slots x_sights x_search x_pairs x_worth x_draft x_tray x_let x_kept x_seed ++ ([(txr, .inl (cy.2.1, 48, .inl tx))] ++ (cSp noh noa cy.1 q3 ++ (cAc ach acr acH cy.2.2.2.1 q4.1 q4.2 ++ (cTr x_tray tra trb trc cy.1 tr ++ (cTr x_draft dfa dfb dfc cy.1 q1.2)))))) (n := 0) (q0 := 4) ⟨hx, hb, hml, hown, hts⟩ (c_X0_forget l D cy ach acr acH aci acn q4 hq4) gX6_table_X0_forget rfl (by decide +kernel) ⟨by rw [hRf]; exact Nat.le_of_ble_eq_true rfl, by rw [hRl]; exact Nat.le_of_ble_eq_true rfl⟩ hE hP hD hS hA [4, 5] rfl rfl rfl rfl rfl rfl rfl hl.1 rfl (Nat.le_of_ble_eq_true rfl) dX6_table_45 ⟨Nat.zero_le _, Nat.zero_le _⟩ (fun H locs hP hD hS => ?_)
    refine lv_aload_n hx hb dX6_table_48 rfl (lv_at hl 1 rfl) ?_
    refine lv_iconst (v := 0) hx hb dX6_table_49 (by decide) ?_
    refine va_put (D := D) (ci := 6) (v := .int 0) (ty := .int) (C := RX6) (T := TX6) (N := 14) hx hb hts hiX6 tyX6 tyX6_ok nmX6 hown hE.1 hP hD hS 0 rfl rfl 8 (by decide) (hts (.fieldLink RX6 84 "TiltTray" "kept" "I") (by decide +kernel)) (fun _ h9 => h9) rfl (by decide +kernel) rfl rfl (Nat.le_of_ble_eq_true rfl) dX6_table_50 (fun H locs hP hD hS => ?_)
    have hP : va_P D vwCl (cTT xh txr noh x_spare ach x_slots x_sights x_search x_pairs x_worth x_draft x_tray x_let 0 x_seed ++ ([(txr, .inl (cy.2.1, 48, .inl tx))] ++ (cSp noh noa cy.1 q3 ++ (cAc ach acr acH cy.2.2.2.1 q4.1 q4.2 ++ (cTr x_tray tra trb trc cy.1 tr ++ (cTr x_draft dfa dfb dfc cy.1 q1.2)))))) H := hP
    have hD : va_D A (cTT xh txr noh x_spare ach x_slots x_sights x_search x_pairs x_worth x_draft x_tray x_let 0 x_seed ++ ([(txr, .inl (cy.2.1, 48, .inl tx))] ++ (cSp noh noa cy.1 q3 ++ (cAc ach acr acH cy.2.2.2.1 q4.1 q4.2 ++ (cTr x_tray tra trb trc cy.1 tr ++ (cTr x_draft dfa dfb dfc cy.1 q1.2)))))) := hD
    refine lv_bipush (v := 100) hx hb dX6_table_53 (by decide) ?_
    refine lv_aload_n hx hb dX6_table_55 rfl (lv_at hl 1 rfl) ?_
    refine va_get (D := D) (ci := 6) (v := .ref x_draft) (C := RX6) (T := TX6) (N := 14) hx hb hts hiX6 hown hE.1 hP 0 rfl rfl 2 (by decide) (hts (.fieldLink RX6 16 "TiltTray" "tray" "LTiltTray$Tray;") (by decide +kernel)) (fun _ h9 => h9) rfl dX6_table_56 ?_
    refine va_get (D := D) (ci := 5) (v := .ref dfa) (C := RX5) (T := TX5) (N := 5) hx hb hts hiX5 hown hE.1 hP 10 rfl rfl 0 (by decide) (hts (.fieldLink RX6 87 "TiltTray$Tray" "told" "[I") (by decide +kernel)) (fun _ h9 => h9) rfl dX6_table_59 ?_
    refine lv_iconst (v := 1) hx hb dX6_table_62 (by decide) ?_
    refine va_iald hx hb hE.1 hP 11 0 rfl rfl (ix_in (by decide)) dX6_table_63 ?_
    obtain ⟨q5, hq5, h⟩ := ob h
    refine kS (As := [.int (q1.2.1 (1 : Int32).toNatClampNeg)]) (rest := [.int 100]) (w2 := cTT xh txr noh x_spare ach x_slots x_sights x_search x_pairs x_worth x_draft x_tray x_let 0 x_seed ++ ([(txr, .inl (cy.2.1, 48, .inl tx))] ++ (cSp noh noa cy.1 q3 ++ (cAc ach acr acH cy.2.2.2.1 q4.1 q4.2 ++ (cTr x_tray tra trb trc cy.1 tr ++ (cTr x_draft dfa dfb dfc cy.1 q1.2)))))) (n := 1) ⟨hx, hb, hml, hown, hts⟩ (c_J6_bitCount_0f7a4 l D cy (q1.2.1 (1 : Int32).toNatClampNeg) q5 hq5) gX6_table_J6_bitCount_0f7a4 rfl (by decide +kernel) ⟨by rw [hRf]; exact Nat.le_of_ble_eq_true rfl, by rw [hRl]; exact Nat.le_of_ble_eq_true rfl⟩ hE hP hD hS hA [] rfl rfl rfl rfl rfl hl.1 rfl (Nat.le_of_ble_eq_true rfl) dX6_table_64 ⟨Nat.zero_le _, Nat.zero_le _⟩ (fun H locs hP hD hS => ?_)
    refine lv_imul hx hb dX6_table_67 ?_
    refine lv_bipush (v := 10) hx hb dX6_table_68 (by decide) ?_
    refine lv_aload_n hx hb dX6_table_70 rfl (lv_at hl 1 rfl) ?_
    refine va_get (D := D) (ci := 6) (v := .ref x_draft) (C := RX6) (T := TX6) (N := 14) hx hb hts hiX6 hown hE.1 hP 0 rfl rfl 2 (by decide) (hts (.fieldLink RX6 16 "TiltTray" "tray" "LTiltTray$Tray;") (by decide +kernel)) (fun _ h9 => h9) rfl dX6_table_71 ?_
    refine va_get (D := D) (ci := 5) (v := .ref dfa) (C := RX5) (T := TX5) (N := 5) hx hb hts hiX5 hown hE.1 hP 10 rfl rfl 0 (by decide) (hts (.fieldLink RX6 87 "TiltTray$Tray" "told" "[I") (by decide +kernel)) (fun _ h9 => h9) rfl dX6_table_74 ?_
    refine lv_iconst (v := 2) hx hb dX6_table_77 (by decide) ?_
    refine va_iald hx hb hE.1 hP 11 0 rfl rfl (ix_in (by decide)) dX6_table_78 ?_
    obtain ⟨q6, hq6, h⟩ := ob h
    refine kS (As := [.int (q1.2.1 (2 : Int32).toNatClampNeg)]) (rest := [.int 10, .int (100 * q5)]) (w2 := cTT xh txr noh x_spare ach x_slots x_sights x_search x_pairs x_worth x_draft x_tray x_let 0 x_seed ++ ([(txr, .inl (cy.2.1, 48, .inl tx))] ++ (cSp noh noa cy.1 q3 ++ (cAc ach acr acH cy.2.2.2.1 q4.1 q4.2 ++ (cTr x_tray tra trb trc cy.1 tr ++ (cTr x_draft dfa dfb dfc cy.1 q1.2)))))) (n := 1) ⟨hx, hb, hml, hown, hts⟩ (c_J6_bitCount_0f7a4 l D cy (q1.2.1 (2 : Int32).toNatClampNeg) q6 hq6) gX6_table_J6_bitCount_0f7a4 rfl (by decide +kernel) ⟨by rw [hRf]; exact Nat.le_of_ble_eq_true rfl, by rw [hRl]; exact Nat.le_of_ble_eq_true rfl⟩ hE hP hD hS hA [] rfl rfl rfl rfl rfl hl.1 rfl (Nat.le_of_ble_eq_true rfl) dX6_table_79 ⟨Nat.zero_le _, Nat.zero_le _⟩ (fun H locs hP hD hS => ?_)
    refine lv_imul hx hb dX6_table_82 ?_
    refine lv_iadd hx hb dX6_table_83 ?_
    refine lv_aload_n hx hb dX6_table_84 rfl (lv_at hl 1 rfl) ?_
    refine va_get (D := D) (ci := 6) (v := .ref x_draft) (C := RX6) (T := TX6) (N := 14) hx hb hts hiX6 hown hE.1 hP 0 rfl rfl 2 (by decide) (hts (.fieldLink RX6 16 "TiltTray" "tray" "LTiltTray$Tray;") (by decide +kernel)) (fun _ h9 => h9) rfl dX6_table_85 ?_
    refine va_get (D := D) (ci := 5) (v := .int q1.2.2.2.2.1) (C := RX5) (T := TX5) (N := 5) hx hb hts hiX5 hown hE.1 hP 10 rfl rfl 3 (by decide) (hts (.fieldLink RX6 96 "TiltTray$Tray" "marbles" "I") (by decide +kernel)) (fun _ h9 => h9) rfl dX6_table_88 ?_
    refine lv_iadd hx hb dX6_table_91 ?_
    obtain rfl := Option.some.inj h
    rw [hQ]; exact ct_iret hx hb hr hlocks hP hS rfl dX6_table_92
  · have h := oif h c2
    refine lv_bipush (v := (-3)) hx hb dX6_table_9 (by decide) ?_
    obtain rfl := Option.some.inj h
    rw [hQ]; exact ct_iret hx hb hr hlocks hP hS rfl dX6_table_11

def tw_X6_cell (no : SpS) (tr : TrS) (p1 : Int32) (p2 : Int32) : Option (Int32) :=
  (tw_X6_isCell p1).bind (fun q1 => if q1 = 0 then (some ((-1))) else (if p2 = 0 then ((tw_X5_partAt tr p1).bind (fun q3 => some (q3))) else (if p2 = 1 then ((tw_X4_marbleAt no p1).bind (fun q5 => some (q5))) else (if p2 = 2 then ((tw_X6_bitOf no.2.2.1 p1).bind (fun q7 => some (q7))) else (if p2 = 3 then ((tw_X6_bitOf no.2.2.2.1 p1).bind (fun q9 => some (q9))) else (some ((-2))))))))
set_option maxHeartbeats 4000000 in
set_option maxRecDepth 100000 in
theorem c_X6_cell (l : Launch) (D : va_G) (cy : Cy) (xh : Nat) (x_text : Nat) (noh : Nat) (noa : Nat) (x_spare : Nat) (x_acts : Nat) (x_slots : Nat) (x_sights : Nat) (x_search : Nat) (x_pairs : Nat) (x_worth : Nat) (x_tray : Nat) (tra : Nat) (trb : Nat) (trc : Nat) (x_draft : Nat) (no : SpS) (tr : TrS) (x_let : Int32) (x_kept : Int32) (x_seed : Int64) (p1 : Int32) (p2 : Int32) (res : Int32) (h : tw_X6_cell no tr p1 p2 = some res) : Ct l yX6_cell wsX6_cell 2 43 D cy [.ref xh, .int p1, .int p2] (cTT xh x_text noh x_spare x_acts x_slots x_sights x_search x_pairs x_worth x_tray x_draft x_let x_kept x_seed ++ (cSp noh noa cy.1 no ++ (cTr x_tray tra trb trc cy.1 tr))) (cTT xh x_text noh x_spare x_acts x_slots x_sights x_search x_pairs x_worth x_tray x_draft x_let x_kept x_seed ++ (cSp noh noa cy.1 no ++ (cTr x_tray tra trb trc cy.1 tr))) (some (.int res)) := by
  refine Ct.ofW (cc := cX6_cell) (maxL := 3) (ret := (some .int)) (by decide) rfl (Nat.le_of_ble_eq_true rfl) ?_
  intro p e R s m args below meth c A Q ls hRf hRl hQ hx hb hr hml hts hown hlocks hE hP hD hS hA hl
  have hiX4 : ∀ w ∈ u_ws RX4 TX4 5, w ∈ wsX6_cell := by decide +kernel
  have hiX6 : ∀ w ∈ u_ws RX6 TX6 14, w ∈ wsX6_cell := by decide +kernel
  have hl : lv_has ls 3 [(0, .ref xh), (1, .int p1), (2, .int p2)] := hl
  rw [tw_X6_cell] at h
  refine lv_iload_n hx hb dX6_cell_0 rfl (lv_at hl 1 rfl) ?_
  obtain ⟨q1, hq1, h⟩ := ob h
  refine kS (As := [.int p1]) (rest := []) (w2 := cTT xh x_text noh x_spare x_acts x_slots x_sights x_search x_pairs x_worth x_tray x_draft x_let x_kept x_seed ++ (cSp noh noa cy.1 no ++ (cTr x_tray tra trb trc cy.1 tr))) (n := 1) ⟨hx, hb, hml, hown, hts⟩ (c_X6_isCell l D cy p1 q1 hq1) gX6_cell_X6_isCell rfl (by decide +kernel) ⟨by rw [hRf]; exact Nat.le_of_ble_eq_true rfl, by rw [hRl]; exact Nat.le_of_ble_eq_true rfl⟩ hE hP hD hS hA [] rfl rfl rfl rfl rfl hl.1 rfl (Nat.le_of_ble_eq_true rfl) dX6_cell_1 ⟨Nat.zero_le _, Nat.zero_le _⟩ (fun H locs hP hD hS => ?_)
  refine lv_if_ne (tgt := 9) hx hb dX6_cell_4 (by decide) (fun c2 => ?_) (fun c2 => ?_)
  · have h := oif h c2
    refine lv_iload_n hx hb dX6_cell_9 rfl (lv_at hl 2 rfl) ?_
    by_cases c4 : p2 = 0
    · have h := oit h c4
      refine lv_tableIn (off := 30) (tgt := 40) hx hb dX6_cell_10 (by rw [c4]; decide) (by rw [c4]; decide) (by rw [c4]; decide) (by decide) ?_
      refine lv_aload_n hx hb dX6_cell_40 rfl (lv_at hl 0 rfl) ?_
      refine va_get (D := D) (ci := 6) (v := .ref x_tray) (C := RX6) (T := TX6) (N := 14) hx hb hts hiX6 hown hE.1 hP 0 rfl rfl 2 (by decide) (hts (.fieldLink RX6 16 "TiltTray" "tray" "LTiltTray$Tray;") (by decide +kernel)) (fun _ h9 => h9) rfl dX6_cell_41 ?_
      refine lv_iload_n hx hb dX6_cell_44 rfl (lv_at hl 1 rfl) ?_
      obtain ⟨q3, hq3, h⟩ := ob h
      refine kV (As := [.int p1]) (rest := []) (w2 := cTT xh x_text noh x_spare x_acts x_slots x_sights x_search x_pairs x_worth x_tray x_draft x_let x_kept x_seed ++ (cSp noh noa cy.1 no ++ (cTr x_tray tra trb trc cy.1 tr))) (n := 1) (q0 := 3) ⟨hx, hb, hml, hown, hts⟩ (c_X5_partAt l D cy x_tray tra trb trc tr p1 q3 hq3) gX6_cell_X5_partAt rfl (by decide +kernel) ⟨by rw [hRf]; exact Nat.le_of_ble_eq_true rfl, by rw [hRl]; exact Nat.le_of_ble_eq_true rfl⟩ hE hP hD hS hA [3, 4, 5, 6] rfl rfl rfl rfl rfl rfl rfl hl.1 rfl (Nat.le_of_ble_eq_true rfl) dX6_cell_45 ⟨Nat.zero_le _, Nat.zero_le _⟩ (fun H locs hP hD hS => ?_)
      obtain rfl := Option.some.inj h
      rw [hQ]; exact ct_iret hx hb hr hlocks hP hS rfl dX6_cell_48
    have h := oif h c4
    by_cases c6 : p2 = 1
    · have h := oit h c6
      refine lv_tableIn (off := 39) (tgt := 49) hx hb dX6_cell_10 (by rw [c6]; decide) (by rw [c6]; decide) (by rw [c6]; decide) (by decide) ?_
      refine lv_aload_n hx hb dX6_cell_49 rfl (lv_at hl 0 rfl) ?_
      refine va_get (D := D) (ci := 6) (v := .ref noh) (C := RX6) (T := TX6) (N := 14) hx hb hts hiX6 hown hE.1 hP 0 rfl rfl 4 (by decide) (hts (.fieldLink RX6 26 "TiltTray" "now" "LTiltTray$Spot;") (by decide +kernel)) (fun _ h9 => h9) rfl dX6_cell_50 ?_
      refine lv_iload_n hx hb dX6_cell_53 rfl (lv_at hl 1 rfl) ?_
      obtain ⟨q5, hq5, h⟩ := ob h
      refine kV (As := [.int p1]) (rest := []) (w2 := cTT xh x_text noh x_spare x_acts x_slots x_sights x_search x_pairs x_worth x_tray x_draft x_let x_kept x_seed ++ (cSp noh noa cy.1 no ++ (cTr x_tray tra trb trc cy.1 tr))) (n := 1) (q0 := 1) ⟨hx, hb, hml, hown, hts⟩ (c_X4_marbleAt l D cy noh noa no p1 q5 hq5) gX6_cell_X4_marbleAt rfl (by decide +kernel) ⟨by rw [hRf]; exact Nat.le_of_ble_eq_true rfl, by rw [hRl]; exact Nat.le_of_ble_eq_true rfl⟩ hE hP hD hS hA [1, 2] rfl rfl rfl rfl rfl rfl rfl hl.1 rfl (Nat.le_of_ble_eq_true rfl) dX6_cell_54 ⟨Nat.zero_le _, Nat.zero_le _⟩ (fun H locs hP hD hS => ?_)
      obtain rfl := Option.some.inj h
      rw [hQ]; exact ct_iret hx hb hr hlocks hP hS rfl dX6_cell_57
    have h := oif h c6
    by_cases c8 : p2 = 2
    · have h := oit h c8
      refine lv_tableIn (off := 48) (tgt := 58) hx hb dX6_cell_10 (by rw [c8]; decide) (by rw [c8]; decide) (by rw [c8]; decide) (by decide) ?_
      refine lv_aload_n hx hb dX6_cell_58 rfl (lv_at hl 0 rfl) ?_
      refine va_get (D := D) (ci := 6) (v := .ref noh) (C := RX6) (T := TX6) (N := 14) hx hb hts hiX6 hown hE.1 hP 0 rfl rfl 4 (by decide) (hts (.fieldLink RX6 26 "TiltTray" "now" "LTiltTray$Spot;") (by decide +kernel)) (fun _ h9 => h9) rfl dX6_cell_59 ?_
      refine va_get (D := D) (ci := 4) (v := .int no.2.2.1) (C := RX4) (T := TX4) (N := 5) hx hb hts hiX4 hown hE.1 hP 1 rfl rfl 2 (by decide) (hts (.fieldLink RX6 109 "TiltTray$Spot" "full" "I") (by decide +kernel)) (fun _ h9 => h9) rfl dX6_cell_62 ?_
      refine lv_iload_n hx hb dX6_cell_65 rfl (lv_at hl 1 rfl) ?_
      obtain ⟨q7, hq7, h⟩ := ob h
      refine kS (As := [.int no.2.2.1, .int p1]) (rest := []) (w2 := cTT xh x_text noh x_spare x_acts x_slots x_sights x_search x_pairs x_worth x_tray x_draft x_let x_kept x_seed ++ (cSp noh noa cy.1 no ++ (cTr x_tray tra trb trc cy.1 tr))) (n := 2) ⟨hx, hb, hml, hown, hts⟩ (c_X6_bitOf l D cy no.2.2.1 p1 q7 hq7) gX6_cell_X6_bitOf rfl (by decide +kernel) ⟨by rw [hRf]; exact Nat.le_of_ble_eq_true rfl, by rw [hRl]; exact Nat.le_of_ble_eq_true rfl⟩ hE hP hD hS hA [] rfl rfl rfl rfl rfl hl.1 rfl (Nat.le_of_ble_eq_true rfl) dX6_cell_66 ⟨Nat.zero_le _, Nat.zero_le _⟩ (fun H locs hP hD hS => ?_)
      obtain rfl := Option.some.inj h
      rw [hQ]; exact ct_iret hx hb hr hlocks hP hS rfl dX6_cell_69
    have h := oif h c8
    by_cases c10 : p2 = 3
    · have h := oit h c10
      refine lv_tableIn (off := 60) (tgt := 70) hx hb dX6_cell_10 (by rw [c10]; decide) (by rw [c10]; decide) (by rw [c10]; decide) (by decide) ?_
      refine lv_aload_n hx hb dX6_cell_70 rfl (lv_at hl 0 rfl) ?_
      refine va_get (D := D) (ci := 6) (v := .ref noh) (C := RX6) (T := TX6) (N := 14) hx hb hts hiX6 hown hE.1 hP 0 rfl rfl 4 (by decide) (hts (.fieldLink RX6 26 "TiltTray" "now" "LTiltTray$Spot;") (by decide +kernel)) (fun _ h9 => h9) rfl dX6_cell_71 ?_
      refine va_get (D := D) (ci := 4) (v := .int no.2.2.2.1) (C := RX4) (T := TX4) (N := 5) hx hb hts hiX4 hown hE.1 hP 1 rfl rfl 3 (by decide) (hts (.fieldLink RX6 116 "TiltTray$Spot" "wedged" "I") (by decide +kernel)) (fun _ h9 => h9) rfl dX6_cell_74 ?_
      refine lv_iload_n hx hb dX6_cell_77 rfl (lv_at hl 1 rfl) ?_
      obtain ⟨q9, hq9, h⟩ := ob h
      refine kS (As := [.int no.2.2.2.1, .int p1]) (rest := []) (w2 := cTT xh x_text noh x_spare x_acts x_slots x_sights x_search x_pairs x_worth x_tray x_draft x_let x_kept x_seed ++ (cSp noh noa cy.1 no ++ (cTr x_tray tra trb trc cy.1 tr))) (n := 2) ⟨hx, hb, hml, hown, hts⟩ (c_X6_bitOf l D cy no.2.2.2.1 p1 q9 hq9) gX6_cell_X6_bitOf rfl (by decide +kernel) ⟨by rw [hRf]; exact Nat.le_of_ble_eq_true rfl, by rw [hRl]; exact Nat.le_of_ble_eq_true rfl⟩ hE hP hD hS hA [] rfl rfl rfl rfl rfl hl.1 rfl (Nat.le_of_ble_eq_true rfl) dX6_cell_78 ⟨Nat.zero_le _, Nat.zero_le _⟩ (fun H locs hP hD hS => ?_)
      obtain rfl := Option.some.inj h
      rw [hQ]; exact ct_iret hx hb hr hlocks hP hS rfl dX6_cell_81
    have h := oif h c10
    refine lv_tableOut (tgt := 82) hx hb dX6_cell_10 (sw_out 3 (by decide) (fun k hk => by rcases (show k = 0 ∨ k = 1 ∨ k = 2 ∨ k = 3 by omega) with rfl | rfl | rfl | rfl <;> assumption)) (by decide) ?_
    refine lv_bipush (v := (-2)) hx hb dX6_cell_82 (by decide) ?_
    obtain rfl := Option.some.inj h
    rw [hQ]; exact ct_iret hx hb hr hlocks hP hS rfl dX6_cell_84
  · have h := oit h c2
    refine lv_iconst (v := (-1)) hx hb dX6_cell_7 (by decide) ?_
    obtain rfl := Option.some.inj h
    rw [hQ]; exact ct_iret hx hb hr hlocks hP hS rfl dX6_cell_8

def tw_X6_tryTilt (no : SpS) (sr : SpS) (tr : TrS) (p1 : Int32) : Option (SpS) :=
  (tw_X4_take sr no).bind (fun q1 => (tw_X5_roll tr q1 p1).bind (fun q2 => some (q2)))
set_option maxHeartbeats 4000000 in
set_option maxRecDepth 100000 in
theorem c_X6_tryTilt (l : Launch) (D : va_G) (cy : Cy) (xh : Nat) (x_text : Nat) (noh : Nat) (noa : Nat) (srh : Nat) (sra : Nat) (x_acts : Nat) (x_slots : Nat) (x_sights : Nat) (x_search : Nat) (x_pairs : Nat) (x_worth : Nat) (x_tray : Nat) (tra : Nat) (trb : Nat) (trc : Nat) (x_draft : Nat) (no : SpS) (sr : SpS) (tr : TrS) (x_let : Int32) (x_kept : Int32) (x_seed : Int64) (p1 : Int32) (res : SpS) (h : tw_X6_tryTilt no sr tr p1 = some res) : Ct l yX6_tryTilt wsX6_tryTilt 4 93 D cy [.ref xh, .int p1] (cTT xh x_text noh srh x_acts x_slots x_sights x_search x_pairs x_worth x_tray x_draft x_let x_kept x_seed ++ (cSp noh noa cy.1 no ++ (cSp srh sra cy.1 sr ++ (cTr x_tray tra trb trc cy.1 tr)))) (cTT xh x_text noh srh x_acts x_slots x_sights x_search x_pairs x_worth x_tray x_draft x_let x_kept x_seed ++ (cSp noh noa cy.1 no ++ (cSp srh sra cy.1 res ++ (cTr x_tray tra trb trc cy.1 tr)))) (none) := by
  refine Ct.ofW (cc := cX6_tryTilt) (maxL := 2) (ret := none) (by decide) rfl (Nat.le_of_ble_eq_true rfl) ?_
  intro p e R s m args below meth c A Q ls hRf hRl hQ hx hb hr hml hts hown hlocks hE hP hD hS hA hl
  have hiX6 : ∀ w ∈ u_ws RX6 TX6 14, w ∈ wsX6_tryTilt := by decide +kernel
  have hl : lv_has ls 2 [(0, .ref xh), (1, .int p1)] := hl
  rw [tw_X6_tryTilt] at h
  refine lv_aload_n hx hb dX6_tryTilt_0 rfl (lv_at hl 0 rfl) ?_
  refine va_get (D := D) (ci := 6) (v := .ref srh) (C := RX6) (T := TX6) (N := 14) hx hb hts hiX6 hown hE.1 hP 0 rfl rfl 5 (by decide) (hts (.fieldLink RX6 30 "TiltTray" "spare" "LTiltTray$Spot;") (by decide +kernel)) (fun _ h9 => h9) rfl dX6_tryTilt_1 ?_
  refine lv_aload_n hx hb dX6_tryTilt_4 rfl (lv_at hl 0 rfl) ?_
  refine va_get (D := D) (ci := 6) (v := .ref noh) (C := RX6) (T := TX6) (N := 14) hx hb hts hiX6 hown hE.1 hP 0 rfl rfl 4 (by decide) (hts (.fieldLink RX6 26 "TiltTray" "now" "LTiltTray$Spot;") (by decide +kernel)) (fun _ h9 => h9) rfl dX6_tryTilt_5 ?_
  obtain ⟨q1, hq1, h⟩ := ob h
  refine kV (As := [.ref noh]) (rest := []) (w2 := cTT xh x_text noh srh x_acts x_slots x_sights x_search x_pairs x_worth x_tray x_draft x_let x_kept x_seed ++ (cSp noh noa cy.1 no ++ (cSp srh sra cy.1 q1 ++ (cTr x_tray tra trb trc cy.1 tr)))) (n := 1) (q0 := 3) ⟨hx, hb, hml, hown, hts⟩ (c_X4_take l D cy srh sra noh noa sr no q1 hq1) gX6_tryTilt_X4_take rfl (by decide +kernel) ⟨by rw [hRf]; exact Nat.le_of_ble_eq_true rfl, by rw [hRl]; exact Nat.le_of_ble_eq_true rfl⟩ hE hP hD hS hA [3, 4, 1, 2] rfl rfl rfl rfl rfl rfl rfl hl.1 rfl (Nat.le_of_ble_eq_true rfl) dX6_tryTilt_8 ⟨Nat.zero_le _, Nat.zero_le _⟩ (fun H locs hP hD hS => ?_)
  refine lv_aload_n hx hb dX6_tryTilt_11 rfl (lv_at hl 0 rfl) ?_
  refine va_get (D := D) (ci := 6) (v := .ref x_tray) (C := RX6) (T := TX6) (N := 14) hx hb hts hiX6 hown hE.1 hP 0 rfl rfl 2 (by decide) (hts (.fieldLink RX6 16 "TiltTray" "tray" "LTiltTray$Tray;") (by decide +kernel)) (fun _ h9 => h9) rfl dX6_tryTilt_12 ?_
  refine lv_aload_n hx hb dX6_tryTilt_15 rfl (lv_at hl 0 rfl) ?_
  refine va_get (D := D) (ci := 6) (v := .ref srh) (C := RX6) (T := TX6) (N := 14) hx hb hts hiX6 hown hE.1 hP 0 rfl rfl 5 (by decide) (hts (.fieldLink RX6 30 "TiltTray" "spare" "LTiltTray$Spot;") (by decide +kernel)) (fun _ h9 => h9) rfl dX6_tryTilt_16 ?_
  refine lv_iload_n hx hb dX6_tryTilt_19 rfl (lv_at hl 1 rfl) ?_
  obtain ⟨q2, hq2, h⟩ := ob h
  refine kV (As := [.ref srh, .int p1]) (rest := []) (w2 := cTT xh x_text noh srh x_acts x_slots x_sights x_search x_pairs x_worth x_tray x_draft x_let x_kept x_seed ++ (cSp noh noa cy.1 no ++ (cSp srh sra cy.1 q2 ++ (cTr x_tray tra trb trc cy.1 tr)))) (n := 2) (q0 := 5) ⟨hx, hb, hml, hown, hts⟩ (c_X5_roll l D cy x_tray tra trb trc srh sra tr q1 p1 q2 hq2) gX6_tryTilt_X5_roll rfl (by decide +kernel) ⟨by rw [hRf]; exact Nat.le_of_ble_eq_true rfl, by rw [hRl]; exact Nat.le_of_ble_eq_true rfl⟩ hE hP hD hS hA [5, 6, 7, 8, 3, 4] rfl rfl rfl rfl rfl rfl rfl hl.1 rfl (Nat.le_of_ble_eq_true rfl) dX6_tryTilt_20 ⟨Nat.zero_le _, Nat.zero_le _⟩ (fun H locs hP hD hS => ?_)
  obtain rfl := Option.some.inj h
  rw [hQ]; exact ct_vret hx hb hr hlocks hP hS rfl dX6_tryTilt_23

def tw_X6_restOf (no : SpS) (sr : SpS) (tr : TrS) (p1 : Int32) (p2 : Int32) : Option (Int32 × SpS) :=
  (tw_X6_tryTilt no sr tr p2).bind (fun q1 => if ix p1 4 = true then (some (q1.1 p1.toNatClampNeg, q1)) else none)
set_option maxHeartbeats 4000000 in
set_option maxRecDepth 100000 in
theorem c_X6_restOf (l : Launch) (D : va_G) (cy : Cy) (xh : Nat) (x_text : Nat) (noh : Nat) (noa : Nat) (srh : Nat) (sra : Nat) (x_acts : Nat) (x_slots : Nat) (x_sights : Nat) (x_search : Nat) (x_pairs : Nat) (x_worth : Nat) (x_tray : Nat) (tra : Nat) (trb : Nat) (trc : Nat) (x_draft : Nat) (no : SpS) (sr : SpS) (tr : TrS) (x_let : Int32) (x_kept : Int32) (x_seed : Int64) (p1 : Int32) (p2 : Int32) (res : Int32 × SpS) (h : tw_X6_restOf no sr tr p1 p2 = some res) : Ct l yX6_restOf wsX6_restOf 5 114 D cy [.ref xh, .int p1, .int p2] (cTT xh x_text noh srh x_acts x_slots x_sights x_search x_pairs x_worth x_tray x_draft x_let x_kept x_seed ++ (cSp noh noa cy.1 no ++ (cSp srh sra cy.1 sr ++ (cTr x_tray tra trb trc cy.1 tr)))) (cTT xh x_text noh srh x_acts x_slots x_sights x_search x_pairs x_worth x_tray x_draft x_let x_kept x_seed ++ (cSp noh noa cy.1 no ++ (cSp srh sra cy.1 res.2 ++ (cTr x_tray tra trb trc cy.1 tr)))) (some (.int res.1)) := by
  refine Ct.ofW (cc := cX6_restOf) (maxL := 3) (ret := (some .int)) (by decide) rfl (Nat.le_of_ble_eq_true rfl) ?_
  intro p e R s m args below meth c A Q ls hRf hRl hQ hx hb hr hml hts hown hlocks hE hP hD hS hA hl
  have hiX4 : ∀ w ∈ u_ws RX4 TX4 5, w ∈ wsX6_restOf := by decide +kernel
  have hiX6 : ∀ w ∈ u_ws RX6 TX6 14, w ∈ wsX6_restOf := by decide +kernel
  have hl : lv_has ls 3 [(0, .ref xh), (1, .int p1), (2, .int p2)] := hl
  rw [tw_X6_restOf] at h
  refine lv_aload_n hx hb dX6_restOf_0 rfl (lv_at hl 0 rfl) ?_
  refine lv_iload_n hx hb dX6_restOf_1 rfl (lv_at hl 2 rfl) ?_
  obtain ⟨q1, hq1, h⟩ := ob h
  refine kV (As := [.int p2]) (rest := []) (w2 := cTT xh x_text noh srh x_acts x_slots x_sights x_search x_pairs x_worth x_tray x_draft x_let x_kept x_seed ++ (cSp noh noa cy.1 no ++ (cSp srh sra cy.1 q1 ++ (cTr x_tray tra trb trc cy.1 tr)))) (n := 1) (q0 := 0) ⟨hx, hb, hml, hown, hts⟩ (c_X6_tryTilt l D cy xh x_text noh noa srh sra x_acts x_slots x_sights x_search x_pairs x_worth x_tray tra trb trc x_draft no sr tr x_let x_kept x_seed p2 q1 hq1) gX6_restOf_X6_tryTilt rfl (by decide +kernel) ⟨by rw [hRf]; exact Nat.le_of_ble_eq_true rfl, by rw [hRl]; exact Nat.le_of_ble_eq_true rfl⟩ hE hP hD hS hA [0, 1, 2, 3, 4, 5, 6, 7, 8] rfl rfl rfl rfl rfl rfl rfl hl.1 rfl (Nat.le_of_ble_eq_true rfl) dX6_restOf_2 ⟨Nat.zero_le _, Nat.zero_le _⟩ (fun H locs hP hD hS => ?_)
  refine lv_aload_n hx hb dX6_restOf_5 rfl (lv_at hl 0 rfl) ?_
  refine va_get (D := D) (ci := 6) (v := .ref srh) (C := RX6) (T := TX6) (N := 14) hx hb hts hiX6 hown hE.1 hP 0 rfl rfl 5 (by decide) (hts (.fieldLink RX6 30 "TiltTray" "spare" "LTiltTray$Spot;") (by decide +kernel)) (fun _ h9 => h9) rfl dX6_restOf_6 ?_
  refine va_get (D := D) (ci := 4) (v := .ref sra) (C := RX4) (T := TX4) (N := 5) hx hb hts hiX4 hown hE.1 hP 3 rfl rfl 0 (by decide) (hts (.fieldLink RX6 125 "TiltTray$Spot" "at" "[I") (by decide +kernel)) (fun _ h9 => h9) rfl dX6_restOf_9 ?_
  refine lv_iload_n hx hb dX6_restOf_12 rfl (lv_at hl 1 rfl) ?_
  obtain ⟨g2, h⟩ := og h
  refine va_iald hx hb hE.1 hP 4 0 rfl rfl (ix_in g2) dX6_restOf_13 ?_
  obtain rfl := Option.some.inj h
  rw [hQ]; exact ct_iret hx hb hr hlocks hP hS rfl dX6_restOf_14

def tw_X6_waysElsewhere_4 (no : SpS) (tr : TrS) (p1 : Int32) : Nat → Int32 → Int32 → SpS → Option (Int32 × SpS)
  | 0, _, _, _ => none
  | n + 1, x2, x3, sr =>
    if 4 ≤ x3 then (some (x2, sr)) else ((tw_X6_restOf no sr tr p1 x3).bind (fun q2 => if ix p1 4 = true then (if q2.1 = (no.1 p1.toNatClampNeg) then ((tw_X6_waysElsewhere_4 no tr p1 n) x2 (x3 + 1) q2.2) else ((tw_X6_waysElsewhere_4 no tr p1 n) (x2 ||| (1 <<< (x3 &&& 31))) (x3 + 1) q2.2)) else none))
def tw_X6_waysElsewhere (no : SpS) (sr : SpS) (tr : TrS) (p1 : Int32) : Option (Int32 × SpS) :=
  tw_X6_waysElsewhere_4 no tr p1 5 0 0 sr
set_option maxHeartbeats 4000000 in
set_option maxRecDepth 100000 in
theorem c_X6_waysElsewhere (l : Launch) (D : va_G) (cy : Cy) (xh : Nat) (x_text : Nat) (noh : Nat) (noa : Nat) (srh : Nat) (sra : Nat) (x_acts : Nat) (x_slots : Nat) (x_sights : Nat) (x_search : Nat) (x_pairs : Nat) (x_worth : Nat) (x_tray : Nat) (tra : Nat) (trb : Nat) (trc : Nat) (x_draft : Nat) (no : SpS) (sr : SpS) (tr : TrS) (x_let : Int32) (x_kept : Int32) (x_seed : Int64) (p1 : Int32) (res : Int32 × SpS) (h : tw_X6_waysElsewhere no sr tr p1 = some res) : Ct l yX6_waysElsewhere wsX6_waysElsewhere 6 136 D cy [.ref xh, .int p1] (cTT xh x_text noh srh x_acts x_slots x_sights x_search x_pairs x_worth x_tray x_draft x_let x_kept x_seed ++ (cSp noh noa cy.1 no ++ (cSp srh sra cy.1 sr ++ (cTr x_tray tra trb trc cy.1 tr)))) (cTT xh x_text noh srh x_acts x_slots x_sights x_search x_pairs x_worth x_tray x_draft x_let x_kept x_seed ++ (cSp noh noa cy.1 no ++ (cSp srh sra cy.1 res.2 ++ (cTr x_tray tra trb trc cy.1 tr)))) (some (.int res.1)) := by
  refine Ct.ofW (cc := cX6_waysElsewhere) (maxL := 4) (ret := (some .int)) (by decide) rfl (Nat.le_of_ble_eq_true rfl) ?_
  intro p e R s m args below meth c A Q ls hRf hRl hQ hx hb hr hml hts hown hlocks hE hP hD hS hA hl
  have hiX4 : ∀ w ∈ u_ws RX4 TX4 5, w ∈ wsX6_waysElsewhere := by decide +kernel
  have hiX6 : ∀ w ∈ u_ws RX6 TX6 14, w ∈ wsX6_waysElsewhere := by decide +kernel
  have hl : lv_has ls 4 [(0, .ref xh), (1, .int p1)] := hl
  rw [tw_X6_waysElsewhere] at h
  have L4 : ∀ (n : Nat) (x2 : Int32) (x3 : Int32) (sr : SpS)  (H : Heap) (locs : List Loc) (ls : Array Slot), lv_has ls 4 [(0, .ref xh), (1, .int p1), (2, .int x2), (3, .int x3)] → va_P D vwCl (cTT xh x_text noh srh x_acts x_slots x_sights x_search x_pairs x_worth x_tray x_draft x_let x_kept x_seed ++ (cSp noh noa cy.1 no ++ (cSp srh sra cy.1 sr ++ (cTr x_tray tra trb trc cy.1 tr)))) H → va_D A (cTT xh x_text noh srh x_acts x_slots x_sights x_search x_pairs x_worth x_tray x_draft x_let x_kept x_seed ++ (cSp noh noa cy.1 no ++ (cSp srh sra cy.1 sr ++ (cTr x_tray tra trb trc cy.1 tr)))) → va_S A s.heap H locs → tw_X6_waysElsewhere_4 no tr p1 n x2 x3 sr = some res → W p l e R s m args below meth c H locs 0 0 Q (F0 m 4 ls []) := by
    intro n4
    induction n4 with
    | zero =>
      intro x2 x3 sr  H locs ls hl hP hD hS h
      exact absurd h (by rw [tw_X6_waysElsewhere_4]; exact fun q => by cases q)
    | succ n4 ih4 =>
      intro x2 x3 sr  H locs ls hl hP hD hS h
      rw [tw_X6_waysElsewhere_4] at h
      refine lv_iload_n hx hb dX6_waysElsewhere_4 rfl (lv_at hl 3 rfl) ?_
      refine lv_iconst (v := 4) hx hb dX6_waysElsewhere_5 (by decide) ?_
      refine lv_icmp_ge (tgt := 39) hx hb dX6_waysElsewhere_6 (by decide) (fun c1 => ?_) (fun c1 => ?_)
      · have h := oit h c1
        refine lv_iload_n hx hb dX6_waysElsewhere_39 rfl (lv_at hl 2 rfl) ?_
        obtain rfl := Option.some.inj h
        rw [hQ]; exact ct_iret hx hb hr hlocks hP hS rfl dX6_waysElsewhere_40
      · have h := oif h c1
        refine lv_aload_n hx hb dX6_waysElsewhere_9 rfl (lv_at hl 0 rfl) ?_
        refine lv_iload_n hx hb dX6_waysElsewhere_10 rfl (lv_at hl 1 rfl) ?_
        refine lv_iload_n hx hb dX6_waysElsewhere_11 rfl (lv_at hl 3 rfl) ?_
        obtain ⟨q2, hq2, h⟩ := ob h
        refine kV (As := [.int p1, .int x3]) (rest := []) (w2 := cTT xh x_text noh srh x_acts x_slots x_sights x_search x_pairs x_worth x_tray x_draft x_let x_kept x_seed ++ (cSp noh noa cy.1 no ++ (cSp srh sra cy.1 q2.2 ++ (cTr x_tray tra trb trc cy.1 tr)))) (n := 2) (q0 := 0) ⟨hx, hb, hml, hown, hts⟩ (c_X6_restOf l D cy xh x_text noh noa srh sra x_acts x_slots x_sights x_search x_pairs x_worth x_tray tra trb trc x_draft no sr tr x_let x_kept x_seed p1 x3 q2 hq2) gX6_waysElsewhere_X6_restOf rfl (by decide +kernel) ⟨by rw [hRf]; exact Nat.le_of_ble_eq_true rfl, by rw [hRl]; exact Nat.le_of_ble_eq_true rfl⟩ hE hP hD hS hA [0, 1, 2, 3, 4, 5, 6, 7, 8] rfl rfl rfl rfl rfl rfl rfl hl.1 rfl (Nat.le_of_ble_eq_true rfl) dX6_waysElsewhere_12 ⟨Nat.zero_le _, Nat.zero_le _⟩ (fun H locs hP hD hS => ?_)
        refine lv_aload_n hx hb dX6_waysElsewhere_15 rfl (lv_at hl 0 rfl) ?_
        refine va_get (D := D) (ci := 6) (v := .ref noh) (C := RX6) (T := TX6) (N := 14) hx hb hts hiX6 hown hE.1 hP 0 rfl rfl 4 (by decide) (hts (.fieldLink RX6 26 "TiltTray" "now" "LTiltTray$Spot;") (by decide +kernel)) (fun _ h9 => h9) rfl dX6_waysElsewhere_16 ?_
        refine va_get (D := D) (ci := 4) (v := .ref noa) (C := RX4) (T := TX4) (N := 5) hx hb hts hiX4 hown hE.1 hP 1 rfl rfl 0 (by decide) (hts (.fieldLink RX6 125 "TiltTray$Spot" "at" "[I") (by decide +kernel)) (fun _ h9 => h9) rfl dX6_waysElsewhere_19 ?_
        refine lv_iload_n hx hb dX6_waysElsewhere_22 rfl (lv_at hl 1 rfl) ?_
        obtain ⟨g3, h⟩ := og h
        refine va_iald hx hb hE.1 hP 2 0 rfl rfl (ix_in g3) dX6_waysElsewhere_23 ?_
        refine lv_icmp_eq (tgt := 33) hx hb dX6_waysElsewhere_24 (by decide) (fun c4 => ?_) (fun c4 => ?_)
        · have h := oit h c4
          refine lv_iinc (v := x3 + 1) (lv' := [(3, .int (x3 + 1)), (0, .ref xh), (1, .int p1), (2, .int x2)]) hx hb dX6_waysElsewhere_33 hl (k := 3) rfl rfl (by decide) rfl (fun ls hl => ?_)
          refine lv_goto (tgt := 4) hx hb dX6_waysElsewhere_36 (by decide) ?_
          exact ih4 x2 (x3 + 1) q2.2 _ _ _ (lv_sub hl [1, 2, 3, 0] rfl) hP hD hS h
        · have h := oif h c4
          refine lv_iload_n hx hb dX6_waysElsewhere_27 rfl (lv_at hl 2 rfl) ?_
          refine lv_iconst (v := 1) hx hb dX6_waysElsewhere_28 (by decide) ?_
          refine lv_iload_n hx hb dX6_waysElsewhere_29 rfl (lv_at hl 3 rfl) ?_
          refine lv_ishl hx hb dX6_waysElsewhere_30 ?_
          refine lv_ior hx hb dX6_waysElsewhere_31 ?_
          refine lv_istore_n (lv' := [(2, .int (x2 ||| (1 <<< (x3 &&& 31)))), (0, .ref xh), (1, .int p1), (3, .int x3)]) hx hb dX6_waysElsewhere_32 rfl hl (by decide) rfl (fun ls hl => ?_)
          refine lv_iinc (v := x3 + 1) (lv' := [(3, .int (x3 + 1)), (2, .int (x2 ||| (1 <<< (x3 &&& 31)))), (0, .ref xh), (1, .int p1)]) hx hb dX6_waysElsewhere_33 hl (k := 3) rfl rfl (by decide) rfl (fun ls hl => ?_)
          refine lv_goto (tgt := 4) hx hb dX6_waysElsewhere_36 (by decide) ?_
          exact ih4 (x2 ||| (1 <<< (x3 &&& 31))) (x3 + 1) q2.2 _ _ _ (lv_sub hl [2, 3, 1, 0] rfl) hP hD hS h
  refine lv_iconst (v := 0) hx hb dX6_waysElsewhere_0 (by decide) ?_
  refine lv_istore_n (lv' := [(2, .int 0), (0, .ref xh), (1, .int p1)]) hx hb dX6_waysElsewhere_1 rfl hl (by decide) rfl (fun ls hl => ?_)
  refine lv_iconst (v := 0) hx hb dX6_waysElsewhere_2 (by decide) ?_
  refine lv_istore_n (lv' := [(3, .int 0), (2, .int 0), (0, .ref xh), (1, .int p1)]) hx hb dX6_waysElsewhere_3 rfl hl (by decide) rfl (fun ls hl => ?_)
  exact L4 5 0 0 sr _ _ _ (lv_sub hl [2, 3, 1, 0] rfl) hP hD hS h

def tw_X6_waysOfFall_4 (no : SpS) (tr : TrS) (p1 : Int32) : Nat → Int32 → Int32 → SpS → Option (Int32 × SpS)
  | 0, _, _, _ => none
  | n + 1, x2, x3, sr =>
    if 4 ≤ x3 then (some (x2, sr)) else ((tw_X4_isIn no p1).bind (fun q2 => if q2 = 0 then ((tw_X6_restOf no sr tr p1 x3).bind (fun q4 => if q4.1 < 100 then ((tw_X6_waysOfFall_4 no tr p1 n) x2 (x3 + 1) q4.2) else ((tw_X6_waysOfFall_4 no tr p1 n) (x2 ||| (1 <<< (x3 &&& 31))) (x3 + 1) q4.2))) else (some (x2, sr))))
def tw_X6_waysOfFall (no : SpS) (sr : SpS) (tr : TrS) (p1 : Int32) : Option (Int32 × SpS) :=
  tw_X6_waysOfFall_4 no tr p1 5 0 0 sr
set_option maxHeartbeats 4000000 in
set_option maxRecDepth 100000 in
theorem c_X6_waysOfFall (l : Launch) (D : va_G) (cy : Cy) (xh : Nat) (x_text : Nat) (noh : Nat) (noa : Nat) (srh : Nat) (sra : Nat) (x_acts : Nat) (x_slots : Nat) (x_sights : Nat) (x_search : Nat) (x_pairs : Nat) (x_worth : Nat) (x_tray : Nat) (tra : Nat) (trb : Nat) (trc : Nat) (x_draft : Nat) (no : SpS) (sr : SpS) (tr : TrS) (x_let : Int32) (x_kept : Int32) (x_seed : Int64) (p1 : Int32) (res : Int32 × SpS) (h : tw_X6_waysOfFall no sr tr p1 = some res) : Ct l yX6_waysOfFall wsX6_waysOfFall 6 136 D cy [.ref xh, .int p1] (cTT xh x_text noh srh x_acts x_slots x_sights x_search x_pairs x_worth x_tray x_draft x_let x_kept x_seed ++ (cSp noh noa cy.1 no ++ (cSp srh sra cy.1 sr ++ (cTr x_tray tra trb trc cy.1 tr)))) (cTT xh x_text noh srh x_acts x_slots x_sights x_search x_pairs x_worth x_tray x_draft x_let x_kept x_seed ++ (cSp noh noa cy.1 no ++ (cSp srh sra cy.1 res.2 ++ (cTr x_tray tra trb trc cy.1 tr)))) (some (.int res.1)) := by
  refine Ct.ofW (cc := cX6_waysOfFall) (maxL := 4) (ret := (some .int)) (by decide) rfl (Nat.le_of_ble_eq_true rfl) ?_
  intro p e R s m args below meth c A Q ls hRf hRl hQ hx hb hr hml hts hown hlocks hE hP hD hS hA hl
  have hiX6 : ∀ w ∈ u_ws RX6 TX6 14, w ∈ wsX6_waysOfFall := by decide +kernel
  have hl : lv_has ls 4 [(0, .ref xh), (1, .int p1)] := hl
  rw [tw_X6_waysOfFall] at h
  have L4 : ∀ (n : Nat) (x2 : Int32) (x3 : Int32) (sr : SpS)  (H : Heap) (locs : List Loc) (ls : Array Slot), lv_has ls 4 [(0, .ref xh), (1, .int p1), (2, .int x2), (3, .int x3)] → va_P D vwCl (cTT xh x_text noh srh x_acts x_slots x_sights x_search x_pairs x_worth x_tray x_draft x_let x_kept x_seed ++ (cSp noh noa cy.1 no ++ (cSp srh sra cy.1 sr ++ (cTr x_tray tra trb trc cy.1 tr)))) H → va_D A (cTT xh x_text noh srh x_acts x_slots x_sights x_search x_pairs x_worth x_tray x_draft x_let x_kept x_seed ++ (cSp noh noa cy.1 no ++ (cSp srh sra cy.1 sr ++ (cTr x_tray tra trb trc cy.1 tr)))) → va_S A s.heap H locs → tw_X6_waysOfFall_4 no tr p1 n x2 x3 sr = some res → W p l e R s m args below meth c H locs 0 0 Q (F0 m 4 ls []) := by
    intro n4
    induction n4 with
    | zero =>
      intro x2 x3 sr  H locs ls hl hP hD hS h
      exact absurd h (by rw [tw_X6_waysOfFall_4]; exact fun q => by cases q)
    | succ n4 ih4 =>
      intro x2 x3 sr  H locs ls hl hP hD hS h
      rw [tw_X6_waysOfFall_4] at h
      refine lv_iload_n hx hb dX6_waysOfFall_4 rfl (lv_at hl 3 rfl) ?_
      refine lv_iconst (v := 4) hx hb dX6_waysOfFall_5 (by decide) ?_
      refine lv_icmp_ge (tgt := 43) hx hb dX6_waysOfFall_6 (by decide) (fun c1 => ?_) (fun c1 => ?_)
      · have h := oit h c1
        refine lv_iload_n hx hb dX6_waysOfFall_43 rfl (lv_at hl 2 rfl) ?_
        obtain rfl := Option.some.inj h
        rw [hQ]; exact ct_iret hx hb hr hlocks hP hS rfl dX6_waysOfFall_44
      · have h := oif h c1
        refine lv_aload_n hx hb dX6_waysOfFall_9 rfl (lv_at hl 0 rfl) ?_
        refine va_get (D := D) (ci := 6) (v := .ref noh) (C := RX6) (T := TX6) (N := 14) hx hb hts hiX6 hown hE.1 hP 0 rfl rfl 4 (by decide) (hts (.fieldLink RX6 26 "TiltTray" "now" "LTiltTray$Spot;") (by decide +kernel)) (fun _ h9 => h9) rfl dX6_waysOfFall_10 ?_
        refine lv_iload_n hx hb dX6_waysOfFall_13 rfl (lv_at hl 1 rfl) ?_
        obtain ⟨q2, hq2, h⟩ := ob h
        refine kV (As := [.int p1]) (rest := []) (w2 := cTT xh x_text noh srh x_acts x_slots x_sights x_search x_pairs x_worth x_tray x_draft x_let x_kept x_seed ++ (cSp noh noa cy.1 no ++ (cSp srh sra cy.1 sr ++ (cTr x_tray tra trb trc cy.1 tr)))) (n := 1) (q0 := 1) ⟨hx, hb, hml, hown, hts⟩ (c_X4_isIn l D cy noh noa no p1 q2 hq2) gX6_waysOfFall_X4_isIn rfl (by decide +kernel) ⟨by rw [hRf]; exact Nat.le_of_ble_eq_true rfl, by rw [hRl]; exact Nat.le_of_ble_eq_true rfl⟩ hE hP hD hS hA [1, 2] rfl rfl rfl rfl rfl rfl rfl hl.1 rfl (Nat.le_of_ble_eq_true rfl) dX6_waysOfFall_14 ⟨Nat.zero_le _, Nat.zero_le _⟩ (fun H locs hP hD hS => ?_)
        refine lv_if_ne (tgt := 43) hx hb dX6_waysOfFall_17 (by decide) (fun c3 => ?_) (fun c3 => ?_)
        · have h := oif h c3
          refine lv_iload_n hx hb dX6_waysOfFall_43 rfl (lv_at hl 2 rfl) ?_
          obtain rfl := Option.some.inj h
          rw [hQ]; exact ct_iret hx hb hr hlocks hP hS rfl dX6_waysOfFall_44
        · have h := oit h c3
          refine lv_aload_n hx hb dX6_waysOfFall_20 rfl (lv_at hl 0 rfl) ?_
          refine lv_iload_n hx hb dX6_waysOfFall_21 rfl (lv_at hl 1 rfl) ?_
          refine lv_iload_n hx hb dX6_waysOfFall_22 rfl (lv_at hl 3 rfl) ?_
          obtain ⟨q4, hq4, h⟩ := ob h
          refine kV (As := [.int p1, .int x3]) (rest := []) (w2 := cTT xh x_text noh srh x_acts x_slots x_sights x_search x_pairs x_worth x_tray x_draft x_let x_kept x_seed ++ (cSp noh noa cy.1 no ++ (cSp srh sra cy.1 q4.2 ++ (cTr x_tray tra trb trc cy.1 tr)))) (n := 2) (q0 := 0) ⟨hx, hb, hml, hown, hts⟩ (c_X6_restOf l D cy xh x_text noh noa srh sra x_acts x_slots x_sights x_search x_pairs x_worth x_tray tra trb trc x_draft no sr tr x_let x_kept x_seed p1 x3 q4 hq4) gX6_waysOfFall_X6_restOf rfl (by decide +kernel) ⟨by rw [hRf]; exact Nat.le_of_ble_eq_true rfl, by rw [hRl]; exact Nat.le_of_ble_eq_true rfl⟩ hE hP hD hS hA [0, 1, 2, 3, 4, 5, 6, 7, 8] rfl rfl rfl rfl rfl rfl rfl hl.1 rfl (Nat.le_of_ble_eq_true rfl) dX6_waysOfFall_23 ⟨Nat.zero_le _, Nat.zero_le _⟩ (fun H locs hP hD hS => ?_)
          refine lv_bipush (v := 100) hx hb dX6_waysOfFall_26 (by decide) ?_
          refine lv_icmp_lt (tgt := 37) hx hb dX6_waysOfFall_28 (by decide) (fun c5 => ?_) (fun c5 => ?_)
          · have h := oit h c5
            refine lv_iinc (v := x3 + 1) (lv' := [(3, .int (x3 + 1)), (0, .ref xh), (1, .int p1), (2, .int x2)]) hx hb dX6_waysOfFall_37 hl (k := 3) rfl rfl (by decide) rfl (fun ls hl => ?_)
            refine lv_goto (tgt := 4) hx hb dX6_waysOfFall_40 (by decide) ?_
            exact ih4 x2 (x3 + 1) q4.2 _ _ _ (lv_sub hl [1, 2, 3, 0] rfl) hP hD hS h
          · have h := oif h c5
            refine lv_iload_n hx hb dX6_waysOfFall_31 rfl (lv_at hl 2 rfl) ?_
            refine lv_iconst (v := 1) hx hb dX6_waysOfFall_32 (by decide) ?_
            refine lv_iload_n hx hb dX6_waysOfFall_33 rfl (lv_at hl 3 rfl) ?_
            refine lv_ishl hx hb dX6_waysOfFall_34 ?_
            refine lv_ior hx hb dX6_waysOfFall_35 ?_
            refine lv_istore_n (lv' := [(2, .int (x2 ||| (1 <<< (x3 &&& 31)))), (0, .ref xh), (1, .int p1), (3, .int x3)]) hx hb dX6_waysOfFall_36 rfl hl (by decide) rfl (fun ls hl => ?_)
            refine lv_iinc (v := x3 + 1) (lv' := [(3, .int (x3 + 1)), (2, .int (x2 ||| (1 <<< (x3 &&& 31)))), (0, .ref xh), (1, .int p1)]) hx hb dX6_waysOfFall_37 hl (k := 3) rfl rfl (by decide) rfl (fun ls hl => ?_)
            refine lv_goto (tgt := 4) hx hb dX6_waysOfFall_40 (by decide) ?_
            exact ih4 (x2 ||| (1 <<< (x3 &&& 31))) (x3 + 1) q4.2 _ _ _ (lv_sub hl [2, 3, 1, 0] rfl) hP hD hS h
  refine lv_iconst (v := 0) hx hb dX6_waysOfFall_0 (by decide) ?_
  refine lv_istore_n (lv' := [(2, .int 0), (0, .ref xh), (1, .int p1)]) hx hb dX6_waysOfFall_1 rfl hl (by decide) rfl (fun ls hl => ?_)
  refine lv_iconst (v := 0) hx hb dX6_waysOfFall_2 (by decide) ?_
  refine lv_istore_n (lv' := [(3, .int 0), (2, .int 0), (0, .ref xh), (1, .int p1)]) hx hb dX6_waysOfFall_3 rfl hl (by decide) rfl (fun ls hl => ?_)
  exact L4 5 0 0 sr _ _ _ (lv_sub hl [2, 3, 1, 0] rfl) hP hD hS h

def tw_X6_marble (no : SpS) (sr : SpS) (tr : TrS) (p1 : Int32) (p2 : Int32) : Option (Int32 × SpS) :=
  (tw_X5_has tr p1).bind (fun q1 => if q1 = 0 then (some ((-1), sr)) else (if p2 = 0 then (if ix p1 4 = true then (some (tr.2.1 p1.toNatClampNeg, sr)) else none) else (if p2 = 1 then (if ix p1 4 = true then (some (no.1 p1.toNatClampNeg, sr)) else none) else (if p2 = 2 then ((tw_X6_waysElsewhere no sr tr p1).bind (fun q7 => some (q7.1, q7.2))) else (if p2 = 3 then ((tw_X6_waysOfFall no sr tr p1).bind (fun q9 => some (q9.1, q9.2))) else (some ((-2), sr)))))))
set_option maxHeartbeats 4000000 in
set_option maxRecDepth 100000 in
theorem c_X6_marble (l : Launch) (D : va_G) (cy : Cy) (xh : Nat) (x_text : Nat) (noh : Nat) (noa : Nat) (srh : Nat) (sra : Nat) (x_acts : Nat) (x_slots : Nat) (x_sights : Nat) (x_search : Nat) (x_pairs : Nat) (x_worth : Nat) (x_tray : Nat) (tra : Nat) (trb : Nat) (trc : Nat) (x_draft : Nat) (no : SpS) (sr : SpS) (tr : TrS) (x_let : Int32) (x_kept : Int32) (x_seed : Int64) (p1 : Int32) (p2 : Int32) (res : Int32 × SpS) (h : tw_X6_marble no sr tr p1 p2 = some res) : Ct l yX6_marble wsX6_marble 7 159 D cy [.ref xh, .int p1, .int p2] (cTT xh x_text noh srh x_acts x_slots x_sights x_search x_pairs x_worth x_tray x_draft x_let x_kept x_seed ++ (cSp noh noa cy.1 no ++ (cSp srh sra cy.1 sr ++ (cTr x_tray tra trb trc cy.1 tr)))) (cTT xh x_text noh srh x_acts x_slots x_sights x_search x_pairs x_worth x_tray x_draft x_let x_kept x_seed ++ (cSp noh noa cy.1 no ++ (cSp srh sra cy.1 res.2 ++ (cTr x_tray tra trb trc cy.1 tr)))) (some (.int res.1)) := by
  refine Ct.ofW (cc := cX6_marble) (maxL := 3) (ret := (some .int)) (by decide) rfl (Nat.le_of_ble_eq_true rfl) ?_
  intro p e R s m args below meth c A Q ls hRf hRl hQ hx hb hr hml hts hown hlocks hE hP hD hS hA hl
  have hiX4 : ∀ w ∈ u_ws RX4 TX4 5, w ∈ wsX6_marble := by decide +kernel
  have hiX5 : ∀ w ∈ u_ws RX5 TX5 5, w ∈ wsX6_marble := by decide +kernel
  have hiX6 : ∀ w ∈ u_ws RX6 TX6 14, w ∈ wsX6_marble := by decide +kernel
  have hl : lv_has ls 3 [(0, .ref xh), (1, .int p1), (2, .int p2)] := hl
  rw [tw_X6_marble] at h
  refine lv_aload_n hx hb dX6_marble_0 rfl (lv_at hl 0 rfl) ?_
  refine va_get (D := D) (ci := 6) (v := .ref x_tray) (C := RX6) (T := TX6) (N := 14) hx hb hts hiX6 hown hE.1 hP 0 rfl rfl 2 (by decide) (hts (.fieldLink RX6 16 "TiltTray" "tray" "LTiltTray$Tray;") (by decide +kernel)) (fun _ h9 => h9) rfl dX6_marble_1 ?_
  refine lv_iload_n hx hb dX6_marble_4 rfl (lv_at hl 1 rfl) ?_
  obtain ⟨q1, hq1, h⟩ := ob h
  refine kV (As := [.int p1]) (rest := []) (w2 := cTT xh x_text noh srh x_acts x_slots x_sights x_search x_pairs x_worth x_tray x_draft x_let x_kept x_seed ++ (cSp noh noa cy.1 no ++ (cSp srh sra cy.1 sr ++ (cTr x_tray tra trb trc cy.1 tr)))) (n := 1) (q0 := 5) ⟨hx, hb, hml, hown, hts⟩ (c_X5_has l D cy x_tray tra trb trc tr p1 q1 hq1) gX6_marble_X5_has rfl (by decide +kernel) ⟨by rw [hRf]; exact Nat.le_of_ble_eq_true rfl, by rw [hRl]; exact Nat.le_of_ble_eq_true rfl⟩ hE hP hD hS hA [5, 6, 7, 8] rfl rfl rfl rfl rfl rfl rfl hl.1 rfl (Nat.le_of_ble_eq_true rfl) dX6_marble_5 ⟨Nat.zero_le _, Nat.zero_le _⟩ (fun H locs hP hD hS => ?_)
  refine lv_if_ne (tgt := 13) hx hb dX6_marble_8 (by decide) (fun c2 => ?_) (fun c2 => ?_)
  · have h := oif h c2
    refine lv_iload_n hx hb dX6_marble_13 rfl (lv_at hl 2 rfl) ?_
    by_cases c4 : p2 = 0
    · have h := oit h c4
      refine lv_tableIn (off := 30) (tgt := 44) hx hb dX6_marble_14 (by rw [c4]; decide) (by rw [c4]; decide) (by rw [c4]; decide) (by decide) ?_
      refine lv_aload_n hx hb dX6_marble_44 rfl (lv_at hl 0 rfl) ?_
      refine va_get (D := D) (ci := 6) (v := .ref x_tray) (C := RX6) (T := TX6) (N := 14) hx hb hts hiX6 hown hE.1 hP 0 rfl rfl 2 (by decide) (hts (.fieldLink RX6 16 "TiltTray" "tray" "LTiltTray$Tray;") (by decide +kernel)) (fun _ h9 => h9) rfl dX6_marble_45 ?_
      refine va_get (D := D) (ci := 5) (v := .ref trb) (C := RX5) (T := TX5) (N := 5) hx hb hts hiX5 hown hE.1 hP 5 rfl rfl 1 (by decide) (hts (.fieldLink RX6 122 "TiltTray$Tray" "kind" "[I") (by decide +kernel)) (fun _ h9 => h9) rfl dX6_marble_48 ?_
      refine lv_iload_n hx hb dX6_marble_51 rfl (lv_at hl 1 rfl) ?_
      obtain ⟨g3, h⟩ := og h
      refine va_iald hx hb hE.1 hP 7 0 rfl rfl (ix_in g3) dX6_marble_52 ?_
      obtain rfl := Option.some.inj h
      rw [hQ]; exact ct_iret hx hb hr hlocks hP hS rfl dX6_marble_53
    have h := oif h c4
    by_cases c6 : p2 = 1
    · have h := oit h c6
      refine lv_tableIn (off := 40) (tgt := 54) hx hb dX6_marble_14 (by rw [c6]; decide) (by rw [c6]; decide) (by rw [c6]; decide) (by decide) ?_
      refine lv_aload_n hx hb dX6_marble_54 rfl (lv_at hl 0 rfl) ?_
      refine va_get (D := D) (ci := 6) (v := .ref noh) (C := RX6) (T := TX6) (N := 14) hx hb hts hiX6 hown hE.1 hP 0 rfl rfl 4 (by decide) (hts (.fieldLink RX6 26 "TiltTray" "now" "LTiltTray$Spot;") (by decide +kernel)) (fun _ h9 => h9) rfl dX6_marble_55 ?_
      refine va_get (D := D) (ci := 4) (v := .ref noa) (C := RX4) (T := TX4) (N := 5) hx hb hts hiX4 hown hE.1 hP 1 rfl rfl 0 (by decide) (hts (.fieldLink RX6 125 "TiltTray$Spot" "at" "[I") (by decide +kernel)) (fun _ h9 => h9) rfl dX6_marble_58 ?_
      refine lv_iload_n hx hb dX6_marble_61 rfl (lv_at hl 1 rfl) ?_
      obtain ⟨g5, h⟩ := og h
      refine va_iald hx hb hE.1 hP 2 0 rfl rfl (ix_in g5) dX6_marble_62 ?_
      obtain rfl := Option.some.inj h
      rw [hQ]; exact ct_iret hx hb hr hlocks hP hS rfl dX6_marble_63
    have h := oif h c6
    by_cases c8 : p2 = 2
    · have h := oit h c8
      refine lv_tableIn (off := 50) (tgt := 64) hx hb dX6_marble_14 (by rw [c8]; decide) (by rw [c8]; decide) (by rw [c8]; decide) (by decide) ?_
      refine lv_aload_n hx hb dX6_marble_64 rfl (lv_at hl 0 rfl) ?_
      refine lv_iload_n hx hb dX6_marble_65 rfl (lv_at hl 1 rfl) ?_
      obtain ⟨q7, hq7, h⟩ := ob h
      refine kV (As := [.int p1]) (rest := []) (w2 := cTT xh x_text noh srh x_acts x_slots x_sights x_search x_pairs x_worth x_tray x_draft x_let x_kept x_seed ++ (cSp noh noa cy.1 no ++ (cSp srh sra cy.1 q7.2 ++ (cTr x_tray tra trb trc cy.1 tr)))) (n := 1) (q0 := 0) ⟨hx, hb, hml, hown, hts⟩ (c_X6_waysElsewhere l D cy xh x_text noh noa srh sra x_acts x_slots x_sights x_search x_pairs x_worth x_tray tra trb trc x_draft no sr tr x_let x_kept x_seed p1 q7 hq7) gX6_marble_X6_waysElsewhere rfl (by decide +kernel) ⟨by rw [hRf]; exact Nat.le_of_ble_eq_true rfl, by rw [hRl]; exact Nat.le_of_ble_eq_true rfl⟩ hE hP hD hS hA [0, 1, 2, 3, 4, 5, 6, 7, 8] rfl rfl rfl rfl rfl rfl rfl hl.1 rfl (Nat.le_of_ble_eq_true rfl) dX6_marble_66 ⟨Nat.zero_le _, Nat.zero_le _⟩ (fun H locs hP hD hS => ?_)
      obtain rfl := Option.some.inj h
      rw [hQ]; exact ct_iret hx hb hr hlocks hP hS rfl dX6_marble_69
    have h := oif h c8
    by_cases c10 : p2 = 3
    · have h := oit h c10
      refine lv_tableIn (off := 56) (tgt := 70) hx hb dX6_marble_14 (by rw [c10]; decide) (by rw [c10]; decide) (by rw [c10]; decide) (by decide) ?_
      refine lv_aload_n hx hb dX6_marble_70 rfl (lv_at hl 0 rfl) ?_
      refine lv_iload_n hx hb dX6_marble_71 rfl (lv_at hl 1 rfl) ?_
      obtain ⟨q9, hq9, h⟩ := ob h
      refine kV (As := [.int p1]) (rest := []) (w2 := cTT xh x_text noh srh x_acts x_slots x_sights x_search x_pairs x_worth x_tray x_draft x_let x_kept x_seed ++ (cSp noh noa cy.1 no ++ (cSp srh sra cy.1 q9.2 ++ (cTr x_tray tra trb trc cy.1 tr)))) (n := 1) (q0 := 0) ⟨hx, hb, hml, hown, hts⟩ (c_X6_waysOfFall l D cy xh x_text noh noa srh sra x_acts x_slots x_sights x_search x_pairs x_worth x_tray tra trb trc x_draft no sr tr x_let x_kept x_seed p1 q9 hq9) gX6_marble_X6_waysOfFall rfl (by decide +kernel) ⟨by rw [hRf]; exact Nat.le_of_ble_eq_true rfl, by rw [hRl]; exact Nat.le_of_ble_eq_true rfl⟩ hE hP hD hS hA [0, 1, 2, 3, 4, 5, 6, 7, 8] rfl rfl rfl rfl rfl rfl rfl hl.1 rfl (Nat.le_of_ble_eq_true rfl) dX6_marble_72 ⟨Nat.zero_le _, Nat.zero_le _⟩ (fun H locs hP hD hS => ?_)
      obtain rfl := Option.some.inj h
      rw [hQ]; exact ct_iret hx hb hr hlocks hP hS rfl dX6_marble_75
    have h := oif h c10
    refine lv_tableOut (tgt := 76) hx hb dX6_marble_14 (sw_out 3 (by decide) (fun k hk => by rcases (show k = 0 ∨ k = 1 ∨ k = 2 ∨ k = 3 by omega) with rfl | rfl | rfl | rfl <;> assumption)) (by decide) ?_
    refine lv_bipush (v := (-2)) hx hb dX6_marble_76 (by decide) ?_
    obtain rfl := Option.some.inj h
    rw [hQ]; exact ct_iret hx hb hr hlocks hP hS rfl dX6_marble_78
  · have h := oit h c2
    refine lv_iconst (v := (-1)) hx hb dX6_marble_11 (by decide) ?_
    obtain rfl := Option.some.inj h
    rw [hQ]; exact ct_iret hx hb hr hlocks hP hS rfl dX6_marble_12
