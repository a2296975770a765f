def tw_X5_clear (tr : TrS) : Option (TrS) :=
  some ((upd (upd (upd (upd (upd tr.1 (0 : Int32).toNatClampNeg 0) (1 : Int32).toNatClampNeg 0) (2 : Int32).toNatClampNeg 0) (3 : Int32).toNatClampNeg 0) (4 : Int32).toNatClampNeg 0, tr.2.1, tr.2.2.1, 0, 0))
set_option maxHeartbeats 4000000 in
set_option maxRecDepth 100000 in
theorem c_X5_clear (l : Launch) (D : va_G) (cy : Cy) (trh : Nat) (tra : Nat) (trb : Nat) (trc : Nat) (tr : TrS) (res : TrS) (h : tw_X5_clear tr = some res) : Ct l yX5_clear wsX5_clear 0 0 D cy [.ref trh] (cTr trh tra trb trc cy.1 tr) (cTr trh tra trb trc cy.1 res) (none) := by
  refine Ct.ofW (cc := cX5_clear) (maxL := 2) (ret := none) (by decide) rfl (Nat.le_of_ble_eq_true rfl) ?_
  intro p e R s m args below meth c A Q ls hRf hRl hQ hx hb hr hml hts hown hlocks hE hP hD hS hA hl
  have hiX5 : ∀ w ∈ u_ws RX5 TX5 5, w ∈ wsX5_clear := by decide +kernel
  have hl : lv_has ls 2 [(0, .ref trh)] := hl
  rw [tw_X5_clear] at h
  refine lv_iconst (v := 0) hx hb dX5_clear_0 (by decide) ?_
  refine lv_istore_n (lv' := [(1, .int 0), (0, .ref trh)]) hx hb dX5_clear_1 rfl hl (by decide) rfl (fun ls hl => ?_)
  refine lv_iload_n hx hb dX5_clear_2 rfl (lv_at hl 0 rfl) ?_
  refine lv_iconst (v := 5) hx hb dX5_clear_3 (by decide) ?_
  refine lv_icmp_ge (tgt := 20) hx hb dX5_clear_4 (by decide) (fun c1 => absurd c1 (by decide)) (fun _ => ?_)
  refine lv_aload_n hx hb dX5_clear_7 rfl (lv_at hl 1 rfl) ?_
  refine va_get (D := D) (ci := 5) (v := .ref tra) (C := RX5) (T := TX5) (N := 5) hx hb hts hiX5 hown hE.1 hP 0 rfl rfl 0 (by decide) (hts (.fieldLink RX5 9 "TiltTray$Tray" "told" "[I") (by decide +kernel)) (fun _ h9 => h9) rfl dX5_clear_8 ?_
  refine lv_iload_n hx hb dX5_clear_11 rfl (lv_at hl 0 rfl) ?_
  refine lv_iconst (v := 0) hx hb dX5_clear_12 (by decide) ?_
  refine va_iast hx hb hE.1 hP hD hS 1 0 rfl rfl (ix_in (by decide)) dX5_clear_13 (fun H locs hP hD hS => ?_)
  have hP : va_P D vwCl (cTr trh tra trb trc cy.1 (upd tr.1 (0 : Int32).toNatClampNeg 0, tr.2.1, tr.2.2.1, tr.2.2.2.1, tr.2.2.2.2)) H := hP
  have hD : va_D A (cTr trh tra trb trc cy.1 (upd tr.1 (0 : Int32).toNatClampNeg 0, tr.2.1, tr.2.2.1, tr.2.2.2.1, tr.2.2.2.2)) := hD
  refine lv_iinc (v := 1) (lv' := [(1, .int 1), (0, .ref trh)]) hx hb dX5_clear_14 hl (k := 0) rfl (by decide) (by decide) rfl (fun ls hl => ?_)
  refine lv_goto (tgt := 2) hx hb dX5_clear_17 (by decide) ?_
  refine lv_iload_n hx hb dX5_clear_2 rfl (lv_at hl 0 rfl) ?_
  refine lv_iconst (v := 5) hx hb dX5_clear_3 (by decide) ?_
  refine lv_icmp_ge (tgt := 20) hx hb dX5_clear_4 (by decide) (fun c2 => absurd c2 (by decide)) (fun _ => ?_)
  refine lv_aload_n hx hb dX5_clear_7 rfl (lv_at hl 1 rfl) ?_
  refine va_get (D := D) (ci := 5) (v := .ref tra) (C := RX5) (T := TX5) (N := 5) hx hb hts hiX5 hown hE.1 hP 0 rfl rfl 0 (by decide) (hts (.fieldLink RX5 9 "TiltTray$Tray" "told" "[I") (by decide +kernel)) (fun _ h9 => h9) rfl dX5_clear_8 ?_
  refine lv_iload_n hx hb dX5_clear_11 rfl (lv_at hl 0 rfl) ?_
  refine lv_iconst (v := 0) hx hb dX5_clear_12 (by decide) ?_
  refine va_iast hx hb hE.1 hP hD hS 1 0 rfl rfl (ix_in (by decide)) dX5_clear_13 (fun H locs hP hD hS => ?_)
  have hP : va_P D vwCl (cTr trh tra trb trc cy.1 (upd (upd tr.1 (0 : Int32).toNatClampNeg 0) (1 : Int32).toNatClampNeg 0, tr.2.1, tr.2.2.1, tr.2.2.2.1, tr.2.2.2.2)) H := hP
  have hD : va_D A (cTr trh tra trb trc cy.1 (upd (upd tr.1 (0 : Int32).toNatClampNeg 0) (1 : Int32).toNatClampNeg 0, tr.2.1, tr.2.2.1, tr.2.2.2.1, tr.2.2.2.2)) := hD
  refine lv_iinc (v := 2) (lv' := [(1, .int 2), (0, .ref trh)]) hx hb dX5_clear_14 hl (k := 0) rfl (by decide) (by decide) rfl (fun ls hl => ?_)
  refine lv_goto (tgt := 2) hx hb dX5_clear_17 (by decide) ?_
  refine lv_iload_n hx hb dX5_clear_2 rfl (lv_at hl 0 rfl) ?_
  refine lv_iconst (v := 5) hx hb dX5_clear_3 (by decide) ?_
  refine lv_icmp_ge (tgt := 20) hx hb dX5_clear_4 (by decide) (fun c3 => absurd c3 (by decide)) (fun _ => ?_)
  refine lv_aload_n hx hb dX5_clear_7 rfl (lv_at hl 1 rfl) ?_
  refine va_get (D := D) (ci := 5) (v := .ref tra) (C := RX5) (T := TX5) (N := 5) hx hb hts hiX5 hown hE.1 hP 0 rfl rfl 0 (by decide) (hts (.fieldLink RX5 9 "TiltTray$Tray" "told" "[I") (by decide +kernel)) (fun _ h9 => h9) rfl dX5_clear_8 ?_
  refine lv_iload_n hx hb dX5_clear_11 rfl (lv_at hl 0 rfl) ?_
  refine lv_iconst (v := 0) hx hb dX5_clear_12 (by decide) ?_
  refine va_iast hx hb hE.1 hP hD hS 1 0 rfl rfl (ix_in (by decide)) dX5_clear_13 (fun H locs hP hD hS => ?_)
  have hP : va_P D vwCl (cTr trh tra trb trc cy.1 (upd (upd (upd tr.1 (0 : Int32).toNatClampNeg 0) (1 : Int32).toNatClampNeg 0) (2 : Int32).toNatClampNeg 0, tr.2.1, tr.2.2.1, tr.2.2.2.1, tr.2.2.2.2)) H := hP
  have hD : va_D A (cTr trh tra trb trc cy.1 (upd (upd (upd tr.1 (0 : Int32).toNatClampNeg 0) (1 : Int32).toNatClampNeg 0) (2 : Int32).toNatClampNeg 0, tr.2.1, tr.2.2.1, tr.2.2.2.1, tr.2.2.2.2)) := hD
  refine lv_iinc (v := 3) (lv' := [(1, .int 3), (0, .ref trh)]) hx hb dX5_clear_14 hl (k := 0) rfl (by decide) (by decide) rfl (fun ls hl => ?_)
  refine lv_goto (tgt := 2) hx hb dX5_clear_17 (by decide) ?_
  refine lv_iload_n hx hb dX5_clear_2 rfl (lv_at hl 0 rfl) ?_
  refine lv_iconst (v := 5) hx hb dX5_clear_3 (by decide) ?_
  refine lv_icmp_ge (tgt := 20) hx hb dX5_clear_4 (by decide) (fun c4 => absurd c4 (by decide)) (fun _ => ?_)
  refine lv_aload_n hx hb dX5_clear_7 rfl (lv_at hl 1 rfl) ?_
  refine va_get (D := D) (ci := 5) (v := .ref tra) (C := RX5) (T := TX5) (N := 5) hx hb hts hiX5 hown hE.1 hP 0 rfl rfl 0 (by decide) (hts (.fieldLink RX5 9 "TiltTray$Tray" "told" "[I") (by decide +kernel)) (fun _ h9 => h9) rfl dX5_clear_8 ?_
  refine lv_iload_n hx hb dX5_clear_11 rfl (lv_at hl 0 rfl) ?_
  refine lv_iconst (v := 0) hx hb dX5_clear_12 (by decide) ?_
  refine va_iast hx hb hE.1 hP hD hS 1 0 rfl rfl (ix_in (by decide)) dX5_clear_13 (fun H locs hP hD hS => ?_)
  have hP : va_P D vwCl (cTr trh tra trb trc cy.1 (upd (upd (upd (upd tr.1 (0 : Int32).toNatClampNeg 0) (1 : Int32).toNatClampNeg 0) (2 : Int32).toNatClampNeg 0) (3 : Int32).toNatClampNeg 0, tr.2.1, tr.2.2.1, tr.2.2.2.1, tr.2.2.2.2)) H := hP
  have hD : va_D A (cTr trh tra trb trc cy.1 (upd (upd (upd (upd tr.1 (0 : Int32).toNatClampNeg 0) (1 : Int32).toNatClampNeg 0) (2 : Int32).toNatClampNeg 0) (3 : Int32).toNatClampNeg 0, tr.2.1, tr.2.2.1, tr.2.2.2.1, tr.2.2.2.2)) := hD
  refine lv_iinc (v := 4) (lv' := [(1, .int 4), (0, .ref trh)]) hx hb dX5_clear_14 hl (k := 0) rfl (by decide) (by decide) rfl (fun ls hl => ?_)
  refine lv_goto (tgt := 2) hx hb dX5_clear_17 (by decide) ?_
  refine lv_iload_n hx hb dX5_clear_2 rfl (lv_at hl 0 rfl) ?_
  refine lv_iconst (v := 5) hx hb dX5_clear_3 (by decide) ?_
  refine lv_icmp_ge (tgt := 20) hx hb dX5_clear_4 (by decide) (fun c5 => absurd c5 (by decide)) (fun _ => ?_)
  refine lv_aload_n hx hb dX5_clear_7 rfl (lv_at hl 1 rfl) ?_
  refine va_get (D := D) (ci := 5) (v := .ref tra) (C := RX5) (T := TX5) (N := 5) hx hb hts hiX5 hown hE.1 hP 0 rfl rfl 0 (by decide) (hts (.fieldLink RX5 9 "TiltTray$Tray" "told" "[I") (by decide +kernel)) (fun _ h9 => h9) rfl dX5_clear_8 ?_
  refine lv_iload_n hx hb dX5_clear_11 rfl (lv_at hl 0 rfl) ?_
  refine lv_iconst (v := 0) hx hb dX5_clear_12 (by decide) ?_
  refine va_iast hx hb hE.1 hP hD hS 1 0 rfl rfl (ix_in (by decide)) dX5_clear_13 (fun H locs hP hD hS => ?_)
  have hP : va_P D vwCl (cTr trh tra trb trc cy.1 (upd (upd (upd (upd (upd tr.1 (0 : Int32).toNatClampNeg 0) (1 : Int32).toNatClampNeg 0) (2 : Int32).toNatClampNeg 0) (3 : Int32).toNatClampNeg 0) (4 : Int32).toNatClampNeg 0, tr.2.1, tr.2.2.1, tr.2.2.2.1, tr.2.2.2.2)) H := hP
  have hD : va_D A (cTr trh tra trb trc cy.1 (upd (upd (upd (upd (upd tr.1 (0 : Int32).toNatClampNeg 0) (1 : Int32).toNatClampNeg 0) (2 : Int32).toNatClampNeg 0) (3 : Int32).toNatClampNeg 0) (4 : Int32).toNatClampNeg 0, tr.2.1, tr.2.2.1, tr.2.2.2.1, tr.2.2.2.2)) := hD
  refine lv_iinc (v := 5) (lv' := [(1, .int 5), (0, .ref trh)]) hx hb dX5_clear_14 hl (k := 0) rfl (by decide) (by decide) rfl (fun ls hl => ?_)
  refine lv_goto (tgt := 2) hx hb dX5_clear_17 (by decide) ?_
  refine lv_iload_n hx hb dX5_clear_2 rfl (lv_at hl 0 rfl) ?_
  refine lv_iconst (v := 5) hx hb dX5_clear_3 (by decide) ?_
  refine lv_icmp_ge (tgt := 20) hx hb dX5_clear_4 (by decide) (fun _ => ?_) (fun c6 => absurd c6 (by decide))
  refine lv_aload_n hx hb dX5_clear_20 rfl (lv_at hl 1 rfl) ?_
  refine lv_iconst (v := 0) hx hb dX5_clear_21 (by decide) ?_
  refine va_put (D := D) (ci := 5) (v := .int 0) (ty := .int) (C := RX5) (T := TX5) (N := 5) hx hb hts hiX5 tyX5 tyX5_ok nmX5 hown hE.1 hP hD hS 0 rfl rfl 3 (by decide) (hts (.fieldLink RX5 21 "TiltTray$Tray" "marbles" "I") (by decide +kernel)) (fun _ h9 => h9) rfl (by decide +kernel) rfl rfl (Nat.le_of_ble_eq_true rfl) dX5_clear_22 (fun H locs hP hD hS => ?_)
  have hP : va_P D vwCl (cTr trh tra trb trc cy.1 (upd (upd (upd (upd (upd tr.1 (0 : Int32).toNatClampNeg 0) (1 : Int32).toNatClampNeg 0) (2 : Int32).toNatClampNeg 0) (3 : Int32).toNatClampNeg 0) (4 : Int32).toNatClampNeg 0, tr.2.1, tr.2.2.1, 0, tr.2.2.2.2)) H := hP
  have hD : va_D A (cTr trh tra trb trc cy.1 (upd (upd (upd (upd (upd tr.1 (0 : Int32).toNatClampNeg 0) (1 : Int32).toNatClampNeg 0) (2 : Int32).toNatClampNeg 0) (3 : Int32).toNatClampNeg 0) (4 : Int32).toNatClampNeg 0, tr.2.1, tr.2.2.1, 0, tr.2.2.2.2)) := hD
  refine lv_aload_n hx hb dX5_clear_25 rfl (lv_at hl 1 rfl) ?_
  refine lv_iconst (v := 0) hx hb dX5_clear_26 (by decide) ?_
  refine va_put (D := D) (ci := 5) (v := .int 0) (ty := .int) (C := RX5) (T := TX5) (N := 5) hx hb hts hiX5 tyX5 tyX5_ok nmX5 hown hE.1 hP hD hS 0 rfl rfl 4 (by decide) (hts (.fieldLink RX5 25 "TiltTray$Tray" "drawn" "I") (by decide +kernel)) (fun _ h9 => h9) rfl (by decide +kernel) rfl rfl (Nat.le_of_ble_eq_true rfl) dX5_clear_27 (fun H locs hP hD hS => ?_)
  have hP : va_P D vwCl (cTr trh tra trb trc cy.1 (upd (upd (upd (upd (upd tr.1 (0 : Int32).toNatClampNeg 0) (1 : Int32).toNatClampNeg 0) (2 : Int32).toNatClampNeg 0) (3 : Int32).toNatClampNeg 0) (4 : Int32).toNatClampNeg 0, tr.2.1, tr.2.2.1, 0, 0)) H := hP
  have hD : va_D A (cTr trh tra trb trc cy.1 (upd (upd (upd (upd (upd tr.1 (0 : Int32).toNatClampNeg 0) (1 : Int32).toNatClampNeg 0) (2 : Int32).toNatClampNeg 0) (3 : Int32).toNatClampNeg 0) (4 : Int32).toNatClampNeg 0, tr.2.1, tr.2.2.1, 0, 0)) := hD
  obtain rfl := Option.some.inj h
  rw [hQ]; exact ct_vret hx hb hr hlocks hP hS rfl dX5_clear_30

def tw_X5_hasRoom (tr : TrS) (p1 : Int32) : Option (Int32) :=
  if ix p1 5 = true then ((tw_J6_bitCount_0f7a4 (tr.1 p1.toNatClampNeg)).bind (fun q2 => if ix p1 5 = true then (if (tMost p1.toNatClampNeg) ≤ q2 then (some (0)) else (some (1))) else none)) else none
set_option maxHeartbeats 4000000 in
set_option maxRecDepth 100000 in
theorem c_X5_hasRoom (l : Launch) (D : va_G) (cy : Cy) (trh : Nat) (tra : Nat) (trb : Nat) (trc : Nat) (tr : TrS) (p1 : Int32) (res : Int32) (h : tw_X5_hasRoom tr p1 = some res) : Ct l yX5_hasRoom wsX5_hasRoom 1 20 D cy [.ref trh, .int p1] (cTr trh tra trb trc cy.1 tr) (cTr trh tra trb trc cy.1 tr) (some (.int res)) := by
  refine Ct.ofW (cc := cX5_hasRoom) (maxL := 2) (ret := (some .boolean)) (by decide) rfl (Nat.le_of_ble_eq_true rfl) ?_
  intro p e R s m args below meth c A Q ls hRf hRl hQ hx hb hr hml hts hown hlocks hE hP hD hS hA hl
  have hiX5 : ∀ w ∈ u_ws RX5 TX5 5, w ∈ wsX5_hasRoom := by decide +kernel
  have hl : lv_has ls 2 [(0, .ref trh), (1, .int p1)] := hl
  rw [tw_X5_hasRoom] at h
  refine lv_aload_n hx hb dX5_hasRoom_0 rfl (lv_at hl 0 rfl) ?_
  refine va_get (D := D) (ci := 5) (v := .ref tra) (C := RX5) (T := TX5) (N := 5) hx hb hts hiX5 hown hE.1 hP 0 rfl rfl 0 (by decide) (hts (.fieldLink RX5 9 "TiltTray$Tray" "told" "[I") (by decide +kernel)) (fun _ h9 => h9) rfl dX5_hasRoom_1 ?_
  refine lv_iload_n hx hb dX5_hasRoom_4 rfl (lv_at hl 1 rfl) ?_
  obtain ⟨g1, h⟩ := og h
  refine va_iald hx hb hE.1 hP 1 0 rfl rfl (ix_in g1) dX5_hasRoom_5 ?_
  obtain ⟨q2, hq2, h⟩ := ob h
  refine kS (As := [.int (tr.1 p1.toNatClampNeg)]) (rest := []) (w2 := cTr trh tra trb trc cy.1 tr) (n := 1) ⟨hx, hb, hml, hown, hts⟩ (c_J6_bitCount_0f7a4 l D cy (tr.1 p1.toNatClampNeg) q2 hq2) gX5_hasRoom_J6_bitCount_0f7a4 rfl (by decide +kernel) ⟨by rw [hRf]; exact Nat.le_of_ble_eq_true rfl, by rw [hRl]; exact Nat.le_of_ble_eq_true rfl⟩ hE hP hD hS hA [] rfl rfl rfl rfl rfl hl.1 rfl (Nat.le_of_ble_eq_true rfl) dX5_hasRoom_6 ⟨Nat.zero_le _, Nat.zero_le _⟩ (fun H locs hP hD hS => ?_)
  refine va_getsN hx hb hE.2.2.1.1 hS hown (va_Nw.use rfl (hE.2.1 (.fieldLinkNest "TiltTray$Tray" 34 "TiltTray" "MOST_TOLD" "[I" "TiltTray") (by decide +kernel))) (fun _ h9 => h9) dX5_hasRoom_9 ?_
  refine lv_iload_n hx hb dX5_hasRoom_12 rfl (lv_at hl 1 rfl) ?_
  obtain ⟨g3, h⟩ := og h
  refine va_ti hx hb hE.2.2.1.2 hS (ix_in g3) rfl dX5_hasRoom_13 ?_
  refine lv_icmp_ge (tgt := 21) hx hb dX5_hasRoom_14 (by decide) (fun c4 => ?_) (fun c4 => ?_)
  · have h := oit h c4
    refine lv_iconst (v := 0) hx hb dX5_hasRoom_21 (by decide) ?_
    obtain rfl := Option.some.inj h
    rw [hQ]; exact ct_zret hx hb hr hlocks rfl hP hS rfl dX5_hasRoom_22
  · have h := oif h c4
    refine lv_iconst (v := 1) hx hb dX5_hasRoom_17 (by decide) ?_
    refine lv_goto (tgt := 22) hx hb dX5_hasRoom_18 (by decide) ?_
    obtain rfl := Option.some.inj h
    rw [hQ]; exact ct_zret hx hb hr hlocks rfl hP hS rfl dX5_hasRoom_22

def tw_X5_isPlain (tr : TrS) (p1 : Int32) : Option (Int32) :=
  (tw_X6_bitOf ((((tr.1 (1 : Int32).toNatClampNeg) ||| (tr.1 (2 : Int32).toNatClampNeg)) ||| (tr.1 (3 : Int32).toNatClampNeg)) ||| (tr.1 (4 : Int32).toNatClampNeg)) p1).bind (fun q1 => if q1 = 0 then (some (1)) else (some (0)))
set_option maxHeartbeats 4000000 in
set_option maxRecDepth 100000 in
theorem c_X5_isPlain (l : Launch) (D : va_G) (cy : Cy) (trh : Nat) (tra : Nat) (trb : Nat) (trc : Nat) (tr : TrS) (p1 : Int32) (res : Int32) (h : tw_X5_isPlain tr p1 = some res) : Ct l yX5_isPlain wsX5_isPlain 1 21 D cy [.ref trh, .int p1] (cTr trh tra trb trc cy.1 tr) (cTr trh tra trb trc cy.1 tr) (some (.int res)) := by
  refine Ct.ofW (cc := cX5_isPlain) (maxL := 2) (ret := (some .boolean)) (by decide) rfl (Nat.le_of_ble_eq_true rfl) ?_
  intro p e R s m args below meth c A Q ls hRf hRl hQ hx hb hr hml hts hown hlocks hE hP hD hS hA hl
  have hiX5 : ∀ w ∈ u_ws RX5 TX5 5, w ∈ wsX5_isPlain := by decide +kernel
  have hl : lv_has ls 2 [(0, .ref trh), (1, .int p1)] := hl
  rw [tw_X5_isPlain] at h
  refine lv_aload_n hx hb dX5_isPlain_0 rfl (lv_at hl 0 rfl) ?_
  refine va_get (D := D) (ci := 5) (v := .ref tra) (C := RX5) (T := TX5) (N := 5) hx hb hts hiX5 hown hE.1 hP 0 rfl rfl 0 (by decide) (hts (.fieldLink RX5 9 "TiltTray$Tray" "told" "[I") (by decide +kernel)) (fun _ h9 => h9) rfl dX5_isPlain_1 ?_
  refine lv_iconst (v := 1) hx hb dX5_isPlain_4 (by decide) ?_
  refine va_iald hx hb hE.1 hP 1 0 rfl rfl (ix_in (by decide)) dX5_isPlain_5 ?_
  refine lv_aload_n hx hb dX5_isPlain_6 rfl (lv_at hl 0 rfl) ?_
  refine va_get (D := D) (ci := 5) (v := .ref tra) (C := RX5) (T := TX5) (N := 5) hx hb hts hiX5 hown hE.1 hP 0 rfl rfl 0 (by decide) (hts (.fieldLink RX5 9 "TiltTray$Tray" "told" "[I") (by decide +kernel)) (fun _ h9 => h9) rfl dX5_isPlain_7 ?_
  refine lv_iconst (v := 2) hx hb dX5_isPlain_10 (by decide) ?_
  refine va_iald hx hb hE.1 hP 1 0 rfl rfl (ix_in (by decide)) dX5_isPlain_11 ?_
  refine lv_ior hx hb dX5_isPlain_12 ?_
  refine lv_aload_n hx hb dX5_isPlain_13 rfl (lv_at hl 0 rfl) ?_
  refine va_get (D := D) (ci := 5) (v := .ref tra) (C := RX5) (T := TX5) (N := 5) hx hb hts hiX5 hown hE.1 hP 0 rfl rfl 0 (by decide) (hts (.fieldLink RX5 9 "TiltTray$Tray" "told" "[I") (by decide +kernel)) (fun _ h9 => h9) rfl dX5_isPlain_14 ?_
  refine lv_iconst (v := 3) hx hb dX5_isPlain_17 (by decide) ?_
  refine va_iald hx hb hE.1 hP 1 0 rfl rfl (ix_in (by decide)) dX5_isPlain_18 ?_
  refine lv_ior hx hb dX5_isPlain_19 ?_
  refine lv_aload_n hx hb dX5_isPlain_20 rfl (lv_at hl 0 rfl) ?_
  refine va_get (D := D) (ci := 5) (v := .ref tra) (C := RX5) (T := TX5) (N := 5) hx hb hts hiX5 hown hE.1 hP 0 rfl rfl 0 (by decide) (hts (.fieldLink RX5 9 "TiltTray$Tray" "told" "[I") (by decide +kernel)) (fun _ h9 => h9) rfl dX5_isPlain_21 ?_
  refine lv_iconst (v := 4) hx hb dX5_isPlain_24 (by decide) ?_
  refine va_iald hx hb hE.1 hP 1 0 rfl rfl (ix_in (by decide)) dX5_isPlain_25 ?_
  refine lv_ior hx hb dX5_isPlain_26 ?_
  refine lv_iload_n hx hb dX5_isPlain_27 rfl (lv_at hl 1 rfl) ?_
  obtain ⟨q1, hq1, h⟩ := ob h
  refine kSN (As := [.int ((((tr.1 (1 : Int32).toNatClampNeg) ||| (tr.1 (2 : Int32).toNatClampNeg)) ||| (tr.1 (3 : Int32).toNatClampNeg)) ||| (tr.1 (4 : Int32).toNatClampNeg)), .int p1]) (rest := []) (w2 := cTr trh tra trb trc cy.1 tr) (n := 2) (host := "TiltTray") ⟨hx, hb, hml, hown, hts⟩ (c_X6_bitOf l D cy ((((tr.1 (1 : Int32).toNatClampNeg) ||| (tr.1 (2 : Int32).toNatClampNeg)) ||| (tr.1 (3 : Int32).toNatClampNeg)) ||| (tr.1 (4 : Int32).toNatClampNeg)) p1 q1 hq1) ggX5_isPlain_X6_bitOf rfl (hE.2.1 (.methodLinkNest RX5 37 yX6_bitOf "TiltTray") (by decide +kernel)) (hts (.initialized RX6) (by decide +kernel)) (hts (.static yX6_bitOf) (by decide +kernel)) (by decide +kernel) ⟨by rw [hRf]; exact Nat.le_of_ble_eq_true rfl, by rw [hRl]; exact Nat.le_of_ble_eq_true rfl⟩ hE hP hD hS hA [] rfl rfl rfl rfl rfl hl.1 rfl (Nat.le_of_ble_eq_true rfl) dX5_isPlain_28 ⟨Nat.zero_le _, Nat.zero_le _⟩ (fun H locs hP hD hS => ?_)
  refine lv_if_ne (tgt := 38) hx hb dX5_isPlain_31 (by decide) (fun c2 => ?_) (fun c2 => ?_)
  · have h := oif h c2
    refine lv_iconst (v := 0) hx hb dX5_isPlain_38 (by decide) ?_
    obtain rfl := Option.some.inj h
    rw [hQ]; exact ct_zret hx hb hr hlocks rfl hP hS rfl dX5_isPlain_39
  · have h := oit h c2
    refine lv_iconst (v := 1) hx hb dX5_isPlain_34 (by decide) ?_
    refine lv_goto (tgt := 39) hx hb dX5_isPlain_35 (by decide) ?_
    obtain rfl := Option.some.inj h
    rw [hQ]; exact ct_zret hx hb hr hlocks rfl hP hS rfl dX5_isPlain_39

def tw_X5_isUntold (tr : TrS) (p1 : Int32) : Option (Int32) :=
  (tw_X6_bitOf (tr.1 (0 : Int32).toNatClampNeg) p1).bind (fun q1 => if q1 = 0 then ((tw_X5_isPlain tr p1).bind (fun q3 => if q3 = 0 then (some (0)) else (some (1)))) else (some (0)))
set_option maxHeartbeats 4000000 in
set_option maxRecDepth 100000 in
theorem c_X5_isUntold (l : Launch) (D : va_G) (cy : Cy) (trh : Nat) (tra : Nat) (trb : Nat) (trc : Nat) (tr : TrS) (p1 : Int32) (res : Int32) (h : tw_X5_isUntold tr p1 = some res) : Ct l yX5_isUntold wsX5_isUntold 2 42 D cy [.ref trh, .int p1] (cTr trh tra trb trc cy.1 tr) (cTr trh tra trb trc cy.1 tr) (some (.int res)) := by
  refine Ct.ofW (cc := cX5_isUntold) (maxL := 2) (ret := (some .boolean)) (by decide) rfl (Nat.le_of_ble_eq_true rfl) ?_
  intro p e R s m args below meth c A Q ls hRf hRl hQ hx hb hr hml hts hown hlocks hE hP hD hS hA hl
  have hiX5 : ∀ w ∈ u_ws RX5 TX5 5, w ∈ wsX5_isUntold := by decide +kernel
  have hl : lv_has ls 2 [(0, .ref trh), (1, .int p1)] := hl
  rw [tw_X5_isUntold] at h
  refine lv_aload_n hx hb dX5_isUntold_0 rfl (lv_at hl 0 rfl) ?_
  refine va_get (D := D) (ci := 5) (v := .ref tra) (C := RX5) (T := TX5) (N := 5) hx hb hts hiX5 hown hE.1 hP 0 rfl rfl 0 (by decide) (hts (.fieldLink RX5 9 "TiltTray$Tray" "told" "[I") (by decide +kernel)) (fun _ h9 => h9) rfl dX5_isUntold_1 ?_
  refine lv_iconst (v := 0) hx hb dX5_isUntold_4 (by decide) ?_
  refine va_iald hx hb hE.1 hP 1 0 rfl rfl (ix_in (by decide)) dX5_isUntold_5 ?_
  refine lv_iload_n hx hb dX5_isUntold_6 rfl (lv_at hl 1 rfl) ?_
  obtain ⟨q1, hq1, h⟩ := ob h
  refine kSN (As := [.int (tr.1 (0 : Int32).toNatClampNeg), .int p1]) (rest := []) (w2 := cTr trh tra trb trc cy.1 tr) (n := 2) (host := "TiltTray") ⟨hx, hb, hml, hown, hts⟩ (c_X6_bitOf l D cy (tr.1 (0 : Int32).toNatClampNeg) p1 q1 hq1) ggX5_isUntold_X6_bitOf rfl (hE.2.1 (.methodLinkNest RX5 37 yX6_bitOf "TiltTray") (by decide +kernel)) (hts (.initialized RX6) (by decide +kernel)) (hts (.static yX6_bitOf) (by decide +kernel)) (by decide +kernel) ⟨by rw [hRf]; exact Nat.le_of_ble_eq_true rfl, by rw [hRl]; exact Nat.le_of_ble_eq_true rfl⟩ hE hP hD hS hA [] rfl rfl rfl rfl rfl hl.1 rfl (Nat.le_of_ble_eq_true rfl) dX5_isUntold_7 ⟨Nat.zero_le _, Nat.zero_le _⟩ (fun H locs hP hD hS => ?_)
  refine lv_if_ne (tgt := 25) hx hb dX5_isUntold_10 (by decide) (fun c2 => ?_) (fun c2 => ?_)
  · have h := oif h c2
    refine lv_iconst (v := 0) hx hb dX5_isUntold_25 (by decide) ?_
    obtain rfl := Option.some.inj h
    rw [hQ]; exact ct_zret hx hb hr hlocks rfl hP hS rfl dX5_isUntold_26
  · have h := oit h c2
    refine lv_aload_n hx hb dX5_isUntold_13 rfl (lv_at hl 0 rfl) ?_
    refine lv_iload_n hx hb dX5_isUntold_14 rfl (lv_at hl 1 rfl) ?_
    obtain ⟨q3, hq3, h⟩ := ob h
    refine kV (As := [.int p1]) (rest := []) (w2 := cTr trh tra trb trc cy.1 tr) (n := 1) (q0 := 0) ⟨hx, hb, hml, hown, hts⟩ (c_X5_isPlain l D cy trh tra trb trc tr p1 q3 hq3) gX5_isUntold_X5_isPlain rfl (by decide +kernel) ⟨by rw [hRf]; exact Nat.le_of_ble_eq_true rfl, by rw [hRl]; exact Nat.le_of_ble_eq_true rfl⟩ hE hP hD hS hA [0, 1, 2, 3] rfl rfl rfl rfl rfl rfl rfl hl.1 rfl (Nat.le_of_ble_eq_true rfl) dX5_isUntold_15 ⟨Nat.zero_le _, Nat.zero_le _⟩ (fun H locs hP hD hS => ?_)
    refine lv_if_eq (tgt := 25) hx hb dX5_isUntold_18 (by decide) (fun c4 => ?_) (fun c4 => ?_)
    · have h := oit h c4
      refine lv_iconst (v := 0) hx hb dX5_isUntold_25 (by decide) ?_
      obtain rfl := Option.some.inj h
      rw [hQ]; exact ct_zret hx hb hr hlocks rfl hP hS rfl dX5_isUntold_26
    · have h := oif h c4
      refine lv_iconst (v := 1) hx hb dX5_isUntold_21 (by decide) ?_
      refine lv_goto (tgt := 26) hx hb dX5_isUntold_22 (by decide) ?_
      obtain rfl := Option.some.inj h
      rw [hQ]; exact ct_zret hx hb hr hlocks rfl hP hS rfl dX5_isUntold_26

def tw_X5_drawAround_2 (p1 : Int32) : Nat → Int32 → TrS → Option (TrS)
  | 0, _, _ => none
  | n + 1, x2, tr =>
    if 4 ≤ x2 then (some (tr)) else ((tw_X6_nextCell p1 x2).bind (fun q2 => if q2 = (-1) then ((tw_X5_drawAround_2 p1 n) (x2 + 1) tr) else ((tw_X5_drawAround_2 p1 n) (x2 + 1) (tr.1, tr.2.1, tr.2.2.1, tr.2.2.2.1, tr.2.2.2.2 ||| (1 <<< (q2 &&& 31))))))
def tw_X5_drawAround (tr : TrS) (p1 : Int32) : Option (TrS) :=
  tw_X5_drawAround_2 p1 5 0 tr
set_option maxHeartbeats 4000000 in
set_option maxRecDepth 100000 in
theorem c_X5_drawAround (l : Launch) (D : va_G) (cy : Cy) (trh : Nat) (tra : Nat) (trb : Nat) (trc : Nat) (tr : TrS) (p1 : Int32) (res : TrS) (h : tw_X5_drawAround tr p1 = some res) : Ct l yX5_drawAround wsX5_drawAround 1 21 D cy [.ref trh, .int p1] (cTr trh tra trb trc cy.1 tr) (cTr trh tra trb trc cy.1 res) (none) := by
  refine Ct.ofW (cc := cX5_drawAround) (maxL := 4) (ret := none) (by decide) rfl (Nat.le_of_ble_eq_true rfl) ?_
  intro p e R s m args below meth c A Q ls hRf hRl hQ hx hb hr hml hts hown hlocks hE hP hD hS hA hl
  have hiX5 : ∀ w ∈ u_ws RX5 TX5 5, w ∈ wsX5_drawAround := by decide +kernel
  have hl : lv_has ls 4 [(0, .ref trh), (1, .int p1)] := hl
  rw [tw_X5_drawAround] at h
  have L2 : ∀ (n : Nat) (x2 : Int32) (tr : TrS)  (H : Heap) (locs : List Loc) (ls : Array Slot), lv_has ls 4 [(0, .ref trh), (1, .int p1), (2, .int x2)] → va_P D vwCl (cTr trh tra trb trc cy.1 tr) H → va_D A (cTr trh tra trb trc cy.1 tr) → va_S A s.heap H locs → tw_X5_drawAround_2 p1 n x2 tr = some res → W p l e R s m args below meth c H locs 0 0 Q (F0 m 2 ls []) := by
    intro n2
    induction n2 with
    | zero =>
      intro x2 tr  H locs ls hl hP hD hS h
      exact absurd h (by rw [tw_X5_drawAround_2]; exact fun q => by cases q)
    | succ n2 ih2 =>
      intro x2 tr  H locs ls hl hP hD hS h
      rw [tw_X5_drawAround_2] at h
      refine lv_iload_n hx hb dX5_drawAround_2 rfl (lv_at hl 2 rfl) ?_
      refine lv_iconst (v := 4) hx hb dX5_drawAround_3 (by decide) ?_
      refine lv_icmp_ge (tgt := 36) hx hb dX5_drawAround_4 (by decide) (fun c1 => ?_) (fun c1 => ?_)
      · have h := oit h c1
        obtain rfl := Option.some.inj h
        rw [hQ]; exact ct_vret hx hb hr hlocks hP hS rfl dX5_drawAround_36
      · have h := oif h c1
        refine lv_iload_n hx hb dX5_drawAround_7 rfl (lv_at hl 1 rfl) ?_
        refine lv_iload_n hx hb dX5_drawAround_8 rfl (lv_at hl 2 rfl) ?_
        obtain ⟨q2, hq2, h⟩ := ob h
        refine kSN (As := [.int p1, .int x2]) (rest := []) (w2 := cTr trh tra trb trc cy.1 tr) (n := 2) (host := "TiltTray") ⟨hx, hb, hml, hown, hts⟩ (c_X6_nextCell l D cy p1 x2 q2 hq2) ggX5_drawAround_X6_nextCell rfl (hE.2.1 (.methodLinkNest RX5 49 yX6_nextCell "TiltTray") (by decide +kernel)) (hts (.initialized RX6) (by decide +kernel)) (hts (.static yX6_nextCell) (by decide +kernel)) (by decide +kernel) ⟨by rw [hRf]; exact Nat.le_of_ble_eq_true rfl, by rw [hRl]; exact Nat.le_of_ble_eq_true rfl⟩ hE hP hD hS hA [] rfl rfl rfl rfl rfl hl.1 rfl (Nat.le_of_ble_eq_true rfl) dX5_drawAround_9 ⟨Nat.zero_le _, Nat.zero_le _⟩ (fun H locs hP hD hS => ?_)
        refine lv_istore_n (lv' := [(3, .int q2), (0, .ref trh), (1, .int p1), (2, .int x2)]) hx hb dX5_drawAround_12 rfl hl (by decide) rfl (fun ls hl => ?_)
        refine lv_iload_n hx hb dX5_drawAround_13 rfl (lv_at hl 0 rfl) ?_
        refine lv_iconst (v := (-1)) hx hb dX5_drawAround_14 (by decide) ?_
        refine lv_icmp_eq (tgt := 30) hx hb dX5_drawAround_15 (by decide) (fun c3 => ?_) (fun c3 => ?_)
        · have h := oit h c3
          refine lv_iinc (v := x2 + 1) (lv' := [(2, .int (x2 + 1)), (3, .int q2), (0, .ref trh), (1, .int p1)]) hx hb dX5_drawAround_30 hl (k := 3) rfl rfl (by decide) rfl (fun ls hl => ?_)
          refine lv_goto (tgt := 2) hx hb dX5_drawAround_33 (by decide) ?_
          exact ih2 (x2 + 1) tr _ _ _ (lv_sub hl [2, 3, 0] rfl) hP hD hS h
        · have h := oif h c3
          refine lv_aload_n hx hb dX5_drawAround_18 rfl (lv_at hl 1 rfl) ?_
          refine lv_dup hx hb dX5_drawAround_19 rfl ?_
          refine va_get (D := D) (ci := 5) (v := .int tr.2.2.2.2) (C := RX5) (T := TX5) (N := 5) hx hb hts hiX5 hown hE.1 hP 0 rfl rfl 4 (by decide) (hts (.fieldLink RX5 25 "TiltTray$Tray" "drawn" "I") (by decide +kernel)) (fun _ h9 => h9) rfl dX5_drawAround_20 ?_
          refine lv_iconst (v := 1) hx hb dX5_drawAround_23 (by decide) ?_
          refine lv_iload_n hx hb dX5_drawAround_24 rfl (lv_at hl 0 rfl) ?_
          refine lv_ishl hx hb dX5_drawAround_25 ?_
          refine lv_ior hx hb dX5_drawAround_26 ?_
          refine va_put (D := D) (ci := 5) (v := .int (tr.2.2.2.2 ||| (1 <<< (q2 &&& 31)))) (ty := .int) (C := RX5) (T := TX5) (N := 5) hx hb hts hiX5 tyX5 tyX5_ok nmX5 hown hE.1 hP hD hS 0 rfl rfl 4 (by decide) (hts (.fieldLink RX5 25 "TiltTray$Tray" "drawn" "I") (by decide +kernel)) (fun _ h9 => h9) rfl (by decide +kernel) rfl rfl (Nat.le_of_ble_eq_true rfl) dX5_drawAround_27 (fun H locs hP hD hS => ?_)
          have hP : va_P D vwCl (cTr trh tra trb trc cy.1 (tr.1, tr.2.1, tr.2.2.1, tr.2.2.2.1, tr.2.2.2.2 ||| (1 <<< (q2 &&& 31)))) H := hP
          have hD : va_D A (cTr trh tra trb trc cy.1 (tr.1, tr.2.1, tr.2.2.1, tr.2.2.2.1, tr.2.2.2.2 ||| (1 <<< (q2 &&& 31)))) := hD
          refine lv_iinc (v := x2 + 1) (lv' := [(2, .int (x2 + 1)), (3, .int q2), (0, .ref trh), (1, .int p1)]) hx hb dX5_drawAround_30 hl (k := 3) rfl rfl (by decide) rfl (fun ls hl => ?_)
          refine lv_goto (tgt := 2) hx hb dX5_drawAround_33 (by decide) ?_
          exact ih2 (x2 + 1) (tr.1, tr.2.1, tr.2.2.1, tr.2.2.2.1, tr.2.2.2.2 ||| (1 <<< (q2 &&& 31))) _ _ _ (lv_sub hl [2, 3, 0] rfl) hP hD hS h
  refine lv_iconst (v := 0) hx hb dX5_drawAround_0 (by decide) ?_
  refine lv_istore_n (lv' := [(2, .int 0), (0, .ref trh), (1, .int p1)]) hx hb dX5_drawAround_1 rfl hl (by decide) rfl (fun ls hl => ?_)
  exact L2 5 0 tr _ _ _ (lv_sub hl [1, 2, 0] rfl) hP hD hS h

def tw_X5_tell_54 (p1 : Int32) (p2 : Int32) (p3 : Int32) (tr : TrS) : Option (TrS) :=
  if p1 = 4 then ((tw_X5_drawAround tr p2).bind (fun q2 => some (q2))) else (some (tr))
def tw_X5_tell (tr : TrS) (p1 : Int32) (p2 : Int32) (p3 : Int32) : Option (TrS) :=
  if ix p1 5 = true then (if ix p1 5 = true then (if p1 = 0 then (if 4 ≤ tr.2.2.2.1 then (tw_X5_tell_54 p1 p2 p3 (upd tr.1 p1.toNatClampNeg ((tr.1 p1.toNatClampNeg) ||| (1 <<< (p2 &&& 31))), tr.2.1, tr.2.2.1, tr.2.2.2.1, tr.2.2.2.2)) else (if ix tr.2.2.2.1 4 = true then (if ix tr.2.2.2.1 4 = true then (tw_X5_tell_54 p1 p2 p3 (upd tr.1 p1.toNatClampNeg ((tr.1 p1.toNatClampNeg) ||| (1 <<< (p2 &&& 31))), upd tr.2.1 tr.2.2.2.1.toNatClampNeg p3, upd tr.2.2.1 tr.2.2.2.1.toNatClampNeg p2, tr.2.2.2.1 + 1, tr.2.2.2.2)) else none) else none)) else (tw_X5_tell_54 p1 p2 p3 (upd tr.1 p1.toNatClampNeg ((tr.1 p1.toNatClampNeg) ||| (1 <<< (p2 &&& 31))), tr.2.1, tr.2.2.1, tr.2.2.2.1, tr.2.2.2.2))) else none) else none
set_option maxHeartbeats 4000000 in
set_option maxRecDepth 100000 in
theorem c_X5_tell (l : Launch) (D : va_G) (cy : Cy) (trh : Nat) (tra : Nat) (trb : Nat) (trc : Nat) (tr : TrS) (p1 : Int32) (p2 : Int32) (p3 : Int32) (res : TrS) (h : tw_X5_tell tr p1 p2 p3 = some res) : Ct l yX5_tell wsX5_tell 2 44 D cy [.ref trh, .int p1, .int p2, .int p3] (cTr trh tra trb trc cy.1 tr) (cTr trh tra trb trc cy.1 res) (none) := by
  refine Ct.ofW (cc := cX5_tell) (maxL := 4) (ret := none) (by decide) rfl (Nat.le_of_ble_eq_true rfl) ?_
  intro p e R s m args below meth c A Q ls hRf hRl hQ hx hb hr hml hts hown hlocks hE hP hD hS hA hl
  have hiX5 : ∀ w ∈ u_ws RX5 TX5 5, w ∈ wsX5_tell := by decide +kernel
  have hl : lv_has ls 4 [(0, .ref trh), (1, .int p1), (2, .int p2), (3, .int p3)] := hl
  rw [tw_X5_tell] at h
  have L54 : ∀ (tr : TrS)  (H : Heap) (locs : List Loc) (ls : Array Slot), lv_has ls 4 [(0, .ref trh), (1, .int p1), (2, .int p2)] → va_P D vwCl (cTr trh tra trb trc cy.1 tr) H → va_D A (cTr trh tra trb trc cy.1 tr) → va_S A s.heap H locs → tw_X5_tell_54 p1 p2 p3 tr = some res → W p l e R s m args below meth c H locs 0 0 Q (F0 m 54 ls []) := by
    intro tr  H locs ls hl hP hD hS h
    rw [tw_X5_tell_54] at h
    refine lv_iload_n hx hb dX5_tell_54 rfl (lv_at hl 1 rfl) ?_
    refine lv_iconst (v := 4) hx hb dX5_tell_55 (by decide) ?_
    refine lv_icmp_ne (tgt := 64) hx hb dX5_tell_56 (by decide) (fun c1 => ?_) (fun c1 => ?_)
    · have h := oif h c1
      obtain rfl := Option.some.inj h
      rw [hQ]; exact ct_vret hx hb hr hlocks hP hS rfl dX5_tell_64
    · have h := oit h c1
      refine lv_aload_n hx hb dX5_tell_59 rfl (lv_at hl 0 rfl) ?_
      refine lv_iload_n hx hb dX5_tell_60 rfl (lv_at hl 2 rfl) ?_
      obtain ⟨q2, hq2, h⟩ := ob h
      refine kV (As := [.int p2]) (rest := []) (w2 := cTr trh tra trb trc cy.1 q2) (n := 1) (q0 := 0) ⟨hx, hb, hml, hown, hts⟩ (c_X5_drawAround l D cy trh tra trb trc tr p2 q2 hq2) gX5_tell_X5_drawAround rfl (by decide +kernel) ⟨by rw [hRf]; exact Nat.le_of_ble_eq_true rfl, by rw [hRl]; exact Nat.le_of_ble_eq_true rfl⟩ hE hP hD hS hA [0, 1, 2, 3] rfl rfl rfl rfl rfl rfl rfl hl.1 rfl (Nat.le_of_ble_eq_true rfl) dX5_tell_61 ⟨Nat.zero_le _, Nat.zero_le _⟩ (fun H locs hP hD hS => ?_)
      obtain rfl := Option.some.inj h
      rw [hQ]; exact ct_vret hx hb hr hlocks hP hS rfl dX5_tell_64
  refine lv_aload_n hx hb dX5_tell_0 rfl (lv_at hl 0 rfl) ?_
  refine va_get (D := D) (ci := 5) (v := .ref tra) (C := RX5) (T := TX5) (N := 5) hx hb hts hiX5 hown hE.1 hP 0 rfl rfl 0 (by decide) (hts (.fieldLink RX5 9 "TiltTray$Tray" "told" "[I") (by decide +kernel)) (fun _ h9 => h9) rfl dX5_tell_1 ?_
  refine lv_iload_n hx hb dX5_tell_4 rfl (lv_at hl 1 rfl) ?_
  refine lv_dup2_11 hx hb dX5_tell_5 rfl rfl ?_
  obtain ⟨g3, h⟩ := og h
  refine va_iald hx hb hE.1 hP 1 0 rfl rfl (ix_in g3) dX5_tell_6 ?_
  refine lv_iconst (v := 1) hx hb dX5_tell_7 (by decide) ?_
  refine lv_iload_n hx hb dX5_tell_8 rfl (lv_at hl 2 rfl) ?_
  refine lv_ishl hx hb dX5_tell_9 ?_
  refine lv_ior hx hb dX5_tell_10 ?_
  obtain ⟨g4, h⟩ := og h
  refine va_iast hx hb hE.1 hP hD hS 1 0 rfl rfl (ix_in g4) dX5_tell_11 (fun H locs hP hD hS => ?_)
  have hP : va_P D vwCl (cTr trh tra trb trc cy.1 (upd tr.1 p1.toNatClampNeg ((tr.1 p1.toNatClampNeg) ||| (1 <<< (p2 &&& 31))), tr.2.1, tr.2.2.1, tr.2.2.2.1, tr.2.2.2.2)) H := hP
  have hD : va_D A (cTr trh tra trb trc cy.1 (upd tr.1 p1.toNatClampNeg ((tr.1 p1.toNatClampNeg) ||| (1 <<< (p2 &&& 31))), tr.2.1, tr.2.2.1, tr.2.2.2.1, tr.2.2.2.2)) := hD
  refine lv_iload_n hx hb dX5_tell_12 rfl (lv_at hl 1 rfl) ?_
  refine lv_if_ne (tgt := 54) hx hb dX5_tell_13 (by decide) (fun c5 => ?_) (fun c5 => ?_)
  · have h := oif h c5
    exact L54 (upd tr.1 p1.toNatClampNeg ((tr.1 p1.toNatClampNeg) ||| (1 <<< (p2 &&& 31))), tr.2.1, tr.2.2.1, tr.2.2.2.1, tr.2.2.2.2) _ _ _ (lv_sub hl [0, 1, 2] rfl) hP hD hS h
  · have h := oit h c5
    refine lv_aload_n hx hb dX5_tell_16 rfl (lv_at hl 0 rfl) ?_
    refine va_get (D := D) (ci := 5) (v := .int tr.2.2.2.1) (C := RX5) (T := TX5) (N := 5) hx hb hts hiX5 hown hE.1 hP 0 rfl rfl 3 (by decide) (hts (.fieldLink RX5 21 "TiltTray$Tray" "marbles" "I") (by decide +kernel)) (fun _ h9 => h9) rfl dX5_tell_17 ?_
    refine lv_iconst (v := 4) hx hb dX5_tell_20 (by decide) ?_
    refine lv_icmp_ge (tgt := 54) hx hb dX5_tell_21 (by decide) (fun c6 => ?_) (fun c6 => ?_)
    · have h := oit h c6
      exact L54 (upd tr.1 p1.toNatClampNeg ((tr.1 p1.toNatClampNeg) ||| (1 <<< (p2 &&& 31))), tr.2.1, tr.2.2.1, tr.2.2.2.1, tr.2.2.2.2) _ _ _ (lv_sub hl [0, 1, 2] rfl) hP hD hS h
    · have h := oif h c6
      refine lv_aload_n hx hb dX5_tell_24 rfl (lv_at hl 0 rfl) ?_
      refine va_get (D := D) (ci := 5) (v := .ref trb) (C := RX5) (T := TX5) (N := 5) hx hb hts hiX5 hown hE.1 hP 0 rfl rfl 1 (by decide) (hts (.fieldLink RX5 15 "TiltTray$Tray" "kind" "[I") (by decide +kernel)) (fun _ h9 => h9) rfl dX5_tell_25 ?_
      refine lv_aload_n hx hb dX5_tell_28 rfl (lv_at hl 0 rfl) ?_
      refine va_get (D := D) (ci := 5) (v := .int tr.2.2.2.1) (C := RX5) (T := TX5) (N := 5) hx hb hts hiX5 hown hE.1 hP 0 rfl rfl 3 (by decide) (hts (.fieldLink RX5 21 "TiltTray$Tray" "marbles" "I") (by decide +kernel)) (fun _ h9 => h9) rfl dX5_tell_29 ?_
      refine lv_iload_n hx hb dX5_tell_32 rfl (lv_at hl 3 rfl) ?_
      obtain ⟨g7, h⟩ := og h
      refine va_iast hx hb hE.1 hP hD hS 2 0 rfl rfl (ix_in g7) dX5_tell_33 (fun H locs hP hD hS => ?_)
      have hP : va_P D vwCl (cTr trh tra trb trc cy.1 (upd tr.1 p1.toNatClampNeg ((tr.1 p1.toNatClampNeg) ||| (1 <<< (p2 &&& 31))), upd tr.2.1 tr.2.2.2.1.toNatClampNeg p3, tr.2.2.1, tr.2.2.2.1, tr.2.2.2.2)) H := hP
      have hD : va_D A (cTr trh tra trb trc cy.1 (upd tr.1 p1.toNatClampNeg ((tr.1 p1.toNatClampNeg) ||| (1 <<< (p2 &&& 31))), upd tr.2.1 tr.2.2.2.1.toNatClampNeg p3, tr.2.2.1, tr.2.2.2.1, tr.2.2.2.2)) := hD
      refine lv_aload_n hx hb dX5_tell_34 rfl (lv_at hl 0 rfl) ?_
      refine va_get (D := D) (ci := 5) (v := .ref trc) (C := RX5) (T := TX5) (N := 5) hx hb hts hiX5 hown hE.1 hP 0 rfl rfl 2 (by decide) (hts (.fieldLink RX5 18 "TiltTray$Tray" "start" "[I") (by decide +kernel)) (fun _ h9 => h9) rfl dX5_tell_35 ?_
      refine lv_aload_n hx hb dX5_tell_38 rfl (lv_at hl 0 rfl) ?_
      refine va_get (D := D) (ci := 5) (v := .int tr.2.2.2.1) (C := RX5) (T := TX5) (N := 5) hx hb hts hiX5 hown hE.1 hP 0 rfl rfl 3 (by decide) (hts (.fieldLink RX5 21 "TiltTray$Tray" "marbles" "I") (by decide +kernel)) (fun _ h9 => h9) rfl dX5_tell_39 ?_
      refine lv_iload_n hx hb dX5_tell_42 rfl (lv_at hl 2 rfl) ?_
      obtain ⟨g8, h⟩ := og h
      refine va_iast hx hb hE.1 hP hD hS 3 0 rfl rfl (ix_in g8) dX5_tell_43 (fun H locs hP hD hS => ?_)
      have hP : va_P D vwCl (cTr trh tra trb trc cy.1 (upd tr.1 p1.toNatClampNeg ((tr.1 p1.toNatClampNeg) ||| (1 <<< (p2 &&& 31))), upd tr.2.1 tr.2.2.2.1.toNatClampNeg p3, upd tr.2.2.1 tr.2.2.2.1.toNatClampNeg p2, tr.2.2.2.1, tr.2.2.2.2)) H := hP
      have hD : va_D A (cTr trh tra trb trc cy.1 (upd tr.1 p1.toNatClampNeg ((tr.1 p1.toNatClampNeg) ||| (1 <<< (p2 &&& 31))), upd tr.2.1 tr.2.2.2.1.toNatClampNeg p3, upd tr.2.2.1 tr.2.2.2.1.toNatClampNeg p2, tr.2.2.2.1, tr.2.2.2.2)) := hD
      refine lv_aload_n hx hb dX5_tell_44 rfl (lv_at hl 0 rfl) ?_
      refine lv_dup hx hb dX5_tell_45 rfl ?_
      refine va_get (D := D) (ci := 5) (v := .int tr.2.2.2.1) (C := RX5) (T := TX5) (N := 5) hx hb hts hiX5 hown hE.1 hP 0 rfl rfl 3 (by decide) (hts (.fieldLink RX5 21 "TiltTray$Tray" "marbles" "I") (by decide +kernel)) (fun _ h9 => h9) rfl dX5_tell_46 ?_
      refine lv_iconst (v := 1) hx hb dX5_tell_49 (by decide) ?_
      refine lv_iadd hx hb dX5_tell_50 ?_
      refine va_put (D := D) (ci := 5) (v := .int (tr.2.2.2.1 + 1)) (ty := .int) (C := RX5) (T := TX5) (N := 5) hx hb hts hiX5 tyX5 tyX5_ok nmX5 hown hE.1 hP hD hS 0 rfl rfl 3 (by decide) (hts (.fieldLink RX5 21 "TiltTray$Tray" "marbles" "I") (by decide +kernel)) (fun _ h9 => h9) rfl (by decide +kernel) rfl rfl (Nat.le_of_ble_eq_true rfl) dX5_tell_51 (fun H locs hP hD hS => ?_)
      have hP : va_P D vwCl (cTr trh tra trb trc cy.1 (upd tr.1 p1.toNatClampNeg ((tr.1 p1.toNatClampNeg) ||| (1 <<< (p2 &&& 31))), upd tr.2.1 tr.2.2.2.1.toNatClampNeg p3, upd tr.2.2.1 tr.2.2.2.1.toNatClampNeg p2, tr.2.2.2.1 + 1, tr.2.2.2.2)) H := hP
      have hD : va_D A (cTr trh tra trb trc cy.1 (upd tr.1 p1.toNatClampNeg ((tr.1 p1.toNatClampNeg) ||| (1 <<< (p2 &&& 31))), upd tr.2.1 tr.2.2.2.1.toNatClampNeg p3, upd tr.2.2.1 tr.2.2.2.1.toNatClampNeg p2, tr.2.2.2.1 + 1, tr.2.2.2.2)) := hD
      exact L54 (upd tr.1 p1.toNatClampNeg ((tr.1 p1.toNatClampNeg) ||| (1 <<< (p2 &&& 31))), upd tr.2.1 tr.2.2.2.1.toNatClampNeg p3, upd tr.2.2.1 tr.2.2.2.1.toNatClampNeg p2, tr.2.2.2.1 + 1, tr.2.2.2.2) _ _ _ (lv_sub hl [0, 1, 2] rfl) hP hD hS h

def tw_X5_partAt_2 (tr : TrS) (p1 : Int32) : Nat → Int32 → Option (Int32)
  | 0, _ => none
  | n + 1, x2 =>
    if 5 ≤ x2 then (some (0)) else (if ix x2 5 = true then ((tw_X6_bitOf (tr.1 x2.toNatClampNeg) p1).bind (fun q3 => if q3 = 1 then (some (x2)) else ((tw_X5_partAt_2 tr p1 n) (x2 + 1)))) else none)
def tw_X5_partAt (tr : TrS) (p1 : Int32) : Option (Int32) :=
  tw_X5_partAt_2 tr p1 5 1
set_option maxHeartbeats 4000000 in
set_option maxRecDepth 100000 in
theorem c_X5_partAt (l : Launch) (D : va_G) (cy : Cy) (trh : Nat) (tra : Nat) (trb : Nat) (trc : Nat) (tr : TrS) (p1 : Int32) (res : Int32) (h : tw_X5_partAt tr p1 = some res) : Ct l yX5_partAt wsX5_partAt 1 21 D cy [.ref trh, .int p1] (cTr trh tra trb trc cy.1 tr) (cTr trh tra trb trc cy.1 tr) (some (.int res)) := by
  refine Ct.ofW (cc := cX5_partAt) (maxL := 3) (ret := (some .int)) (by decide) rfl (Nat.le_of_ble_eq_true rfl) ?_
  intro p e R s m args below meth c A Q ls hRf hRl hQ hx hb hr hml hts hown hlocks hE hP hD hS hA hl
  have hiX5 : ∀ w ∈ u_ws RX5 TX5 5, w ∈ wsX5_partAt := by decide +kernel
  have hl : lv_has ls 3 [(0, .ref trh), (1, .int p1)] := hl
  rw [tw_X5_partAt] at h
  have L2 : ∀ (n : Nat) (x2 : Int32)  (H : Heap) (locs : List Loc) (ls : Array Slot), lv_has ls 3 [(0, .ref trh), (1, .int p1), (2, .int x2)] → va_P D vwCl (cTr trh tra trb trc cy.1 tr) H → va_D A (cTr trh tra trb trc cy.1 tr) → va_S A s.heap H locs → tw_X5_partAt_2 tr p1 n x2 = some res → W p l e R s m args below meth c H locs 0 0 Q (F0 m 2 ls []) := by
    intro n2
    induction n2 with
    | zero =>
      intro x2  H locs ls hl hP hD hS h
      exact absurd h (by rw [tw_X5_partAt_2]; exact fun q => by cases q)
    | succ n2 ih2 =>
      intro x2  H locs ls hl hP hD hS h
      rw [tw_X5_partAt_2] at h
      refine lv_iload_n hx hb dX5_partAt_2 rfl (lv_at hl 2 rfl) ?_
      refine lv_iconst (v := 5) hx hb dX5_partAt_3 (by decide) ?_
      refine lv_icmp_ge (tgt := 29) hx hb dX5_partAt_4 (by decide) (fun c1 => ?_) (fun c1 => ?_)
      · have h := oit h c1
        refine lv_iconst (v := 0) hx hb dX5_partAt_29 (by decide) ?_
        obtain rfl := Option.some.inj h
        rw [hQ]; exact ct_iret hx hb hr hlocks hP hS rfl dX5_partAt_30
      · have h := oif h c1
        refine lv_aload_n hx hb dX5_partAt_7 rfl (lv_at hl 0 rfl) ?_
        refine va_get (D := D) (ci := 5) (v := .ref tra) (C := RX5) (T := TX5) (N := 5) hx hb hts hiX5 hown hE.1 hP 0 rfl rfl 0 (by decide) (hts (.fieldLink RX5 9 "TiltTray$Tray" "told" "[I") (by decide +kernel)) (fun _ h9 => h9) rfl dX5_partAt_8 ?_
        refine lv_iload_n hx hb dX5_partAt_11 rfl (lv_at hl 2 rfl) ?_
        obtain ⟨g2, h⟩ := og h
        refine va_iald hx hb hE.1 hP 1 0 rfl rfl (ix_in g2) dX5_partAt_12 ?_
        refine lv_iload_n hx hb dX5_partAt_13 rfl (lv_at hl 1 rfl) ?_
        obtain ⟨q3, hq3, h⟩ := ob h
        refine kSN (As := [.int (tr.1 x2.toNatClampNeg), .int p1]) (rest := []) (w2 := cTr trh tra trb trc cy.1 tr) (n := 2) (host := "TiltTray") ⟨hx, hb, hml, hown, hts⟩ (c_X6_bitOf l D cy (tr.1 x2.toNatClampNeg) p1 q3 hq3) ggX5_partAt_X6_bitOf rfl (hE.2.1 (.methodLinkNest RX5 37 yX6_bitOf "TiltTray") (by decide +kernel)) (hts (.initialized RX6) (by decide +kernel)) (hts (.static yX6_bitOf) (by decide +kernel)) (by decide +kernel) ⟨by rw [hRf]; exact Nat.le_of_ble_eq_true rfl, by rw [hRl]; exact Nat.le_of_ble_eq_true rfl⟩ hE hP hD hS hA [] rfl rfl rfl rfl rfl hl.1 rfl (Nat.le_of_ble_eq_true rfl) dX5_partAt_14 ⟨Nat.zero_le _, Nat.zero_le _⟩ (fun H locs hP hD hS => ?_)
        refine lv_iconst (v := 1) hx hb dX5_partAt_17 (by decide) ?_
        refine lv_icmp_ne (tgt := 23) hx hb dX5_partAt_18 (by decide) (fun c4 => ?_) (fun c4 => ?_)
        · have h := oif h c4
          refine lv_iinc (v := x2 + 1) (lv' := [(2, .int (x2 + 1)), (0, .ref trh), (1, .int p1)]) hx hb dX5_partAt_23 hl (k := 2) rfl rfl (by decide) rfl (fun ls hl => ?_)
          refine lv_goto (tgt := 2) hx hb dX5_partAt_26 (by decide) ?_
          exact ih2 (x2 + 1) _ _ _ (lv_sub hl [1, 2, 0] rfl) hP hD hS h
        · have h := oit h c4
          refine lv_iload_n hx hb dX5_partAt_21 rfl (lv_at hl 2 rfl) ?_
          obtain rfl := Option.some.inj h
          rw [hQ]; exact ct_iret hx hb hr hlocks hP hS rfl dX5_partAt_22
  refine lv_iconst (v := 1) hx hb dX5_partAt_0 (by decide) ?_
  refine lv_istore_n (lv' := [(2, .int 1), (0, .ref trh), (1, .int p1)]) hx hb dX5_partAt_1 rfl hl (by decide) rfl (fun ls hl => ?_)
  exact L2 5 1 _ _ _ (lv_sub hl [1, 2, 0] rfl) hP hD hS h

def tw_X5_has (tr : TrS) (p1 : Int32) : Option (Int32) :=
  if p1 < 0 then (some (0)) else (if tr.2.2.2.1 ≤ p1 then (some (0)) else (some (1)))
set_option maxHeartbeats 4000000 in
set_option maxRecDepth 100000 in
theorem c_X5_has (l : Launch) (D : va_G) (cy : Cy) (trh : Nat) (tra : Nat) (trb : Nat) (trc : Nat) (tr : TrS) (p1 : Int32) (res : Int32) (h : tw_X5_has tr p1 = some res) : Ct l yX5_has wsX5_has 0 0 D cy [.ref trh, .int p1] (cTr trh tra trb trc cy.1 tr) (cTr trh tra trb trc cy.1 tr) (some (.int res)) := by
  refine Ct.ofW (cc := cX5_has) (maxL := 2) (ret := (some .boolean)) (by decide) rfl (Nat.le_of_ble_eq_true rfl) ?_
  intro p e R s m args below meth c A Q ls hRf hRl hQ hx hb hr hml hts hown hlocks hE hP hD hS hA hl
  have hiX5 : ∀ w ∈ u_ws RX5 TX5 5, w ∈ wsX5_has := by decide +kernel
  have hl : lv_has ls 2 [(0, .ref trh), (1, .int p1)] := hl
  rw [tw_X5_has] at h
  refine lv_iload_n hx hb dX5_has_0 rfl (lv_at hl 1 rfl) ?_
  refine lv_if_lt (tgt := 16) hx hb dX5_has_1 (by decide) (fun c1 => ?_) (fun c1 => ?_)
  · have h := oit h c1
    refine lv_iconst (v := 0) hx hb dX5_has_16 (by decide) ?_
    obtain rfl := Option.some.inj h
    rw [hQ]; exact ct_zret hx hb hr hlocks rfl hP hS rfl dX5_has_17
  · have h := oif h c1
    refine lv_iload_n hx hb dX5_has_4 rfl (lv_at hl 1 rfl) ?_
    refine lv_aload_n hx hb dX5_has_5 rfl (lv_at hl 0 rfl) ?_
    refine va_get (D := D) (ci := 5) (v := .int tr.2.2.2.1) (C := RX5) (T := TX5) (N := 5) hx hb hts hiX5 hown hE.1 hP 0 rfl rfl 3 (by decide) (hts (.fieldLink RX5 21 "TiltTray$Tray" "marbles" "I") (by decide +kernel)) (fun _ h9 => h9) rfl dX5_has_6 ?_
    refine lv_icmp_ge (tgt := 16) hx hb dX5_has_9 (by decide) (fun c2 => ?_) (fun c2 => ?_)
    · have h := oit h c2
      refine lv_iconst (v := 0) hx hb dX5_has_16 (by decide) ?_
      obtain rfl := Option.some.inj h
      rw [hQ]; exact ct_zret hx hb hr hlocks rfl hP hS rfl dX5_has_17
    · have h := oif h c2
      refine lv_iconst (v := 1) hx hb dX5_has_12 (by decide) ?_
      refine lv_goto (tgt := 17) hx hb dX5_has_13 (by decide) ?_
      obtain rfl := Option.some.inj h
      rw [hQ]; exact ct_zret hx hb hr hlocks rfl hP hS rfl dX5_has_17

def tw_X5_canBe (tr : TrS) (sp : SpS) (p1 : Int32) : Option (Int32) :=
  (tw_X6_bitOf ((((tr.1 (1 : Int32).toNatClampNeg) ||| (tr.1 (4 : Int32).toNatClampNeg)) ||| sp.2.1) ||| sp.2.2.2.1) p1).bind (fun q1 => if q1 = 0 then (some (1)) else (some (0)))
set_option maxHeartbeats 4000000 in
set_option maxRecDepth 100000 in
theorem c_X5_canBe (l : Launch) (D : va_G) (cy : Cy) (trh : Nat) (tra : Nat) (trb : Nat) (trc : Nat) (sph : Nat) (spa : Nat) (tr : TrS) (sp : SpS) (p1 : Int32) (res : Int32) (h : tw_X5_canBe tr sp p1 = some res) : Ct l yX5_canBe wsX5_canBe 1 21 D cy [.ref trh, .ref sph, .int p1] (cTr trh tra trb trc cy.1 tr ++ (cSp sph spa cy.1 sp)) (cTr trh tra trb trc cy.1 tr ++ (cSp sph spa cy.1 sp)) (some (.int res)) := by
  refine Ct.ofW (cc := cX5_canBe) (maxL := 3) (ret := (some .boolean)) (by decide) rfl (Nat.le_of_ble_eq_true rfl) ?_
  intro p e R s m args below meth c A Q ls hRf hRl hQ hx hb hr hml hts hown hlocks hE hP hD hS hA hl
  have hiX4 : ∀ w ∈ u_ws RX4 TX4 5, w ∈ wsX5_canBe := by decide +kernel
  have hiX5 : ∀ w ∈ u_ws RX5 TX5 5, w ∈ wsX5_canBe := by decide +kernel
  have hl : lv_has ls 3 [(0, .ref trh), (1, .ref sph), (2, .int p1)] := hl
  rw [tw_X5_canBe] at h
  refine lv_aload_n hx hb dX5_canBe_0 rfl (lv_at hl 0 rfl) ?_
  refine va_get (D := D) (ci := 5) (v := .ref tra) (C := RX5) (T := TX5) (N := 5) hx hb hts hiX5 hown hE.1 hP 0 rfl rfl 0 (by decide) (hts (.fieldLink RX5 9 "TiltTray$Tray" "told" "[I") (by decide +kernel)) (fun _ h9 => h9) rfl dX5_canBe_1 ?_
  refine lv_iconst (v := 1) hx hb dX5_canBe_4 (by decide) ?_
  refine va_iald hx hb hE.1 hP 1 0 rfl rfl (ix_in (by decide)) dX5_canBe_5 ?_
  refine lv_aload_n hx hb dX5_canBe_6 rfl (lv_at hl 0 rfl) ?_
  refine va_get (D := D) (ci := 5) (v := .ref tra) (C := RX5) (T := TX5) (N := 5) hx hb hts hiX5 hown hE.1 hP 0 rfl rfl 0 (by decide) (hts (.fieldLink RX5 9 "TiltTray$Tray" "told" "[I") (by decide +kernel)) (fun _ h9 => h9) rfl dX5_canBe_7 ?_
  refine lv_iconst (v := 4) hx hb dX5_canBe_10 (by decide) ?_
  refine va_iald hx hb hE.1 hP 1 0 rfl rfl (ix_in (by decide)) dX5_canBe_11 ?_
  refine lv_ior hx hb dX5_canBe_12 ?_
  refine lv_aload_n hx hb dX5_canBe_13 rfl (lv_at hl 1 rfl) ?_
  refine va_get (D := D) (ci := 4) (v := .int sp.2.1) (C := RX4) (T := TX4) (N := 5) hx hb hts hiX4 hown hE.1 hP 4 rfl rfl 1 (by decide) (hts (.fieldLink RX5 52 "TiltTray$Spot" "taken" "I") (by decide +kernel)) (fun _ h9 => h9) rfl dX5_canBe_14 ?_
  refine lv_ior hx hb dX5_canBe_17 ?_
  refine lv_aload_n hx hb dX5_canBe_18 rfl (lv_at hl 1 rfl) ?_
  refine va_get (D := D) (ci := 4) (v := .int sp.2.2.2.1) (C := RX4) (T := TX4) (N := 5) hx hb hts hiX4 hown hE.1 hP 4 rfl rfl 3 (by decide) (hts (.fieldLink RX5 57 "TiltTray$Spot" "wedged" "I") (by decide +kernel)) (fun _ h9 => h9) rfl dX5_canBe_19 ?_
  refine lv_ior hx hb dX5_canBe_22 ?_
  refine lv_iload_n hx hb dX5_canBe_23 rfl (lv_at hl 2 rfl) ?_
  obtain ⟨q1, hq1, h⟩ := ob h
  refine kSN (As := [.int ((((tr.1 (1 : Int32).toNatClampNeg) ||| (tr.1 (4 : Int32).toNatClampNeg)) ||| sp.2.1) ||| sp.2.2.2.1), .int p1]) (rest := []) (w2 := cTr trh tra trb trc cy.1 tr ++ (cSp sph spa cy.1 sp)) (n := 2) (host := "TiltTray") ⟨hx, hb, hml, hown, hts⟩ (c_X6_bitOf l D cy ((((tr.1 (1 : Int32).toNatClampNeg) ||| (tr.1 (4 : Int32).toNatClampNeg)) ||| sp.2.1) ||| sp.2.2.2.1) p1 q1 hq1) ggX5_canBe_X6_bitOf rfl (hE.2.1 (.methodLinkNest RX5 37 yX6_bitOf "TiltTray") (by decide +kernel)) (hts (.initialized RX6) (by decide +kernel)) (hts (.static yX6_bitOf) (by decide +kernel)) (by decide +kernel) ⟨by rw [hRf]; exact Nat.le_of_ble_eq_true rfl, by rw [hRl]; exact Nat.le_of_ble_eq_true rfl⟩ hE hP hD hS hA [] rfl rfl rfl rfl rfl hl.1 rfl (Nat.le_of_ble_eq_true rfl) dX5_canBe_24 ⟨Nat.zero_le _, Nat.zero_le _⟩ (fun H locs hP hD hS => ?_)
  refine lv_if_ne (tgt := 34) hx hb dX5_canBe_27 (by decide) (fun c2 => ?_) (fun c2 => ?_)
  · have h := oif h c2
    refine lv_iconst (v := 0) hx hb dX5_canBe_34 (by decide) ?_
    obtain rfl := Option.some.inj h
    rw [hQ]; exact ct_zret hx hb hr hlocks rfl hP hS rfl dX5_canBe_35
  · have h := oit h c2
    refine lv_iconst (v := 1) hx hb dX5_canBe_30 (by decide) ?_
    refine lv_goto (tgt := 35) hx hb dX5_canBe_31 (by decide) ?_
    obtain rfl := Option.some.inj h
    rw [hQ]; exact ct_zret hx hb hr hlocks rfl hP hS rfl dX5_canBe_35

def tw_X5_isOpenHole (tr : TrS) (sp : SpS) (p1 : Int32) : Option (Int32) :=
  (tw_X6_bitOf ((tr.1 (2 : Int32).toNatClampNeg) &&& (sp.2.2.1 ^^^ (-1))) p1).bind (fun q1 => if q1 = 1 then (some (1)) else (some (0)))
set_option maxHeartbeats 4000000 in
set_option maxRecDepth 100000 in
theorem c_X5_isOpenHole (l : Launch) (D : va_G) (cy : Cy) (trh : Nat) (tra : Nat) (trb : Nat) (trc : Nat) (sph : Nat) (spa : Nat) (tr : TrS) (sp : SpS) (p1 : Int32) (res : Int32) (h : tw_X5_isOpenHole tr sp p1 = some res) : Ct l yX5_isOpenHole wsX5_isOpenHole 1 21 D cy [.ref trh, .ref sph, .int p1] (cTr trh tra trb trc cy.1 tr ++ (cSp sph spa cy.1 sp)) (cTr trh tra trb trc cy.1 tr ++ (cSp sph spa cy.1 sp)) (some (.int res)) := by
  refine Ct.ofW (cc := cX5_isOpenHole) (maxL := 3) (ret := (some .boolean)) (by decide) rfl (Nat.le_of_ble_eq_true rfl) ?_
  intro p e R s m args below meth c A Q ls hRf hRl hQ hx hb hr hml hts hown hlocks hE hP hD hS hA hl
  have hiX4 : ∀ w ∈ u_ws RX4 TX4 5, w ∈ wsX5_isOpenHole := by decide +kernel
  have hiX5 : ∀ w ∈ u_ws RX5 TX5 5, w ∈ wsX5_isOpenHole := by decide +kernel
  have hl : lv_has ls 3 [(0, .ref trh), (1, .ref sph), (2, .int p1)] := hl
  rw [tw_X5_isOpenHole] at h
  refine lv_aload_n hx hb dX5_isOpenHole_0 rfl (lv_at hl 0 rfl) ?_
  refine va_get (D := D) (ci := 5) (v := .ref tra) (C := RX5) (T := TX5) (N := 5) hx hb hts hiX5 hown hE.1 hP 0 rfl rfl 0 (by decide) (hts (.fieldLink RX5 9 "TiltTray$Tray" "told" "[I") (by decide +kernel)) (fun _ h9 => h9) rfl dX5_isOpenHole_1 ?_
  refine lv_iconst (v := 2) hx hb dX5_isOpenHole_4 (by decide) ?_
  refine va_iald hx hb hE.1 hP 1 0 rfl rfl (ix_in (by decide)) dX5_isOpenHole_5 ?_
  refine lv_aload_n hx hb dX5_isOpenHole_6 rfl (lv_at hl 1 rfl) ?_
  refine va_get (D := D) (ci := 4) (v := .int sp.2.2.1) (C := RX4) (T := TX4) (N := 5) hx hb hts hiX4 hown hE.1 hP 4 rfl rfl 2 (by decide) (hts (.fieldLink RX5 60 "TiltTray$Spot" "full" "I") (by decide +kernel)) (fun _ h9 => h9) rfl dX5_isOpenHole_7 ?_
  refine lv_iconst (v := (-1)) hx hb dX5_isOpenHole_10 (by decide) ?_
  refine lv_ixor hx hb dX5_isOpenHole_11 ?_
  refine lv_iand hx hb dX5_isOpenHole_12 ?_
  refine lv_iload_n hx hb dX5_isOpenHole_13 rfl (lv_at hl 2 rfl) ?_
  obtain ⟨q1, hq1, h⟩ := ob h
  refine kSN (As := [.int ((tr.1 (2 : Int32).toNatClampNeg) &&& (sp.2.2.1 ^^^ (-1))), .int p1]) (rest := []) (w2 := cTr trh tra trb trc cy.1 tr ++ (cSp sph spa cy.1 sp)) (n := 2) (host := "TiltTray") ⟨hx, hb, hml, hown, hts⟩ (c_X6_bitOf l D cy ((tr.1 (2 : Int32).toNatClampNeg) &&& (sp.2.2.1 ^^^ (-1))) p1 q1 hq1) ggX5_isOpenHole_X6_bitOf rfl (hE.2.1 (.methodLinkNest RX5 37 yX6_bitOf "TiltTray") (by decide +kernel)) (hts (.initialized RX6) (by decide +kernel)) (hts (.static yX6_bitOf) (by decide +kernel)) (by decide +kernel) ⟨by rw [hRf]; exact Nat.le_of_ble_eq_true rfl, by rw [hRl]; exact Nat.le_of_ble_eq_true rfl⟩ hE hP hD hS hA [] rfl rfl rfl rfl rfl hl.1 rfl (Nat.le_of_ble_eq_true rfl) dX5_isOpenHole_14 ⟨Nat.zero_le _, Nat.zero_le _⟩ (fun H locs hP hD hS => ?_)
  refine lv_iconst (v := 1) hx hb dX5_isOpenHole_17 (by decide) ?_
  refine lv_icmp_ne (tgt := 25) hx hb dX5_isOpenHole_18 (by decide) (fun c2 => ?_) (fun c2 => ?_)
  · have h := oif h c2
    refine lv_iconst (v := 0) hx hb dX5_isOpenHole_25 (by decide) ?_
    obtain rfl := Option.some.inj h
    rw [hQ]; exact ct_zret hx hb hr hlocks rfl hP hS rfl dX5_isOpenHole_26
  · have h := oit h c2
    refine lv_iconst (v := 1) hx hb dX5_isOpenHole_21 (by decide) ?_
    refine lv_goto (tgt := 26) hx hb dX5_isOpenHole_22 (by decide) ?_
    obtain rfl := Option.some.inj h
    rw [hQ]; exact ct_zret hx hb hr hlocks rfl hP hS rfl dX5_isOpenHole_26

def tw_X5_openHoles (tr : TrS) (sp : SpS) : Option (Int32) :=
  (tw_J6_bitCount_0f7a4 ((tr.1 (2 : Int32).toNatClampNeg) &&& (sp.2.2.1 ^^^ (-1)))).bind (fun q1 => some (q1))
set_option maxHeartbeats 4000000 in
set_option maxRecDepth 100000 in
theorem c_X5_openHoles (l : Launch) (D : va_G) (cy : Cy) (trh : Nat) (tra : Nat) (trb : Nat) (trc : Nat) (sph : Nat) (spa : Nat) (tr : TrS) (sp : SpS) (res : Int32) (h : tw_X5_openHoles tr sp = some res) : Ct l yX5_openHoles wsX5_openHoles 1 20 D cy [.ref trh, .ref sph] (cTr trh tra trb trc cy.1 tr ++ (cSp sph spa cy.1 sp)) (cTr trh tra trb trc cy.1 tr ++ (cSp sph spa cy.1 sp)) (some (.int res)) := by
  refine Ct.ofW (cc := cX5_openHoles) (maxL := 2) (ret := (some .int)) (by decide) rfl (Nat.le_of_ble_eq_true rfl) ?_
  intro p e R s m args below meth c A Q ls hRf hRl hQ hx hb hr hml hts hown hlocks hE hP hD hS hA hl
  have hiX4 : ∀ w ∈ u_ws RX4 TX4 5, w ∈ wsX5_openHoles := by decide +kernel
  have hiX5 : ∀ w ∈ u_ws RX5 TX5 5, w ∈ wsX5_openHoles := by decide +kernel
  have hl : lv_has ls 2 [(0, .ref trh), (1, .ref sph)] := hl
  rw [tw_X5_openHoles] at h
  refine lv_aload_n hx hb dX5_openHoles_0 rfl (lv_at hl 0 rfl) ?_
  refine va_get (D := D) (ci := 5) (v := .ref tra) (C := RX5) (T := TX5) (N := 5) hx hb hts hiX5 hown hE.1 hP 0 rfl rfl 0 (by decide) (hts (.fieldLink RX5 9 "TiltTray$Tray" "told" "[I") (by decide +kernel)) (fun _ h9 => h9) rfl dX5_openHoles_1 ?_
  refine lv_iconst (v := 2) hx hb dX5_openHoles_4 (by decide) ?_
  refine va_iald hx hb hE.1 hP 1 0 rfl rfl (ix_in (by decide)) dX5_openHoles_5 ?_
  refine lv_aload_n hx hb dX5_openHoles_6 rfl (lv_at hl 1 rfl) ?_
  refine va_get (D := D) (ci := 4) (v := .int sp.2.2.1) (C := RX4) (T := TX4) (N := 5) hx hb hts hiX4 hown hE.1 hP 4 rfl rfl 2 (by decide) (hts (.fieldLink RX5 60 "TiltTray$Spot" "full" "I") (by decide +kernel)) (fun _ h9 => h9) rfl dX5_openHoles_7 ?_
  refine lv_iconst (v := (-1)) hx hb dX5_openHoles_10 (by decide) ?_
  refine lv_ixor hx hb dX5_openHoles_11 ?_
  refine lv_iand hx hb dX5_openHoles_12 ?_
  obtain ⟨q1, hq1, h⟩ := ob h
  refine kS (As := [.int ((tr.1 (2 : Int32).toNatClampNeg) &&& (sp.2.2.1 ^^^ (-1)))]) (rest := []) (w2 := cTr trh tra trb trc cy.1 tr ++ (cSp sph spa cy.1 sp)) (n := 1) ⟨hx, hb, hml, hown, hts⟩ (c_J6_bitCount_0f7a4 l D cy ((tr.1 (2 : Int32).toNatClampNeg) &&& (sp.2.2.1 ^^^ (-1))) q1 hq1) gX5_openHoles_J6_bitCount_0f7a4 rfl (by decide +kernel) ⟨by rw [hRf]; exact Nat.le_of_ble_eq_true rfl, by rw [hRl]; exact Nat.le_of_ble_eq_true rfl⟩ hE hP hD hS hA [] rfl rfl rfl rfl rfl hl.1 rfl (Nat.le_of_ble_eq_true rfl) dX5_openHoles_13 ⟨Nat.zero_le _, Nat.zero_le _⟩ (fun H locs hP hD hS => ?_)
  obtain rfl := Option.some.inj h
  rw [hQ]; exact ct_iret hx hb hr hlocks hP hS rfl dX5_openHoles_16

def tw_X5_wedgeRefusal (tr : TrS) (sp : SpS) (p1 : Int32) : Option (Int32) :=
  (tw_X6_isCell p1).bind (fun q1 => if q1 = 0 then (some ((-1))) else ((tw_X5_isPlain tr p1).bind (fun q3 => if q3 = 0 then (some ((-3))) else ((tw_X6_bitOf sp.2.1 p1).bind (fun q5 => if q5 = 1 then (some ((-3))) else ((tw_X6_bitOf sp.2.2.2.1 p1).bind (fun q7 => if q7 = 0 then ((tw_J6_bitCount_0f7a4 sp.2.2.2.1).bind (fun q9 => if q9 < 3 then (some (0)) else (some ((-4))))) else (some (0)))))))))
set_option maxHeartbeats 4000000 in
set_option maxRecDepth 100000 in
theorem c_X5_wedgeRefusal (l : Launch) (D : va_G) (cy : Cy) (trh : Nat) (tra : Nat) (trb : Nat) (trc : Nat) (sph : Nat) (spa : Nat) (tr : TrS) (sp : SpS) (p1 : Int32) (res : Int32) (h : tw_X5_wedgeRefusal tr sp p1 = some res) : Ct l yX5_wedgeRefusal wsX5_wedgeRefusal 2 42 D cy [.ref trh, .ref sph, .int p1] (cTr trh tra trb trc cy.1 tr ++ (cSp sph spa cy.1 sp)) (cTr trh tra trb trc cy.1 tr ++ (cSp sph spa cy.1 sp)) (some (.int res)) := by
  refine Ct.ofW (cc := cX5_wedgeRefusal) (maxL := 3) (ret := (some .int)) (by decide) rfl (Nat.le_of_ble_eq_true rfl) ?_
  intro p e R s m args below meth c A Q ls hRf hRl hQ hx hb hr hml hts hown hlocks hE hP hD hS hA hl
  have hiX4 : ∀ w ∈ u_ws RX4 TX4 5, w ∈ wsX5_wedgeRefusal := by decide +kernel
  have hl : lv_has ls 3 [(0, .ref trh), (1, .ref sph), (2, .int p1)] := hl
  rw [tw_X5_wedgeRefusal] at h
  refine lv_iload_n hx hb dX5_wedgeRefusal_0 rfl (lv_at hl 2 rfl) ?_
  obtain ⟨q1, hq1, h⟩ := ob h
  refine kSN (As := [.int p1]) (rest := []) (w2 := cTr trh tra trb trc cy.1 tr ++ (cSp sph spa cy.1 sp)) (n := 1) (host := "TiltTray") ⟨hx, hb, hml, hown, hts⟩ (c_X6_isCell l D cy p1 q1 hq1) ggX5_wedgeRefusal_X6_isCell rfl (hE.2.1 (.methodLinkNest RX5 63 yX6_isCell "TiltTray") (by decide +kernel)) (hts (.initialized RX6) (by decide +kernel)) (hts (.static yX6_isCell) (by decide +kernel)) (by decide +kernel) ⟨by rw [hRf]; exact Nat.le_of_ble_eq_true rfl, by rw [hRl]; exact Nat.le_of_ble_eq_true rfl⟩ hE hP hD hS hA [] rfl rfl rfl rfl rfl hl.1 rfl (Nat.le_of_ble_eq_true rfl) dX5_wedgeRefusal_1 ⟨Nat.zero_le _, Nat.zero_le _⟩ (fun H locs hP hD hS => ?_)
  refine lv_if_ne (tgt := 9) hx hb dX5_wedgeRefusal_4 (by decide) (fun c2 => ?_) (fun c2 => ?_)
  · have h := oif h c2
    refine lv_aload_n hx hb dX5_wedgeRefusal_9 rfl (lv_at hl 0 rfl) ?_
    refine lv_iload_n hx hb dX5_wedgeRefusal_10 rfl (lv_at hl 2 rfl) ?_
    obtain ⟨q3, hq3, h⟩ := ob h
    refine kV (As := [.int p1]) (rest := []) (w2 := cTr trh tra trb trc cy.1 tr ++ (cSp sph spa cy.1 sp)) (n := 1) (q0 := 0) ⟨hx, hb, hml, hown, hts⟩ (c_X5_isPlain l D cy trh tra trb trc tr p1 q3 hq3) gX5_wedgeRefusal_X5_isPlain rfl (by decide +kernel) ⟨by rw [hRf]; exact Nat.le_of_ble_eq_true rfl, by rw [hRl]; exact Nat.le_of_ble_eq_true rfl⟩ hE hP hD hS hA [0, 1, 2, 3] rfl rfl rfl rfl rfl rfl rfl hl.1 rfl (Nat.le_of_ble_eq_true rfl) dX5_wedgeRefusal_11 ⟨Nat.zero_le _, Nat.zero_le _⟩ (fun H locs hP hD hS => ?_)
    refine lv_if_eq (tgt := 29) hx hb dX5_wedgeRefusal_14 (by decide) (fun c4 => ?_) (fun c4 => ?_)
    · have h := oit h c4
      refine lv_bipush (v := (-3)) hx hb dX5_wedgeRefusal_29 (by decide) ?_
      obtain rfl := Option.some.inj h
      rw [hQ]; exact ct_iret hx hb hr hlocks hP hS rfl dX5_wedgeRefusal_31
    · have h := oif h c4
      refine lv_aload_n hx hb dX5_wedgeRefusal_17 rfl (lv_at hl 1 rfl) ?_
      refine va_get (D := D) (ci := 4) (v := .int sp.2.1) (C := RX4) (T := TX4) (N := 5) hx hb hts hiX4 hown hE.1 hP 4 rfl rfl 1 (by decide) (hts (.fieldLink RX5 52 "TiltTray$Spot" "taken" "I") (by decide +kernel)) (fun _ h9 => h9) rfl dX5_wedgeRefusal_18 ?_
      refine lv_iload_n hx hb dX5_wedgeRefusal_21 rfl (lv_at hl 2 rfl) ?_
      obtain ⟨q5, hq5, h⟩ := ob h
      refine kSN (As := [.int sp.2.1, .int p1]) (rest := []) (w2 := cTr trh tra trb trc cy.1 tr ++ (cSp sph spa cy.1 sp)) (n := 2) (host := "TiltTray") ⟨hx, hb, hml, hown, hts⟩ (c_X6_bitOf l D cy sp.2.1 p1 q5 hq5) ggX5_wedgeRefusal_X6_bitOf rfl (hE.2.1 (.methodLinkNest RX5 37 yX6_bitOf "TiltTray") (by decide +kernel)) (hts (.initialized RX6) (by decide +kernel)) (hts (.static yX6_bitOf) (by decide +kernel)) (by decide +kernel) ⟨by rw [hRf]; exact Nat.le_of_ble_eq_true rfl, by rw [hRl]; exact Nat.le_of_ble_eq_true rfl⟩ hE hP hD hS hA [] rfl rfl rfl rfl rfl hl.1 rfl (Nat.le_of_ble_eq_true rfl) dX5_wedgeRefusal_22 ⟨Nat.zero_le _, Nat.zero_le _⟩ (fun H locs hP hD hS => ?_)
      refine lv_iconst (v := 1) hx hb dX5_wedgeRefusal_25 (by decide) ?_
      refine lv_icmp_ne (tgt := 32) hx hb dX5_wedgeRefusal_26 (by decide) (fun c6 => ?_) (fun c6 => ?_)
      · have h := oif h c6
        refine lv_aload_n hx hb dX5_wedgeRefusal_32 rfl (lv_at hl 1 rfl) ?_
        refine va_get (D := D) (ci := 4) (v := .int sp.2.2.2.1) (C := RX4) (T := TX4) (N := 5) hx hb hts hiX4 hown hE.1 hP 4 rfl rfl 3 (by decide) (hts (.fieldLink RX5 57 "TiltTray$Spot" "wedged" "I") (by decide +kernel)) (fun _ h9 => h9) rfl dX5_wedgeRefusal_33 ?_
        refine lv_iload_n hx hb dX5_wedgeRefusal_36 rfl (lv_at hl 2 rfl) ?_
        obtain ⟨q7, hq7, h⟩ := ob h
        refine kSN (As := [.int sp.2.2.2.1, .int p1]) (rest := []) (w2 := cTr trh tra trb trc cy.1 tr ++ (cSp sph spa cy.1 sp)) (n := 2) (host := "TiltTray") ⟨hx, hb, hml, hown, hts⟩ (c_X6_bitOf l D cy sp.2.2.2.1 p1 q7 hq7) ggX5_wedgeRefusal_X6_bitOf rfl (hE.2.1 (.methodLinkNest RX5 37 yX6_bitOf "TiltTray") (by decide +kernel)) (hts (.initialized RX6) (by decide +kernel)) (hts (.static yX6_bitOf) (by decide +kernel)) (by decide +kernel) ⟨by rw [hRf]; exact Nat.le_of_ble_eq_true rfl, by rw [hRl]; exact Nat.le_of_ble_eq_true rfl⟩ hE hP hD hS hA [] rfl rfl rfl rfl rfl hl.1 rfl (Nat.le_of_ble_eq_true rfl) dX5_wedgeRefusal_37 ⟨Nat.zero_le _, Nat.zero_le _⟩ (fun H locs hP hD hS => ?_)
        refine lv_if_ne (tgt := 57) hx hb dX5_wedgeRefusal_40 (by decide) (fun c8 => ?_) (fun c8 => ?_)
        · have h := oif h c8
          refine lv_iconst (v := 0) hx hb dX5_wedgeRefusal_57 (by decide) ?_
          obtain rfl := Option.some.inj h
          rw [hQ]; exact ct_iret hx hb hr hlocks hP hS rfl dX5_wedgeRefusal_58
        · have h := oit h c8
          refine lv_aload_n hx hb dX5_wedgeRefusal_43 rfl (lv_at hl 1 rfl) ?_
          refine va_get (D := D) (ci := 4) (v := .int sp.2.2.2.1) (C := RX4) (T := TX4) (N := 5) hx hb hts hiX4 hown hE.1 hP 4 rfl rfl 3 (by decide) (hts (.fieldLink RX5 57 "TiltTray$Spot" "wedged" "I") (by decide +kernel)) (fun _ h9 => h9) rfl dX5_wedgeRefusal_44 ?_
          obtain ⟨q9, hq9, h⟩ := ob h
          refine kS (As := [.int sp.2.2.2.1]) (rest := []) (w2 := cTr trh tra trb trc cy.1 tr ++ (cSp sph spa cy.1 sp)) (n := 1) ⟨hx, hb, hml, hown, hts⟩ (c_J6_bitCount_0f7a4 l D cy sp.2.2.2.1 q9 hq9) gX5_wedgeRefusal_J6_bitCount_0f7a4 rfl (by decide +kernel) ⟨by rw [hRf]; exact Nat.le_of_ble_eq_true rfl, by rw [hRl]; exact Nat.le_of_ble_eq_true rfl⟩ hE hP hD hS hA [] rfl rfl rfl rfl rfl hl.1 rfl (Nat.le_of_ble_eq_true rfl) dX5_wedgeRefusal_47 ⟨Nat.zero_le _, Nat.zero_le _⟩ (fun H locs hP hD hS => ?_)
          refine lv_iconst (v := 3) hx hb dX5_wedgeRefusal_50 (by decide) ?_
          refine lv_icmp_lt (tgt := 57) hx hb dX5_wedgeRefusal_51 (by decide) (fun c10 => ?_) (fun c10 => ?_)
          · have h := oit h c10
            refine lv_iconst (v := 0) hx hb dX5_wedgeRefusal_57 (by decide) ?_
            obtain rfl := Option.some.inj h
            rw [hQ]; exact ct_iret hx hb hr hlocks hP hS rfl dX5_wedgeRefusal_58
          · have h := oif h c10
            refine lv_bipush (v := (-4)) hx hb dX5_wedgeRefusal_54 (by decide) ?_
            obtain rfl := Option.some.inj h
            rw [hQ]; exact ct_iret hx hb hr hlocks hP hS rfl dX5_wedgeRefusal_56
      · have h := oit h c6
        refine lv_bipush (v := (-3)) hx hb dX5_wedgeRefusal_29 (by decide) ?_
        obtain rfl := Option.some.inj h
        rw [hQ]; exact ct_iret hx hb hr hlocks hP hS rfl dX5_wedgeRefusal_31
  · have h := oit h c2
    refine lv_iconst (v := (-1)) hx hb dX5_wedgeRefusal_7 (by decide) ?_
    obtain rfl := Option.some.inj h
    rw [hQ]; exact ct_iret hx hb hr hlocks hP hS rfl dX5_wedgeRefusal_8

def tw_X5_turnWedge (tr : TrS) (sp : SpS) (p1 : Int32) : Option (Int32 × SpS) :=
  (tw_X5_wedgeRefusal tr sp p1).bind (fun q1 => if q1 = 0 then (some (1, (sp.1, sp.2.1, sp.2.2.1, sp.2.2.2.1 ^^^ (1 <<< (p1 &&& 31)), sp.2.2.2.2))) else (some (0, sp)))
set_option maxHeartbeats 4000000 in
set_option maxRecDepth 100000 in
theorem c_X5_turnWedge (l : Launch) (D : va_G) (cy : Cy) (trh : Nat) (tra : Nat) (trb : Nat) (trc : Nat) (sph : Nat) (spa : Nat) (tr : TrS) (sp : SpS) (p1 : Int32) (res : Int32 × SpS) (h : tw_X5_turnWedge tr sp p1 = some res) : Ct l yX5_turnWedge wsX5_turnWedge 3 64 D cy [.ref trh, .ref sph, .int p1] (cTr trh tra trb trc cy.1 tr ++ (cSp sph spa cy.1 sp)) (cTr trh tra trb trc cy.1 tr ++ (cSp sph spa cy.1 res.2)) (some (.int res.1)) := by
  refine Ct.ofW (cc := cX5_turnWedge) (maxL := 3) (ret := (some .boolean)) (by decide) rfl (Nat.le_of_ble_eq_true rfl) ?_
  intro p e R s m args below meth c A Q ls hRf hRl hQ hx hb hr hml hts hown hlocks hE hP hD hS hA hl
  have hiX4 : ∀ w ∈ u_ws RX4 TX4 5, w ∈ wsX5_turnWedge := by decide +kernel
  have hl : lv_has ls 3 [(0, .ref trh), (1, .ref sph), (2, .int p1)] := hl
  rw [tw_X5_turnWedge] at h
  refine lv_aload_n hx hb dX5_turnWedge_0 rfl (lv_at hl 0 rfl) ?_
  refine lv_aload_n hx hb dX5_turnWedge_1 rfl (lv_at hl 1 rfl) ?_
  refine lv_iload_n hx hb dX5_turnWedge_2 rfl (lv_at hl 2 rfl) ?_
  obtain ⟨q1, hq1, h⟩ := ob h
  refine kV (As := [.ref sph, .int p1]) (rest := []) (w2 := cTr trh tra trb trc cy.1 tr ++ (cSp sph spa cy.1 sp)) (n := 2) (q0 := 0) ⟨hx, hb, hml, hown, hts⟩ (c_X5_wedgeRefusal l D cy trh tra trb trc sph spa tr sp p1 q1 hq1) gX5_turnWedge_X5_wedgeRefusal rfl (by decide +kernel) ⟨by rw [hRf]; exact Nat.le_of_ble_eq_true rfl, by rw [hRl]; exact Nat.le_of_ble_eq_true rfl⟩ hE hP hD hS hA [0, 1, 2, 3, 4, 5] rfl rfl rfl rfl rfl rfl rfl hl.1 rfl (Nat.le_of_ble_eq_true rfl) dX5_turnWedge_3 ⟨Nat.zero_le _, Nat.zero_le _⟩ (fun H locs hP hD hS => ?_)
  refine lv_if_eq (tgt := 11) hx hb dX5_turnWedge_6 (by decide) (fun c2 => ?_) (fun c2 => ?_)
  · have h := oit h c2
    refine lv_aload_n hx hb dX5_turnWedge_11 rfl (lv_at hl 1 rfl) ?_
    refine lv_dup hx hb dX5_turnWedge_12 rfl ?_
    refine va_get (D := D) (ci := 4) (v := .int sp.2.2.2.1) (C := RX4) (T := TX4) (N := 5) hx hb hts hiX4 hown hE.1 hP 4 rfl rfl 3 (by decide) (hts (.fieldLink RX5 57 "TiltTray$Spot" "wedged" "I") (by decide +kernel)) (fun _ h9 => h9) rfl dX5_turnWedge_13 ?_
    refine lv_iconst (v := 1) hx hb dX5_turnWedge_16 (by decide) ?_
    refine lv_iload_n hx hb dX5_turnWedge_17 rfl (lv_at hl 2 rfl) ?_
    refine lv_ishl hx hb dX5_turnWedge_18 ?_
    refine lv_ixor hx hb dX5_turnWedge_19 ?_
    refine va_put (D := D) (ci := 4) (v := .int (sp.2.2.2.1 ^^^ (1 <<< (p1 &&& 31)))) (ty := .int) (C := RX4) (T := TX4) (N := 5) hx hb hts hiX4 tyX4 tyX4_ok nmX4 hown hE.1 hP hD hS 4 rfl rfl 3 (by decide) (hts (.fieldLink RX5 57 "TiltTray$Spot" "wedged" "I") (by decide +kernel)) (fun _ h9 => h9) rfl (by decide +kernel) rfl rfl (Nat.le_of_ble_eq_true rfl) dX5_turnWedge_20 (fun H locs hP hD hS => ?_)
    have hP : va_P D vwCl (cTr trh tra trb trc cy.1 tr ++ (cSp sph spa cy.1 (sp.1, sp.2.1, sp.2.2.1, sp.2.2.2.1 ^^^ (1 <<< (p1 &&& 31)), sp.2.2.2.2))) H := hP
    have hD : va_D A (cTr trh tra trb trc cy.1 tr ++ (cSp sph spa cy.1 (sp.1, sp.2.1, sp.2.2.1, sp.2.2.2.1 ^^^ (1 <<< (p1 &&& 31)), sp.2.2.2.2))) := hD
    refine lv_iconst (v := 1) hx hb dX5_turnWedge_23 (by decide) ?_
    obtain rfl := Option.some.inj h
    rw [hQ]; exact ct_zret hx hb hr hlocks rfl hP hS rfl dX5_turnWedge_24
  · have h := oif h c2
    refine lv_iconst (v := 0) hx hb dX5_turnWedge_9 (by decide) ?_
    obtain rfl := Option.some.inj h
    rw [hQ]; exact ct_zret hx hb hr hlocks rfl hP hS rfl dX5_turnWedge_10

def tw_X5_stoppedAhead_51 (tr : TrS) (sp : SpS) (k4 : Int32 → Int32 → Option (Int32)) (x2 : Int32) (x3 : Int32) : Option (Int32) :=
  k4 (x2 ||| (1 <<< (x3 &&& 31))) (x3 + 1)
def tw_X5_stoppedAhead_4 (tr : TrS) (sp : SpS) : Nat → Int32 → Int32 → Option (Int32)
  | 0, _, _ => none
  | n + 1, x2, x3 =>
    if tr.2.2.2.1 ≤ x3 then (some (x2)) else (if ix x3 4 = true then ((tw_X6_isCell (sp.1 x3.toNatClampNeg)).bind (fun q3 => if q3 = 0 then (tw_X5_stoppedAhead_51 tr sp (tw_X5_stoppedAhead_4 tr sp n) x2 x3) else (if ix x3 4 = true then (if (tr.2.1 x3.toNatClampNeg) = 1 then ((tw_X6_bitOf tr.2.2.2.2 (sp.1 x3.toNatClampNeg)).bind (fun q7 => if q7 = 1 then (tw_X5_stoppedAhead_51 tr sp (tw_X5_stoppedAhead_4 tr sp n) x2 x3) else ((tw_X5_stoppedAhead_4 tr sp n) x2 (x3 + 1)))) else ((tw_X5_stoppedAhead_4 tr sp n) x2 (x3 + 1))) else none))) else none)
def tw_X5_stoppedAhead (tr : TrS) (sp : SpS) : Option (Int32) :=
  tw_X5_stoppedAhead_4 tr sp 5 0 0
set_option maxHeartbeats 4000000 in
set_option maxRecDepth 100000 in
theorem c_X5_stoppedAhead (l : Launch) (D : va_G) (cy : Cy) (trh : Nat) (tra : Nat) (trb : Nat) (trc : Nat) (sph : Nat) (spa : Nat) (tr : TrS) (sp : SpS) (res : Int32) (h : tw_X5_stoppedAhead tr sp = some res) : Ct l yX5_stoppedAhead wsX5_stoppedAhead 1 21 D cy [.ref trh, .ref sph] (cTr trh tra trb trc cy.1 tr ++ (cSp sph spa cy.1 sp)) (cTr trh tra trb trc cy.1 tr ++ (cSp sph spa cy.1 sp)) (some (.int res)) := by
  refine Ct.ofW (cc := cX5_stoppedAhead) (maxL := 5) (ret := (some .int)) (by decide) rfl (Nat.le_of_ble_eq_true rfl) ?_
  intro p e R s m args below meth c A Q ls hRf hRl hQ hx hb hr hml hts hown hlocks hE hP hD hS hA hl
  have hiX4 : ∀ w ∈ u_ws RX4 TX4 5, w ∈ wsX5_stoppedAhead := by decide +kernel
  have hiX5 : ∀ w ∈ u_ws RX5 TX5 5, w ∈ wsX5_stoppedAhead := by decide +kernel
  have hl : lv_has ls 5 [(0, .ref trh), (1, .ref sph)] := hl
  rw [tw_X5_stoppedAhead] at h
  have L4 : ∀ (n : Nat) (x2 : Int32) (x3 : Int32)  (H : Heap) (locs : List Loc) (ls : Array Slot), lv_has ls 5 [(0, .ref trh), (1, .ref sph), (2, .int x2), (3, .int x3)] → va_P D vwCl (cTr trh tra trb trc cy.1 tr ++ (cSp sph spa cy.1 sp)) H → va_D A (cTr trh tra trb trc cy.1 tr ++ (cSp sph spa cy.1 sp)) → va_S A s.heap H locs → tw_X5_stoppedAhead_4 tr sp n x2 x3 = some res → W p l e R s m args below meth c H locs 0 0 Q (F0 m 4 ls []) := by
    intro n4
    induction n4 with
    | zero =>
      intro x2 x3  H locs ls hl hP hD hS h
      exact absurd h (by rw [tw_X5_stoppedAhead_4]; exact fun q => by cases q)
    | succ n4 ih4 =>
      intro x2 x3  H locs ls hl hP hD hS h
      rw [tw_X5_stoppedAhead_4] at h
      have L51 : ∀ (x2 : Int32) (x3 : Int32)  (H : Heap) (locs : List Loc) (ls : Array Slot), lv_has ls 5 [(0, .ref trh), (1, .ref sph), (2, .int x2), (3, .int x3)] → va_P D vwCl (cTr trh tra trb trc cy.1 tr ++ (cSp sph spa cy.1 sp)) H → va_D A (cTr trh tra trb trc cy.1 tr ++ (cSp sph spa cy.1 sp)) → va_S A s.heap H locs → tw_X5_stoppedAhead_51 tr sp (tw_X5_stoppedAhead_4 tr sp n4) x2 x3 = some res → W p l e R s m args below meth c H locs 0 0 Q (F0 m 51 ls []) := by
        intro x2 x3  H locs ls hl hP hD hS h
        rw [tw_X5_stoppedAhead_51] at h
        refine lv_iload_n hx hb dX5_stoppedAhead_51 rfl (lv_at hl 2 rfl) ?_
        refine lv_iconst (v := 1) hx hb dX5_stoppedAhead_52 (by decide) ?_
        refine lv_iload_n hx hb dX5_stoppedAhead_53 rfl (lv_at hl 3 rfl) ?_
        refine lv_ishl hx hb dX5_stoppedAhead_54 ?_
        refine lv_ior hx hb dX5_stoppedAhead_55 ?_
        refine lv_istore_n (lv' := [(2, .int (x2 ||| (1 <<< (x3 &&& 31)))), (0, .ref trh), (1, .ref sph), (3, .int x3)]) hx hb dX5_stoppedAhead_56 rfl hl (by decide) rfl (fun ls hl => ?_)
        refine lv_iinc (v := x3 + 1) (lv' := [(3, .int (x3 + 1)), (2, .int (x2 ||| (1 <<< (x3 &&& 31)))), (0, .ref trh), (1, .ref sph)]) hx hb dX5_stoppedAhead_57 hl (k := 3) rfl rfl (by decide) rfl (fun ls hl => ?_)
        refine lv_goto (tgt := 4) hx hb dX5_stoppedAhead_60 (by decide) ?_
        exact ih4 (x2 ||| (1 <<< (x3 &&& 31))) (x3 + 1) _ _ _ (lv_sub hl [2, 3, 1, 0] rfl) hP hD hS h
      refine lv_iload_n hx hb dX5_stoppedAhead_4 rfl (lv_at hl 3 rfl) ?_
      refine lv_aload_n hx hb dX5_stoppedAhead_5 rfl (lv_at hl 0 rfl) ?_
      refine va_get (D := D) (ci := 5) (v := .int tr.2.2.2.1) (C := RX5) (T := TX5) (N := 5) hx hb hts hiX5 hown hE.1 hP 0 rfl rfl 3 (by decide) (hts (.fieldLink RX5 21 "TiltTray$Tray" "marbles" "I") (by decide +kernel)) (fun _ h9 => h9) rfl dX5_stoppedAhead_6 ?_
      refine lv_icmp_ge (tgt := 63) hx hb dX5_stoppedAhead_9 (by decide) (fun c1 => ?_) (fun c1 => ?_)
      · have h := oit h c1
        refine lv_iload_n hx hb dX5_stoppedAhead_63 rfl (lv_at hl 2 rfl) ?_
        obtain rfl := Option.some.inj h
        rw [hQ]; exact ct_iret hx hb hr hlocks hP hS rfl dX5_stoppedAhead_64
      · have h := oif h c1
        refine lv_aload_n hx hb dX5_stoppedAhead_12 rfl (lv_at hl 1 rfl) ?_
        refine va_get (D := D) (ci := 4) (v := .ref spa) (C := RX4) (T := TX4) (N := 5) hx hb hts hiX4 hown hE.1 hP 4 rfl rfl 0 (by decide) (hts (.fieldLink RX5 78 "TiltTray$Spot" "at" "[I") (by decide +kernel)) (fun _ h9 => h9) rfl dX5_stoppedAhead_13 ?_
        refine lv_iload_n hx hb dX5_stoppedAhead_16 rfl (lv_at hl 3 rfl) ?_
        obtain ⟨g2, h⟩ := og h
        refine va_iald hx hb hE.1 hP 5 0 rfl rfl (ix_in g2) dX5_stoppedAhead_17 ?_
        refine lv_istore (lv' := [(4, .int (sp.1 x3.toNatClampNeg)), (0, .ref trh), (1, .ref sph), (2, .int x2), (3, .int x3)]) hx hb dX5_stoppedAhead_18 hl (by decide) rfl (fun ls hl => ?_)
        refine lv_iload hx hb dX5_stoppedAhead_20 (lv_at hl 0 rfl) ?_
        obtain ⟨q3, hq3, h⟩ := ob h
        refine kSN (As := [.int (sp.1 x3.toNatClampNeg)]) (rest := []) (w2 := cTr trh tra trb trc cy.1 tr ++ (cSp sph spa cy.1 sp)) (n := 1) (host := "TiltTray") ⟨hx, hb, hml, hown, hts⟩ (c_X6_isCell l D cy (sp.1 x3.toNatClampNeg) q3 hq3) ggX5_stoppedAhead_X6_isCell rfl (hE.2.1 (.methodLinkNest RX5 63 yX6_isCell "TiltTray") (by decide +kernel)) (hts (.initialized RX6) (by decide +kernel)) (hts (.static yX6_isCell) (by decide +kernel)) (by decide +kernel) ⟨by rw [hRf]; exact Nat.le_of_ble_eq_true rfl, by rw [hRl]; exact Nat.le_of_ble_eq_true rfl⟩ hE hP hD hS hA [] rfl rfl rfl rfl rfl hl.1 rfl (Nat.le_of_ble_eq_true rfl) dX5_stoppedAhead_22 ⟨Nat.zero_le _, Nat.zero_le _⟩ (fun H locs hP hD hS => ?_)
        refine lv_if_eq (tgt := 51) hx hb dX5_stoppedAhead_25 (by decide) (fun c4 => ?_) (fun c4 => ?_)
        · have h := oit h c4
          exact L51 x2 x3 _ _ _ (lv_sub hl [1, 2, 3, 4] rfl) hP hD hS h
        · have h := oif h c4
          refine lv_aload_n hx hb dX5_stoppedAhead_28 rfl (lv_at hl 1 rfl) ?_
          refine va_get (D := D) (ci := 5) (v := .ref trb) (C := RX5) (T := TX5) (N := 5) hx hb hts hiX5 hown hE.1 hP 0 rfl rfl 1 (by decide) (hts (.fieldLink RX5 15 "TiltTray$Tray" "kind" "[I") (by decide +kernel)) (fun _ h9 => h9) rfl dX5_stoppedAhead_29 ?_
          refine lv_iload_n hx hb dX5_stoppedAhead_32 rfl (lv_at hl 4 rfl) ?_
          obtain ⟨g5, h⟩ := og h
          refine va_iald hx hb hE.1 hP 2 0 rfl rfl (ix_in g5) dX5_stoppedAhead_33 ?_
          refine lv_iconst (v := 1) hx hb dX5_stoppedAhead_34 (by decide) ?_
          refine lv_icmp_ne (tgt := 57) hx hb dX5_stoppedAhead_35 (by decide) (fun c6 => ?_) (fun c6 => ?_)
          · have h := oif h c6
            refine lv_iinc (v := x3 + 1) (lv' := [(3, .int (x3 + 1)), (4, .int (sp.1 x3.toNatClampNeg)), (0, .ref trh), (1, .ref sph), (2, .int x2)]) hx hb dX5_stoppedAhead_57 hl (k := 4) rfl rfl (by decide) rfl (fun ls hl => ?_)
            refine lv_goto (tgt := 4) hx hb dX5_stoppedAhead_60 (by decide) ?_
            exact ih4 x2 (x3 + 1) _ _ _ (lv_sub hl [2, 3, 4, 0] rfl) hP hD hS h
          · have h := oit h c6
            refine lv_aload_n hx hb dX5_stoppedAhead_38 rfl (lv_at hl 1 rfl) ?_
            refine va_get (D := D) (ci := 5) (v := .int tr.2.2.2.2) (C := RX5) (T := TX5) (N := 5) hx hb hts hiX5 hown hE.1 hP 0 rfl rfl 4 (by decide) (hts (.fieldLink RX5 25 "TiltTray$Tray" "drawn" "I") (by decide +kernel)) (fun _ h9 => h9) rfl dX5_stoppedAhead_39 ?_
            refine lv_iload hx hb dX5_stoppedAhead_42 (lv_at hl 0 rfl) ?_
            obtain ⟨q7, hq7, h⟩ := ob h
            refine kSN (As := [.int tr.2.2.2.2, .int (sp.1 x3.toNatClampNeg)]) (rest := []) (w2 := cTr trh tra trb trc cy.1 tr ++ (cSp sph spa cy.1 sp)) (n := 2) (host := "TiltTray") ⟨hx, hb, hml, hown, hts⟩ (c_X6_bitOf l D cy tr.2.2.2.2 (sp.1 x3.toNatClampNeg) q7 hq7) ggX5_stoppedAhead_X6_bitOf rfl (hE.2.1 (.methodLinkNest RX5 37 yX6_bitOf "TiltTray") (by decide +kernel)) (hts (.initialized RX6) (by decide +kernel)) (hts (.static yX6_bitOf) (by decide +kernel)) (by decide +kernel) ⟨by rw [hRf]; exact Nat.le_of_ble_eq_true rfl, by rw [hRl]; exact Nat.le_of_ble_eq_true rfl⟩ hE hP hD hS hA [] rfl rfl rfl rfl rfl hl.1 rfl (Nat.le_of_ble_eq_true rfl) dX5_stoppedAhead_44 ⟨Nat.zero_le _, Nat.zero_le _⟩ (fun H locs hP hD hS => ?_)
            refine lv_iconst (v := 1) hx hb dX5_stoppedAhead_47 (by decide) ?_
            refine lv_icmp_ne (tgt := 57) hx hb dX5_stoppedAhead_48 (by decide) (fun c8 => ?_) (fun c8 => ?_)
            · have h := oif h c8
              refine lv_iinc (v := x3 + 1) (lv' := [(3, .int (x3 + 1)), (4, .int (sp.1 x3.toNatClampNeg)), (0, .ref trh), (1, .ref sph), (2, .int x2)]) hx hb dX5_stoppedAhead_57 hl (k := 4) rfl rfl (by decide) rfl (fun ls hl => ?_)
              refine lv_goto (tgt := 4) hx hb dX5_stoppedAhead_60 (by decide) ?_
              exact ih4 x2 (x3 + 1) _ _ _ (lv_sub hl [2, 3, 4, 0] rfl) hP hD hS h
            · have h := oit h c8
              exact L51 x2 x3 _ _ _ (lv_sub hl [1, 2, 3, 4] rfl) hP hD hS h
  refine lv_iconst (v := 0) hx hb dX5_stoppedAhead_0 (by decide) ?_
  refine lv_istore_n (lv' := [(2, .int 0), (0, .ref trh), (1, .ref sph)]) hx hb dX5_stoppedAhead_1 rfl hl (by decide) rfl (fun ls hl => ?_)
  refine lv_iconst (v := 0) hx hb dX5_stoppedAhead_2 (by decide) ?_
  refine lv_istore_n (lv' := [(3, .int 0), (2, .int 0), (0, .ref trh), (1, .ref sph)]) hx hb dX5_stoppedAhead_3 rfl hl (by decide) rfl (fun ls hl => ?_)
  exact L4 5 0 0 _ _ _ (lv_sub hl [2, 3, 1, 0] rfl) hP hD hS h

def tw_X5_goOn_23 (tr : TrS) (p1 : Int32) (p2 : Int32) (z0 : Int32) (z1 : Int32) (sp : SpS) : Option (Int32 × SpS) :=
  (tw_X6_nextCell z0 z1).bind (fun q1 => if q1 = (-1) then (some (0, sp)) else ((tw_X5_canBe tr sp q1).bind (fun q3 => if q3 = 0 then (some (0, sp)) else ((tw_X5_isOpenHole tr sp q1).bind (fun q5 => if q5 = 0 then ((tw_X4_put sp p1 q1).bind (fun q7 => some (1, q7))) else ((tw_X4_drop sp p1 q1).bind (fun q8 => some (1, q8))))))))
def tw_X5_goOn (tr : TrS) (sp : SpS) (p1 : Int32) (p2 : Int32) : Option (Int32 × SpS) :=
  if ix p1 4 = true then (if ix p1 4 = true then (if (tr.2.1 p1.toNatClampNeg) = 3 then (tw_X5_goOn_23 tr p1 p2 (sp.1 p1.toNatClampNeg) (p2 ^^^ 1) sp) else (tw_X5_goOn_23 tr p1 p2 (sp.1 p1.toNatClampNeg) p2 sp)) else none) else none
set_option maxHeartbeats 4000000 in
set_option maxRecDepth 100000 in
theorem c_X5_goOn (l : Launch) (D : va_G) (cy : Cy) (trh : Nat) (tra : Nat) (trb : Nat) (trc : Nat) (sph : Nat) (spa : Nat) (tr : TrS) (sp : SpS) (p1 : Int32) (p2 : Int32) (res : Int32 × SpS) (h : tw_X5_goOn tr sp p1 p2 = some res) : Ct l yX5_goOn wsX5_goOn 2 43 D cy [.ref trh, .ref sph, .int p1, .int p2] (cTr trh tra trb trc cy.1 tr ++ (cSp sph spa cy.1 sp)) (cTr trh tra trb trc cy.1 tr ++ (cSp sph spa cy.1 res.2)) (some (.int res.1)) := by
  refine Ct.ofW (cc := cX5_goOn) (maxL := 5) (ret := (some .boolean)) (by decide) rfl (Nat.le_of_ble_eq_true rfl) ?_
  intro p e R s m args below meth c A Q ls hRf hRl hQ hx hb hr hml hts hown hlocks hE hP hD hS hA hl
  have hiX4 : ∀ w ∈ u_ws RX4 TX4 5, w ∈ wsX5_goOn := by decide +kernel
  have hiX5 : ∀ w ∈ u_ws RX5 TX5 5, w ∈ wsX5_goOn := by decide +kernel
  have hl : lv_has ls 5 [(0, .ref trh), (1, .ref sph), (2, .int p1), (3, .int p2)] := hl
  rw [tw_X5_goOn] at h
  have L23 : ∀ (z0 : Int32) (z1 : Int32) (sp : SpS)  (H : Heap) (locs : List Loc) (ls : Array Slot), lv_has ls 5 [(0, .ref trh), (1, .ref sph), (2, .int p1)] → va_P D vwCl (cTr trh tra trb trc cy.1 tr ++ (cSp sph spa cy.1 sp)) H → va_D A (cTr trh tra trb trc cy.1 tr ++ (cSp sph spa cy.1 sp)) → va_S A s.heap H locs → tw_X5_goOn_23 tr p1 p2 z0 z1 sp = some res → W p l e R s m args below meth c H locs 0 0 Q (F0 m 23 ls [.int z1, .int z0]) := by
    intro z0 z1 sp  H locs ls hl hP hD hS h
    rw [tw_X5_goOn_23] at h
    obtain ⟨q1, hq1, h⟩ := ob h
    refine kSN (As := [.int z0, .int z1]) (rest := []) (w2 := cTr trh tra trb trc cy.1 tr ++ (cSp sph spa cy.1 sp)) (n := 2) (host := "TiltTray") ⟨hx, hb, hml, hown, hts⟩ (c_X6_nextCell l D cy z0 z1 q1 hq1) ggX5_goOn_X6_nextCell rfl (hE.2.1 (.methodLinkNest RX5 49 yX6_nextCell "TiltTray") (by decide +kernel)) (hts (.initialized RX6) (by decide +kernel)) (hts (.static yX6_nextCell) (by decide +kernel)) (by decide +kernel) ⟨by rw [hRf]; exact Nat.le_of_ble_eq_true rfl, by rw [hRl]; exact Nat.le_of_ble_eq_true rfl⟩ hE hP hD hS hA [] rfl rfl rfl rfl rfl hl.1 rfl (Nat.le_of_ble_eq_true rfl) dX5_goOn_23 ⟨Nat.zero_le _, Nat.zero_le _⟩ (fun H locs hP hD hS => ?_)
    refine lv_istore (lv' := [(4, .int q1), (0, .ref trh), (1, .ref sph), (2, .int p1)]) hx hb dX5_goOn_26 hl (by decide) rfl (fun ls hl => ?_)
    refine lv_iload hx hb dX5_goOn_28 (lv_at hl 0 rfl) ?_
    refine lv_iconst (v := (-1)) hx hb dX5_goOn_30 (by decide) ?_
    refine lv_icmp_eq (tgt := 44) hx hb dX5_goOn_31 (by decide) (fun c2 => ?_) (fun c2 => ?_)
    · have h := oit h c2
      refine lv_iconst (v := 0) hx hb dX5_goOn_44 (by decide) ?_
      obtain rfl := Option.some.inj h
      rw [hQ]; exact ct_zret hx hb hr hlocks rfl hP hS rfl dX5_goOn_45
    · have h := oif h c2
      refine lv_aload_n hx hb dX5_goOn_34 rfl (lv_at hl 1 rfl) ?_
      refine lv_aload_n hx hb dX5_goOn_35 rfl (lv_at hl 2 rfl) ?_
      refine lv_iload hx hb dX5_goOn_36 (lv_at hl 0 rfl) ?_
      obtain ⟨q3, hq3, h⟩ := ob h
      refine kV (As := [.ref sph, .int q1]) (rest := []) (w2 := cTr trh tra trb trc cy.1 tr ++ (cSp sph spa cy.1 sp)) (n := 2) (q0 := 0) ⟨hx, hb, hml, hown, hts⟩ (c_X5_canBe l D cy trh tra trb trc sph spa tr sp q1 q3 hq3) gX5_goOn_X5_canBe rfl (by decide +kernel) ⟨by rw [hRf]; exact Nat.le_of_ble_eq_true rfl, by rw [hRl]; exact Nat.le_of_ble_eq_true rfl⟩ hE hP hD hS hA [0, 1, 2, 3, 4, 5] rfl rfl rfl rfl rfl rfl rfl hl.1 rfl (Nat.le_of_ble_eq_true rfl) dX5_goOn_38 ⟨Nat.zero_le _, Nat.zero_le _⟩ (fun H locs hP hD hS => ?_)
      refine lv_if_ne (tgt := 46) hx hb dX5_goOn_41 (by decide) (fun c4 => ?_) (fun c4 => ?_)
      · have h := oif h c4
        refine lv_aload_n hx hb dX5_goOn_46 rfl (lv_at hl 1 rfl) ?_
        refine lv_aload_n hx hb dX5_goOn_47 rfl (lv_at hl 2 rfl) ?_
        refine lv_iload hx hb dX5_goOn_48 (lv_at hl 0 rfl) ?_
        obtain ⟨q5, hq5, h⟩ := ob h
        refine kV (As := [.ref sph, .int q1]) (rest := []) (w2 := cTr trh tra trb trc cy.1 tr ++ (cSp sph spa cy.1 sp)) (n := 2) (q0 := 0) ⟨hx, hb, hml, hown, hts⟩ (c_X5_isOpenHole l D cy trh tra trb trc sph spa tr sp q1 q5 hq5) gX5_goOn_X5_isOpenHole rfl (by decide +kernel) ⟨by rw [hRf]; exact Nat.le_of_ble_eq_true rfl, by rw [hRl]; exact Nat.le_of_ble_eq_true rfl⟩ hE hP hD hS hA [0, 1, 2, 3, 4, 5] rfl rfl rfl rfl rfl rfl rfl hl.1 rfl (Nat.le_of_ble_eq_true rfl) dX5_goOn_50 ⟨Nat.zero_le _, Nat.zero_le _⟩ (fun H locs hP hD hS => ?_)
        refine lv_if_eq (tgt := 66) hx hb dX5_goOn_53 (by decide) (fun c6 => ?_) (fun c6 => ?_)
        · have h := oit h c6
          refine lv_aload_n hx hb dX5_goOn_66 rfl (lv_at hl 2 rfl) ?_
          refine lv_iload_n hx hb dX5_goOn_67 rfl (lv_at hl 3 rfl) ?_
          refine lv_iload hx hb dX5_goOn_68 (lv_at hl 0 rfl) ?_
          obtain ⟨q7, hq7, h⟩ := ob h
          refine kV (As := [.int p1, .int q1]) (rest := []) (w2 := cTr trh tra trb trc cy.1 tr ++ (cSp sph spa cy.1 q7)) (n := 2) (q0 := 4) ⟨hx, hb, hml, hown, hts⟩ (c_X4_put l D cy sph spa sp p1 q1 q7 hq7) gX5_goOn_X4_put rfl (by decide +kernel) ⟨by rw [hRf]; exact Nat.le_of_ble_eq_true rfl, by rw [hRl]; exact Nat.le_of_ble_eq_true rfl⟩ hE hP hD hS hA [4, 5] rfl rfl rfl rfl rfl rfl rfl hl.1 rfl (Nat.le_of_ble_eq_true rfl) dX5_goOn_70 ⟨Nat.zero_le _, Nat.zero_le _⟩ (fun H locs hP hD hS => ?_)
          refine lv_iconst (v := 1) hx hb dX5_goOn_73 (by decide) ?_
          obtain rfl := Option.some.inj h
          rw [hQ]; exact ct_zret hx hb hr hlocks rfl hP hS rfl dX5_goOn_74
        · have h := oif h c6
          refine lv_aload_n hx hb dX5_goOn_56 rfl (lv_at hl 2 rfl) ?_
          refine lv_iload_n hx hb dX5_goOn_57 rfl (lv_at hl 3 rfl) ?_
          refine lv_iload hx hb dX5_goOn_58 (lv_at hl 0 rfl) ?_
          obtain ⟨q8, hq8, h⟩ := ob h
          refine kV (As := [.int p1, .int q1]) (rest := []) (w2 := cTr trh tra trb trc cy.1 tr ++ (cSp sph spa cy.1 q8)) (n := 2) (q0 := 4) ⟨hx, hb, hml, hown, hts⟩ (c_X4_drop l D cy sph spa sp p1 q1 q8 hq8) gX5_goOn_X4_drop rfl (by decide +kernel) ⟨by rw [hRf]; exact Nat.le_of_ble_eq_true rfl, by rw [hRl]; exact Nat.le_of_ble_eq_true rfl⟩ hE hP hD hS hA [4, 5] rfl rfl rfl rfl rfl rfl rfl hl.1 rfl (Nat.le_of_ble_eq_true rfl) dX5_goOn_60 ⟨Nat.zero_le _, Nat.zero_le _⟩ (fun H locs hP hD hS => ?_)
          refine lv_goto (tgt := 73) hx hb dX5_goOn_63 (by decide) ?_
          refine lv_iconst (v := 1) hx hb dX5_goOn_73 (by decide) ?_
          obtain rfl := Option.some.inj h
          rw [hQ]; exact ct_zret hx hb hr hlocks rfl hP hS rfl dX5_goOn_74
      · have h := oit h c4
        refine lv_iconst (v := 0) hx hb dX5_goOn_44 (by decide) ?_
        obtain rfl := Option.some.inj h
        rw [hQ]; exact ct_zret hx hb hr hlocks rfl hP hS rfl dX5_goOn_45
  refine lv_aload_n hx hb dX5_goOn_0 rfl (lv_at hl 1 rfl) ?_
  refine va_get (D := D) (ci := 4) (v := .ref spa) (C := RX4) (T := TX4) (N := 5) hx hb hts hiX4 hown hE.1 hP 4 rfl rfl 0 (by decide) (hts (.fieldLink RX5 78 "TiltTray$Spot" "at" "[I") (by decide +kernel)) (fun _ h9 => h9) rfl dX5_goOn_1 ?_
  refine lv_iload_n hx hb dX5_goOn_4 rfl (lv_at hl 2 rfl) ?_
  obtain ⟨g9, h⟩ := og h
  refine va_iald hx hb hE.1 hP 5 0 rfl rfl (ix_in g9) dX5_goOn_5 ?_
  refine lv_aload_n hx hb dX5_goOn_6 rfl (lv_at hl 0 rfl) ?_
  refine va_get (D := D) (ci := 5) (v := .ref trb) (C := RX5) (T := TX5) (N := 5) hx hb hts hiX5 hown hE.1 hP 0 rfl rfl 1 (by decide) (hts (.fieldLink RX5 15 "TiltTray$Tray" "kind" "[I") (by decide +kernel)) (fun _ h9 => h9) rfl dX5_goOn_7 ?_
  refine lv_iload_n hx hb dX5_goOn_10 rfl (lv_at hl 2 rfl) ?_
  obtain ⟨g10, h⟩ := og h
  refine va_iald hx hb hE.1 hP 2 0 rfl rfl (ix_in g10) dX5_goOn_11 ?_
  refine lv_iconst (v := 3) hx hb dX5_goOn_12 (by decide) ?_
  refine lv_icmp_ne (tgt := 22) hx hb dX5_goOn_13 (by decide) (fun c11 => ?_) (fun c11 => ?_)
  · have h := oif h c11
    refine lv_iload_n hx hb dX5_goOn_22 rfl (lv_at hl 3 rfl) ?_
    exact L23 (sp.1 p1.toNatClampNeg) p2 sp _ _ _ (lv_sub hl [0, 1, 2] rfl) hP hD hS h
  · have h := oit h c11
    refine lv_iload_n hx hb dX5_goOn_16 rfl (lv_at hl 3 rfl) ?_
    refine lv_iconst (v := 1) hx hb dX5_goOn_17 (by decide) ?_
    refine lv_ixor hx hb dX5_goOn_18 ?_
    refine lv_goto (tgt := 23) hx hb dX5_goOn_19 (by decide) ?_
    exact L23 (sp.1 p1.toNatClampNeg) (p2 ^^^ 1) sp _ _ _ (lv_sub hl [0, 1, 2] rfl) hP hD hS h

def tw_X5_stopsAt (tr : TrS) (p1 : Int32) (p2 : Int32) : Option (Int32) :=
  (tw_X6_isCell p2).bind (fun q1 => if q1 = 0 then (some (1)) else (if ix p1 4 = true then (if (tr.2.1 p1.toNatClampNeg) = 0 then (some (0)) else (if (tr.2.1 p1.toNatClampNeg) = 1 then ((tw_X6_bitOf ((tr.1 (3 : Int32).toNatClampNeg) ||| tr.2.2.2.2) p2).bind (fun q5 => if q5 = 1 then (some (1)) else (some (0)))) else (if (tr.2.1 p1.toNatClampNeg) = 2 then (some (1)) else ((tw_X6_bitOf (tr.1 (3 : Int32).toNatClampNeg) p2).bind (fun q9 => if q9 = 1 then (some (1)) else (some (0))))))) else none))
set_option maxHeartbeats 4000000 in
set_option maxRecDepth 100000 in
theorem c_X5_stopsAt (l : Launch) (D : va_G) (cy : Cy) (trh : Nat) (tra : Nat) (trb : Nat) (trc : Nat) (tr : TrS) (p1 : Int32) (p2 : Int32) (res : Int32) (h : tw_X5_stopsAt tr p1 p2 = some res) : Ct l yX5_stopsAt wsX5_stopsAt 1 21 D cy [.ref trh, .int p1, .int p2] (cTr trh tra trb trc cy.1 tr) (cTr trh tra trb trc cy.1 tr) (some (.int res)) := by
  refine Ct.ofW (cc := cX5_stopsAt) (maxL := 3) (ret := (some .boolean)) (by decide) rfl (Nat.le_of_ble_eq_true rfl) ?_
  intro p e R s m args below meth c A Q ls hRf hRl hQ hx hb hr hml hts hown hlocks hE hP hD hS hA hl
  have hiX5 : ∀ w ∈ u_ws RX5 TX5 5, w ∈ wsX5_stopsAt := by decide +kernel
  have hl : lv_has ls 3 [(0, .ref trh), (1, .int p1), (2, .int p2)] := hl
  rw [tw_X5_stopsAt] at h
  refine lv_iload_n hx hb dX5_stopsAt_0 rfl (lv_at hl 2 rfl) ?_
  obtain ⟨q1, hq1, h⟩ := ob h
  refine kSN (As := [.int p2]) (rest := []) (w2 := cTr trh tra trb trc cy.1 tr) (n := 1) (host := "TiltTray") ⟨hx, hb, hml, hown, hts⟩ (c_X6_isCell l D cy p2 q1 hq1) ggX5_stopsAt_X6_isCell rfl (hE.2.1 (.methodLinkNest RX5 63 yX6_isCell "TiltTray") (by decide +kernel)) (hts (.initialized RX6) (by decide +kernel)) (hts (.static yX6_isCell) (by decide +kernel)) (by decide +kernel) ⟨by rw [hRf]; exact Nat.le_of_ble_eq_true rfl, by rw [hRl]; exact Nat.le_of_ble_eq_true rfl⟩ hE hP hD hS hA [] rfl rfl rfl rfl rfl hl.1 rfl (Nat.le_of_ble_eq_true rfl) dX5_stopsAt_1 ⟨Nat.zero_le _, Nat.zero_le _⟩ (fun H locs hP hD hS => ?_)
  refine lv_if_ne (tgt := 9) hx hb dX5_stopsAt_4 (by decide) (fun c2 => ?_) (fun c2 => ?_)
  · have h := oif h c2
    refine lv_aload_n hx hb dX5_stopsAt_9 rfl (lv_at hl 0 rfl) ?_
    refine va_get (D := D) (ci := 5) (v := .ref trb) (C := RX5) (T := TX5) (N := 5) hx hb hts hiX5 hown hE.1 hP 0 rfl rfl 1 (by decide) (hts (.fieldLink RX5 15 "TiltTray$Tray" "kind" "[I") (by decide +kernel)) (fun _ h9 => h9) rfl dX5_stopsAt_10 ?_
    refine lv_iload_n hx hb dX5_stopsAt_13 rfl (lv_at hl 1 rfl) ?_
    obtain ⟨g3, h⟩ := og h
    refine va_iald hx hb hE.1 hP 2 0 rfl rfl (ix_in g3) dX5_stopsAt_14 ?_
    by_cases c4 : (tr.2.1 p1.toNatClampNeg) = 0
    · have h := oit h c4
      refine lv_tableIn (off := 25) (tgt := 40) hx hb dX5_stopsAt_15 (by rw [c4]; decide) (by rw [c4]; decide) (by rw [c4]; decide) (by decide) ?_
      refine lv_iconst (v := 0) hx hb dX5_stopsAt_40 (by decide) ?_
      obtain rfl := Option.some.inj h
      rw [hQ]; exact ct_zret hx hb hr hlocks rfl hP hS rfl dX5_stopsAt_41
    have h := oif h c4
    by_cases c7 : (tr.2.1 p1.toNatClampNeg) = 1
    · have h := oit h c7
      refine lv_tableIn (off := 29) (tgt := 44) hx hb dX5_stopsAt_15 (by rw [c7]; decide) (by rw [c7]; decide) (by rw [c7]; decide) (by decide) ?_
      refine lv_aload_n hx hb dX5_stopsAt_44 rfl (lv_at hl 0 rfl) ?_
      refine va_get (D := D) (ci := 5) (v := .ref tra) (C := RX5) (T := TX5) (N := 5) hx hb hts hiX5 hown hE.1 hP 0 rfl rfl 0 (by decide) (hts (.fieldLink RX5 9 "TiltTray$Tray" "told" "[I") (by decide +kernel)) (fun _ h9 => h9) rfl dX5_stopsAt_45 ?_
      refine lv_iconst (v := 3) hx hb dX5_stopsAt_48 (by decide) ?_
      refine va_iald hx hb hE.1 hP 1 0 rfl rfl (ix_in (by decide)) dX5_stopsAt_49 ?_
      refine lv_aload_n hx hb dX5_stopsAt_50 rfl (lv_at hl 0 rfl) ?_
      refine va_get (D := D) (ci := 5) (v := .int tr.2.2.2.2) (C := RX5) (T := TX5) (N := 5) hx hb hts hiX5 hown hE.1 hP 0 rfl rfl 4 (by decide) (hts (.fieldLink RX5 25 "TiltTray$Tray" "drawn" "I") (by decide +kernel)) (fun _ h9 => h9) rfl dX5_stopsAt_51 ?_
      refine lv_ior hx hb dX5_stopsAt_54 ?_
      refine lv_iload_n hx hb dX5_stopsAt_55 rfl (lv_at hl 2 rfl) ?_
      obtain ⟨q5, hq5, h⟩ := ob h
      refine kSN (As := [.int ((tr.1 (3 : Int32).toNatClampNeg) ||| tr.2.2.2.2), .int p2]) (rest := []) (w2 := cTr trh tra trb trc cy.1 tr) (n := 2) (host := "TiltTray") ⟨hx, hb, hml, hown, hts⟩ (c_X6_bitOf l D cy ((tr.1 (3 : Int32).toNatClampNeg) ||| tr.2.2.2.2) p2 q5 hq5) ggX5_stopsAt_X6_bitOf rfl (hE.2.1 (.methodLinkNest RX5 37 yX6_bitOf "TiltTray") (by decide +kernel)) (hts (.initialized RX6) (by decide +kernel)) (hts (.static yX6_bitOf) (by decide +kernel)) (by decide +kernel) ⟨by rw [hRf]; exact Nat.le_of_ble_eq_true rfl, by rw [hRl]; exact Nat.le_of_ble_eq_true rfl⟩ hE hP hD hS hA [] rfl rfl rfl rfl rfl hl.1 rfl (Nat.le_of_ble_eq_true rfl) dX5_stopsAt_56 ⟨Nat.zero_le _, Nat.zero_le _⟩ (fun H locs hP hD hS => ?_)
      refine lv_iconst (v := 1) hx hb dX5_stopsAt_59 (by decide) ?_
      refine lv_icmp_ne (tgt := 67) hx hb dX5_stopsAt_60 (by decide) (fun c6 => ?_) (fun c6 => ?_)
      · have h := oif h c6
        refine lv_iconst (v := 0) hx hb dX5_stopsAt_67 (by decide) ?_
        obtain rfl := Option.some.inj h
        rw [hQ]; exact ct_zret hx hb hr hlocks rfl hP hS rfl dX5_stopsAt_68
      · have h := oit h c6
        refine lv_iconst (v := 1) hx hb dX5_stopsAt_63 (by decide) ?_
        refine lv_goto (tgt := 68) hx hb dX5_stopsAt_64 (by decide) ?_
        obtain rfl := Option.some.inj h
        rw [hQ]; exact ct_zret hx hb hr hlocks rfl hP hS rfl dX5_stopsAt_68
    have h := oif h c7
    by_cases c8 : (tr.2.1 p1.toNatClampNeg) = 2
    · have h := oit h c8
      refine lv_tableIn (off := 27) (tgt := 42) hx hb dX5_stopsAt_15 (by rw [c8]; decide) (by rw [c8]; decide) (by rw [c8]; decide) (by decide) ?_
      refine lv_iconst (v := 1) hx hb dX5_stopsAt_42 (by decide) ?_
      obtain rfl := Option.some.inj h
      rw [hQ]; exact ct_zret hx hb hr hlocks rfl hP hS rfl dX5_stopsAt_43
    have h := oif h c8
    refine lv_tableOut (tgt := 69) hx hb dX5_stopsAt_15 (sw_out 2 (by decide) (fun k hk => by rcases (show k = 0 ∨ k = 1 ∨ k = 2 by omega) with rfl | rfl | rfl <;> assumption)) (by decide) ?_
    refine lv_aload_n hx hb dX5_stopsAt_69 rfl (lv_at hl 0 rfl) ?_
    refine va_get (D := D) (ci := 5) (v := .ref tra) (C := RX5) (T := TX5) (N := 5) hx hb hts hiX5 hown hE.1 hP 0 rfl rfl 0 (by decide) (hts (.fieldLink RX5 9 "TiltTray$Tray" "told" "[I") (by decide +kernel)) (fun _ h9 => h9) rfl dX5_stopsAt_70 ?_
    refine lv_iconst (v := 3) hx hb dX5_stopsAt_73 (by decide) ?_
    refine va_iald hx hb hE.1 hP 1 0 rfl rfl (ix_in (by decide)) dX5_stopsAt_74 ?_
    refine lv_iload_n hx hb dX5_stopsAt_75 rfl (lv_at hl 2 rfl) ?_
    obtain ⟨q9, hq9, h⟩ := ob h
    refine kSN (As := [.int (tr.1 (3 : Int32).toNatClampNeg), .int p2]) (rest := []) (w2 := cTr trh tra trb trc cy.1 tr) (n := 2) (host := "TiltTray") ⟨hx, hb, hml, hown, hts⟩ (c_X6_bitOf l D cy (tr.1 (3 : Int32).toNatClampNeg) p2 q9 hq9) ggX5_stopsAt_X6_bitOf rfl (hE.2.1 (.methodLinkNest RX5 37 yX6_bitOf "TiltTray") (by decide +kernel)) (hts (.initialized RX6) (by decide +kernel)) (hts (.static yX6_bitOf) (by decide +kernel)) (by decide +kernel) ⟨by rw [hRf]; exact Nat.le_of_ble_eq_true rfl, by rw [hRl]; exact Nat.le_of_ble_eq_true rfl⟩ hE hP hD hS hA [] rfl rfl rfl rfl rfl hl.1 rfl (Nat.le_of_ble_eq_true rfl) dX5_stopsAt_76 ⟨Nat.zero_le _, Nat.zero_le _⟩ (fun H locs hP hD hS => ?_)
    refine lv_iconst (v := 1) hx hb dX5_stopsAt_79 (by decide) ?_
    refine lv_icmp_ne (tgt := 87) hx hb dX5_stopsAt_80 (by decide) (fun c10 => ?_) (fun c10 => ?_)
    · have h := oif h c10
      refine lv_iconst (v := 0) hx hb dX5_stopsAt_87 (by decide) ?_
      obtain rfl := Option.some.inj h
      rw [hQ]; exact ct_zret hx hb hr hlocks rfl hP hS rfl dX5_stopsAt_88
    · have h := oit h c10
      refine lv_iconst (v := 1) hx hb dX5_stopsAt_83 (by decide) ?_
      refine lv_goto (tgt := 88) hx hb dX5_stopsAt_84 (by decide) ?_
      obtain rfl := Option.some.inj h
      rw [hQ]; exact ct_zret hx hb hr hlocks rfl hP hS rfl dX5_stopsAt_88
  · have h := oit h c2
    refine lv_iconst (v := 1) hx hb dX5_stopsAt_7 (by decide) ?_
    obtain rfl := Option.some.inj h
    rw [hQ]; exact ct_zret hx hb hr hlocks rfl hP hS rfl dX5_stopsAt_8

def tw_X5_roll_30 (tr : TrS) (p1 : Int32) (k12 : Int32 → Int32 → Int32 → SpS → Option (SpS)) : Nat → Int32 → Int32 → Int32 → Int32 → SpS → Option (SpS)
  | 0, _, _, _, _, _ => none
  | n + 1, x3, x4, x5, x6, sp =>
    if tr.2.2.2.1 ≤ x6 then (k12 x3 x4 (x5 + 1) sp) else ((tw_X6_bitOf x3 x6).bind (fun q2 => if q2 = 0 then ((tw_X5_goOn tr sp x6 p1).bind (fun q4 => if q4.1 = 0 then ((tw_X5_roll_30 tr p1 k12 n) x3 x4 x5 (x6 + 1) q4.2) else (if ix x6 4 = true then ((tw_X5_stopsAt tr x6 (q4.2.1 x6.toNatClampNeg)).bind (fun q7 => if q7 = 0 then ((tw_X5_roll_30 tr p1 k12 n) x3 1 x5 (x6 + 1) q4.2) else ((tw_X5_roll_30 tr p1 k12 n) (x3 ||| (1 <<< (x6 &&& 31))) 1 x5 (x6 + 1) q4.2))) else none))) else ((tw_X5_roll_30 tr p1 k12 n) x3 x4 x5 (x6 + 1) sp)))
def tw_X5_roll_12 (tr : TrS) (p1 : Int32) : Nat → Int32 → Int32 → Int32 → SpS → Option (SpS)
  | 0, _, _, _, _ => none
  | n + 1, x3, x4, x5, sp =>
    if 17 ≤ x5 then (some (sp)) else (if x4 = 0 then (some (sp)) else (tw_X5_roll_30 tr p1 (tw_X5_roll_12 tr p1 n) 5 x3 0 x5 0 sp))
def tw_X5_roll (tr : TrS) (sp : SpS) (p1 : Int32) : Option (SpS) :=
  (tw_X5_stoppedAhead tr sp).bind (fun q11 => tw_X5_roll_12 tr p1 18 q11 1 0 sp)
set_option maxHeartbeats 4000000 in
set_option maxRecDepth 100000 in
theorem c_X5_roll (l : Launch) (D : va_G) (cy : Cy) (trh : Nat) (tra : Nat) (trb : Nat) (trc : Nat) (sph : Nat) (spa : Nat) (tr : TrS) (sp : SpS) (p1 : Int32) (res : SpS) (h : tw_X5_roll tr sp p1 = some res) : Ct l yX5_roll wsX5_roll 3 67 D cy [.ref trh, .ref sph, .int p1] (cTr trh tra trb trc cy.1 tr ++ (cSp sph spa cy.1 sp)) (cTr trh tra trb trc cy.1 tr ++ (cSp sph spa cy.1 res)) (none) := by
  refine Ct.ofW (cc := cX5_roll) (maxL := 7) (ret := none) (by decide) rfl (Nat.le_of_ble_eq_true rfl) ?_
  intro p e R s m args below meth c A Q ls hRf hRl hQ hx hb hr hml hts hown hlocks hE hP hD hS hA hl
  have hiX4 : ∀ w ∈ u_ws RX4 TX4 5, w ∈ wsX5_roll := by decide +kernel
  have hiX5 : ∀ w ∈ u_ws RX5 TX5 5, w ∈ wsX5_roll := by decide +kernel
  have hl : lv_has ls 7 [(0, .ref trh), (1, .ref sph), (2, .int p1)] := hl
  rw [tw_X5_roll] at h
  have L12 : ∀ (n : Nat) (x3 : Int32) (x4 : Int32) (x5 : Int32) (sp : SpS)  (H : Heap) (locs : List Loc) (ls : Array Slot), lv_has ls 7 [(0, .ref trh), (1, .ref sph), (2, .int p1), (3, .int x3), (4, .int x4), (5, .int x5)] → va_P D vwCl (cTr trh tra trb trc cy.1 tr ++ (cSp sph spa cy.1 sp)) H → va_D A (cTr trh tra trb trc cy.1 tr ++ (cSp sph spa cy.1 sp)) → va_S A s.heap H locs → tw_X5_roll_12 tr p1 n x3 x4 x5 sp = some res → W p l e R s m args below meth c H locs 0 0 Q (F0 m 12 ls []) := by
    intro n12
    induction n12 with
    | zero =>
      intro x3 x4 x5 sp  H locs ls hl hP hD hS h
      exact absurd h (by rw [tw_X5_roll_12]; exact fun q => by cases q)
    | succ n12 ih12 =>
      intro x3 x4 x5 sp  H locs ls hl hP hD hS h
      rw [tw_X5_roll_12] at h
      have L30 : ∀ (n : Nat) (x3 : Int32) (x4 : Int32) (x5 : Int32) (x6 : Int32) (sp : SpS)  (H : Heap) (locs : List Loc) (ls : Array Slot), lv_has ls 7 [(0, .ref trh), (1, .ref sph), (2, .int p1), (3, .int x3), (4, .int x4), (5, .int x5), (6, .int x6)] → va_P D vwCl (cTr trh tra trb trc cy.1 tr ++ (cSp sph spa cy.1 sp)) H → va_D A (cTr trh tra trb trc cy.1 tr ++ (cSp sph spa cy.1 sp)) → va_S A s.heap H locs → tw_X5_roll_30 tr p1 (tw_X5_roll_12 tr p1 n12) n x3 x4 x5 x6 sp = some res → W p l e R s m args below meth c H locs 0 0 Q (F0 m 30 ls []) := by
        intro n30
        induction n30 with
        | zero =>
          intro x3 x4 x5 x6 sp  H locs ls hl hP hD hS h
          exact absurd h (by rw [tw_X5_roll_30]; exact fun q => by cases q)
        | succ n30 ih30 =>
          intro x3 x4 x5 x6 sp  H locs ls hl hP hD hS h
          rw [tw_X5_roll_30] at h
          refine lv_iload hx hb dX5_roll_30 (lv_at hl 6 rfl) ?_
          refine lv_aload_n hx hb dX5_roll_32 rfl (lv_at hl 0 rfl) ?_
          refine va_get (D := D) (ci := 5) (v := .int tr.2.2.2.1) (C := RX5) (T := TX5) (N := 5) hx hb hts hiX5 hown hE.1 hP 0 rfl rfl 3 (by decide) (hts (.fieldLink RX5 21 "TiltTray$Tray" "marbles" "I") (by decide +kernel)) (fun _ h9 => h9) rfl dX5_roll_33 ?_
          refine lv_icmp_ge (tgt := 91) hx hb dX5_roll_36 (by decide) (fun c1 => ?_) (fun c1 => ?_)
          · have h := oit h c1
            refine lv_iinc (v := x5 + 1) (lv' := [(5, .int (x5 + 1)), (0, .ref trh), (1, .ref sph), (2, .int p1), (3, .int x3), (4, .int x4), (6, .int x6)]) hx hb dX5_roll_91 hl (k := 5) rfl rfl (by decide) rfl (fun ls hl => ?_)
            refine lv_goto (tgt := 12) hx hb dX5_roll_94 (by decide) ?_
            exact ih12 x3 x4 (x5 + 1) sp _ _ _ (lv_sub hl [1, 2, 3, 4, 5, 0] rfl) hP hD hS h
          · have h := oif h c1
            refine lv_iload_n hx hb dX5_roll_39 rfl (lv_at hl 3 rfl) ?_
            refine lv_iload hx hb dX5_roll_40 (lv_at hl 6 rfl) ?_
            obtain ⟨q2, hq2, h⟩ := ob h
            refine kSN (As := [.int x3, .int x6]) (rest := []) (w2 := cTr trh tra trb trc cy.1 tr ++ (cSp sph spa cy.1 sp)) (n := 2) (host := "TiltTray") ⟨hx, hb, hml, hown, hts⟩ (c_X6_bitOf l D cy x3 x6 q2 hq2) ggX5_roll_X6_bitOf rfl (hE.2.1 (.methodLinkNest RX5 37 yX6_bitOf "TiltTray") (by decide +kernel)) (hts (.initialized RX6) (by decide +kernel)) (hts (.static yX6_bitOf) (by decide +kernel)) (by decide +kernel) ⟨by rw [hRf]; exact Nat.le_of_ble_eq_true rfl, by rw [hRl]; exact Nat.le_of_ble_eq_true rfl⟩ hE hP hD hS hA [] rfl rfl rfl rfl rfl hl.1 rfl (Nat.le_of_ble_eq_true rfl) dX5_roll_42 ⟨Nat.zero_le _, Nat.zero_le _⟩ (fun H locs hP hD hS => ?_)
            refine lv_if_ne (tgt := 85) hx hb dX5_roll_45 (by decide) (fun c3 => ?_) (fun c3 => ?_)
            · have h := oif h c3
              refine lv_iinc (v := x6 + 1) (lv' := [(6, .int (x6 + 1)), (0, .ref trh), (1, .ref sph), (2, .int p1), (3, .int x3), (4, .int x4), (5, .int x5)]) hx hb dX5_roll_85 hl (k := 6) rfl rfl (by decide) rfl (fun ls hl => ?_)
              refine lv_goto (tgt := 30) hx hb dX5_roll_88 (by decide) ?_
              exact ih30 x3 x4 x5 (x6 + 1) sp _ _ _ (lv_sub hl [1, 2, 3, 4, 5, 6, 0] rfl) hP hD hS h
            · have h := oit h c3
              refine lv_aload_n hx hb dX5_roll_48 rfl (lv_at hl 0 rfl) ?_
              refine lv_aload_n hx hb dX5_roll_49 rfl (lv_at hl 1 rfl) ?_
              refine lv_iload hx hb dX5_roll_50 (lv_at hl 6 rfl) ?_
              refine lv_iload_n hx hb dX5_roll_52 rfl (lv_at hl 2 rfl) ?_
              obtain ⟨q4, hq4, h⟩ := ob h
              refine kV (As := [.ref sph, .int x6, .int p1]) (rest := []) (w2 := cTr trh tra trb trc cy.1 tr ++ (cSp sph spa cy.1 q4.2)) (n := 3) (q0 := 0) ⟨hx, hb, hml, hown, hts⟩ (c_X5_goOn l D cy trh tra trb trc sph spa tr sp x6 p1 q4 hq4) gX5_roll_X5_goOn rfl (by decide +kernel) ⟨by rw [hRf]; exact Nat.le_of_ble_eq_true rfl, by rw [hRl]; exact Nat.le_of_ble_eq_true rfl⟩ hE hP hD hS hA [0, 1, 2, 3, 4, 5] rfl rfl rfl rfl rfl rfl rfl hl.1 rfl (Nat.le_of_ble_eq_true rfl) dX5_roll_53 ⟨Nat.zero_le _, Nat.zero_le _⟩ (fun H locs hP hD hS => ?_)
              refine lv_if_eq (tgt := 85) hx hb dX5_roll_56 (by decide) (fun c5 => ?_) (fun c5 => ?_)
              · have h := oit h c5
                refine lv_iinc (v := x6 + 1) (lv' := [(6, .int (x6 + 1)), (0, .ref trh), (1, .ref sph), (2, .int p1), (3, .int x3), (4, .int x4), (5, .int x5)]) hx hb dX5_roll_85 hl (k := 6) rfl rfl (by decide) rfl (fun ls hl => ?_)
                refine lv_goto (tgt := 30) hx hb dX5_roll_88 (by decide) ?_
                exact ih30 x3 x4 x5 (x6 + 1) q4.2 _ _ _ (lv_sub hl [1, 2, 3, 4, 5, 6, 0] rfl) hP hD hS h
              · have h := oif h c5
                refine lv_iconst (v := 1) hx hb dX5_roll_59 (by decide) ?_
                refine lv_istore (lv' := [(4, .int 1), (0, .ref trh), (1, .ref sph), (2, .int p1), (3, .int x3), (5, .int x5), (6, .int x6)]) hx hb dX5_roll_60 hl (by decide) rfl (fun ls hl => ?_)
                refine lv_aload_n hx hb dX5_roll_62 rfl (lv_at hl 1 rfl) ?_
                refine lv_iload hx hb dX5_roll_63 (lv_at hl 6 rfl) ?_
                refine lv_aload_n hx hb dX5_roll_65 rfl (lv_at hl 2 rfl) ?_
                refine va_get (D := D) (ci := 4) (v := .ref spa) (C := RX4) (T := TX4) (N := 5) hx hb hts hiX4 hown hE.1 hP 4 rfl rfl 0 (by decide) (hts (.fieldLink RX5 78 "TiltTray$Spot" "at" "[I") (by decide +kernel)) (fun _ h9 => h9) rfl dX5_roll_66 ?_
                refine lv_iload hx hb dX5_roll_69 (lv_at hl 6 rfl) ?_
                obtain ⟨g6, h⟩ := og h
                refine va_iald hx hb hE.1 hP 5 0 rfl rfl (ix_in g6) dX5_roll_71 ?_
                obtain ⟨q7, hq7, h⟩ := ob h
                refine kV (As := [.int x6, .int (q4.2.1 x6.toNatClampNeg)]) (rest := []) (w2 := cTr trh tra trb trc cy.1 tr ++ (cSp sph spa cy.1 q4.2)) (n := 2) (q0 := 0) ⟨hx, hb, hml, hown, hts⟩ (c_X5_stopsAt l D cy trh tra trb trc tr x6 (q4.2.1 x6.toNatClampNeg) q7 hq7) gX5_roll_X5_stopsAt rfl (by decide +kernel) ⟨by rw [hRf]; exact Nat.le_of_ble_eq_true rfl, by rw [hRl]; exact Nat.le_of_ble_eq_true rfl⟩ hE hP hD hS hA [0, 1, 2, 3] rfl rfl rfl rfl rfl rfl rfl hl.1 rfl (Nat.le_of_ble_eq_true rfl) dX5_roll_72 ⟨Nat.zero_le _, Nat.zero_le _⟩ (fun H locs hP hD hS => ?_)
                refine lv_if_eq (tgt := 85) hx hb dX5_roll_75 (by decide) (fun c8 => ?_) (fun c8 => ?_)
                · have h := oit h c8
                  refine lv_iinc (v := x6 + 1) (lv' := [(6, .int (x6 + 1)), (4, .int 1), (0, .ref trh), (1, .ref sph), (2, .int p1), (3, .int x3), (5, .int x5)]) hx hb dX5_roll_85 hl (k := 6) rfl rfl (by decide) rfl (fun ls hl => ?_)
                  refine lv_goto (tgt := 30) hx hb dX5_roll_88 (by decide) ?_
                  exact ih30 x3 1 x5 (x6 + 1) q4.2 _ _ _ (lv_sub hl [2, 3, 4, 5, 1, 6, 0] rfl) hP hD hS h
                · have h := oif h c8
                  refine lv_iload_n hx hb dX5_roll_78 rfl (lv_at hl 4 rfl) ?_
                  refine lv_iconst (v := 1) hx hb dX5_roll_79 (by decide) ?_
                  refine lv_iload hx hb dX5_roll_80 (lv_at hl 6 rfl) ?_
                  refine lv_ishl hx hb dX5_roll_82 ?_
                  refine lv_ior hx hb dX5_roll_83 ?_
                  refine lv_istore_n (lv' := [(3, .int (x3 ||| (1 <<< (x6 &&& 31)))), (4, .int 1), (0, .ref trh), (1, .ref sph), (2, .int p1), (5, .int x5), (6, .int x6)]) hx hb dX5_roll_84 rfl hl (by decide) rfl (fun ls hl => ?_)
                  refine lv_iinc (v := x6 + 1) (lv' := [(6, .int (x6 + 1)), (3, .int (x3 ||| (1 <<< (x6 &&& 31)))), (4, .int 1), (0, .ref trh), (1, .ref sph), (2, .int p1), (5, .int x5)]) hx hb dX5_roll_85 hl (k := 6) rfl rfl (by decide) rfl (fun ls hl => ?_)
                  refine lv_goto (tgt := 30) hx hb dX5_roll_88 (by decide) ?_
                  exact ih30 (x3 ||| (1 <<< (x6 &&& 31))) 1 x5 (x6 + 1) q4.2 _ _ _ (lv_sub hl [3, 4, 5, 1, 2, 6, 0] rfl) hP hD hS h
      refine lv_iload hx hb dX5_roll_12 (lv_at hl 5 rfl) ?_
      refine lv_bipush (v := 17) hx hb dX5_roll_14 (by decide) ?_
      refine lv_icmp_ge (tgt := 97) hx hb dX5_roll_16 (by decide) (fun c9 => ?_) (fun c9 => ?_)
      · have h := oit h c9
        obtain rfl := Option.some.inj h
        rw [hQ]; exact ct_vret hx hb hr hlocks hP hS rfl dX5_roll_97
      · have h := oif h c9
        refine lv_iload hx hb dX5_roll_19 (lv_at hl 4 rfl) ?_
        refine lv_if_eq (tgt := 97) hx hb dX5_roll_21 (by decide) (fun c10 => ?_) (fun c10 => ?_)
        · have h := oit h c10
          obtain rfl := Option.some.inj h
          rw [hQ]; exact ct_vret hx hb hr hlocks hP hS rfl dX5_roll_97
        · have h := oif h c10
          refine lv_iconst (v := 0) hx hb dX5_roll_24 (by decide) ?_
          refine lv_istore (lv' := [(4, .int 0), (0, .ref trh), (1, .ref sph), (2, .int p1), (3, .int x3), (5, .int x5)]) hx hb dX5_roll_25 hl (by decide) rfl (fun ls hl => ?_)
          refine lv_iconst (v := 0) hx hb dX5_roll_27 (by decide) ?_
          refine lv_istore (lv' := [(6, .int 0), (4, .int 0), (0, .ref trh), (1, .ref sph), (2, .int p1), (3, .int x3), (5, .int x5)]) hx hb dX5_roll_28 hl (by decide) rfl (fun ls hl => ?_)
          exact L30 5 x3 0 x5 0 sp _ _ _ (lv_sub hl [2, 3, 4, 5, 1, 6, 0] rfl) hP hD hS h
  refine lv_aload_n hx hb dX5_roll_0 rfl (lv_at hl 0 rfl) ?_
  refine lv_aload_n hx hb dX5_roll_1 rfl (lv_at hl 1 rfl) ?_
  obtain ⟨q11, hq11, h⟩ := ob h
  refine kV (As := [.ref sph]) (rest := []) (w2 := cTr trh tra trb trc cy.1 tr ++ (cSp sph spa cy.1 sp)) (n := 1) (q0 := 0) ⟨hx, hb, hml, hown, hts⟩ (c_X5_stoppedAhead l D cy trh tra trb trc sph spa tr sp q11 hq11) gX5_roll_X5_stoppedAhead rfl (by decide +kernel) ⟨by rw [hRf]; exact Nat.le_of_ble_eq_true rfl, by rw [hRl]; exact Nat.le_of_ble_eq_true rfl⟩ hE hP hD hS hA [0, 1, 2, 3, 4, 5] rfl rfl rfl rfl rfl rfl rfl hl.1 rfl (Nat.le_of_ble_eq_true rfl) dX5_roll_2 ⟨Nat.zero_le _, Nat.zero_le _⟩ (fun H locs hP hD hS => ?_)
  refine lv_istore_n (lv' := [(3, .int q11), (0, .ref trh), (1, .ref sph), (2, .int p1)]) hx hb dX5_roll_5 rfl hl (by decide) rfl (fun ls hl => ?_)
  refine lv_iconst (v := 1) hx hb dX5_roll_6 (by decide) ?_
  refine lv_istore (lv' := [(4, .int 1), (3, .int q11), (0, .ref trh), (1, .ref sph), (2, .int p1)]) hx hb dX5_roll_7 hl (by decide) rfl (fun ls hl => ?_)
  refine lv_iconst (v := 0) hx hb dX5_roll_9 (by decide) ?_
  refine lv_istore (lv' := [(5, .int 0), (4, .int 1), (3, .int q11), (0, .ref trh), (1, .ref sph), (2, .int p1)]) hx hb dX5_roll_10 hl (by decide) rfl (fun ls hl => ?_)
  exact L12 18 q11 1 0 sp _ _ _ (lv_sub hl [3, 4, 5, 2, 1, 0] rfl) hP hD hS h
