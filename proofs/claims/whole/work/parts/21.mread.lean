def tw_X7_write (m_text : Nat → Int32) (m_length : Int32) (p1 : Int32) : Option (Int32 × (Nat → Int32) × Int32) :=
  (tw_X7_in p1.toInt64 0 255).bind (fun q1 => if q1 = 0 then (some ((-2), m_text, m_length)) else (if m_length = 48 then (some ((-4), m_text, m_length)) else (if ix m_length 48 = true then (some (m_length + 1, upd m_text m_length.toNatClampNeg p1, m_length + 1)) else none)))
set_option maxHeartbeats 4000000 in
set_option maxRecDepth 100000 in
theorem c_X7_write (l : Launch) (D : va_G) (cy : Cy) (mh : Nat) (m_kindr : Nat) (m_toldr : Nat) (m_nowr : Nat) (m_readToldr : Nat) (m_readCellr : Nat) (m_readKindr : Nat) (m_textr : Nat) (m_rowr : Nat) (m_seenCellr : Nat) (m_seenWayr : Nat) (m_seenCamer : Nat) (m_isKeptr : Nat) (m_keptr : Nat) (m_marbles : Int32) (m_kind : Nat → Int32) (m_told : Nat → Int32) (m_now : Nat → Int32) (m_readTold : Nat → Int32) (m_readCell : Nat → Int32) (m_readKind : Nat → Int32) (m_text : Nat → Int32) (m_length : Int32) (m_at : Int32) (m_faultAt : Int32) (m_there : Int32) (m_stopped : Int32) (m_acts : Int32) (m_next : Int32) (m_row : Nat → Int32) (m_bestRow : Int32) (m_seen : Int32) (m_seenCell : Nat → Int32) (m_seenWay : Nat → Int32) (m_seenCame : Nat → Int32) (m_seed : Int64) (m_isKept : Nat → Int32) (m_kept : Nat → Int32) (p1 : Int32) (res : Int32 × (Nat → Int32) × Int32) (h : tw_X7_write m_text m_length p1 = some res) : Ct l yX7_write wsX7_write 1 25 D cy [.ref mh, .int p1] (cMd mh m_kindr m_toldr m_nowr m_readToldr m_readCellr m_readKindr m_textr m_rowr m_seenCellr m_seenWayr m_seenCamer m_isKeptr m_keptr cy.1 cy.2.2.1 m_marbles m_kind m_told m_now m_readTold m_readCell m_readKind m_text m_length m_at m_faultAt m_there m_stopped m_acts m_next m_row m_bestRow m_seen m_seenCell m_seenWay m_seenCame m_seed m_isKept m_kept) (cMd mh m_kindr m_toldr m_nowr m_readToldr m_readCellr m_readKindr m_textr m_rowr m_seenCellr m_seenWayr m_seenCamer m_isKeptr m_keptr cy.1 cy.2.2.1 m_marbles m_kind m_told m_now m_readTold m_readCell m_readKind res.2.1 res.2.2 m_at m_faultAt m_there m_stopped m_acts m_next m_row m_bestRow m_seen m_seenCell m_seenWay m_seenCame m_seed m_isKept m_kept) (some (.int res.1)) := by
  refine Ct.ofW (cc := cX7_write) (maxL := 2) (ret := (some .int)) (by decide) rfl (Nat.le_of_ble_eq_true rfl) ?_
  intro p e R s m args below meth c A Q ls hRf hRl hQ hx hb hr hml hts hown hlocks hE hP hD hS hA hl
  have hiX7 : ∀ w ∈ u_ws RX7 TX7 24, w ∈ wsX7_write := by decide +kernel
  have hl : lv_has ls 2 [(0, .ref mh), (1, .int p1)] := hl
  rw [tw_X7_write] at h
  refine lv_iload_n hx hb dX7_write_0 rfl (lv_at hl 1 rfl) ?_
  refine lv_i2l hx hb dX7_write_1 rfl ?_
  refine lv_lconst (v := 0) hx hb dX7_write_2 (by decide) ?_
  refine lv_ldc2 (v := 255) hx hb hown (hts (.constantLong RX7 54 (255)) (by decide +kernel)) dX7_write_3 ?_
  obtain ⟨q1, hq1, h⟩ := ob h
  refine kS (As := [.long p1.toInt64, .long 0, .long 255]) (rest := []) (w2 := cMd mh m_kindr m_toldr m_nowr m_readToldr m_readCellr m_readKindr m_textr m_rowr m_seenCellr m_seenWayr m_seenCamer m_isKeptr m_keptr cy.1 cy.2.2.1 m_marbles m_kind m_told m_now m_readTold m_readCell m_readKind m_text m_length m_at m_faultAt m_there m_stopped m_acts m_next m_row m_bestRow m_seen m_seenCell m_seenWay m_seenCame m_seed m_isKept m_kept) (n := 3) ⟨hx, hb, hml, hown, hts⟩ (c_X7_in l D cy p1.toInt64 0 255 q1 hq1) gX7_write_X7_in rfl (by decide +kernel) ⟨by rw [hRf]; exact Nat.le_of_ble_eq_true rfl, by rw [hRl]; exact Nat.le_of_ble_eq_true rfl⟩ hE hP hD hS hA [] rfl rfl rfl rfl rfl hl.1 rfl (Nat.le_of_ble_eq_true rfl) dX7_write_6 ⟨Nat.zero_le _, Nat.zero_le _⟩ (fun H locs hP hD hS => ?_)
  refine lv_if_ne (tgt := 15) hx hb dX7_write_9 (by decide) (fun c2 => ?_) (fun c2 => ?_)
  · have h := oif h c2
    refine lv_aload_n hx hb dX7_write_15 rfl (lv_at hl 0 rfl) ?_
    refine va_get (D := D) (ci := 7) (v := .int m_length) (C := RX7) (T := TX7) (N := 24) hx hb hts hiX7 hown hE.1 hP 0 rfl rfl 8 (by decide) (hts (.fieldLink RX7 60 "TiltTrayModel" "length" "I") (by decide +kernel)) (fun _ h9 => h9) rfl dX7_write_16 ?_
    refine lv_bipush (v := 48) hx hb dX7_write_19 (by decide) ?_
    refine lv_icmp_ne (tgt := 27) hx hb dX7_write_21 (by decide) (fun c3 => ?_) (fun c3 => ?_)
    · have h := oif h c3
      refine lv_aload_n hx hb dX7_write_27 rfl (lv_at hl 0 rfl) ?_
      refine va_get (D := D) (ci := 7) (v := .ref m_textr) (C := RX7) (T := TX7) (N := 24) hx hb hts hiX7 hown hE.1 hP 0 rfl rfl 7 (by decide) (hts (.fieldLink RX7 28 "TiltTrayModel" "text" "[I") (by decide +kernel)) (fun _ h9 => h9) rfl dX7_write_28 ?_
      refine lv_aload_n hx hb dX7_write_31 rfl (lv_at hl 0 rfl) ?_
      refine va_get (D := D) (ci := 7) (v := .int m_length) (C := RX7) (T := TX7) (N := 24) hx hb hts hiX7 hown hE.1 hP 0 rfl rfl 8 (by decide) (hts (.fieldLink RX7 60 "TiltTrayModel" "length" "I") (by decide +kernel)) (fun _ h9 => h9) rfl dX7_write_32 ?_
      refine lv_iload_n hx hb dX7_write_35 rfl (lv_at hl 1 rfl) ?_
      obtain ⟨g4, h⟩ := og h
      refine va_iast hx hb hE.1 hP hD hS 7 0 rfl rfl (ix_in g4) dX7_write_36 (fun H locs hP hD hS => ?_)
      have hP : va_P D vwCl (cMd mh m_kindr m_toldr m_nowr m_readToldr m_readCellr m_readKindr m_textr m_rowr m_seenCellr m_seenWayr m_seenCamer m_isKeptr m_keptr cy.1 cy.2.2.1 m_marbles m_kind m_told m_now m_readTold m_readCell m_readKind (upd m_text m_length.toNatClampNeg p1) m_length m_at m_faultAt m_there m_stopped m_acts m_next m_row m_bestRow m_seen m_seenCell m_seenWay m_seenCame m_seed m_isKept m_kept) H := hP
      have hD : va_D A (cMd mh m_kindr m_toldr m_nowr m_readToldr m_readCellr m_readKindr m_textr m_rowr m_seenCellr m_seenWayr m_seenCamer m_isKeptr m_keptr cy.1 cy.2.2.1 m_marbles m_kind m_told m_now m_readTold m_readCell m_readKind (upd m_text m_length.toNatClampNeg p1) m_length m_at m_faultAt m_there m_stopped m_acts m_next m_row m_bestRow m_seen m_seenCell m_seenWay m_seenCame m_seed m_isKept m_kept) := hD
      refine lv_aload_n hx hb dX7_write_37 rfl (lv_at hl 0 rfl) ?_
      refine lv_dup hx hb dX7_write_38 rfl ?_
      refine va_get (D := D) (ci := 7) (v := .int m_length) (C := RX7) (T := TX7) (N := 24) hx hb hts hiX7 hown hE.1 hP 0 rfl rfl 8 (by decide) (hts (.fieldLink RX7 60 "TiltTrayModel" "length" "I") (by decide +kernel)) (fun _ h9 => h9) rfl dX7_write_39 ?_
      refine lv_iconst (v := 1) hx hb dX7_write_42 (by decide) ?_
      refine lv_iadd hx hb dX7_write_43 ?_
      refine va_put (D := D) (ci := 7) (v := .int (m_length + 1)) (ty := .int) (C := RX7) (T := TX7) (N := 24) hx hb hts hiX7 tyX7 tyX7_ok nmX7 hown hE.1 hP hD hS 0 rfl rfl 8 (by decide) (hts (.fieldLink RX7 60 "TiltTrayModel" "length" "I") (by decide +kernel)) (fun _ h9 => h9) rfl (by decide +kernel) rfl rfl (Nat.le_of_ble_eq_true rfl) dX7_write_44 (fun H locs hP hD hS => ?_)
      have hP : va_P D vwCl (cMd mh m_kindr m_toldr m_nowr m_readToldr m_readCellr m_readKindr m_textr m_rowr m_seenCellr m_seenWayr m_seenCamer m_isKeptr m_keptr cy.1 cy.2.2.1 m_marbles m_kind m_told m_now m_readTold m_readCell m_readKind (upd m_text m_length.toNatClampNeg p1) (m_length + 1) m_at m_faultAt m_there m_stopped m_acts m_next m_row m_bestRow m_seen m_seenCell m_seenWay m_seenCame m_seed m_isKept m_kept) H := hP
      have hD : va_D A (cMd mh m_kindr m_toldr m_nowr m_readToldr m_readCellr m_readKindr m_textr m_rowr m_seenCellr m_seenWayr m_seenCamer m_isKeptr m_keptr cy.1 cy.2.2.1 m_marbles m_kind m_told m_now m_readTold m_readCell m_readKind (upd m_text m_length.toNatClampNeg p1) (m_length + 1) m_at m_faultAt m_there m_stopped m_acts m_next m_row m_bestRow m_seen m_seenCell m_seenWay m_seenCame m_seed m_isKept m_kept) := hD
      refine lv_aload_n hx hb dX7_write_47 rfl (lv_at hl 0 rfl) ?_
      refine va_get (D := D) (ci := 7) (v := .int (m_length + 1)) (C := RX7) (T := TX7) (N := 24) hx hb hts hiX7 hown hE.1 hP 0 rfl rfl 8 (by decide) (hts (.fieldLink RX7 60 "TiltTrayModel" "length" "I") (by decide +kernel)) (fun _ h9 => h9) rfl dX7_write_48 ?_
      obtain rfl := Option.some.inj h
      rw [hQ]; exact ct_iret hx hb hr hlocks hP hS rfl dX7_write_51
    · have h := oit h c3
      refine lv_bipush (v := (-4)) hx hb dX7_write_24 (by decide) ?_
      obtain rfl := Option.some.inj h
      rw [hQ]; exact ct_iret hx hb hr hlocks hP hS rfl dX7_write_26
  · have h := oit h c2
    refine lv_bipush (v := (-2)) hx hb dX7_write_12 (by decide) ?_
    obtain rfl := Option.some.inj h
    rw [hQ]; exact ct_iret hx hb hr hlocks hP hS rfl dX7_write_14

def tw_X7_wipe (m_length : Int32) : Option (Int32 × Int32) :=
  some (m_length, 0)
set_option maxHeartbeats 4000000 in
set_option maxRecDepth 100000 in
theorem c_X7_wipe (l : Launch) (D : va_G) (cy : Cy) (mh : Nat) (m_kindr : Nat) (m_toldr : Nat) (m_nowr : Nat) (m_readToldr : Nat) (m_readCellr : Nat) (m_readKindr : Nat) (m_textr : Nat) (m_rowr : Nat) (m_seenCellr : Nat) (m_seenWayr : Nat) (m_seenCamer : Nat) (m_isKeptr : Nat) (m_keptr : Nat) (m_marbles : Int32) (m_kind : Nat → Int32) (m_told : Nat → Int32) (m_now : Nat → Int32) (m_readTold : Nat → Int32) (m_readCell : Nat → Int32) (m_readKind : Nat → Int32) (m_text : Nat → Int32) (m_length : Int32) (m_at : Int32) (m_faultAt : Int32) (m_there : Int32) (m_stopped : Int32) (m_acts : Int32) (m_next : Int32) (m_row : Nat → Int32) (m_bestRow : Int32) (m_seen : Int32) (m_seenCell : Nat → Int32) (m_seenWay : Nat → Int32) (m_seenCame : Nat → Int32) (m_seed : Int64) (m_isKept : Nat → Int32) (m_kept : Nat → Int32) (res : Int32 × Int32) (h : tw_X7_wipe m_length = some res) : Ct l yX7_wipe wsX7_wipe 0 0 D cy [.ref mh] (cMd mh m_kindr m_toldr m_nowr m_readToldr m_readCellr m_readKindr m_textr m_rowr m_seenCellr m_seenWayr m_seenCamer m_isKeptr m_keptr cy.1 cy.2.2.1 m_marbles m_kind m_told m_now m_readTold m_readCell m_readKind m_text m_length m_at m_faultAt m_there m_stopped m_acts m_next m_row m_bestRow m_seen m_seenCell m_seenWay m_seenCame m_seed m_isKept m_kept) (cMd mh m_kindr m_toldr m_nowr m_readToldr m_readCellr m_readKindr m_textr m_rowr m_seenCellr m_seenWayr m_seenCamer m_isKeptr m_keptr cy.1 cy.2.2.1 m_marbles m_kind m_told m_now m_readTold m_readCell m_readKind m_text res.2 m_at m_faultAt m_there m_stopped m_acts m_next m_row m_bestRow m_seen m_seenCell m_seenWay m_seenCame m_seed m_isKept m_kept) (some (.int res.1)) := by
  refine Ct.ofW (cc := cX7_wipe) (maxL := 2) (ret := (some .int)) (by decide) rfl (Nat.le_of_ble_eq_true rfl) ?_
  intro p e R s m args below meth c A Q ls hRf hRl hQ hx hb hr hml hts hown hlocks hE hP hD hS hA hl
  have hiX7 : ∀ w ∈ u_ws RX7 TX7 24, w ∈ wsX7_wipe := by decide +kernel
  have hl : lv_has ls 2 [(0, .ref mh)] := hl
  rw [tw_X7_wipe] at h
  refine lv_aload_n hx hb dX7_wipe_0 rfl (lv_at hl 0 rfl) ?_
  refine va_get (D := D) (ci := 7) (v := .int m_length) (C := RX7) (T := TX7) (N := 24) hx hb hts hiX7 hown hE.1 hP 0 rfl rfl 8 (by decide) (hts (.fieldLink RX7 60 "TiltTrayModel" "length" "I") (by decide +kernel)) (fun _ h9 => h9) rfl dX7_wipe_1 ?_
  refine lv_istore_n (lv' := [(1, .int m_length), (0, .ref mh)]) hx hb dX7_wipe_4 rfl hl (by decide) rfl (fun ls hl => ?_)
  refine lv_aload_n hx hb dX7_wipe_5 rfl (lv_at hl 1 rfl) ?_
  refine lv_iconst (v := 0) hx hb dX7_wipe_6 (by decide) ?_
  refine va_put (D := D) (ci := 7) (v := .int 0) (ty := .int) (C := RX7) (T := TX7) (N := 24) hx hb hts hiX7 tyX7 tyX7_ok nmX7 hown hE.1 hP hD hS 0 rfl rfl 8 (by decide) (hts (.fieldLink RX7 60 "TiltTrayModel" "length" "I") (by decide +kernel)) (fun _ h9 => h9) rfl (by decide +kernel) rfl rfl (Nat.le_of_ble_eq_true rfl) dX7_wipe_7 (fun H locs hP hD hS => ?_)
  have hP : va_P D vwCl (cMd mh m_kindr m_toldr m_nowr m_readToldr m_readCellr m_readKindr m_textr m_rowr m_seenCellr m_seenWayr m_seenCamer m_isKeptr m_keptr cy.1 cy.2.2.1 m_marbles m_kind m_told m_now m_readTold m_readCell m_readKind m_text 0 m_at m_faultAt m_there m_stopped m_acts m_next m_row m_bestRow m_seen m_seenCell m_seenWay m_seenCame m_seed m_isKept m_kept) H := hP
  have hD : va_D A (cMd mh m_kindr m_toldr m_nowr m_readToldr m_readCellr m_readKindr m_textr m_rowr m_seenCellr m_seenWayr m_seenCamer m_isKeptr m_keptr cy.1 cy.2.2.1 m_marbles m_kind m_told m_now m_readTold m_readCell m_readKind m_text 0 m_at m_faultAt m_there m_stopped m_acts m_next m_row m_bestRow m_seen m_seenCell m_seenWay m_seenCame m_seed m_isKept m_kept) := hD
  refine lv_iload_n hx hb dX7_wipe_10 rfl (lv_at hl 0 rfl) ?_
  obtain rfl := Option.some.inj h
  rw [hQ]; exact ct_iret hx hb hr hlocks hP hS rfl dX7_wipe_11

def tw_X7_partOf (m_readTold : Nat → Int32) (p1 : Int32) : Option (Int32) :=
  if p1 = 70 then ((tw_X7_ones (m_readTold (2 : Int32).toNatClampNeg)).bind (fun q1 => if 3 ≤ q1 then (some ((-9))) else (some (2)))) else (if p1 = 77 then ((tw_X7_ones (m_readTold (4 : Int32).toNatClampNeg)).bind (fun q4 => if 4 ≤ q4 then (some ((-9))) else (some (4)))) else (if p1 = 78 then ((tw_X7_ones (m_readTold (3 : Int32).toNatClampNeg)).bind (fun q7 => if 2 ≤ q7 then (some ((-9))) else (some (3)))) else (if p1 = 79 then ((tw_X7_ones (m_readTold (1 : Int32).toNatClampNeg)).bind (fun q10 => if 3 ≤ q10 then (some ((-9))) else (some (1)))) else (if p1 = 87 then ((tw_X7_ones (m_readTold (0 : Int32).toNatClampNeg)).bind (fun q13 => if 6 ≤ q13 then (some ((-9))) else (some (0)))) else (some ((-9)))))))
set_option maxHeartbeats 4000000 in
set_option maxRecDepth 100000 in
theorem c_X7_partOf (l : Launch) (D : va_G) (cy : Cy) (mh : Nat) (m_kindr : Nat) (m_toldr : Nat) (m_nowr : Nat) (m_readToldr : Nat) (m_readCellr : Nat) (m_readKindr : Nat) (m_textr : Nat) (m_rowr : Nat) (m_seenCellr : Nat) (m_seenWayr : Nat) (m_seenCamer : Nat) (m_isKeptr : Nat) (m_keptr : Nat) (m_marbles : Int32) (m_kind : Nat → Int32) (m_told : Nat → Int32) (m_now : Nat → Int32) (m_readTold : Nat → Int32) (m_readCell : Nat → Int32) (m_readKind : Nat → Int32) (m_text : Nat → Int32) (m_length : Int32) (m_at : Int32) (m_faultAt : Int32) (m_there : Int32) (m_stopped : Int32) (m_acts : Int32) (m_next : Int32) (m_row : Nat → Int32) (m_bestRow : Int32) (m_seen : Int32) (m_seenCell : Nat → Int32) (m_seenWay : Nat → Int32) (m_seenCame : Nat → Int32) (m_seed : Int64) (m_isKept : Nat → Int32) (m_kept : Nat → Int32) (p1 : Int32) (res : Int32) (h : tw_X7_partOf m_readTold p1 = some res) : Ct l yX7_partOf wsX7_partOf 1 22 D cy [.ref mh, .int p1] (cMd mh m_kindr m_toldr m_nowr m_readToldr m_readCellr m_readKindr m_textr m_rowr m_seenCellr m_seenWayr m_seenCamer m_isKeptr m_keptr cy.1 cy.2.2.1 m_marbles m_kind m_told m_now m_readTold m_readCell m_readKind m_text m_length m_at m_faultAt m_there m_stopped m_acts m_next m_row m_bestRow m_seen m_seenCell m_seenWay m_seenCame m_seed m_isKept m_kept) (cMd mh m_kindr m_toldr m_nowr m_readToldr m_readCellr m_readKindr m_textr m_rowr m_seenCellr m_seenWayr m_seenCamer m_isKeptr m_keptr cy.1 cy.2.2.1 m_marbles m_kind m_told m_now m_readTold m_readCell m_readKind m_text m_length m_at m_faultAt m_there m_stopped m_acts m_next m_row m_bestRow m_seen m_seenCell m_seenWay m_seenCame m_seed m_isKept m_kept) (some (.int res)) := by
  refine Ct.ofW (cc := cX7_partOf) (maxL := 2) (ret := (some .int)) (by decide) rfl (Nat.le_of_ble_eq_true rfl) ?_
  intro p e R s m args below meth c A Q ls hRf hRl hQ hx hb hr hml hts hown hlocks hE hP hD hS hA hl
  have hiX7 : ∀ w ∈ u_ws RX7 TX7 24, w ∈ wsX7_partOf := by decide +kernel
  have hl : lv_has ls 2 [(0, .ref mh), (1, .int p1)] := hl
  rw [tw_X7_partOf] at h
  refine lv_iload_n hx hb dX7_partOf_0 rfl (lv_at hl 1 rfl) ?_
  by_cases c3 : p1 = 70
  · have h := oit h c3
    refine lv_lookup (off := 92) (tgt := 93) hx hb dX7_partOf_1 (by decide) (by rw [c3]; decide) (by decide) ?_
    refine lv_aload_n hx hb dX7_partOf_93 rfl (lv_at hl 0 rfl) ?_
    refine va_get (D := D) (ci := 7) (v := .ref m_readToldr) (C := RX7) (T := TX7) (N := 24) hx hb hts hiX7 hown hE.1 hP 0 rfl rfl 4 (by decide) (hts (.fieldLink RX7 19 "TiltTrayModel" "readTold" "[I") (by decide +kernel)) (fun _ h9 => h9) rfl dX7_partOf_94 ?_
    refine lv_iconst (v := 2) hx hb dX7_partOf_97 (by decide) ?_
    refine va_iald hx hb hE.1 hP 4 0 rfl rfl (ix_in (by decide)) dX7_partOf_98 ?_
    obtain ⟨q1, hq1, h⟩ := ob h
    refine kS (As := [.int (m_readTold (2 : Int32).toNatClampNeg)]) (rest := []) (w2 := cMd mh m_kindr m_toldr m_nowr m_readToldr m_readCellr m_readKindr m_textr m_rowr m_seenCellr m_seenWayr m_seenCamer m_isKeptr m_keptr cy.1 cy.2.2.1 m_marbles m_kind m_told m_now m_readTold m_readCell m_readKind m_text m_length m_at m_faultAt m_there m_stopped m_acts m_next m_row m_bestRow m_seen m_seenCell m_seenWay m_seenCame m_seed m_isKept m_kept) (n := 1) ⟨hx, hb, hml, hown, hts⟩ (c_X7_ones l D cy (m_readTold (2 : Int32).toNatClampNeg) q1 hq1) gX7_partOf_X7_ones rfl (by decide +kernel) ⟨by rw [hRf]; exact Nat.le_of_ble_eq_true rfl, by rw [hRl]; exact Nat.le_of_ble_eq_true rfl⟩ hE hP hD hS hA [] rfl rfl rfl rfl rfl hl.1 rfl (Nat.le_of_ble_eq_true rfl) dX7_partOf_99 ⟨Nat.zero_le _, Nat.zero_le _⟩ (fun H locs hP hD hS => ?_)
    refine lv_iconst (v := 3) hx hb dX7_partOf_102 (by decide) ?_
    refine lv_icmp_ge (tgt := 110) hx hb dX7_partOf_103 (by decide) (fun c2 => ?_) (fun c2 => ?_)
    · have h := oit h c2
      refine lv_bipush (v := (-9)) hx hb dX7_partOf_110 (by decide) ?_
      obtain rfl := Option.some.inj h
      rw [hQ]; exact ct_iret hx hb hr hlocks hP hS rfl dX7_partOf_112
    · have h := oif h c2
      refine lv_iconst (v := 2) hx hb dX7_partOf_106 (by decide) ?_
      refine lv_goto (tgt := 112) hx hb dX7_partOf_107 (by decide) ?_
      obtain rfl := Option.some.inj h
      rw [hQ]; exact ct_iret hx hb hr hlocks hP hS rfl dX7_partOf_112
  have h := oif h c3
  by_cases c6 : p1 = 77
  · have h := oit h c6
    refine lv_lookup (off := 132) (tgt := 133) hx hb dX7_partOf_1 (by decide) (by rw [c6]; decide) (by decide) ?_
    refine lv_aload_n hx hb dX7_partOf_133 rfl (lv_at hl 0 rfl) ?_
    refine va_get (D := D) (ci := 7) (v := .ref m_readToldr) (C := RX7) (T := TX7) (N := 24) hx hb hts hiX7 hown hE.1 hP 0 rfl rfl 4 (by decide) (hts (.fieldLink RX7 19 "TiltTrayModel" "readTold" "[I") (by decide +kernel)) (fun _ h9 => h9) rfl dX7_partOf_134 ?_
    refine lv_iconst (v := 4) hx hb dX7_partOf_137 (by decide) ?_
    refine va_iald hx hb hE.1 hP 4 0 rfl rfl (ix_in (by decide)) dX7_partOf_138 ?_
    obtain ⟨q4, hq4, h⟩ := ob h
    refine kS (As := [.int (m_readTold (4 : Int32).toNatClampNeg)]) (rest := []) (w2 := cMd mh m_kindr m_toldr m_nowr m_readToldr m_readCellr m_readKindr m_textr m_rowr m_seenCellr m_seenWayr m_seenCamer m_isKeptr m_keptr cy.1 cy.2.2.1 m_marbles m_kind m_told m_now m_readTold m_readCell m_readKind m_text m_length m_at m_faultAt m_there m_stopped m_acts m_next m_row m_bestRow m_seen m_seenCell m_seenWay m_seenCame m_seed m_isKept m_kept) (n := 1) ⟨hx, hb, hml, hown, hts⟩ (c_X7_ones l D cy (m_readTold (4 : Int32).toNatClampNeg) q4 hq4) gX7_partOf_X7_ones rfl (by decide +kernel) ⟨by rw [hRf]; exact Nat.le_of_ble_eq_true rfl, by rw [hRl]; exact Nat.le_of_ble_eq_true rfl⟩ hE hP hD hS hA [] rfl rfl rfl rfl rfl hl.1 rfl (Nat.le_of_ble_eq_true rfl) dX7_partOf_139 ⟨Nat.zero_le _, Nat.zero_le _⟩ (fun H locs hP hD hS => ?_)
    refine lv_iconst (v := 4) hx hb dX7_partOf_142 (by decide) ?_
    refine lv_icmp_ge (tgt := 150) hx hb dX7_partOf_143 (by decide) (fun c5 => ?_) (fun c5 => ?_)
    · have h := oit h c5
      refine lv_bipush (v := (-9)) hx hb dX7_partOf_150 (by decide) ?_
      obtain rfl := Option.some.inj h
      rw [hQ]; exact ct_iret hx hb hr hlocks hP hS rfl dX7_partOf_152
    · have h := oif h c5
      refine lv_iconst (v := 4) hx hb dX7_partOf_146 (by decide) ?_
      refine lv_goto (tgt := 152) hx hb dX7_partOf_147 (by decide) ?_
      obtain rfl := Option.some.inj h
      rw [hQ]; exact ct_iret hx hb hr hlocks hP hS rfl dX7_partOf_152
  have h := oif h c6
  by_cases c9 : p1 = 78
  · have h := oit h c9
    refine lv_lookup (off := 112) (tgt := 113) hx hb dX7_partOf_1 (by decide) (by rw [c9]; decide) (by decide) ?_
    refine lv_aload_n hx hb dX7_partOf_113 rfl (lv_at hl 0 rfl) ?_
    refine va_get (D := D) (ci := 7) (v := .ref m_readToldr) (C := RX7) (T := TX7) (N := 24) hx hb hts hiX7 hown hE.1 hP 0 rfl rfl 4 (by decide) (hts (.fieldLink RX7 19 "TiltTrayModel" "readTold" "[I") (by decide +kernel)) (fun _ h9 => h9) rfl dX7_partOf_114 ?_
    refine lv_iconst (v := 3) hx hb dX7_partOf_117 (by decide) ?_
    refine va_iald hx hb hE.1 hP 4 0 rfl rfl (ix_in (by decide)) dX7_partOf_118 ?_
    obtain ⟨q7, hq7, h⟩ := ob h
    refine kS (As := [.int (m_readTold (3 : Int32).toNatClampNeg)]) (rest := []) (w2 := cMd mh m_kindr m_toldr m_nowr m_readToldr m_readCellr m_readKindr m_textr m_rowr m_seenCellr m_seenWayr m_seenCamer m_isKeptr m_keptr cy.1 cy.2.2.1 m_marbles m_kind m_told m_now m_readTold m_readCell m_readKind m_text m_length m_at m_faultAt m_there m_stopped m_acts m_next m_row m_bestRow m_seen m_seenCell m_seenWay m_seenCame m_seed m_isKept m_kept) (n := 1) ⟨hx, hb, hml, hown, hts⟩ (c_X7_ones l D cy (m_readTold (3 : Int32).toNatClampNeg) q7 hq7) gX7_partOf_X7_ones rfl (by decide +kernel) ⟨by rw [hRf]; exact Nat.le_of_ble_eq_true rfl, by rw [hRl]; exact Nat.le_of_ble_eq_true rfl⟩ hE hP hD hS hA [] rfl rfl rfl rfl rfl hl.1 rfl (Nat.le_of_ble_eq_true rfl) dX7_partOf_119 ⟨Nat.zero_le _, Nat.zero_le _⟩ (fun H locs hP hD hS => ?_)
    refine lv_iconst (v := 2) hx hb dX7_partOf_122 (by decide) ?_
    refine lv_icmp_ge (tgt := 130) hx hb dX7_partOf_123 (by decide) (fun c8 => ?_) (fun c8 => ?_)
    · have h := oit h c8
      refine lv_bipush (v := (-9)) hx hb dX7_partOf_130 (by decide) ?_
      obtain rfl := Option.some.inj h
      rw [hQ]; exact ct_iret hx hb hr hlocks hP hS rfl dX7_partOf_132
    · have h := oif h c8
      refine lv_iconst (v := 3) hx hb dX7_partOf_126 (by decide) ?_
      refine lv_goto (tgt := 132) hx hb dX7_partOf_127 (by decide) ?_
      obtain rfl := Option.some.inj h
      rw [hQ]; exact ct_iret hx hb hr hlocks hP hS rfl dX7_partOf_132
  have h := oif h c9
  by_cases c12 : p1 = 79
  · have h := oit h c12
    refine lv_lookup (off := 72) (tgt := 73) hx hb dX7_partOf_1 (by decide) (by rw [c12]; decide) (by decide) ?_
    refine lv_aload_n hx hb dX7_partOf_73 rfl (lv_at hl 0 rfl) ?_
    refine va_get (D := D) (ci := 7) (v := .ref m_readToldr) (C := RX7) (T := TX7) (N := 24) hx hb hts hiX7 hown hE.1 hP 0 rfl rfl 4 (by decide) (hts (.fieldLink RX7 19 "TiltTrayModel" "readTold" "[I") (by decide +kernel)) (fun _ h9 => h9) rfl dX7_partOf_74 ?_
    refine lv_iconst (v := 1) hx hb dX7_partOf_77 (by decide) ?_
    refine va_iald hx hb hE.1 hP 4 0 rfl rfl (ix_in (by decide)) dX7_partOf_78 ?_
    obtain ⟨q10, hq10, h⟩ := ob h
    refine kS (As := [.int (m_readTold (1 : Int32).toNatClampNeg)]) (rest := []) (w2 := cMd mh m_kindr m_toldr m_nowr m_readToldr m_readCellr m_readKindr m_textr m_rowr m_seenCellr m_seenWayr m_seenCamer m_isKeptr m_keptr cy.1 cy.2.2.1 m_marbles m_kind m_told m_now m_readTold m_readCell m_readKind m_text m_length m_at m_faultAt m_there m_stopped m_acts m_next m_row m_bestRow m_seen m_seenCell m_seenWay m_seenCame m_seed m_isKept m_kept) (n := 1) ⟨hx, hb, hml, hown, hts⟩ (c_X7_ones l D cy (m_readTold (1 : Int32).toNatClampNeg) q10 hq10) gX7_partOf_X7_ones rfl (by decide +kernel) ⟨by rw [hRf]; exact Nat.le_of_ble_eq_true rfl, by rw [hRl]; exact Nat.le_of_ble_eq_true rfl⟩ hE hP hD hS hA [] rfl rfl rfl rfl rfl hl.1 rfl (Nat.le_of_ble_eq_true rfl) dX7_partOf_79 ⟨Nat.zero_le _, Nat.zero_le _⟩ (fun H locs hP hD hS => ?_)
    refine lv_iconst (v := 3) hx hb dX7_partOf_82 (by decide) ?_
    refine lv_icmp_ge (tgt := 90) hx hb dX7_partOf_83 (by decide) (fun c11 => ?_) (fun c11 => ?_)
    · have h := oit h c11
      refine lv_bipush (v := (-9)) hx hb dX7_partOf_90 (by decide) ?_
      obtain rfl := Option.some.inj h
      rw [hQ]; exact ct_iret hx hb hr hlocks hP hS rfl dX7_partOf_92
    · have h := oif h c11
      refine lv_iconst (v := 1) hx hb dX7_partOf_86 (by decide) ?_
      refine lv_goto (tgt := 92) hx hb dX7_partOf_87 (by decide) ?_
      obtain rfl := Option.some.inj h
      rw [hQ]; exact ct_iret hx hb hr hlocks hP hS rfl dX7_partOf_92
  have h := oif h c12
  by_cases c15 : p1 = 87
  · have h := oit h c15
    refine lv_lookup (off := 51) (tgt := 52) hx hb dX7_partOf_1 (by decide) (by rw [c15]; decide) (by decide) ?_
    refine lv_aload_n hx hb dX7_partOf_52 rfl (lv_at hl 0 rfl) ?_
    refine va_get (D := D) (ci := 7) (v := .ref m_readToldr) (C := RX7) (T := TX7) (N := 24) hx hb hts hiX7 hown hE.1 hP 0 rfl rfl 4 (by decide) (hts (.fieldLink RX7 19 "TiltTrayModel" "readTold" "[I") (by decide +kernel)) (fun _ h9 => h9) rfl dX7_partOf_53 ?_
    refine lv_iconst (v := 0) hx hb dX7_partOf_56 (by decide) ?_
    refine va_iald hx hb hE.1 hP 4 0 rfl rfl (ix_in (by decide)) dX7_partOf_57 ?_
    obtain ⟨q13, hq13, h⟩ := ob h
    refine kS (As := [.int (m_readTold (0 : Int32).toNatClampNeg)]) (rest := []) (w2 := cMd mh m_kindr m_toldr m_nowr m_readToldr m_readCellr m_readKindr m_textr m_rowr m_seenCellr m_seenWayr m_seenCamer m_isKeptr m_keptr cy.1 cy.2.2.1 m_marbles m_kind m_told m_now m_readTold m_readCell m_readKind m_text m_length m_at m_faultAt m_there m_stopped m_acts m_next m_row m_bestRow m_seen m_seenCell m_seenWay m_seenCame m_seed m_isKept m_kept) (n := 1) ⟨hx, hb, hml, hown, hts⟩ (c_X7_ones l D cy (m_readTold (0 : Int32).toNatClampNeg) q13 hq13) gX7_partOf_X7_ones rfl (by decide +kernel) ⟨by rw [hRf]; exact Nat.le_of_ble_eq_true rfl, by rw [hRl]; exact Nat.le_of_ble_eq_true rfl⟩ hE hP hD hS hA [] rfl rfl rfl rfl rfl hl.1 rfl (Nat.le_of_ble_eq_true rfl) dX7_partOf_58 ⟨Nat.zero_le _, Nat.zero_le _⟩ (fun H locs hP hD hS => ?_)
    refine lv_bipush (v := 6) hx hb dX7_partOf_61 (by decide) ?_
    refine lv_icmp_ge (tgt := 70) hx hb dX7_partOf_63 (by decide) (fun c14 => ?_) (fun c14 => ?_)
    · have h := oit h c14
      refine lv_bipush (v := (-9)) hx hb dX7_partOf_70 (by decide) ?_
      obtain rfl := Option.some.inj h
      rw [hQ]; exact ct_iret hx hb hr hlocks hP hS rfl dX7_partOf_72
    · have h := oif h c14
      refine lv_iconst (v := 0) hx hb dX7_partOf_66 (by decide) ?_
      refine lv_goto (tgt := 72) hx hb dX7_partOf_67 (by decide) ?_
      obtain rfl := Option.some.inj h
      rw [hQ]; exact ct_iret hx hb hr hlocks hP hS rfl dX7_partOf_72
  have h := oif h c15
  refine lv_lookup (off := 152) (tgt := 153) hx hb dX7_partOf_1 (by decide) (by simp [Op.lookupswitch.offset, ne_int 70 c3 (by decide), ne_int 77 c6 (by decide), ne_int 78 c9 (by decide), ne_int 79 c12 (by decide), ne_int 87 c15 (by decide)]) (by decide) ?_
  refine lv_bipush (v := (-9)) hx hb dX7_partOf_153 (by decide) ?_
  obtain rfl := Option.some.inj h
  rw [hQ]; exact ct_iret hx hb hr hlocks hP hS rfl dX7_partOf_155

def tw_X7_readPart_215 (m_text : Nat → Int32) (m_length : Int32) (p1 : Int32) (x3 : Int32) (m_readTold : Nat → Int32) (m_readCell : Nat → Int32) (m_readKind : Nat → Int32) (m_at : Int32) (m_faultAt : Int32) : Option ((Nat → Int32) × (Nat → Int32) × (Nat → Int32) × Int32 × Int32) :=
  if ix p1 5 = true then (if ix p1 5 = true then (some (upd m_readTold p1.toNatClampNeg ((m_readTold p1.toNatClampNeg) ||| (1 <<< (x3 &&& 31))), m_readCell, m_readKind, m_at + 2, m_faultAt)) else none) else none
def tw_X7_readPart_151 (m_text : Nat → Int32) (m_length : Int32) (p1 : Int32) (x3 : Int32) (z0 : Int32) (m_readTold : Nat → Int32) (m_readCell : Nat → Int32) (m_readKind : Nat → Int32) (m_at : Int32) (m_faultAt : Int32) : Option ((Nat → Int32) × (Nat → Int32) × (Nat → Int32) × Int32 × Int32) :=
  (tw_X7_in z0.toInt64 0 3).bind (fun q3 => if q3 = 0 then (some (m_readTold, m_readCell, m_readKind, m_at, m_at + 2)) else ((tw_X7_ones (m_readTold (4 : Int32).toNatClampNeg)).bind (fun q5 => if ix q5 4 = true then (if ix q5 4 = true then (tw_X7_readPart_215 m_text m_length p1 x3 m_readTold (upd m_readCell q5.toNatClampNeg x3) (upd m_readKind q5.toNatClampNeg z0) (m_at + 1) m_faultAt) else none) else none)))
def tw_X7_readPart_103 (m_text : Nat → Int32) (m_length : Int32) (p1 : Int32) (m_readTold : Nat → Int32) (m_readCell : Nat → Int32) (m_readKind : Nat → Int32) (m_at : Int32) (m_faultAt : Int32) : Option ((Nat → Int32) × (Nat → Int32) × (Nat → Int32) × Int32 × Int32) :=
  some (m_readTold, m_readCell, m_readKind, m_at, m_at + 1)
def tw_X7_readPart_82 (m_text : Nat → Int32) (m_length : Int32) (p1 : Int32) (x2 : Int32) (z0 : Int32) (m_readTold : Nat → Int32) (m_readCell : Nat → Int32) (m_readKind : Nat → Int32) (m_at : Int32) (m_faultAt : Int32) : Option ((Nat → Int32) × (Nat → Int32) × (Nat → Int32) × Int32 × Int32) :=
  (tw_X7_in z0.toInt64 0 24).bind (fun q8 => if q8 = 0 then (tw_X7_readPart_103 m_text m_length p1 m_readTold m_readCell m_readKind m_at m_faultAt) else ((tw_X7_has x2 z0).bind (fun q10 => if q10 = 0 then (if p1 = 4 then (if m_length ≤ (m_at + 2) then (tw_X7_readPart_151 m_text m_length p1 z0 (-9) m_readTold m_readCell m_readKind m_at m_faultAt) else (if ix (m_at + 2) 48 = true then (tw_X7_readPart_151 m_text m_length p1 z0 ((m_text (m_at + 2).toNatClampNeg) - 48) m_readTold m_readCell m_readKind m_at m_faultAt) else none)) else (tw_X7_readPart_215 m_text m_length p1 z0 m_readTold m_readCell m_readKind m_at m_faultAt)) else (tw_X7_readPart_103 m_text m_length p1 m_readTold m_readCell m_readKind m_at m_faultAt))))
def tw_X7_readPart (m_readTold : Nat → Int32) (m_readCell : Nat → Int32) (m_readKind : Nat → Int32) (m_text : Nat → Int32) (m_length : Int32) (m_at : Int32) (m_faultAt : Int32) (p1 : Int32) : Option ((Nat → Int32) × (Nat → Int32) × (Nat → Int32) × Int32 × Int32) :=
  if p1 = (-9) then (some (m_readTold, m_readCell, m_readKind, m_at, m_at)) else (nm (((((m_readTold (0 : Int32).toNatClampNeg) ||| (m_readTold (1 : Int32).toNatClampNeg)) ||| (m_readTold (2 : Int32).toNatClampNeg)) ||| (m_readTold (3 : Int32).toNatClampNeg)) ||| (m_readTold (4 : Int32).toNatClampNeg)) (fun v16 => if m_length ≤ (m_at + 1) then (tw_X7_readPart_82 m_text m_length p1 v16 (-9) m_readTold m_readCell m_readKind m_at m_faultAt) else (if ix (m_at + 1) 48 = true then (tw_X7_readPart_82 m_text m_length p1 v16 ((m_text (m_at + 1).toNatClampNeg) - 97) m_readTold m_readCell m_readKind m_at m_faultAt) else none)))
set_option maxHeartbeats 4000000 in
set_option maxRecDepth 100000 in
theorem c_X7_readPart (l : Launch) (D : va_G) (cy : Cy) (mh : Nat) (m_kindr : Nat) (m_toldr : Nat) (m_nowr : Nat) (m_readToldr : Nat) (m_readCellr : Nat) (m_readKindr : Nat) (m_textr : Nat) (m_rowr : Nat) (m_seenCellr : Nat) (m_seenWayr : Nat) (m_seenCamer : Nat) (m_isKeptr : Nat) (m_keptr : Nat) (m_marbles : Int32) (m_kind : Nat → Int32) (m_told : Nat → Int32) (m_now : Nat → Int32) (m_readTold : Nat → Int32) (m_readCell : Nat → Int32) (m_readKind : Nat → Int32) (m_text : Nat → Int32) (m_length : Int32) (m_at : Int32) (m_faultAt : Int32) (m_there : Int32) (m_stopped : Int32) (m_acts : Int32) (m_next : Int32) (m_row : Nat → Int32) (m_bestRow : Int32) (m_seen : Int32) (m_seenCell : Nat → Int32) (m_seenWay : Nat → Int32) (m_seenCame : Nat → Int32) (m_seed : Int64) (m_isKept : Nat → Int32) (m_kept : Nat → Int32) (p1 : Int32) (res : (Nat → Int32) × (Nat → Int32) × (Nat → Int32) × Int32 × Int32) (h : tw_X7_readPart m_readTold m_readCell m_readKind m_text m_length m_at m_faultAt p1 = some res) : Ct l yX7_readPart wsX7_readPart 1 25 D cy [.ref mh, .int p1] (cMd mh m_kindr m_toldr m_nowr m_readToldr m_readCellr m_readKindr m_textr m_rowr m_seenCellr m_seenWayr m_seenCamer m_isKeptr m_keptr cy.1 cy.2.2.1 m_marbles m_kind m_told m_now m_readTold m_readCell m_readKind m_text m_length m_at m_faultAt m_there m_stopped m_acts m_next m_row m_bestRow m_seen m_seenCell m_seenWay m_seenCame m_seed m_isKept m_kept) (cMd mh m_kindr m_toldr m_nowr m_readToldr m_readCellr m_readKindr m_textr m_rowr m_seenCellr m_seenWayr m_seenCamer m_isKeptr m_keptr cy.1 cy.2.2.1 m_marbles m_kind m_told m_now res.1 res.2.1 res.2.2.1 m_text m_length res.2.2.2.1 res.2.2.2.2 m_there m_stopped m_acts m_next m_row m_bestRow m_seen m_seenCell m_seenWay m_seenCame m_seed m_isKept m_kept) (none) := by
  refine Ct.ofW (cc := cX7_readPart) (maxL := 6) (ret := none) (by decide) rfl (Nat.le_of_ble_eq_true rfl) ?_
  intro p e R s m args below meth c A Q ls hRf hRl hQ hx hb hr hml hts hown hlocks hE hP hD hS hA hl
  have hiX7 : ∀ w ∈ u_ws RX7 TX7 24, w ∈ wsX7_readPart := by decide +kernel
  have hl : lv_has ls 6 [(0, .ref mh), (1, .int p1)] := hl
  rw [tw_X7_readPart] at h
  have L215 : ∀ (x3 : Int32) (m_readTold : Nat → Int32) (m_readCell : Nat → Int32) (m_readKind : Nat → Int32) (m_at : Int32) (m_faultAt : Int32)  (H : Heap) (locs : List Loc) (ls : Array Slot), lv_has ls 6 [(0, .ref mh), (1, .int p1), (3, .int x3)] → va_P D vwCl (cMd mh m_kindr m_toldr m_nowr m_readToldr m_readCellr m_readKindr m_textr m_rowr m_seenCellr m_seenWayr m_seenCamer m_isKeptr m_keptr cy.1 cy.2.2.1 m_marbles m_kind m_told m_now m_readTold m_readCell m_readKind m_text m_length m_at m_faultAt m_there m_stopped m_acts m_next m_row m_bestRow m_seen m_seenCell m_seenWay m_seenCame m_seed m_isKept m_kept) H → va_D A (cMd mh m_kindr m_toldr m_nowr m_readToldr m_readCellr m_readKindr m_textr m_rowr m_seenCellr m_seenWayr m_seenCamer m_isKeptr m_keptr cy.1 cy.2.2.1 m_marbles m_kind m_told m_now m_readTold m_readCell m_readKind m_text m_length m_at m_faultAt m_there m_stopped m_acts m_next m_row m_bestRow m_seen m_seenCell m_seenWay m_seenCame m_seed m_isKept m_kept) → va_S A s.heap H locs → tw_X7_readPart_215 m_text m_length p1 x3 m_readTold m_readCell m_readKind m_at m_faultAt = some res → W p l e R s m args below meth c H locs 0 0 Q (F0 m 215 ls []) := by
    intro x3 m_readTold m_readCell m_readKind m_at m_faultAt  H locs ls hl hP hD hS h
    rw [tw_X7_readPart_215] at h
    refine lv_aload_n hx hb dX7_readPart_215 rfl (lv_at hl 0 rfl) ?_
    refine va_get (D := D) (ci := 7) (v := .ref m_readToldr) (C := RX7) (T := TX7) (N := 24) hx hb hts hiX7 hown hE.1 hP 0 rfl rfl 4 (by decide) (hts (.fieldLink RX7 19 "TiltTrayModel" "readTold" "[I") (by decide +kernel)) (fun _ h9 => h9) rfl dX7_readPart_216 ?_
    refine lv_iload_n hx hb dX7_readPart_219 rfl (lv_at hl 1 rfl) ?_
    refine lv_dup2_11 hx hb dX7_readPart_220 rfl rfl ?_
    obtain ⟨g1, h⟩ := og h
    refine va_iald hx hb hE.1 hP 4 0 rfl rfl (ix_in g1) dX7_readPart_221 ?_
    refine lv_iconst (v := 1) hx hb dX7_readPart_222 (by decide) ?_
    refine lv_iload_n hx hb dX7_readPart_223 rfl (lv_at hl 2 rfl) ?_
    refine lv_ishl hx hb dX7_readPart_224 ?_
    refine lv_ior hx hb dX7_readPart_225 ?_
    obtain ⟨g2, h⟩ := og h
    refine va_iast hx hb hE.1 hP hD hS 4 0 rfl rfl (ix_in g2) dX7_readPart_226 (fun H locs hP hD hS => ?_)
    have hP : va_P D vwCl (cMd mh m_kindr m_toldr m_nowr m_readToldr m_readCellr m_readKindr m_textr m_rowr m_seenCellr m_seenWayr m_seenCamer m_isKeptr m_keptr cy.1 cy.2.2.1 m_marbles m_kind m_told m_now (upd m_readTold p1.toNatClampNeg ((m_readTold p1.toNatClampNeg) ||| (1 <<< (x3 &&& 31)))) m_readCell m_readKind m_text m_length m_at m_faultAt m_there m_stopped m_acts m_next m_row m_bestRow m_seen m_seenCell m_seenWay m_seenCame m_seed m_isKept m_kept) H := hP
    have hD : va_D A (cMd mh m_kindr m_toldr m_nowr m_readToldr m_readCellr m_readKindr m_textr m_rowr m_seenCellr m_seenWayr m_seenCamer m_isKeptr m_keptr cy.1 cy.2.2.1 m_marbles m_kind m_told m_now (upd m_readTold p1.toNatClampNeg ((m_readTold p1.toNatClampNeg) ||| (1 <<< (x3 &&& 31)))) m_readCell m_readKind m_text m_length m_at m_faultAt m_there m_stopped m_acts m_next m_row m_bestRow m_seen m_seenCell m_seenWay m_seenCame m_seed m_isKept m_kept) := hD
    refine lv_aload_n hx hb dX7_readPart_227 rfl (lv_at hl 0 rfl) ?_
    refine lv_dup hx hb dX7_readPart_228 rfl ?_
    refine va_get (D := D) (ci := 7) (v := .int m_at) (C := RX7) (T := TX7) (N := 24) hx hb hts hiX7 hown hE.1 hP 0 rfl rfl 9 (by decide) (hts (.fieldLink RX7 67 "TiltTrayModel" "at" "I") (by decide +kernel)) (fun _ h9 => h9) rfl dX7_readPart_229 ?_
    refine lv_iconst (v := 2) hx hb dX7_readPart_232 (by decide) ?_
    refine lv_iadd hx hb dX7_readPart_233 ?_
    refine va_put (D := D) (ci := 7) (v := .int (m_at + 2)) (ty := .int) (C := RX7) (T := TX7) (N := 24) hx hb hts hiX7 tyX7 tyX7_ok nmX7 hown hE.1 hP hD hS 0 rfl rfl 9 (by decide) (hts (.fieldLink RX7 67 "TiltTrayModel" "at" "I") (by decide +kernel)) (fun _ h9 => h9) rfl (by decide +kernel) rfl rfl (Nat.le_of_ble_eq_true rfl) dX7_readPart_234 (fun H locs hP hD hS => ?_)
    have hP : va_P D vwCl (cMd mh m_kindr m_toldr m_nowr m_readToldr m_readCellr m_readKindr m_textr m_rowr m_seenCellr m_seenWayr m_seenCamer m_isKeptr m_keptr cy.1 cy.2.2.1 m_marbles m_kind m_told m_now (upd m_readTold p1.toNatClampNeg ((m_readTold p1.toNatClampNeg) ||| (1 <<< (x3 &&& 31)))) m_readCell m_readKind m_text m_length (m_at + 2) m_faultAt m_there m_stopped m_acts m_next m_row m_bestRow m_seen m_seenCell m_seenWay m_seenCame m_seed m_isKept m_kept) H := hP
    have hD : va_D A (cMd mh m_kindr m_toldr m_nowr m_readToldr m_readCellr m_readKindr m_textr m_rowr m_seenCellr m_seenWayr m_seenCamer m_isKeptr m_keptr cy.1 cy.2.2.1 m_marbles m_kind m_told m_now (upd m_readTold p1.toNatClampNeg ((m_readTold p1.toNatClampNeg) ||| (1 <<< (x3 &&& 31)))) m_readCell m_readKind m_text m_length (m_at + 2) m_faultAt m_there m_stopped m_acts m_next m_row m_bestRow m_seen m_seenCell m_seenWay m_seenCame m_seed m_isKept m_kept) := hD
    obtain rfl := Option.some.inj h
    rw [hQ]; exact ct_vret hx hb hr hlocks hP hS rfl dX7_readPart_237
  have L151 : ∀ (x3 : Int32) (z0 : Int32) (m_readTold : Nat → Int32) (m_readCell : Nat → Int32) (m_readKind : Nat → Int32) (m_at : Int32) (m_faultAt : Int32)  (H : Heap) (locs : List Loc) (ls : Array Slot), lv_has ls 6 [(0, .ref mh), (1, .int p1), (3, .int x3)] → va_P D vwCl (cMd mh m_kindr m_toldr m_nowr m_readToldr m_readCellr m_readKindr m_textr m_rowr m_seenCellr m_seenWayr m_seenCamer m_isKeptr m_keptr cy.1 cy.2.2.1 m_marbles m_kind m_told m_now m_readTold m_readCell m_readKind m_text m_length m_at m_faultAt m_there m_stopped m_acts m_next m_row m_bestRow m_seen m_seenCell m_seenWay m_seenCame m_seed m_isKept m_kept) H → va_D A (cMd mh m_kindr m_toldr m_nowr m_readToldr m_readCellr m_readKindr m_textr m_rowr m_seenCellr m_seenWayr m_seenCamer m_isKeptr m_keptr cy.1 cy.2.2.1 m_marbles m_kind m_told m_now m_readTold m_readCell m_readKind m_text m_length m_at m_faultAt m_there m_stopped m_acts m_next m_row m_bestRow m_seen m_seenCell m_seenWay m_seenCame m_seed m_isKept m_kept) → va_S A s.heap H locs → tw_X7_readPart_151 m_text m_length p1 x3 z0 m_readTold m_readCell m_readKind m_at m_faultAt = some res → W p l e R s m args below meth c H locs 0 0 Q (F0 m 151 ls [.int z0]) := by
    intro x3 z0 m_readTold m_readCell m_readKind m_at m_faultAt  H locs ls hl hP hD hS h
    rw [tw_X7_readPart_151] at h
    refine lv_istore (lv' := [(4, .int z0), (0, .ref mh), (1, .int p1), (3, .int x3)]) hx hb dX7_readPart_151 hl (by decide) rfl (fun ls hl => ?_)
    refine lv_iload hx hb dX7_readPart_153 (lv_at hl 0 rfl) ?_
    refine lv_i2l hx hb dX7_readPart_155 rfl ?_
    refine lv_lconst (v := 0) hx hb dX7_readPart_156 (by decide) ?_
    refine lv_ldc2 (v := 3) hx hb hown (hts (.constantLong RX7 86 (3)) (by decide +kernel)) dX7_readPart_157 ?_
    obtain ⟨q3, hq3, h⟩ := ob h
    refine kS (As := [.long z0.toInt64, .long 0, .long 3]) (rest := []) (w2 := cMd mh m_kindr m_toldr m_nowr m_readToldr m_readCellr m_readKindr m_textr m_rowr m_seenCellr m_seenWayr m_seenCamer m_isKeptr m_keptr cy.1 cy.2.2.1 m_marbles m_kind m_told m_now m_readTold m_readCell m_readKind m_text m_length m_at m_faultAt m_there m_stopped m_acts m_next m_row m_bestRow m_seen m_seenCell m_seenWay m_seenCame m_seed m_isKept m_kept) (n := 3) ⟨hx, hb, hml, hown, hts⟩ (c_X7_in l D cy z0.toInt64 0 3 q3 hq3) gX7_readPart_X7_in rfl (by decide +kernel) ⟨by rw [hRf]; exact Nat.le_of_ble_eq_true rfl, by rw [hRl]; exact Nat.le_of_ble_eq_true rfl⟩ hE hP hD hS hA [] rfl rfl rfl rfl rfl hl.1 rfl (Nat.le_of_ble_eq_true rfl) dX7_readPart_160 ⟨Nat.zero_le _, Nat.zero_le _⟩ (fun H locs hP hD hS => ?_)
    refine lv_if_ne (tgt := 177) hx hb dX7_readPart_163 (by decide) (fun c4 => ?_) (fun c4 => ?_)
    · have h := oif h c4
      refine lv_aload_n hx hb dX7_readPart_177 rfl (lv_at hl 1 rfl) ?_
      refine va_get (D := D) (ci := 7) (v := .ref m_readToldr) (C := RX7) (T := TX7) (N := 24) hx hb hts hiX7 hown hE.1 hP 0 rfl rfl 4 (by decide) (hts (.fieldLink RX7 19 "TiltTrayModel" "readTold" "[I") (by decide +kernel)) (fun _ h9 => h9) rfl dX7_readPart_178 ?_
      refine lv_iconst (v := 4) hx hb dX7_readPart_181 (by decide) ?_
      refine va_iald hx hb hE.1 hP 4 0 rfl rfl (ix_in (by decide)) dX7_readPart_182 ?_
      obtain ⟨q5, hq5, h⟩ := ob h
      refine kS (As := [.int (m_readTold (4 : Int32).toNatClampNeg)]) (rest := []) (w2 := cMd mh m_kindr m_toldr m_nowr m_readToldr m_readCellr m_readKindr m_textr m_rowr m_seenCellr m_seenWayr m_seenCamer m_isKeptr m_keptr cy.1 cy.2.2.1 m_marbles m_kind m_told m_now m_readTold m_readCell m_readKind m_text m_length m_at m_faultAt m_there m_stopped m_acts m_next m_row m_bestRow m_seen m_seenCell m_seenWay m_seenCame m_seed m_isKept m_kept) (n := 1) ⟨hx, hb, hml, hown, hts⟩ (c_X7_ones l D cy (m_readTold (4 : Int32).toNatClampNeg) q5 hq5) gX7_readPart_X7_ones rfl (by decide +kernel) ⟨by rw [hRf]; exact Nat.le_of_ble_eq_true rfl, by rw [hRl]; exact Nat.le_of_ble_eq_true rfl⟩ hE hP hD hS hA [] rfl rfl rfl rfl rfl hl.1 rfl (Nat.le_of_ble_eq_true rfl) dX7_readPart_183 ⟨Nat.zero_le _, Nat.zero_le _⟩ (fun H locs hP hD hS => ?_)
      refine lv_istore (lv' := [(5, .int q5), (4, .int z0), (0, .ref mh), (1, .int p1), (3, .int x3)]) hx hb dX7_readPart_186 hl (by decide) rfl (fun ls hl => ?_)
      refine lv_aload_n hx hb dX7_readPart_188 rfl (lv_at hl 2 rfl) ?_
      refine va_get (D := D) (ci := 7) (v := .ref m_readCellr) (C := RX7) (T := TX7) (N := 24) hx hb hts hiX7 hown hE.1 hP 0 rfl rfl 5 (by decide) (hts (.fieldLink RX7 22 "TiltTrayModel" "readCell" "[I") (by decide +kernel)) (fun _ h9 => h9) rfl dX7_readPart_189 ?_
      refine lv_iload hx hb dX7_readPart_192 (lv_at hl 0 rfl) ?_
      refine lv_iload_n hx hb dX7_readPart_194 rfl (lv_at hl 4 rfl) ?_
      obtain ⟨g6, h⟩ := og h
      refine va_iast hx hb hE.1 hP hD hS 5 0 rfl rfl (ix_in g6) dX7_readPart_195 (fun H locs hP hD hS => ?_)
      have hP : va_P D vwCl (cMd mh m_kindr m_toldr m_nowr m_readToldr m_readCellr m_readKindr m_textr m_rowr m_seenCellr m_seenWayr m_seenCamer m_isKeptr m_keptr cy.1 cy.2.2.1 m_marbles m_kind m_told m_now m_readTold (upd m_readCell q5.toNatClampNeg x3) m_readKind m_text m_length m_at m_faultAt m_there m_stopped m_acts m_next m_row m_bestRow m_seen m_seenCell m_seenWay m_seenCame m_seed m_isKept m_kept) H := hP
      have hD : va_D A (cMd mh m_kindr m_toldr m_nowr m_readToldr m_readCellr m_readKindr m_textr m_rowr m_seenCellr m_seenWayr m_seenCamer m_isKeptr m_keptr cy.1 cy.2.2.1 m_marbles m_kind m_told m_now m_readTold (upd m_readCell q5.toNatClampNeg x3) m_readKind m_text m_length m_at m_faultAt m_there m_stopped m_acts m_next m_row m_bestRow m_seen m_seenCell m_seenWay m_seenCame m_seed m_isKept m_kept) := hD
      refine lv_aload_n hx hb dX7_readPart_196 rfl (lv_at hl 2 rfl) ?_
      refine va_get (D := D) (ci := 7) (v := .ref m_readKindr) (C := RX7) (T := TX7) (N := 24) hx hb hts hiX7 hown hE.1 hP 0 rfl rfl 6 (by decide) (hts (.fieldLink RX7 25 "TiltTrayModel" "readKind" "[I") (by decide +kernel)) (fun _ h9 => h9) rfl dX7_readPart_197 ?_
      refine lv_iload hx hb dX7_readPart_200 (lv_at hl 0 rfl) ?_
      refine lv_iload hx hb dX7_readPart_202 (lv_at hl 1 rfl) ?_
      obtain ⟨g7, h⟩ := og h
      refine va_iast hx hb hE.1 hP hD hS 6 0 rfl rfl (ix_in g7) dX7_readPart_204 (fun H locs hP hD hS => ?_)
      have hP : va_P D vwCl (cMd mh m_kindr m_toldr m_nowr m_readToldr m_readCellr m_readKindr m_textr m_rowr m_seenCellr m_seenWayr m_seenCamer m_isKeptr m_keptr cy.1 cy.2.2.1 m_marbles m_kind m_told m_now m_readTold (upd m_readCell q5.toNatClampNeg x3) (upd m_readKind q5.toNatClampNeg z0) m_text m_length m_at m_faultAt m_there m_stopped m_acts m_next m_row m_bestRow m_seen m_seenCell m_seenWay m_seenCame m_seed m_isKept m_kept) H := hP
      have hD : va_D A (cMd mh m_kindr m_toldr m_nowr m_readToldr m_readCellr m_readKindr m_textr m_rowr m_seenCellr m_seenWayr m_seenCamer m_isKeptr m_keptr cy.1 cy.2.2.1 m_marbles m_kind m_told m_now m_readTold (upd m_readCell q5.toNatClampNeg x3) (upd m_readKind q5.toNatClampNeg z0) m_text m_length m_at m_faultAt m_there m_stopped m_acts m_next m_row m_bestRow m_seen m_seenCell m_seenWay m_seenCame m_seed m_isKept m_kept) := hD
      refine lv_aload_n hx hb dX7_readPart_205 rfl (lv_at hl 2 rfl) ?_
      refine lv_dup hx hb dX7_readPart_206 rfl ?_
      refine va_get (D := D) (ci := 7) (v := .int m_at) (C := RX7) (T := TX7) (N := 24) hx hb hts hiX7 hown hE.1 hP 0 rfl rfl 9 (by decide) (hts (.fieldLink RX7 67 "TiltTrayModel" "at" "I") (by decide +kernel)) (fun _ h9 => h9) rfl dX7_readPart_207 ?_
      refine lv_iconst (v := 1) hx hb dX7_readPart_210 (by decide) ?_
      refine lv_iadd hx hb dX7_readPart_211 ?_
      refine va_put (D := D) (ci := 7) (v := .int (m_at + 1)) (ty := .int) (C := RX7) (T := TX7) (N := 24) hx hb hts hiX7 tyX7 tyX7_ok nmX7 hown hE.1 hP hD hS 0 rfl rfl 9 (by decide) (hts (.fieldLink RX7 67 "TiltTrayModel" "at" "I") (by decide +kernel)) (fun _ h9 => h9) rfl (by decide +kernel) rfl rfl (Nat.le_of_ble_eq_true rfl) dX7_readPart_212 (fun H locs hP hD hS => ?_)
      have hP : va_P D vwCl (cMd mh m_kindr m_toldr m_nowr m_readToldr m_readCellr m_readKindr m_textr m_rowr m_seenCellr m_seenWayr m_seenCamer m_isKeptr m_keptr cy.1 cy.2.2.1 m_marbles m_kind m_told m_now m_readTold (upd m_readCell q5.toNatClampNeg x3) (upd m_readKind q5.toNatClampNeg z0) m_text m_length (m_at + 1) m_faultAt m_there m_stopped m_acts m_next m_row m_bestRow m_seen m_seenCell m_seenWay m_seenCame m_seed m_isKept m_kept) H := hP
      have hD : va_D A (cMd mh m_kindr m_toldr m_nowr m_readToldr m_readCellr m_readKindr m_textr m_rowr m_seenCellr m_seenWayr m_seenCamer m_isKeptr m_keptr cy.1 cy.2.2.1 m_marbles m_kind m_told m_now m_readTold (upd m_readCell q5.toNatClampNeg x3) (upd m_readKind q5.toNatClampNeg z0) m_text m_length (m_at + 1) m_faultAt m_there m_stopped m_acts m_next m_row m_bestRow m_seen m_seenCell m_seenWay m_seenCame m_seed m_isKept m_kept) := hD
      exact L215 x3 m_readTold (upd m_readCell q5.toNatClampNeg x3) (upd m_readKind q5.toNatClampNeg z0) (m_at + 1) m_faultAt _ _ _ (lv_sub hl [2, 3, 4] rfl) hP hD hS h
    · have h := oit h c4
      refine lv_aload_n hx hb dX7_readPart_166 rfl (lv_at hl 1 rfl) ?_
      refine lv_aload_n hx hb dX7_readPart_167 rfl (lv_at hl 1 rfl) ?_
      refine va_get (D := D) (ci := 7) (v := .int m_at) (C := RX7) (T := TX7) (N := 24) hx hb hts hiX7 hown hE.1 hP 0 rfl rfl 9 (by decide) (hts (.fieldLink RX7 67 "TiltTrayModel" "at" "I") (by decide +kernel)) (fun _ h9 => h9) rfl dX7_readPart_168 ?_
      refine lv_iconst (v := 2) hx hb dX7_readPart_171 (by decide) ?_
      refine lv_iadd hx hb dX7_readPart_172 ?_
      refine va_put (D := D) (ci := 7) (v := .int (m_at + 2)) (ty := .int) (C := RX7) (T := TX7) (N := 24) hx hb hts hiX7 tyX7 tyX7_ok nmX7 hown hE.1 hP hD hS 0 rfl rfl 10 (by decide) (hts (.fieldLink RX7 70 "TiltTrayModel" "faultAt" "I") (by decide +kernel)) (fun _ h9 => h9) rfl (by decide +kernel) rfl rfl (Nat.le_of_ble_eq_true rfl) dX7_readPart_173 (fun H locs hP hD hS => ?_)
      have hP : va_P D vwCl (cMd mh m_kindr m_toldr m_nowr m_readToldr m_readCellr m_readKindr m_textr m_rowr m_seenCellr m_seenWayr m_seenCamer m_isKeptr m_keptr cy.1 cy.2.2.1 m_marbles m_kind m_told m_now m_readTold m_readCell m_readKind m_text m_length m_at (m_at + 2) m_there m_stopped m_acts m_next m_row m_bestRow m_seen m_seenCell m_seenWay m_seenCame m_seed m_isKept m_kept) H := hP
      have hD : va_D A (cMd mh m_kindr m_toldr m_nowr m_readToldr m_readCellr m_readKindr m_textr m_rowr m_seenCellr m_seenWayr m_seenCamer m_isKeptr m_keptr cy.1 cy.2.2.1 m_marbles m_kind m_told m_now m_readTold m_readCell m_readKind m_text m_length m_at (m_at + 2) m_there m_stopped m_acts m_next m_row m_bestRow m_seen m_seenCell m_seenWay m_seenCame m_seed m_isKept m_kept) := hD
      obtain rfl := Option.some.inj h
      rw [hQ]; exact ct_vret hx hb hr hlocks hP hS rfl dX7_readPart_176
  have L103 : ∀ (m_readTold : Nat → Int32) (m_readCell : Nat → Int32) (m_readKind : Nat → Int32) (m_at : Int32) (m_faultAt : Int32)  (H : Heap) (locs : List Loc) (ls : Array Slot), lv_has ls 6 [(0, .ref mh)] → va_P D vwCl (cMd mh m_kindr m_toldr m_nowr m_readToldr m_readCellr m_readKindr m_textr m_rowr m_seenCellr m_seenWayr m_seenCamer m_isKeptr m_keptr cy.1 cy.2.2.1 m_marbles m_kind m_told m_now m_readTold m_readCell m_readKind m_text m_length m_at m_faultAt m_there m_stopped m_acts m_next m_row m_bestRow m_seen m_seenCell m_seenWay m_seenCame m_seed m_isKept m_kept) H → va_D A (cMd mh m_kindr m_toldr m_nowr m_readToldr m_readCellr m_readKindr m_textr m_rowr m_seenCellr m_seenWayr m_seenCamer m_isKeptr m_keptr cy.1 cy.2.2.1 m_marbles m_kind m_told m_now m_readTold m_readCell m_readKind m_text m_length m_at m_faultAt m_there m_stopped m_acts m_next m_row m_bestRow m_seen m_seenCell m_seenWay m_seenCame m_seed m_isKept m_kept) → va_S A s.heap H locs → tw_X7_readPart_103 m_text m_length p1 m_readTold m_readCell m_readKind m_at m_faultAt = some res → W p l e R s m args below meth c H locs 0 0 Q (F0 m 103 ls []) := by
    intro m_readTold m_readCell m_readKind m_at m_faultAt  H locs ls hl hP hD hS h
    rw [tw_X7_readPart_103] at h
    refine lv_aload_n hx hb dX7_readPart_103 rfl (lv_at hl 0 rfl) ?_
    refine lv_aload_n hx hb dX7_readPart_104 rfl (lv_at hl 0 rfl) ?_
    refine va_get (D := D) (ci := 7) (v := .int m_at) (C := RX7) (T := TX7) (N := 24) hx hb hts hiX7 hown hE.1 hP 0 rfl rfl 9 (by decide) (hts (.fieldLink RX7 67 "TiltTrayModel" "at" "I") (by decide +kernel)) (fun _ h9 => h9) rfl dX7_readPart_105 ?_
    refine lv_iconst (v := 1) hx hb dX7_readPart_108 (by decide) ?_
    refine lv_iadd hx hb dX7_readPart_109 ?_
    refine va_put (D := D) (ci := 7) (v := .int (m_at + 1)) (ty := .int) (C := RX7) (T := TX7) (N := 24) hx hb hts hiX7 tyX7 tyX7_ok nmX7 hown hE.1 hP hD hS 0 rfl rfl 10 (by decide) (hts (.fieldLink RX7 70 "TiltTrayModel" "faultAt" "I") (by decide +kernel)) (fun _ h9 => h9) rfl (by decide +kernel) rfl rfl (Nat.le_of_ble_eq_true rfl) dX7_readPart_110 (fun H locs hP hD hS => ?_)
    have hP : va_P D vwCl (cMd mh m_kindr m_toldr m_nowr m_readToldr m_readCellr m_readKindr m_textr m_rowr m_seenCellr m_seenWayr m_seenCamer m_isKeptr m_keptr cy.1 cy.2.2.1 m_marbles m_kind m_told m_now m_readTold m_readCell m_readKind m_text m_length m_at (m_at + 1) m_there m_stopped m_acts m_next m_row m_bestRow m_seen m_seenCell m_seenWay m_seenCame m_seed m_isKept m_kept) H := hP
    have hD : va_D A (cMd mh m_kindr m_toldr m_nowr m_readToldr m_readCellr m_readKindr m_textr m_rowr m_seenCellr m_seenWayr m_seenCamer m_isKeptr m_keptr cy.1 cy.2.2.1 m_marbles m_kind m_told m_now m_readTold m_readCell m_readKind m_text m_length m_at (m_at + 1) m_there m_stopped m_acts m_next m_row m_bestRow m_seen m_seenCell m_seenWay m_seenCame m_seed m_isKept m_kept) := hD
    obtain rfl := Option.some.inj h
    rw [hQ]; exact ct_vret hx hb hr hlocks hP hS rfl dX7_readPart_113
  have L82 : ∀ (x2 : Int32) (z0 : Int32) (m_readTold : Nat → Int32) (m_readCell : Nat → Int32) (m_readKind : Nat → Int32) (m_at : Int32) (m_faultAt : Int32)  (H : Heap) (locs : List Loc) (ls : Array Slot), lv_has ls 6 [(0, .ref mh), (1, .int p1), (2, .int x2)] → va_P D vwCl (cMd mh m_kindr m_toldr m_nowr m_readToldr m_readCellr m_readKindr m_textr m_rowr m_seenCellr m_seenWayr m_seenCamer m_isKeptr m_keptr cy.1 cy.2.2.1 m_marbles m_kind m_told m_now m_readTold m_readCell m_readKind m_text m_length m_at m_faultAt m_there m_stopped m_acts m_next m_row m_bestRow m_seen m_seenCell m_seenWay m_seenCame m_seed m_isKept m_kept) H → va_D A (cMd mh m_kindr m_toldr m_nowr m_readToldr m_readCellr m_readKindr m_textr m_rowr m_seenCellr m_seenWayr m_seenCamer m_isKeptr m_keptr cy.1 cy.2.2.1 m_marbles m_kind m_told m_now m_readTold m_readCell m_readKind m_text m_length m_at m_faultAt m_there m_stopped m_acts m_next m_row m_bestRow m_seen m_seenCell m_seenWay m_seenCame m_seed m_isKept m_kept) → va_S A s.heap H locs → tw_X7_readPart_82 m_text m_length p1 x2 z0 m_readTold m_readCell m_readKind m_at m_faultAt = some res → W p l e R s m args below meth c H locs 0 0 Q (F0 m 82 ls [.int z0]) := by
    intro x2 z0 m_readTold m_readCell m_readKind m_at m_faultAt  H locs ls hl hP hD hS h
    rw [tw_X7_readPart_82] at h
    refine lv_istore_n (lv' := [(3, .int z0), (0, .ref mh), (1, .int p1), (2, .int x2)]) hx hb dX7_readPart_82 rfl hl (by decide) rfl (fun ls hl => ?_)
    refine lv_iload_n hx hb dX7_readPart_83 rfl (lv_at hl 0 rfl) ?_
    refine lv_i2l hx hb dX7_readPart_84 rfl ?_
    refine lv_lconst (v := 0) hx hb dX7_readPart_85 (by decide) ?_
    refine lv_ldc2 (v := 24) hx hb hown (hts (.constantLong RX7 80 (24)) (by decide +kernel)) dX7_readPart_86 ?_
    obtain ⟨q8, hq8, h⟩ := ob h
    refine kS (As := [.long z0.toInt64, .long 0, .long 24]) (rest := []) (w2 := cMd mh m_kindr m_toldr m_nowr m_readToldr m_readCellr m_readKindr m_textr m_rowr m_seenCellr m_seenWayr m_seenCamer m_isKeptr m_keptr cy.1 cy.2.2.1 m_marbles m_kind m_told m_now m_readTold m_readCell m_readKind m_text m_length m_at m_faultAt m_there m_stopped m_acts m_next m_row m_bestRow m_seen m_seenCell m_seenWay m_seenCame m_seed m_isKept m_kept) (n := 3) ⟨hx, hb, hml, hown, hts⟩ (c_X7_in l D cy z0.toInt64 0 24 q8 hq8) gX7_readPart_X7_in rfl (by decide +kernel) ⟨by rw [hRf]; exact Nat.le_of_ble_eq_true rfl, by rw [hRl]; exact Nat.le_of_ble_eq_true rfl⟩ hE hP hD hS hA [] rfl rfl rfl rfl rfl hl.1 rfl (Nat.le_of_ble_eq_true rfl) dX7_readPart_89 ⟨Nat.zero_le _, Nat.zero_le _⟩ (fun H locs hP hD hS => ?_)
    refine lv_if_eq (tgt := 103) hx hb dX7_readPart_92 (by decide) (fun c9 => ?_) (fun c9 => ?_)
    · have h := oit h c9
      exact L103 m_readTold m_readCell m_readKind m_at m_faultAt _ _ _ (lv_sub hl [1] rfl) hP hD hS h
    · have h := oif h c9
      refine lv_iload_n hx hb dX7_readPart_95 rfl (lv_at hl 3 rfl) ?_
      refine lv_iload_n hx hb dX7_readPart_96 rfl (lv_at hl 0 rfl) ?_
      obtain ⟨q10, hq10, h⟩ := ob h
      refine kS (As := [.int x2, .int z0]) (rest := []) (w2 := cMd mh m_kindr m_toldr m_nowr m_readToldr m_readCellr m_readKindr m_textr m_rowr m_seenCellr m_seenWayr m_seenCamer m_isKeptr m_keptr cy.1 cy.2.2.1 m_marbles m_kind m_told m_now m_readTold m_readCell m_readKind m_text m_length m_at m_faultAt m_there m_stopped m_acts m_next m_row m_bestRow m_seen m_seenCell m_seenWay m_seenCame m_seed m_isKept m_kept) (n := 2) ⟨hx, hb, hml, hown, hts⟩ (c_X7_has l D cy x2 z0 q10 hq10) gX7_readPart_X7_has rfl (by decide +kernel) ⟨by rw [hRf]; exact Nat.le_of_ble_eq_true rfl, by rw [hRl]; exact Nat.le_of_ble_eq_true rfl⟩ hE hP hD hS hA [] rfl rfl rfl rfl rfl hl.1 rfl (Nat.le_of_ble_eq_true rfl) dX7_readPart_97 ⟨Nat.zero_le _, Nat.zero_le _⟩ (fun H locs hP hD hS => ?_)
      refine lv_if_eq (tgt := 114) hx hb dX7_readPart_100 (by decide) (fun c11 => ?_) (fun c11 => ?_)
      · have h := oit h c11
        refine lv_iload_n hx hb dX7_readPart_114 rfl (lv_at hl 2 rfl) ?_
        refine lv_iconst (v := 4) hx hb dX7_readPart_115 (by decide) ?_
        refine lv_icmp_ne (tgt := 215) hx hb dX7_readPart_116 (by decide) (fun c12 => ?_) (fun c12 => ?_)
        · have h := oif h c12
          exact L215 z0 m_readTold m_readCell m_readKind m_at m_faultAt _ _ _ (lv_sub hl [1, 2, 0] rfl) hP hD hS h
        · have h := oit h c12
          refine lv_aload_n hx hb dX7_readPart_119 rfl (lv_at hl 1 rfl) ?_
          refine va_get (D := D) (ci := 7) (v := .int m_at) (C := RX7) (T := TX7) (N := 24) hx hb hts hiX7 hown hE.1 hP 0 rfl rfl 9 (by decide) (hts (.fieldLink RX7 67 "TiltTrayModel" "at" "I") (by decide +kernel)) (fun _ h9 => h9) rfl dX7_readPart_120 ?_
          refine lv_iconst (v := 2) hx hb dX7_readPart_123 (by decide) ?_
          refine lv_iadd hx hb dX7_readPart_124 ?_
          refine lv_aload_n hx hb dX7_readPart_125 rfl (lv_at hl 1 rfl) ?_
          refine va_get (D := D) (ci := 7) (v := .int m_length) (C := RX7) (T := TX7) (N := 24) hx hb hts hiX7 hown hE.1 hP 0 rfl rfl 8 (by decide) (hts (.fieldLink RX7 60 "TiltTrayModel" "length" "I") (by decide +kernel)) (fun _ h9 => h9) rfl dX7_readPart_126 ?_
          refine lv_icmp_ge (tgt := 149) hx hb dX7_readPart_129 (by decide) (fun c13 => ?_) (fun c13 => ?_)
          · have h := oit h c13
            refine lv_bipush (v := (-9)) hx hb dX7_readPart_149 (by decide) ?_
            exact L151 z0 (-9) m_readTold m_readCell m_readKind m_at m_faultAt _ _ _ (lv_sub hl [1, 2, 0] rfl) hP hD hS h
          · have h := oif h c13
            refine lv_aload_n hx hb dX7_readPart_132 rfl (lv_at hl 1 rfl) ?_
            refine va_get (D := D) (ci := 7) (v := .ref m_textr) (C := RX7) (T := TX7) (N := 24) hx hb hts hiX7 hown hE.1 hP 0 rfl rfl 7 (by decide) (hts (.fieldLink RX7 28 "TiltTrayModel" "text" "[I") (by decide +kernel)) (fun _ h9 => h9) rfl dX7_readPart_133 ?_
            refine lv_aload_n hx hb dX7_readPart_136 rfl (lv_at hl 1 rfl) ?_
            refine va_get (D := D) (ci := 7) (v := .int m_at) (C := RX7) (T := TX7) (N := 24) hx hb hts hiX7 hown hE.1 hP 0 rfl rfl 9 (by decide) (hts (.fieldLink RX7 67 "TiltTrayModel" "at" "I") (by decide +kernel)) (fun _ h9 => h9) rfl dX7_readPart_137 ?_
            refine lv_iconst (v := 2) hx hb dX7_readPart_140 (by decide) ?_
            refine lv_iadd hx hb dX7_readPart_141 ?_
            obtain ⟨g14, h⟩ := og h
            refine va_iald hx hb hE.1 hP 7 0 rfl rfl (ix_in g14) dX7_readPart_142 ?_
            refine lv_bipush (v := 48) hx hb dX7_readPart_143 (by decide) ?_
            refine lv_isub hx hb dX7_readPart_145 ?_
            refine lv_goto (tgt := 151) hx hb dX7_readPart_146 (by decide) ?_
            exact L151 z0 ((m_text (m_at + 2).toNatClampNeg) - 48) m_readTold m_readCell m_readKind m_at m_faultAt _ _ _ (lv_sub hl [1, 2, 0] rfl) hP hD hS h
      · have h := oif h c11
        exact L103 m_readTold m_readCell m_readKind m_at m_faultAt _ _ _ (lv_sub hl [1] rfl) hP hD hS h
  refine lv_iload_n hx hb dX7_readPart_0 rfl (lv_at hl 1 rfl) ?_
  refine lv_bipush (v := (-9)) hx hb dX7_readPart_1 (by decide) ?_
  refine lv_icmp_ne (tgt := 15) hx hb dX7_readPart_3 (by decide) (fun c15 => ?_) (fun c15 => ?_)
  · have h := oif h c15
    refine lv_aload_n hx hb dX7_readPart_15 rfl (lv_at hl 0 rfl) ?_
    refine va_get (D := D) (ci := 7) (v := .ref m_readToldr) (C := RX7) (T := TX7) (N := 24) hx hb hts hiX7 hown hE.1 hP 0 rfl rfl 4 (by decide) (hts (.fieldLink RX7 19 "TiltTrayModel" "readTold" "[I") (by decide +kernel)) (fun _ h9 => h9) rfl dX7_readPart_16 ?_
    refine lv_iconst (v := 0) hx hb dX7_readPart_19 (by decide) ?_
    refine va_iald hx hb hE.1 hP 4 0 rfl rfl (ix_in (by decide)) dX7_readPart_20 ?_
    refine lv_aload_n hx hb dX7_readPart_21 rfl (lv_at hl 0 rfl) ?_
    refine va_get (D := D) (ci := 7) (v := .ref m_readToldr) (C := RX7) (T := TX7) (N := 24) hx hb hts hiX7 hown hE.1 hP 0 rfl rfl 4 (by decide) (hts (.fieldLink RX7 19 "TiltTrayModel" "readTold" "[I") (by decide +kernel)) (fun _ h9 => h9) rfl dX7_readPart_22 ?_
    refine lv_iconst (v := 1) hx hb dX7_readPart_25 (by decide) ?_
    refine va_iald hx hb hE.1 hP 4 0 rfl rfl (ix_in (by decide)) dX7_readPart_26 ?_
    refine lv_ior hx hb dX7_readPart_27 ?_
    refine lv_aload_n hx hb dX7_readPart_28 rfl (lv_at hl 0 rfl) ?_
    refine va_get (D := D) (ci := 7) (v := .ref m_readToldr) (C := RX7) (T := TX7) (N := 24) hx hb hts hiX7 hown hE.1 hP 0 rfl rfl 4 (by decide) (hts (.fieldLink RX7 19 "TiltTrayModel" "readTold" "[I") (by decide +kernel)) (fun _ h9 => h9) rfl dX7_readPart_29 ?_
    refine lv_iconst (v := 2) hx hb dX7_readPart_32 (by decide) ?_
    refine va_iald hx hb hE.1 hP 4 0 rfl rfl (ix_in (by decide)) dX7_readPart_33 ?_
    refine lv_ior hx hb dX7_readPart_34 ?_
    refine lv_aload_n hx hb dX7_readPart_35 rfl (lv_at hl 0 rfl) ?_
    refine va_get (D := D) (ci := 7) (v := .ref m_readToldr) (C := RX7) (T := TX7) (N := 24) hx hb hts hiX7 hown hE.1 hP 0 rfl rfl 4 (by decide) (hts (.fieldLink RX7 19 "TiltTrayModel" "readTold" "[I") (by decide +kernel)) (fun _ h9 => h9) rfl dX7_readPart_36 ?_
    refine lv_iconst (v := 3) hx hb dX7_readPart_39 (by decide) ?_
    refine va_iald hx hb hE.1 hP 4 0 rfl rfl (ix_in (by decide)) dX7_readPart_40 ?_
    refine lv_ior hx hb dX7_readPart_41 ?_
    refine lv_aload_n hx hb dX7_readPart_42 rfl (lv_at hl 0 rfl) ?_
    refine va_get (D := D) (ci := 7) (v := .ref m_readToldr) (C := RX7) (T := TX7) (N := 24) hx hb hts hiX7 hown hE.1 hP 0 rfl rfl 4 (by decide) (hts (.fieldLink RX7 19 "TiltTrayModel" "readTold" "[I") (by decide +kernel)) (fun _ h9 => h9) rfl dX7_readPart_43 ?_
    refine lv_iconst (v := 4) hx hb dX7_readPart_46 (by decide) ?_
    refine va_iald hx hb hE.1 hP 4 0 rfl rfl (ix_in (by decide)) dX7_readPart_47 ?_
    refine lv_ior hx hb dX7_readPart_48 ?_
    refine lv_topi (fun v16 ev16 => ?_)
    have h := nmh ev16 h
    refine lv_istore_n (lv' := [(2, .int v16), (0, .ref mh), (1, .int p1)]) hx hb dX7_readPart_49 rfl hl (by decide) rfl (fun ls hl => ?_)
    refine lv_aload_n hx hb dX7_readPart_50 rfl (lv_at hl 1 rfl) ?_
    refine va_get (D := D) (ci := 7) (v := .int m_at) (C := RX7) (T := TX7) (N := 24) hx hb hts hiX7 hown hE.1 hP 0 rfl rfl 9 (by decide) (hts (.fieldLink RX7 67 "TiltTrayModel" "at" "I") (by decide +kernel)) (fun _ h9 => h9) rfl dX7_readPart_51 ?_
    refine lv_iconst (v := 1) hx hb dX7_readPart_54 (by decide) ?_
    refine lv_iadd hx hb dX7_readPart_55 ?_
    refine lv_aload_n hx hb dX7_readPart_56 rfl (lv_at hl 1 rfl) ?_
    refine va_get (D := D) (ci := 7) (v := .int m_length) (C := RX7) (T := TX7) (N := 24) hx hb hts hiX7 hown hE.1 hP 0 rfl rfl 8 (by decide) (hts (.fieldLink RX7 60 "TiltTrayModel" "length" "I") (by decide +kernel)) (fun _ h9 => h9) rfl dX7_readPart_57 ?_
    refine lv_icmp_ge (tgt := 80) hx hb dX7_readPart_60 (by decide) (fun c17 => ?_) (fun c17 => ?_)
    · have h := oit h c17
      refine lv_bipush (v := (-9)) hx hb dX7_readPart_80 (by decide) ?_
      exact L82 v16 (-9) m_readTold m_readCell m_readKind m_at m_faultAt _ _ _ (lv_sub hl [1, 2, 0] rfl) hP hD hS h
    · have h := oif h c17
      refine lv_aload_n hx hb dX7_readPart_63 rfl (lv_at hl 1 rfl) ?_
      refine va_get (D := D) (ci := 7) (v := .ref m_textr) (C := RX7) (T := TX7) (N := 24) hx hb hts hiX7 hown hE.1 hP 0 rfl rfl 7 (by decide) (hts (.fieldLink RX7 28 "TiltTrayModel" "text" "[I") (by decide +kernel)) (fun _ h9 => h9) rfl dX7_readPart_64 ?_
      refine lv_aload_n hx hb dX7_readPart_67 rfl (lv_at hl 1 rfl) ?_
      refine va_get (D := D) (ci := 7) (v := .int m_at) (C := RX7) (T := TX7) (N := 24) hx hb hts hiX7 hown hE.1 hP 0 rfl rfl 9 (by decide) (hts (.fieldLink RX7 67 "TiltTrayModel" "at" "I") (by decide +kernel)) (fun _ h9 => h9) rfl dX7_readPart_68 ?_
      refine lv_iconst (v := 1) hx hb dX7_readPart_71 (by decide) ?_
      refine lv_iadd hx hb dX7_readPart_72 ?_
      obtain ⟨g18, h⟩ := og h
      refine va_iald hx hb hE.1 hP 7 0 rfl rfl (ix_in g18) dX7_readPart_73 ?_
      refine lv_bipush (v := 97) hx hb dX7_readPart_74 (by decide) ?_
      refine lv_isub hx hb dX7_readPart_76 ?_
      refine lv_goto (tgt := 82) hx hb dX7_readPart_77 (by decide) ?_
      exact L82 v16 ((m_text (m_at + 1).toNatClampNeg) - 97) m_readTold m_readCell m_readKind m_at m_faultAt _ _ _ (lv_sub hl [1, 2, 0] rfl) hP hD hS h
  · have h := oit h c15
    refine lv_aload_n hx hb dX7_readPart_6 rfl (lv_at hl 0 rfl) ?_
    refine lv_aload_n hx hb dX7_readPart_7 rfl (lv_at hl 0 rfl) ?_
    refine va_get (D := D) (ci := 7) (v := .int m_at) (C := RX7) (T := TX7) (N := 24) hx hb hts hiX7 hown hE.1 hP 0 rfl rfl 9 (by decide) (hts (.fieldLink RX7 67 "TiltTrayModel" "at" "I") (by decide +kernel)) (fun _ h9 => h9) rfl dX7_readPart_8 ?_
    refine va_put (D := D) (ci := 7) (v := .int m_at) (ty := .int) (C := RX7) (T := TX7) (N := 24) hx hb hts hiX7 tyX7 tyX7_ok nmX7 hown hE.1 hP hD hS 0 rfl rfl 10 (by decide) (hts (.fieldLink RX7 70 "TiltTrayModel" "faultAt" "I") (by decide +kernel)) (fun _ h9 => h9) rfl (by decide +kernel) rfl rfl (Nat.le_of_ble_eq_true rfl) dX7_readPart_11 (fun H locs hP hD hS => ?_)
    have hP : va_P D vwCl (cMd mh m_kindr m_toldr m_nowr m_readToldr m_readCellr m_readKindr m_textr m_rowr m_seenCellr m_seenWayr m_seenCamer m_isKeptr m_keptr cy.1 cy.2.2.1 m_marbles m_kind m_told m_now m_readTold m_readCell m_readKind m_text m_length m_at m_at m_there m_stopped m_acts m_next m_row m_bestRow m_seen m_seenCell m_seenWay m_seenCame m_seed m_isKept m_kept) H := hP
    have hD : va_D A (cMd mh m_kindr m_toldr m_nowr m_readToldr m_readCellr m_readKindr m_textr m_rowr m_seenCellr m_seenWayr m_seenCamer m_isKeptr m_keptr cy.1 cy.2.2.1 m_marbles m_kind m_told m_now m_readTold m_readCell m_readKind m_text m_length m_at m_at m_there m_stopped m_acts m_next m_row m_bestRow m_seen m_seenCell m_seenWay m_seenCame m_seed m_isKept m_kept) := hD
    obtain rfl := Option.some.inj h
    rw [hQ]; exact ct_vret hx hb hr hlocks hP hS rfl dX7_readPart_14

def tw_X7_readText_56 (m_text : Nat → Int32) (m_length : Int32) : Nat → (Nat → Int32) → (Nat → Int32) → (Nat → Int32) → Int32 → Int32 → Option (Int32 × (Nat → Int32) × (Nat → Int32) × (Nat → Int32) × Int32 × Int32)
  | 0, _, _, _, _, _ => none
  | n + 1, m_readTold, m_readCell, m_readKind, m_at, m_faultAt =>
    if m_faultAt = (-9) then (if m_length ≤ m_at then (some (m_faultAt, m_readTold, m_readCell, m_readKind, m_at, m_faultAt)) else (if ix m_at 48 = true then ((tw_X7_partOf m_readTold (m_text m_at.toNatClampNeg)).bind (fun q4 => (tw_X7_readPart m_readTold m_readCell m_readKind m_text m_length m_at m_faultAt q4).bind (fun q5 => (tw_X7_readText_56 m_text m_length n) q5.1 q5.2.1 q5.2.2.1 q5.2.2.2.1 q5.2.2.2.2))) else none)) else (some (m_faultAt, m_readTold, m_readCell, m_readKind, m_at, m_faultAt))
def tw_X7_readText (m_readTold : Nat → Int32) (m_readCell : Nat → Int32) (m_readKind : Nat → Int32) (m_text : Nat → Int32) (m_length : Int32) (m_at : Int32) (m_faultAt : Int32) : Option (Int32 × (Nat → Int32) × (Nat → Int32) × (Nat → Int32) × Int32 × Int32) :=
  if m_length = 0 then (some (0, upd (upd (upd (upd (upd m_readTold (0 : Int32).toNatClampNeg 0) (1 : Int32).toNatClampNeg 0) (2 : Int32).toNatClampNeg 0) (3 : Int32).toNatClampNeg 0) (4 : Int32).toNatClampNeg 0, m_readCell, m_readKind, 0, (-9))) else (if (m_text (0 : Int32).toNatClampNeg) = 84 then (tw_X7_readText_56 m_text m_length 60 (upd (upd (upd (upd (upd m_readTold (0 : Int32).toNatClampNeg 0) (1 : Int32).toNatClampNeg 0) (2 : Int32).toNatClampNeg 0) (3 : Int32).toNatClampNeg 0) (4 : Int32).toNatClampNeg 0) m_readCell m_readKind 1 (-9)) else (some (0, upd (upd (upd (upd (upd m_readTold (0 : Int32).toNatClampNeg 0) (1 : Int32).toNatClampNeg 0) (2 : Int32).toNatClampNeg 0) (3 : Int32).toNatClampNeg 0) (4 : Int32).toNatClampNeg 0, m_readCell, m_readKind, 0, (-9))))
set_option maxHeartbeats 4000000 in
set_option maxRecDepth 100000 in
theorem c_X7_readText (l : Launch) (D : va_G) (cy : Cy) (mh : Nat) (m_kindr : Nat) (m_toldr : Nat) (m_nowr : Nat) (m_readToldr : Nat) (m_readCellr : Nat) (m_readKindr : Nat) (m_textr : Nat) (m_rowr : Nat) (m_seenCellr : Nat) (m_seenWayr : Nat) (m_seenCamer : Nat) (m_isKeptr : Nat) (m_keptr : Nat) (m_marbles : Int32) (m_kind : Nat → Int32) (m_told : Nat → Int32) (m_now : Nat → Int32) (m_readTold : Nat → Int32) (m_readCell : Nat → Int32) (m_readKind : Nat → Int32) (m_text : Nat → Int32) (m_length : Int32) (m_at : Int32) (m_faultAt : Int32) (m_there : Int32) (m_stopped : Int32) (m_acts : Int32) (m_next : Int32) (m_row : Nat → Int32) (m_bestRow : Int32) (m_seen : Int32) (m_seenCell : Nat → Int32) (m_seenWay : Nat → Int32) (m_seenCame : Nat → Int32) (m_seed : Int64) (m_isKept : Nat → Int32) (m_kept : Nat → Int32) (res : Int32 × (Nat → Int32) × (Nat → Int32) × (Nat → Int32) × Int32 × Int32) (h : tw_X7_readText m_readTold m_readCell m_readKind m_text m_length m_at m_faultAt = some res) : Ct l yX7_readText wsX7_readText 2 50 D cy [.ref mh] (cMd mh m_kindr m_toldr m_nowr m_readToldr m_readCellr m_readKindr m_textr m_rowr m_seenCellr m_seenWayr m_seenCamer m_isKeptr m_keptr cy.1 cy.2.2.1 m_marbles m_kind m_told m_now m_readTold m_readCell m_readKind m_text m_length m_at m_faultAt m_there m_stopped m_acts m_next m_row m_bestRow m_seen m_seenCell m_seenWay m_seenCame m_seed m_isKept m_kept) (cMd mh m_kindr m_toldr m_nowr m_readToldr m_readCellr m_readKindr m_textr m_rowr m_seenCellr m_seenWayr m_seenCamer m_isKeptr m_keptr cy.1 cy.2.2.1 m_marbles m_kind m_told m_now res.2.1 res.2.2.1 res.2.2.2.1 m_text m_length res.2.2.2.2.1 res.2.2.2.2.2 m_there m_stopped m_acts m_next m_row m_bestRow m_seen m_seenCell m_seenWay m_seenCame m_seed m_isKept m_kept) (some (.int res.1)) := by
  refine Ct.ofW (cc := cX7_readText) (maxL := 2) (ret := (some .int)) (by decide) rfl (Nat.le_of_ble_eq_true rfl) ?_
  intro p e R s m args below meth c A Q ls hRf hRl hQ hx hb hr hml hts hown hlocks hE hP hD hS hA hl
  have hiX7 : ∀ w ∈ u_ws RX7 TX7 24, w ∈ wsX7_readText := by decide +kernel
  have hl : lv_has ls 2 [(0, .ref mh)] := hl
  rw [tw_X7_readText] at h
  have L56 : ∀ (n : Nat) (m_readTold : Nat → Int32) (m_readCell : Nat → Int32) (m_readKind : Nat → Int32) (m_at : Int32) (m_faultAt : Int32)  (H : Heap) (locs : List Loc) (ls : Array Slot), lv_has ls 2 [(0, .ref mh)] → va_P D vwCl (cMd mh m_kindr m_toldr m_nowr m_readToldr m_readCellr m_readKindr m_textr m_rowr m_seenCellr m_seenWayr m_seenCamer m_isKeptr m_keptr cy.1 cy.2.2.1 m_marbles m_kind m_told m_now m_readTold m_readCell m_readKind m_text m_length m_at m_faultAt m_there m_stopped m_acts m_next m_row m_bestRow m_seen m_seenCell m_seenWay m_seenCame m_seed m_isKept m_kept) H → va_D A (cMd mh m_kindr m_toldr m_nowr m_readToldr m_readCellr m_readKindr m_textr m_rowr m_seenCellr m_seenWayr m_seenCamer m_isKeptr m_keptr cy.1 cy.2.2.1 m_marbles m_kind m_told m_now m_readTold m_readCell m_readKind m_text m_length m_at m_faultAt m_there m_stopped m_acts m_next m_row m_bestRow m_seen m_seenCell m_seenWay m_seenCame m_seed m_isKept m_kept) → va_S A s.heap H locs → tw_X7_readText_56 m_text m_length n m_readTold m_readCell m_readKind m_at m_faultAt = some res → W p l e R s m args below meth c H locs 0 0 Q (F0 m 56 ls []) := by
    intro n56
    induction n56 with
    | zero =>
      intro m_readTold m_readCell m_readKind m_at m_faultAt  H locs ls hl hP hD hS h
      exact absurd h (by rw [tw_X7_readText_56]; exact fun q => by cases q)
    | succ n56 ih56 =>
      intro m_readTold m_readCell m_readKind m_at m_faultAt  H locs ls hl hP hD hS h
      rw [tw_X7_readText_56] at h
      refine lv_aload_n hx hb dX7_readText_56 rfl (lv_at hl 0 rfl) ?_
      refine va_get (D := D) (ci := 7) (v := .int m_faultAt) (C := RX7) (T := TX7) (N := 24) hx hb hts hiX7 hown hE.1 hP 0 rfl rfl 10 (by decide) (hts (.fieldLink RX7 70 "TiltTrayModel" "faultAt" "I") (by decide +kernel)) (fun _ h9 => h9) rfl dX7_readText_57 ?_
      refine lv_bipush (v := (-9)) hx hb dX7_readText_60 (by decide) ?_
      refine lv_icmp_ne (tgt := 96) hx hb dX7_readText_62 (by decide) (fun c1 => ?_) (fun c1 => ?_)
      · have h := oif h c1
        refine lv_aload_n hx hb dX7_readText_96 rfl (lv_at hl 0 rfl) ?_
        refine va_get (D := D) (ci := 7) (v := .int m_faultAt) (C := RX7) (T := TX7) (N := 24) hx hb hts hiX7 hown hE.1 hP 0 rfl rfl 10 (by decide) (hts (.fieldLink RX7 70 "TiltTrayModel" "faultAt" "I") (by decide +kernel)) (fun _ h9 => h9) rfl dX7_readText_97 ?_
        obtain rfl := Option.some.inj h
        rw [hQ]; exact ct_iret hx hb hr hlocks hP hS rfl dX7_readText_100
      · have h := oit h c1
        refine lv_aload_n hx hb dX7_readText_65 rfl (lv_at hl 0 rfl) ?_
        refine va_get (D := D) (ci := 7) (v := .int m_at) (C := RX7) (T := TX7) (N := 24) hx hb hts hiX7 hown hE.1 hP 0 rfl rfl 9 (by decide) (hts (.fieldLink RX7 67 "TiltTrayModel" "at" "I") (by decide +kernel)) (fun _ h9 => h9) rfl dX7_readText_66 ?_
        refine lv_aload_n hx hb dX7_readText_69 rfl (lv_at hl 0 rfl) ?_
        refine va_get (D := D) (ci := 7) (v := .int m_length) (C := RX7) (T := TX7) (N := 24) hx hb hts hiX7 hown hE.1 hP 0 rfl rfl 8 (by decide) (hts (.fieldLink RX7 60 "TiltTrayModel" "length" "I") (by decide +kernel)) (fun _ h9 => h9) rfl dX7_readText_70 ?_
        refine lv_icmp_ge (tgt := 96) hx hb dX7_readText_73 (by decide) (fun c2 => ?_) (fun c2 => ?_)
        · have h := oit h c2
          refine lv_aload_n hx hb dX7_readText_96 rfl (lv_at hl 0 rfl) ?_
          refine va_get (D := D) (ci := 7) (v := .int m_faultAt) (C := RX7) (T := TX7) (N := 24) hx hb hts hiX7 hown hE.1 hP 0 rfl rfl 10 (by decide) (hts (.fieldLink RX7 70 "TiltTrayModel" "faultAt" "I") (by decide +kernel)) (fun _ h9 => h9) rfl dX7_readText_97 ?_
          obtain rfl := Option.some.inj h
          rw [hQ]; exact ct_iret hx hb hr hlocks hP hS rfl dX7_readText_100
        · have h := oif h c2
          refine lv_aload_n hx hb dX7_readText_76 rfl (lv_at hl 0 rfl) ?_
          refine lv_aload_n hx hb dX7_readText_77 rfl (lv_at hl 0 rfl) ?_
          refine lv_aload_n hx hb dX7_readText_78 rfl (lv_at hl 0 rfl) ?_
          refine va_get (D := D) (ci := 7) (v := .ref m_textr) (C := RX7) (T := TX7) (N := 24) hx hb hts hiX7 hown hE.1 hP 0 rfl rfl 7 (by decide) (hts (.fieldLink RX7 28 "TiltTrayModel" "text" "[I") (by decide +kernel)) (fun _ h9 => h9) rfl dX7_readText_79 ?_
          refine lv_aload_n hx hb dX7_readText_82 rfl (lv_at hl 0 rfl) ?_
          refine va_get (D := D) (ci := 7) (v := .int m_at) (C := RX7) (T := TX7) (N := 24) hx hb hts hiX7 hown hE.1 hP 0 rfl rfl 9 (by decide) (hts (.fieldLink RX7 67 "TiltTrayModel" "at" "I") (by decide +kernel)) (fun _ h9 => h9) rfl dX7_readText_83 ?_
          obtain ⟨g3, h⟩ := og h
          refine va_iald hx hb hE.1 hP 7 0 rfl rfl (ix_in g3) dX7_readText_86 ?_
          obtain ⟨q4, hq4, h⟩ := ob h
          refine kV (As := [.int (m_text m_at.toNatClampNeg)]) (rest := [.ref mh]) (w2 := cMd mh m_kindr m_toldr m_nowr m_readToldr m_readCellr m_readKindr m_textr m_rowr m_seenCellr m_seenWayr m_seenCamer m_isKeptr m_keptr cy.1 cy.2.2.1 m_marbles m_kind m_told m_now m_readTold m_readCell m_readKind m_text m_length m_at m_faultAt m_there m_stopped m_acts m_next m_row m_bestRow m_seen m_seenCell m_seenWay m_seenCame m_seed m_isKept m_kept) (n := 1) (q0 := 0) ⟨hx, hb, hml, hown, hts⟩ (c_X7_partOf l D cy mh m_kindr m_toldr m_nowr m_readToldr m_readCellr m_readKindr m_textr m_rowr m_seenCellr m_seenWayr m_seenCamer m_isKeptr m_keptr m_marbles m_kind m_told m_now m_readTold m_readCell m_readKind m_text m_length m_at m_faultAt m_there m_stopped m_acts m_next m_row m_bestRow m_seen m_seenCell m_seenWay m_seenCame m_seed m_isKept m_kept (m_text m_at.toNatClampNeg) q4 hq4) gX7_readText_X7_partOf rfl (by decide +kernel) ⟨by rw [hRf]; exact Nat.le_of_ble_eq_true rfl, by rw [hRl]; exact Nat.le_of_ble_eq_true rfl⟩ hE hP hD hS hA [0, 1, 2, 3, 4, 5, 6, 7, 8, 9, 10, 11, 12, 13] rfl rfl rfl rfl rfl rfl rfl hl.1 rfl (Nat.le_of_ble_eq_true rfl) dX7_readText_87 ⟨Nat.zero_le _, Nat.zero_le _⟩ (fun H locs hP hD hS => ?_)
          obtain ⟨q5, hq5, h⟩ := ob h
          refine kV (As := [.int q4]) (rest := []) (w2 := cMd mh m_kindr m_toldr m_nowr m_readToldr m_readCellr m_readKindr m_textr m_rowr m_seenCellr m_seenWayr m_seenCamer m_isKeptr m_keptr cy.1 cy.2.2.1 m_marbles m_kind m_told m_now q5.1 q5.2.1 q5.2.2.1 m_text m_length q5.2.2.2.1 q5.2.2.2.2 m_there m_stopped m_acts m_next m_row m_bestRow m_seen m_seenCell m_seenWay m_seenCame m_seed m_isKept m_kept) (n := 1) (q0 := 0) ⟨hx, hb, hml, hown, hts⟩ (c_X7_readPart l D cy mh m_kindr m_toldr m_nowr m_readToldr m_readCellr m_readKindr m_textr m_rowr m_seenCellr m_seenWayr m_seenCamer m_isKeptr m_keptr m_marbles m_kind m_told m_now m_readTold m_readCell m_readKind m_text m_length m_at m_faultAt m_there m_stopped m_acts m_next m_row m_bestRow m_seen m_seenCell m_seenWay m_seenCame m_seed m_isKept m_kept q4 q5 hq5) gX7_readText_X7_readPart rfl (by decide +kernel) ⟨by rw [hRf]; exact Nat.le_of_ble_eq_true rfl, by rw [hRl]; exact Nat.le_of_ble_eq_true rfl⟩ hE hP hD hS hA [0, 1, 2, 3, 4, 5, 6, 7, 8, 9, 10, 11, 12, 13] rfl rfl rfl rfl rfl rfl rfl hl.1 rfl (Nat.le_of_ble_eq_true rfl) dX7_readText_90 ⟨Nat.zero_le _, Nat.zero_le _⟩ (fun H locs hP hD hS => ?_)
          refine lv_goto (tgt := 56) hx hb dX7_readText_93 (by decide) ?_
          exact ih56 q5.1 q5.2.1 q5.2.2.1 q5.2.2.2.1 q5.2.2.2.2 _ _ _ (lv_sub hl [0] rfl) hP hD hS h
  refine lv_aload_n hx hb dX7_readText_0 rfl (lv_at hl 0 rfl) ?_
  refine lv_iconst (v := 0) hx hb dX7_readText_1 (by decide) ?_
  refine va_put (D := D) (ci := 7) (v := .int 0) (ty := .int) (C := RX7) (T := TX7) (N := 24) hx hb hts hiX7 tyX7 tyX7_ok nmX7 hown hE.1 hP hD hS 0 rfl rfl 9 (by decide) (hts (.fieldLink RX7 67 "TiltTrayModel" "at" "I") (by decide +kernel)) (fun _ h9 => h9) rfl (by decide +kernel) rfl rfl (Nat.le_of_ble_eq_true rfl) dX7_readText_2 (fun H locs hP hD hS => ?_)
  have hP : va_P D vwCl (cMd mh m_kindr m_toldr m_nowr m_readToldr m_readCellr m_readKindr m_textr m_rowr m_seenCellr m_seenWayr m_seenCamer m_isKeptr m_keptr cy.1 cy.2.2.1 m_marbles m_kind m_told m_now m_readTold m_readCell m_readKind m_text m_length 0 m_faultAt m_there m_stopped m_acts m_next m_row m_bestRow m_seen m_seenCell m_seenWay m_seenCame m_seed m_isKept m_kept) H := hP
  have hD : va_D A (cMd mh m_kindr m_toldr m_nowr m_readToldr m_readCellr m_readKindr m_textr m_rowr m_seenCellr m_seenWayr m_seenCamer m_isKeptr m_keptr cy.1 cy.2.2.1 m_marbles m_kind m_told m_now m_readTold m_readCell m_readKind m_text m_length 0 m_faultAt m_there m_stopped m_acts m_next m_row m_bestRow m_seen m_seenCell m_seenWay m_seenCame m_seed m_isKept m_kept) := hD
  refine lv_aload_n hx hb dX7_readText_5 rfl (lv_at hl 0 rfl) ?_
  refine lv_bipush (v := (-9)) hx hb dX7_readText_6 (by decide) ?_
  refine va_put (D := D) (ci := 7) (v := .int (-9)) (ty := .int) (C := RX7) (T := TX7) (N := 24) hx hb hts hiX7 tyX7 tyX7_ok nmX7 hown hE.1 hP hD hS 0 rfl rfl 10 (by decide) (hts (.fieldLink RX7 70 "TiltTrayModel" "faultAt" "I") (by decide +kernel)) (fun _ h9 => h9) rfl (by decide +kernel) rfl rfl (Nat.le_of_ble_eq_true rfl) dX7_readText_8 (fun H locs hP hD hS => ?_)
  have hP : va_P D vwCl (cMd mh m_kindr m_toldr m_nowr m_readToldr m_readCellr m_readKindr m_textr m_rowr m_seenCellr m_seenWayr m_seenCamer m_isKeptr m_keptr cy.1 cy.2.2.1 m_marbles m_kind m_told m_now m_readTold m_readCell m_readKind m_text m_length 0 (-9) m_there m_stopped m_acts m_next m_row m_bestRow m_seen m_seenCell m_seenWay m_seenCame m_seed m_isKept m_kept) H := hP
  have hD : va_D A (cMd mh m_kindr m_toldr m_nowr m_readToldr m_readCellr m_readKindr m_textr m_rowr m_seenCellr m_seenWayr m_seenCamer m_isKeptr m_keptr cy.1 cy.2.2.1 m_marbles m_kind m_told m_now m_readTold m_readCell m_readKind m_text m_length 0 (-9) m_there m_stopped m_acts m_next m_row m_bestRow m_seen m_seenCell m_seenWay m_seenCame m_seed m_isKept m_kept) := hD
  refine lv_iconst (v := 0) hx hb dX7_readText_11 (by decide) ?_
  refine lv_istore_n (lv' := [(1, .int 0), (0, .ref mh)]) hx hb dX7_readText_12 rfl hl (by decide) rfl (fun ls hl => ?_)
  refine lv_iload_n hx hb dX7_readText_13 rfl (lv_at hl 0 rfl) ?_
  refine lv_iconst (v := 5) hx hb dX7_readText_14 (by decide) ?_
  refine lv_icmp_ge (tgt := 31) hx hb dX7_readText_15 (by decide) (fun c6 => absurd c6 (by decide)) (fun _ => ?_)
  refine lv_aload_n hx hb dX7_readText_18 rfl (lv_at hl 1 rfl) ?_
  refine va_get (D := D) (ci := 7) (v := .ref m_readToldr) (C := RX7) (T := TX7) (N := 24) hx hb hts hiX7 hown hE.1 hP 0 rfl rfl 4 (by decide) (hts (.fieldLink RX7 19 "TiltTrayModel" "readTold" "[I") (by decide +kernel)) (fun _ h9 => h9) rfl dX7_readText_19 ?_
  refine lv_iload_n hx hb dX7_readText_22 rfl (lv_at hl 0 rfl) ?_
  refine lv_iconst (v := 0) hx hb dX7_readText_23 (by decide) ?_
  refine va_iast hx hb hE.1 hP hD hS 4 0 rfl rfl (ix_in (by decide)) dX7_readText_24 (fun H locs hP hD hS => ?_)
  have hP : va_P D vwCl (cMd mh m_kindr m_toldr m_nowr m_readToldr m_readCellr m_readKindr m_textr m_rowr m_seenCellr m_seenWayr m_seenCamer m_isKeptr m_keptr cy.1 cy.2.2.1 m_marbles m_kind m_told m_now (upd m_readTold (0 : Int32).toNatClampNeg 0) m_readCell m_readKind m_text m_length 0 (-9) m_there m_stopped m_acts m_next m_row m_bestRow m_seen m_seenCell m_seenWay m_seenCame m_seed m_isKept m_kept) H := hP
  have hD : va_D A (cMd mh m_kindr m_toldr m_nowr m_readToldr m_readCellr m_readKindr m_textr m_rowr m_seenCellr m_seenWayr m_seenCamer m_isKeptr m_keptr cy.1 cy.2.2.1 m_marbles m_kind m_told m_now (upd m_readTold (0 : Int32).toNatClampNeg 0) m_readCell m_readKind m_text m_length 0 (-9) m_there m_stopped m_acts m_next m_row m_bestRow m_seen m_seenCell m_seenWay m_seenCame m_seed m_isKept m_kept) := hD
  refine lv_iinc (v := 1) (lv' := [(1, .int 1), (0, .ref mh)]) hx hb dX7_readText_25 hl (k := 0) rfl (by decide) (by decide) rfl (fun ls hl => ?_)
  refine lv_goto (tgt := 13) hx hb dX7_readText_28 (by decide) ?_
  refine lv_iload_n hx hb dX7_readText_13 rfl (lv_at hl 0 rfl) ?_
  refine lv_iconst (v := 5) hx hb dX7_readText_14 (by decide) ?_
  refine lv_icmp_ge (tgt := 31) hx hb dX7_readText_15 (by decide) (fun c7 => absurd c7 (by decide)) (fun _ => ?_)
  refine lv_aload_n hx hb dX7_readText_18 rfl (lv_at hl 1 rfl) ?_
  refine va_get (D := D) (ci := 7) (v := .ref m_readToldr) (C := RX7) (T := TX7) (N := 24) hx hb hts hiX7 hown hE.1 hP 0 rfl rfl 4 (by decide) (hts (.fieldLink RX7 19 "TiltTrayModel" "readTold" "[I") (by decide +kernel)) (fun _ h9 => h9) rfl dX7_readText_19 ?_
  refine lv_iload_n hx hb dX7_readText_22 rfl (lv_at hl 0 rfl) ?_
  refine lv_iconst (v := 0) hx hb dX7_readText_23 (by decide) ?_
  refine va_iast hx hb hE.1 hP hD hS 4 0 rfl rfl (ix_in (by decide)) dX7_readText_24 (fun H locs hP hD hS => ?_)
  have hP : va_P D vwCl (cMd mh m_kindr m_toldr m_nowr m_readToldr m_readCellr m_readKindr m_textr m_rowr m_seenCellr m_seenWayr m_seenCamer m_isKeptr m_keptr cy.1 cy.2.2.1 m_marbles m_kind m_told m_now (upd (upd m_readTold (0 : Int32).toNatClampNeg 0) (1 : Int32).toNatClampNeg 0) m_readCell m_readKind m_text m_length 0 (-9) m_there m_stopped m_acts m_next m_row m_bestRow m_seen m_seenCell m_seenWay m_seenCame m_seed m_isKept m_kept) H := hP
  have hD : va_D A (cMd mh m_kindr m_toldr m_nowr m_readToldr m_readCellr m_readKindr m_textr m_rowr m_seenCellr m_seenWayr m_seenCamer m_isKeptr m_keptr cy.1 cy.2.2.1 m_marbles m_kind m_told m_now (upd (upd m_readTold (0 : Int32).toNatClampNeg 0) (1 : Int32).toNatClampNeg 0) m_readCell m_readKind m_text m_length 0 (-9) m_there m_stopped m_acts m_next m_row m_bestRow m_seen m_seenCell m_seenWay m_seenCame m_seed m_isKept m_kept) := hD
  refine lv_iinc (v := 2) (lv' := [(1, .int 2), (0, .ref mh)]) hx hb dX7_readText_25 hl (k := 0) rfl (by decide) (by decide) rfl (fun ls hl => ?_)
  refine lv_goto (tgt := 13) hx hb dX7_readText_28 (by decide) ?_
  refine lv_iload_n hx hb dX7_readText_13 rfl (lv_at hl 0 rfl) ?_
  refine lv_iconst (v := 5) hx hb dX7_readText_14 (by decide) ?_
  refine lv_icmp_ge (tgt := 31) hx hb dX7_readText_15 (by decide) (fun c8 => absurd c8 (by decide)) (fun _ => ?_)
  refine lv_aload_n hx hb dX7_readText_18 rfl (lv_at hl 1 rfl) ?_
  refine va_get (D := D) (ci := 7) (v := .ref m_readToldr) (C := RX7) (T := TX7) (N := 24) hx hb hts hiX7 hown hE.1 hP 0 rfl rfl 4 (by decide) (hts (.fieldLink RX7 19 "TiltTrayModel" "readTold" "[I") (by decide +kernel)) (fun _ h9 => h9) rfl dX7_readText_19 ?_
  refine lv_iload_n hx hb dX7_readText_22 rfl (lv_at hl 0 rfl) ?_
  refine lv_iconst (v := 0) hx hb dX7_readText_23 (by decide) ?_
  refine va_iast hx hb hE.1 hP hD hS 4 0 rfl rfl (ix_in (by decide)) dX7_readText_24 (fun H locs hP hD hS => ?_)
  have hP : va_P D vwCl (cMd mh m_kindr m_toldr m_nowr m_readToldr m_readCellr m_readKindr m_textr m_rowr m_seenCellr m_seenWayr m_seenCamer m_isKeptr m_keptr cy.1 cy.2.2.1 m_marbles m_kind m_told m_now (upd (upd (upd m_readTold (0 : Int32).toNatClampNeg 0) (1 : Int32).toNatClampNeg 0) (2 : Int32).toNatClampNeg 0) m_readCell m_readKind m_text m_length 0 (-9) m_there m_stopped m_acts m_next m_row m_bestRow m_seen m_seenCell m_seenWay m_seenCame m_seed m_isKept m_kept) H := hP
  have hD : va_D A (cMd mh m_kindr m_toldr m_nowr m_readToldr m_readCellr m_readKindr m_textr m_rowr m_seenCellr m_seenWayr m_seenCamer m_isKeptr m_keptr cy.1 cy.2.2.1 m_marbles m_kind m_told m_now (upd (upd (upd m_readTold (0 : Int32).toNatClampNeg 0) (1 : Int32).toNatClampNeg 0) (2 : Int32).toNatClampNeg 0) m_readCell m_readKind m_text m_length 0 (-9) m_there m_stopped m_acts m_next m_row m_bestRow m_seen m_seenCell m_seenWay m_seenCame m_seed m_isKept m_kept) := hD
  refine lv_iinc (v := 3) (lv' := [(1, .int 3), (0, .ref mh)]) hx hb dX7_readText_25 hl (k := 0) rfl (by decide) (by decide) rfl (fun ls hl => ?_)
  refine lv_goto (tgt := 13) hx hb dX7_readText_28 (by decide) ?_
  refine lv_iload_n hx hb dX7_readText_13 rfl (lv_at hl 0 rfl) ?_
  refine lv_iconst (v := 5) hx hb dX7_readText_14 (by decide) ?_
  refine lv_icmp_ge (tgt := 31) hx hb dX7_readText_15 (by decide) (fun c9 => absurd c9 (by decide)) (fun _ => ?_)
  refine lv_aload_n hx hb dX7_readText_18 rfl (lv_at hl 1 rfl) ?_
  refine va_get (D := D) (ci := 7) (v := .ref m_readToldr) (C := RX7) (T := TX7) (N := 24) hx hb hts hiX7 hown hE.1 hP 0 rfl rfl 4 (by decide) (hts (.fieldLink RX7 19 "TiltTrayModel" "readTold" "[I") (by decide +kernel)) (fun _ h9 => h9) rfl dX7_readText_19 ?_
  refine lv_iload_n hx hb dX7_readText_22 rfl (lv_at hl 0 rfl) ?_
  refine lv_iconst (v := 0) hx hb dX7_readText_23 (by decide) ?_
  refine va_iast hx hb hE.1 hP hD hS 4 0 rfl rfl (ix_in (by decide)) dX7_readText_24 (fun H locs hP hD hS => ?_)
  have hP : va_P D vwCl (cMd mh m_kindr m_toldr m_nowr m_readToldr m_readCellr m_readKindr m_textr m_rowr m_seenCellr m_seenWayr m_seenCamer m_isKeptr m_keptr cy.1 cy.2.2.1 m_marbles m_kind m_told m_now (upd (upd (upd (upd m_readTold (0 : Int32).toNatClampNeg 0) (1 : Int32).toNatClampNeg 0) (2 : Int32).toNatClampNeg 0) (3 : Int32).toNatClampNeg 0) m_readCell m_readKind m_text m_length 0 (-9) m_there m_stopped m_acts m_next m_row m_bestRow m_seen m_seenCell m_seenWay m_seenCame m_seed m_isKept m_kept) H := hP
  have hD : va_D A (cMd mh m_kindr m_toldr m_nowr m_readToldr m_readCellr m_readKindr m_textr m_rowr m_seenCellr m_seenWayr m_seenCamer m_isKeptr m_keptr cy.1 cy.2.2.1 m_marbles m_kind m_told m_now (upd (upd (upd (upd m_readTold (0 : Int32).toNatClampNeg 0) (1 : Int32).toNatClampNeg 0) (2 : Int32).toNatClampNeg 0) (3 : Int32).toNatClampNeg 0) m_readCell m_readKind m_text m_length 0 (-9) m_there m_stopped m_acts m_next m_row m_bestRow m_seen m_seenCell m_seenWay m_seenCame m_seed m_isKept m_kept) := hD
  refine lv_iinc (v := 4) (lv' := [(1, .int 4), (0, .ref mh)]) hx hb dX7_readText_25 hl (k := 0) rfl (by decide) (by decide) rfl (fun ls hl => ?_)
  refine lv_goto (tgt := 13) hx hb dX7_readText_28 (by decide) ?_
  refine lv_iload_n hx hb dX7_readText_13 rfl (lv_at hl 0 rfl) ?_
  refine lv_iconst (v := 5) hx hb dX7_readText_14 (by decide) ?_
  refine lv_icmp_ge (tgt := 31) hx hb dX7_readText_15 (by decide) (fun c10 => absurd c10 (by decide)) (fun _ => ?_)
  refine lv_aload_n hx hb dX7_readText_18 rfl (lv_at hl 1 rfl) ?_
  refine va_get (D := D) (ci := 7) (v := .ref m_readToldr) (C := RX7) (T := TX7) (N := 24) hx hb hts hiX7 hown hE.1 hP 0 rfl rfl 4 (by decide) (hts (.fieldLink RX7 19 "TiltTrayModel" "readTold" "[I") (by decide +kernel)) (fun _ h9 => h9) rfl dX7_readText_19 ?_
  refine lv_iload_n hx hb dX7_readText_22 rfl (lv_at hl 0 rfl) ?_
  refine lv_iconst (v := 0) hx hb dX7_readText_23 (by decide) ?_
  refine va_iast hx hb hE.1 hP hD hS 4 0 rfl rfl (ix_in (by decide)) dX7_readText_24 (fun H locs hP hD hS => ?_)
  have hP : va_P D vwCl (cMd mh m_kindr m_toldr m_nowr m_readToldr m_readCellr m_readKindr m_textr m_rowr m_seenCellr m_seenWayr m_seenCamer m_isKeptr m_keptr cy.1 cy.2.2.1 m_marbles m_kind m_told m_now (upd (upd (upd (upd (upd m_readTold (0 : Int32).toNatClampNeg 0) (1 : Int32).toNatClampNeg 0) (2 : Int32).toNatClampNeg 0) (3 : Int32).toNatClampNeg 0) (4 : Int32).toNatClampNeg 0) m_readCell m_readKind m_text m_length 0 (-9) m_there m_stopped m_acts m_next m_row m_bestRow m_seen m_seenCell m_seenWay m_seenCame m_seed m_isKept m_kept) H := hP
  have hD : va_D A (cMd mh m_kindr m_toldr m_nowr m_readToldr m_readCellr m_readKindr m_textr m_rowr m_seenCellr m_seenWayr m_seenCamer m_isKeptr m_keptr cy.1 cy.2.2.1 m_marbles m_kind m_told m_now (upd (upd (upd (upd (upd m_readTold (0 : Int32).toNatClampNeg 0) (1 : Int32).toNatClampNeg 0) (2 : Int32).toNatClampNeg 0) (3 : Int32).toNatClampNeg 0) (4 : Int32).toNatClampNeg 0) m_readCell m_readKind m_text m_length 0 (-9) m_there m_stopped m_acts m_next m_row m_bestRow m_seen m_seenCell m_seenWay m_seenCame m_seed m_isKept m_kept) := hD
  refine lv_iinc (v := 5) (lv' := [(1, .int 5), (0, .ref mh)]) hx hb dX7_readText_25 hl (k := 0) rfl (by decide) (by decide) rfl (fun ls hl => ?_)
  refine lv_goto (tgt := 13) hx hb dX7_readText_28 (by decide) ?_
  refine lv_iload_n hx hb dX7_readText_13 rfl (lv_at hl 0 rfl) ?_
  refine lv_iconst (v := 5) hx hb dX7_readText_14 (by decide) ?_
  refine lv_icmp_ge (tgt := 31) hx hb dX7_readText_15 (by decide) (fun _ => ?_) (fun c11 => absurd c11 (by decide))
  refine lv_aload_n hx hb dX7_readText_31 rfl (lv_at hl 1 rfl) ?_
  refine va_get (D := D) (ci := 7) (v := .int m_length) (C := RX7) (T := TX7) (N := 24) hx hb hts hiX7 hown hE.1 hP 0 rfl rfl 8 (by decide) (hts (.fieldLink RX7 60 "TiltTrayModel" "length" "I") (by decide +kernel)) (fun _ h9 => h9) rfl dX7_readText_32 ?_
  refine lv_if_eq (tgt := 49) hx hb dX7_readText_35 (by decide) (fun c12 => ?_) (fun c12 => ?_)
  · have h := oit h c12
    refine lv_iconst (v := 0) hx hb dX7_readText_49 (by decide) ?_
    obtain rfl := Option.some.inj h
    rw [hQ]; exact ct_iret hx hb hr hlocks hP hS rfl dX7_readText_50
  · have h := oif h c12
    refine lv_aload_n hx hb dX7_readText_38 rfl (lv_at hl 1 rfl) ?_
    refine va_get (D := D) (ci := 7) (v := .ref m_textr) (C := RX7) (T := TX7) (N := 24) hx hb hts hiX7 hown hE.1 hP 0 rfl rfl 7 (by decide) (hts (.fieldLink RX7 28 "TiltTrayModel" "text" "[I") (by decide +kernel)) (fun _ h9 => h9) rfl dX7_readText_39 ?_
    refine lv_iconst (v := 0) hx hb dX7_readText_42 (by decide) ?_
    refine va_iald hx hb hE.1 hP 7 0 rfl rfl (ix_in (by decide)) dX7_readText_43 ?_
    refine lv_bipush (v := 84) hx hb dX7_readText_44 (by decide) ?_
    refine lv_icmp_eq (tgt := 51) hx hb dX7_readText_46 (by decide) (fun c13 => ?_) (fun c13 => ?_)
    · have h := oit h c13
      refine lv_aload_n hx hb dX7_readText_51 rfl (lv_at hl 1 rfl) ?_
      refine lv_iconst (v := 1) hx hb dX7_readText_52 (by decide) ?_
      refine va_put (D := D) (ci := 7) (v := .int 1) (ty := .int) (C := RX7) (T := TX7) (N := 24) hx hb hts hiX7 tyX7 tyX7_ok nmX7 hown hE.1 hP hD hS 0 rfl rfl 9 (by decide) (hts (.fieldLink RX7 67 "TiltTrayModel" "at" "I") (by decide +kernel)) (fun _ h9 => h9) rfl (by decide +kernel) rfl rfl (Nat.le_of_ble_eq_true rfl) dX7_readText_53 (fun H locs hP hD hS => ?_)
      have hP : va_P D vwCl (cMd mh m_kindr m_toldr m_nowr m_readToldr m_readCellr m_readKindr m_textr m_rowr m_seenCellr m_seenWayr m_seenCamer m_isKeptr m_keptr cy.1 cy.2.2.1 m_marbles m_kind m_told m_now (upd (upd (upd (upd (upd m_readTold (0 : Int32).toNatClampNeg 0) (1 : Int32).toNatClampNeg 0) (2 : Int32).toNatClampNeg 0) (3 : Int32).toNatClampNeg 0) (4 : Int32).toNatClampNeg 0) m_readCell m_readKind m_text m_length 1 (-9) m_there m_stopped m_acts m_next m_row m_bestRow m_seen m_seenCell m_seenWay m_seenCame m_seed m_isKept m_kept) H := hP
      have hD : va_D A (cMd mh m_kindr m_toldr m_nowr m_readToldr m_readCellr m_readKindr m_textr m_rowr m_seenCellr m_seenWayr m_seenCamer m_isKeptr m_keptr cy.1 cy.2.2.1 m_marbles m_kind m_told m_now (upd (upd (upd (upd (upd m_readTold (0 : Int32).toNatClampNeg 0) (1 : Int32).toNatClampNeg 0) (2 : Int32).toNatClampNeg 0) (3 : Int32).toNatClampNeg 0) (4 : Int32).toNatClampNeg 0) m_readCell m_readKind m_text m_length 1 (-9) m_there m_stopped m_acts m_next m_row m_bestRow m_seen m_seenCell m_seenWay m_seenCame m_seed m_isKept m_kept) := hD
      exact L56 60 (upd (upd (upd (upd (upd m_readTold (0 : Int32).toNatClampNeg 0) (1 : Int32).toNatClampNeg 0) (2 : Int32).toNatClampNeg 0) (3 : Int32).toNatClampNeg 0) (4 : Int32).toNatClampNeg 0) m_readCell m_readKind 1 (-9) _ _ _ (lv_sub hl [1] rfl) hP hD hS h
    · have h := oif h c13
      refine lv_iconst (v := 0) hx hb dX7_readText_49 (by decide) ?_
      obtain rfl := Option.some.inj h
      rw [hQ]; exact ct_iret hx hb hr hlocks hP hS rfl dX7_readText_50

def tw_X7_fault (m_readTold : Nat → Int32) (m_readCell : Nat → Int32) (m_readKind : Nat → Int32) (m_text : Nat → Int32) (m_length : Int32) (m_at : Int32) (m_faultAt : Int32) : Option (Int32 × (Nat → Int32) × (Nat → Int32) × (Nat → Int32) × Int32 × Int32) :=
  (tw_X7_readText m_readTold m_readCell m_readKind m_text m_length m_at m_faultAt).bind (fun q1 => some (q1.1, q1.2.1, q1.2.2.1, q1.2.2.2.1, q1.2.2.2.2.1, q1.2.2.2.2.2))
set_option maxHeartbeats 4000000 in
set_option maxRecDepth 100000 in
theorem c_X7_fault (l : Launch) (D : va_G) (cy : Cy) (mh : Nat) (m_kindr : Nat) (m_toldr : Nat) (m_nowr : Nat) (m_readToldr : Nat) (m_readCellr : Nat) (m_readKindr : Nat) (m_textr : Nat) (m_rowr : Nat) (m_seenCellr : Nat) (m_seenWayr : Nat) (m_seenCamer : Nat) (m_isKeptr : Nat) (m_keptr : Nat) (m_marbles : Int32) (m_kind : Nat → Int32) (m_told : Nat → Int32) (m_now : Nat → Int32) (m_readTold : Nat → Int32) (m_readCell : Nat → Int32) (m_readKind : Nat → Int32) (m_text : Nat → Int32) (m_length : Int32) (m_at : Int32) (m_faultAt : Int32) (m_there : Int32) (m_stopped : Int32) (m_acts : Int32) (m_next : Int32) (m_row : Nat → Int32) (m_bestRow : Int32) (m_seen : Int32) (m_seenCell : Nat → Int32) (m_seenWay : Nat → Int32) (m_seenCame : Nat → Int32) (m_seed : Int64) (m_isKept : Nat → Int32) (m_kept : Nat → Int32) (res : Int32 × (Nat → Int32) × (Nat → Int32) × (Nat → Int32) × Int32 × Int32) (h : tw_X7_fault m_readTold m_readCell m_readKind m_text m_length m_at m_faultAt = some res) : Ct l yX7_fault wsX7_fault 3 71 D cy [.ref mh] (cMd mh m_kindr m_toldr m_nowr m_readToldr m_readCellr m_readKindr m_textr m_rowr m_seenCellr m_seenWayr m_seenCamer m_isKeptr m_keptr cy.1 cy.2.2.1 m_marbles m_kind m_told m_now m_readTold m_readCell m_readKind m_text m_length m_at m_faultAt m_there m_stopped m_acts m_next m_row m_bestRow m_seen m_seenCell m_seenWay m_seenCame m_seed m_isKept m_kept) (cMd mh m_kindr m_toldr m_nowr m_readToldr m_readCellr m_readKindr m_textr m_rowr m_seenCellr m_seenWayr m_seenCamer m_isKeptr m_keptr cy.1 cy.2.2.1 m_marbles m_kind m_told m_now res.2.1 res.2.2.1 res.2.2.2.1 m_text m_length res.2.2.2.2.1 res.2.2.2.2.2 m_there m_stopped m_acts m_next m_row m_bestRow m_seen m_seenCell m_seenWay m_seenCame m_seed m_isKept m_kept) (some (.int res.1)) := by
  refine Ct.ofW (cc := cX7_fault) (maxL := 1) (ret := (some .int)) (by decide) rfl (Nat.le_of_ble_eq_true rfl) ?_
  intro p e R s m args below meth c A Q ls hRf hRl hQ hx hb hr hml hts hown hlocks hE hP hD hS hA hl
  have hl : lv_has ls 1 [(0, .ref mh)] := hl
  rw [tw_X7_fault] at h
  refine lv_aload_n hx hb dX7_fault_0 rfl (lv_at hl 0 rfl) ?_
  obtain ⟨q1, hq1, h⟩ := ob h
  refine kV (As := []) (rest := []) (w2 := cMd mh m_kindr m_toldr m_nowr m_readToldr m_readCellr m_readKindr m_textr m_rowr m_seenCellr m_seenWayr m_seenCamer m_isKeptr m_keptr cy.1 cy.2.2.1 m_marbles m_kind m_told m_now q1.2.1 q1.2.2.1 q1.2.2.2.1 m_text m_length q1.2.2.2.2.1 q1.2.2.2.2.2 m_there m_stopped m_acts m_next m_row m_bestRow m_seen m_seenCell m_seenWay m_seenCame m_seed m_isKept m_kept) (n := 0) (q0 := 0) ⟨hx, hb, hml, hown, hts⟩ (c_X7_readText l D cy mh m_kindr m_toldr m_nowr m_readToldr m_readCellr m_readKindr m_textr m_rowr m_seenCellr m_seenWayr m_seenCamer m_isKeptr m_keptr m_marbles m_kind m_told m_now m_readTold m_readCell m_readKind m_text m_length m_at m_faultAt m_there m_stopped m_acts m_next m_row m_bestRow m_seen m_seenCell m_seenWay m_seenCame m_seed m_isKept m_kept q1 hq1) gX7_fault_X7_readText rfl (by decide +kernel) ⟨by rw [hRf]; exact Nat.le_of_ble_eq_true rfl, by rw [hRl]; exact Nat.le_of_ble_eq_true rfl⟩ hE hP hD hS hA [0, 1, 2, 3, 4, 5, 6, 7, 8, 9, 10, 11, 12, 13] rfl rfl rfl rfl rfl rfl rfl hl.1 rfl (Nat.le_of_ble_eq_true rfl) dX7_fault_1 ⟨Nat.zero_le _, Nat.zero_le _⟩ (fun H locs hP hD hS => ?_)
  obtain rfl := Option.some.inj h
  rw [hQ]; exact ct_iret hx hb hr hlocks hP hS rfl dX7_fault_4

def tw_X7_table_73 (m_text : Nat → Int32) (m_length : Int32) : Nat → Int32 → Int32 → (Nat → Int32) → (Nat → Int32) → (Nat → Int32) → (Nat → Int32) → (Nat → Int32) → (Nat → Int32) → Int32 → Int32 → Int32 → (Nat → Int32) → Option (Int32 × Int32 × (Nat → Int32) × (Nat → Int32) × (Nat → Int32) × (Nat → Int32) × (Nat → Int32) × (Nat → Int32) × Int32 × Int32 × Int32 × (Nat → Int32))
  | 0, _, _, _, _, _, _, _, _, _, _, _, _ => none
  | n + 1, x1, m_marbles, m_kind, m_told, m_now, m_readTold, m_readCell, m_readKind, m_at, m_faultAt, m_acts, m_isKept =>
    if m_marbles ≤ x1 then ((tw_X7_ones (m_told (0 : Int32).toNatClampNeg)).bind (fun q2 => (tw_X7_ones (m_told (1 : Int32).toNatClampNeg)).bind (fun q3 => some (((100 * q2) + (10 * q3)) + m_marbles, m_marbles, m_kind, m_told, m_now, m_readTold, m_readCell, m_readKind, m_at, m_faultAt, 0, upd (upd m_isKept (0 : Int32).toNatClampNeg (vp_nar .boolean 0)) (1 : Int32).toNatClampNeg (vp_nar .boolean 0))))) else (if ix x1 4 = true then (if ix x1 14 = true then (if ix x1 4 = true then (if ix x1 4 = true then ((tw_X7_table_73 m_text m_length n) (x1 + 1) m_marbles (upd m_kind x1.toNatClampNeg (m_readKind x1.toNatClampNeg)) m_told (upd m_now x1.toNatClampNeg (m_readCell x1.toNatClampNeg)) m_readTold m_readCell m_readKind m_at m_faultAt m_acts m_isKept) else none) else none) else none) else none)
def tw_X7_table (m_marbles : Int32) (m_kind : Nat → Int32) (m_told : Nat → Int32) (m_now : Nat → Int32) (m_readTold : Nat → Int32) (m_readCell : Nat → Int32) (m_readKind : Nat → Int32) (m_text : Nat → Int32) (m_length : Int32) (m_at : Int32) (m_faultAt : Int32) (m_acts : Int32) (m_isKept : Nat → Int32) : Option (Int32 × Int32 × (Nat → Int32) × (Nat → Int32) × (Nat → Int32) × (Nat → Int32) × (Nat → Int32) × (Nat → Int32) × Int32 × Int32 × Int32 × (Nat → Int32)) :=
  (tw_X7_readText m_readTold m_readCell m_readKind m_text m_length m_at m_faultAt).bind (fun q8 => if q8.1 = (-9) then ((tw_X7_ones ((upd (upd (upd (upd (upd m_told (0 : Int32).toNatClampNeg (q8.2.1 (0 : Int32).toNatClampNeg)) (1 : Int32).toNatClampNeg (q8.2.1 (1 : Int32).toNatClampNeg)) (2 : Int32).toNatClampNeg (q8.2.1 (2 : Int32).toNatClampNeg)) (3 : Int32).toNatClampNeg (q8.2.1 (3 : Int32).toNatClampNeg)) (4 : Int32).toNatClampNeg (q8.2.1 (4 : Int32).toNatClampNeg)) (4 : Int32).toNatClampNeg)).bind (fun q16 => tw_X7_table_73 m_text m_length 6 0 q16 m_kind (upd (upd (upd (upd (upd m_told (0 : Int32).toNatClampNeg (q8.2.1 (0 : Int32).toNatClampNeg)) (1 : Int32).toNatClampNeg (q8.2.1 (1 : Int32).toNatClampNeg)) (2 : Int32).toNatClampNeg (q8.2.1 (2 : Int32).toNatClampNeg)) (3 : Int32).toNatClampNeg (q8.2.1 (3 : Int32).toNatClampNeg)) (4 : Int32).toNatClampNeg (q8.2.1 (4 : Int32).toNatClampNeg)) (upd (upd (upd (upd (upd (upd (upd m_now (0 : Int32).toNatClampNeg 0) (1 : Int32).toNatClampNeg 0) (2 : Int32).toNatClampNeg 0) (3 : Int32).toNatClampNeg 0) (4 : Int32).toNatClampNeg 0) (5 : Int32).toNatClampNeg 0) (6 : Int32).toNatClampNeg 0) q8.2.1 q8.2.2.1 q8.2.2.2.1 q8.2.2.2.2.1 q8.2.2.2.2.2 m_acts m_isKept)) else (some ((-3), m_marbles, m_kind, m_told, m_now, q8.2.1, q8.2.2.1, q8.2.2.2.1, q8.2.2.2.2.1, q8.2.2.2.2.2, m_acts, m_isKept)))
set_option maxHeartbeats 4000000 in
set_option maxRecDepth 100000 in
theorem c_X7_table (l : Launch) (D : va_G) (cy : Cy) (mh : Nat) (m_kindr : Nat) (m_toldr : Nat) (m_nowr : Nat) (m_readToldr : Nat) (m_readCellr : Nat) (m_readKindr : Nat) (m_textr : Nat) (m_rowr : Nat) (m_seenCellr : Nat) (m_seenWayr : Nat) (m_seenCamer : Nat) (m_isKeptr : Nat) (m_keptr : Nat) (m_marbles : Int32) (m_kind : Nat → Int32) (m_told : Nat → Int32) (m_now : Nat → Int32) (m_readTold : Nat → Int32) (m_readCell : Nat → Int32) (m_readKind : Nat → Int32) (m_text : Nat → Int32) (m_length : Int32) (m_at : Int32) (m_faultAt : Int32) (m_there : Int32) (m_stopped : Int32) (m_acts : Int32) (m_next : Int32) (m_row : Nat → Int32) (m_bestRow : Int32) (m_seen : Int32) (m_seenCell : Nat → Int32) (m_seenWay : Nat → Int32) (m_seenCame : Nat → Int32) (m_seed : Int64) (m_isKept : Nat → Int32) (m_kept : Nat → Int32) (res : Int32 × Int32 × (Nat → Int32) × (Nat → Int32) × (Nat → Int32) × (Nat → Int32) × (Nat → Int32) × (Nat → Int32) × Int32 × Int32 × Int32 × (Nat → Int32)) (h : tw_X7_table m_marbles m_kind m_told m_now m_readTold m_readCell m_readKind m_text m_length m_at m_faultAt m_acts m_isKept = some res) : Ct l yX7_table wsX7_table 3 71 D cy [.ref mh] (cMd mh m_kindr m_toldr m_nowr m_readToldr m_readCellr m_readKindr m_textr m_rowr m_seenCellr m_seenWayr m_seenCamer m_isKeptr m_keptr cy.1 cy.2.2.1 m_marbles m_kind m_told m_now m_readTold m_readCell m_readKind m_text m_length m_at m_faultAt m_there m_stopped m_acts m_next m_row m_bestRow m_seen m_seenCell m_seenWay m_seenCame m_seed m_isKept m_kept) (cMd mh m_kindr m_toldr m_nowr m_readToldr m_readCellr m_readKindr m_textr m_rowr m_seenCellr m_seenWayr m_seenCamer m_isKeptr m_keptr cy.1 cy.2.2.1 res.2.1 res.2.2.1 res.2.2.2.1 res.2.2.2.2.1 res.2.2.2.2.2.1 res.2.2.2.2.2.2.1 res.2.2.2.2.2.2.2.1 m_text m_length res.2.2.2.2.2.2.2.2.1 res.2.2.2.2.2.2.2.2.2.1 m_there m_stopped res.2.2.2.2.2.2.2.2.2.2.1 m_next m_row m_bestRow m_seen m_seenCell m_seenWay m_seenCame m_seed res.2.2.2.2.2.2.2.2.2.2.2 m_kept) (some (.int res.1)) := by
  refine Ct.ofW (cc := cX7_table) (maxL := 2) (ret := (some .int)) (by decide) rfl (Nat.le_of_ble_eq_true rfl) ?_
  intro p e R s m args below meth c A Q ls hRf hRl hQ hx hb hr hml hts hown hlocks hE hP hD hS hA hl
  have hiX7 : ∀ w ∈ u_ws RX7 TX7 24, w ∈ wsX7_table := by decide +kernel
  have hl : lv_has ls 2 [(0, .ref mh)] := hl
  rw [tw_X7_table] at h
  have L73 : ∀ (n : Nat) (x1 : Int32) (m_marbles : Int32) (m_kind : Nat → Int32) (m_told : Nat → Int32) (m_now : Nat → Int32) (m_readTold : Nat → Int32) (m_readCell : Nat → Int32) (m_readKind : Nat → Int32) (m_at : Int32) (m_faultAt : Int32) (m_acts : Int32) (m_isKept : Nat → Int32)  (H : Heap) (locs : List Loc) (ls : Array Slot), lv_has ls 2 [(0, .ref mh), (1, .int x1)] → va_P D vwCl (cMd mh m_kindr m_toldr m_nowr m_readToldr m_readCellr m_readKindr m_textr m_rowr m_seenCellr m_seenWayr m_seenCamer m_isKeptr m_keptr cy.1 cy.2.2.1 m_marbles m_kind m_told m_now m_readTold m_readCell m_readKind m_text m_length m_at m_faultAt m_there m_stopped m_acts m_next m_row m_bestRow m_seen m_seenCell m_seenWay m_seenCame m_seed m_isKept m_kept) H → va_D A (cMd mh m_kindr m_toldr m_nowr m_readToldr m_readCellr m_readKindr m_textr m_rowr m_seenCellr m_seenWayr m_seenCamer m_isKeptr m_keptr cy.1 cy.2.2.1 m_marbles m_kind m_told m_now m_readTold m_readCell m_readKind m_text m_length m_at m_faultAt m_there m_stopped m_acts m_next m_row m_bestRow m_seen m_seenCell m_seenWay m_seenCame m_seed m_isKept m_kept) → va_S A s.heap H locs → tw_X7_table_73 m_text m_length n x1 m_marbles m_kind m_told m_now m_readTold m_readCell m_readKind m_at m_faultAt m_acts m_isKept = some res → W p l e R s m args below meth c H locs 0 0 Q (F0 m 73 ls []) := by
    intro n73
    induction n73 with
    | zero =>
      intro x1 m_marbles m_kind m_told m_now m_readTold m_readCell m_readKind m_at m_faultAt m_acts m_isKept  H locs ls hl hP hD hS h
      exact absurd h (by rw [tw_X7_table_73]; exact fun q => by cases q)
    | succ n73 ih73 =>
      intro x1 m_marbles m_kind m_told m_now m_readTold m_readCell m_readKind m_at m_faultAt m_acts m_isKept  H locs ls hl hP hD hS h
      rw [tw_X7_table_73] at h
      refine lv_iload_n hx hb dX7_table_73 rfl (lv_at hl 1 rfl) ?_
      refine lv_aload_n hx hb dX7_table_74 rfl (lv_at hl 0 rfl) ?_
      refine va_get (D := D) (ci := 7) (v := .int m_marbles) (C := RX7) (T := TX7) (N := 24) hx hb hts hiX7 hown hE.1 hP 0 rfl rfl 0 (by decide) (hts (.fieldLink RX7 92 "TiltTrayModel" "marbles" "I") (by decide +kernel)) (fun _ h9 => h9) rfl dX7_table_75 ?_
      refine lv_icmp_ge (tgt := 111) hx hb dX7_table_78 (by decide) (fun c1 => ?_) (fun c1 => ?_)
      · have h := oit h c1
        refine lv_aload_n hx hb dX7_table_111 rfl (lv_at hl 0 rfl) ?_
        refine lv_iconst (v := 0) hx hb dX7_table_112 (by decide) ?_
        refine va_put (D := D) (ci := 7) (v := .int 0) (ty := .int) (C := RX7) (T := TX7) (N := 24) hx hb hts hiX7 tyX7 tyX7_ok nmX7 hown hE.1 hP hD hS 0 rfl rfl 13 (by decide) (hts (.fieldLink RX7 95 "TiltTrayModel" "acts" "I") (by decide +kernel)) (fun _ h9 => h9) rfl (by decide +kernel) rfl rfl (Nat.le_of_ble_eq_true rfl) dX7_table_113 (fun H locs hP hD hS => ?_)
        have hP : va_P D vwCl (cMd mh m_kindr m_toldr m_nowr m_readToldr m_readCellr m_readKindr m_textr m_rowr m_seenCellr m_seenWayr m_seenCamer m_isKeptr m_keptr cy.1 cy.2.2.1 m_marbles m_kind m_told m_now m_readTold m_readCell m_readKind m_text m_length m_at m_faultAt m_there m_stopped 0 m_next m_row m_bestRow m_seen m_seenCell m_seenWay m_seenCame m_seed m_isKept m_kept) H := hP
        have hD : va_D A (cMd mh m_kindr m_toldr m_nowr m_readToldr m_readCellr m_readKindr m_textr m_rowr m_seenCellr m_seenWayr m_seenCamer m_isKeptr m_keptr cy.1 cy.2.2.1 m_marbles m_kind m_told m_now m_readTold m_readCell m_readKind m_text m_length m_at m_faultAt m_there m_stopped 0 m_next m_row m_bestRow m_seen m_seenCell m_seenWay m_seenCame m_seed m_isKept m_kept) := hD
        refine lv_aload_n hx hb dX7_table_116 rfl (lv_at hl 0 rfl) ?_
        refine va_get (D := D) (ci := 7) (v := .ref m_isKeptr) (C := RX7) (T := TX7) (N := 24) hx hb hts hiX7 hown hE.1 hP 0 rfl rfl 22 (by decide) (hts (.fieldLink RX7 47 "TiltTrayModel" "isKept" "[Z") (by decide +kernel)) (fun _ h9 => h9) rfl dX7_table_117 ?_
        refine lv_iconst (v := 0) hx hb dX7_table_120 (by decide) ?_
        refine lv_iconst (v := 0) hx hb dX7_table_121 (by decide) ?_
        refine va_zast hx hb hE.1 hP hD hS 12 2 rfl rfl (ix_in (by decide)) dX7_table_122 (fun H locs hP hD hS => ?_)
        have hP : va_P D vwCl (cMd mh m_kindr m_toldr m_nowr m_readToldr m_readCellr m_readKindr m_textr m_rowr m_seenCellr m_seenWayr m_seenCamer m_isKeptr m_keptr cy.1 cy.2.2.1 m_marbles m_kind m_told m_now m_readTold m_readCell m_readKind m_text m_length m_at m_faultAt m_there m_stopped 0 m_next m_row m_bestRow m_seen m_seenCell m_seenWay m_seenCame m_seed (upd m_isKept (0 : Int32).toNatClampNeg (vp_nar .boolean 0)) m_kept) H := hP
        have hD : va_D A (cMd mh m_kindr m_toldr m_nowr m_readToldr m_readCellr m_readKindr m_textr m_rowr m_seenCellr m_seenWayr m_seenCamer m_isKeptr m_keptr cy.1 cy.2.2.1 m_marbles m_kind m_told m_now m_readTold m_readCell m_readKind m_text m_length m_at m_faultAt m_there m_stopped 0 m_next m_row m_bestRow m_seen m_seenCell m_seenWay m_seenCame m_seed (upd m_isKept (0 : Int32).toNatClampNeg (vp_nar .boolean 0)) m_kept) := hD
        refine lv_aload_n hx hb dX7_table_123 rfl (lv_at hl 0 rfl) ?_
        refine va_get (D := D) (ci := 7) (v := .ref m_isKeptr) (C := RX7) (T := TX7) (N := 24) hx hb hts hiX7 hown hE.1 hP 0 rfl rfl 22 (by decide) (hts (.fieldLink RX7 47 "TiltTrayModel" "isKept" "[Z") (by decide +kernel)) (fun _ h9 => h9) rfl dX7_table_124 ?_
        refine lv_iconst (v := 1) hx hb dX7_table_127 (by decide) ?_
        refine lv_iconst (v := 0) hx hb dX7_table_128 (by decide) ?_
        refine va_zast hx hb hE.1 hP hD hS 12 2 rfl rfl (ix_in (by decide)) dX7_table_129 (fun H locs hP hD hS => ?_)
        have hP : va_P D vwCl (cMd mh m_kindr m_toldr m_nowr m_readToldr m_readCellr m_readKindr m_textr m_rowr m_seenCellr m_seenWayr m_seenCamer m_isKeptr m_keptr cy.1 cy.2.2.1 m_marbles m_kind m_told m_now m_readTold m_readCell m_readKind m_text m_length m_at m_faultAt m_there m_stopped 0 m_next m_row m_bestRow m_seen m_seenCell m_seenWay m_seenCame m_seed (upd (upd m_isKept (0 : Int32).toNatClampNeg (vp_nar .boolean 0)) (1 : Int32).toNatClampNeg (vp_nar .boolean 0)) m_kept) H := hP
        have hD : va_D A (cMd mh m_kindr m_toldr m_nowr m_readToldr m_readCellr m_readKindr m_textr m_rowr m_seenCellr m_seenWayr m_seenCamer m_isKeptr m_keptr cy.1 cy.2.2.1 m_marbles m_kind m_told m_now m_readTold m_readCell m_readKind m_text m_length m_at m_faultAt m_there m_stopped 0 m_next m_row m_bestRow m_seen m_seenCell m_seenWay m_seenCame m_seed (upd (upd m_isKept (0 : Int32).toNatClampNeg (vp_nar .boolean 0)) (1 : Int32).toNatClampNeg (vp_nar .boolean 0)) m_kept) := hD
        refine lv_bipush (v := 100) hx hb dX7_table_130 (by decide) ?_
        refine lv_aload_n hx hb dX7_table_132 rfl (lv_at hl 0 rfl) ?_
        refine va_get (D := D) (ci := 7) (v := .ref m_toldr) (C := RX7) (T := TX7) (N := 24) hx hb hts hiX7 hown hE.1 hP 0 rfl rfl 2 (by decide) (hts (.fieldLink RX7 13 "TiltTrayModel" "told" "[I") (by decide +kernel)) (fun _ h9 => h9) rfl dX7_table_133 ?_
        refine lv_iconst (v := 0) hx hb dX7_table_136 (by decide) ?_
        refine va_iald hx hb hE.1 hP 2 0 rfl rfl (ix_in (by decide)) dX7_table_137 ?_
        obtain ⟨q2, hq2, h⟩ := ob h
        refine kS (As := [.int (m_told (0 : Int32).toNatClampNeg)]) (rest := [.int 100]) (w2 := cMd mh m_kindr m_toldr m_nowr m_readToldr m_readCellr m_readKindr m_textr m_rowr m_seenCellr m_seenWayr m_seenCamer m_isKeptr m_keptr cy.1 cy.2.2.1 m_marbles m_kind m_told m_now m_readTold m_readCell m_readKind m_text m_length m_at m_faultAt m_there m_stopped 0 m_next m_row m_bestRow m_seen m_seenCell m_seenWay m_seenCame m_seed (upd (upd m_isKept (0 : Int32).toNatClampNeg (vp_nar .boolean 0)) (1 : Int32).toNatClampNeg (vp_nar .boolean 0)) m_kept) (n := 1) ⟨hx, hb, hml, hown, hts⟩ (c_X7_ones l D cy (m_told (0 : Int32).toNatClampNeg) q2 hq2) gX7_table_X7_ones rfl (by decide +kernel) ⟨by rw [hRf]; exact Nat.le_of_ble_eq_true rfl, by rw [hRl]; exact Nat.le_of_ble_eq_true rfl⟩ hE hP hD hS hA [] rfl rfl rfl rfl rfl hl.1 rfl (Nat.le_of_ble_eq_true rfl) dX7_table_138 ⟨Nat.zero_le _, Nat.zero_le _⟩ (fun H locs hP hD hS => ?_)
        refine lv_imul hx hb dX7_table_141 ?_
        refine lv_bipush (v := 10) hx hb dX7_table_142 (by decide) ?_
        refine lv_aload_n hx hb dX7_table_144 rfl (lv_at hl 0 rfl) ?_
        refine va_get (D := D) (ci := 7) (v := .ref m_toldr) (C := RX7) (T := TX7) (N := 24) hx hb hts hiX7 hown hE.1 hP 0 rfl rfl 2 (by decide) (hts (.fieldLink RX7 13 "TiltTrayModel" "told" "[I") (by decide +kernel)) (fun _ h9 => h9) rfl dX7_table_145 ?_
        refine lv_iconst (v := 1) hx hb dX7_table_148 (by decide) ?_
        refine va_iald hx hb hE.1 hP 2 0 rfl rfl (ix_in (by decide)) dX7_table_149 ?_
        obtain ⟨q3, hq3, h⟩ := ob h
        refine kS (As := [.int (m_told (1 : Int32).toNatClampNeg)]) (rest := [.int 10, .int (100 * q2)]) (w2 := cMd mh m_kindr m_toldr m_nowr m_readToldr m_readCellr m_readKindr m_textr m_rowr m_seenCellr m_seenWayr m_seenCamer m_isKeptr m_keptr cy.1 cy.2.2.1 m_marbles m_kind m_told m_now m_readTold m_readCell m_readKind m_text m_length m_at m_faultAt m_there m_stopped 0 m_next m_row m_bestRow m_seen m_seenCell m_seenWay m_seenCame m_seed (upd (upd m_isKept (0 : Int32).toNatClampNeg (vp_nar .boolean 0)) (1 : Int32).toNatClampNeg (vp_nar .boolean 0)) m_kept) (n := 1) ⟨hx, hb, hml, hown, hts⟩ (c_X7_ones l D cy (m_told (1 : Int32).toNatClampNeg) q3 hq3) gX7_table_X7_ones rfl (by decide +kernel) ⟨by rw [hRf]; exact Nat.le_of_ble_eq_true rfl, by rw [hRl]; exact Nat.le_of_ble_eq_true rfl⟩ hE hP hD hS hA [] rfl rfl rfl rfl rfl hl.1 rfl (Nat.le_of_ble_eq_true rfl) dX7_table_150 ⟨Nat.zero_le _, Nat.zero_le _⟩ (fun H locs hP hD hS => ?_)
        refine lv_imul hx hb dX7_table_153 ?_
        refine lv_iadd hx hb dX7_table_154 ?_
        refine lv_aload_n hx hb dX7_table_155 rfl (lv_at hl 0 rfl) ?_
        refine va_get (D := D) (ci := 7) (v := .int m_marbles) (C := RX7) (T := TX7) (N := 24) hx hb hts hiX7 hown hE.1 hP 0 rfl rfl 0 (by decide) (hts (.fieldLink RX7 92 "TiltTrayModel" "marbles" "I") (by decide +kernel)) (fun _ h9 => h9) rfl dX7_table_156 ?_
        refine lv_iadd hx hb dX7_table_159 ?_
        obtain rfl := Option.some.inj h
        rw [hQ]; exact ct_iret hx hb hr hlocks hP hS rfl dX7_table_160
      · have h := oif h c1
        refine lv_aload_n hx hb dX7_table_81 rfl (lv_at hl 0 rfl) ?_
        refine va_get (D := D) (ci := 7) (v := .ref m_nowr) (C := RX7) (T := TX7) (N := 24) hx hb hts hiX7 hown hE.1 hP 0 rfl rfl 3 (by decide) (hts (.fieldLink RX7 16 "TiltTrayModel" "now" "[I") (by decide +kernel)) (fun _ h9 => h9) rfl dX7_table_82 ?_
        refine lv_iload_n hx hb dX7_table_85 rfl (lv_at hl 1 rfl) ?_
        refine lv_aload_n hx hb dX7_table_86 rfl (lv_at hl 0 rfl) ?_
        refine va_get (D := D) (ci := 7) (v := .ref m_readCellr) (C := RX7) (T := TX7) (N := 24) hx hb hts hiX7 hown hE.1 hP 0 rfl rfl 5 (by decide) (hts (.fieldLink RX7 22 "TiltTrayModel" "readCell" "[I") (by decide +kernel)) (fun _ h9 => h9) rfl dX7_table_87 ?_
        refine lv_iload_n hx hb dX7_table_90 rfl (lv_at hl 1 rfl) ?_
        obtain ⟨g4, h⟩ := og h
        refine va_iald hx hb hE.1 hP 5 0 rfl rfl (ix_in g4) dX7_table_91 ?_
        obtain ⟨g5, h⟩ := og h
        refine va_iast hx hb hE.1 hP hD hS 3 0 rfl rfl (ix_in g5) dX7_table_92 (fun H locs hP hD hS => ?_)
        have hP : va_P D vwCl (cMd mh m_kindr m_toldr m_nowr m_readToldr m_readCellr m_readKindr m_textr m_rowr m_seenCellr m_seenWayr m_seenCamer m_isKeptr m_keptr cy.1 cy.2.2.1 m_marbles m_kind m_told (upd m_now x1.toNatClampNeg (m_readCell x1.toNatClampNeg)) m_readTold m_readCell m_readKind m_text m_length m_at m_faultAt m_there m_stopped m_acts m_next m_row m_bestRow m_seen m_seenCell m_seenWay m_seenCame m_seed m_isKept m_kept) H := hP
        have hD : va_D A (cMd mh m_kindr m_toldr m_nowr m_readToldr m_readCellr m_readKindr m_textr m_rowr m_seenCellr m_seenWayr m_seenCamer m_isKeptr m_keptr cy.1 cy.2.2.1 m_marbles m_kind m_told (upd m_now x1.toNatClampNeg (m_readCell x1.toNatClampNeg)) m_readTold m_readCell m_readKind m_text m_length m_at m_faultAt m_there m_stopped m_acts m_next m_row m_bestRow m_seen m_seenCell m_seenWay m_seenCame m_seed m_isKept m_kept) := hD
        refine lv_aload_n hx hb dX7_table_93 rfl (lv_at hl 0 rfl) ?_
        refine va_get (D := D) (ci := 7) (v := .ref m_kindr) (C := RX7) (T := TX7) (N := 24) hx hb hts hiX7 hown hE.1 hP 0 rfl rfl 1 (by decide) (hts (.fieldLink RX7 7 "TiltTrayModel" "kind" "[I") (by decide +kernel)) (fun _ h9 => h9) rfl dX7_table_94 ?_
        refine lv_iload_n hx hb dX7_table_97 rfl (lv_at hl 1 rfl) ?_
        refine lv_aload_n hx hb dX7_table_98 rfl (lv_at hl 0 rfl) ?_
        refine va_get (D := D) (ci := 7) (v := .ref m_readKindr) (C := RX7) (T := TX7) (N := 24) hx hb hts hiX7 hown hE.1 hP 0 rfl rfl 6 (by decide) (hts (.fieldLink RX7 25 "TiltTrayModel" "readKind" "[I") (by decide +kernel)) (fun _ h9 => h9) rfl dX7_table_99 ?_
        refine lv_iload_n hx hb dX7_table_102 rfl (lv_at hl 1 rfl) ?_
        obtain ⟨g6, h⟩ := og h
        refine va_iald hx hb hE.1 hP 6 0 rfl rfl (ix_in g6) dX7_table_103 ?_
        obtain ⟨g7, h⟩ := og h
        refine va_iast hx hb hE.1 hP hD hS 1 0 rfl rfl (ix_in g7) dX7_table_104 (fun H locs hP hD hS => ?_)
        have hP : va_P D vwCl (cMd mh m_kindr m_toldr m_nowr m_readToldr m_readCellr m_readKindr m_textr m_rowr m_seenCellr m_seenWayr m_seenCamer m_isKeptr m_keptr cy.1 cy.2.2.1 m_marbles (upd m_kind x1.toNatClampNeg (m_readKind x1.toNatClampNeg)) m_told (upd m_now x1.toNatClampNeg (m_readCell x1.toNatClampNeg)) m_readTold m_readCell m_readKind m_text m_length m_at m_faultAt m_there m_stopped m_acts m_next m_row m_bestRow m_seen m_seenCell m_seenWay m_seenCame m_seed m_isKept m_kept) H := hP
        have hD : va_D A (cMd mh m_kindr m_toldr m_nowr m_readToldr m_readCellr m_readKindr m_textr m_rowr m_seenCellr m_seenWayr m_seenCamer m_isKeptr m_keptr cy.1 cy.2.2.1 m_marbles (upd m_kind x1.toNatClampNeg (m_readKind x1.toNatClampNeg)) m_told (upd m_now x1.toNatClampNeg (m_readCell x1.toNatClampNeg)) m_readTold m_readCell m_readKind m_text m_length m_at m_faultAt m_there m_stopped m_acts m_next m_row m_bestRow m_seen m_seenCell m_seenWay m_seenCame m_seed m_isKept m_kept) := hD
        refine lv_iinc (v := x1 + 1) (lv' := [(1, .int (x1 + 1)), (0, .ref mh)]) hx hb dX7_table_105 hl (k := 1) rfl rfl (by decide) rfl (fun ls hl => ?_)
        refine lv_goto (tgt := 73) hx hb dX7_table_108 (by decide) ?_
        exact ih73 (x1 + 1) m_marbles (upd m_kind x1.toNatClampNeg (m_readKind x1.toNatClampNeg)) m_told (upd m_now x1.toNatClampNeg (m_readCell x1.toNatClampNeg)) m_readTold m_readCell m_readKind m_at m_faultAt m_acts m_isKept _ _ _ (lv_sub hl [1, 0] rfl) hP hD hS h
  refine lv_aload_n hx hb dX7_table_0 rfl (lv_at hl 0 rfl) ?_
  obtain ⟨q8, hq8, h⟩ := ob h
  refine kV (As := []) (rest := []) (w2 := cMd mh m_kindr m_toldr m_nowr m_readToldr m_readCellr m_readKindr m_textr m_rowr m_seenCellr m_seenWayr m_seenCamer m_isKeptr m_keptr cy.1 cy.2.2.1 m_marbles m_kind m_told m_now q8.2.1 q8.2.2.1 q8.2.2.2.1 m_text m_length q8.2.2.2.2.1 q8.2.2.2.2.2 m_there m_stopped m_acts m_next m_row m_bestRow m_seen m_seenCell m_seenWay m_seenCame m_seed m_isKept m_kept) (n := 0) (q0 := 0) ⟨hx, hb, hml, hown, hts⟩ (c_X7_readText l D cy mh m_kindr m_toldr m_nowr m_readToldr m_readCellr m_readKindr m_textr m_rowr m_seenCellr m_seenWayr m_seenCamer m_isKeptr m_keptr m_marbles m_kind m_told m_now m_readTold m_readCell m_readKind m_text m_length m_at m_faultAt m_there m_stopped m_acts m_next m_row m_bestRow m_seen m_seenCell m_seenWay m_seenCame m_seed m_isKept m_kept q8 hq8) gX7_table_X7_readText rfl (by decide +kernel) ⟨by rw [hRf]; exact Nat.le_of_ble_eq_true rfl, by rw [hRl]; exact Nat.le_of_ble_eq_true rfl⟩ hE hP hD hS hA [0, 1, 2, 3, 4, 5, 6, 7, 8, 9, 10, 11, 12, 13] rfl rfl rfl rfl rfl rfl rfl hl.1 rfl (Nat.le_of_ble_eq_true rfl) dX7_table_1 ⟨Nat.zero_le _, Nat.zero_le _⟩ (fun H locs hP hD hS => ?_)
  refine lv_bipush (v := (-9)) hx hb dX7_table_4 (by decide) ?_
  refine lv_icmp_eq (tgt := 12) hx hb dX7_table_6 (by decide) (fun c9 => ?_) (fun c9 => ?_)
  · have h := oit h c9
    refine lv_iconst (v := 0) hx hb dX7_table_12 (by decide) ?_
    refine lv_istore_n (lv' := [(1, .int 0), (0, .ref mh)]) hx hb dX7_table_13 rfl hl (by decide) rfl (fun ls hl => ?_)
    refine lv_iload_n hx hb dX7_table_14 rfl (lv_at hl 0 rfl) ?_
    refine lv_iconst (v := 5) hx hb dX7_table_15 (by decide) ?_
    refine lv_icmp_ge (tgt := 37) hx hb dX7_table_16 (by decide) (fun c10 => absurd c10 (by decide)) (fun _ => ?_)
    refine lv_aload_n hx hb dX7_table_19 rfl (lv_at hl 1 rfl) ?_
    refine va_get (D := D) (ci := 7) (v := .ref m_toldr) (C := RX7) (T := TX7) (N := 24) hx hb hts hiX7 hown hE.1 hP 0 rfl rfl 2 (by decide) (hts (.fieldLink RX7 13 "TiltTrayModel" "told" "[I") (by decide +kernel)) (fun _ h9 => h9) rfl dX7_table_20 ?_
    refine lv_iload_n hx hb dX7_table_23 rfl (lv_at hl 0 rfl) ?_
    refine lv_aload_n hx hb dX7_table_24 rfl (lv_at hl 1 rfl) ?_
    refine va_get (D := D) (ci := 7) (v := .ref m_readToldr) (C := RX7) (T := TX7) (N := 24) hx hb hts hiX7 hown hE.1 hP 0 rfl rfl 4 (by decide) (hts (.fieldLink RX7 19 "TiltTrayModel" "readTold" "[I") (by decide +kernel)) (fun _ h9 => h9) rfl dX7_table_25 ?_
    refine lv_iload_n hx hb dX7_table_28 rfl (lv_at hl 0 rfl) ?_
    refine va_iald hx hb hE.1 hP 4 0 rfl rfl (ix_in (by decide)) dX7_table_29 ?_
    refine va_iast hx hb hE.1 hP hD hS 2 0 rfl rfl (ix_in (by decide)) dX7_table_30 (fun H locs hP hD hS => ?_)
    have hP : va_P D vwCl (cMd mh m_kindr m_toldr m_nowr m_readToldr m_readCellr m_readKindr m_textr m_rowr m_seenCellr m_seenWayr m_seenCamer m_isKeptr m_keptr cy.1 cy.2.2.1 m_marbles m_kind (upd m_told (0 : Int32).toNatClampNeg (q8.2.1 (0 : Int32).toNatClampNeg)) m_now q8.2.1 q8.2.2.1 q8.2.2.2.1 m_text m_length q8.2.2.2.2.1 q8.2.2.2.2.2 m_there m_stopped m_acts m_next m_row m_bestRow m_seen m_seenCell m_seenWay m_seenCame m_seed m_isKept m_kept) H := hP
    have hD : va_D A (cMd mh m_kindr m_toldr m_nowr m_readToldr m_readCellr m_readKindr m_textr m_rowr m_seenCellr m_seenWayr m_seenCamer m_isKeptr m_keptr cy.1 cy.2.2.1 m_marbles m_kind (upd m_told (0 : Int32).toNatClampNeg (q8.2.1 (0 : Int32).toNatClampNeg)) m_now q8.2.1 q8.2.2.1 q8.2.2.2.1 m_text m_length q8.2.2.2.2.1 q8.2.2.2.2.2 m_there m_stopped m_acts m_next m_row m_bestRow m_seen m_seenCell m_seenWay m_seenCame m_seed m_isKept m_kept) := hD
    refine lv_iinc (v := 1) (lv' := [(1, .int 1), (0, .ref mh)]) hx hb dX7_table_31 hl (k := 0) rfl (by decide) (by decide) rfl (fun ls hl => ?_)
    refine lv_goto (tgt := 14) hx hb dX7_table_34 (by decide) ?_
    refine lv_iload_n hx hb dX7_table_14 rfl (lv_at hl 0 rfl) ?_
    refine lv_iconst (v := 5) hx hb dX7_table_15 (by decide) ?_
    refine lv_icmp_ge (tgt := 37) hx hb dX7_table_16 (by decide) (fun c11 => absurd c11 (by decide)) (fun _ => ?_)
    refine lv_aload_n hx hb dX7_table_19 rfl (lv_at hl 1 rfl) ?_
    refine va_get (D := D) (ci := 7) (v := .ref m_toldr) (C := RX7) (T := TX7) (N := 24) hx hb hts hiX7 hown hE.1 hP 0 rfl rfl 2 (by decide) (hts (.fieldLink RX7 13 "TiltTrayModel" "told" "[I") (by decide +kernel)) (fun _ h9 => h9) rfl dX7_table_20 ?_
    refine lv_iload_n hx hb dX7_table_23 rfl (lv_at hl 0 rfl) ?_
    refine lv_aload_n hx hb dX7_table_24 rfl (lv_at hl 1 rfl) ?_
    refine va_get (D := D) (ci := 7) (v := .ref m_readToldr) (C := RX7) (T := TX7) (N := 24) hx hb hts hiX7 hown hE.1 hP 0 rfl rfl 4 (by decide) (hts (.fieldLink RX7 19 "TiltTrayModel" "readTold" "[I") (by decide +kernel)) (fun _ h9 => h9) rfl dX7_table_25 ?_
    refine lv_iload_n hx hb dX7_table_28 rfl (lv_at hl 0 rfl) ?_
    refine va_iald hx hb hE.1 hP 4 0 rfl rfl (ix_in (by decide)) dX7_table_29 ?_
    refine va_iast hx hb hE.1 hP hD hS 2 0 rfl rfl (ix_in (by decide)) dX7_table_30 (fun H locs hP hD hS => ?_)
    have hP : va_P D vwCl (cMd mh m_kindr m_toldr m_nowr m_readToldr m_readCellr m_readKindr m_textr m_rowr m_seenCellr m_seenWayr m_seenCamer m_isKeptr m_keptr cy.1 cy.2.2.1 m_marbles m_kind (upd (upd m_told (0 : Int32).toNatClampNeg (q8.2.1 (0 : Int32).toNatClampNeg)) (1 : Int32).toNatClampNeg (q8.2.1 (1 : Int32).toNatClampNeg)) m_now q8.2.1 q8.2.2.1 q8.2.2.2.1 m_text m_length q8.2.2.2.2.1 q8.2.2.2.2.2 m_there m_stopped m_acts m_next m_row m_bestRow m_seen m_seenCell m_seenWay m_seenCame m_seed m_isKept m_kept) H := hP
    have hD : va_D A (cMd mh m_kindr m_toldr m_nowr m_readToldr m_readCellr m_readKindr m_textr m_rowr m_seenCellr m_seenWayr m_seenCamer m_isKeptr m_keptr cy.1 cy.2.2.1 m_marbles m_kind (upd (upd m_told (0 : Int32).toNatClampNeg (q8.2.1 (0 : Int32).toNatClampNeg)) (1 : Int32).toNatClampNeg (q8.2.1 (1 : Int32).toNatClampNeg)) m_now q8.2.1 q8.2.2.1 q8.2.2.2.1 m_text m_length q8.2.2.2.2.1 q8.2.2.2.2.2 m_there m_stopped m_acts m_next m_row m_bestRow m_seen m_seenCell m_seenWay m_seenCame m_seed m_isKept m_kept) := hD
    refine lv_iinc (v := 2) (lv' := [(1, .int 2), (0, .ref mh)]) hx hb dX7_table_31 hl (k := 0) rfl (by decide) (by decide) rfl (fun ls hl => ?_)
    refine lv_goto (tgt := 14) hx hb dX7_table_34 (by decide) ?_
    refine lv_iload_n hx hb dX7_table_14 rfl (lv_at hl 0 rfl) ?_
    refine lv_iconst (v := 5) hx hb dX7_table_15 (by decide) ?_
    refine lv_icmp_ge (tgt := 37) hx hb dX7_table_16 (by decide) (fun c12 => absurd c12 (by decide)) (fun _ => ?_)
    refine lv_aload_n hx hb dX7_table_19 rfl (lv_at hl 1 rfl) ?_
    refine va_get (D := D) (ci := 7) (v := .ref m_toldr) (C := RX7) (T := TX7) (N := 24) hx hb hts hiX7 hown hE.1 hP 0 rfl rfl 2 (by decide) (hts (.fieldLink RX7 13 "TiltTrayModel" "told" "[I") (by decide +kernel)) (fun _ h9 => h9) rfl dX7_table_20 ?_
    refine lv_iload_n hx hb dX7_table_23 rfl (lv_at hl 0 rfl) ?_
    refine lv_aload_n hx hb dX7_table_24 rfl (lv_at hl 1 rfl) ?_
    refine va_get (D := D) (ci := 7) (v := .ref m_readToldr) (C := RX7) (T := TX7) (N := 24) hx hb hts hiX7 hown hE.1 hP 0 rfl rfl 4 (by decide) (hts (.fieldLink RX7 19 "TiltTrayModel" "readTold" "[I") (by decide +kernel)) (fun _ h9 => h9) rfl dX7_table_25 ?_
    refine lv_iload_n hx hb dX7_table_28 rfl (lv_at hl 0 rfl) ?_
    refine va_iald hx hb hE.1 hP 4 0 rfl rfl (ix_in (by decide)) dX7_table_29 ?_
    refine va_iast hx hb hE.1 hP hD hS 2 0 rfl rfl (ix_in (by decide)) dX7_table_30 (fun H locs hP hD hS => ?_)
    have hP : va_P D vwCl (cMd mh m_kindr m_toldr m_nowr m_readToldr m_readCellr m_readKindr m_textr m_rowr m_seenCellr m_seenWayr m_seenCamer m_isKeptr m_keptr cy.1 cy.2.2.1 m_marbles m_kind (upd (upd (upd m_told (0 : Int32).toNatClampNeg (q8.2.1 (0 : Int32).toNatClampNeg)) (1 : Int32).toNatClampNeg (q8.2.1 (1 : Int32).toNatClampNeg)) (2 : Int32).toNatClampNeg (q8.2.1 (2 : Int32).toNatClampNeg)) m_now q8.2.1 q8.2.2.1 q8.2.2.2.1 m_text m_length q8.2.2.2.2.1 q8.2.2.2.2.2 m_there m_stopped m_acts m_next m_row m_bestRow m_seen m_seenCell m_seenWay m_seenCame m_seed m_isKept m_kept) H := hP
    have hD : va_D A (cMd mh m_kindr m_toldr m_nowr m_readToldr m_readCellr m_readKindr m_textr m_rowr m_seenCellr m_seenWayr m_seenCamer m_isKeptr m_keptr cy.1 cy.2.2.1 m_marbles m_kind (upd (upd (upd m_told (0 : Int32).toNatClampNeg (q8.2.1 (0 : Int32).toNatClampNeg)) (1 : Int32).toNatClampNeg (q8.2.1 (1 : Int32).toNatClampNeg)) (2 : Int32).toNatClampNeg (q8.2.1 (2 : Int32).toNatClampNeg)) m_now q8.2.1 q8.2.2.1 q8.2.2.2.1 m_text m_length q8.2.2.2.2.1 q8.2.2.2.2.2 m_there m_stopped m_acts m_next m_row m_bestRow m_seen m_seenCell m_seenWay m_seenCame m_seed m_isKept m_kept) := hD
    refine lv_iinc (v := 3) (lv' := [(1, .int 3), (0, .ref mh)]) hx hb dX7_table_31 hl (k := 0) rfl (by decide) (by decide) rfl (fun ls hl => ?_)
    refine lv_goto (tgt := 14) hx hb dX7_table_34 (by decide) ?_
    refine lv_iload_n hx hb dX7_table_14 rfl (lv_at hl 0 rfl) ?_
    refine lv_iconst (v := 5) hx hb dX7_table_15 (by decide) ?_
    refine lv_icmp_ge (tgt := 37) hx hb dX7_table_16 (by decide) (fun c13 => absurd c13 (by decide)) (fun _ => ?_)
    refine lv_aload_n hx hb dX7_table_19 rfl (lv_at hl 1 rfl) ?_
    refine va_get (D := D) (ci := 7) (v := .ref m_toldr) (C := RX7) (T := TX7) (N := 24) hx hb hts hiX7 hown hE.1 hP 0 rfl rfl 2 (by decide) (hts (.fieldLink RX7 13 "TiltTrayModel" "told" "[I") (by decide +kernel)) (fun _ h9 => h9) rfl dX7_table_20 ?_
    refine lv_iload_n hx hb dX7_table_23 rfl (lv_at hl 0 rfl) ?_
    refine lv_aload_n hx hb dX7_table_24 rfl (lv_at hl 1 rfl) ?_
    refine va_get (D := D) (ci := 7) (v := .ref m_readToldr) (C := RX7) (T := TX7) (N := 24) hx hb hts hiX7 hown hE.1 hP 0 rfl rfl 4 (by decide) (hts (.fieldLink RX7 19 "TiltTrayModel" "readTold" "[I") (by decide +kernel)) (fun _ h9 => h9) rfl dX7_table_25 ?_
    refine lv_iload_n hx hb dX7_table_28 rfl (lv_at hl 0 rfl) ?_
    refine va_iald hx hb hE.1 hP 4 0 rfl rfl (ix_in (by decide)) dX7_table_29 ?_
    refine va_iast hx hb hE.1 hP hD hS 2 0 rfl rfl (ix_in (by decide)) dX7_table_30 (fun H locs hP hD hS => ?_)
    have hP : va_P D vwCl (cMd mh m_kindr m_toldr m_nowr m_readToldr m_readCellr m_readKindr m_textr m_rowr m_seenCellr m_seenWayr m_seenCamer m_isKeptr m_keptr cy.1 cy.2.2.1 m_marbles m_kind (upd (upd (upd (upd m_told (0 : Int32).toNatClampNeg (q8.2.1 (0 : Int32).toNatClampNeg)) (1 : Int32).toNatClampNeg (q8.2.1 (1 : Int32).toNatClampNeg)) (2 : Int32).toNatClampNeg (q8.2.1 (2 : Int32).toNatClampNeg)) (3 : Int32).toNatClampNeg (q8.2.1 (3 : Int32).toNatClampNeg)) m_now q8.2.1 q8.2.2.1 q8.2.2.2.1 m_text m_length q8.2.2.2.2.1 q8.2.2.2.2.2 m_there m_stopped m_acts m_next m_row m_bestRow m_seen m_seenCell m_seenWay m_seenCame m_seed m_isKept m_kept) H := hP
    have hD : va_D A (cMd mh m_kindr m_toldr m_nowr m_readToldr m_readCellr m_readKindr m_textr m_rowr m_seenCellr m_seenWayr m_seenCamer m_isKeptr m_keptr cy.1 cy.2.2.1 m_marbles m_kind (upd (upd (upd (upd m_told (0 : Int32).toNatClampNeg (q8.2.1 (0 : Int32).toNatClampNeg)) (1 : Int32).toNatClampNeg (q8.2.1 (1 : Int32).toNatClampNeg)) (2 : Int32).toNatClampNeg (q8.2.1 (2 : Int32).toNatClampNeg)) (3 : Int32).toNatClampNeg (q8.2.1 (3 : Int32).toNatClampNeg)) m_now q8.2.1 q8.2.2.1 q8.2.2.2.1 m_text m_length q8.2.2.2.2.1 q8.2.2.2.2.2 m_there m_stopped m_acts m_next m_row m_bestRow m_seen m_seenCell m_seenWay m_seenCame m_seed m_isKept m_kept) := hD
    refine lv_iinc (v := 4) (lv' := [(1, .int 4), (0, .ref mh)]) hx hb dX7_table_31 hl (k := 0) rfl (by decide) (by decide) rfl (fun ls hl => ?_)
    refine lv_goto (tgt := 14) hx hb dX7_table_34 (by decide) ?_
    refine lv_iload_n hx hb dX7_table_14 rfl (lv_at hl 0 rfl) ?_
    refine lv_iconst (v := 5) hx hb dX7_table_15 (by decide) ?_
    refine lv_icmp_ge (tgt := 37) hx hb dX7_table_16 (by decide) (fun c14 => absurd c14 (by decide)) (fun _ => ?_)
    refine lv_aload_n hx hb dX7_table_19 rfl (lv_at hl 1 rfl) ?_
    refine va_get (D := D) (ci := 7) (v := .ref m_toldr) (C := RX7) (T := TX7) (N := 24) hx hb hts hiX7 hown hE.1 hP 0 rfl rfl 2 (by decide) (hts (.fieldLink RX7 13 "TiltTrayModel" "told" "[I") (by decide +kernel)) (fun _ h9 => h9) rfl dX7_table_20 ?_
    refine lv_iload_n hx hb dX7_table_23 rfl (lv_at hl 0 rfl) ?_
    refine lv_aload_n hx hb dX7_table_24 rfl (lv_at hl 1 rfl) ?_
    refine va_get (D := D) (ci := 7) (v := .ref m_readToldr) (C := RX7) (T := TX7) (N := 24) hx hb hts hiX7 hown hE.1 hP 0 rfl rfl 4 (by decide) (hts (.fieldLink RX7 19 "TiltTrayModel" "readTold" "[I") (by decide +kernel)) (fun _ h9 => h9) rfl dX7_table_25 ?_
    refine lv_iload_n hx hb dX7_table_28 rfl (lv_at hl 0 rfl) ?_
    refine va_iald hx hb hE.1 hP 4 0 rfl rfl (ix_in (by decide)) dX7_table_29 ?_
    refine va_iast hx hb hE.1 hP hD hS 2 0 rfl rfl (ix_in (by decide)) dX7_table_30 (fun H locs hP hD hS => ?_)
    have hP : va_P D vwCl (cMd mh m_kindr m_toldr m_nowr m_readToldr m_readCellr m_readKindr m_textr m_rowr m_seenCellr m_seenWayr m_seenCamer m_isKeptr m_keptr cy.1 cy.2.2.1 m_marbles m_kind (upd (upd (upd (upd (upd m_told (0 : Int32).toNatClampNeg (q8.2.1 (0 : Int32).toNatClampNeg)) (1 : Int32).toNatClampNeg (q8.2.1 (1 : Int32).toNatClampNeg)) (2 : Int32).toNatClampNeg (q8.2.1 (2 : Int32).toNatClampNeg)) (3 : Int32).toNatClampNeg (q8.2.1 (3 : Int32).toNatClampNeg)) (4 : Int32).toNatClampNeg (q8.2.1 (4 : Int32).toNatClampNeg)) m_now q8.2.1 q8.2.2.1 q8.2.2.2.1 m_text m_length q8.2.2.2.2.1 q8.2.2.2.2.2 m_there m_stopped m_acts m_next m_row m_bestRow m_seen m_seenCell m_seenWay m_seenCame m_seed m_isKept m_kept) H := hP
    have hD : va_D A (cMd mh m_kindr m_toldr m_nowr m_readToldr m_readCellr m_readKindr m_textr m_rowr m_seenCellr m_seenWayr m_seenCamer m_isKeptr m_keptr cy.1 cy.2.2.1 m_marbles m_kind (upd (upd (upd (upd (upd m_told (0 : Int32).toNatClampNeg (q8.2.1 (0 : Int32).toNatClampNeg)) (1 : Int32).toNatClampNeg (q8.2.1 (1 : Int32).toNatClampNeg)) (2 : Int32).toNatClampNeg (q8.2.1 (2 : Int32).toNatClampNeg)) (3 : Int32).toNatClampNeg (q8.2.1 (3 : Int32).toNatClampNeg)) (4 : Int32).toNatClampNeg (q8.2.1 (4 : Int32).toNatClampNeg)) m_now q8.2.1 q8.2.2.1 q8.2.2.2.1 m_text m_length q8.2.2.2.2.1 q8.2.2.2.2.2 m_there m_stopped m_acts m_next m_row m_bestRow m_seen m_seenCell m_seenWay m_seenCame m_seed m_isKept m_kept) := hD
    refine lv_iinc (v := 5) (lv' := [(1, .int 5), (0, .ref mh)]) hx hb dX7_table_31 hl (k := 0) rfl (by decide) (by decide) rfl (fun ls hl => ?_)
    refine lv_goto (tgt := 14) hx hb dX7_table_34 (by decide) ?_
    refine lv_iload_n hx hb dX7_table_14 rfl (lv_at hl 0 rfl) ?_
    refine lv_iconst (v := 5) hx hb dX7_table_15 (by decide) ?_
    refine lv_icmp_ge (tgt := 37) hx hb dX7_table_16 (by decide) (fun _ => ?_) (fun c15 => absurd c15 (by decide))
    refine lv_aload_n hx hb dX7_table_37 rfl (lv_at hl 1 rfl) ?_
    refine lv_aload_n hx hb dX7_table_38 rfl (lv_at hl 1 rfl) ?_
    refine va_get (D := D) (ci := 7) (v := .ref m_toldr) (C := RX7) (T := TX7) (N := 24) hx hb hts hiX7 hown hE.1 hP 0 rfl rfl 2 (by decide) (hts (.fieldLink RX7 13 "TiltTrayModel" "told" "[I") (by decide +kernel)) (fun _ h9 => h9) rfl dX7_table_39 ?_
    refine lv_iconst (v := 4) hx hb dX7_table_42 (by decide) ?_
    refine va_iald hx hb hE.1 hP 2 0 rfl rfl (ix_in (by decide)) dX7_table_43 ?_
    obtain ⟨q16, hq16, h⟩ := ob h
    refine kS (As := [.int ((upd (upd (upd (upd (upd m_told (0 : Int32).toNatClampNeg (q8.2.1 (0 : Int32).toNatClampNeg)) (1 : Int32).toNatClampNeg (q8.2.1 (1 : Int32).toNatClampNeg)) (2 : Int32).toNatClampNeg (q8.2.1 (2 : Int32).toNatClampNeg)) (3 : Int32).toNatClampNeg (q8.2.1 (3 : Int32).toNatClampNeg)) (4 : Int32).toNatClampNeg (q8.2.1 (4 : Int32).toNatClampNeg)) (4 : Int32).toNatClampNeg)]) (rest := [.ref mh]) (w2 := cMd mh m_kindr m_toldr m_nowr m_readToldr m_readCellr m_readKindr m_textr m_rowr m_seenCellr m_seenWayr m_seenCamer m_isKeptr m_keptr cy.1 cy.2.2.1 m_marbles m_kind (upd (upd (upd (upd (upd m_told (0 : Int32).toNatClampNeg (q8.2.1 (0 : Int32).toNatClampNeg)) (1 : Int32).toNatClampNeg (q8.2.1 (1 : Int32).toNatClampNeg)) (2 : Int32).toNatClampNeg (q8.2.1 (2 : Int32).toNatClampNeg)) (3 : Int32).toNatClampNeg (q8.2.1 (3 : Int32).toNatClampNeg)) (4 : Int32).toNatClampNeg (q8.2.1 (4 : Int32).toNatClampNeg)) m_now q8.2.1 q8.2.2.1 q8.2.2.2.1 m_text m_length q8.2.2.2.2.1 q8.2.2.2.2.2 m_there m_stopped m_acts m_next m_row m_bestRow m_seen m_seenCell m_seenWay m_seenCame m_seed m_isKept m_kept) (n := 1) ⟨hx, hb, hml, hown, hts⟩ (c_X7_ones l D cy ((upd (upd (upd (upd (upd m_told (0 : Int32).toNatClampNeg (q8.2.1 (0 : Int32).toNatClampNeg)) (1 : Int32).toNatClampNeg (q8.2.1 (1 : Int32).toNatClampNeg)) (2 : Int32).toNatClampNeg (q8.2.1 (2 : Int32).toNatClampNeg)) (3 : Int32).toNatClampNeg (q8.2.1 (3 : Int32).toNatClampNeg)) (4 : Int32).toNatClampNeg (q8.2.1 (4 : Int32).toNatClampNeg)) (4 : Int32).toNatClampNeg) q16 hq16) gX7_table_X7_ones rfl (by decide +kernel) ⟨by rw [hRf]; exact Nat.le_of_ble_eq_true rfl, by rw [hRl]; exact Nat.le_of_ble_eq_true rfl⟩ hE hP hD hS hA [] rfl rfl rfl rfl rfl hl.1 rfl (Nat.le_of_ble_eq_true rfl) dX7_table_44 ⟨Nat.zero_le _, Nat.zero_le _⟩ (fun H locs hP hD hS => ?_)
    refine va_put (D := D) (ci := 7) (v := .int q16) (ty := .int) (C := RX7) (T := TX7) (N := 24) hx hb hts hiX7 tyX7 tyX7_ok nmX7 hown hE.1 hP hD hS 0 rfl rfl 0 (by decide) (hts (.fieldLink RX7 92 "TiltTrayModel" "marbles" "I") (by decide +kernel)) (fun _ h9 => h9) rfl (by decide +kernel) rfl rfl (Nat.le_of_ble_eq_true rfl) dX7_table_47 (fun H locs hP hD hS => ?_)
    have hP : va_P D vwCl (cMd mh m_kindr m_toldr m_nowr m_readToldr m_readCellr m_readKindr m_textr m_rowr m_seenCellr m_seenWayr m_seenCamer m_isKeptr m_keptr cy.1 cy.2.2.1 q16 m_kind (upd (upd (upd (upd (upd m_told (0 : Int32).toNatClampNeg (q8.2.1 (0 : Int32).toNatClampNeg)) (1 : Int32).toNatClampNeg (q8.2.1 (1 : Int32).toNatClampNeg)) (2 : Int32).toNatClampNeg (q8.2.1 (2 : Int32).toNatClampNeg)) (3 : Int32).toNatClampNeg (q8.2.1 (3 : Int32).toNatClampNeg)) (4 : Int32).toNatClampNeg (q8.2.1 (4 : Int32).toNatClampNeg)) m_now q8.2.1 q8.2.2.1 q8.2.2.2.1 m_text m_length q8.2.2.2.2.1 q8.2.2.2.2.2 m_there m_stopped m_acts m_next m_row m_bestRow m_seen m_seenCell m_seenWay m_seenCame m_seed m_isKept m_kept) H := hP
    have hD : va_D A (cMd mh m_kindr m_toldr m_nowr m_readToldr m_readCellr m_readKindr m_textr m_rowr m_seenCellr m_seenWayr m_seenCamer m_isKeptr m_keptr cy.1 cy.2.2.1 q16 m_kind (upd (upd (upd (upd (upd m_told (0 : Int32).toNatClampNeg (q8.2.1 (0 : Int32).toNatClampNeg)) (1 : Int32).toNatClampNeg (q8.2.1 (1 : Int32).toNatClampNeg)) (2 : Int32).toNatClampNeg (q8.2.1 (2 : Int32).toNatClampNeg)) (3 : Int32).toNatClampNeg (q8.2.1 (3 : Int32).toNatClampNeg)) (4 : Int32).toNatClampNeg (q8.2.1 (4 : Int32).toNatClampNeg)) m_now q8.2.1 q8.2.2.1 q8.2.2.2.1 m_text m_length q8.2.2.2.2.1 q8.2.2.2.2.2 m_there m_stopped m_acts m_next m_row m_bestRow m_seen m_seenCell m_seenWay m_seenCame m_seed m_isKept m_kept) := hD
    refine lv_iconst (v := 0) hx hb dX7_table_50 (by decide) ?_
    refine lv_istore_n (lv' := [(1, .int 0), (0, .ref mh)]) hx hb dX7_table_51 rfl hl (by decide) rfl (fun ls hl => ?_)
    refine lv_iload_n hx hb dX7_table_52 rfl (lv_at hl 0 rfl) ?_
    refine lv_bipush (v := 7) hx hb dX7_table_53 (by decide) ?_
    refine lv_icmp_ge (tgt := 71) hx hb dX7_table_55 (by decide) (fun c17 => absurd c17 (by decide)) (fun _ => ?_)
    refine lv_aload_n hx hb dX7_table_58 rfl (lv_at hl 1 rfl) ?_
    refine va_get (D := D) (ci := 7) (v := .ref m_nowr) (C := RX7) (T := TX7) (N := 24) hx hb hts hiX7 hown hE.1 hP 0 rfl rfl 3 (by decide) (hts (.fieldLink RX7 16 "TiltTrayModel" "now" "[I") (by decide +kernel)) (fun _ h9 => h9) rfl dX7_table_59 ?_
    refine lv_iload_n hx hb dX7_table_62 rfl (lv_at hl 0 rfl) ?_
    refine lv_iconst (v := 0) hx hb dX7_table_63 (by decide) ?_
    refine va_iast hx hb hE.1 hP hD hS 3 0 rfl rfl (ix_in (by decide)) dX7_table_64 (fun H locs hP hD hS => ?_)
    have hP : va_P D vwCl (cMd mh m_kindr m_toldr m_nowr m_readToldr m_readCellr m_readKindr m_textr m_rowr m_seenCellr m_seenWayr m_seenCamer m_isKeptr m_keptr cy.1 cy.2.2.1 q16 m_kind (upd (upd (upd (upd (upd m_told (0 : Int32).toNatClampNeg (q8.2.1 (0 : Int32).toNatClampNeg)) (1 : Int32).toNatClampNeg (q8.2.1 (1 : Int32).toNatClampNeg)) (2 : Int32).toNatClampNeg (q8.2.1 (2 : Int32).toNatClampNeg)) (3 : Int32).toNatClampNeg (q8.2.1 (3 : Int32).toNatClampNeg)) (4 : Int32).toNatClampNeg (q8.2.1 (4 : Int32).toNatClampNeg)) (upd m_now (0 : Int32).toNatClampNeg 0) q8.2.1 q8.2.2.1 q8.2.2.2.1 m_text m_length q8.2.2.2.2.1 q8.2.2.2.2.2 m_there m_stopped m_acts m_next m_row m_bestRow m_seen m_seenCell m_seenWay m_seenCame m_seed m_isKept m_kept) H := hP
    have hD : va_D A (cMd mh m_kindr m_toldr m_nowr m_readToldr m_readCellr m_readKindr m_textr m_rowr m_seenCellr m_seenWayr m_seenCamer m_isKeptr m_keptr cy.1 cy.2.2.1 q16 m_kind (upd (upd (upd (upd (upd m_told (0 : Int32).toNatClampNeg (q8.2.1 (0 : Int32).toNatClampNeg)) (1 : Int32).toNatClampNeg (q8.2.1 (1 : Int32).toNatClampNeg)) (2 : Int32).toNatClampNeg (q8.2.1 (2 : Int32).toNatClampNeg)) (3 : Int32).toNatClampNeg (q8.2.1 (3 : Int32).toNatClampNeg)) (4 : Int32).toNatClampNeg (q8.2.1 (4 : Int32).toNatClampNeg)) (upd m_now (0 : Int32).toNatClampNeg 0) q8.2.1 q8.2.2.1 q8.2.2.2.1 m_text m_length q8.2.2.2.2.1 q8.2.2.2.2.2 m_there m_stopped m_acts m_next m_row m_bestRow m_seen m_seenCell m_seenWay m_seenCame m_seed m_isKept m_kept) := hD
    refine lv_iinc (v := 1) (lv' := [(1, .int 1), (0, .ref mh)]) hx hb dX7_table_65 hl (k := 0) rfl (by decide) (by decide) rfl (fun ls hl => ?_)
    refine lv_goto (tgt := 52) hx hb dX7_table_68 (by decide) ?_
    refine lv_iload_n hx hb dX7_table_52 rfl (lv_at hl 0 rfl) ?_
    refine lv_bipush (v := 7) hx hb dX7_table_53 (by decide) ?_
    refine lv_icmp_ge (tgt := 71) hx hb dX7_table_55 (by decide) (fun c18 => absurd c18 (by decide)) (fun _ => ?_)
    refine lv_aload_n hx hb dX7_table_58 rfl (lv_at hl 1 rfl) ?_
    refine va_get (D := D) (ci := 7) (v := .ref m_nowr) (C := RX7) (T := TX7) (N := 24) hx hb hts hiX7 hown hE.1 hP 0 rfl rfl 3 (by decide) (hts (.fieldLink RX7 16 "TiltTrayModel" "now" "[I") (by decide +kernel)) (fun _ h9 => h9) rfl dX7_table_59 ?_
    refine lv_iload_n hx hb dX7_table_62 rfl (lv_at hl 0 rfl) ?_
    refine lv_iconst (v := 0) hx hb dX7_table_63 (by decide) ?_
    refine va_iast hx hb hE.1 hP hD hS 3 0 rfl rfl (ix_in (by decide)) dX7_table_64 (fun H locs hP hD hS => ?_)
    have hP : va_P D vwCl (cMd mh m_kindr m_toldr m_nowr m_readToldr m_readCellr m_readKindr m_textr m_rowr m_seenCellr m_seenWayr m_seenCamer m_isKeptr m_keptr cy.1 cy.2.2.1 q16 m_kind (upd (upd (upd (upd (upd m_told (0 : Int32).toNatClampNeg (q8.2.1 (0 : Int32).toNatClampNeg)) (1 : Int32).toNatClampNeg (q8.2.1 (1 : Int32).toNatClampNeg)) (2 : Int32).toNatClampNeg (q8.2.1 (2 : Int32).toNatClampNeg)) (3 : Int32).toNatClampNeg (q8.2.1 (3 : Int32).toNatClampNeg)) (4 : Int32).toNatClampNeg (q8.2.1 (4 : Int32).toNatClampNeg)) (upd (upd m_now (0 : Int32).toNatClampNeg 0) (1 : Int32).toNatClampNeg 0) q8.2.1 q8.2.2.1 q8.2.2.2.1 m_text m_length q8.2.2.2.2.1 q8.2.2.2.2.2 m_there m_stopped m_acts m_next m_row m_bestRow m_seen m_seenCell m_seenWay m_seenCame m_seed m_isKept m_kept) H := hP
    have hD : va_D A (cMd mh m_kindr m_toldr m_nowr m_readToldr m_readCellr m_readKindr m_textr m_rowr m_seenCellr m_seenWayr m_seenCamer m_isKeptr m_keptr cy.1 cy.2.2.1 q16 m_kind (upd (upd (upd (upd (upd m_told (0 : Int32).toNatClampNeg (q8.2.1 (0 : Int32).toNatClampNeg)) (1 : Int32).toNatClampNeg (q8.2.1 (1 : Int32).toNatClampNeg)) (2 : Int32).toNatClampNeg (q8.2.1 (2 : Int32).toNatClampNeg)) (3 : Int32).toNatClampNeg (q8.2.1 (3 : Int32).toNatClampNeg)) (4 : Int32).toNatClampNeg (q8.2.1 (4 : Int32).toNatClampNeg)) (upd (upd m_now (0 : Int32).toNatClampNeg 0) (1 : Int32).toNatClampNeg 0) q8.2.1 q8.2.2.1 q8.2.2.2.1 m_text m_length q8.2.2.2.2.1 q8.2.2.2.2.2 m_there m_stopped m_acts m_next m_row m_bestRow m_seen m_seenCell m_seenWay m_seenCame m_seed m_isKept m_kept) := hD
    refine lv_iinc (v := 2) (lv' := [(1, .int 2), (0, .ref mh)]) hx hb dX7_table_65 hl (k := 0) rfl (by decide) (by decide) rfl (fun ls hl => ?_)
    refine lv_goto (tgt := 52) hx hb dX7_table_68 (by decide) ?_
    refine lv_iload_n hx hb dX7_table_52 rfl (lv_at hl 0 rfl) ?_
    refine lv_bipush (v := 7) hx hb dX7_table_53 (by decide) ?_
    refine lv_icmp_ge (tgt := 71) hx hb dX7_table_55 (by decide) (fun c19 => absurd c19 (by decide)) (fun _ => ?_)
    refine lv_aload_n hx hb dX7_table_58 rfl (lv_at hl 1 rfl) ?_
    refine va_get (D := D) (ci := 7) (v := .ref m_nowr) (C := RX7) (T := TX7) (N := 24) hx hb hts hiX7 hown hE.1 hP 0 rfl rfl 3 (by decide) (hts (.fieldLink RX7 16 "TiltTrayModel" "now" "[I") (by decide +kernel)) (fun _ h9 => h9) rfl dX7_table_59 ?_
    refine lv_iload_n hx hb dX7_table_62 rfl (lv_at hl 0 rfl) ?_
    refine lv_iconst (v := 0) hx hb dX7_table_63 (by decide) ?_
    refine va_iast hx hb hE.1 hP hD hS 3 0 rfl rfl (ix_in (by decide)) dX7_table_64 (fun H locs hP hD hS => ?_)
    have hP : va_P D vwCl (cMd mh m_kindr m_toldr m_nowr m_readToldr m_readCellr m_readKindr m_textr m_rowr m_seenCellr m_seenWayr m_seenCamer m_isKeptr m_keptr cy.1 cy.2.2.1 q16 m_kind (upd (upd (upd (upd (upd m_told (0 : Int32).toNatClampNeg (q8.2.1 (0 : Int32).toNatClampNeg)) (1 : Int32).toNatClampNeg (q8.2.1 (1 : Int32).toNatClampNeg)) (2 : Int32).toNatClampNeg (q8.2.1 (2 : Int32).toNatClampNeg)) (3 : Int32).toNatClampNeg (q8.2.1 (3 : Int32).toNatClampNeg)) (4 : Int32).toNatClampNeg (q8.2.1 (4 : Int32).toNatClampNeg)) (upd (upd (upd m_now (0 : Int32).toNatClampNeg 0) (1 : Int32).toNatClampNeg 0) (2 : Int32).toNatClampNeg 0) q8.2.1 q8.2.2.1 q8.2.2.2.1 m_text m_length q8.2.2.2.2.1 q8.2.2.2.2.2 m_there m_stopped m_acts m_next m_row m_bestRow m_seen m_seenCell m_seenWay m_seenCame m_seed m_isKept m_kept) H := hP
    have hD : va_D A (cMd mh m_kindr m_toldr m_nowr m_readToldr m_readCellr m_readKindr m_textr m_rowr m_seenCellr m_seenWayr m_seenCamer m_isKeptr m_keptr cy.1 cy.2.2.1 q16 m_kind (upd (upd (upd (upd (upd m_told (0 : Int32).toNatClampNeg (q8.2.1 (0 : Int32).toNatClampNeg)) (1 : Int32).toNatClampNeg (q8.2.1 (1 : Int32).toNatClampNeg)) (2 : Int32).toNatClampNeg (q8.2.1 (2 : Int32).toNatClampNeg)) (3 : Int32).toNatClampNeg (q8.2.1 (3 : Int32).toNatClampNeg)) (4 : Int32).toNatClampNeg (q8.2.1 (4 : Int32).toNatClampNeg)) (upd (upd (upd m_now (0 : Int32).toNatClampNeg 0) (1 : Int32).toNatClampNeg 0) (2 : Int32).toNatClampNeg 0) q8.2.1 q8.2.2.1 q8.2.2.2.1 m_text m_length q8.2.2.2.2.1 q8.2.2.2.2.2 m_there m_stopped m_acts m_next m_row m_bestRow m_seen m_seenCell m_seenWay m_seenCame m_seed m_isKept m_kept) := hD
    refine lv_iinc (v := 3) (lv' := [(1, .int 3), (0, .ref mh)]) hx hb dX7_table_65 hl (k := 0) rfl (by decide) (by decide) rfl (fun ls hl => ?_)
    refine lv_goto (tgt := 52) hx hb dX7_table_68 (by decide) ?_
    refine lv_iload_n hx hb dX7_table_52 rfl (lv_at hl 0 rfl) ?_
    refine lv_bipush (v := 7) hx hb dX7_table_53 (by decide) ?_
    refine lv_icmp_ge (tgt := 71) hx hb dX7_table_55 (by decide) (fun c20 => absurd c20 (by decide)) (fun _ => ?_)
    refine lv_aload_n hx hb dX7_table_58 rfl (lv_at hl 1 rfl) ?_
    refine va_get (D := D) (ci := 7) (v := .ref m_nowr) (C := RX7) (T := TX7) (N := 24) hx hb hts hiX7 hown hE.1 hP 0 rfl rfl 3 (by decide) (hts (.fieldLink RX7 16 "TiltTrayModel" "now" "[I") (by decide +kernel)) (fun _ h9 => h9) rfl dX7_table_59 ?_
    refine lv_iload_n hx hb dX7_table_62 rfl (lv_at hl 0 rfl) ?_
    refine lv_iconst (v := 0) hx hb dX7_table_63 (by decide) ?_
    refine va_iast hx hb hE.1 hP hD hS 3 0 rfl rfl (ix_in (by decide)) dX7_table_64 (fun H locs hP hD hS => ?_)
    have hP : va_P D vwCl (cMd mh m_kindr m_toldr m_nowr m_readToldr m_readCellr m_readKindr m_textr m_rowr m_seenCellr m_seenWayr m_seenCamer m_isKeptr m_keptr cy.1 cy.2.2.1 q16 m_kind (upd (upd (upd (upd (upd m_told (0 : Int32).toNatClampNeg (q8.2.1 (0 : Int32).toNatClampNeg)) (1 : Int32).toNatClampNeg (q8.2.1 (1 : Int32).toNatClampNeg)) (2 : Int32).toNatClampNeg (q8.2.1 (2 : Int32).toNatClampNeg)) (3 : Int32).toNatClampNeg (q8.2.1 (3 : Int32).toNatClampNeg)) (4 : Int32).toNatClampNeg (q8.2.1 (4 : Int32).toNatClampNeg)) (upd (upd (upd (upd m_now (0 : Int32).toNatClampNeg 0) (1 : Int32).toNatClampNeg 0) (2 : Int32).toNatClampNeg 0) (3 : Int32).toNatClampNeg 0) q8.2.1 q8.2.2.1 q8.2.2.2.1 m_text m_length q8.2.2.2.2.1 q8.2.2.2.2.2 m_there m_stopped m_acts m_next m_row m_bestRow m_seen m_seenCell m_seenWay m_seenCame m_seed m_isKept m_kept) H := hP
    have hD : va_D A (cMd mh m_kindr m_toldr m_nowr m_readToldr m_readCellr m_readKindr m_textr m_rowr m_seenCellr m_seenWayr m_seenCamer m_isKeptr m_keptr cy.1 cy.2.2.1 q16 m_kind (upd (upd (upd (upd (upd m_told (0 : Int32).toNatClampNeg (q8.2.1 (0 : Int32).toNatClampNeg)) (1 : Int32).toNatClampNeg (q8.2.1 (1 : Int32).toNatClampNeg)) (2 : Int32).toNatClampNeg (q8.2.1 (2 : Int32).toNatClampNeg)) (3 : Int32).toNatClampNeg (q8.2.1 (3 : Int32).toNatClampNeg)) (4 : Int32).toNatClampNeg (q8.2.1 (4 : Int32).toNatClampNeg)) (upd (upd (upd (upd m_now (0 : Int32).toNatClampNeg 0) (1 : Int32).toNatClampNeg 0) (2 : Int32).toNatClampNeg 0) (3 : Int32).toNatClampNeg 0) q8.2.1 q8.2.2.1 q8.2.2.2.1 m_text m_length q8.2.2.2.2.1 q8.2.2.2.2.2 m_there m_stopped m_acts m_next m_row m_bestRow m_seen m_seenCell m_seenWay m_seenCame m_seed m_isKept m_kept) := hD
    refine lv_iinc (v := 4) (lv' := [(1, .int 4), (0, .ref mh)]) hx hb dX7_table_65 hl (k := 0) rfl (by decide) (by decide) rfl (fun ls hl => ?_)
    refine lv_goto (tgt := 52) hx hb dX7_table_68 (by decide) ?_
    refine lv_iload_n hx hb dX7_table_52 rfl (lv_at hl 0 rfl) ?_
    refine lv_bipush (v := 7) hx hb dX7_table_53 (by decide) ?_
    refine lv_icmp_ge (tgt := 71) hx hb dX7_table_55 (by decide) (fun c21 => absurd c21 (by decide)) (fun _ => ?_)
    refine lv_aload_n hx hb dX7_table_58 rfl (lv_at hl 1 rfl) ?_
    refine va_get (D := D) (ci := 7) (v := .ref m_nowr) (C := RX7) (T := TX7) (N := 24) hx hb hts hiX7 hown hE.1 hP 0 rfl rfl 3 (by decide) (hts (.fieldLink RX7 16 "TiltTrayModel" "now" "[I") (by decide +kernel)) (fun _ h9 => h9) rfl dX7_table_59 ?_
    refine lv_iload_n hx hb dX7_table_62 rfl (lv_at hl 0 rfl) ?_
    refine lv_iconst (v := 0) hx hb dX7_table_63 (by decide) ?_
    refine va_iast hx hb hE.1 hP hD hS 3 0 rfl rfl (ix_in (by decide)) dX7_table_64 (fun H locs hP hD hS => ?_)
    have hP : va_P D vwCl (cMd mh m_kindr m_toldr m_nowr m_readToldr m_readCellr m_readKindr m_textr m_rowr m_seenCellr m_seenWayr m_seenCamer m_isKeptr m_keptr cy.1 cy.2.2.1 q16 m_kind (upd (upd (upd (upd (upd m_told (0 : Int32).toNatClampNeg (q8.2.1 (0 : Int32).toNatClampNeg)) (1 : Int32).toNatClampNeg (q8.2.1 (1 : Int32).toNatClampNeg)) (2 : Int32).toNatClampNeg (q8.2.1 (2 : Int32).toNatClampNeg)) (3 : Int32).toNatClampNeg (q8.2.1 (3 : Int32).toNatClampNeg)) (4 : Int32).toNatClampNeg (q8.2.1 (4 : Int32).toNatClampNeg)) (upd (upd (upd (upd (upd m_now (0 : Int32).toNatClampNeg 0) (1 : Int32).toNatClampNeg 0) (2 : Int32).toNatClampNeg 0) (3 : Int32).toNatClampNeg 0) (4 : Int32).toNatClampNeg 0) q8.2.1 q8.2.2.1 q8.2.2.2.1 m_text m_length q8.2.2.2.2.1 q8.2.2.2.2.2 m_there m_stopped m_acts m_next m_row m_bestRow m_seen m_seenCell m_seenWay m_seenCame m_seed m_isKept m_kept) H := hP
    have hD : va_D A (cMd mh m_kindr m_toldr m_nowr m_readToldr m_readCellr m_readKindr m_textr m_rowr m_seenCellr m_seenWayr m_seenCamer m_isKeptr m_keptr cy.1 cy.2.2.1 q16 m_kind (upd (upd (upd (upd (upd m_told (0 : Int32).toNatClampNeg (q8.2.1 (0 : Int32).toNatClampNeg)) (1 : Int32).toNatClampNeg (q8.2.1 (1 : Int32).toNatClampNeg)) (2 : Int32).toNatClampNeg (q8.2.1 (2 : Int32).toNatClampNeg)) (3 : Int32).toNatClampNeg (q8.2.1 (3 : Int32).toNatClampNeg)) (4 : Int32).toNatClampNeg (q8.2.1 (4 : Int32).toNatClampNeg)) (upd (upd (upd (upd (upd m_now (0 : Int32).toNatClampNeg 0) (1 : Int32).toNatClampNeg 0) (2 : Int32).toNatClampNeg 0) (3 : Int32).toNatClampNeg 0) (4 : Int32).toNatClampNeg 0) q8.2.1 q8.2.2.1 q8.2.2.2.1 m_text m_length q8.2.2.2.2.1 q8.2.2.2.2.2 m_there m_stopped m_acts m_next m_row m_bestRow m_seen m_seenCell m_seenWay m_seenCame m_seed m_isKept m_kept) := hD
    refine lv_iinc (v := 5) (lv' := [(1, .int 5), (0, .ref mh)]) hx hb dX7_table_65 hl (k := 0) rfl (by decide) (by decide) rfl (fun ls hl => ?_)
    refine lv_goto (tgt := 52) hx hb dX7_table_68 (by decide) ?_
    refine lv_iload_n hx hb dX7_table_52 rfl (lv_at hl 0 rfl) ?_
    refine lv_bipush (v := 7) hx hb dX7_table_53 (by decide) ?_
    refine lv_icmp_ge (tgt := 71) hx hb dX7_table_55 (by decide) (fun c22 => absurd c22 (by decide)) (fun _ => ?_)
    refine lv_aload_n hx hb dX7_table_58 rfl (lv_at hl 1 rfl) ?_
    refine va_get (D := D) (ci := 7) (v := .ref m_nowr) (C := RX7) (T := TX7) (N := 24) hx hb hts hiX7 hown hE.1 hP 0 rfl rfl 3 (by decide) (hts (.fieldLink RX7 16 "TiltTrayModel" "now" "[I") (by decide +kernel)) (fun _ h9 => h9) rfl dX7_table_59 ?_
    refine lv_iload_n hx hb dX7_table_62 rfl (lv_at hl 0 rfl) ?_
    refine lv_iconst (v := 0) hx hb dX7_table_63 (by decide) ?_
    refine va_iast hx hb hE.1 hP hD hS 3 0 rfl rfl (ix_in (by decide)) dX7_table_64 (fun H locs hP hD hS => ?_)
    have hP : va_P D vwCl (cMd mh m_kindr m_toldr m_nowr m_readToldr m_readCellr m_readKindr m_textr m_rowr m_seenCellr m_seenWayr m_seenCamer m_isKeptr m_keptr cy.1 cy.2.2.1 q16 m_kind (upd (upd (upd (upd (upd m_told (0 : Int32).toNatClampNeg (q8.2.1 (0 : Int32).toNatClampNeg)) (1 : Int32).toNatClampNeg (q8.2.1 (1 : Int32).toNatClampNeg)) (2 : Int32).toNatClampNeg (q8.2.1 (2 : Int32).toNatClampNeg)) (3 : Int32).toNatClampNeg (q8.2.1 (3 : Int32).toNatClampNeg)) (4 : Int32).toNatClampNeg (q8.2.1 (4 : Int32).toNatClampNeg)) (upd (upd (upd (upd (upd (upd m_now (0 : Int32).toNatClampNeg 0) (1 : Int32).toNatClampNeg 0) (2 : Int32).toNatClampNeg 0) (3 : Int32).toNatClampNeg 0) (4 : Int32).toNatClampNeg 0) (5 : Int32).toNatClampNeg 0) q8.2.1 q8.2.2.1 q8.2.2.2.1 m_text m_length q8.2.2.2.2.1 q8.2.2.2.2.2 m_there m_stopped m_acts m_next m_row m_bestRow m_seen m_seenCell m_seenWay m_seenCame m_seed m_isKept m_kept) H := hP
    have hD : va_D A (cMd mh m_kindr m_toldr m_nowr m_readToldr m_readCellr m_readKindr m_textr m_rowr m_seenCellr m_seenWayr m_seenCamer m_isKeptr m_keptr cy.1 cy.2.2.1 q16 m_kind (upd (upd (upd (upd (upd m_told (0 : Int32).toNatClampNeg (q8.2.1 (0 : Int32).toNatClampNeg)) (1 : Int32).toNatClampNeg (q8.2.1 (1 : Int32).toNatClampNeg)) (2 : Int32).toNatClampNeg (q8.2.1 (2 : Int32).toNatClampNeg)) (3 : Int32).toNatClampNeg (q8.2.1 (3 : Int32).toNatClampNeg)) (4 : Int32).toNatClampNeg (q8.2.1 (4 : Int32).toNatClampNeg)) (upd (upd (upd (upd (upd (upd m_now (0 : Int32).toNatClampNeg 0) (1 : Int32).toNatClampNeg 0) (2 : Int32).toNatClampNeg 0) (3 : Int32).toNatClampNeg 0) (4 : Int32).toNatClampNeg 0) (5 : Int32).toNatClampNeg 0) q8.2.1 q8.2.2.1 q8.2.2.2.1 m_text m_length q8.2.2.2.2.1 q8.2.2.2.2.2 m_there m_stopped m_acts m_next m_row m_bestRow m_seen m_seenCell m_seenWay m_seenCame m_seed m_isKept m_kept) := hD
    refine lv_iinc (v := 6) (lv' := [(1, .int 6), (0, .ref mh)]) hx hb dX7_table_65 hl (k := 0) rfl (by decide) (by decide) rfl (fun ls hl => ?_)
    refine lv_goto (tgt := 52) hx hb dX7_table_68 (by decide) ?_
    refine lv_iload_n hx hb dX7_table_52 rfl (lv_at hl 0 rfl) ?_
    refine lv_bipush (v := 7) hx hb dX7_table_53 (by decide) ?_
    refine lv_icmp_ge (tgt := 71) hx hb dX7_table_55 (by decide) (fun c23 => absurd c23 (by decide)) (fun _ => ?_)
    refine lv_aload_n hx hb dX7_table_58 rfl (lv_at hl 1 rfl) ?_
    refine va_get (D := D) (ci := 7) (v := .ref m_nowr) (C := RX7) (T := TX7) (N := 24) hx hb hts hiX7 hown hE.1 hP 0 rfl rfl 3 (by decide) (hts (.fieldLink RX7 16 "TiltTrayModel" "now" "[I") (by decide +kernel)) (fun _ h9 => h9) rfl dX7_table_59 ?_
    refine lv_iload_n hx hb dX7_table_62 rfl (lv_at hl 0 rfl) ?_
    refine lv_iconst (v := 0) hx hb dX7_table_63 (by decide) ?_
    refine va_iast hx hb hE.1 hP hD hS 3 0 rfl rfl (ix_in (by decide)) dX7_table_64 (fun H locs hP hD hS => ?_)
    have hP : va_P D vwCl (cMd mh m_kindr m_toldr m_nowr m_readToldr m_readCellr m_readKindr m_textr m_rowr m_seenCellr m_seenWayr m_seenCamer m_isKeptr m_keptr cy.1 cy.2.2.1 q16 m_kind (upd (upd (upd (upd (upd m_told (0 : Int32).toNatClampNeg (q8.2.1 (0 : Int32).toNatClampNeg)) (1 : Int32).toNatClampNeg (q8.2.1 (1 : Int32).toNatClampNeg)) (2 : Int32).toNatClampNeg (q8.2.1 (2 : Int32).toNatClampNeg)) (3 : Int32).toNatClampNeg (q8.2.1 (3 : Int32).toNatClampNeg)) (4 : Int32).toNatClampNeg (q8.2.1 (4 : Int32).toNatClampNeg)) (upd (upd (upd (upd (upd (upd (upd m_now (0 : Int32).toNatClampNeg 0) (1 : Int32).toNatClampNeg 0) (2 : Int32).toNatClampNeg 0) (3 : Int32).toNatClampNeg 0) (4 : Int32).toNatClampNeg 0) (5 : Int32).toNatClampNeg 0) (6 : Int32).toNatClampNeg 0) q8.2.1 q8.2.2.1 q8.2.2.2.1 m_text m_length q8.2.2.2.2.1 q8.2.2.2.2.2 m_there m_stopped m_acts m_next m_row m_bestRow m_seen m_seenCell m_seenWay m_seenCame m_seed m_isKept m_kept) H := hP
    have hD : va_D A (cMd mh m_kindr m_toldr m_nowr m_readToldr m_readCellr m_readKindr m_textr m_rowr m_seenCellr m_seenWayr m_seenCamer m_isKeptr m_keptr cy.1 cy.2.2.1 q16 m_kind (upd (upd (upd (upd (upd m_told (0 : Int32).toNatClampNeg (q8.2.1 (0 : Int32).toNatClampNeg)) (1 : Int32).toNatClampNeg (q8.2.1 (1 : Int32).toNatClampNeg)) (2 : Int32).toNatClampNeg (q8.2.1 (2 : Int32).toNatClampNeg)) (3 : Int32).toNatClampNeg (q8.2.1 (3 : Int32).toNatClampNeg)) (4 : Int32).toNatClampNeg (q8.2.1 (4 : Int32).toNatClampNeg)) (upd (upd (upd (upd (upd (upd (upd m_now (0 : Int32).toNatClampNeg 0) (1 : Int32).toNatClampNeg 0) (2 : Int32).toNatClampNeg 0) (3 : Int32).toNatClampNeg 0) (4 : Int32).toNatClampNeg 0) (5 : Int32).toNatClampNeg 0) (6 : Int32).toNatClampNeg 0) q8.2.1 q8.2.2.1 q8.2.2.2.1 m_text m_length q8.2.2.2.2.1 q8.2.2.2.2.2 m_there m_stopped m_acts m_next m_row m_bestRow m_seen m_seenCell m_seenWay m_seenCame m_seed m_isKept m_kept) := hD
    refine lv_iinc (v := 7) (lv' := [(1, .int 7), (0, .ref mh)]) hx hb dX7_table_65 hl (k := 0) rfl (by decide) (by decide) rfl (fun ls hl => ?_)
    refine lv_goto (tgt := 52) hx hb dX7_table_68 (by decide) ?_
    refine lv_iload_n hx hb dX7_table_52 rfl (lv_at hl 0 rfl) ?_
    refine lv_bipush (v := 7) hx hb dX7_table_53 (by decide) ?_
    refine lv_icmp_ge (tgt := 71) hx hb dX7_table_55 (by decide) (fun _ => ?_) (fun c24 => absurd c24 (by decide))
    refine lv_iconst (v := 0) hx hb dX7_table_71 (by decide) ?_
    refine lv_istore_n (lv' := [(1, .int 0), (0, .ref mh)]) hx hb dX7_table_72 rfl hl (by decide) rfl (fun ls hl => ?_)
    exact L73 6 0 q16 m_kind (upd (upd (upd (upd (upd m_told (0 : Int32).toNatClampNeg (q8.2.1 (0 : Int32).toNatClampNeg)) (1 : Int32).toNatClampNeg (q8.2.1 (1 : Int32).toNatClampNeg)) (2 : Int32).toNatClampNeg (q8.2.1 (2 : Int32).toNatClampNeg)) (3 : Int32).toNatClampNeg (q8.2.1 (3 : Int32).toNatClampNeg)) (4 : Int32).toNatClampNeg (q8.2.1 (4 : Int32).toNatClampNeg)) (upd (upd (upd (upd (upd (upd (upd m_now (0 : Int32).toNatClampNeg 0) (1 : Int32).toNatClampNeg 0) (2 : Int32).toNatClampNeg 0) (3 : Int32).toNatClampNeg 0) (4 : Int32).toNatClampNeg 0) (5 : Int32).toNatClampNeg 0) (6 : Int32).toNatClampNeg 0) q8.2.1 q8.2.2.1 q8.2.2.2.1 q8.2.2.2.2.1 q8.2.2.2.2.2 m_acts m_isKept _ _ _ (lv_sub hl [1, 0] rfl) hP hD hS h
  · have h := oif h c9
    refine lv_bipush (v := (-3)) hx hb dX7_table_9 (by decide) ?_
    obtain rfl := Option.some.inj h
    rw [hQ]; exact ct_iret hx hb hr hlocks hP hS rfl dX7_table_11
