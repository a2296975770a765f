def tw_X7_see (m_seen : Int32) (m_seenCell : Nat → Int32) (m_seenWay : Nat → Int32) (m_seenCame : Nat → Int32) (p1 : Int32) (p2 : Int32) (p3 : Int32) : Option (Int32 × Int32 × (Nat → Int32) × (Nat → Int32) × (Nat → Int32)) :=
  (tw_X7_isCell p1).bind (fun q1 => if q1 = 0 then (some ((-1), m_seen, m_seenCell, m_seenWay, m_seenCame)) else ((tw_X7_in p2.toInt64 0 3).bind (fun q3 => if q3 = 0 then (some ((-2), m_seen, m_seenCell, m_seenWay, m_seenCame)) else ((tw_X7_in p3.toInt64 0 25).bind (fun q5 => if q5 = 0 then (some ((-2), m_seen, m_seenCell, m_seenWay, m_seenCame)) else (if m_seen = 6 then (some ((-4), m_seen, m_seenCell, m_seenWay, m_seenCame)) else (if ix m_seen 6 = true then (if ix m_seen 6 = true then (if ix m_seen 6 = true then (some (m_seen + 1, m_seen + 1, upd m_seenCell m_seen.toNatClampNeg p1, upd m_seenWay m_seen.toNatClampNeg p2, upd m_seenCame m_seen.toNatClampNeg p3)) else none) else none) else none)))))))
set_option maxHeartbeats 4000000 in
set_option maxRecDepth 100000 in
theorem c_X7_see (l : Launch) (D : va_G) (cy : Cy) (mh : Nat) (m_kindr : Nat) (m_toldr : Nat) (m_nowr : Nat) (m_readToldr : Nat) (m_readCellr : Nat) (m_readKindr : Nat) (m_textr : Nat) (m_rowr : Nat) (m_seenCellr : Nat) (m_seenWayr : Nat) (m_seenCamer : Nat) (m_isKeptr : Nat) (m_keptr : Nat) (m_marbles : Int32) (m_kind : Nat → Int32) (m_told : Nat → Int32) (m_now : Nat → Int32) (m_readTold : Nat → Int32) (m_readCell : Nat → Int32) (m_readKind : Nat → Int32) (m_text : Nat → Int32) (m_length : Int32) (m_at : Int32) (m_faultAt : Int32) (m_there : Int32) (m_stopped : Int32) (m_acts : Int32) (m_next : Int32) (m_row : Nat → Int32) (m_bestRow : Int32) (m_seen : Int32) (m_seenCell : Nat → Int32) (m_seenWay : Nat → Int32) (m_seenCame : Nat → Int32) (m_seed : Int64) (m_isKept : Nat → Int32) (m_kept : Nat → Int32) (p1 : Int32) (p2 : Int32) (p3 : Int32) (res : Int32 × Int32 × (Nat → Int32) × (Nat → Int32) × (Nat → Int32)) (h : tw_X7_see m_seen m_seenCell m_seenWay m_seenCame p1 p2 p3 = some res) : Ct l yX7_see wsX7_see 2 45 D cy [.ref mh, .int p1, .int p2, .int p3] (cMd mh m_kindr m_toldr m_nowr m_readToldr m_readCellr m_readKindr m_textr m_rowr m_seenCellr m_seenWayr m_seenCamer m_isKeptr m_keptr cy.1 cy.2.2.1 m_marbles m_kind m_told m_now m_readTold m_readCell m_readKind m_text m_length m_at m_faultAt m_there m_stopped m_acts m_next m_row m_bestRow m_seen m_seenCell m_seenWay m_seenCame m_seed m_isKept m_kept) (cMd mh m_kindr m_toldr m_nowr m_readToldr m_readCellr m_readKindr m_textr m_rowr m_seenCellr m_seenWayr m_seenCamer m_isKeptr m_keptr cy.1 cy.2.2.1 m_marbles m_kind m_told m_now m_readTold m_readCell m_readKind m_text m_length m_at m_faultAt m_there m_stopped m_acts m_next m_row m_bestRow res.2.1 res.2.2.1 res.2.2.2.1 res.2.2.2.2 m_seed m_isKept m_kept) (some (.int res.1)) := by
  refine Ct.ofW (cc := cX7_see) (maxL := 4) (ret := (some .int)) (by decide) rfl (Nat.le_of_ble_eq_true rfl) ?_
  intro p e R s m args below meth c A Q ls hRf hRl hQ hx hb hr hml hts hown hlocks hE hP hD hS hA hl
  have hiX7 : ∀ w ∈ u_ws RX7 TX7 24, w ∈ wsX7_see := by decide +kernel
  have hl : lv_has ls 4 [(0, .ref mh), (1, .int p1), (2, .int p2), (3, .int p3)] := hl
  rw [tw_X7_see] at h
  refine lv_iload_n hx hb dX7_see_0 rfl (lv_at hl 1 rfl) ?_
  obtain ⟨q1, hq1, h⟩ := ob h
  refine kS (As := [.int p1]) (rest := []) (w2 := cMd mh m_kindr m_toldr m_nowr m_readToldr m_readCellr m_readKindr m_textr m_rowr m_seenCellr m_seenWayr m_seenCamer m_isKeptr m_keptr cy.1 cy.2.2.1 m_marbles m_kind m_told m_now m_readTold m_readCell m_readKind m_text m_length m_at m_faultAt m_there m_stopped m_acts m_next m_row m_bestRow m_seen m_seenCell m_seenWay m_seenCame m_seed m_isKept m_kept) (n := 1) ⟨hx, hb, hml, hown, hts⟩ (c_X7_isCell l D cy p1 q1 hq1) gX7_see_X7_isCell rfl (by decide +kernel) ⟨by rw [hRf]; exact Nat.le_of_ble_eq_true rfl, by rw [hRl]; exact Nat.le_of_ble_eq_true rfl⟩ hE hP hD hS hA [] rfl rfl rfl rfl rfl hl.1 rfl (Nat.le_of_ble_eq_true rfl) dX7_see_1 ⟨Nat.zero_le _, Nat.zero_le _⟩ (fun H locs hP hD hS => ?_)
  refine lv_if_ne (tgt := 9) hx hb dX7_see_4 (by decide) (fun c2 => ?_) (fun c2 => ?_)
  · have h := oif h c2
    refine lv_iload_n hx hb dX7_see_9 rfl (lv_at hl 2 rfl) ?_
    refine lv_i2l hx hb dX7_see_10 rfl ?_
    refine lv_lconst (v := 0) hx hb dX7_see_11 (by decide) ?_
    refine lv_ldc2 (v := 3) hx hb hown (hts (.constantLong RX7 86 (3)) (by decide +kernel)) dX7_see_12 ?_
    obtain ⟨q3, hq3, h⟩ := ob h
    refine kS (As := [.long p2.toInt64, .long 0, .long 3]) (rest := []) (w2 := cMd mh m_kindr m_toldr m_nowr m_readToldr m_readCellr m_readKindr m_textr m_rowr m_seenCellr m_seenWayr m_seenCamer m_isKeptr m_keptr cy.1 cy.2.2.1 m_marbles m_kind m_told m_now m_readTold m_readCell m_readKind m_text m_length m_at m_faultAt m_there m_stopped m_acts m_next m_row m_bestRow m_seen m_seenCell m_seenWay m_seenCame m_seed m_isKept m_kept) (n := 3) ⟨hx, hb, hml, hown, hts⟩ (c_X7_in l D cy p2.toInt64 0 3 q3 hq3) gX7_see_X7_in rfl (by decide +kernel) ⟨by rw [hRf]; exact Nat.le_of_ble_eq_true rfl, by rw [hRl]; exact Nat.le_of_ble_eq_true rfl⟩ hE hP hD hS hA [] rfl rfl rfl rfl rfl hl.1 rfl (Nat.le_of_ble_eq_true rfl) dX7_see_15 ⟨Nat.zero_le _, Nat.zero_le _⟩ (fun H locs hP hD hS => ?_)
    refine lv_if_eq (tgt := 33) hx hb dX7_see_18 (by decide) (fun c4 => ?_) (fun c4 => ?_)
    · have h := oit h c4
      refine lv_bipush (v := (-2)) hx hb dX7_see_33 (by decide) ?_
      obtain rfl := Option.some.inj h
      rw [hQ]; exact ct_iret hx hb hr hlocks hP hS rfl dX7_see_35
    · have h := oif h c4
      refine lv_iload_n hx hb dX7_see_21 rfl (lv_at hl 3 rfl) ?_
      refine lv_i2l hx hb dX7_see_22 rfl ?_
      refine lv_lconst (v := 0) hx hb dX7_see_23 (by decide) ?_
      refine lv_ldc2 (v := 25) hx hb hown (hts (.constantLong RX7 183 (25)) (by decide +kernel)) dX7_see_24 ?_
      obtain ⟨q5, hq5, h⟩ := ob h
      refine kS (As := [.long p3.toInt64, .long 0, .long 25]) (rest := []) (w2 := cMd mh m_kindr m_toldr m_nowr m_readToldr m_readCellr m_readKindr m_textr m_rowr m_seenCellr m_seenWayr m_seenCamer m_isKeptr m_keptr cy.1 cy.2.2.1 m_marbles m_kind m_told m_now m_readTold m_readCell m_readKind m_text m_length m_at m_faultAt m_there m_stopped m_acts m_next m_row m_bestRow m_seen m_seenCell m_seenWay m_seenCame m_seed m_isKept m_kept) (n := 3) ⟨hx, hb, hml, hown, hts⟩ (c_X7_in l D cy p3.toInt64 0 25 q5 hq5) gX7_see_X7_in rfl (by decide +kernel) ⟨by rw [hRf]; exact Nat.le_of_ble_eq_true rfl, by rw [hRl]; exact Nat.le_of_ble_eq_true rfl⟩ hE hP hD hS hA [] rfl rfl rfl rfl rfl hl.1 rfl (Nat.le_of_ble_eq_true rfl) dX7_see_27 ⟨Nat.zero_le _, Nat.zero_le _⟩ (fun H locs hP hD hS => ?_)
      refine lv_if_ne (tgt := 36) hx hb dX7_see_30 (by decide) (fun c6 => ?_) (fun c6 => ?_)
      · have h := oif h c6
        refine lv_aload_n hx hb dX7_see_36 rfl (lv_at hl 0 rfl) ?_
        refine va_get (D := D) (ci := 7) (v := .int m_seen) (C := RX7) (T := TX7) (N := 24) hx hb hts hiX7 hown hE.1 hP 0 rfl rfl 17 (by decide) (hts (.fieldLink RX7 185 "TiltTrayModel" "seen" "I") (by decide +kernel)) (fun _ h9 => h9) rfl dX7_see_37 ?_
        refine lv_bipush (v := 6) hx hb dX7_see_40 (by decide) ?_
        refine lv_icmp_ne (tgt := 48) hx hb dX7_see_42 (by decide) (fun c7 => ?_) (fun c7 => ?_)
        · have h := oif h c7
          refine lv_aload_n hx hb dX7_see_48 rfl (lv_at hl 0 rfl) ?_
          refine va_get (D := D) (ci := 7) (v := .ref m_seenCellr) (C := RX7) (T := TX7) (N := 24) hx hb hts hiX7 hown hE.1 hP 0 rfl rfl 18 (by decide) (hts (.fieldLink RX7 38 "TiltTrayModel" "seenCell" "[I") (by decide +kernel)) (fun _ h9 => h9) rfl dX7_see_49 ?_
          refine lv_aload_n hx hb dX7_see_52 rfl (lv_at hl 0 rfl) ?_
          refine va_get (D := D) (ci := 7) (v := .int m_seen) (C := RX7) (T := TX7) (N := 24) hx hb hts hiX7 hown hE.1 hP 0 rfl rfl 17 (by decide) (hts (.fieldLink RX7 185 "TiltTrayModel" "seen" "I") (by decide +kernel)) (fun _ h9 => h9) rfl dX7_see_53 ?_
          refine lv_iload_n hx hb dX7_see_56 rfl (lv_at hl 1 rfl) ?_
          obtain ⟨g8, h⟩ := og h
          refine va_iast hx hb hE.1 hP hD hS 9 0 rfl rfl (ix_in g8) dX7_see_57 (fun H locs hP hD hS => ?_)
          have hP : va_P D vwCl (cMd mh m_kindr m_toldr m_nowr m_readToldr m_readCellr m_readKindr m_textr m_rowr m_seenCellr m_seenWayr m_seenCamer m_isKeptr m_keptr cy.1 cy.2.2.1 m_marbles m_kind m_told m_now m_readTold m_readCell m_readKind m_text m_length m_at m_faultAt m_there m_stopped m_acts m_next m_row m_bestRow m_seen (upd m_seenCell m_seen.toNatClampNeg p1) m_seenWay m_seenCame m_seed m_isKept m_kept) H := hP
          have hD : va_D A (cMd mh m_kindr m_toldr m_nowr m_readToldr m_readCellr m_readKindr m_textr m_rowr m_seenCellr m_seenWayr m_seenCamer m_isKeptr m_keptr cy.1 cy.2.2.1 m_marbles m_kind m_told m_now m_readTold m_readCell m_readKind m_text m_length m_at m_faultAt m_there m_stopped m_acts m_next m_row m_bestRow m_seen (upd m_seenCell m_seen.toNatClampNeg p1) m_seenWay m_seenCame m_seed m_isKept m_kept) := hD
          refine lv_aload_n hx hb dX7_see_58 rfl (lv_at hl 0 rfl) ?_
          refine va_get (D := D) (ci := 7) (v := .ref m_seenWayr) (C := RX7) (T := TX7) (N := 24) hx hb hts hiX7 hown hE.1 hP 0 rfl rfl 19 (by decide) (hts (.fieldLink RX7 41 "TiltTrayModel" "seenWay" "[I") (by decide +kernel)) (fun _ h9 => h9) rfl dX7_see_59 ?_
          refine lv_aload_n hx hb dX7_see_62 rfl (lv_at hl 0 rfl) ?_
          refine va_get (D := D) (ci := 7) (v := .int m_seen) (C := RX7) (T := TX7) (N := 24) hx hb hts hiX7 hown hE.1 hP 0 rfl rfl 17 (by decide) (hts (.fieldLink RX7 185 "TiltTrayModel" "seen" "I") (by decide +kernel)) (fun _ h9 => h9) rfl dX7_see_63 ?_
          refine lv_iload_n hx hb dX7_see_66 rfl (lv_at hl 2 rfl) ?_
          obtain ⟨g9, h⟩ := og h
          refine va_iast hx hb hE.1 hP hD hS 10 0 rfl rfl (ix_in g9) dX7_see_67 (fun H locs hP hD hS => ?_)
          have hP : va_P D vwCl (cMd mh m_kindr m_toldr m_nowr m_readToldr m_readCellr m_readKindr m_textr m_rowr m_seenCellr m_seenWayr m_seenCamer m_isKeptr m_keptr cy.1 cy.2.2.1 m_marbles m_kind m_told m_now m_readTold m_readCell m_readKind m_text m_length m_at m_faultAt m_there m_stopped m_acts m_next m_row m_bestRow m_seen (upd m_seenCell m_seen.toNatClampNeg p1) (upd m_seenWay m_seen.toNatClampNeg p2) m_seenCame m_seed m_isKept m_kept) H := hP
          have hD : va_D A (cMd mh m_kindr m_toldr m_nowr m_readToldr m_readCellr m_readKindr m_textr m_rowr m_seenCellr m_seenWayr m_seenCamer m_isKeptr m_keptr cy.1 cy.2.2.1 m_marbles m_kind m_told m_now m_readTold m_readCell m_readKind m_text m_length m_at m_faultAt m_there m_stopped m_acts m_next m_row m_bestRow m_seen (upd m_seenCell m_seen.toNatClampNeg p1) (upd m_seenWay m_seen.toNatClampNeg p2) m_seenCame m_seed m_isKept m_kept) := hD
          refine lv_aload_n hx hb dX7_see_68 rfl (lv_at hl 0 rfl) ?_
          refine va_get (D := D) (ci := 7) (v := .ref m_seenCamer) (C := RX7) (T := TX7) (N := 24) hx hb hts hiX7 hown hE.1 hP 0 rfl rfl 20 (by decide) (hts (.fieldLink RX7 44 "TiltTrayModel" "seenCame" "[I") (by decide +kernel)) (fun _ h9 => h9) rfl dX7_see_69 ?_
          refine lv_aload_n hx hb dX7_see_72 rfl (lv_at hl 0 rfl) ?_
          refine va_get (D := D) (ci := 7) (v := .int m_seen) (C := RX7) (T := TX7) (N := 24) hx hb hts hiX7 hown hE.1 hP 0 rfl rfl 17 (by decide) (hts (.fieldLink RX7 185 "TiltTrayModel" "seen" "I") (by decide +kernel)) (fun _ h9 => h9) rfl dX7_see_73 ?_
          refine lv_iload_n hx hb dX7_see_76 rfl (lv_at hl 3 rfl) ?_
          obtain ⟨g10, h⟩ := og h
          refine va_iast hx hb hE.1 hP hD hS 11 0 rfl rfl (ix_in g10) dX7_see_77 (fun H locs hP hD hS => ?_)
          have hP : va_P D vwCl (cMd mh m_kindr m_toldr m_nowr m_readToldr m_readCellr m_readKindr m_textr m_rowr m_seenCellr m_seenWayr m_seenCamer m_isKeptr m_keptr cy.1 cy.2.2.1 m_marbles m_kind m_told m_now m_readTold m_readCell m_readKind m_text m_length m_at m_faultAt m_there m_stopped m_acts m_next m_row m_bestRow m_seen (upd m_seenCell m_seen.toNatClampNeg p1) (upd m_seenWay m_seen.toNatClampNeg p2) (upd m_seenCame m_seen.toNatClampNeg p3) m_seed m_isKept m_kept) H := hP
          have hD : va_D A (cMd mh m_kindr m_toldr m_nowr m_readToldr m_readCellr m_readKindr m_textr m_rowr m_seenCellr m_seenWayr m_seenCamer m_isKeptr m_keptr cy.1 cy.2.2.1 m_marbles m_kind m_told m_now m_readTold m_readCell m_readKind m_text m_length m_at m_faultAt m_there m_stopped m_acts m_next m_row m_bestRow m_seen (upd m_seenCell m_seen.toNatClampNeg p1) (upd m_seenWay m_seen.toNatClampNeg p2) (upd m_seenCame m_seen.toNatClampNeg p3) m_seed m_isKept m_kept) := hD
          refine lv_aload_n hx hb dX7_see_78 rfl (lv_at hl 0 rfl) ?_
          refine lv_dup hx hb dX7_see_79 rfl ?_
          refine va_get (D := D) (ci := 7) (v := .int m_seen) (C := RX7) (T := TX7) (N := 24) hx hb hts hiX7 hown hE.1 hP 0 rfl rfl 17 (by decide) (hts (.fieldLink RX7 185 "TiltTrayModel" "seen" "I") (by decide +kernel)) (fun _ h9 => h9) rfl dX7_see_80 ?_
          refine lv_iconst (v := 1) hx hb dX7_see_83 (by decide) ?_
          refine lv_iadd hx hb dX7_see_84 ?_
          refine va_put (D := D) (ci := 7) (v := .int (m_seen + 1)) (ty := .int) (C := RX7) (T := TX7) (N := 24) hx hb hts hiX7 tyX7 tyX7_ok nmX7 hown hE.1 hP hD hS 0 rfl rfl 17 (by decide) (hts (.fieldLink RX7 185 "TiltTrayModel" "seen" "I") (by decide +kernel)) (fun _ h9 => h9) rfl (by decide +kernel) rfl rfl (Nat.le_of_ble_eq_true rfl) dX7_see_85 (fun H locs hP hD hS => ?_)
          have hP : va_P D vwCl (cMd mh m_kindr m_toldr m_nowr m_readToldr m_readCellr m_readKindr m_textr m_rowr m_seenCellr m_seenWayr m_seenCamer m_isKeptr m_keptr cy.1 cy.2.2.1 m_marbles m_kind m_told m_now m_readTold m_readCell m_readKind m_text m_length m_at m_faultAt m_there m_stopped m_acts m_next m_row m_bestRow (m_seen + 1) (upd m_seenCell m_seen.toNatClampNeg p1) (upd m_seenWay m_seen.toNatClampNeg p2) (upd m_seenCame m_seen.toNatClampNeg p3) m_seed m_isKept m_kept) H := hP
          have hD : va_D A (cMd mh m_kindr m_toldr m_nowr m_readToldr m_readCellr m_readKindr m_textr m_rowr m_seenCellr m_seenWayr m_seenCamer m_isKeptr m_keptr cy.1 cy.2.2.1 m_marbles m_kind m_told m_now m_readTold m_readCell m_readKind m_text m_length m_at m_faultAt m_there m_stopped m_acts m_next m_row m_bestRow (m_seen + 1) (upd m_seenCell m_seen.toNatClampNeg p1) (upd m_seenWay m_seen.toNatClampNeg p2) (upd m_seenCame m_seen.toNatClampNeg p3) m_seed m_isKept m_kept) := hD
          refine lv_aload_n hx hb dX7_see_88 rfl (lv_at hl 0 rfl) ?_
          refine va_get (D := D) (ci := 7) (v := .int (m_seen + 1)) (C := RX7) (T := TX7) (N := 24) hx hb hts hiX7 hown hE.1 hP 0 rfl rfl 17 (by decide) (hts (.fieldLink RX7 185 "TiltTrayModel" "seen" "I") (by decide +kernel)) (fun _ h9 => h9) rfl dX7_see_89 ?_
          obtain rfl := Option.some.inj h
          rw [hQ]; exact ct_iret hx hb hr hlocks hP hS rfl dX7_see_92
        · have h := oit h c7
          refine lv_bipush (v := (-4)) hx hb dX7_see_45 (by decide) ?_
          obtain rfl := Option.some.inj h
          rw [hQ]; exact ct_iret hx hb hr hlocks hP hS rfl dX7_see_47
      · have h := oit h c6
        refine lv_bipush (v := (-2)) hx hb dX7_see_33 (by decide) ?_
        obtain rfl := Option.some.inj h
        rw [hQ]; exact ct_iret hx hb hr hlocks hP hS rfl dX7_see_35
  · have h := oit h c2
    refine lv_iconst (v := (-1)) hx hb dX7_see_7 (by decide) ?_
    obtain rfl := Option.some.inj h
    rw [hQ]; exact ct_iret hx hb hr hlocks hP hS rfl dX7_see_8

def tw_X7_unsee (m_seen : Int32) : Option (Int32 × Int32) :=
  some (m_seen, 0)
set_option maxHeartbeats 4000000 in
set_option maxRecDepth 100000 in
theorem c_X7_unsee (l : Launch) (D : va_G) (cy : Cy) (mh : Nat) (m_kindr : Nat) (m_toldr : Nat) (m_nowr : Nat) (m_readToldr : Nat) (m_readCellr : Nat) (m_readKindr : Nat) (m_textr : Nat) (m_rowr : Nat) (m_seenCellr : Nat) (m_seenWayr : Nat) (m_seenCamer : Nat) (m_isKeptr : Nat) (m_keptr : Nat) (m_marbles : Int32) (m_kind : Nat → Int32) (m_told : Nat → Int32) (m_now : Nat → Int32) (m_readTold : Nat → Int32) (m_readCell : Nat → Int32) (m_readKind : Nat → Int32) (m_text : Nat → Int32) (m_length : Int32) (m_at : Int32) (m_faultAt : Int32) (m_there : Int32) (m_stopped : Int32) (m_acts : Int32) (m_next : Int32) (m_row : Nat → Int32) (m_bestRow : Int32) (m_seen : Int32) (m_seenCell : Nat → Int32) (m_seenWay : Nat → Int32) (m_seenCame : Nat → Int32) (m_seed : Int64) (m_isKept : Nat → Int32) (m_kept : Nat → Int32) (res : Int32 × Int32) (h : tw_X7_unsee m_seen = some res) : Ct l yX7_unsee wsX7_unsee 0 0 D cy [.ref mh] (cMd mh m_kindr m_toldr m_nowr m_readToldr m_readCellr m_readKindr m_textr m_rowr m_seenCellr m_seenWayr m_seenCamer m_isKeptr m_keptr cy.1 cy.2.2.1 m_marbles m_kind m_told m_now m_readTold m_readCell m_readKind m_text m_length m_at m_faultAt m_there m_stopped m_acts m_next m_row m_bestRow m_seen m_seenCell m_seenWay m_seenCame m_seed m_isKept m_kept) (cMd mh m_kindr m_toldr m_nowr m_readToldr m_readCellr m_readKindr m_textr m_rowr m_seenCellr m_seenWayr m_seenCamer m_isKeptr m_keptr cy.1 cy.2.2.1 m_marbles m_kind m_told m_now m_readTold m_readCell m_readKind m_text m_length m_at m_faultAt m_there m_stopped m_acts m_next m_row m_bestRow res.2 m_seenCell m_seenWay m_seenCame m_seed m_isKept m_kept) (some (.int res.1)) := by
  refine Ct.ofW (cc := cX7_unsee) (maxL := 2) (ret := (some .int)) (by decide) rfl (Nat.le_of_ble_eq_true rfl) ?_
  intro p e R s m args below meth c A Q ls hRf hRl hQ hx hb hr hml hts hown hlocks hE hP hD hS hA hl
  have hiX7 : ∀ w ∈ u_ws RX7 TX7 24, w ∈ wsX7_unsee := by decide +kernel
  have hl : lv_has ls 2 [(0, .ref mh)] := hl
  rw [tw_X7_unsee] at h
  refine lv_aload_n hx hb dX7_unsee_0 rfl (lv_at hl 0 rfl) ?_
  refine va_get (D := D) (ci := 7) (v := .int m_seen) (C := RX7) (T := TX7) (N := 24) hx hb hts hiX7 hown hE.1 hP 0 rfl rfl 17 (by decide) (hts (.fieldLink RX7 185 "TiltTrayModel" "seen" "I") (by decide +kernel)) (fun _ h9 => h9) rfl dX7_unsee_1 ?_
  refine lv_istore_n (lv' := [(1, .int m_seen), (0, .ref mh)]) hx hb dX7_unsee_4 rfl hl (by decide) rfl (fun ls hl => ?_)
  refine lv_aload_n hx hb dX7_unsee_5 rfl (lv_at hl 1 rfl) ?_
  refine lv_iconst (v := 0) hx hb dX7_unsee_6 (by decide) ?_
  refine va_put (D := D) (ci := 7) (v := .int 0) (ty := .int) (C := RX7) (T := TX7) (N := 24) hx hb hts hiX7 tyX7 tyX7_ok nmX7 hown hE.1 hP hD hS 0 rfl rfl 17 (by decide) (hts (.fieldLink RX7 185 "TiltTrayModel" "seen" "I") (by decide +kernel)) (fun _ h9 => h9) rfl (by decide +kernel) rfl rfl (Nat.le_of_ble_eq_true rfl) dX7_unsee_7 (fun H locs hP hD hS => ?_)
  have hP : va_P D vwCl (cMd mh m_kindr m_toldr m_nowr m_readToldr m_readCellr m_readKindr m_textr m_rowr m_seenCellr m_seenWayr m_seenCamer m_isKeptr m_keptr cy.1 cy.2.2.1 m_marbles m_kind m_told m_now m_readTold m_readCell m_readKind m_text m_length m_at m_faultAt m_there m_stopped m_acts m_next m_row m_bestRow 0 m_seenCell m_seenWay m_seenCame m_seed m_isKept m_kept) H := hP
  have hD : va_D A (cMd mh m_kindr m_toldr m_nowr m_readToldr m_readCellr m_readKindr m_textr m_rowr m_seenCellr m_seenWayr m_seenCamer m_isKeptr m_keptr cy.1 cy.2.2.1 m_marbles m_kind m_told m_now m_readTold m_readCell m_readKind m_text m_length m_at m_faultAt m_there m_stopped m_acts m_next m_row m_bestRow 0 m_seenCell m_seenWay m_seenCame m_seed m_isKept m_kept) := hD
  refine lv_iload_n hx hb dX7_unsee_10 rfl (lv_at hl 0 rfl) ?_
  obtain rfl := Option.some.inj h
  rw [hQ]; exact ct_iret hx hb hr hlocks hP hS rfl dX7_unsee_11

def tw_X7_alone_11 (m_told : Nat → Int32) (p1 : Int32) (p2 : Int32) (p3 : Int32) : Nat → Int32 → Int32 → Option (Int32)
  | 0, _, _ => none
  | n + 1, x4, x5 =>
    if x5 = (-9) then (some (x4)) else (if x5 = p3 then (some (x4)) else ((tw_X7_has ((m_told (0 : Int32).toNatClampNeg) ||| (m_told (3 : Int32).toNatClampNeg)) x5).bind (fun q3 => if q3 = 0 then ((tw_X7_has (m_told (1 : Int32).toNatClampNeg) x5).bind (fun q5 => if q5 = 0 then ((tw_X7_onward x5 p2).bind (fun q7 => (tw_X7_alone_11 m_told p1 p2 p3 n) x5 q7)) else (some (25)))) else (some (x4)))))
def tw_X7_alone (m_told : Nat → Int32) (p1 : Int32) (p2 : Int32) (p3 : Int32) : Option (Int32) :=
  (tw_X7_onward p1 p2).bind (fun q8 => tw_X7_alone_11 m_told p1 p2 p3 7 p1 q8)
set_option maxHeartbeats 4000000 in
set_option maxRecDepth 100000 in
theorem c_X7_alone (l : Launch) (D : va_G) (cy : Cy) (mh : Nat) (m_kindr : Nat) (m_toldr : Nat) (m_nowr : Nat) (m_readToldr : Nat) (m_readCellr : Nat) (m_readKindr : Nat) (m_textr : Nat) (m_rowr : Nat) (m_seenCellr : Nat) (m_seenWayr : Nat) (m_seenCamer : Nat) (m_isKeptr : Nat) (m_keptr : Nat) (m_marbles : Int32) (m_kind : Nat → Int32) (m_told : Nat → Int32) (m_now : Nat → Int32) (m_readTold : Nat → Int32) (m_readCell : Nat → Int32) (m_readKind : Nat → Int32) (m_text : Nat → Int32) (m_length : Int32) (m_at : Int32) (m_faultAt : Int32) (m_there : Int32) (m_stopped : Int32) (m_acts : Int32) (m_next : Int32) (m_row : Nat → Int32) (m_bestRow : Int32) (m_seen : Int32) (m_seenCell : Nat → Int32) (m_seenWay : Nat → Int32) (m_seenCame : Nat → Int32) (m_seed : Int64) (m_isKept : Nat → Int32) (m_kept : Nat → Int32) (p1 : Int32) (p2 : Int32) (p3 : Int32) (res : Int32) (h : tw_X7_alone m_told p1 p2 p3 = some res) : Ct l yX7_alone wsX7_alone 1 21 D cy [.ref mh, .int p1, .int p2, .int p3] (cMd mh m_kindr m_toldr m_nowr m_readToldr m_readCellr m_readKindr m_textr m_rowr m_seenCellr m_seenWayr m_seenCamer m_isKeptr m_keptr cy.1 cy.2.2.1 m_marbles m_kind m_told m_now m_readTold m_readCell m_readKind m_text m_length m_at m_faultAt m_there m_stopped m_acts m_next m_row m_bestRow m_seen m_seenCell m_seenWay m_seenCame m_seed m_isKept m_kept) (cMd mh m_kindr m_toldr m_nowr m_readToldr m_readCellr m_readKindr m_textr m_rowr m_seenCellr m_seenWayr m_seenCamer m_isKeptr m_keptr cy.1 cy.2.2.1 m_marbles m_kind m_told m_now m_readTold m_readCell m_readKind m_text m_length m_at m_faultAt m_there m_stopped m_acts m_next m_row m_bestRow m_seen m_seenCell m_seenWay m_seenCame m_seed m_isKept m_kept) (some (.int res)) := by
  refine Ct.ofW (cc := cX7_alone) (maxL := 6) (ret := (some .int)) (by decide) rfl (Nat.le_of_ble_eq_true rfl) ?_
  intro p e R s m args below meth c A Q ls hRf hRl hQ hx hb hr hml hts hown hlocks hE hP hD hS hA hl
  have hiX7 : ∀ w ∈ u_ws RX7 TX7 24, w ∈ wsX7_alone := by decide +kernel
  have hl : lv_has ls 6 [(0, .ref mh), (1, .int p1), (2, .int p2), (3, .int p3)] := hl
  rw [tw_X7_alone] at h
  have L11 : ∀ (n : Nat) (x4 : Int32) (x5 : Int32)  (H : Heap) (locs : List Loc) (ls : Array Slot), lv_has ls 6 [(0, .ref mh), (2, .int p2), (3, .int p3), (4, .int x4), (5, .int x5)] → va_P D vwCl (cMd mh m_kindr m_toldr m_nowr m_readToldr m_readCellr m_readKindr m_textr m_rowr m_seenCellr m_seenWayr m_seenCamer m_isKeptr m_keptr cy.1 cy.2.2.1 m_marbles m_kind m_told m_now m_readTold m_readCell m_readKind m_text m_length m_at m_faultAt m_there m_stopped m_acts m_next m_row m_bestRow m_seen m_seenCell m_seenWay m_seenCame m_seed m_isKept m_kept) H → va_D A (cMd mh m_kindr m_toldr m_nowr m_readToldr m_readCellr m_readKindr m_textr m_rowr m_seenCellr m_seenWayr m_seenCamer m_isKeptr m_keptr cy.1 cy.2.2.1 m_marbles m_kind m_told m_now m_readTold m_readCell m_readKind m_text m_length m_at m_faultAt m_there m_stopped m_acts m_next m_row m_bestRow m_seen m_seenCell m_seenWay m_seenCame m_seed m_isKept m_kept) → va_S A s.heap H locs → tw_X7_alone_11 m_told p1 p2 p3 n x4 x5 = some res → W p l e R s m args below meth c H locs 0 0 Q (F0 m 11 ls []) := by
    intro n11
    induction n11 with
    | zero =>
      intro x4 x5  H locs ls hl hP hD hS h
      exact absurd h (by rw [tw_X7_alone_11]; exact fun q => by cases q)
    | succ n11 ih11 =>
      intro x4 x5  H locs ls hl hP hD hS h
      rw [tw_X7_alone_11] at h
      refine lv_iload hx hb dX7_alone_11 (lv_at hl 4 rfl) ?_
      refine lv_bipush (v := (-9)) hx hb dX7_alone_13 (by decide) ?_
      refine lv_icmp_eq (tgt := 77) hx hb dX7_alone_15 (by decide) (fun c1 => ?_) (fun c1 => ?_)
      · have h := oit h c1
        refine lv_iload hx hb dX7_alone_77 (lv_at hl 3 rfl) ?_
        obtain rfl := Option.some.inj h
        rw [hQ]; exact ct_iret hx hb hr hlocks hP hS rfl dX7_alone_79
      · have h := oif h c1
        refine lv_iload hx hb dX7_alone_18 (lv_at hl 4 rfl) ?_
        refine lv_iload_n hx hb dX7_alone_20 rfl (lv_at hl 2 rfl) ?_
        refine lv_icmp_eq (tgt := 77) hx hb dX7_alone_21 (by decide) (fun c2 => ?_) (fun c2 => ?_)
        · have h := oit h c2
          refine lv_iload hx hb dX7_alone_77 (lv_at hl 3 rfl) ?_
          obtain rfl := Option.some.inj h
          rw [hQ]; exact ct_iret hx hb hr hlocks hP hS rfl dX7_alone_79
        · have h := oif h c2
          refine lv_aload_n hx hb dX7_alone_24 rfl (lv_at hl 0 rfl) ?_
          refine va_get (D := D) (ci := 7) (v := .ref m_toldr) (C := RX7) (T := TX7) (N := 24) hx hb hts hiX7 hown hE.1 hP 0 rfl rfl 2 (by decide) (hts (.fieldLink RX7 13 "TiltTrayModel" "told" "[I") (by decide +kernel)) (fun _ h9 => h9) rfl dX7_alone_25 ?_
          refine lv_iconst (v := 0) hx hb dX7_alone_28 (by decide) ?_
          refine va_iald hx hb hE.1 hP 2 0 rfl rfl (ix_in (by decide)) dX7_alone_29 ?_
          refine lv_aload_n hx hb dX7_alone_30 rfl (lv_at hl 0 rfl) ?_
          refine va_get (D := D) (ci := 7) (v := .ref m_toldr) (C := RX7) (T := TX7) (N := 24) hx hb hts hiX7 hown hE.1 hP 0 rfl rfl 2 (by decide) (hts (.fieldLink RX7 13 "TiltTrayModel" "told" "[I") (by decide +kernel)) (fun _ h9 => h9) rfl dX7_alone_31 ?_
          refine lv_iconst (v := 3) hx hb dX7_alone_34 (by decide) ?_
          refine va_iald hx hb hE.1 hP 2 0 rfl rfl (ix_in (by decide)) dX7_alone_35 ?_
          refine lv_ior hx hb dX7_alone_36 ?_
          refine lv_iload hx hb dX7_alone_37 (lv_at hl 4 rfl) ?_
          obtain ⟨q3, hq3, h⟩ := ob h
          refine kS (As := [.int ((m_told (0 : Int32).toNatClampNeg) ||| (m_told (3 : Int32).toNatClampNeg)), .int x5]) (rest := []) (w2 := cMd mh m_kindr m_toldr m_nowr m_readToldr m_readCellr m_readKindr m_textr m_rowr m_seenCellr m_seenWayr m_seenCamer m_isKeptr m_keptr cy.1 cy.2.2.1 m_marbles m_kind m_told m_now m_readTold m_readCell m_readKind m_text m_length m_at m_faultAt m_there m_stopped m_acts m_next m_row m_bestRow m_seen m_seenCell m_seenWay m_seenCame m_seed m_isKept m_kept) (n := 2) ⟨hx, hb, hml, hown, hts⟩ (c_X7_has l D cy ((m_told (0 : Int32).toNatClampNeg) ||| (m_told (3 : Int32).toNatClampNeg)) x5 q3 hq3) gX7_alone_X7_has rfl (by decide +kernel) ⟨by rw [hRf]; exact Nat.le_of_ble_eq_true rfl, by rw [hRl]; exact Nat.le_of_ble_eq_true rfl⟩ hE hP hD hS hA [] rfl rfl rfl rfl rfl hl.1 rfl (Nat.le_of_ble_eq_true rfl) dX7_alone_39 ⟨Nat.zero_le _, Nat.zero_le _⟩ (fun H locs hP hD hS => ?_)
          refine lv_if_ne (tgt := 77) hx hb dX7_alone_42 (by decide) (fun c4 => ?_) (fun c4 => ?_)
          · have h := oif h c4
            refine lv_iload hx hb dX7_alone_77 (lv_at hl 3 rfl) ?_
            obtain rfl := Option.some.inj h
            rw [hQ]; exact ct_iret hx hb hr hlocks hP hS rfl dX7_alone_79
          · have h := oit h c4
            refine lv_iload hx hb dX7_alone_45 (lv_at hl 4 rfl) ?_
            refine lv_istore (lv' := [(4, .int x5), (0, .ref mh), (2, .int p2), (3, .int p3), (5, .int x5)]) hx hb dX7_alone_47 hl (by decide) rfl (fun ls hl => ?_)
            refine lv_aload_n hx hb dX7_alone_49 rfl (lv_at hl 1 rfl) ?_
            refine va_get (D := D) (ci := 7) (v := .ref m_toldr) (C := RX7) (T := TX7) (N := 24) hx hb hts hiX7 hown hE.1 hP 0 rfl rfl 2 (by decide) (hts (.fieldLink RX7 13 "TiltTrayModel" "told" "[I") (by decide +kernel)) (fun _ h9 => h9) rfl dX7_alone_50 ?_
            refine lv_iconst (v := 1) hx hb dX7_alone_53 (by decide) ?_
            refine va_iald hx hb hE.1 hP 2 0 rfl rfl (ix_in (by decide)) dX7_alone_54 ?_
            refine lv_iload hx hb dX7_alone_55 (lv_at hl 0 rfl) ?_
            obtain ⟨q5, hq5, h⟩ := ob h
            refine kS (As := [.int (m_told (1 : Int32).toNatClampNeg), .int x5]) (rest := []) (w2 := cMd mh m_kindr m_toldr m_nowr m_readToldr m_readCellr m_readKindr m_textr m_rowr m_seenCellr m_seenWayr m_seenCamer m_isKeptr m_keptr cy.1 cy.2.2.1 m_marbles m_kind m_told m_now m_readTold m_readCell m_readKind m_text m_length m_at m_faultAt m_there m_stopped m_acts m_next m_row m_bestRow m_seen m_seenCell m_seenWay m_seenCame m_seed m_isKept m_kept) (n := 2) ⟨hx, hb, hml, hown, hts⟩ (c_X7_has l D cy (m_told (1 : Int32).toNatClampNeg) x5 q5 hq5) gX7_alone_X7_has rfl (by decide +kernel) ⟨by rw [hRf]; exact Nat.le_of_ble_eq_true rfl, by rw [hRl]; exact Nat.le_of_ble_eq_true rfl⟩ hE hP hD hS hA [] rfl rfl rfl rfl rfl hl.1 rfl (Nat.le_of_ble_eq_true rfl) dX7_alone_57 ⟨Nat.zero_le _, Nat.zero_le _⟩ (fun H locs hP hD hS => ?_)
            refine lv_if_eq (tgt := 66) hx hb dX7_alone_60 (by decide) (fun c6 => ?_) (fun c6 => ?_)
            · have h := oit h c6
              refine lv_iload hx hb dX7_alone_66 (lv_at hl 0 rfl) ?_
              refine lv_iload_n hx hb dX7_alone_68 rfl (lv_at hl 2 rfl) ?_
              obtain ⟨q7, hq7, h⟩ := ob h
              refine kS (As := [.int x5, .int p2]) (rest := []) (w2 := cMd mh m_kindr m_toldr m_nowr m_readToldr m_readCellr m_readKindr m_textr m_rowr m_seenCellr m_seenWayr m_seenCamer m_isKeptr m_keptr cy.1 cy.2.2.1 m_marbles m_kind m_told m_now m_readTold m_readCell m_readKind m_text m_length m_at m_faultAt m_there m_stopped m_acts m_next m_row m_bestRow m_seen m_seenCell m_seenWay m_seenCame m_seed m_isKept m_kept) (n := 2) ⟨hx, hb, hml, hown, hts⟩ (c_X7_onward l D cy x5 p2 q7 hq7) gX7_alone_X7_onward rfl (by decide +kernel) ⟨by rw [hRf]; exact Nat.le_of_ble_eq_true rfl, by rw [hRl]; exact Nat.le_of_ble_eq_true rfl⟩ hE hP hD hS hA [] rfl rfl rfl rfl rfl hl.1 rfl (Nat.le_of_ble_eq_true rfl) dX7_alone_69 ⟨Nat.zero_le _, Nat.zero_le _⟩ (fun H locs hP hD hS => ?_)
              refine lv_istore (lv' := [(5, .int q7), (4, .int x5), (0, .ref mh), (2, .int p2), (3, .int p3)]) hx hb dX7_alone_72 hl (by decide) rfl (fun ls hl => ?_)
              refine lv_goto (tgt := 11) hx hb dX7_alone_74 (by decide) ?_
              exact ih11 x5 q7 _ _ _ (lv_sub hl [2, 3, 4, 1, 0] rfl) hP hD hS h
            · have h := oif h c6
              refine lv_bipush (v := 25) hx hb dX7_alone_63 (by decide) ?_
              obtain rfl := Option.some.inj h
              rw [hQ]; exact ct_iret hx hb hr hlocks hP hS rfl dX7_alone_65
  refine lv_iload_n hx hb dX7_alone_0 rfl (lv_at hl 1 rfl) ?_
  refine lv_istore (lv' := [(4, .int p1), (0, .ref mh), (1, .int p1), (2, .int p2), (3, .int p3)]) hx hb dX7_alone_1 hl (by decide) rfl (fun ls hl => ?_)
  refine lv_iload hx hb dX7_alone_3 (lv_at hl 0 rfl) ?_
  refine lv_iload_n hx hb dX7_alone_5 rfl (lv_at hl 3 rfl) ?_
  obtain ⟨q8, hq8, h⟩ := ob h
  refine kS (As := [.int p1, .int p2]) (rest := []) (w2 := cMd mh m_kindr m_toldr m_nowr m_readToldr m_readCellr m_readKindr m_textr m_rowr m_seenCellr m_seenWayr m_seenCamer m_isKeptr m_keptr cy.1 cy.2.2.1 m_marbles m_kind m_told m_now m_readTold m_readCell m_readKind m_text m_length m_at m_faultAt m_there m_stopped m_acts m_next m_row m_bestRow m_seen m_seenCell m_seenWay m_seenCame m_seed m_isKept m_kept) (n := 2) ⟨hx, hb, hml, hown, hts⟩ (c_X7_onward l D cy p1 p2 q8 hq8) gX7_alone_X7_onward rfl (by decide +kernel) ⟨by rw [hRf]; exact Nat.le_of_ble_eq_true rfl, by rw [hRl]; exact Nat.le_of_ble_eq_true rfl⟩ hE hP hD hS hA [] rfl rfl rfl rfl rfl hl.1 rfl (Nat.le_of_ble_eq_true rfl) dX7_alone_6 ⟨Nat.zero_le _, Nat.zero_le _⟩ (fun H locs hP hD hS => ?_)
  refine lv_istore (lv' := [(5, .int q8), (4, .int p1), (0, .ref mh), (1, .int p1), (2, .int p2), (3, .int p3)]) hx hb dX7_alone_9 hl (by decide) rfl (fun ls hl => ?_)
  exact L11 7 p1 q8 _ _ _ (lv_sub hl [2, 4, 5, 1, 0] rfl) hP hD hS h

def tw_X7_hidden_150 (m_told : Nat → Int32) (m_seen : Int32) (m_seenCell : Nat → Int32) (m_seenWay : Nat → Int32) (m_seenCame : Nat → Int32) (k32 : Int32 → Int32 → Int32 → Option (Int32)) (x1 : Int32) (x2 : Int32) (x3 : Int32) (x4 : Int32) : Option (Int32) :=
  if x4 = 0 then (k32 x1 (x2 ||| 0) (x3 + 1)) else (k32 x1 (x2 ||| (1 <<< (x3 &&& 31))) (x3 + 1))
def tw_X7_hidden_56 (m_told : Nat → Int32) (m_seen : Int32) (m_seenCell : Nat → Int32) (m_seenWay : Nat → Int32) (m_seenCame : Nat → Int32) (k32 : Int32 → Int32 → Int32 → Option (Int32)) : Nat → Int32 → Int32 → Int32 → Int32 → Int32 → Option (Int32)
  | 0, _, _, _, _, _ => none
  | n + 1, x1, x2, x3, x4, x5 =>
    if m_seen ≤ x5 then (tw_X7_hidden_150 m_told m_seen m_seenCell m_seenWay m_seenCame k32 x1 x2 x3 x4) else (if x4 = 0 then (tw_X7_hidden_150 m_told m_seen m_seenCell m_seenWay m_seenCame k32 x1 x2 x3 x4) else (if ix x5 6 = true then (if (m_seenCell x5.toNatClampNeg) = x3 then ((tw_X7_hidden_56 m_told m_seen m_seenCell m_seenWay m_seenCame k32 n) x1 x2 x3 0 (x5 + 1)) else ((tw_X7_has (((m_told (0 : Int32).toNatClampNeg) ||| (m_told (1 : Int32).toNatClampNeg)) ||| (m_told (3 : Int32).toNatClampNeg)) (m_seenCell x5.toNatClampNeg)).bind (fun q6 => if q6 = 0 then (if ix x5 6 = true then ((tw_X7_alone m_told (m_seenCell x5.toNatClampNeg) (m_seenWay x5.toNatClampNeg) x3).bind (fun q9 => if ix x5 6 = true then (if q9 = (m_seenCame x5.toNatClampNeg) then ((tw_X7_hidden_56 m_told m_seen m_seenCell m_seenWay m_seenCame k32 n) x1 x2 x3 1 (x5 + 1)) else ((tw_X7_hidden_56 m_told m_seen m_seenCell m_seenWay m_seenCame k32 n) x1 x2 x3 0 (x5 + 1))) else none)) else none) else ((tw_X7_hidden_56 m_told m_seen m_seenCell m_seenWay m_seenCame k32 n) x1 x2 x3 0 (x5 + 1))))) else none))
def tw_X7_hidden_32 (m_told : Nat → Int32) (m_seen : Int32) (m_seenCell : Nat → Int32) (m_seenWay : Nat → Int32) (m_seenCame : Nat → Int32) : Nat → Int32 → Int32 → Int32 → Option (Int32)
  | 0, _, _, _ => none
  | n + 1, x1, x2, x3 =>
    if 25 ≤ x3 then (some (x2)) else ((tw_X7_has x1 x3).bind (fun q13 => if q13 = 0 then (tw_X7_hidden_56 m_told m_seen m_seenCell m_seenWay m_seenCame (tw_X7_hidden_32 m_told m_seen m_seenCell m_seenWay m_seenCame n) 7 x1 x2 x3 1 0) else (tw_X7_hidden_56 m_told m_seen m_seenCell m_seenWay m_seenCame (tw_X7_hidden_32 m_told m_seen m_seenCell m_seenWay m_seenCame n) 7 x1 x2 x3 0 0)))
def tw_X7_hidden (m_told : Nat → Int32) (m_seen : Int32) (m_seenCell : Nat → Int32) (m_seenWay : Nat → Int32) (m_seenCame : Nat → Int32) : Option (Int32) :=
  nm ((((m_told (0 : Int32).toNatClampNeg) ||| (m_told (1 : Int32).toNatClampNeg)) ||| (m_told (2 : Int32).toNatClampNeg)) ||| (m_told (3 : Int32).toNatClampNeg)) (fun v15 => tw_X7_hidden_32 m_told m_seen m_seenCell m_seenWay m_seenCame 26 v15 0 0)
set_option maxHeartbeats 4000000 in
set_option maxRecDepth 100000 in
theorem c_X7_hidden (l : Launch) (D : va_G) (cy : Cy) (mh : Nat) (m_kindr : Nat) (m_toldr : Nat) (m_nowr : Nat) (m_readToldr : Nat) (m_readCellr : Nat) (m_readKindr : Nat) (m_textr : Nat) (m_rowr : Nat) (m_seenCellr : Nat) (m_seenWayr : Nat) (m_seenCamer : Nat) (m_isKeptr : Nat) (m_keptr : Nat) (m_marbles : Int32) (m_kind : Nat → Int32) (m_told : Nat → Int32) (m_now : Nat → Int32) (m_readTold : Nat → Int32) (m_readCell : Nat → Int32) (m_readKind : Nat → Int32) (m_text : Nat → Int32) (m_length : Int32) (m_at : Int32) (m_faultAt : Int32) (m_there : Int32) (m_stopped : Int32) (m_acts : Int32) (m_next : Int32) (m_row : Nat → Int32) (m_bestRow : Int32) (m_seen : Int32) (m_seenCell : Nat → Int32) (m_seenWay : Nat → Int32) (m_seenCame : Nat → Int32) (m_seed : Int64) (m_isKept : Nat → Int32) (m_kept : Nat → Int32) (res : Int32) (h : tw_X7_hidden m_told m_seen m_seenCell m_seenWay m_seenCame = some res) : Ct l yX7_hidden wsX7_hidden 2 46 D cy [.ref mh] (cMd mh m_kindr m_toldr m_nowr m_readToldr m_readCellr m_readKindr m_textr m_rowr m_seenCellr m_seenWayr m_seenCamer m_isKeptr m_keptr cy.1 cy.2.2.1 m_marbles m_kind m_told m_now m_readTold m_readCell m_readKind m_text m_length m_at m_faultAt m_there m_stopped m_acts m_next m_row m_bestRow m_seen m_seenCell m_seenWay m_seenCame m_seed m_isKept m_kept) (cMd mh m_kindr m_toldr m_nowr m_readToldr m_readCellr m_readKindr m_textr m_rowr m_seenCellr m_seenWayr m_seenCamer m_isKeptr m_keptr cy.1 cy.2.2.1 m_marbles m_kind m_told m_now m_readTold m_readCell m_readKind m_text m_length m_at m_faultAt m_there m_stopped m_acts m_next m_row m_bestRow m_seen m_seenCell m_seenWay m_seenCame m_seed m_isKept m_kept) (some (.int res)) := by
  refine Ct.ofW (cc := cX7_hidden) (maxL := 7) (ret := (some .int)) (by decide) rfl (Nat.le_of_ble_eq_true rfl) ?_
  intro p e R s m args below meth c A Q ls hRf hRl hQ hx hb hr hml hts hown hlocks hE hP hD hS hA hl
  have hiX7 : ∀ w ∈ u_ws RX7 TX7 24, w ∈ wsX7_hidden := by decide +kernel
  have hl : lv_has ls 7 [(0, .ref mh)] := hl
  rw [tw_X7_hidden] at h
  have L32 : ∀ (n : Nat) (x1 : Int32) (x2 : Int32) (x3 : Int32)  (H : Heap) (locs : List Loc) (ls : Array Slot), lv_has ls 7 [(0, .ref mh), (1, .int x1), (2, .int x2), (3, .int x3)] → va_P D vwCl (cMd mh m_kindr m_toldr m_nowr m_readToldr m_readCellr m_readKindr m_textr m_rowr m_seenCellr m_seenWayr m_seenCamer m_isKeptr m_keptr cy.1 cy.2.2.1 m_marbles m_kind m_told m_now m_readTold m_readCell m_readKind m_text m_length m_at m_faultAt m_there m_stopped m_acts m_next m_row m_bestRow m_seen m_seenCell m_seenWay m_seenCame m_seed m_isKept m_kept) H → va_D A (cMd mh m_kindr m_toldr m_nowr m_readToldr m_readCellr m_readKindr m_textr m_rowr m_seenCellr m_seenWayr m_seenCamer m_isKeptr m_keptr cy.1 cy.2.2.1 m_marbles m_kind m_told m_now m_readTold m_readCell m_readKind m_text m_length m_at m_faultAt m_there m_stopped m_acts m_next m_row m_bestRow m_seen m_seenCell m_seenWay m_seenCame m_seed m_isKept m_kept) → va_S A s.heap H locs → tw_X7_hidden_32 m_told m_seen m_seenCell m_seenWay m_seenCame n x1 x2 x3 = some res → W p l e R s m args below meth c H locs 0 0 Q (F0 m 32 ls []) := by
    intro n32
    induction n32 with
    | zero =>
      intro x1 x2 x3  H locs ls hl hP hD hS h
      exact absurd h (by rw [tw_X7_hidden_32]; exact fun q => by cases q)
    | succ n32 ih32 =>
      intro x1 x2 x3  H locs ls hl hP hD hS h
      rw [tw_X7_hidden_32] at h
      have L150 : ∀ (x1 : Int32) (x2 : Int32) (x3 : Int32) (x4 : Int32)  (H : Heap) (locs : List Loc) (ls : Array Slot), lv_has ls 7 [(0, .ref mh), (1, .int x1), (2, .int x2), (3, .int x3), (4, .int x4)] → va_P D vwCl (cMd mh m_kindr m_toldr m_nowr m_readToldr m_readCellr m_readKindr m_textr m_rowr m_seenCellr m_seenWayr m_seenCamer m_isKeptr m_keptr cy.1 cy.2.2.1 m_marbles m_kind m_told m_now m_readTold m_readCell m_readKind m_text m_length m_at m_faultAt m_there m_stopped m_acts m_next m_row m_bestRow m_seen m_seenCell m_seenWay m_seenCame m_seed m_isKept m_kept) H → va_D A (cMd mh m_kindr m_toldr m_nowr m_readToldr m_readCellr m_readKindr m_textr m_rowr m_seenCellr m_seenWayr m_seenCamer m_isKeptr m_keptr cy.1 cy.2.2.1 m_marbles m_kind m_told m_now m_readTold m_readCell m_readKind m_text m_length m_at m_faultAt m_there m_stopped m_acts m_next m_row m_bestRow m_seen m_seenCell m_seenWay m_seenCame m_seed m_isKept m_kept) → va_S A s.heap H locs → tw_X7_hidden_150 m_told m_seen m_seenCell m_seenWay m_seenCame (tw_X7_hidden_32 m_told m_seen m_seenCell m_seenWay m_seenCame n32) x1 x2 x3 x4 = some res → W p l e R s m args below meth c H locs 0 0 Q (F0 m 150 ls []) := by
        intro x1 x2 x3 x4  H locs ls hl hP hD hS h
        rw [tw_X7_hidden_150] at h
        refine lv_iload_n hx hb dX7_hidden_150 rfl (lv_at hl 2 rfl) ?_
        refine lv_iload hx hb dX7_hidden_151 (lv_at hl 4 rfl) ?_
        refine lv_if_eq (tgt := 162) hx hb dX7_hidden_153 (by decide) (fun c1 => ?_) (fun c1 => ?_)
        · have h := oit h c1
          refine lv_iconst (v := 0) hx hb dX7_hidden_162 (by decide) ?_
          refine lv_ior hx hb dX7_hidden_163 ?_
          refine lv_istore_n (lv' := [(2, .int (x2 ||| 0)), (0, .ref mh), (1, .int x1), (3, .int x3), (4, .int x4)]) hx hb dX7_hidden_164 rfl hl (by decide) rfl (fun ls hl => ?_)
          refine lv_iinc (v := x3 + 1) (lv' := [(3, .int (x3 + 1)), (2, .int (x2 ||| 0)), (0, .ref mh), (1, .int x1), (4, .int x4)]) hx hb dX7_hidden_165 hl (k := 3) rfl rfl (by decide) rfl (fun ls hl => ?_)
          refine lv_goto (tgt := 32) hx hb dX7_hidden_168 (by decide) ?_
          exact ih32 x1 (x2 ||| 0) (x3 + 1) _ _ _ (lv_sub hl [2, 3, 1, 0] rfl) hP hD hS h
        · have h := oif h c1
          refine lv_iconst (v := 1) hx hb dX7_hidden_156 (by decide) ?_
          refine lv_iload_n hx hb dX7_hidden_157 rfl (lv_at hl 3 rfl) ?_
          refine lv_ishl hx hb dX7_hidden_158 ?_
          refine lv_goto (tgt := 163) hx hb dX7_hidden_159 (by decide) ?_
          refine lv_ior hx hb dX7_hidden_163 ?_
          refine lv_istore_n (lv' := [(2, .int (x2 ||| (1 <<< (x3 &&& 31)))), (0, .ref mh), (1, .int x1), (3, .int x3), (4, .int x4)]) hx hb dX7_hidden_164 rfl hl (by decide) rfl (fun ls hl => ?_)
          refine lv_iinc (v := x3 + 1) (lv' := [(3, .int (x3 + 1)), (2, .int (x2 ||| (1 <<< (x3 &&& 31)))), (0, .ref mh), (1, .int x1), (4, .int x4)]) hx hb dX7_hidden_165 hl (k := 3) rfl rfl (by decide) rfl (fun ls hl => ?_)
          refine lv_goto (tgt := 32) hx hb dX7_hidden_168 (by decide) ?_
          exact ih32 x1 (x2 ||| (1 <<< (x3 &&& 31))) (x3 + 1) _ _ _ (lv_sub hl [2, 3, 1, 0] rfl) hP hD hS h
      have L56 : ∀ (n : Nat) (x1 : Int32) (x2 : Int32) (x3 : Int32) (x4 : Int32) (x5 : Int32)  (H : Heap) (locs : List Loc) (ls : Array Slot), lv_has ls 7 [(0, .ref mh), (1, .int x1), (2, .int x2), (3, .int x3), (4, .int x4), (5, .int x5)] → va_P D vwCl (cMd mh m_kindr m_toldr m_nowr m_readToldr m_readCellr m_readKindr m_textr m_rowr m_seenCellr m_seenWayr m_seenCamer m_isKeptr m_keptr cy.1 cy.2.2.1 m_marbles m_kind m_told m_now m_readTold m_readCell m_readKind m_text m_length m_at m_faultAt m_there m_stopped m_acts m_next m_row m_bestRow m_seen m_seenCell m_seenWay m_seenCame m_seed m_isKept m_kept) H → va_D A (cMd mh m_kindr m_toldr m_nowr m_readToldr m_readCellr m_readKindr m_textr m_rowr m_seenCellr m_seenWayr m_seenCamer m_isKeptr m_keptr cy.1 cy.2.2.1 m_marbles m_kind m_told m_now m_readTold m_readCell m_readKind m_text m_length m_at m_faultAt m_there m_stopped m_acts m_next m_row m_bestRow m_seen m_seenCell m_seenWay m_seenCame m_seed m_isKept m_kept) → va_S A s.heap H locs → tw_X7_hidden_56 m_told m_seen m_seenCell m_seenWay m_seenCame (tw_X7_hidden_32 m_told m_seen m_seenCell m_seenWay m_seenCame n32) n x1 x2 x3 x4 x5 = some res → W p l e R s m args below meth c H locs 0 0 Q (F0 m 56 ls []) := by
        intro n56
        induction n56 with
        | zero =>
          intro x1 x2 x3 x4 x5  H locs ls hl hP hD hS h
          exact absurd h (by rw [tw_X7_hidden_56]; exact fun q => by cases q)
        | succ n56 ih56 =>
          intro x1 x2 x3 x4 x5  H locs ls hl hP hD hS h
          rw [tw_X7_hidden_56] at h
          refine lv_iload hx hb dX7_hidden_56 (lv_at hl 5 rfl) ?_
          refine lv_aload_n hx hb dX7_hidden_58 rfl (lv_at hl 0 rfl) ?_
          refine va_get (D := D) (ci := 7) (v := .int m_seen) (C := RX7) (T := TX7) (N := 24) hx hb hts hiX7 hown hE.1 hP 0 rfl rfl 17 (by decide) (hts (.fieldLink RX7 185 "TiltTrayModel" "seen" "I") (by decide +kernel)) (fun _ h9 => h9) rfl dX7_hidden_59 ?_
          refine lv_icmp_ge (tgt := 150) hx hb dX7_hidden_62 (by decide) (fun c2 => ?_) (fun c2 => ?_)
          · have h := oit h c2
            exact L150 x1 x2 x3 x4 _ _ _ (lv_sub hl [0, 1, 2, 3, 4] rfl) hP hD hS h
          · have h := oif h c2
            refine lv_iload hx hb dX7_hidden_65 (lv_at hl 4 rfl) ?_
            refine lv_if_eq (tgt := 150) hx hb dX7_hidden_67 (by decide) (fun c3 => ?_) (fun c3 => ?_)
            · have h := oit h c3
              exact L150 x1 x2 x3 x4 _ _ _ (lv_sub hl [0, 1, 2, 3, 4] rfl) hP hD hS h
            · have h := oif h c3
              refine lv_aload_n hx hb dX7_hidden_70 rfl (lv_at hl 0 rfl) ?_
              refine va_get (D := D) (ci := 7) (v := .ref m_seenCellr) (C := RX7) (T := TX7) (N := 24) hx hb hts hiX7 hown hE.1 hP 0 rfl rfl 18 (by decide) (hts (.fieldLink RX7 38 "TiltTrayModel" "seenCell" "[I") (by decide +kernel)) (fun _ h9 => h9) rfl dX7_hidden_71 ?_
              refine lv_iload hx hb dX7_hidden_74 (lv_at hl 5 rfl) ?_
              obtain ⟨g4, h⟩ := og h
              refine va_iald hx hb hE.1 hP 9 0 rfl rfl (ix_in g4) dX7_hidden_76 ?_
              refine lv_istore (lv' := [(6, .int (m_seenCell x5.toNatClampNeg)), (0, .ref mh), (1, .int x1), (2, .int x2), (3, .int x3), (4, .int x4), (5, .int x5)]) hx hb dX7_hidden_77 hl (by decide) rfl (fun ls hl => ?_)
              refine lv_iload hx hb dX7_hidden_79 (lv_at hl 0 rfl) ?_
              refine lv_iload_n hx hb dX7_hidden_81 rfl (lv_at hl 4 rfl) ?_
              refine lv_icmp_eq (tgt := 141) hx hb dX7_hidden_82 (by decide) (fun c5 => ?_) (fun c5 => ?_)
              · have h := oit h c5
                refine lv_iconst (v := 0) hx hb dX7_hidden_141 (by decide) ?_
                refine lv_istore (lv' := [(4, .int 0), (6, .int (m_seenCell x5.toNatClampNeg)), (0, .ref mh), (1, .int x1), (2, .int x2), (3, .int x3), (5, .int x5)]) hx hb dX7_hidden_142 hl (by decide) rfl (fun ls hl => ?_)
                refine lv_iinc (v := x5 + 1) (lv' := [(5, .int (x5 + 1)), (4, .int 0), (6, .int (m_seenCell x5.toNatClampNeg)), (0, .ref mh), (1, .int x1), (2, .int x2), (3, .int x3)]) hx hb dX7_hidden_144 hl (k := 6) rfl rfl (by decide) rfl (fun ls hl => ?_)
                refine lv_goto (tgt := 56) hx hb dX7_hidden_147 (by decide) ?_
                exact ih56 x1 x2 x3 0 (x5 + 1) _ _ _ (lv_sub hl [3, 4, 5, 6, 1, 0] rfl) hP hD hS h
              · have h := oif h c5
                refine lv_aload_n hx hb dX7_hidden_85 rfl (lv_at hl 1 rfl) ?_
                refine va_get (D := D) (ci := 7) (v := .ref m_toldr) (C := RX7) (T := TX7) (N := 24) hx hb hts hiX7 hown hE.1 hP 0 rfl rfl 2 (by decide) (hts (.fieldLink RX7 13 "TiltTrayModel" "told" "[I") (by decide +kernel)) (fun _ h9 => h9) rfl dX7_hidden_86 ?_
                refine lv_iconst (v := 0) hx hb dX7_hidden_89 (by decide) ?_
                refine va_iald hx hb hE.1 hP 2 0 rfl rfl (ix_in (by decide)) dX7_hidden_90 ?_
                refine lv_aload_n hx hb dX7_hidden_91 rfl (lv_at hl 1 rfl) ?_
                refine va_get (D := D) (ci := 7) (v := .ref m_toldr) (C := RX7) (T := TX7) (N := 24) hx hb hts hiX7 hown hE.1 hP 0 rfl rfl 2 (by decide) (hts (.fieldLink RX7 13 "TiltTrayModel" "told" "[I") (by decide +kernel)) (fun _ h9 => h9) rfl dX7_hidden_92 ?_
                refine lv_iconst (v := 1) hx hb dX7_hidden_95 (by decide) ?_
                refine va_iald hx hb hE.1 hP 2 0 rfl rfl (ix_in (by decide)) dX7_hidden_96 ?_
                refine lv_ior hx hb dX7_hidden_97 ?_
                refine lv_aload_n hx hb dX7_hidden_98 rfl (lv_at hl 1 rfl) ?_
                refine va_get (D := D) (ci := 7) (v := .ref m_toldr) (C := RX7) (T := TX7) (N := 24) hx hb hts hiX7 hown hE.1 hP 0 rfl rfl 2 (by decide) (hts (.fieldLink RX7 13 "TiltTrayModel" "told" "[I") (by decide +kernel)) (fun _ h9 => h9) rfl dX7_hidden_99 ?_
                refine lv_iconst (v := 3) hx hb dX7_hidden_102 (by decide) ?_
                refine va_iald hx hb hE.1 hP 2 0 rfl rfl (ix_in (by decide)) dX7_hidden_103 ?_
                refine lv_ior hx hb dX7_hidden_104 ?_
                refine lv_iload hx hb dX7_hidden_105 (lv_at hl 0 rfl) ?_
                obtain ⟨q6, hq6, h⟩ := ob h
                refine kS (As := [.int (((m_told (0 : Int32).toNatClampNeg) ||| (m_told (1 : Int32).toNatClampNeg)) ||| (m_told (3 : Int32).toNatClampNeg)), .int (m_seenCell x5.toNatClampNeg)]) (rest := []) (w2 := cMd mh m_kindr m_toldr m_nowr m_readToldr m_readCellr m_readKindr m_textr m_rowr m_seenCellr m_seenWayr m_seenCamer m_isKeptr m_keptr cy.1 cy.2.2.1 m_marbles m_kind m_told m_now m_readTold m_readCell m_readKind m_text m_length m_at m_faultAt m_there m_stopped m_acts m_next m_row m_bestRow m_seen m_seenCell m_seenWay m_seenCame m_seed m_isKept m_kept) (n := 2) ⟨hx, hb, hml, hown, hts⟩ (c_X7_has l D cy (((m_told (0 : Int32).toNatClampNeg) ||| (m_told (1 : Int32).toNatClampNeg)) ||| (m_told (3 : Int32).toNatClampNeg)) (m_seenCell x5.toNatClampNeg) q6 hq6) gX7_hidden_X7_has rfl (by decide +kernel) ⟨by rw [hRf]; exact Nat.le_of_ble_eq_true rfl, by rw [hRl]; exact Nat.le_of_ble_eq_true rfl⟩ hE hP hD hS hA [] rfl rfl rfl rfl rfl hl.1 rfl (Nat.le_of_ble_eq_true rfl) dX7_hidden_107 ⟨Nat.zero_le _, Nat.zero_le _⟩ (fun H locs hP hD hS => ?_)
                refine lv_if_ne (tgt := 141) hx hb dX7_hidden_110 (by decide) (fun c7 => ?_) (fun c7 => ?_)
                · have h := oif h c7
                  refine lv_iconst (v := 0) hx hb dX7_hidden_141 (by decide) ?_
                  refine lv_istore (lv' := [(4, .int 0), (6, .int (m_seenCell x5.toNatClampNeg)), (0, .ref mh), (1, .int x1), (2, .int x2), (3, .int x3), (5, .int x5)]) hx hb dX7_hidden_142 hl (by decide) rfl (fun ls hl => ?_)
                  refine lv_iinc (v := x5 + 1) (lv' := [(5, .int (x5 + 1)), (4, .int 0), (6, .int (m_seenCell x5.toNatClampNeg)), (0, .ref mh), (1, .int x1), (2, .int x2), (3, .int x3)]) hx hb dX7_hidden_144 hl (k := 6) rfl rfl (by decide) rfl (fun ls hl => ?_)
                  refine lv_goto (tgt := 56) hx hb dX7_hidden_147 (by decide) ?_
                  exact ih56 x1 x2 x3 0 (x5 + 1) _ _ _ (lv_sub hl [3, 4, 5, 6, 1, 0] rfl) hP hD hS h
                · have h := oit h c7
                  refine lv_aload_n hx hb dX7_hidden_113 rfl (lv_at hl 1 rfl) ?_
                  refine lv_iload hx hb dX7_hidden_114 (lv_at hl 0 rfl) ?_
                  refine lv_aload_n hx hb dX7_hidden_116 rfl (lv_at hl 1 rfl) ?_
                  refine va_get (D := D) (ci := 7) (v := .ref m_seenWayr) (C := RX7) (T := TX7) (N := 24) hx hb hts hiX7 hown hE.1 hP 0 rfl rfl 19 (by decide) (hts (.fieldLink RX7 41 "TiltTrayModel" "seenWay" "[I") (by decide +kernel)) (fun _ h9 => h9) rfl dX7_hidden_117 ?_
                  refine lv_iload hx hb dX7_hidden_120 (lv_at hl 6 rfl) ?_
                  obtain ⟨g8, h⟩ := og h
                  refine va_iald hx hb hE.1 hP 10 0 rfl rfl (ix_in g8) dX7_hidden_122 ?_
                  refine lv_iload_n hx hb dX7_hidden_123 rfl (lv_at hl 4 rfl) ?_
                  obtain ⟨q9, hq9, h⟩ := ob h
                  refine kV (As := [.int (m_seenCell x5.toNatClampNeg), .int (m_seenWay x5.toNatClampNeg), .int x3]) (rest := []) (w2 := cMd mh m_kindr m_toldr m_nowr m_readToldr m_readCellr m_readKindr m_textr m_rowr m_seenCellr m_seenWayr m_seenCamer m_isKeptr m_keptr cy.1 cy.2.2.1 m_marbles m_kind m_told m_now m_readTold m_readCell m_readKind m_text m_length m_at m_faultAt m_there m_stopped m_acts m_next m_row m_bestRow m_seen m_seenCell m_seenWay m_seenCame m_seed m_isKept m_kept) (n := 3) (q0 := 0) ⟨hx, hb, hml, hown, hts⟩ (c_X7_alone l D cy mh m_kindr m_toldr m_nowr m_readToldr m_readCellr m_readKindr m_textr m_rowr m_seenCellr m_seenWayr m_seenCamer m_isKeptr m_keptr m_marbles m_kind m_told m_now m_readTold m_readCell m_readKind m_text m_length m_at m_faultAt m_there m_stopped m_acts m_next m_row m_bestRow m_seen m_seenCell m_seenWay m_seenCame m_seed m_isKept m_kept (m_seenCell x5.toNatClampNeg) (m_seenWay x5.toNatClampNeg) x3 q9 hq9) gX7_hidden_X7_alone rfl (by decide +kernel) ⟨by rw [hRf]; exact Nat.le_of_ble_eq_true rfl, by rw [hRl]; exact Nat.le_of_ble_eq_true rfl⟩ hE hP hD hS hA [0, 1, 2, 3, 4, 5, 6, 7, 8, 9, 10, 11, 12, 13] rfl rfl rfl rfl rfl rfl rfl hl.1 rfl (Nat.le_of_ble_eq_true rfl) dX7_hidden_124 ⟨Nat.zero_le _, Nat.zero_le _⟩ (fun H locs hP hD hS => ?_)
                  refine lv_aload_n hx hb dX7_hidden_127 rfl (lv_at hl 1 rfl) ?_
                  refine va_get (D := D) (ci := 7) (v := .ref m_seenCamer) (C := RX7) (T := TX7) (N := 24) hx hb hts hiX7 hown hE.1 hP 0 rfl rfl 20 (by decide) (hts (.fieldLink RX7 44 "TiltTrayModel" "seenCame" "[I") (by decide +kernel)) (fun _ h9 => h9) rfl dX7_hidden_128 ?_
                  refine lv_iload hx hb dX7_hidden_131 (lv_at hl 6 rfl) ?_
                  obtain ⟨g10, h⟩ := og h
                  refine va_iald hx hb hE.1 hP 11 0 rfl rfl (ix_in g10) dX7_hidden_133 ?_
                  refine lv_icmp_ne (tgt := 141) hx hb dX7_hidden_134 (by decide) (fun c11 => ?_) (fun c11 => ?_)
                  · have h := oif h c11
                    refine lv_iconst (v := 0) hx hb dX7_hidden_141 (by decide) ?_
                    refine lv_istore (lv' := [(4, .int 0), (6, .int (m_seenCell x5.toNatClampNeg)), (0, .ref mh), (1, .int x1), (2, .int x2), (3, .int x3), (5, .int x5)]) hx hb dX7_hidden_142 hl (by decide) rfl (fun ls hl => ?_)
                    refine lv_iinc (v := x5 + 1) (lv' := [(5, .int (x5 + 1)), (4, .int 0), (6, .int (m_seenCell x5.toNatClampNeg)), (0, .ref mh), (1, .int x1), (2, .int x2), (3, .int x3)]) hx hb dX7_hidden_144 hl (k := 6) rfl rfl (by decide) rfl (fun ls hl => ?_)
                    refine lv_goto (tgt := 56) hx hb dX7_hidden_147 (by decide) ?_
                    exact ih56 x1 x2 x3 0 (x5 + 1) _ _ _ (lv_sub hl [3, 4, 5, 6, 1, 0] rfl) hP hD hS h
                  · have h := oit h c11
                    refine lv_iconst (v := 1) hx hb dX7_hidden_137 (by decide) ?_
                    refine lv_goto (tgt := 142) hx hb dX7_hidden_138 (by decide) ?_
                    refine lv_istore (lv' := [(4, .int 1), (6, .int (m_seenCell x5.toNatClampNeg)), (0, .ref mh), (1, .int x1), (2, .int x2), (3, .int x3), (5, .int x5)]) hx hb dX7_hidden_142 hl (by decide) rfl (fun ls hl => ?_)
                    refine lv_iinc (v := x5 + 1) (lv' := [(5, .int (x5 + 1)), (4, .int 1), (6, .int (m_seenCell x5.toNatClampNeg)), (0, .ref mh), (1, .int x1), (2, .int x2), (3, .int x3)]) hx hb dX7_hidden_144 hl (k := 6) rfl rfl (by decide) rfl (fun ls hl => ?_)
                    refine lv_goto (tgt := 56) hx hb dX7_hidden_147 (by decide) ?_
                    exact ih56 x1 x2 x3 1 (x5 + 1) _ _ _ (lv_sub hl [3, 4, 5, 6, 1, 0] rfl) hP hD hS h
      refine lv_iload_n hx hb dX7_hidden_32 rfl (lv_at hl 3 rfl) ?_
      refine lv_bipush (v := 25) hx hb dX7_hidden_33 (by decide) ?_
      refine lv_icmp_ge (tgt := 171) hx hb dX7_hidden_35 (by decide) (fun c12 => ?_) (fun c12 => ?_)
      · have h := oit h c12
        refine lv_iload_n hx hb dX7_hidden_171 rfl (lv_at hl 2 rfl) ?_
        obtain rfl := Option.some.inj h
        rw [hQ]; exact ct_iret hx hb hr hlocks hP hS rfl dX7_hidden_172
      · have h := oif h c12
        refine lv_iload_n hx hb dX7_hidden_38 rfl (lv_at hl 1 rfl) ?_
        refine lv_iload_n hx hb dX7_hidden_39 rfl (lv_at hl 3 rfl) ?_
        obtain ⟨q13, hq13, h⟩ := ob h
        refine kS (As := [.int x1, .int x3]) (rest := []) (w2 := cMd mh m_kindr m_toldr m_nowr m_readToldr m_readCellr m_readKindr m_textr m_rowr m_seenCellr m_seenWayr m_seenCamer m_isKeptr m_keptr cy.1 cy.2.2.1 m_marbles m_kind m_told m_now m_readTold m_readCell m_readKind m_text m_length m_at m_faultAt m_there m_stopped m_acts m_next m_row m_bestRow m_seen m_seenCell m_seenWay m_seenCame m_seed m_isKept m_kept) (n := 2) ⟨hx, hb, hml, hown, hts⟩ (c_X7_has l D cy x1 x3 q13 hq13) gX7_hidden_X7_has rfl (by decide +kernel) ⟨by rw [hRf]; exact Nat.le_of_ble_eq_true rfl, by rw [hRl]; exact Nat.le_of_ble_eq_true rfl⟩ hE hP hD hS hA [] rfl rfl rfl rfl rfl hl.1 rfl (Nat.le_of_ble_eq_true rfl) dX7_hidden_40 ⟨Nat.zero_le _, Nat.zero_le _⟩ (fun H locs hP hD hS => ?_)
        refine lv_if_ne (tgt := 50) hx hb dX7_hidden_43 (by decide) (fun c14 => ?_) (fun c14 => ?_)
        · have h := oif h c14
          refine lv_iconst (v := 0) hx hb dX7_hidden_50 (by decide) ?_
          refine lv_istore (lv' := [(4, .int 0), (0, .ref mh), (1, .int x1), (2, .int x2), (3, .int x3)]) hx hb dX7_hidden_51 hl (by decide) rfl (fun ls hl => ?_)
          refine lv_iconst (v := 0) hx hb dX7_hidden_53 (by decide) ?_
          refine lv_istore (lv' := [(5, .int 0), (4, .int 0), (0, .ref mh), (1, .int x1), (2, .int x2), (3, .int x3)]) hx hb dX7_hidden_54 hl (by decide) rfl (fun ls hl => ?_)
          exact L56 7 x1 x2 x3 0 0 _ _ _ (lv_sub hl [2, 3, 4, 5, 1, 0] rfl) hP hD hS h
        · have h := oit h c14
          refine lv_iconst (v := 1) hx hb dX7_hidden_46 (by decide) ?_
          refine lv_goto (tgt := 51) hx hb dX7_hidden_47 (by decide) ?_
          refine lv_istore (lv' := [(4, .int 1), (0, .ref mh), (1, .int x1), (2, .int x2), (3, .int x3)]) hx hb dX7_hidden_51 hl (by decide) rfl (fun ls hl => ?_)
          refine lv_iconst (v := 0) hx hb dX7_hidden_53 (by decide) ?_
          refine lv_istore (lv' := [(5, .int 0), (4, .int 1), (0, .ref mh), (1, .int x1), (2, .int x2), (3, .int x3)]) hx hb dX7_hidden_54 hl (by decide) rfl (fun ls hl => ?_)
          exact L56 7 x1 x2 x3 1 0 _ _ _ (lv_sub hl [2, 3, 4, 5, 1, 0] rfl) hP hD hS h
  refine lv_aload_n hx hb dX7_hidden_0 rfl (lv_at hl 0 rfl) ?_
  refine va_get (D := D) (ci := 7) (v := .ref m_toldr) (C := RX7) (T := TX7) (N := 24) hx hb hts hiX7 hown hE.1 hP 0 rfl rfl 2 (by decide) (hts (.fieldLink RX7 13 "TiltTrayModel" "told" "[I") (by decide +kernel)) (fun _ h9 => h9) rfl dX7_hidden_1 ?_
  refine lv_iconst (v := 0) hx hb dX7_hidden_4 (by decide) ?_
  refine va_iald hx hb hE.1 hP 2 0 rfl rfl (ix_in (by decide)) dX7_hidden_5 ?_
  refine lv_aload_n hx hb dX7_hidden_6 rfl (lv_at hl 0 rfl) ?_
  refine va_get (D := D) (ci := 7) (v := .ref m_toldr) (C := RX7) (T := TX7) (N := 24) hx hb hts hiX7 hown hE.1 hP 0 rfl rfl 2 (by decide) (hts (.fieldLink RX7 13 "TiltTrayModel" "told" "[I") (by decide +kernel)) (fun _ h9 => h9) rfl dX7_hidden_7 ?_
  refine lv_iconst (v := 1) hx hb dX7_hidden_10 (by decide) ?_
  refine va_iald hx hb hE.1 hP 2 0 rfl rfl (ix_in (by decide)) dX7_hidden_11 ?_
  refine lv_ior hx hb dX7_hidden_12 ?_
  refine lv_aload_n hx hb dX7_hidden_13 rfl (lv_at hl 0 rfl) ?_
  refine va_get (D := D) (ci := 7) (v := .ref m_toldr) (C := RX7) (T := TX7) (N := 24) hx hb hts hiX7 hown hE.1 hP 0 rfl rfl 2 (by decide) (hts (.fieldLink RX7 13 "TiltTrayModel" "told" "[I") (by decide +kernel)) (fun _ h9 => h9) rfl dX7_hidden_14 ?_
  refine lv_iconst (v := 2) hx hb dX7_hidden_17 (by decide) ?_
  refine va_iald hx hb hE.1 hP 2 0 rfl rfl (ix_in (by decide)) dX7_hidden_18 ?_
  refine lv_ior hx hb dX7_hidden_19 ?_
  refine lv_aload_n hx hb dX7_hidden_20 rfl (lv_at hl 0 rfl) ?_
  refine va_get (D := D) (ci := 7) (v := .ref m_toldr) (C := RX7) (T := TX7) (N := 24) hx hb hts hiX7 hown hE.1 hP 0 rfl rfl 2 (by decide) (hts (.fieldLink RX7 13 "TiltTrayModel" "told" "[I") (by decide +kernel)) (fun _ h9 => h9) rfl dX7_hidden_21 ?_
  refine lv_iconst (v := 3) hx hb dX7_hidden_24 (by decide) ?_
  refine va_iald hx hb hE.1 hP 2 0 rfl rfl (ix_in (by decide)) dX7_hidden_25 ?_
  refine lv_ior hx hb dX7_hidden_26 ?_
  refine lv_topi (fun v15 ev15 => ?_)
  have h := nmh ev15 h
  refine lv_istore_n (lv' := [(1, .int v15), (0, .ref mh)]) hx hb dX7_hidden_27 rfl hl (by decide) rfl (fun ls hl => ?_)
  refine lv_iconst (v := 0) hx hb dX7_hidden_28 (by decide) ?_
  refine lv_istore_n (lv' := [(2, .int 0), (1, .int v15), (0, .ref mh)]) hx hb dX7_hidden_29 rfl hl (by decide) rfl (fun ls hl => ?_)
  refine lv_iconst (v := 0) hx hb dX7_hidden_30 (by decide) ?_
  refine lv_istore_n (lv' := [(3, .int 0), (2, .int 0), (1, .int v15), (0, .ref mh)]) hx hb dX7_hidden_31 rfl hl (by decide) rfl (fun ls hl => ?_)
  exact L32 26 v15 0 0 _ _ _ (lv_sub hl [3, 2, 1, 0] rfl) hP hD hS h

def tw_X7_bestBy (m_marbles : Int32) (m_kind : Nat → Int32) (m_told : Nat → Int32) (m_now : Nat → Int32) (m_there : Int32) (m_stopped : Int32) (m_bestRow : Int32) (p1 : Int32) : Option (Int32 × (Nat → Int32) × Int32 × Int32 × Int32) :=
  (tw_X7_bestOf m_marbles m_kind m_told m_now p1 m_stopped m_bestRow 2).bind (fun q1 => some (q1.1, q1.2.1, 15, q1.2.2.1, q1.2.2.2))
set_option maxHeartbeats 4000000 in
set_option maxRecDepth 100000 in
theorem c_X7_bestBy (l : Launch) (D : va_G) (cy : Cy) (mh : Nat) (m_kindr : Nat) (m_toldr : Nat) (m_nowr : Nat) (m_readToldr : Nat) (m_readCellr : Nat) (m_readKindr : Nat) (m_textr : Nat) (m_rowr : Nat) (m_seenCellr : Nat) (m_seenWayr : Nat) (m_seenCamer : Nat) (m_isKeptr : Nat) (m_keptr : Nat) (m_marbles : Int32) (m_kind : Nat → Int32) (m_told : Nat → Int32) (m_now : Nat → Int32) (m_readTold : Nat → Int32) (m_readCell : Nat → Int32) (m_readKind : Nat → Int32) (m_text : Nat → Int32) (m_length : Int32) (m_at : Int32) (m_faultAt : Int32) (m_there : Int32) (m_stopped : Int32) (m_acts : Int32) (m_next : Int32) (m_row : Nat → Int32) (m_bestRow : Int32) (m_seen : Int32) (m_seenCell : Nat → Int32) (m_seenWay : Nat → Int32) (m_seenCame : Nat → Int32) (m_seed : Int64) (m_isKept : Nat → Int32) (m_kept : Nat → Int32) (p1 : Int32) (res : Int32 × (Nat → Int32) × Int32 × Int32 × Int32) (h : tw_X7_bestBy m_marbles m_kind m_told m_now m_there m_stopped m_bestRow p1 = some res) : Ct l yX7_bestBy wsX7_bestBy 8 188 D cy [.ref mh, .int p1] (cMd mh m_kindr m_toldr m_nowr m_readToldr m_readCellr m_readKindr m_textr m_rowr m_seenCellr m_seenWayr m_seenCamer m_isKeptr m_keptr cy.1 cy.2.2.1 m_marbles m_kind m_told m_now m_readTold m_readCell m_readKind m_text m_length m_at m_faultAt m_there m_stopped m_acts m_next m_row m_bestRow m_seen m_seenCell m_seenWay m_seenCame m_seed m_isKept m_kept) (cMd mh m_kindr m_toldr m_nowr m_readToldr m_readCellr m_readKindr m_textr m_rowr m_seenCellr m_seenWayr m_seenCamer m_isKeptr m_keptr cy.1 cy.2.2.1 m_marbles m_kind m_told res.2.1 m_readTold m_readCell m_readKind m_text m_length m_at m_faultAt res.2.2.1 res.2.2.2.1 m_acts m_next m_row res.2.2.2.2 m_seen m_seenCell m_seenWay m_seenCame m_seed m_isKept m_kept) (some (.int res.1)) := by
  refine Ct.ofW (cc := cX7_bestBy) (maxL := 3) (ret := (some .int)) (by decide) rfl (Nat.le_of_ble_eq_true rfl) ?_
  intro p e R s m args below meth c A Q ls hRf hRl hQ hx hb hr hml hts hown hlocks hE hP hD hS hA hl
  have hiX7 : ∀ w ∈ u_ws RX7 TX7 24, w ∈ wsX7_bestBy := by decide +kernel
  have hl : lv_has ls 3 [(0, .ref mh), (1, .int p1)] := hl
  rw [tw_X7_bestBy] at h
  refine lv_aload_n hx hb dX7_bestBy_0 rfl (lv_at hl 0 rfl) ?_
  refine lv_iload_n hx hb dX7_bestBy_1 rfl (lv_at hl 1 rfl) ?_
  refine va_put (D := D) (ci := 7) (v := .int p1) (ty := .int) (C := RX7) (T := TX7) (N := 24) hx hb hts hiX7 tyX7 tyX7_ok nmX7 hown hE.1 hP hD hS 0 rfl rfl 11 (by decide) (hts (.fieldLink RX7 31 "TiltTrayModel" "there" "I") (by decide +kernel)) (fun _ h9 => h9) rfl (by decide +kernel) rfl rfl (Nat.le_of_ble_eq_true rfl) dX7_bestBy_2 (fun H locs hP hD hS => ?_)
  have hP : va_P D vwCl (cMd mh m_kindr m_toldr m_nowr m_readToldr m_readCellr m_readKindr m_textr m_rowr m_seenCellr m_seenWayr m_seenCamer m_isKeptr m_keptr cy.1 cy.2.2.1 m_marbles m_kind m_told m_now m_readTold m_readCell m_readKind m_text m_length m_at m_faultAt p1 m_stopped m_acts m_next m_row m_bestRow m_seen m_seenCell m_seenWay m_seenCame m_seed m_isKept m_kept) H := hP
  have hD : va_D A (cMd mh m_kindr m_toldr m_nowr m_readToldr m_readCellr m_readKindr m_textr m_rowr m_seenCellr m_seenWayr m_seenCamer m_isKeptr m_keptr cy.1 cy.2.2.1 m_marbles m_kind m_told m_now m_readTold m_readCell m_readKind m_text m_length m_at m_faultAt p1 m_stopped m_acts m_next m_row m_bestRow m_seen m_seenCell m_seenWay m_seenCame m_seed m_isKept m_kept) := hD
  refine lv_aload_n hx hb dX7_bestBy_5 rfl (lv_at hl 0 rfl) ?_
  refine lv_iconst (v := 2) hx hb dX7_bestBy_6 (by decide) ?_
  obtain ⟨q1, hq1, h⟩ := ob h
  refine kV (As := [.int 2]) (rest := []) (w2 := cMd mh m_kindr m_toldr m_nowr m_readToldr m_readCellr m_readKindr m_textr m_rowr m_seenCellr m_seenWayr m_seenCamer m_isKeptr m_keptr cy.1 cy.2.2.1 m_marbles m_kind m_told q1.2.1 m_readTold m_readCell m_readKind m_text m_length m_at m_faultAt p1 q1.2.2.1 m_acts m_next m_row q1.2.2.2 m_seen m_seenCell m_seenWay m_seenCame m_seed m_isKept m_kept) (n := 1) (q0 := 0) ⟨hx, hb, hml, hown, hts⟩ (c_X7_bestOf l D cy mh m_kindr m_toldr m_nowr m_readToldr m_readCellr m_readKindr m_textr m_rowr m_seenCellr m_seenWayr m_seenCamer m_isKeptr m_keptr m_marbles m_kind m_told m_now m_readTold m_readCell m_readKind m_text m_length m_at m_faultAt p1 m_stopped m_acts m_next m_row m_bestRow m_seen m_seenCell m_seenWay m_seenCame m_seed m_isKept m_kept 2 q1 hq1) gX7_bestBy_X7_bestOf rfl (by decide +kernel) ⟨by rw [hRf]; exact Nat.le_of_ble_eq_true rfl, by rw [hRl]; exact Nat.le_of_ble_eq_true rfl⟩ hE hP hD hS hA [0, 1, 2, 3, 4, 5, 6, 7, 8, 9, 10, 11, 12, 13] rfl rfl rfl rfl rfl rfl rfl hl.1 rfl (Nat.le_of_ble_eq_true rfl) dX7_bestBy_7 ⟨Nat.zero_le _, Nat.zero_le _⟩ (fun H locs hP hD hS => ?_)
  refine lv_istore_n (lv' := [(2, .int q1.1), (0, .ref mh), (1, .int p1)]) hx hb dX7_bestBy_10 rfl hl (by decide) rfl (fun ls hl => ?_)
  refine lv_aload_n hx hb dX7_bestBy_11 rfl (lv_at hl 1 rfl) ?_
  refine lv_bipush (v := 15) hx hb dX7_bestBy_12 (by decide) ?_
  refine va_put (D := D) (ci := 7) (v := .int 15) (ty := .int) (C := RX7) (T := TX7) (N := 24) hx hb hts hiX7 tyX7 tyX7_ok nmX7 hown hE.1 hP hD hS 0 rfl rfl 11 (by decide) (hts (.fieldLink RX7 31 "TiltTrayModel" "there" "I") (by decide +kernel)) (fun _ h9 => h9) rfl (by decide +kernel) rfl rfl (Nat.le_of_ble_eq_true rfl) dX7_bestBy_14 (fun H locs hP hD hS => ?_)
  have hP : va_P D vwCl (cMd mh m_kindr m_toldr m_nowr m_readToldr m_readCellr m_readKindr m_textr m_rowr m_seenCellr m_seenWayr m_seenCamer m_isKeptr m_keptr cy.1 cy.2.2.1 m_marbles m_kind m_told q1.2.1 m_readTold m_readCell m_readKind m_text m_length m_at m_faultAt 15 q1.2.2.1 m_acts m_next m_row q1.2.2.2 m_seen m_seenCell m_seenWay m_seenCame m_seed m_isKept m_kept) H := hP
  have hD : va_D A (cMd mh m_kindr m_toldr m_nowr m_readToldr m_readCellr m_readKindr m_textr m_rowr m_seenCellr m_seenWayr m_seenCamer m_isKeptr m_keptr cy.1 cy.2.2.1 m_marbles m_kind m_told q1.2.1 m_readTold m_readCell m_readKind m_text m_length m_at m_faultAt 15 q1.2.2.1 m_acts m_next m_row q1.2.2.2 m_seen m_seenCell m_seenWay m_seenCame m_seed m_isKept m_kept) := hD
  refine lv_iload_n hx hb dX7_bestBy_17 rfl (lv_at hl 0 rfl) ?_
  obtain rfl := Option.some.inj h
  rw [hQ]; exact ct_iret hx hb hr hlocks hP hS rfl dX7_bestBy_18

def tw_X7_share_15 (m_marbles : Int32) (m_kind : Nat → Int32) (m_told : Nat → Int32) (p1 : Int32) (p2 : Int32) : Nat → Int32 → Int32 → (Nat → Int32) → Int32 → Int32 → Int32 → Option (Int32 × (Nat → Int32) × Int32 × Int32 × Int32)
  | 0, _, _, _, _, _, _ => none
  | n + 1, x3, x4, m_now, m_there, m_stopped, m_bestRow =>
    if (1 <<< (m_marbles &&& 31)) ≤ x4 then ((tw_X7_factorial m_marbles).bind (fun q2 => (tw_X7_common x3 q2).bind (fun q3 => if p2 = 0 then ((tw_X7_factorial m_marbles).bind (fun q5 => if ¬ q3 = 0 then (some (q5 / q3, m_now, m_there, m_stopped, m_bestRow)) else none)) else (if ¬ q3 = 0 then (some (x3 / q3, m_now, m_there, m_stopped, m_bestRow)) else none)))) else ((tw_X7_has x4 p1).bind (fun q8 => if q8 = 0 then ((tw_X7_ones x4).bind (fun q10 => (tw_X7_factorial q10).bind (fun q11 => (tw_X7_ones x4).bind (fun q12 => (tw_X7_factorial ((m_marbles - 1) - q12)).bind (fun q13 => (tw_X7_bestBy m_marbles m_kind m_told m_now m_there m_stopped m_bestRow (x4 ||| (1 <<< (p1 &&& 31)))).bind (fun q14 => (tw_X7_bestBy m_marbles m_kind m_told q14.2.1 q14.2.2.1 q14.2.2.2.1 q14.2.2.2.2 x4).bind (fun q15 => (tw_X7_share_15 m_marbles m_kind m_told p1 p2 n) (x3 + ((q11 * q13) * (q14.1 - q15.1))) (x4 + 1) q15.2.1 q15.2.2.1 q15.2.2.2.1 q15.2.2.2.2))))))) else ((tw_X7_share_15 m_marbles m_kind m_told p1 p2 n) x3 (x4 + 1) m_now m_there m_stopped m_bestRow)))
def tw_X7_share (m_marbles : Int32) (m_kind : Nat → Int32) (m_told : Nat → Int32) (m_now : Nat → Int32) (m_there : Int32) (m_stopped : Int32) (m_bestRow : Int32) (p1 : Int32) (p2 : Int32) : Option (Int32 × (Nat → Int32) × Int32 × Int32 × Int32) :=
  (tw_X7_isMarble m_marbles p1).bind (fun q16 => if q16 = 0 then (some ((-1), m_now, m_there, m_stopped, m_bestRow)) else (tw_X7_share_15 m_marbles m_kind m_told p1 p2 17 0 0 m_now m_there m_stopped m_bestRow))
set_option maxHeartbeats 4000000 in
set_option maxRecDepth 100000 in
theorem c_X7_share (l : Launch) (D : va_G) (cy : Cy) (mh : Nat) (m_kindr : Nat) (m_toldr : Nat) (m_nowr : Nat) (m_readToldr : Nat) (m_readCellr : Nat) (m_readKindr : Nat) (m_textr : Nat) (m_rowr : Nat) (m_seenCellr : Nat) (m_seenWayr : Nat) (m_seenCamer : Nat) (m_isKeptr : Nat) (m_keptr : Nat) (m_marbles : Int32) (m_kind : Nat → Int32) (m_told : Nat → Int32) (m_now : Nat → Int32) (m_readTold : Nat → Int32) (m_readCell : Nat → Int32) (m_readKind : Nat → Int32) (m_text : Nat → Int32) (m_length : Int32) (m_at : Int32) (m_faultAt : Int32) (m_there : Int32) (m_stopped : Int32) (m_acts : Int32) (m_next : Int32) (m_row : Nat → Int32) (m_bestRow : Int32) (m_seen : Int32) (m_seenCell : Nat → Int32) (m_seenWay : Nat → Int32) (m_seenCame : Nat → Int32) (m_seed : Int64) (m_isKept : Nat → Int32) (m_kept : Nat → Int32) (p1 : Int32) (p2 : Int32) (res : Int32 × (Nat → Int32) × Int32 × Int32 × Int32) (h : tw_X7_share m_marbles m_kind m_told m_now m_there m_stopped m_bestRow p1 p2 = some res) : Ct l yX7_share wsX7_share 9 210 D cy [.ref mh, .int p1, .int p2] (cMd mh m_kindr m_toldr m_nowr m_readToldr m_readCellr m_readKindr m_textr m_rowr m_seenCellr m_seenWayr m_seenCamer m_isKeptr m_keptr cy.1 cy.2.2.1 m_marbles m_kind m_told m_now m_readTold m_readCell m_readKind m_text m_length m_at m_faultAt m_there m_stopped m_acts m_next m_row m_bestRow m_seen m_seenCell m_seenWay m_seenCame m_seed m_isKept m_kept) (cMd mh m_kindr m_toldr m_nowr m_readToldr m_readCellr m_readKindr m_textr m_rowr m_seenCellr m_seenWayr m_seenCamer m_isKeptr m_keptr cy.1 cy.2.2.1 m_marbles m_kind m_told res.2.1 m_readTold m_readCell m_readKind m_text m_length m_at m_faultAt res.2.2.1 res.2.2.2.1 m_acts m_next m_row res.2.2.2.2 m_seen m_seenCell m_seenWay m_seenCame m_seed m_isKept m_kept) (some (.int res.1)) := by
  refine Ct.ofW (cc := cX7_share) (maxL := 6) (ret := (some .int)) (by decide) rfl (Nat.le_of_ble_eq_true rfl) ?_
  intro p e R s m args below meth c A Q ls hRf hRl hQ hx hb hr hml hts hown hlocks hE hP hD hS hA hl
  have hiX7 : ∀ w ∈ u_ws RX7 TX7 24, w ∈ wsX7_share := by decide +kernel
  have hl : lv_has ls 6 [(0, .ref mh), (1, .int p1), (2, .int p2)] := hl
  rw [tw_X7_share] at h
  have L15 : ∀ (n : Nat) (x3 : Int32) (x4 : Int32) (m_now : Nat → Int32) (m_there : Int32) (m_stopped : Int32) (m_bestRow : Int32)  (H : Heap) (locs : List Loc) (ls : Array Slot), lv_has ls 6 [(0, .ref mh), (1, .int p1), (2, .int p2), (3, .int x3), (4, .int x4)] → va_P D vwCl (cMd mh m_kindr m_toldr m_nowr m_readToldr m_readCellr m_readKindr m_textr m_rowr m_seenCellr m_seenWayr m_seenCamer m_isKeptr m_keptr cy.1 cy.2.2.1 m_marbles m_kind m_told m_now m_readTold m_readCell m_readKind m_text m_length m_at m_faultAt m_there m_stopped m_acts m_next m_row m_bestRow m_seen m_seenCell m_seenWay m_seenCame m_seed m_isKept m_kept) H → va_D A (cMd mh m_kindr m_toldr m_nowr m_readToldr m_readCellr m_readKindr m_textr m_rowr m_seenCellr m_seenWayr m_seenCamer m_isKeptr m_keptr cy.1 cy.2.2.1 m_marbles m_kind m_told m_now m_readTold m_readCell m_readKind m_text m_length m_at m_faultAt m_there m_stopped m_acts m_next m_row m_bestRow m_seen m_seenCell m_seenWay m_seenCame m_seed m_isKept m_kept) → va_S A s.heap H locs → tw_X7_share_15 m_marbles m_kind m_told p1 p2 n x3 x4 m_now m_there m_stopped m_bestRow = some res → W p l e R s m args below meth c H locs 0 0 Q (F0 m 15 ls []) := by
    intro n15
    induction n15 with
    | zero =>
      intro x3 x4 m_now m_there m_stopped m_bestRow  H locs ls hl hP hD hS h
      exact absurd h (by rw [tw_X7_share_15]; exact fun q => by cases q)
    | succ n15 ih15 =>
      intro x3 x4 m_now m_there m_stopped m_bestRow  H locs ls hl hP hD hS h
      rw [tw_X7_share_15] at h
      refine lv_iload hx hb dX7_share_15 (lv_at hl 4 rfl) ?_
      refine lv_iconst (v := 1) hx hb dX7_share_17 (by decide) ?_
      refine lv_aload_n hx hb dX7_share_18 rfl (lv_at hl 0 rfl) ?_
      refine va_get (D := D) (ci := 7) (v := .int m_marbles) (C := RX7) (T := TX7) (N := 24) hx hb hts hiX7 hown hE.1 hP 0 rfl rfl 0 (by decide) (hts (.fieldLink RX7 92 "TiltTrayModel" "marbles" "I") (by decide +kernel)) (fun _ h9 => h9) rfl dX7_share_19 ?_
      refine lv_ishl hx hb dX7_share_22 ?_
      refine lv_icmp_ge (tgt := 90) hx hb dX7_share_23 (by decide) (fun c1 => ?_) (fun c1 => ?_)
      · have h := oit h c1
        refine lv_iload_n hx hb dX7_share_90 rfl (lv_at hl 3 rfl) ?_
        refine lv_aload_n hx hb dX7_share_91 rfl (lv_at hl 0 rfl) ?_
        refine va_get (D := D) (ci := 7) (v := .int m_marbles) (C := RX7) (T := TX7) (N := 24) hx hb hts hiX7 hown hE.1 hP 0 rfl rfl 0 (by decide) (hts (.fieldLink RX7 92 "TiltTrayModel" "marbles" "I") (by decide +kernel)) (fun _ h9 => h9) rfl dX7_share_92 ?_
        obtain ⟨q2, hq2, h⟩ := ob h
        refine kS (As := [.int m_marbles]) (rest := [.int x3]) (w2 := cMd mh m_kindr m_toldr m_nowr m_readToldr m_readCellr m_readKindr m_textr m_rowr m_seenCellr m_seenWayr m_seenCamer m_isKeptr m_keptr cy.1 cy.2.2.1 m_marbles m_kind m_told m_now m_readTold m_readCell m_readKind m_text m_length m_at m_faultAt m_there m_stopped m_acts m_next m_row m_bestRow m_seen m_seenCell m_seenWay m_seenCame m_seed m_isKept m_kept) (n := 1) ⟨hx, hb, hml, hown, hts⟩ (c_X7_factorial l D cy m_marbles q2 hq2) gX7_share_X7_factorial rfl (by decide +kernel) ⟨by rw [hRf]; exact Nat.le_of_ble_eq_true rfl, by rw [hRl]; exact Nat.le_of_ble_eq_true rfl⟩ hE hP hD hS hA [] rfl rfl rfl rfl rfl hl.1 rfl (Nat.le_of_ble_eq_true rfl) dX7_share_95 ⟨Nat.zero_le _, Nat.zero_le _⟩ (fun H locs hP hD hS => ?_)
        obtain ⟨q3, hq3, h⟩ := ob h
        refine kS (As := [.int x3, .int q2]) (rest := []) (w2 := cMd mh m_kindr m_toldr m_nowr m_readToldr m_readCellr m_readKindr m_textr m_rowr m_seenCellr m_seenWayr m_seenCamer m_isKeptr m_keptr cy.1 cy.2.2.1 m_marbles m_kind m_told m_now m_readTold m_readCell m_readKind m_text m_length m_at m_faultAt m_there m_stopped m_acts m_next m_row m_bestRow m_seen m_seenCell m_seenWay m_seenCame m_seed m_isKept m_kept) (n := 2) ⟨hx, hb, hml, hown, hts⟩ (c_X7_common l D cy x3 q2 q3 hq3) gX7_share_X7_common rfl (by decide +kernel) ⟨by rw [hRf]; exact Nat.le_of_ble_eq_true rfl, by rw [hRl]; exact Nat.le_of_ble_eq_true rfl⟩ hE hP hD hS hA [] rfl rfl rfl rfl rfl hl.1 rfl (Nat.le_of_ble_eq_true rfl) dX7_share_98 ⟨Nat.zero_le _, Nat.zero_le _⟩ (fun H locs hP hD hS => ?_)
        refine lv_istore (lv' := [(4, .int q3), (0, .ref mh), (1, .int p1), (2, .int p2), (3, .int x3)]) hx hb dX7_share_101 hl (by decide) rfl (fun ls hl => ?_)
        refine lv_iload_n hx hb dX7_share_103 rfl (lv_at hl 3 rfl) ?_
        refine lv_if_eq (tgt := 114) hx hb dX7_share_104 (by decide) (fun c4 => ?_) (fun c4 => ?_)
        · have h := oit h c4
          refine lv_aload_n hx hb dX7_share_114 rfl (lv_at hl 1 rfl) ?_
          refine va_get (D := D) (ci := 7) (v := .int m_marbles) (C := RX7) (T := TX7) (N := 24) hx hb hts hiX7 hown hE.1 hP 0 rfl rfl 0 (by decide) (hts (.fieldLink RX7 92 "TiltTrayModel" "marbles" "I") (by decide +kernel)) (fun _ h9 => h9) rfl dX7_share_115 ?_
          obtain ⟨q5, hq5, h⟩ := ob h
          refine kS (As := [.int m_marbles]) (rest := []) (w2 := cMd mh m_kindr m_toldr m_nowr m_readToldr m_readCellr m_readKindr m_textr m_rowr m_seenCellr m_seenWayr m_seenCamer m_isKeptr m_keptr cy.1 cy.2.2.1 m_marbles m_kind m_told m_now m_readTold m_readCell m_readKind m_text m_length m_at m_faultAt m_there m_stopped m_acts m_next m_row m_bestRow m_seen m_seenCell m_seenWay m_seenCame m_seed m_isKept m_kept) (n := 1) ⟨hx, hb, hml, hown, hts⟩ (c_X7_factorial l D cy m_marbles q5 hq5) gX7_share_X7_factorial rfl (by decide +kernel) ⟨by rw [hRf]; exact Nat.le_of_ble_eq_true rfl, by rw [hRl]; exact Nat.le_of_ble_eq_true rfl⟩ hE hP hD hS hA [] rfl rfl rfl rfl rfl hl.1 rfl (Nat.le_of_ble_eq_true rfl) dX7_share_118 ⟨Nat.zero_le _, Nat.zero_le _⟩ (fun H locs hP hD hS => ?_)
          refine lv_iload hx hb dX7_share_121 (lv_at hl 0 rfl) ?_
          obtain ⟨g6, h⟩ := og h
          refine lv_idiv hx hb dX7_share_123 g6 ?_
          obtain rfl := Option.some.inj h
          rw [hQ]; exact ct_iret hx hb hr hlocks hP hS rfl dX7_share_124
        · have h := oif h c4
          refine lv_iload_n hx hb dX7_share_107 rfl (lv_at hl 4 rfl) ?_
          refine lv_iload hx hb dX7_share_108 (lv_at hl 0 rfl) ?_
          obtain ⟨g7, h⟩ := og h
          refine lv_idiv hx hb dX7_share_110 g7 ?_
          refine lv_goto (tgt := 124) hx hb dX7_share_111 (by decide) ?_
          obtain rfl := Option.some.inj h
          rw [hQ]; exact ct_iret hx hb hr hlocks hP hS rfl dX7_share_124
      · have h := oif h c1
        refine lv_iload hx hb dX7_share_26 (lv_at hl 4 rfl) ?_
        refine lv_iload_n hx hb dX7_share_28 rfl (lv_at hl 1 rfl) ?_
        obtain ⟨q8, hq8, h⟩ := ob h
        refine kS (As := [.int x4, .int p1]) (rest := []) (w2 := cMd mh m_kindr m_toldr m_nowr m_readToldr m_readCellr m_readKindr m_textr m_rowr m_seenCellr m_seenWayr m_seenCamer m_isKeptr m_keptr cy.1 cy.2.2.1 m_marbles m_kind m_told m_now m_readTold m_readCell m_readKind m_text m_length m_at m_faultAt m_there m_stopped m_acts m_next m_row m_bestRow m_seen m_seenCell m_seenWay m_seenCame m_seed m_isKept m_kept) (n := 2) ⟨hx, hb, hml, hown, hts⟩ (c_X7_has l D cy x4 p1 q8 hq8) gX7_share_X7_has rfl (by decide +kernel) ⟨by rw [hRf]; exact Nat.le_of_ble_eq_true rfl, by rw [hRl]; exact Nat.le_of_ble_eq_true rfl⟩ hE hP hD hS hA [] rfl rfl rfl rfl rfl hl.1 rfl (Nat.le_of_ble_eq_true rfl) dX7_share_29 ⟨Nat.zero_le _, Nat.zero_le _⟩ (fun H locs hP hD hS => ?_)
        refine lv_if_ne (tgt := 84) hx hb dX7_share_32 (by decide) (fun c9 => ?_) (fun c9 => ?_)
        · have h := oif h c9
          refine lv_iinc (v := x4 + 1) (lv' := [(4, .int (x4 + 1)), (0, .ref mh), (1, .int p1), (2, .int p2), (3, .int x3)]) hx hb dX7_share_84 hl (k := 4) rfl rfl (by decide) rfl (fun ls hl => ?_)
          refine lv_goto (tgt := 15) hx hb dX7_share_87 (by decide) ?_
          exact ih15 x3 (x4 + 1) m_now m_there m_stopped m_bestRow _ _ _ (lv_sub hl [1, 2, 3, 4, 0] rfl) hP hD hS h
        · have h := oit h c9
          refine lv_iload hx hb dX7_share_35 (lv_at hl 4 rfl) ?_
          obtain ⟨q10, hq10, h⟩ := ob h
          refine kS (As := [.int x4]) (rest := []) (w2 := cMd mh m_kindr m_toldr m_nowr m_readToldr m_readCellr m_readKindr m_textr m_rowr m_seenCellr m_seenWayr m_seenCamer m_isKeptr m_keptr cy.1 cy.2.2.1 m_marbles m_kind m_told m_now m_readTold m_readCell m_readKind m_text m_length m_at m_faultAt m_there m_stopped m_acts m_next m_row m_bestRow m_seen m_seenCell m_seenWay m_seenCame m_seed m_isKept m_kept) (n := 1) ⟨hx, hb, hml, hown, hts⟩ (c_X7_ones l D cy x4 q10 hq10) gX7_share_X7_ones rfl (by decide +kernel) ⟨by rw [hRf]; exact Nat.le_of_ble_eq_true rfl, by rw [hRl]; exact Nat.le_of_ble_eq_true rfl⟩ hE hP hD hS hA [] rfl rfl rfl rfl rfl hl.1 rfl (Nat.le_of_ble_eq_true rfl) dX7_share_37 ⟨Nat.zero_le _, Nat.zero_le _⟩ (fun H locs hP hD hS => ?_)
          obtain ⟨q11, hq11, h⟩ := ob h
          refine kS (As := [.int q10]) (rest := []) (w2 := cMd mh m_kindr m_toldr m_nowr m_readToldr m_readCellr m_readKindr m_textr m_rowr m_seenCellr m_seenWayr m_seenCamer m_isKeptr m_keptr cy.1 cy.2.2.1 m_marbles m_kind m_told m_now m_readTold m_readCell m_readKind m_text m_length m_at m_faultAt m_there m_stopped m_acts m_next m_row m_bestRow m_seen m_seenCell m_seenWay m_seenCame m_seed m_isKept m_kept) (n := 1) ⟨hx, hb, hml, hown, hts⟩ (c_X7_factorial l D cy q10 q11 hq11) gX7_share_X7_factorial rfl (by decide +kernel) ⟨by rw [hRf]; exact Nat.le_of_ble_eq_true rfl, by rw [hRl]; exact Nat.le_of_ble_eq_true rfl⟩ hE hP hD hS hA [] rfl rfl rfl rfl rfl hl.1 rfl (Nat.le_of_ble_eq_true rfl) dX7_share_40 ⟨Nat.zero_le _, Nat.zero_le _⟩ (fun H locs hP hD hS => ?_)
          refine lv_aload_n hx hb dX7_share_43 rfl (lv_at hl 0 rfl) ?_
          refine va_get (D := D) (ci := 7) (v := .int m_marbles) (C := RX7) (T := TX7) (N := 24) hx hb hts hiX7 hown hE.1 hP 0 rfl rfl 0 (by decide) (hts (.fieldLink RX7 92 "TiltTrayModel" "marbles" "I") (by decide +kernel)) (fun _ h9 => h9) rfl dX7_share_44 ?_
          refine lv_iconst (v := 1) hx hb dX7_share_47 (by decide) ?_
          refine lv_isub hx hb dX7_share_48 ?_
          refine lv_iload hx hb dX7_share_49 (lv_at hl 4 rfl) ?_
          obtain ⟨q12, hq12, h⟩ := ob h
          refine kS (As := [.int x4]) (rest := [.int (m_marbles - 1), .int q11]) (w2 := cMd mh m_kindr m_toldr m_nowr m_readToldr m_readCellr m_readKindr m_textr m_rowr m_seenCellr m_seenWayr m_seenCamer m_isKeptr m_keptr cy.1 cy.2.2.1 m_marbles m_kind m_told m_now m_readTold m_readCell m_readKind m_text m_length m_at m_faultAt m_there m_stopped m_acts m_next m_row m_bestRow m_seen m_seenCell m_seenWay m_seenCame m_seed m_isKept m_kept) (n := 1) ⟨hx, hb, hml, hown, hts⟩ (c_X7_ones l D cy x4 q12 hq12) gX7_share_X7_ones rfl (by decide +kernel) ⟨by rw [hRf]; exact Nat.le_of_ble_eq_true rfl, by rw [hRl]; exact Nat.le_of_ble_eq_true rfl⟩ hE hP hD hS hA [] rfl rfl rfl rfl rfl hl.1 rfl (Nat.le_of_ble_eq_true rfl) dX7_share_51 ⟨Nat.zero_le _, Nat.zero_le _⟩ (fun H locs hP hD hS => ?_)
          refine lv_isub hx hb dX7_share_54 ?_
          obtain ⟨q13, hq13, h⟩ := ob h
          refine kS (As := [.int ((m_marbles - 1) - q12)]) (rest := [.int q11]) (w2 := cMd mh m_kindr m_toldr m_nowr m_readToldr m_readCellr m_readKindr m_textr m_rowr m_seenCellr m_seenWayr m_seenCamer m_isKeptr m_keptr cy.1 cy.2.2.1 m_marbles m_kind m_told m_now m_readTold m_readCell m_readKind m_text m_length m_at m_faultAt m_there m_stopped m_acts m_next m_row m_bestRow m_seen m_seenCell m_seenWay m_seenCame m_seed m_isKept m_kept) (n := 1) ⟨hx, hb, hml, hown, hts⟩ (c_X7_factorial l D cy ((m_marbles - 1) - q12) q13 hq13) gX7_share_X7_factorial rfl (by decide +kernel) ⟨by rw [hRf]; exact Nat.le_of_ble_eq_true rfl, by rw [hRl]; exact Nat.le_of_ble_eq_true rfl⟩ hE hP hD hS hA [] rfl rfl rfl rfl rfl hl.1 rfl (Nat.le_of_ble_eq_true rfl) dX7_share_55 ⟨Nat.zero_le _, Nat.zero_le _⟩ (fun H locs hP hD hS => ?_)
          refine lv_imul hx hb dX7_share_58 ?_
          refine lv_istore (lv' := [(5, .int (q11 * q13)), (0, .ref mh), (1, .int p1), (2, .int p2), (3, .int x3), (4, .int x4)]) hx hb dX7_share_59 hl (by decide) rfl (fun ls hl => ?_)
          refine lv_iload_n hx hb dX7_share_61 rfl (lv_at hl 4 rfl) ?_
          refine lv_iload hx hb dX7_share_62 (lv_at hl 0 rfl) ?_
          refine lv_aload_n hx hb dX7_share_64 rfl (lv_at hl 1 rfl) ?_
          refine lv_iload hx hb dX7_share_65 (lv_at hl 5 rfl) ?_
          refine lv_iconst (v := 1) hx hb dX7_share_67 (by decide) ?_
          refine lv_iload_n hx hb dX7_share_68 rfl (lv_at hl 2 rfl) ?_
          refine lv_ishl hx hb dX7_share_69 ?_
          refine lv_ior hx hb dX7_share_70 ?_
          obtain ⟨q14, hq14, h⟩ := ob h
          refine kV (As := [.int (x4 ||| (1 <<< (p1 &&& 31)))]) (rest := [.int (q11 * q13), .int x3]) (w2 := cMd mh m_kindr m_toldr m_nowr m_readToldr m_readCellr m_readKindr m_textr m_rowr m_seenCellr m_seenWayr m_seenCamer m_isKeptr m_keptr cy.1 cy.2.2.1 m_marbles m_kind m_told q14.2.1 m_readTold m_readCell m_readKind m_text m_length m_at m_faultAt q14.2.2.1 q14.2.2.2.1 m_acts m_next m_row q14.2.2.2.2 m_seen m_seenCell m_seenWay m_seenCame m_seed m_isKept m_kept) (n := 1) (q0 := 0) ⟨hx, hb, hml, hown, hts⟩ (c_X7_bestBy l D cy mh m_kindr m_toldr m_nowr m_readToldr m_readCellr m_readKindr m_textr m_rowr m_seenCellr m_seenWayr m_seenCamer m_isKeptr m_keptr m_marbles m_kind m_told m_now m_readTold m_readCell m_readKind m_text m_length m_at m_faultAt m_there m_stopped m_acts m_next m_row m_bestRow m_seen m_seenCell m_seenWay m_seenCame m_seed m_isKept m_kept (x4 ||| (1 <<< (p1 &&& 31))) q14 hq14) gX7_share_X7_bestBy rfl (by decide +kernel) ⟨by rw [hRf]; exact Nat.le_of_ble_eq_true rfl, by rw [hRl]; exact Nat.le_of_ble_eq_true rfl⟩ hE hP hD hS hA [0, 1, 2, 3, 4, 5, 6, 7, 8, 9, 10, 11, 12, 13] rfl rfl rfl rfl rfl rfl rfl hl.1 rfl (Nat.le_of_ble_eq_true rfl) dX7_share_71 ⟨Nat.zero_le _, Nat.zero_le _⟩ (fun H locs hP hD hS => ?_)
          refine lv_aload_n hx hb dX7_share_74 rfl (lv_at hl 1 rfl) ?_
          refine lv_iload hx hb dX7_share_75 (lv_at hl 5 rfl) ?_
          obtain ⟨q15, hq15, h⟩ := ob h
          refine kV (As := [.int x4]) (rest := [.int q14.1, .int (q11 * q13), .int x3]) (w2 := cMd mh m_kindr m_toldr m_nowr m_readToldr m_readCellr m_readKindr m_textr m_rowr m_seenCellr m_seenWayr m_seenCamer m_isKeptr m_keptr cy.1 cy.2.2.1 m_marbles m_kind m_told q15.2.1 m_readTold m_readCell m_readKind m_text m_length m_at m_faultAt q15.2.2.1 q15.2.2.2.1 m_acts m_next m_row q15.2.2.2.2 m_seen m_seenCell m_seenWay m_seenCame m_seed m_isKept m_kept) (n := 1) (q0 := 0) ⟨hx, hb, hml, hown, hts⟩ (c_X7_bestBy l D cy mh m_kindr m_toldr m_nowr m_readToldr m_readCellr m_readKindr m_textr m_rowr m_seenCellr m_seenWayr m_seenCamer m_isKeptr m_keptr m_marbles m_kind m_told q14.2.1 m_readTold m_readCell m_readKind m_text m_length m_at m_faultAt q14.2.2.1 q14.2.2.2.1 m_acts m_next m_row q14.2.2.2.2 m_seen m_seenCell m_seenWay m_seenCame m_seed m_isKept m_kept x4 q15 hq15) gX7_share_X7_bestBy rfl (by decide +kernel) ⟨by rw [hRf]; exact Nat.le_of_ble_eq_true rfl, by rw [hRl]; exact Nat.le_of_ble_eq_true rfl⟩ hE hP hD hS hA [0, 1, 2, 3, 4, 5, 6, 7, 8, 9, 10, 11, 12, 13] rfl rfl rfl rfl rfl rfl rfl hl.1 rfl (Nat.le_of_ble_eq_true rfl) dX7_share_77 ⟨Nat.zero_le _, Nat.zero_le _⟩ (fun H locs hP hD hS => ?_)
          refine lv_isub hx hb dX7_share_80 ?_
          refine lv_imul hx hb dX7_share_81 ?_
          refine lv_iadd hx hb dX7_share_82 ?_
          refine lv_istore_n (lv' := [(3, .int (x3 + ((q11 * q13) * (q14.1 - q15.1)))), (5, .int (q11 * q13)), (0, .ref mh), (1, .int p1), (2, .int p2), (4, .int x4)]) hx hb dX7_share_83 rfl hl (by decide) rfl (fun ls hl => ?_)
          refine lv_iinc (v := x4 + 1) (lv' := [(4, .int (x4 + 1)), (3, .int (x3 + ((q11 * q13) * (q14.1 - q15.1)))), (5, .int (q11 * q13)), (0, .ref mh), (1, .int p1), (2, .int p2)]) hx hb dX7_share_84 hl (k := 5) rfl rfl (by decide) rfl (fun ls hl => ?_)
          refine lv_goto (tgt := 15) hx hb dX7_share_87 (by decide) ?_
          exact ih15 (x3 + ((q11 * q13) * (q14.1 - q15.1))) (x4 + 1) q15.2.1 q15.2.2.1 q15.2.2.2.1 q15.2.2.2.2 _ _ _ (lv_sub hl [3, 4, 5, 1, 0] rfl) hP hD hS h
  refine lv_aload_n hx hb dX7_share_0 rfl (lv_at hl 0 rfl) ?_
  refine lv_iload_n hx hb dX7_share_1 rfl (lv_at hl 1 rfl) ?_
  obtain ⟨q16, hq16, h⟩ := ob h
  refine kV (As := [.int p1]) (rest := []) (w2 := cMd mh m_kindr m_toldr m_nowr m_readToldr m_readCellr m_readKindr m_textr m_rowr m_seenCellr m_seenWayr m_seenCamer m_isKeptr m_keptr cy.1 cy.2.2.1 m_marbles m_kind m_told m_now m_readTold m_readCell m_readKind m_text m_length m_at m_faultAt m_there m_stopped m_acts m_next m_row m_bestRow m_seen m_seenCell m_seenWay m_seenCame m_seed m_isKept m_kept) (n := 1) (q0 := 0) ⟨hx, hb, hml, hown, hts⟩ (c_X7_isMarble l D cy mh m_kindr m_toldr m_nowr m_readToldr m_readCellr m_readKindr m_textr m_rowr m_seenCellr m_seenWayr m_seenCamer m_isKeptr m_keptr m_marbles m_kind m_told m_now m_readTold m_readCell m_readKind m_text m_length m_at m_faultAt m_there m_stopped m_acts m_next m_row m_bestRow m_seen m_seenCell m_seenWay m_seenCame m_seed m_isKept m_kept p1 q16 hq16) gX7_share_X7_isMarble rfl (by decide +kernel) ⟨by rw [hRf]; exact Nat.le_of_ble_eq_true rfl, by rw [hRl]; exact Nat.le_of_ble_eq_true rfl⟩ hE hP hD hS hA [0, 1, 2, 3, 4, 5, 6, 7, 8, 9, 10, 11, 12, 13] rfl rfl rfl rfl rfl rfl rfl hl.1 rfl (Nat.le_of_ble_eq_true rfl) dX7_share_2 ⟨Nat.zero_le _, Nat.zero_le _⟩ (fun H locs hP hD hS => ?_)
  refine lv_if_ne (tgt := 10) hx hb dX7_share_5 (by decide) (fun c17 => ?_) (fun c17 => ?_)
  · have h := oif h c17
    refine lv_iconst (v := 0) hx hb dX7_share_10 (by decide) ?_
    refine lv_istore_n (lv' := [(3, .int 0), (0, .ref mh), (1, .int p1), (2, .int p2)]) hx hb dX7_share_11 rfl hl (by decide) rfl (fun ls hl => ?_)
    refine lv_iconst (v := 0) hx hb dX7_share_12 (by decide) ?_
    refine lv_istore (lv' := [(4, .int 0), (3, .int 0), (0, .ref mh), (1, .int p1), (2, .int p2)]) hx hb dX7_share_13 hl (by decide) rfl (fun ls hl => ?_)
    exact L15 17 0 0 m_now m_there m_stopped m_bestRow _ _ _ (lv_sub hl [2, 3, 4, 1, 0] rfl) hP hD hS h
  · have h := oit h c17
    refine lv_iconst (v := (-1)) hx hb dX7_share_8 (by decide) ?_
    obtain rfl := Option.some.inj h
    rw [hQ]; exact ct_iret hx hb hr hlocks hP hS rfl dX7_share_9

def tw_X7_gain_17 (m_marbles : Int32) (m_kind : Nat → Int32) (m_told : Nat → Int32) (m_there : Int32) (p1 : Int32) (p2 : Int32) (p3 : Int32) : Nat → Int32 → Int32 → (Nat → Int32) → Int32 → Option (Int32 × (Nat → Int32) × Int32)
  | 0, _, _, _, _ => none
  | n + 1, x4, x5, m_now, m_stopped =>
    if m_marbles ≤ x5 then (if p1 = p2 then (some (x4 - 1, m_now, m_stopped)) else (some (x4, m_now, m_stopped))) else (if ix (7 + x5) 14 = true then (if (m_now (7 + x5).toNatClampNeg) < 100 then ((tw_X7_gain_17 m_marbles m_kind m_told m_there p1 p2 p3 n) (x4 + 0) (x5 + 2) m_now m_stopped) else ((tw_X7_gain_17 m_marbles m_kind m_told m_there p1 p2 p3 n) (x4 + 1) (x5 + 2) m_now m_stopped)) else none)
def tw_X7_gain (m_marbles : Int32) (m_kind : Nat → Int32) (m_told : Nat → Int32) (m_now : Nat → Int32) (m_there : Int32) (m_stopped : Int32) (p1 : Int32) (p2 : Int32) (p3 : Int32) : Option (Int32 × (Nat → Int32) × Int32) :=
  (tw_X7_tiltRow m_marbles m_kind m_told m_now m_there m_stopped 2 ((4 * p1) + p2) 0).bind (fun q5 => tw_X7_gain_17 m_marbles m_kind m_told m_there p1 p2 p3 6 0 p3 q5.1 q5.2)
set_option maxHeartbeats 4000000 in
set_option maxRecDepth 100000 in
theorem c_X7_gain (l : Launch) (D : va_G) (cy : Cy) (mh : Nat) (m_kindr : Nat) (m_toldr : Nat) (m_nowr : Nat) (m_readToldr : Nat) (m_readCellr : Nat) (m_readKindr : Nat) (m_textr : Nat) (m_rowr : Nat) (m_seenCellr : Nat) (m_seenWayr : Nat) (m_seenCamer : Nat) (m_isKeptr : Nat) (m_keptr : Nat) (m_marbles : Int32) (m_kind : Nat → Int32) (m_told : Nat → Int32) (m_now : Nat → Int32) (m_readTold : Nat → Int32) (m_readCell : Nat → Int32) (m_readKind : Nat → Int32) (m_text : Nat → Int32) (m_length : Int32) (m_at : Int32) (m_faultAt : Int32) (m_there : Int32) (m_stopped : Int32) (m_acts : Int32) (m_next : Int32) (m_row : Nat → Int32) (m_bestRow : Int32) (m_seen : Int32) (m_seenCell : Nat → Int32) (m_seenWay : Nat → Int32) (m_seenCame : Nat → Int32) (m_seed : Int64) (m_isKept : Nat → Int32) (m_kept : Nat → Int32) (p1 : Int32) (p2 : Int32) (p3 : Int32) (res : Int32 × (Nat → Int32) × Int32) (h : tw_X7_gain m_marbles m_kind m_told m_now m_there m_stopped p1 p2 p3 = some res) : Ct l yX7_gain wsX7_gain 7 164 D cy [.ref mh, .int p1, .int p2, .int p3] (cMd mh m_kindr m_toldr m_nowr m_readToldr m_readCellr m_readKindr m_textr m_rowr m_seenCellr m_seenWayr m_seenCamer m_isKeptr m_keptr cy.1 cy.2.2.1 m_marbles m_kind m_told m_now m_readTold m_readCell m_readKind m_text m_length m_at m_faultAt m_there m_stopped m_acts m_next m_row m_bestRow m_seen m_seenCell m_seenWay m_seenCame m_seed m_isKept m_kept) (cMd mh m_kindr m_toldr m_nowr m_readToldr m_readCellr m_readKindr m_textr m_rowr m_seenCellr m_seenWayr m_seenCamer m_isKeptr m_keptr cy.1 cy.2.2.1 m_marbles m_kind m_told res.2.1 m_readTold m_readCell m_readKind m_text m_length m_at m_faultAt m_there res.2.2 m_acts m_next m_row m_bestRow m_seen m_seenCell m_seenWay m_seenCame m_seed m_isKept m_kept) (some (.int res.1)) := by
  refine Ct.ofW (cc := cX7_gain) (maxL := 6) (ret := (some .int)) (by decide) rfl (Nat.le_of_ble_eq_true rfl) ?_
  intro p e R s m args below meth c A Q ls hRf hRl hQ hx hb hr hml hts hown hlocks hE hP hD hS hA hl
  have hiX7 : ∀ w ∈ u_ws RX7 TX7 24, w ∈ wsX7_gain := by decide +kernel
  have hl : lv_has ls 6 [(0, .ref mh), (1, .int p1), (2, .int p2), (3, .int p3)] := hl
  rw [tw_X7_gain] at h
  have L17 : ∀ (n : Nat) (x4 : Int32) (x5 : Int32) (m_now : Nat → Int32) (m_stopped : Int32)  (H : Heap) (locs : List Loc) (ls : Array Slot), lv_has ls 6 [(0, .ref mh), (1, .int p1), (2, .int p2), (4, .int x4), (5, .int x5)] → va_P D vwCl (cMd mh m_kindr m_toldr m_nowr m_readToldr m_readCellr m_readKindr m_textr m_rowr m_seenCellr m_seenWayr m_seenCamer m_isKeptr m_keptr cy.1 cy.2.2.1 m_marbles m_kind m_told m_now m_readTold m_readCell m_readKind m_text m_length m_at m_faultAt m_there m_stopped m_acts m_next m_row m_bestRow m_seen m_seenCell m_seenWay m_seenCame m_seed m_isKept m_kept) H → va_D A (cMd mh m_kindr m_toldr m_nowr m_readToldr m_readCellr m_readKindr m_textr m_rowr m_seenCellr m_seenWayr m_seenCamer m_isKeptr m_keptr cy.1 cy.2.2.1 m_marbles m_kind m_told m_now m_readTold m_readCell m_readKind m_text m_length m_at m_faultAt m_there m_stopped m_acts m_next m_row m_bestRow m_seen m_seenCell m_seenWay m_seenCame m_seed m_isKept m_kept) → va_S A s.heap H locs → tw_X7_gain_17 m_marbles m_kind m_told m_there p1 p2 p3 n x4 x5 m_now m_stopped = some res → W p l e R s m args below meth c H locs 0 0 Q (F0 m 17 ls []) := by
    intro n17
    induction n17 with
    | zero =>
      intro x4 x5 m_now m_stopped  H locs ls hl hP hD hS h
      exact absurd h (by rw [tw_X7_gain_17]; exact fun q => by cases q)
    | succ n17 ih17 =>
      intro x4 x5 m_now m_stopped  H locs ls hl hP hD hS h
      rw [tw_X7_gain_17] at h
      refine lv_iload hx hb dX7_gain_17 (lv_at hl 4 rfl) ?_
      refine lv_aload_n hx hb dX7_gain_19 rfl (lv_at hl 0 rfl) ?_
      refine va_get (D := D) (ci := 7) (v := .int m_marbles) (C := RX7) (T := TX7) (N := 24) hx hb hts hiX7 hown hE.1 hP 0 rfl rfl 0 (by decide) (hts (.fieldLink RX7 92 "TiltTrayModel" "marbles" "I") (by decide +kernel)) (fun _ h9 => h9) rfl dX7_gain_20 ?_
      refine lv_icmp_ge (tgt := 57) hx hb dX7_gain_23 (by decide) (fun c1 => ?_) (fun c1 => ?_)
      · have h := oit h c1
        refine lv_iload_n hx hb dX7_gain_57 rfl (lv_at hl 1 rfl) ?_
        refine lv_iload_n hx hb dX7_gain_58 rfl (lv_at hl 2 rfl) ?_
        refine lv_icmp_ne (tgt := 69) hx hb dX7_gain_59 (by decide) (fun c2 => ?_) (fun c2 => ?_)
        · have h := oif h c2
          refine lv_iload hx hb dX7_gain_69 (lv_at hl 3 rfl) ?_
          obtain rfl := Option.some.inj h
          rw [hQ]; exact ct_iret hx hb hr hlocks hP hS rfl dX7_gain_71
        · have h := oit h c2
          refine lv_iload hx hb dX7_gain_62 (lv_at hl 3 rfl) ?_
          refine lv_iconst (v := 1) hx hb dX7_gain_64 (by decide) ?_
          refine lv_isub hx hb dX7_gain_65 ?_
          refine lv_goto (tgt := 71) hx hb dX7_gain_66 (by decide) ?_
          obtain rfl := Option.some.inj h
          rw [hQ]; exact ct_iret hx hb hr hlocks hP hS rfl dX7_gain_71
      · have h := oif h c1
        refine lv_iload hx hb dX7_gain_26 (lv_at hl 3 rfl) ?_
        refine lv_aload_n hx hb dX7_gain_28 rfl (lv_at hl 0 rfl) ?_
        refine va_get (D := D) (ci := 7) (v := .ref m_nowr) (C := RX7) (T := TX7) (N := 24) hx hb hts hiX7 hown hE.1 hP 0 rfl rfl 3 (by decide) (hts (.fieldLink RX7 16 "TiltTrayModel" "now" "[I") (by decide +kernel)) (fun _ h9 => h9) rfl dX7_gain_29 ?_
        refine lv_bipush (v := 7) hx hb dX7_gain_32 (by decide) ?_
        refine lv_iload hx hb dX7_gain_34 (lv_at hl 4 rfl) ?_
        refine lv_iadd hx hb dX7_gain_36 ?_
        obtain ⟨g3, h⟩ := og h
        refine va_iald hx hb hE.1 hP 3 0 rfl rfl (ix_in g3) dX7_gain_37 ?_
        refine lv_bipush (v := 100) hx hb dX7_gain_38 (by decide) ?_
        refine lv_icmp_lt (tgt := 47) hx hb dX7_gain_40 (by decide) (fun c4 => ?_) (fun c4 => ?_)
        · have h := oit h c4
          refine lv_iconst (v := 0) hx hb dX7_gain_47 (by decide) ?_
          refine lv_iadd hx hb dX7_gain_48 ?_
          refine lv_istore (lv' := [(4, .int (x4 + 0)), (0, .ref mh), (1, .int p1), (2, .int p2), (5, .int x5)]) hx hb dX7_gain_49 hl (by decide) rfl (fun ls hl => ?_)
          refine lv_iinc (v := x5 + 2) (lv' := [(5, .int (x5 + 2)), (4, .int (x4 + 0)), (0, .ref mh), (1, .int p1), (2, .int p2)]) hx hb dX7_gain_51 hl (k := 4) rfl rfl (by decide) rfl (fun ls hl => ?_)
          refine lv_goto (tgt := 17) hx hb dX7_gain_54 (by decide) ?_
          exact ih17 (x4 + 0) (x5 + 2) m_now m_stopped _ _ _ (lv_sub hl [2, 3, 4, 1, 0] rfl) hP hD hS h
        · have h := oif h c4
          refine lv_iconst (v := 1) hx hb dX7_gain_43 (by decide) ?_
          refine lv_goto (tgt := 48) hx hb dX7_gain_44 (by decide) ?_
          refine lv_iadd hx hb dX7_gain_48 ?_
          refine lv_istore (lv' := [(4, .int (x4 + 1)), (0, .ref mh), (1, .int p1), (2, .int p2), (5, .int x5)]) hx hb dX7_gain_49 hl (by decide) rfl (fun ls hl => ?_)
          refine lv_iinc (v := x5 + 2) (lv' := [(5, .int (x5 + 2)), (4, .int (x4 + 1)), (0, .ref mh), (1, .int p1), (2, .int p2)]) hx hb dX7_gain_51 hl (k := 4) rfl rfl (by decide) rfl (fun ls hl => ?_)
          refine lv_goto (tgt := 17) hx hb dX7_gain_54 (by decide) ?_
          exact ih17 (x4 + 1) (x5 + 2) m_now m_stopped _ _ _ (lv_sub hl [2, 3, 4, 1, 0] rfl) hP hD hS h
  refine lv_aload_n hx hb dX7_gain_0 rfl (lv_at hl 0 rfl) ?_
  refine lv_iconst (v := 2) hx hb dX7_gain_1 (by decide) ?_
  refine lv_iconst (v := 4) hx hb dX7_gain_2 (by decide) ?_
  refine lv_iload_n hx hb dX7_gain_3 rfl (lv_at hl 1 rfl) ?_
  refine lv_imul hx hb dX7_gain_4 ?_
  refine lv_iload_n hx hb dX7_gain_5 rfl (lv_at hl 2 rfl) ?_
  refine lv_iadd hx hb dX7_gain_6 ?_
  refine lv_iconst (v := 0) hx hb dX7_gain_7 (by decide) ?_
  obtain ⟨q5, hq5, h⟩ := ob h
  refine kV (As := [.int 2, .int ((4 * p1) + p2), .int 0]) (rest := []) (w2 := cMd mh m_kindr m_toldr m_nowr m_readToldr m_readCellr m_readKindr m_textr m_rowr m_seenCellr m_seenWayr m_seenCamer m_isKeptr m_keptr cy.1 cy.2.2.1 m_marbles m_kind m_told q5.1 m_readTold m_readCell m_readKind m_text m_length m_at m_faultAt m_there q5.2 m_acts m_next m_row m_bestRow m_seen m_seenCell m_seenWay m_seenCame m_seed m_isKept m_kept) (n := 3) (q0 := 0) ⟨hx, hb, hml, hown, hts⟩ (c_X7_tiltRow l D cy mh m_kindr m_toldr m_nowr m_readToldr m_readCellr m_readKindr m_textr m_rowr m_seenCellr m_seenWayr m_seenCamer m_isKeptr m_keptr m_marbles m_kind m_told m_now m_readTold m_readCell m_readKind m_text m_length m_at m_faultAt m_there m_stopped m_acts m_next m_row m_bestRow m_seen m_seenCell m_seenWay m_seenCame m_seed m_isKept m_kept 2 ((4 * p1) + p2) 0 q5 hq5) gX7_gain_X7_tiltRow rfl (by decide +kernel) ⟨by rw [hRf]; exact Nat.le_of_ble_eq_true rfl, by rw [hRl]; exact Nat.le_of_ble_eq_true rfl⟩ hE hP hD hS hA [0, 1, 2, 3, 4, 5, 6, 7, 8, 9, 10, 11, 12, 13] rfl rfl rfl rfl rfl rfl rfl hl.1 rfl (Nat.le_of_ble_eq_true rfl) dX7_gain_8 ⟨Nat.zero_le _, Nat.zero_le _⟩ (fun H locs hP hD hS => ?_)
  refine lv_iconst (v := 0) hx hb dX7_gain_11 (by decide) ?_
  refine lv_istore (lv' := [(4, .int 0), (0, .ref mh), (1, .int p1), (2, .int p2), (3, .int p3)]) hx hb dX7_gain_12 hl (by decide) rfl (fun ls hl => ?_)
  refine lv_iload_n hx hb dX7_gain_14 rfl (lv_at hl 4 rfl) ?_
  refine lv_istore (lv' := [(5, .int p3), (4, .int 0), (0, .ref mh), (1, .int p1), (2, .int p2), (3, .int p3)]) hx hb dX7_gain_15 hl (by decide) rfl (fun ls hl => ?_)
  exact L17 6 0 p3 q5.1 q5.2 _ _ _ (lv_sub hl [2, 3, 4, 1, 0] rfl) hP hD hS h

def tw_X7_isRest_5 (m_marbles : Int32) (m_kind : Nat → Int32) (m_told : Nat → Int32) (m_there : Int32) (p1 : Int32) (p2 : Int32) : Nat → Int32 → Int32 → (Nat → Int32) → Int32 → Option (Int32 × (Nat → Int32) × Int32)
  | 0, _, _, _, _ => none
  | n + 1, x3, x4, m_now, m_stopped =>
    if 4 ≤ x4 then (if x3 &&& 1 = x3 then (some (x3, m_now, m_stopped)) else none) else (if x3 = 0 then ((tw_X7_isRest_5 m_marbles m_kind m_told m_there p1 p2 n) 0 (x4 + 1) m_now m_stopped) else ((tw_X7_gain m_marbles m_kind m_told m_now m_there m_stopped x4 p2 0).bind (fun q4 => (tw_X7_gain m_marbles m_kind m_told q4.2.1 m_there q4.2.2 p1 p2 0).bind (fun q5 => if q5.1 < q4.1 then ((tw_X7_isRest_5 m_marbles m_kind m_told m_there p1 p2 n) 0 (x4 + 1) q5.2.1 q5.2.2) else ((tw_X7_gain m_marbles m_kind m_told q5.2.1 m_there q5.2.2 p1 x4 1).bind (fun q7 => (tw_X7_gain m_marbles m_kind m_told q7.2.1 m_there q7.2.2 p1 p2 1).bind (fun q8 => if q8.1 < q7.1 then ((tw_X7_isRest_5 m_marbles m_kind m_told m_there p1 p2 n) 0 (x4 + 1) q8.2.1 q8.2.2) else ((tw_X7_isRest_5 m_marbles m_kind m_told m_there p1 p2 n) 1 (x4 + 1) q8.2.1 q8.2.2))))))))
def tw_X7_isRest (m_marbles : Int32) (m_kind : Nat → Int32) (m_told : Nat → Int32) (m_now : Nat → Int32) (m_there : Int32) (m_stopped : Int32) (p1 : Int32) (p2 : Int32) : Option (Int32 × (Nat → Int32) × Int32) :=
  tw_X7_isRest_5 m_marbles m_kind m_told m_there p1 p2 5 1 0 m_now m_stopped
set_option maxHeartbeats 4000000 in
set_option maxRecDepth 100000 in
theorem c_X7_isRest (l : Launch) (D : va_G) (cy : Cy) (mh : Nat) (m_kindr : Nat) (m_toldr : Nat) (m_nowr : Nat) (m_readToldr : Nat) (m_readCellr : Nat) (m_readKindr : Nat) (m_textr : Nat) (m_rowr : Nat) (m_seenCellr : Nat) (m_seenWayr : Nat) (m_seenCamer : Nat) (m_isKeptr : Nat) (m_keptr : Nat) (m_marbles : Int32) (m_kind : Nat → Int32) (m_told : Nat → Int32) (m_now : Nat → Int32) (m_readTold : Nat → Int32) (m_readCell : Nat → Int32) (m_readKind : Nat → Int32) (m_text : Nat → Int32) (m_length : Int32) (m_at : Int32) (m_faultAt : Int32) (m_there : Int32) (m_stopped : Int32) (m_acts : Int32) (m_next : Int32) (m_row : Nat → Int32) (m_bestRow : Int32) (m_seen : Int32) (m_seenCell : Nat → Int32) (m_seenWay : Nat → Int32) (m_seenCame : Nat → Int32) (m_seed : Int64) (m_isKept : Nat → Int32) (m_kept : Nat → Int32) (p1 : Int32) (p2 : Int32) (res : Int32 × (Nat → Int32) × Int32) (h : tw_X7_isRest m_marbles m_kind m_told m_now m_there m_stopped p1 p2 = some res) : Ct l yX7_isRest wsX7_isRest 8 189 D cy [.ref mh, .int p1, .int p2] (cMd mh m_kindr m_toldr m_nowr m_readToldr m_readCellr m_readKindr m_textr m_rowr m_seenCellr m_seenWayr m_seenCamer m_isKeptr m_keptr cy.1 cy.2.2.1 m_marbles m_kind m_told m_now m_readTold m_readCell m_readKind m_text m_length m_at m_faultAt m_there m_stopped m_acts m_next m_row m_bestRow m_seen m_seenCell m_seenWay m_seenCame m_seed m_isKept m_kept) (cMd mh m_kindr m_toldr m_nowr m_readToldr m_readCellr m_readKindr m_textr m_rowr m_seenCellr m_seenWayr m_seenCamer m_isKeptr m_keptr cy.1 cy.2.2.1 m_marbles m_kind m_told res.2.1 m_readTold m_readCell m_readKind m_text m_length m_at m_faultAt m_there res.2.2 m_acts m_next m_row m_bestRow m_seen m_seenCell m_seenWay m_seenCame m_seed m_isKept m_kept) (some (.int res.1)) := by
  refine Ct.ofW (cc := cX7_isRest) (maxL := 5) (ret := (some .boolean)) (by decide) rfl (Nat.le_of_ble_eq_true rfl) ?_
  intro p e R s m args below meth c A Q ls hRf hRl hQ hx hb hr hml hts hown hlocks hE hP hD hS hA hl
  have hl : lv_has ls 5 [(0, .ref mh), (1, .int p1), (2, .int p2)] := hl
  rw [tw_X7_isRest] at h
  have L5 : ∀ (n : Nat) (x3 : Int32) (x4 : Int32) (m_now : Nat → Int32) (m_stopped : Int32)  (H : Heap) (locs : List Loc) (ls : Array Slot), lv_has ls 5 [(0, .ref mh), (1, .int p1), (2, .int p2), (3, .int x3), (4, .int x4)] → va_P D vwCl (cMd mh m_kindr m_toldr m_nowr m_readToldr m_readCellr m_readKindr m_textr m_rowr m_seenCellr m_seenWayr m_seenCamer m_isKeptr m_keptr cy.1 cy.2.2.1 m_marbles m_kind m_told m_now m_readTold m_readCell m_readKind m_text m_length m_at m_faultAt m_there m_stopped m_acts m_next m_row m_bestRow m_seen m_seenCell m_seenWay m_seenCame m_seed m_isKept m_kept) H → va_D A (cMd mh m_kindr m_toldr m_nowr m_readToldr m_readCellr m_readKindr m_textr m_rowr m_seenCellr m_seenWayr m_seenCamer m_isKeptr m_keptr cy.1 cy.2.2.1 m_marbles m_kind m_told m_now m_readTold m_readCell m_readKind m_text m_length m_at m_faultAt m_there m_stopped m_acts m_next m_row m_bestRow m_seen m_seenCell m_seenWay m_seenCame m_seed m_isKept m_kept) → va_S A s.heap H locs → tw_X7_isRest_5 m_marbles m_kind m_told m_there p1 p2 n x3 x4 m_now m_stopped = some res → W p l e R s m args below meth c H locs 0 0 Q (F0 m 5 ls []) := by
    intro n5
    induction n5 with
    | zero =>
      intro x3 x4 m_now m_stopped  H locs ls hl hP hD hS h
      exact absurd h (by rw [tw_X7_isRest_5]; exact fun q => by cases q)
    | succ n5 ih5 =>
      intro x3 x4 m_now m_stopped  H locs ls hl hP hD hS h
      rw [tw_X7_isRest_5] at h
      refine lv_iload hx hb dX7_isRest_5 (lv_at hl 4 rfl) ?_
      refine lv_iconst (v := 4) hx hb dX7_isRest_7 (by decide) ?_
      refine lv_icmp_ge (tgt := 63) hx hb dX7_isRest_8 (by decide) (fun c1 => ?_) (fun c1 => ?_)
      · have h := oit h c1
        refine lv_iload_n hx hb dX7_isRest_63 rfl (lv_at hl 3 rfl) ?_
        obtain ⟨g2, h⟩ := og h
        obtain rfl := Option.some.inj h
        rw [hQ]; exact ct_zret hx hb hr hlocks (nar_z g2) hP hS rfl dX7_isRest_64
      · have h := oif h c1
        refine lv_iload_n hx hb dX7_isRest_11 rfl (lv_at hl 3 rfl) ?_
        refine lv_if_eq (tgt := 55) hx hb dX7_isRest_12 (by decide) (fun c3 => ?_) (fun c3 => ?_)
        · have h := oit h c3
          refine lv_iconst (v := 0) hx hb dX7_isRest_55 (by decide) ?_
          refine lv_istore_n (lv' := [(3, .int 0), (0, .ref mh), (1, .int p1), (2, .int p2), (4, .int x4)]) hx hb dX7_isRest_56 rfl hl (by decide) rfl (fun ls hl => ?_)
          refine lv_iinc (v := x4 + 1) (lv' := [(4, .int (x4 + 1)), (3, .int 0), (0, .ref mh), (1, .int p1), (2, .int p2)]) hx hb dX7_isRest_57 hl (k := 4) rfl rfl (by decide) rfl (fun ls hl => ?_)
          refine lv_goto (tgt := 5) hx hb dX7_isRest_60 (by decide) ?_
          exact ih5 0 (x4 + 1) m_now m_stopped _ _ _ (lv_sub hl [2, 3, 4, 1, 0] rfl) hP hD hS h
        · have h := oif h c3
          refine lv_aload_n hx hb dX7_isRest_15 rfl (lv_at hl 0 rfl) ?_
          refine lv_iload hx hb dX7_isRest_16 (lv_at hl 4 rfl) ?_
          refine lv_iload_n hx hb dX7_isRest_18 rfl (lv_at hl 2 rfl) ?_
          refine lv_iconst (v := 0) hx hb dX7_isRest_19 (by decide) ?_
          obtain ⟨q4, hq4, h⟩ := ob h
          refine kV (As := [.int x4, .int p2, .int 0]) (rest := []) (w2 := cMd mh m_kindr m_toldr m_nowr m_readToldr m_readCellr m_readKindr m_textr m_rowr m_seenCellr m_seenWayr m_seenCamer m_isKeptr m_keptr cy.1 cy.2.2.1 m_marbles m_kind m_told q4.2.1 m_readTold m_readCell m_readKind m_text m_length m_at m_faultAt m_there q4.2.2 m_acts m_next m_row m_bestRow m_seen m_seenCell m_seenWay m_seenCame m_seed m_isKept m_kept) (n := 3) (q0 := 0) ⟨hx, hb, hml, hown, hts⟩ (c_X7_gain l D cy mh m_kindr m_toldr m_nowr m_readToldr m_readCellr m_readKindr m_textr m_rowr m_seenCellr m_seenWayr m_seenCamer m_isKeptr m_keptr m_marbles m_kind m_told m_now m_readTold m_readCell m_readKind m_text m_length m_at m_faultAt m_there m_stopped m_acts m_next m_row m_bestRow m_seen m_seenCell m_seenWay m_seenCame m_seed m_isKept m_kept x4 p2 0 q4 hq4) gX7_isRest_X7_gain rfl (by decide +kernel) ⟨by rw [hRf]; exact Nat.le_of_ble_eq_true rfl, by rw [hRl]; exact Nat.le_of_ble_eq_true rfl⟩ hE hP hD hS hA [0, 1, 2, 3, 4, 5, 6, 7, 8, 9, 10, 11, 12, 13] rfl rfl rfl rfl rfl rfl rfl hl.1 rfl (Nat.le_of_ble_eq_true rfl) dX7_isRest_20 ⟨Nat.zero_le _, Nat.zero_le _⟩ (fun H locs hP hD hS => ?_)
          refine lv_aload_n hx hb dX7_isRest_23 rfl (lv_at hl 0 rfl) ?_
          refine lv_iload_n hx hb dX7_isRest_24 rfl (lv_at hl 1 rfl) ?_
          refine lv_iload_n hx hb dX7_isRest_25 rfl (lv_at hl 2 rfl) ?_
          refine lv_iconst (v := 0) hx hb dX7_isRest_26 (by decide) ?_
          obtain ⟨q5, hq5, h⟩ := ob h
          refine kV (As := [.int p1, .int p2, .int 0]) (rest := [.int q4.1]) (w2 := cMd mh m_kindr m_toldr m_nowr m_readToldr m_readCellr m_readKindr m_textr m_rowr m_seenCellr m_seenWayr m_seenCamer m_isKeptr m_keptr cy.1 cy.2.2.1 m_marbles m_kind m_told q5.2.1 m_readTold m_readCell m_readKind m_text m_length m_at m_faultAt m_there q5.2.2 m_acts m_next m_row m_bestRow m_seen m_seenCell m_seenWay m_seenCame m_seed m_isKept m_kept) (n := 3) (q0 := 0) ⟨hx, hb, hml, hown, hts⟩ (c_X7_gain l D cy mh m_kindr m_toldr m_nowr m_readToldr m_readCellr m_readKindr m_textr m_rowr m_seenCellr m_seenWayr m_seenCamer m_isKeptr m_keptr m_marbles m_kind m_told q4.2.1 m_readTold m_readCell m_readKind m_text m_length m_at m_faultAt m_there q4.2.2 m_acts m_next m_row m_bestRow m_seen m_seenCell m_seenWay m_seenCame m_seed m_isKept m_kept p1 p2 0 q5 hq5) gX7_isRest_X7_gain rfl (by decide +kernel) ⟨by rw [hRf]; exact Nat.le_of_ble_eq_true rfl, by rw [hRl]; exact Nat.le_of_ble_eq_true rfl⟩ hE hP hD hS hA [0, 1, 2, 3, 4, 5, 6, 7, 8, 9, 10, 11, 12, 13] rfl rfl rfl rfl rfl rfl rfl hl.1 rfl (Nat.le_of_ble_eq_true rfl) dX7_isRest_27 ⟨Nat.zero_le _, Nat.zero_le _⟩ (fun H locs hP hD hS => ?_)
          refine lv_icmp_gt (tgt := 55) hx hb dX7_isRest_30 (by decide) (fun c6 => ?_) (fun c6 => ?_)
          · have h := oit h c6
            refine lv_iconst (v := 0) hx hb dX7_isRest_55 (by decide) ?_
            refine lv_istore_n (lv' := [(3, .int 0), (0, .ref mh), (1, .int p1), (2, .int p2), (4, .int x4)]) hx hb dX7_isRest_56 rfl hl (by decide) rfl (fun ls hl => ?_)
            refine lv_iinc (v := x4 + 1) (lv' := [(4, .int (x4 + 1)), (3, .int 0), (0, .ref mh), (1, .int p1), (2, .int p2)]) hx hb dX7_isRest_57 hl (k := 4) rfl rfl (by decide) rfl (fun ls hl => ?_)
            refine lv_goto (tgt := 5) hx hb dX7_isRest_60 (by decide) ?_
            exact ih5 0 (x4 + 1) q5.2.1 q5.2.2 _ _ _ (lv_sub hl [2, 3, 4, 1, 0] rfl) hP hD hS h
          · have h := oif h c6
            refine lv_aload_n hx hb dX7_isRest_33 rfl (lv_at hl 0 rfl) ?_
            refine lv_iload_n hx hb dX7_isRest_34 rfl (lv_at hl 1 rfl) ?_
            refine lv_iload hx hb dX7_isRest_35 (lv_at hl 4 rfl) ?_
            refine lv_iconst (v := 1) hx hb dX7_isRest_37 (by decide) ?_
            obtain ⟨q7, hq7, h⟩ := ob h
            refine kV (As := [.int p1, .int x4, .int 1]) (rest := []) (w2 := cMd mh m_kindr m_toldr m_nowr m_readToldr m_readCellr m_readKindr m_textr m_rowr m_seenCellr m_seenWayr m_seenCamer m_isKeptr m_keptr cy.1 cy.2.2.1 m_marbles m_kind m_told q7.2.1 m_readTold m_readCell m_readKind m_text m_length m_at m_faultAt m_there q7.2.2 m_acts m_next m_row m_bestRow m_seen m_seenCell m_seenWay m_seenCame m_seed m_isKept m_kept) (n := 3) (q0 := 0) ⟨hx, hb, hml, hown, hts⟩ (c_X7_gain l D cy mh m_kindr m_toldr m_nowr m_readToldr m_readCellr m_readKindr m_textr m_rowr m_seenCellr m_seenWayr m_seenCamer m_isKeptr m_keptr m_marbles m_kind m_told q5.2.1 m_readTold m_readCell m_readKind m_text m_length m_at m_faultAt m_there q5.2.2 m_acts m_next m_row m_bestRow m_seen m_seenCell m_seenWay m_seenCame m_seed m_isKept m_kept p1 x4 1 q7 hq7) gX7_isRest_X7_gain rfl (by decide +kernel) ⟨by rw [hRf]; exact Nat.le_of_ble_eq_true rfl, by rw [hRl]; exact Nat.le_of_ble_eq_true rfl⟩ hE hP hD hS hA [0, 1, 2, 3, 4, 5, 6, 7, 8, 9, 10, 11, 12, 13] rfl rfl rfl rfl rfl rfl rfl hl.1 rfl (Nat.le_of_ble_eq_true rfl) dX7_isRest_38 ⟨Nat.zero_le _, Nat.zero_le _⟩ (fun H locs hP hD hS => ?_)
            refine lv_aload_n hx hb dX7_isRest_41 rfl (lv_at hl 0 rfl) ?_
            refine lv_iload_n hx hb dX7_isRest_42 rfl (lv_at hl 1 rfl) ?_
            refine lv_iload_n hx hb dX7_isRest_43 rfl (lv_at hl 2 rfl) ?_
            refine lv_iconst (v := 1) hx hb dX7_isRest_44 (by decide) ?_
            obtain ⟨q8, hq8, h⟩ := ob h
            refine kV (As := [.int p1, .int p2, .int 1]) (rest := [.int q7.1]) (w2 := cMd mh m_kindr m_toldr m_nowr m_readToldr m_readCellr m_readKindr m_textr m_rowr m_seenCellr m_seenWayr m_seenCamer m_isKeptr m_keptr cy.1 cy.2.2.1 m_marbles m_kind m_told q8.2.1 m_readTold m_readCell m_readKind m_text m_length m_at m_faultAt m_there q8.2.2 m_acts m_next m_row m_bestRow m_seen m_seenCell m_seenWay m_seenCame m_seed m_isKept m_kept) (n := 3) (q0 := 0) ⟨hx, hb, hml, hown, hts⟩ (c_X7_gain l D cy mh m_kindr m_toldr m_nowr m_readToldr m_readCellr m_readKindr m_textr m_rowr m_seenCellr m_seenWayr m_seenCamer m_isKeptr m_keptr m_marbles m_kind m_told q7.2.1 m_readTold m_readCell m_readKind m_text m_length m_at m_faultAt m_there q7.2.2 m_acts m_next m_row m_bestRow m_seen m_seenCell m_seenWay m_seenCame m_seed m_isKept m_kept p1 p2 1 q8 hq8) gX7_isRest_X7_gain rfl (by decide +kernel) ⟨by rw [hRf]; exact Nat.le_of_ble_eq_true rfl, by rw [hRl]; exact Nat.le_of_ble_eq_true rfl⟩ hE hP hD hS hA [0, 1, 2, 3, 4, 5, 6, 7, 8, 9, 10, 11, 12, 13] rfl rfl rfl rfl rfl rfl rfl hl.1 rfl (Nat.le_of_ble_eq_true rfl) dX7_isRest_45 ⟨Nat.zero_le _, Nat.zero_le _⟩ (fun H locs hP hD hS => ?_)
            refine lv_icmp_gt (tgt := 55) hx hb dX7_isRest_48 (by decide) (fun c9 => ?_) (fun c9 => ?_)
            · have h := oit h c9
              refine lv_iconst (v := 0) hx hb dX7_isRest_55 (by decide) ?_
              refine lv_istore_n (lv' := [(3, .int 0), (0, .ref mh), (1, .int p1), (2, .int p2), (4, .int x4)]) hx hb dX7_isRest_56 rfl hl (by decide) rfl (fun ls hl => ?_)
              refine lv_iinc (v := x4 + 1) (lv' := [(4, .int (x4 + 1)), (3, .int 0), (0, .ref mh), (1, .int p1), (2, .int p2)]) hx hb dX7_isRest_57 hl (k := 4) rfl rfl (by decide) rfl (fun ls hl => ?_)
              refine lv_goto (tgt := 5) hx hb dX7_isRest_60 (by decide) ?_
              exact ih5 0 (x4 + 1) q8.2.1 q8.2.2 _ _ _ (lv_sub hl [2, 3, 4, 1, 0] rfl) hP hD hS h
            · have h := oif h c9
              refine lv_iconst (v := 1) hx hb dX7_isRest_51 (by decide) ?_
              refine lv_goto (tgt := 56) hx hb dX7_isRest_52 (by decide) ?_
              refine lv_istore_n (lv' := [(3, .int 1), (0, .ref mh), (1, .int p1), (2, .int p2), (4, .int x4)]) hx hb dX7_isRest_56 rfl hl (by decide) rfl (fun ls hl => ?_)
              refine lv_iinc (v := x4 + 1) (lv' := [(4, .int (x4 + 1)), (3, .int 1), (0, .ref mh), (1, .int p1), (2, .int p2)]) hx hb dX7_isRest_57 hl (k := 4) rfl rfl (by decide) rfl (fun ls hl => ?_)
              refine lv_goto (tgt := 5) hx hb dX7_isRest_60 (by decide) ?_
              exact ih5 1 (x4 + 1) q8.2.1 q8.2.2 _ _ _ (lv_sub hl [2, 3, 4, 1, 0] rfl) hP hD hS h
  refine lv_iconst (v := 1) hx hb dX7_isRest_0 (by decide) ?_
  refine lv_istore_n (lv' := [(3, .int 1), (0, .ref mh), (1, .int p1), (2, .int p2)]) hx hb dX7_isRest_1 rfl hl (by decide) rfl (fun ls hl => ?_)
  refine lv_iconst (v := 0) hx hb dX7_isRest_2 (by decide) ?_
  refine lv_istore (lv' := [(4, .int 0), (3, .int 1), (0, .ref mh), (1, .int p1), (2, .int p2)]) hx hb dX7_isRest_3 hl (by decide) rfl (fun ls hl => ?_)
  exact L5 5 1 0 m_now m_stopped _ _ _ (lv_sub hl [2, 3, 4, 1, 0] rfl) hP hD hS h

def tw_X7_rests_21 (m_marbles : Int32) (m_kind : Nat → Int32) (m_told : Nat → Int32) (m_there : Int32) (p1 : Int32) : Nat → Int32 → Int32 → Int32 → (Nat → Int32) → Int32 → Option (Int32 × (Nat → Int32) × Int32)
  | 0, _, _, _, _, _ => none
  | n + 1, x2, x3, x4, m_now, m_stopped =>
    if 16 ≤ x4 then (if p1 = 0 then (some (x2, m_now, m_stopped)) else (some (x3, m_now, m_stopped))) else ((tw_X7_isRest m_marbles m_kind m_told m_now m_there m_stopped (x4 / 4) (x4 - x4 / 4 * 4)).bind (fun q3 => if q3.1 = 0 then ((tw_X7_rests_21 m_marbles m_kind m_told m_there p1 n) x2 x3 (x4 + 1) q3.2.1 q3.2.2) else (if x2 = 0 then ((tw_X7_rests_21 m_marbles m_kind m_told m_there p1 n) (x2 + 1) ((10 * (x4 / 4)) + (x4 - x4 / 4 * 4)) (x4 + 1) q3.2.1 q3.2.2) else ((tw_X7_rests_21 m_marbles m_kind m_told m_there p1 n) (x2 + 1) x3 (x4 + 1) q3.2.1 q3.2.2))))
def tw_X7_rests (m_marbles : Int32) (m_kind : Nat → Int32) (m_told : Nat → Int32) (m_now : Nat → Int32) (m_there : Int32) (m_stopped : Int32) (p1 : Int32) : Option (Int32 × (Nat → Int32) × Int32) :=
  (tw_X7_in p1.toInt64 0 1).bind (fun q6 => if q6 = 0 then (some ((-2), m_now, m_stopped)) else (tw_X7_rests_21 m_marbles m_kind m_told m_there p1 17 0 (-9) 0 m_now m_stopped))
set_option maxHeartbeats 4000000 in
set_option maxRecDepth 100000 in
theorem c_X7_rests (l : Launch) (D : va_G) (cy : Cy) (mh : Nat) (m_kindr : Nat) (m_toldr : Nat) (m_nowr : Nat) (m_readToldr : Nat) (m_readCellr : Nat) (m_readKindr : Nat) (m_textr : Nat) (m_rowr : Nat) (m_seenCellr : Nat) (m_seenWayr : Nat) (m_seenCamer : Nat) (m_isKeptr : Nat) (m_keptr : Nat) (m_marbles : Int32) (m_kind : Nat → Int32) (m_told : Nat → Int32) (m_now : Nat → Int32) (m_readTold : Nat → Int32) (m_readCell : Nat → Int32) (m_readKind : Nat → Int32) (m_text : Nat → Int32) (m_length : Int32) (m_at : Int32) (m_faultAt : Int32) (m_there : Int32) (m_stopped : Int32) (m_acts : Int32) (m_next : Int32) (m_row : Nat → Int32) (m_bestRow : Int32) (m_seen : Int32) (m_seenCell : Nat → Int32) (m_seenWay : Nat → Int32) (m_seenCame : Nat → Int32) (m_seed : Int64) (m_isKept : Nat → Int32) (m_kept : Nat → Int32) (p1 : Int32) (res : Int32 × (Nat → Int32) × Int32) (h : tw_X7_rests m_marbles m_kind m_told m_now m_there m_stopped p1 = some res) : Ct l yX7_rests wsX7_rests 9 213 D cy [.ref mh, .int p1] (cMd mh m_kindr m_toldr m_nowr m_readToldr m_readCellr m_readKindr m_textr m_rowr m_seenCellr m_seenWayr m_seenCamer m_isKeptr m_keptr cy.1 cy.2.2.1 m_marbles m_kind m_told m_now m_readTold m_readCell m_readKind m_text m_length m_at m_faultAt m_there m_stopped m_acts m_next m_row m_bestRow m_seen m_seenCell m_seenWay m_seenCame m_seed m_isKept m_kept) (cMd mh m_kindr m_toldr m_nowr m_readToldr m_readCellr m_readKindr m_textr m_rowr m_seenCellr m_seenWayr m_seenCamer m_isKeptr m_keptr cy.1 cy.2.2.1 m_marbles m_kind m_told res.2.1 m_readTold m_readCell m_readKind m_text m_length m_at m_faultAt m_there res.2.2 m_acts m_next m_row m_bestRow m_seen m_seenCell m_seenWay m_seenCame m_seed m_isKept m_kept) (some (.int res.1)) := by
  refine Ct.ofW (cc := cX7_rests) (maxL := 5) (ret := (some .int)) (by decide) rfl (Nat.le_of_ble_eq_true rfl) ?_
  intro p e R s m args below meth c A Q ls hRf hRl hQ hx hb hr hml hts hown hlocks hE hP hD hS hA hl
  have hl : lv_has ls 5 [(0, .ref mh), (1, .int p1)] := hl
  rw [tw_X7_rests] at h
  have L21 : ∀ (n : Nat) (x2 : Int32) (x3 : Int32) (x4 : Int32) (m_now : Nat → Int32) (m_stopped : Int32)  (H : Heap) (locs : List Loc) (ls : Array Slot), lv_has ls 5 [(0, .ref mh), (1, .int p1), (2, .int x2), (3, .int x3), (4, .int x4)] → va_P D vwCl (cMd mh m_kindr m_toldr m_nowr m_readToldr m_readCellr m_readKindr m_textr m_rowr m_seenCellr m_seenWayr m_seenCamer m_isKeptr m_keptr cy.1 cy.2.2.1 m_marbles m_kind m_told m_now m_readTold m_readCell m_readKind m_text m_length m_at m_faultAt m_there m_stopped m_acts m_next m_row m_bestRow m_seen m_seenCell m_seenWay m_seenCame m_seed m_isKept m_kept) H → va_D A (cMd mh m_kindr m_toldr m_nowr m_readToldr m_readCellr m_readKindr m_textr m_rowr m_seenCellr m_seenWayr m_seenCamer m_isKeptr m_keptr cy.1 cy.2.2.1 m_marbles m_kind m_told m_now m_readTold m_readCell m_readKind m_text m_length m_at m_faultAt m_there m_stopped m_acts m_next m_row m_bestRow m_seen m_seenCell m_seenWay m_seenCame m_seed m_isKept m_kept) → va_S A s.heap H locs → tw_X7_rests_21 m_marbles m_kind m_told m_there p1 n x2 x3 x4 m_now m_stopped = some res → W p l e R s m args below meth c H locs 0 0 Q (F0 m 21 ls []) := by
    intro n21
    induction n21 with
    | zero =>
      intro x2 x3 x4 m_now m_stopped  H locs ls hl hP hD hS h
      exact absurd h (by rw [tw_X7_rests_21]; exact fun q => by cases q)
    | succ n21 ih21 =>
      intro x2 x3 x4 m_now m_stopped  H locs ls hl hP hD hS h
      rw [tw_X7_rests_21] at h
      refine lv_iload hx hb dX7_rests_21 (lv_at hl 4 rfl) ?_
      refine lv_bipush (v := 16) hx hb dX7_rests_23 (by decide) ?_
      refine lv_icmp_ge (tgt := 73) hx hb dX7_rests_25 (by decide) (fun c1 => ?_) (fun c1 => ?_)
      · have h := oit h c1
        refine lv_iload_n hx hb dX7_rests_73 rfl (lv_at hl 1 rfl) ?_
        refine lv_if_ne (tgt := 81) hx hb dX7_rests_74 (by decide) (fun c2 => ?_) (fun c2 => ?_)
        · have h := oif h c2
          refine lv_iload_n hx hb dX7_rests_81 rfl (lv_at hl 3 rfl) ?_
          obtain rfl := Option.some.inj h
          rw [hQ]; exact ct_iret hx hb hr hlocks hP hS rfl dX7_rests_82
        · have h := oit h c2
          refine lv_iload_n hx hb dX7_rests_77 rfl (lv_at hl 2 rfl) ?_
          refine lv_goto (tgt := 82) hx hb dX7_rests_78 (by decide) ?_
          obtain rfl := Option.some.inj h
          rw [hQ]; exact ct_iret hx hb hr hlocks hP hS rfl dX7_rests_82
      · have h := oif h c1
        refine lv_aload_n hx hb dX7_rests_28 rfl (lv_at hl 0 rfl) ?_
        refine lv_iload hx hb dX7_rests_29 (lv_at hl 4 rfl) ?_
        refine lv_iconst (v := 4) hx hb dX7_rests_31 (by decide) ?_
        refine lv_idiv hx hb dX7_rests_32 (by decide) ?_
        refine lv_iload hx hb dX7_rests_33 (lv_at hl 4 rfl) ?_
        refine lv_iconst (v := 4) hx hb dX7_rests_35 (by decide) ?_
        refine lv_irem hx hb dX7_rests_36 (by decide) ?_
        obtain ⟨q3, hq3, h⟩ := ob h
        refine kV (As := [.int (x4 / 4), .int (x4 - x4 / 4 * 4)]) (rest := []) (w2 := cMd mh m_kindr m_toldr m_nowr m_readToldr m_readCellr m_readKindr m_textr m_rowr m_seenCellr m_seenWayr m_seenCamer m_isKeptr m_keptr cy.1 cy.2.2.1 m_marbles m_kind m_told q3.2.1 m_readTold m_readCell m_readKind m_text m_length m_at m_faultAt m_there q3.2.2 m_acts m_next m_row m_bestRow m_seen m_seenCell m_seenWay m_seenCame m_seed m_isKept m_kept) (n := 2) (q0 := 0) ⟨hx, hb, hml, hown, hts⟩ (c_X7_isRest l D cy mh m_kindr m_toldr m_nowr m_readToldr m_readCellr m_readKindr m_textr m_rowr m_seenCellr m_seenWayr m_seenCamer m_isKeptr m_keptr m_marbles m_kind m_told m_now m_readTold m_readCell m_readKind m_text m_length m_at m_faultAt m_there m_stopped m_acts m_next m_row m_bestRow m_seen m_seenCell m_seenWay m_seenCame m_seed m_isKept m_kept (x4 / 4) (x4 - x4 / 4 * 4) q3 hq3) gX7_rests_X7_isRest rfl (by decide +kernel) ⟨by rw [hRf]; exact Nat.le_of_ble_eq_true rfl, by rw [hRl]; exact Nat.le_of_ble_eq_true rfl⟩ hE hP hD hS hA [0, 1, 2, 3, 4, 5, 6, 7, 8, 9, 10, 11, 12, 13] rfl rfl rfl rfl rfl rfl rfl hl.1 rfl (Nat.le_of_ble_eq_true rfl) dX7_rests_37 ⟨Nat.zero_le _, Nat.zero_le _⟩ (fun H locs hP hD hS => ?_)
        refine lv_if_eq (tgt := 67) hx hb dX7_rests_40 (by decide) (fun c4 => ?_) (fun c4 => ?_)
        · have h := oit h c4
          refine lv_iinc (v := x4 + 1) (lv' := [(4, .int (x4 + 1)), (0, .ref mh), (1, .int p1), (2, .int x2), (3, .int x3)]) hx hb dX7_rests_67 hl (k := 4) rfl rfl (by decide) rfl (fun ls hl => ?_)
          refine lv_goto (tgt := 21) hx hb dX7_rests_70 (by decide) ?_
          exact ih21 x2 x3 (x4 + 1) q3.2.1 q3.2.2 _ _ _ (lv_sub hl [1, 2, 3, 4, 0] rfl) hP hD hS h
        · have h := oif h c4
          refine lv_iload_n hx hb dX7_rests_43 rfl (lv_at hl 2 rfl) ?_
          refine lv_if_ne (tgt := 62) hx hb dX7_rests_44 (by decide) (fun c5 => ?_) (fun c5 => ?_)
          · have h := oif h c5
            refine lv_iload_n hx hb dX7_rests_62 rfl (lv_at hl 3 rfl) ?_
            refine lv_istore_n (lv' := [(3, .int x3), (0, .ref mh), (1, .int p1), (2, .int x2), (4, .int x4)]) hx hb dX7_rests_63 rfl hl (by decide) rfl (fun ls hl => ?_)
            refine lv_iinc (v := x2 + 1) (lv' := [(2, .int (x2 + 1)), (3, .int x3), (0, .ref mh), (1, .int p1), (4, .int x4)]) hx hb dX7_rests_64 hl (k := 3) rfl rfl (by decide) rfl (fun ls hl => ?_)
            refine lv_iinc (v := x4 + 1) (lv' := [(4, .int (x4 + 1)), (2, .int (x2 + 1)), (3, .int x3), (0, .ref mh), (1, .int p1)]) hx hb dX7_rests_67 hl (k := 4) rfl rfl (by decide) rfl (fun ls hl => ?_)
            refine lv_goto (tgt := 21) hx hb dX7_rests_70 (by decide) ?_
            exact ih21 (x2 + 1) x3 (x4 + 1) q3.2.1 q3.2.2 _ _ _ (lv_sub hl [3, 4, 1, 2, 0] rfl) hP hD hS h
          · have h := oit h c5
            refine lv_bipush (v := 10) hx hb dX7_rests_47 (by decide) ?_
            refine lv_iload hx hb dX7_rests_49 (lv_at hl 4 rfl) ?_
            refine lv_iconst (v := 4) hx hb dX7_rests_51 (by decide) ?_
            refine lv_idiv hx hb dX7_rests_52 (by decide) ?_
            refine lv_imul hx hb dX7_rests_53 ?_
            refine lv_iload hx hb dX7_rests_54 (lv_at hl 4 rfl) ?_
            refine lv_iconst (v := 4) hx hb dX7_rests_56 (by decide) ?_
            refine lv_irem hx hb dX7_rests_57 (by decide) ?_
            refine lv_iadd hx hb dX7_rests_58 ?_
            refine lv_goto (tgt := 63) hx hb dX7_rests_59 (by decide) ?_
            refine lv_istore_n (lv' := [(3, .int ((10 * (x4 / 4)) + (x4 - x4 / 4 * 4))), (0, .ref mh), (1, .int p1), (2, .int x2), (4, .int x4)]) hx hb dX7_rests_63 rfl hl (by decide) rfl (fun ls hl => ?_)
            refine lv_iinc (v := x2 + 1) (lv' := [(2, .int (x2 + 1)), (3, .int ((10 * (x4 / 4)) + (x4 - x4 / 4 * 4))), (0, .ref mh), (1, .int p1), (4, .int x4)]) hx hb dX7_rests_64 hl (k := 3) rfl rfl (by decide) rfl (fun ls hl => ?_)
            refine lv_iinc (v := x4 + 1) (lv' := [(4, .int (x4 + 1)), (2, .int (x2 + 1)), (3, .int ((10 * (x4 / 4)) + (x4 - x4 / 4 * 4))), (0, .ref mh), (1, .int p1)]) hx hb dX7_rests_67 hl (k := 4) rfl rfl (by decide) rfl (fun ls hl => ?_)
            refine lv_goto (tgt := 21) hx hb dX7_rests_70 (by decide) ?_
            exact ih21 (x2 + 1) ((10 * (x4 / 4)) + (x4 - x4 / 4 * 4)) (x4 + 1) q3.2.1 q3.2.2 _ _ _ (lv_sub hl [3, 4, 1, 2, 0] rfl) hP hD hS h
  refine lv_iload_n hx hb dX7_rests_0 rfl (lv_at hl 1 rfl) ?_
  refine lv_i2l hx hb dX7_rests_1 rfl ?_
  refine lv_lconst (v := 0) hx hb dX7_rests_2 (by decide) ?_
  refine lv_lconst (v := 1) hx hb dX7_rests_3 (by decide) ?_
  obtain ⟨q6, hq6, h⟩ := ob h
  refine kS (As := [.long p1.toInt64, .long 0, .long 1]) (rest := []) (w2 := cMd mh m_kindr m_toldr m_nowr m_readToldr m_readCellr m_readKindr m_textr m_rowr m_seenCellr m_seenWayr m_seenCamer m_isKeptr m_keptr cy.1 cy.2.2.1 m_marbles m_kind m_told m_now m_readTold m_readCell m_readKind m_text m_length m_at m_faultAt m_there m_stopped m_acts m_next m_row m_bestRow m_seen m_seenCell m_seenWay m_seenCame m_seed m_isKept m_kept) (n := 3) ⟨hx, hb, hml, hown, hts⟩ (c_X7_in l D cy p1.toInt64 0 1 q6 hq6) gX7_rests_X7_in rfl (by decide +kernel) ⟨by rw [hRf]; exact Nat.le_of_ble_eq_true rfl, by rw [hRl]; exact Nat.le_of_ble_eq_true rfl⟩ hE hP hD hS hA [] rfl rfl rfl rfl rfl hl.1 rfl (Nat.le_of_ble_eq_true rfl) dX7_rests_4 ⟨Nat.zero_le _, Nat.zero_le _⟩ (fun H locs hP hD hS => ?_)
  refine lv_if_ne (tgt := 13) hx hb dX7_rests_7 (by decide) (fun c7 => ?_) (fun c7 => ?_)
  · have h := oif h c7
    refine lv_iconst (v := 0) hx hb dX7_rests_13 (by decide) ?_
    refine lv_istore_n (lv' := [(2, .int 0), (0, .ref mh), (1, .int p1)]) hx hb dX7_rests_14 rfl hl (by decide) rfl (fun ls hl => ?_)
    refine lv_bipush (v := (-9)) hx hb dX7_rests_15 (by decide) ?_
    refine lv_istore_n (lv' := [(3, .int (-9)), (2, .int 0), (0, .ref mh), (1, .int p1)]) hx hb dX7_rests_17 rfl hl (by decide) rfl (fun ls hl => ?_)
    refine lv_iconst (v := 0) hx hb dX7_rests_18 (by decide) ?_
    refine lv_istore (lv' := [(4, .int 0), (3, .int (-9)), (2, .int 0), (0, .ref mh), (1, .int p1)]) hx hb dX7_rests_19 hl (by decide) rfl (fun ls hl => ?_)
    exact L21 17 0 (-9) 0 m_now m_stopped _ _ _ (lv_sub hl [3, 4, 2, 1, 0] rfl) hP hD hS h
  · have h := oit h c7
    refine lv_bipush (v := (-2)) hx hb dX7_rests_10 (by decide) ?_
    obtain rfl := Option.some.inj h
    rw [hQ]; exact ct_iret hx hb hr hlocks hP hS rfl dX7_rests_12

def tw_X7_fails_70 (m_marbles : Int32) (m_kind : Nat → Int32) (m_told : Nat → Int32) (m_there : Int32) (p1 : Int32) (p2 : Int32) (p3 : Int32) (p4 : Int32) (p5 : Int32) : Nat → Int32 → Int32 → Int32 → Int32 → (Nat → Int32) → Int32 → Option (Int32 × (Nat → Int32) × Int32)
  | 0, _, _, _, _, _, _ => none
  | n + 1, x6, x7, x8, x9, m_now, m_stopped =>
    if (1 <<< (p2 &&& 31)) ≤ x9 then ((tw_X7_common x7 x8).bind (fun q2 => if p5 = 0 then (if ¬ q2 = 0 then (some (x8 / q2, m_now, m_stopped)) else none) else (if ¬ q2 = 0 then (some (x7 / q2, m_now, m_stopped)) else none))) else ((tw_X7_ones x9).bind (fun q6 => (tw_X7_power p4 q6).bind (fun q7 => (tw_X7_ones x9).bind (fun q8 => (tw_X7_power (10 - p4) (p2 - q8)).bind (fun q9 => (tw_X7_tiltRow m_marbles m_kind m_told m_now m_there m_stopped p2 x6 x9).bind (fun q10 => if ix (7 + p1) 14 = true then (if (q10.1 (7 + p1).toNatClampNeg) < 100 then ((tw_X7_fails_70 m_marbles m_kind m_told m_there p1 p2 p3 p4 p5 n) x6 (x7 + 0) (x8 + (q7 * q9)) (x9 + 1) q10.1 q10.2) else ((tw_X7_fails_70 m_marbles m_kind m_told m_there p1 p2 p3 p4 p5 n) x6 (x7 + (q7 * q9)) (x8 + (q7 * q9)) (x9 + 1) q10.1 q10.2)) else none))))))
def tw_X7_fails_36 (m_marbles : Int32) (m_kind : Nat → Int32) (m_told : Nat → Int32) (m_there : Int32) (p1 : Int32) (p2 : Int32) (p3 : Int32) (p4 : Int32) (p5 : Int32) (z0 : Int32) (m_now : Nat → Int32) (m_stopped : Int32) : Option (Int32 × (Nat → Int32) × Int32) :=
  if z0 = (-9) then (some ((-2), m_now, m_stopped)) else ((tw_X7_in p4.toInt64 0 10).bind (fun q14 => if q14 = 0 then (some ((-2), m_now, m_stopped)) else (tw_X7_fails_70 m_marbles m_kind m_told m_there p1 p2 p3 p4 p5 17 z0 0 0 0 m_now m_stopped)))
def tw_X7_fails_34 (m_marbles : Int32) (m_kind : Nat → Int32) (m_told : Nat → Int32) (m_there : Int32) (p1 : Int32) (p2 : Int32) (p3 : Int32) (p4 : Int32) (p5 : Int32) (m_now : Nat → Int32) (m_stopped : Int32) : Option (Int32 × (Nat → Int32) × Int32) :=
  tw_X7_fails_36 m_marbles m_kind m_told m_there p1 p2 p3 p4 p5 (-9) m_now m_stopped
def tw_X7_fails (m_marbles : Int32) (m_kind : Nat → Int32) (m_told : Nat → Int32) (m_now : Nat → Int32) (m_there : Int32) (m_stopped : Int32) (p1 : Int32) (p2 : Int32) (p3 : Int32) (p4 : Int32) (p5 : Int32) : Option (Int32 × (Nat → Int32) × Int32) :=
  (tw_X7_isMarble m_marbles p1).bind (fun q16 => if q16 = 0 then (some ((-1), m_now, m_stopped)) else ((tw_X7_in p2.toInt64 1 4).bind (fun q18 => if q18 = 0 then (tw_X7_fails_34 m_marbles m_kind m_told m_there p1 p2 p3 p4 p5 m_now m_stopped) else (if p3 ≤ 0 then (tw_X7_fails_34 m_marbles m_kind m_told m_there p1 p2 p3 p4 p5 m_now m_stopped) else ((tw_X7_foursOf p2 p3).bind (fun q21 => tw_X7_fails_36 m_marbles m_kind m_told m_there p1 p2 p3 p4 p5 q21 m_now m_stopped))))))
set_option maxHeartbeats 4000000 in
set_option maxRecDepth 100000 in
theorem c_X7_fails (l : Launch) (D : va_G) (cy : Cy) (mh : Nat) (m_kindr : Nat) (m_toldr : Nat) (m_nowr : Nat) (m_readToldr : Nat) (m_readCellr : Nat) (m_readKindr : Nat) (m_textr : Nat) (m_rowr : Nat) (m_seenCellr : Nat) (m_seenWayr : Nat) (m_seenCamer : Nat) (m_isKeptr : Nat) (m_keptr : Nat) (m_marbles : Int32) (m_kind : Nat → Int32) (m_told : Nat → Int32) (m_now : Nat → Int32) (m_readTold : Nat → Int32) (m_readCell : Nat → Int32) (m_readKind : Nat → Int32) (m_text : Nat → Int32) (m_length : Int32) (m_at : Int32) (m_faultAt : Int32) (m_there : Int32) (m_stopped : Int32) (m_acts : Int32) (m_next : Int32) (m_row : Nat → Int32) (m_bestRow : Int32) (m_seen : Int32) (m_seenCell : Nat → Int32) (m_seenWay : Nat → Int32) (m_seenCame : Nat → Int32) (m_seed : Int64) (m_isKept : Nat → Int32) (m_kept : Nat → Int32) (p1 : Int32) (p2 : Int32) (p3 : Int32) (p4 : Int32) (p5 : Int32) (res : Int32 × (Nat → Int32) × Int32) (h : tw_X7_fails m_marbles m_kind m_told m_now m_there m_stopped p1 p2 p3 p4 p5 = some res) : Ct l yX7_fails wsX7_fails 7 164 D cy [.ref mh, .int p1, .int p2, .int p3, .int p4, .int p5] (cMd mh m_kindr m_toldr m_nowr m_readToldr m_readCellr m_readKindr m_textr m_rowr m_seenCellr m_seenWayr m_seenCamer m_isKeptr m_keptr cy.1 cy.2.2.1 m_marbles m_kind m_told m_now m_readTold m_readCell m_readKind m_text m_length m_at m_faultAt m_there m_stopped m_acts m_next m_row m_bestRow m_seen m_seenCell m_seenWay m_seenCame m_seed m_isKept m_kept) (cMd mh m_kindr m_toldr m_nowr m_readToldr m_readCellr m_readKindr m_textr m_rowr m_seenCellr m_seenWayr m_seenCamer m_isKeptr m_keptr cy.1 cy.2.2.1 m_marbles m_kind m_told res.2.1 m_readTold m_readCell m_readKind m_text m_length m_at m_faultAt m_there res.2.2 m_acts m_next m_row m_bestRow m_seen m_seenCell m_seenWay m_seenCame m_seed m_isKept m_kept) (some (.int res.1)) := by
  refine Ct.ofW (cc := cX7_fails) (maxL := 11) (ret := (some .int)) (by decide) rfl (Nat.le_of_ble_eq_true rfl) ?_
  intro p e R s m args below meth c A Q ls hRf hRl hQ hx hb hr hml hts hown hlocks hE hP hD hS hA hl
  have hiX7 : ∀ w ∈ u_ws RX7 TX7 24, w ∈ wsX7_fails := by decide +kernel
  have hl : lv_has ls 11 [(0, .ref mh), (1, .int p1), (2, .int p2), (3, .int p3), (4, .int p4), (5, .int p5)] := hl
  rw [tw_X7_fails] at h
  have L70 : ∀ (n : Nat) (x6 : Int32) (x7 : Int32) (x8 : Int32) (x9 : Int32) (m_now : Nat → Int32) (m_stopped : Int32)  (H : Heap) (locs : List Loc) (ls : Array Slot), lv_has ls 11 [(0, .ref mh), (1, .int p1), (2, .int p2), (4, .int p4), (5, .int p5), (6, .int x6), (7, .int x7), (8, .int x8), (9, .int x9)] → va_P D vwCl (cMd mh m_kindr m_toldr m_nowr m_readToldr m_readCellr m_readKindr m_textr m_rowr m_seenCellr m_seenWayr m_seenCamer m_isKeptr m_keptr cy.1 cy.2.2.1 m_marbles m_kind m_told m_now m_readTold m_readCell m_readKind m_text m_length m_at m_faultAt m_there m_stopped m_acts m_next m_row m_bestRow m_seen m_seenCell m_seenWay m_seenCame m_seed m_isKept m_kept) H → va_D A (cMd mh m_kindr m_toldr m_nowr m_readToldr m_readCellr m_readKindr m_textr m_rowr m_seenCellr m_seenWayr m_seenCamer m_isKeptr m_keptr cy.1 cy.2.2.1 m_marbles m_kind m_told m_now m_readTold m_readCell m_readKind m_text m_length m_at m_faultAt m_there m_stopped m_acts m_next m_row m_bestRow m_seen m_seenCell m_seenWay m_seenCame m_seed m_isKept m_kept) → va_S A s.heap H locs → tw_X7_fails_70 m_marbles m_kind m_told m_there p1 p2 p3 p4 p5 n x6 x7 x8 x9 m_now m_stopped = some res → W p l e R s m args below meth c H locs 0 0 Q (F0 m 70 ls []) := by
    intro n70
    induction n70 with
    | zero =>
      intro x6 x7 x8 x9 m_now m_stopped  H locs ls hl hP hD hS h
      exact absurd h (by rw [tw_X7_fails_70]; exact fun q => by cases q)
    | succ n70 ih70 =>
      intro x6 x7 x8 x9 m_now m_stopped  H locs ls hl hP hD hS h
      rw [tw_X7_fails_70] at h
      refine lv_iload hx hb dX7_fails_70 (lv_at hl 8 rfl) ?_
      refine lv_iconst (v := 1) hx hb dX7_fails_72 (by decide) ?_
      refine lv_iload_n hx hb dX7_fails_73 rfl (lv_at hl 2 rfl) ?_
      refine lv_ishl hx hb dX7_fails_74 ?_
      refine lv_icmp_ge (tgt := 153) hx hb dX7_fails_75 (by decide) (fun c1 => ?_) (fun c1 => ?_)
      · have h := oit h c1
        refine lv_iload hx hb dX7_fails_153 (lv_at hl 6 rfl) ?_
        refine lv_iload hx hb dX7_fails_155 (lv_at hl 7 rfl) ?_
        obtain ⟨q2, hq2, h⟩ := ob h
        refine kS (As := [.int x7, .int x8]) (rest := []) (w2 := cMd mh m_kindr m_toldr m_nowr m_readToldr m_readCellr m_readKindr m_textr m_rowr m_seenCellr m_seenWayr m_seenCamer m_isKeptr m_keptr cy.1 cy.2.2.1 m_marbles m_kind m_told m_now m_readTold m_readCell m_readKind m_text m_length m_at m_faultAt m_there m_stopped m_acts m_next m_row m_bestRow m_seen m_seenCell m_seenWay m_seenCame m_seed m_isKept m_kept) (n := 2) ⟨hx, hb, hml, hown, hts⟩ (c_X7_common l D cy x7 x8 q2 hq2) gX7_fails_X7_common rfl (by decide +kernel) ⟨by rw [hRf]; exact Nat.le_of_ble_eq_true rfl, by rw [hRl]; exact Nat.le_of_ble_eq_true rfl⟩ hE hP hD hS hA [] rfl rfl rfl rfl rfl hl.1 rfl (Nat.le_of_ble_eq_true rfl) dX7_fails_157 ⟨Nat.zero_le _, Nat.zero_le _⟩ (fun H locs hP hD hS => ?_)
        refine lv_istore (lv' := [(9, .int q2), (0, .ref mh), (1, .int p1), (2, .int p2), (4, .int p4), (5, .int p5), (6, .int x6), (7, .int x7), (8, .int x8)]) hx hb dX7_fails_160 hl (by decide) rfl (fun ls hl => ?_)
        refine lv_iload hx hb dX7_fails_162 (lv_at hl 5 rfl) ?_
        refine lv_if_eq (tgt := 175) hx hb dX7_fails_164 (by decide) (fun c3 => ?_) (fun c3 => ?_)
        · have h := oit h c3
          refine lv_iload hx hb dX7_fails_175 (lv_at hl 8 rfl) ?_
          refine lv_iload hx hb dX7_fails_177 (lv_at hl 0 rfl) ?_
          obtain ⟨g4, h⟩ := og h
          refine lv_idiv hx hb dX7_fails_179 g4 ?_
          obtain rfl := Option.some.inj h
          rw [hQ]; exact ct_iret hx hb hr hlocks hP hS rfl dX7_fails_180
        · have h := oif h c3
          refine lv_iload hx hb dX7_fails_167 (lv_at hl 7 rfl) ?_
          refine lv_iload hx hb dX7_fails_169 (lv_at hl 0 rfl) ?_
          obtain ⟨g5, h⟩ := og h
          refine lv_idiv hx hb dX7_fails_171 g5 ?_
          refine lv_goto (tgt := 180) hx hb dX7_fails_172 (by decide) ?_
          obtain rfl := Option.some.inj h
          rw [hQ]; exact ct_iret hx hb hr hlocks hP hS rfl dX7_fails_180
      · have h := oif h c1
        refine lv_iload hx hb dX7_fails_78 (lv_at hl 3 rfl) ?_
        refine lv_iload hx hb dX7_fails_80 (lv_at hl 8 rfl) ?_
        obtain ⟨q6, hq6, h⟩ := ob h
        refine kS (As := [.int x9]) (rest := [.int p4]) (w2 := cMd mh m_kindr m_toldr m_nowr m_readToldr m_readCellr m_readKindr m_textr m_rowr m_seenCellr m_seenWayr m_seenCamer m_isKeptr m_keptr cy.1 cy.2.2.1 m_marbles m_kind m_told m_now m_readTold m_readCell m_readKind m_text m_length m_at m_faultAt m_there m_stopped m_acts m_next m_row m_bestRow m_seen m_seenCell m_seenWay m_seenCame m_seed m_isKept m_kept) (n := 1) ⟨hx, hb, hml, hown, hts⟩ (c_X7_ones l D cy x9 q6 hq6) gX7_fails_X7_ones rfl (by decide +kernel) ⟨by rw [hRf]; exact Nat.le_of_ble_eq_true rfl, by rw [hRl]; exact Nat.le_of_ble_eq_true rfl⟩ hE hP hD hS hA [] rfl rfl rfl rfl rfl hl.1 rfl (Nat.le_of_ble_eq_true rfl) dX7_fails_82 ⟨Nat.zero_le _, Nat.zero_le _⟩ (fun H locs hP hD hS => ?_)
        obtain ⟨q7, hq7, h⟩ := ob h
        refine kS (As := [.int p4, .int q6]) (rest := []) (w2 := cMd mh m_kindr m_toldr m_nowr m_readToldr m_readCellr m_readKindr m_textr m_rowr m_seenCellr m_seenWayr m_seenCamer m_isKeptr m_keptr cy.1 cy.2.2.1 m_marbles m_kind m_told m_now m_readTold m_readCell m_readKind m_text m_length m_at m_faultAt m_there m_stopped m_acts m_next m_row m_bestRow m_seen m_seenCell m_seenWay m_seenCame m_seed m_isKept m_kept) (n := 2) ⟨hx, hb, hml, hown, hts⟩ (c_X7_power l D cy p4 q6 q7 hq7) gX7_fails_X7_power rfl (by decide +kernel) ⟨by rw [hRf]; exact Nat.le_of_ble_eq_true rfl, by rw [hRl]; exact Nat.le_of_ble_eq_true rfl⟩ hE hP hD hS hA [] rfl rfl rfl rfl rfl hl.1 rfl (Nat.le_of_ble_eq_true rfl) dX7_fails_85 ⟨Nat.zero_le _, Nat.zero_le _⟩ (fun H locs hP hD hS => ?_)
        refine lv_bipush (v := 10) hx hb dX7_fails_88 (by decide) ?_
        refine lv_iload hx hb dX7_fails_90 (lv_at hl 3 rfl) ?_
        refine lv_isub hx hb dX7_fails_92 ?_
        refine lv_iload_n hx hb dX7_fails_93 rfl (lv_at hl 2 rfl) ?_
        refine lv_iload hx hb dX7_fails_94 (lv_at hl 8 rfl) ?_
        obtain ⟨q8, hq8, h⟩ := ob h
        refine kS (As := [.int x9]) (rest := [.int p2, .int (10 - p4), .int q7]) (w2 := cMd mh m_kindr m_toldr m_nowr m_readToldr m_readCellr m_readKindr m_textr m_rowr m_seenCellr m_seenWayr m_seenCamer m_isKeptr m_keptr cy.1 cy.2.2.1 m_marbles m_kind m_told m_now m_readTold m_readCell m_readKind m_text m_length m_at m_faultAt m_there m_stopped m_acts m_next m_row m_bestRow m_seen m_seenCell m_seenWay m_seenCame m_seed m_isKept m_kept) (n := 1) ⟨hx, hb, hml, hown, hts⟩ (c_X7_ones l D cy x9 q8 hq8) gX7_fails_X7_ones rfl (by decide +kernel) ⟨by rw [hRf]; exact Nat.le_of_ble_eq_true rfl, by rw [hRl]; exact Nat.le_of_ble_eq_true rfl⟩ hE hP hD hS hA [] rfl rfl rfl rfl rfl hl.1 rfl (Nat.le_of_ble_eq_true rfl) dX7_fails_96 ⟨Nat.zero_le _, Nat.zero_le _⟩ (fun H locs hP hD hS => ?_)
        refine lv_isub hx hb dX7_fails_99 ?_
        obtain ⟨q9, hq9, h⟩ := ob h
        refine kS (As := [.int (10 - p4), .int (p2 - q8)]) (rest := [.int q7]) (w2 := cMd mh m_kindr m_toldr m_nowr m_readToldr m_readCellr m_readKindr m_textr m_rowr m_seenCellr m_seenWayr m_seenCamer m_isKeptr m_keptr cy.1 cy.2.2.1 m_marbles m_kind m_told m_now m_readTold m_readCell m_readKind m_text m_length m_at m_faultAt m_there m_stopped m_acts m_next m_row m_bestRow m_seen m_seenCell m_seenWay m_seenCame m_seed m_isKept m_kept) (n := 2) ⟨hx, hb, hml, hown, hts⟩ (c_X7_power l D cy (10 - p4) (p2 - q8) q9 hq9) gX7_fails_X7_power rfl (by decide +kernel) ⟨by rw [hRf]; exact Nat.le_of_ble_eq_true rfl, by rw [hRl]; exact Nat.le_of_ble_eq_true rfl⟩ hE hP hD hS hA [] rfl rfl rfl rfl rfl hl.1 rfl (Nat.le_of_ble_eq_true rfl) dX7_fails_100 ⟨Nat.zero_le _, Nat.zero_le _⟩ (fun H locs hP hD hS => ?_)
        refine lv_imul hx hb dX7_fails_103 ?_
        refine lv_istore (lv' := [(10, .int (q7 * q9)), (0, .ref mh), (1, .int p1), (2, .int p2), (4, .int p4), (5, .int p5), (6, .int x6), (7, .int x7), (8, .int x8), (9, .int x9)]) hx hb dX7_fails_104 hl (by decide) rfl (fun ls hl => ?_)
        refine lv_aload_n hx hb dX7_fails_106 rfl (lv_at hl 1 rfl) ?_
        refine lv_iload_n hx hb dX7_fails_107 rfl (lv_at hl 3 rfl) ?_
        refine lv_iload hx hb dX7_fails_108 (lv_at hl 6 rfl) ?_
        refine lv_iload hx hb dX7_fails_110 (lv_at hl 9 rfl) ?_
        obtain ⟨q10, hq10, h⟩ := ob h
        refine kV (As := [.int p2, .int x6, .int x9]) (rest := []) (w2 := cMd mh m_kindr m_toldr m_nowr m_readToldr m_readCellr m_readKindr m_textr m_rowr m_seenCellr m_seenWayr m_seenCamer m_isKeptr m_keptr cy.1 cy.2.2.1 m_marbles m_kind m_told q10.1 m_readTold m_readCell m_readKind m_text m_length m_at m_faultAt m_there q10.2 m_acts m_next m_row m_bestRow m_seen m_seenCell m_seenWay m_seenCame m_seed m_isKept m_kept) (n := 3) (q0 := 0) ⟨hx, hb, hml, hown, hts⟩ (c_X7_tiltRow l D cy mh m_kindr m_toldr m_nowr m_readToldr m_readCellr m_readKindr m_textr m_rowr m_seenCellr m_seenWayr m_seenCamer m_isKeptr m_keptr m_marbles m_kind m_told m_now m_readTold m_readCell m_readKind m_text m_length m_at m_faultAt m_there m_stopped m_acts m_next m_row m_bestRow m_seen m_seenCell m_seenWay m_seenCame m_seed m_isKept m_kept p2 x6 x9 q10 hq10) gX7_fails_X7_tiltRow rfl (by decide +kernel) ⟨by rw [hRf]; exact Nat.le_of_ble_eq_true rfl, by rw [hRl]; exact Nat.le_of_ble_eq_true rfl⟩ hE hP hD hS hA [0, 1, 2, 3, 4, 5, 6, 7, 8, 9, 10, 11, 12, 13] rfl rfl rfl rfl rfl rfl rfl hl.1 rfl (Nat.le_of_ble_eq_true rfl) dX7_fails_112 ⟨Nat.zero_le _, Nat.zero_le _⟩ (fun H locs hP hD hS => ?_)
        refine lv_iload hx hb dX7_fails_115 (lv_at hl 8 rfl) ?_
        refine lv_iload hx hb dX7_fails_117 (lv_at hl 0 rfl) ?_
        refine lv_iadd hx hb dX7_fails_119 ?_
        refine lv_istore (lv' := [(8, .int (x8 + (q7 * q9))), (10, .int (q7 * q9)), (0, .ref mh), (1, .int p1), (2, .int p2), (4, .int p4), (5, .int p5), (6, .int x6), (7, .int x7), (9, .int x9)]) hx hb dX7_fails_120 hl (by decide) rfl (fun ls hl => ?_)
        refine lv_iload hx hb dX7_fails_122 (lv_at hl 8 rfl) ?_
        refine lv_aload_n hx hb dX7_fails_124 rfl (lv_at hl 2 rfl) ?_
        refine va_get (D := D) (ci := 7) (v := .ref m_nowr) (C := RX7) (T := TX7) (N := 24) hx hb hts hiX7 hown hE.1 hP 0 rfl rfl 3 (by decide) (hts (.fieldLink RX7 16 "TiltTrayModel" "now" "[I") (by decide +kernel)) (fun _ h9 => h9) rfl dX7_fails_125 ?_
        refine lv_bipush (v := 7) hx hb dX7_fails_128 (by decide) ?_
        refine lv_iload_n hx hb dX7_fails_130 rfl (lv_at hl 3 rfl) ?_
        refine lv_iadd hx hb dX7_fails_131 ?_
        obtain ⟨g11, h⟩ := og h
        refine va_iald hx hb hE.1 hP 3 0 rfl rfl (ix_in g11) dX7_fails_132 ?_
        refine lv_bipush (v := 100) hx hb dX7_fails_133 (by decide) ?_
        refine lv_icmp_lt (tgt := 143) hx hb dX7_fails_135 (by decide) (fun c12 => ?_) (fun c12 => ?_)
        · have h := oit h c12
          refine lv_iconst (v := 0) hx hb dX7_fails_143 (by decide) ?_
          refine lv_iadd hx hb dX7_fails_144 ?_
          refine lv_istore (lv' := [(7, .int (x7 + 0)), (8, .int (x8 + (q7 * q9))), (10, .int (q7 * q9)), (0, .ref mh), (1, .int p1), (2, .int p2), (4, .int p4), (5, .int p5), (6, .int x6), (9, .int x9)]) hx hb dX7_fails_145 hl (by decide) rfl (fun ls hl => ?_)
          refine lv_iinc (v := x9 + 1) (lv' := [(9, .int (x9 + 1)), (7, .int (x7 + 0)), (8, .int (x8 + (q7 * q9))), (10, .int (q7 * q9)), (0, .ref mh), (1, .int p1), (2, .int p2), (4, .int p4), (5, .int p5), (6, .int x6)]) hx hb dX7_fails_147 hl (k := 9) rfl rfl (by decide) rfl (fun ls hl => ?_)
          refine lv_goto (tgt := 70) hx hb dX7_fails_150 (by decide) ?_
          exact ih70 x6 (x7 + 0) (x8 + (q7 * q9)) (x9 + 1) q10.1 q10.2 _ _ _ (lv_sub hl [4, 5, 6, 7, 8, 9, 1, 2, 0] rfl) hP hD hS h
        · have h := oif h c12
          refine lv_iload hx hb dX7_fails_138 (lv_at hl 1 rfl) ?_
          refine lv_goto (tgt := 144) hx hb dX7_fails_140 (by decide) ?_
          refine lv_iadd hx hb dX7_fails_144 ?_
          refine lv_istore (lv' := [(7, .int (x7 + (q7 * q9))), (8, .int (x8 + (q7 * q9))), (10, .int (q7 * q9)), (0, .ref mh), (1, .int p1), (2, .int p2), (4, .int p4), (5, .int p5), (6, .int x6), (9, .int x9)]) hx hb dX7_fails_145 hl (by decide) rfl (fun ls hl => ?_)
          refine lv_iinc (v := x9 + 1) (lv' := [(9, .int (x9 + 1)), (7, .int (x7 + (q7 * q9))), (8, .int (x8 + (q7 * q9))), (10, .int (q7 * q9)), (0, .ref mh), (1, .int p1), (2, .int p2), (4, .int p4), (5, .int p5), (6, .int x6)]) hx hb dX7_fails_147 hl (k := 9) rfl rfl (by decide) rfl (fun ls hl => ?_)
          refine lv_goto (tgt := 70) hx hb dX7_fails_150 (by decide) ?_
          exact ih70 x6 (x7 + (q7 * q9)) (x8 + (q7 * q9)) (x9 + 1) q10.1 q10.2 _ _ _ (lv_sub hl [4, 5, 6, 7, 8, 9, 1, 2, 0] rfl) hP hD hS h
  have L36 : ∀ (z0 : Int32) (m_now : Nat → Int32) (m_stopped : Int32)  (H : Heap) (locs : List Loc) (ls : Array Slot), lv_has ls 11 [(0, .ref mh), (1, .int p1), (2, .int p2), (4, .int p4), (5, .int p5)] → va_P D vwCl (cMd mh m_kindr m_toldr m_nowr m_readToldr m_readCellr m_readKindr m_textr m_rowr m_seenCellr m_seenWayr m_seenCamer m_isKeptr m_keptr cy.1 cy.2.2.1 m_marbles m_kind m_told m_now m_readTold m_readCell m_readKind m_text m_length m_at m_faultAt m_there m_stopped m_acts m_next m_row m_bestRow m_seen m_seenCell m_seenWay m_seenCame m_seed m_isKept m_kept) H → va_D A (cMd mh m_kindr m_toldr m_nowr m_readToldr m_readCellr m_readKindr m_textr m_rowr m_seenCellr m_seenWayr m_seenCamer m_isKeptr m_keptr cy.1 cy.2.2.1 m_marbles m_kind m_told m_now m_readTold m_readCell m_readKind m_text m_length m_at m_faultAt m_there m_stopped m_acts m_next m_row m_bestRow m_seen m_seenCell m_seenWay m_seenCame m_seed m_isKept m_kept) → va_S A s.heap H locs → tw_X7_fails_36 m_marbles m_kind m_told m_there p1 p2 p3 p4 p5 z0 m_now m_stopped = some res → W p l e R s m args below meth c H locs 0 0 Q (F0 m 36 ls [.int z0]) := by
    intro z0 m_now m_stopped  H locs ls hl hP hD hS h
    rw [tw_X7_fails_36] at h
    refine lv_istore (lv' := [(6, .int z0), (0, .ref mh), (1, .int p1), (2, .int p2), (4, .int p4), (5, .int p5)]) hx hb dX7_fails_36 hl (by decide) rfl (fun ls hl => ?_)
    refine lv_iload hx hb dX7_fails_38 (lv_at hl 0 rfl) ?_
    refine lv_bipush (v := (-9)) hx hb dX7_fails_40 (by decide) ?_
    refine lv_icmp_eq (tgt := 58) hx hb dX7_fails_42 (by decide) (fun c13 => ?_) (fun c13 => ?_)
    · have h := oit h c13
      refine lv_bipush (v := (-2)) hx hb dX7_fails_58 (by decide) ?_
      obtain rfl := Option.some.inj h
      rw [hQ]; exact ct_iret hx hb hr hlocks hP hS rfl dX7_fails_60
    · have h := oif h c13
      refine lv_iload hx hb dX7_fails_45 (lv_at hl 4 rfl) ?_
      refine lv_i2l hx hb dX7_fails_47 rfl ?_
      refine lv_lconst (v := 0) hx hb dX7_fails_48 (by decide) ?_
      refine lv_ldc2 (v := 10) hx hb hown (hts (.constantLong RX7 210 (10)) (by decide +kernel)) dX7_fails_49 ?_
      obtain ⟨q14, hq14, h⟩ := ob h
      refine kS (As := [.long p4.toInt64, .long 0, .long 10]) (rest := []) (w2 := cMd mh m_kindr m_toldr m_nowr m_readToldr m_readCellr m_readKindr m_textr m_rowr m_seenCellr m_seenWayr m_seenCamer m_isKeptr m_keptr cy.1 cy.2.2.1 m_marbles m_kind m_told m_now m_readTold m_readCell m_readKind m_text m_length m_at m_faultAt m_there m_stopped m_acts m_next m_row m_bestRow m_seen m_seenCell m_seenWay m_seenCame m_seed m_isKept m_kept) (n := 3) ⟨hx, hb, hml, hown, hts⟩ (c_X7_in l D cy p4.toInt64 0 10 q14 hq14) gX7_fails_X7_in rfl (by decide +kernel) ⟨by rw [hRf]; exact Nat.le_of_ble_eq_true rfl, by rw [hRl]; exact Nat.le_of_ble_eq_true rfl⟩ hE hP hD hS hA [] rfl rfl rfl rfl rfl hl.1 rfl (Nat.le_of_ble_eq_true rfl) dX7_fails_52 ⟨Nat.zero_le _, Nat.zero_le _⟩ (fun H locs hP hD hS => ?_)
      refine lv_if_ne (tgt := 61) hx hb dX7_fails_55 (by decide) (fun c15 => ?_) (fun c15 => ?_)
      · have h := oif h c15
        refine lv_iconst (v := 0) hx hb dX7_fails_61 (by decide) ?_
        refine lv_istore (lv' := [(7, .int 0), (6, .int z0), (0, .ref mh), (1, .int p1), (2, .int p2), (4, .int p4), (5, .int p5)]) hx hb dX7_fails_62 hl (by decide) rfl (fun ls hl => ?_)
        refine lv_iconst (v := 0) hx hb dX7_fails_64 (by decide) ?_
        refine lv_istore (lv' := [(8, .int 0), (7, .int 0), (6, .int z0), (0, .ref mh), (1, .int p1), (2, .int p2), (4, .int p4), (5, .int p5)]) hx hb dX7_fails_65 hl (by decide) rfl (fun ls hl => ?_)
        refine lv_iconst (v := 0) hx hb dX7_fails_67 (by decide) ?_
        refine lv_istore (lv' := [(9, .int 0), (8, .int 0), (7, .int 0), (6, .int z0), (0, .ref mh), (1, .int p1), (2, .int p2), (4, .int p4), (5, .int p5)]) hx hb dX7_fails_68 hl (by decide) rfl (fun ls hl => ?_)
        exact L70 17 z0 0 0 0 m_now m_stopped _ _ _ (lv_sub hl [4, 5, 6, 7, 8, 3, 2, 1, 0] rfl) hP hD hS h
      · have h := oit h c15
        refine lv_bipush (v := (-2)) hx hb dX7_fails_58 (by decide) ?_
        obtain rfl := Option.some.inj h
        rw [hQ]; exact ct_iret hx hb hr hlocks hP hS rfl dX7_fails_60
  have L34 : ∀ (m_now : Nat → Int32) (m_stopped : Int32)  (H : Heap) (locs : List Loc) (ls : Array Slot), lv_has ls 11 [(0, .ref mh), (1, .int p1), (2, .int p2), (4, .int p4), (5, .int p5)] → va_P D vwCl (cMd mh m_kindr m_toldr m_nowr m_readToldr m_readCellr m_readKindr m_textr m_rowr m_seenCellr m_seenWayr m_seenCamer m_isKeptr m_keptr cy.1 cy.2.2.1 m_marbles m_kind m_told m_now m_readTold m_readCell m_readKind m_text m_length m_at m_faultAt m_there m_stopped m_acts m_next m_row m_bestRow m_seen m_seenCell m_seenWay m_seenCame m_seed m_isKept m_kept) H → va_D A (cMd mh m_kindr m_toldr m_nowr m_readToldr m_readCellr m_readKindr m_textr m_rowr m_seenCellr m_seenWayr m_seenCamer m_isKeptr m_keptr cy.1 cy.2.2.1 m_marbles m_kind m_told m_now m_readTold m_readCell m_readKind m_text m_length m_at m_faultAt m_there m_stopped m_acts m_next m_row m_bestRow m_seen m_seenCell m_seenWay m_seenCame m_seed m_isKept m_kept) → va_S A s.heap H locs → tw_X7_fails_34 m_marbles m_kind m_told m_there p1 p2 p3 p4 p5 m_now m_stopped = some res → W p l e R s m args below meth c H locs 0 0 Q (F0 m 34 ls []) := by
    intro m_now m_stopped  H locs ls hl hP hD hS h
    rw [tw_X7_fails_34] at h
    refine lv_bipush (v := (-9)) hx hb dX7_fails_34 (by decide) ?_
    exact L36 (-9) m_now m_stopped _ _ _ (lv_sub hl [0, 1, 2, 3, 4] rfl) hP hD hS h
  refine lv_aload_n hx hb dX7_fails_0 rfl (lv_at hl 0 rfl) ?_
  refine lv_iload_n hx hb dX7_fails_1 rfl (lv_at hl 1 rfl) ?_
  obtain ⟨q16, hq16, h⟩ := ob h
  refine kV (As := [.int p1]) (rest := []) (w2 := cMd mh m_kindr m_toldr m_nowr m_readToldr m_readCellr m_readKindr m_textr m_rowr m_seenCellr m_seenWayr m_seenCamer m_isKeptr m_keptr cy.1 cy.2.2.1 m_marbles m_kind m_told m_now m_readTold m_readCell m_readKind m_text m_length m_at m_faultAt m_there m_stopped m_acts m_next m_row m_bestRow m_seen m_seenCell m_seenWay m_seenCame m_seed m_isKept m_kept) (n := 1) (q0 := 0) ⟨hx, hb, hml, hown, hts⟩ (c_X7_isMarble l D cy mh m_kindr m_toldr m_nowr m_readToldr m_readCellr m_readKindr m_textr m_rowr m_seenCellr m_seenWayr m_seenCamer m_isKeptr m_keptr m_marbles m_kind m_told m_now m_readTold m_readCell m_readKind m_text m_length m_at m_faultAt m_there m_stopped m_acts m_next m_row m_bestRow m_seen m_seenCell m_seenWay m_seenCame m_seed m_isKept m_kept p1 q16 hq16) gX7_fails_X7_isMarble rfl (by decide +kernel) ⟨by rw [hRf]; exact Nat.le_of_ble_eq_true rfl, by rw [hRl]; exact Nat.le_of_ble_eq_true rfl⟩ hE hP hD hS hA [0, 1, 2, 3, 4, 5, 6, 7, 8, 9, 10, 11, 12, 13] rfl rfl rfl rfl rfl rfl rfl hl.1 rfl (Nat.le_of_ble_eq_true rfl) dX7_fails_2 ⟨Nat.zero_le _, Nat.zero_le _⟩ (fun H locs hP hD hS => ?_)
  refine lv_if_ne (tgt := 10) hx hb dX7_fails_5 (by decide) (fun c17 => ?_) (fun c17 => ?_)
  · have h := oif h c17
    refine lv_iload_n hx hb dX7_fails_10 rfl (lv_at hl 2 rfl) ?_
    refine lv_i2l hx hb dX7_fails_11 rfl ?_
    refine lv_lconst (v := 1) hx hb dX7_fails_12 (by decide) ?_
    refine lv_ldc2 (v := 4) hx hb hown (hts (.constantLong RX7 166 (4)) (by decide +kernel)) dX7_fails_13 ?_
    obtain ⟨q18, hq18, h⟩ := ob h
    refine kS (As := [.long p2.toInt64, .long 1, .long 4]) (rest := []) (w2 := cMd mh m_kindr m_toldr m_nowr m_readToldr m_readCellr m_readKindr m_textr m_rowr m_seenCellr m_seenWayr m_seenCamer m_isKeptr m_keptr cy.1 cy.2.2.1 m_marbles m_kind m_told m_now m_readTold m_readCell m_readKind m_text m_length m_at m_faultAt m_there m_stopped m_acts m_next m_row m_bestRow m_seen m_seenCell m_seenWay m_seenCame m_seed m_isKept m_kept) (n := 3) ⟨hx, hb, hml, hown, hts⟩ (c_X7_in l D cy p2.toInt64 1 4 q18 hq18) gX7_fails_X7_in rfl (by decide +kernel) ⟨by rw [hRf]; exact Nat.le_of_ble_eq_true rfl, by rw [hRl]; exact Nat.le_of_ble_eq_true rfl⟩ hE hP hD hS hA [] rfl rfl rfl rfl rfl hl.1 rfl (Nat.le_of_ble_eq_true rfl) dX7_fails_16 ⟨Nat.zero_le _, Nat.zero_le _⟩ (fun H locs hP hD hS => ?_)
    refine lv_if_eq (tgt := 34) hx hb dX7_fails_19 (by decide) (fun c19 => ?_) (fun c19 => ?_)
    · have h := oit h c19
      exact L34 m_now m_stopped _ _ _ (lv_sub hl [0, 1, 2, 4, 5] rfl) hP hD hS h
    · have h := oif h c19
      refine lv_iload_n hx hb dX7_fails_22 rfl (lv_at hl 3 rfl) ?_
      refine lv_if_le (tgt := 34) hx hb dX7_fails_23 (by decide) (fun c20 => ?_) (fun c20 => ?_)
      · have h := oit h c20
        exact L34 m_now m_stopped _ _ _ (lv_sub hl [0, 1, 2, 4, 5] rfl) hP hD hS h
      · have h := oif h c20
        refine lv_iload_n hx hb dX7_fails_26 rfl (lv_at hl 2 rfl) ?_
        refine lv_iload_n hx hb dX7_fails_27 rfl (lv_at hl 3 rfl) ?_
        obtain ⟨q21, hq21, h⟩ := ob h
        refine kS (As := [.int p2, .int p3]) (rest := []) (w2 := cMd mh m_kindr m_toldr m_nowr m_readToldr m_readCellr m_readKindr m_textr m_rowr m_seenCellr m_seenWayr m_seenCamer m_isKeptr m_keptr cy.1 cy.2.2.1 m_marbles m_kind m_told m_now m_readTold m_readCell m_readKind m_text m_length m_at m_faultAt m_there m_stopped m_acts m_next m_row m_bestRow m_seen m_seenCell m_seenWay m_seenCame m_seed m_isKept m_kept) (n := 2) ⟨hx, hb, hml, hown, hts⟩ (c_X7_foursOf l D cy p2 p3 q21 hq21) gX7_fails_X7_foursOf rfl (by decide +kernel) ⟨by rw [hRf]; exact Nat.le_of_ble_eq_true rfl, by rw [hRl]; exact Nat.le_of_ble_eq_true rfl⟩ hE hP hD hS hA [] rfl rfl rfl rfl rfl hl.1 rfl (Nat.le_of_ble_eq_true rfl) dX7_fails_28 ⟨Nat.zero_le _, Nat.zero_le _⟩ (fun H locs hP hD hS => ?_)
        refine lv_goto (tgt := 36) hx hb dX7_fails_31 (by decide) ?_
        exact L36 q21 m_now m_stopped _ _ _ (lv_sub hl [0, 1, 2, 4, 5] rfl) hP hD hS h
  · have h := oit h c17
    refine lv_iconst (v := (-1)) hx hb dX7_fails_8 (by decide) ?_
    obtain rfl := Option.some.inj h
    rw [hQ]; exact ct_iret hx hb hr hlocks hP hS rfl dX7_fails_9

def tw_X7_seed (m_seed : Int64) (p1 : Int64) : Option (Int64 × Int64) :=
  some (m_seed, p1)
set_option maxHeartbeats 4000000 in
set_option maxRecDepth 100000 in
theorem c_X7_seed (l : Launch) (D : va_G) (cy : Cy) (mh : Nat) (m_kindr : Nat) (m_toldr : Nat) (m_nowr : Nat) (m_readToldr : Nat) (m_readCellr : Nat) (m_readKindr : Nat) (m_textr : Nat) (m_rowr : Nat) (m_seenCellr : Nat) (m_seenWayr : Nat) (m_seenCamer : Nat) (m_isKeptr : Nat) (m_keptr : Nat) (m_marbles : Int32) (m_kind : Nat → Int32) (m_told : Nat → Int32) (m_now : Nat → Int32) (m_readTold : Nat → Int32) (m_readCell : Nat → Int32) (m_readKind : Nat → Int32) (m_text : Nat → Int32) (m_length : Int32) (m_at : Int32) (m_faultAt : Int32) (m_there : Int32) (m_stopped : Int32) (m_acts : Int32) (m_next : Int32) (m_row : Nat → Int32) (m_bestRow : Int32) (m_seen : Int32) (m_seenCell : Nat → Int32) (m_seenWay : Nat → Int32) (m_seenCame : Nat → Int32) (m_seed : Int64) (m_isKept : Nat → Int32) (m_kept : Nat → Int32) (p1 : Int64) (res : Int64 × Int64) (h : tw_X7_seed m_seed p1 = some res) : Ct l yX7_seed wsX7_seed 0 0 D cy [.ref mh, .long p1] (cMd mh m_kindr m_toldr m_nowr m_readToldr m_readCellr m_readKindr m_textr m_rowr m_seenCellr m_seenWayr m_seenCamer m_isKeptr m_keptr cy.1 cy.2.2.1 m_marbles m_kind m_told m_now m_readTold m_readCell m_readKind m_text m_length m_at m_faultAt m_there m_stopped m_acts m_next m_row m_bestRow m_seen m_seenCell m_seenWay m_seenCame m_seed m_isKept m_kept) (cMd mh m_kindr m_toldr m_nowr m_readToldr m_readCellr m_readKindr m_textr m_rowr m_seenCellr m_seenWayr m_seenCamer m_isKeptr m_keptr cy.1 cy.2.2.1 m_marbles m_kind m_told m_now m_readTold m_readCell m_readKind m_text m_length m_at m_faultAt m_there m_stopped m_acts m_next m_row m_bestRow m_seen m_seenCell m_seenWay m_seenCame res.2 m_isKept m_kept) (some (.long res.1)) := by
  refine Ct.ofW (cc := cX7_seed) (maxL := 5) (ret := (some .long)) (by decide) rfl (Nat.le_of_ble_eq_true rfl) ?_
  intro p e R s m args below meth c A Q ls hRf hRl hQ hx hb hr hml hts hown hlocks hE hP hD hS hA hl
  have hiX7 : ∀ w ∈ u_ws RX7 TX7 24, w ∈ wsX7_seed := by decide +kernel
  have hl : lv_has ls 5 [(0, .ref mh), (1, .long p1)] := hl
  rw [tw_X7_seed] at h
  refine lv_aload_n hx hb dX7_seed_0 rfl (lv_at hl 0 rfl) ?_
  refine va_get (D := D) (ci := 7) (v := .long m_seed) (C := RX7) (T := TX7) (N := 24) hx hb hts hiX7 hown hE.1 hP 0 rfl rfl 21 (by decide) (hts (.fieldLink RX7 212 "TiltTrayModel" "seed" "J") (by decide +kernel)) (fun _ h9 => h9) rfl dX7_seed_1 ?_
  refine lv_lstore_n (lv' := [(3, .long m_seed), (0, .ref mh), (1, .long p1)]) hx hb dX7_seed_4 rfl hl (by decide) rfl (fun ls hl => ?_)
  refine lv_aload_n hx hb dX7_seed_5 rfl (lv_at hl 1 rfl) ?_
  refine lv_lload_n hx hb dX7_seed_6 rfl (lv_at hl 2 rfl) ?_
  refine va_put (D := D) (ci := 7) (v := .long p1) (ty := .long) (C := RX7) (T := TX7) (N := 24) hx hb hts hiX7 tyX7 tyX7_ok nmX7 hown hE.1 hP hD hS 0 rfl rfl 21 (by decide) (hts (.fieldLink RX7 212 "TiltTrayModel" "seed" "J") (by decide +kernel)) (fun _ h9 => h9) rfl (by decide +kernel) rfl rfl (Nat.le_of_ble_eq_true rfl) dX7_seed_7 (fun H locs hP hD hS => ?_)
  have hP : va_P D vwCl (cMd mh m_kindr m_toldr m_nowr m_readToldr m_readCellr m_readKindr m_textr m_rowr m_seenCellr m_seenWayr m_seenCamer m_isKeptr m_keptr cy.1 cy.2.2.1 m_marbles m_kind m_told m_now m_readTold m_readCell m_readKind m_text m_length m_at m_faultAt m_there m_stopped m_acts m_next m_row m_bestRow m_seen m_seenCell m_seenWay m_seenCame p1 m_isKept m_kept) H := hP
  have hD : va_D A (cMd mh m_kindr m_toldr m_nowr m_readToldr m_readCellr m_readKindr m_textr m_rowr m_seenCellr m_seenWayr m_seenCamer m_isKeptr m_keptr cy.1 cy.2.2.1 m_marbles m_kind m_told m_now m_readTold m_readCell m_readKind m_text m_length m_at m_faultAt m_there m_stopped m_acts m_next m_row m_bestRow m_seen m_seenCell m_seenWay m_seenCame p1 m_isKept m_kept) := hD
  refine lv_lload_n hx hb dX7_seed_10 rfl (lv_at hl 0 rfl) ?_
  obtain rfl := Option.some.inj h
  rw [hQ]; exact ct_lret hx hb hr hlocks hP hS rfl dX7_seed_11

def tw_X7_days_86 (m_marbles : Int32) (m_kind : Nat → Int32) (m_told : Nat → Int32) (m_there : Int32) (p1 : Int32) (k23 : Int32 → Int32 → (Nat → Int32) → Int32 → Int64 → Option (Int32 × (Nat → Int32) × Int32 × Int64)) (x2 : Int32) (x3 : Int32) (m_now : Nat → Int32) (m_stopped : Int32) (m_seed : Int64) : Option (Int32 × (Nat → Int32) × Int32 × Int64) :=
  (tw_X7_fallen m_marbles m_now m_there 1).bind (fun q1 => k23 (x2 + q1) (x3 + 1) m_now m_stopped m_seed)
def tw_X7_days_23 (m_marbles : Int32) (m_kind : Nat → Int32) (m_told : Nat → Int32) (m_there : Int32) (p1 : Int32) : Nat → Int32 → Int32 → (Nat → Int32) → Int32 → Int64 → Option (Int32 × (Nat → Int32) × Int32 × Int64)
  | 0, _, _, _, _, _ => none
  | n + 1, x2, x3, m_now, m_stopped, m_seed =>
    if p1 ≤ x3 then (some (x2, m_now, m_stopped, m_seed)) else (nm ((((((m_seed * 6364136223846793005) + 1442695040888963407).toUInt64 >>> ((33 : Int32).toInt64.toUInt64 &&& Int64.toUInt64 63)).toInt64) - ((((m_seed * 6364136223846793005) + 1442695040888963407).toUInt64 >>> ((33 : Int32).toInt64.toUInt64 &&& Int64.toUInt64 63)).toInt64) / 29 * 29).toInt32) (fun v3 => if 25 ≤ v3 then ((tw_X7_tiltOn m_marbles m_kind m_told m_now m_there m_stopped 1 (v3 - 25)).bind (fun q5 => tw_X7_days_86 m_marbles m_kind m_told m_there p1 (tw_X7_days_23 m_marbles m_kind m_told m_there p1 n) x2 x3 q5.2.1 q5.2.2 ((m_seed * 6364136223846793005) + 1442695040888963407))) else ((tw_X7_wedgeTrial m_marbles m_told m_now m_there v3).bind (fun q6 => tw_X7_days_86 m_marbles m_kind m_told m_there p1 (tw_X7_days_23 m_marbles m_kind m_told m_there p1 n) x2 x3 q6.2 m_stopped ((m_seed * 6364136223846793005) + 1442695040888963407)))))
def tw_X7_days (m_marbles : Int32) (m_kind : Nat → Int32) (m_told : Nat → Int32) (m_now : Nat → Int32) (m_there : Int32) (m_stopped : Int32) (m_seed : Int64) (p1 : Int32) : Option (Int32 × (Nat → Int32) × Int32 × Int64) :=
  (tw_X7_in p1.toInt64 1 30).bind (fun q7 => if q7 = 0 then (some ((-2), m_now, m_stopped, m_seed)) else ((tw_X7_layTrial m_now).bind (fun q9 => tw_X7_days_23 m_marbles m_kind m_told m_there p1 31 0 0 q9 m_stopped m_seed)))
set_option maxHeartbeats 4000000 in
set_option maxRecDepth 100000 in
theorem c_X7_days (l : Launch) (D : va_G) (cy : Cy) (mh : Nat) (m_kindr : Nat) (m_toldr : Nat) (m_nowr : Nat) (m_readToldr : Nat) (m_readCellr : Nat) (m_readKindr : Nat) (m_textr : Nat) (m_rowr : Nat) (m_seenCellr : Nat) (m_seenWayr : Nat) (m_seenCamer : Nat) (m_isKeptr : Nat) (m_keptr : Nat) (m_marbles : Int32) (m_kind : Nat → Int32) (m_told : Nat → Int32) (m_now : Nat → Int32) (m_readTold : Nat → Int32) (m_readCell : Nat → Int32) (m_readKind : Nat → Int32) (m_text : Nat → Int32) (m_length : Int32) (m_at : Int32) (m_faultAt : Int32) (m_there : Int32) (m_stopped : Int32) (m_acts : Int32) (m_next : Int32) (m_row : Nat → Int32) (m_bestRow : Int32) (m_seen : Int32) (m_seenCell : Nat → Int32) (m_seenWay : Nat → Int32) (m_seenCame : Nat → Int32) (m_seed : Int64) (m_isKept : Nat → Int32) (m_kept : Nat → Int32) (p1 : Int32) (res : Int32 × (Nat → Int32) × Int32 × Int64) (h : tw_X7_days m_marbles m_kind m_told m_now m_there m_stopped m_seed p1 = some res) : Ct l yX7_days wsX7_days 6 140 D cy [.ref mh, .int p1] (cMd mh m_kindr m_toldr m_nowr m_readToldr m_readCellr m_readKindr m_textr m_rowr m_seenCellr m_seenWayr m_seenCamer m_isKeptr m_keptr cy.1 cy.2.2.1 m_marbles m_kind m_told m_now m_readTold m_readCell m_readKind m_text m_length m_at m_faultAt m_there m_stopped m_acts m_next m_row m_bestRow m_seen m_seenCell m_seenWay m_seenCame m_seed m_isKept m_kept) (cMd mh m_kindr m_toldr m_nowr m_readToldr m_readCellr m_readKindr m_textr m_rowr m_seenCellr m_seenWayr m_seenCamer m_isKeptr m_keptr cy.1 cy.2.2.1 m_marbles m_kind m_told res.2.1 m_readTold m_readCell m_readKind m_text m_length m_at m_faultAt m_there res.2.2.1 m_acts m_next m_row m_bestRow m_seen m_seenCell m_seenWay m_seenCame res.2.2.2 m_isKept m_kept) (some (.int res.1)) := by
  refine Ct.ofW (cc := cX7_days) (maxL := 5) (ret := (some .int)) (by decide) rfl (Nat.le_of_ble_eq_true rfl) ?_
  intro p e R s m args below meth c A Q ls hRf hRl hQ hx hb hr hml hts hown hlocks hE hP hD hS hA hl
  have hiX7 : ∀ w ∈ u_ws RX7 TX7 24, w ∈ wsX7_days := by decide +kernel
  have hl : lv_has ls 5 [(0, .ref mh), (1, .int p1)] := hl
  rw [tw_X7_days] at h
  have L23 : ∀ (n : Nat) (x2 : Int32) (x3 : Int32) (m_now : Nat → Int32) (m_stopped : Int32) (m_seed : Int64)  (H : Heap) (locs : List Loc) (ls : Array Slot), lv_has ls 5 [(0, .ref mh), (1, .int p1), (2, .int x2), (3, .int x3)] → va_P D vwCl (cMd mh m_kindr m_toldr m_nowr m_readToldr m_readCellr m_readKindr m_textr m_rowr m_seenCellr m_seenWayr m_seenCamer m_isKeptr m_keptr cy.1 cy.2.2.1 m_marbles m_kind m_told m_now m_readTold m_readCell m_readKind m_text m_length m_at m_faultAt m_there m_stopped m_acts m_next m_row m_bestRow m_seen m_seenCell m_seenWay m_seenCame m_seed m_isKept m_kept) H → va_D A (cMd mh m_kindr m_toldr m_nowr m_readToldr m_readCellr m_readKindr m_textr m_rowr m_seenCellr m_seenWayr m_seenCamer m_isKeptr m_keptr cy.1 cy.2.2.1 m_marbles m_kind m_told m_now m_readTold m_readCell m_readKind m_text m_length m_at m_faultAt m_there m_stopped m_acts m_next m_row m_bestRow m_seen m_seenCell m_seenWay m_seenCame m_seed m_isKept m_kept) → va_S A s.heap H locs → tw_X7_days_23 m_marbles m_kind m_told m_there p1 n x2 x3 m_now m_stopped m_seed = some res → W p l e R s m args below meth c H locs 0 0 Q (F0 m 23 ls []) := by
    intro n23
    induction n23 with
    | zero =>
      intro x2 x3 m_now m_stopped m_seed  H locs ls hl hP hD hS h
      exact absurd h (by rw [tw_X7_days_23]; exact fun q => by cases q)
    | succ n23 ih23 =>
      intro x2 x3 m_now m_stopped m_seed  H locs ls hl hP hD hS h
      rw [tw_X7_days_23] at h
      have L86 : ∀ (x2 : Int32) (x3 : Int32) (m_now : Nat → Int32) (m_stopped : Int32) (m_seed : Int64)  (H : Heap) (locs : List Loc) (ls : Array Slot), lv_has ls 5 [(0, .ref mh), (1, .int p1), (2, .int x2), (3, .int x3)] → va_P D vwCl (cMd mh m_kindr m_toldr m_nowr m_readToldr m_readCellr m_readKindr m_textr m_rowr m_seenCellr m_seenWayr m_seenCamer m_isKeptr m_keptr cy.1 cy.2.2.1 m_marbles m_kind m_told m_now m_readTold m_readCell m_readKind m_text m_length m_at m_faultAt m_there m_stopped m_acts m_next m_row m_bestRow m_seen m_seenCell m_seenWay m_seenCame m_seed m_isKept m_kept) H → va_D A (cMd mh m_kindr m_toldr m_nowr m_readToldr m_readCellr m_readKindr m_textr m_rowr m_seenCellr m_seenWayr m_seenCamer m_isKeptr m_keptr cy.1 cy.2.2.1 m_marbles m_kind m_told m_now m_readTold m_readCell m_readKind m_text m_length m_at m_faultAt m_there m_stopped m_acts m_next m_row m_bestRow m_seen m_seenCell m_seenWay m_seenCame m_seed m_isKept m_kept) → va_S A s.heap H locs → tw_X7_days_86 m_marbles m_kind m_told m_there p1 (tw_X7_days_23 m_marbles m_kind m_told m_there p1 n23) x2 x3 m_now m_stopped m_seed = some res → W p l e R s m args below meth c H locs 0 0 Q (F0 m 86 ls []) := by
        intro x2 x3 m_now m_stopped m_seed  H locs ls hl hP hD hS h
        rw [tw_X7_days_86] at h
        refine lv_iload_n hx hb dX7_days_86 rfl (lv_at hl 2 rfl) ?_
        refine lv_aload_n hx hb dX7_days_87 rfl (lv_at hl 0 rfl) ?_
        refine lv_iconst (v := 1) hx hb dX7_days_88 (by decide) ?_
        obtain ⟨q1, hq1, h⟩ := ob h
        refine kV (As := [.int 1]) (rest := [.int x2]) (w2 := cMd mh m_kindr m_toldr m_nowr m_readToldr m_readCellr m_readKindr m_textr m_rowr m_seenCellr m_seenWayr m_seenCamer m_isKeptr m_keptr cy.1 cy.2.2.1 m_marbles m_kind m_told m_now m_readTold m_readCell m_readKind m_text m_length m_at m_faultAt m_there m_stopped m_acts m_next m_row m_bestRow m_seen m_seenCell m_seenWay m_seenCame m_seed m_isKept m_kept) (n := 1) (q0 := 0) ⟨hx, hb, hml, hown, hts⟩ (c_X7_fallen l D cy mh m_kindr m_toldr m_nowr m_readToldr m_readCellr m_readKindr m_textr m_rowr m_seenCellr m_seenWayr m_seenCamer m_isKeptr m_keptr m_marbles m_kind m_told m_now m_readTold m_readCell m_readKind m_text m_length m_at m_faultAt m_there m_stopped m_acts m_next m_row m_bestRow m_seen m_seenCell m_seenWay m_seenCame m_seed m_isKept m_kept 1 q1 hq1) gX7_days_X7_fallen rfl (by decide +kernel) ⟨by rw [hRf]; exact Nat.le_of_ble_eq_true rfl, by rw [hRl]; exact Nat.le_of_ble_eq_true rfl⟩ hE hP hD hS hA [0, 1, 2, 3, 4, 5, 6, 7, 8, 9, 10, 11, 12, 13] rfl rfl rfl rfl rfl rfl rfl hl.1 rfl (Nat.le_of_ble_eq_true rfl) dX7_days_89 ⟨Nat.zero_le _, Nat.zero_le _⟩ (fun H locs hP hD hS => ?_)
        refine lv_iadd hx hb dX7_days_92 ?_
        refine lv_istore_n (lv' := [(2, .int (x2 + q1)), (0, .ref mh), (1, .int p1), (3, .int x3)]) hx hb dX7_days_93 rfl hl (by decide) rfl (fun ls hl => ?_)
        refine lv_iinc (v := x3 + 1) (lv' := [(3, .int (x3 + 1)), (2, .int (x2 + q1)), (0, .ref mh), (1, .int p1)]) hx hb dX7_days_94 hl (k := 3) rfl rfl (by decide) rfl (fun ls hl => ?_)
        refine lv_goto (tgt := 23) hx hb dX7_days_97 (by decide) ?_
        exact ih23 (x2 + q1) (x3 + 1) m_now m_stopped m_seed _ _ _ (lv_sub hl [2, 3, 1, 0] rfl) hP hD hS h
      refine lv_iload_n hx hb dX7_days_23 rfl (lv_at hl 3 rfl) ?_
      refine lv_iload_n hx hb dX7_days_24 rfl (lv_at hl 1 rfl) ?_
      refine lv_icmp_ge (tgt := 100) hx hb dX7_days_25 (by decide) (fun c2 => ?_) (fun c2 => ?_)
      · have h := oit h c2
        refine lv_iload_n hx hb dX7_days_100 rfl (lv_at hl 2 rfl) ?_
        obtain rfl := Option.some.inj h
        rw [hQ]; exact ct_iret hx hb hr hlocks hP hS rfl dX7_days_101
      · have h := oif h c2
        refine lv_aload_n hx hb dX7_days_28 rfl (lv_at hl 0 rfl) ?_
        refine lv_aload_n hx hb dX7_days_29 rfl (lv_at hl 0 rfl) ?_
        refine va_get (D := D) (ci := 7) (v := .long m_seed) (C := RX7) (T := TX7) (N := 24) hx hb hts hiX7 hown hE.1 hP 0 rfl rfl 21 (by decide) (hts (.fieldLink RX7 212 "TiltTrayModel" "seed" "J") (by decide +kernel)) (fun _ h9 => h9) rfl dX7_days_30 ?_
        refine lv_ldc2 (v := 6364136223846793005) hx hb hown (hts (.constantLong RX7 218 (6364136223846793005)) (by decide +kernel)) dX7_days_33 ?_
        refine lv_lmul hx hb dX7_days_36 ?_
        refine lv_ldc2 (v := 1442695040888963407) hx hb hown (hts (.constantLong RX7 220 (1442695040888963407)) (by decide +kernel)) dX7_days_37 ?_
        refine lv_ladd hx hb dX7_days_40 ?_
        refine va_put (D := D) (ci := 7) (v := .long ((m_seed * 6364136223846793005) + 1442695040888963407)) (ty := .long) (C := RX7) (T := TX7) (N := 24) hx hb hts hiX7 tyX7 tyX7_ok nmX7 hown hE.1 hP hD hS 0 rfl rfl 21 (by decide) (hts (.fieldLink RX7 212 "TiltTrayModel" "seed" "J") (by decide +kernel)) (fun _ h9 => h9) rfl (by decide +kernel) rfl rfl (Nat.le_of_ble_eq_true rfl) dX7_days_41 (fun H locs hP hD hS => ?_)
        have hP : va_P D vwCl (cMd mh m_kindr m_toldr m_nowr m_readToldr m_readCellr m_readKindr m_textr m_rowr m_seenCellr m_seenWayr m_seenCamer m_isKeptr m_keptr cy.1 cy.2.2.1 m_marbles m_kind m_told m_now m_readTold m_readCell m_readKind m_text m_length m_at m_faultAt m_there m_stopped m_acts m_next m_row m_bestRow m_seen m_seenCell m_seenWay m_seenCame ((m_seed * 6364136223846793005) + 1442695040888963407) m_isKept m_kept) H := hP
        have hD : va_D A (cMd mh m_kindr m_toldr m_nowr m_readToldr m_readCellr m_readKindr m_textr m_rowr m_seenCellr m_seenWayr m_seenCamer m_isKeptr m_keptr cy.1 cy.2.2.1 m_marbles m_kind m_told m_now m_readTold m_readCell m_readKind m_text m_length m_at m_faultAt m_there m_stopped m_acts m_next m_row m_bestRow m_seen m_seenCell m_seenWay m_seenCame ((m_seed * 6364136223846793005) + 1442695040888963407) m_isKept m_kept) := hD
        refine lv_aload_n hx hb dX7_days_44 rfl (lv_at hl 0 rfl) ?_
        refine va_get (D := D) (ci := 7) (v := .long ((m_seed * 6364136223846793005) + 1442695040888963407)) (C := RX7) (T := TX7) (N := 24) hx hb hts hiX7 hown hE.1 hP 0 rfl rfl 21 (by decide) (hts (.fieldLink RX7 212 "TiltTrayModel" "seed" "J") (by decide +kernel)) (fun _ h9 => h9) rfl dX7_days_45 ?_
        refine lv_bipush (v := 33) hx hb dX7_days_48 (by decide) ?_
        refine lv_lushr hx hb dX7_days_50 rfl ?_
        refine lv_ldc2 (v := 29) hx hb hown (hts (.constantLong RX7 222 (29)) (by decide +kernel)) dX7_days_51 ?_
        refine lv_lrem hx hb dX7_days_54 (by decide) ?_
        refine lv_l2i hx hb dX7_days_55 rfl ?_
        refine lv_topi (fun v3 ev3 => ?_)
        have h := nmh ev3 h
        refine lv_istore (lv' := [(4, .int v3), (0, .ref mh), (1, .int p1), (2, .int x2), (3, .int x3)]) hx hb dX7_days_56 hl (by decide) rfl (fun ls hl => ?_)
        refine lv_iload hx hb dX7_days_58 (lv_at hl 0 rfl) ?_
        refine lv_bipush (v := 25) hx hb dX7_days_60 (by decide) ?_
        refine lv_icmp_ge (tgt := 75) hx hb dX7_days_62 (by decide) (fun c4 => ?_) (fun c4 => ?_)
        · have h := oit h c4
          refine lv_aload_n hx hb dX7_days_75 rfl (lv_at hl 1 rfl) ?_
          refine lv_iconst (v := 1) hx hb dX7_days_76 (by decide) ?_
          refine lv_iload hx hb dX7_days_77 (lv_at hl 0 rfl) ?_
          refine lv_bipush (v := 25) hx hb dX7_days_79 (by decide) ?_
          refine lv_isub hx hb dX7_days_81 ?_
          obtain ⟨q5, hq5, h⟩ := ob h
          refine kV (As := [.int 1, .int (v3 - 25)]) (rest := []) (w2 := cMd mh m_kindr m_toldr m_nowr m_readToldr m_readCellr m_readKindr m_textr m_rowr m_seenCellr m_seenWayr m_seenCamer m_isKeptr m_keptr cy.1 cy.2.2.1 m_marbles m_kind m_told q5.2.1 m_readTold m_readCell m_readKind m_text m_length m_at m_faultAt m_there q5.2.2 m_acts m_next m_row m_bestRow m_seen m_seenCell m_seenWay m_seenCame ((m_seed * 6364136223846793005) + 1442695040888963407) m_isKept m_kept) (n := 2) (q0 := 0) ⟨hx, hb, hml, hown, hts⟩ (c_X7_tiltOn l D cy mh m_kindr m_toldr m_nowr m_readToldr m_readCellr m_readKindr m_textr m_rowr m_seenCellr m_seenWayr m_seenCamer m_isKeptr m_keptr m_marbles m_kind m_told m_now m_readTold m_readCell m_readKind m_text m_length m_at m_faultAt m_there m_stopped m_acts m_next m_row m_bestRow m_seen m_seenCell m_seenWay m_seenCame ((m_seed * 6364136223846793005) + 1442695040888963407) m_isKept m_kept 1 (v3 - 25) q5 hq5) gX7_days_X7_tiltOn rfl (by decide +kernel) ⟨by rw [hRf]; exact Nat.le_of_ble_eq_true rfl, by rw [hRl]; exact Nat.le_of_ble_eq_true rfl⟩ hE hP hD hS hA [0, 1, 2, 3, 4, 5, 6, 7, 8, 9, 10, 11, 12, 13] rfl rfl rfl rfl rfl rfl rfl hl.1 rfl (Nat.le_of_ble_eq_true rfl) dX7_days_82 ⟨Nat.zero_le _, Nat.zero_le _⟩ (fun H locs hP hD hS => ?_)
          refine lv_pop hx hb dX7_days_85 rfl ?_
          exact L86 x2 x3 q5.2.1 q5.2.2 ((m_seed * 6364136223846793005) + 1442695040888963407) _ _ _ (lv_sub hl [1, 2, 3, 4] rfl) hP hD hS h
        · have h := oif h c4
          refine lv_aload_n hx hb dX7_days_65 rfl (lv_at hl 1 rfl) ?_
          refine lv_iload hx hb dX7_days_66 (lv_at hl 0 rfl) ?_
          obtain ⟨q6, hq6, h⟩ := ob h
          refine kV (As := [.int v3]) (rest := []) (w2 := cMd mh m_kindr m_toldr m_nowr m_readToldr m_readCellr m_readKindr m_textr m_rowr m_seenCellr m_seenWayr m_seenCamer m_isKeptr m_keptr cy.1 cy.2.2.1 m_marbles m_kind m_told q6.2 m_readTold m_readCell m_readKind m_text m_length m_at m_faultAt m_there m_stopped m_acts m_next m_row m_bestRow m_seen m_seenCell m_seenWay m_seenCame ((m_seed * 6364136223846793005) + 1442695040888963407) m_isKept m_kept) (n := 1) (q0 := 0) ⟨hx, hb, hml, hown, hts⟩ (c_X7_wedgeTrial l D cy mh m_kindr m_toldr m_nowr m_readToldr m_readCellr m_readKindr m_textr m_rowr m_seenCellr m_seenWayr m_seenCamer m_isKeptr m_keptr m_marbles m_kind m_told m_now m_readTold m_readCell m_readKind m_text m_length m_at m_faultAt m_there m_stopped m_acts m_next m_row m_bestRow m_seen m_seenCell m_seenWay m_seenCame ((m_seed * 6364136223846793005) + 1442695040888963407) m_isKept m_kept v3 q6 hq6) gX7_days_X7_wedgeTrial rfl (by decide +kernel) ⟨by rw [hRf]; exact Nat.le_of_ble_eq_true rfl, by rw [hRl]; exact Nat.le_of_ble_eq_true rfl⟩ hE hP hD hS hA [0, 1, 2, 3, 4, 5, 6, 7, 8, 9, 10, 11, 12, 13] rfl rfl rfl rfl rfl rfl rfl hl.1 rfl (Nat.le_of_ble_eq_true rfl) dX7_days_68 ⟨Nat.zero_le _, Nat.zero_le _⟩ (fun H locs hP hD hS => ?_)
          refine lv_pop hx hb dX7_days_71 rfl ?_
          refine lv_goto (tgt := 86) hx hb dX7_days_72 (by decide) ?_
          exact L86 x2 x3 q6.2 m_stopped ((m_seed * 6364136223846793005) + 1442695040888963407) _ _ _ (lv_sub hl [1, 2, 3, 4] rfl) hP hD hS h
  refine lv_iload_n hx hb dX7_days_0 rfl (lv_at hl 1 rfl) ?_
  refine lv_i2l hx hb dX7_days_1 rfl ?_
  refine lv_lconst (v := 1) hx hb dX7_days_2 (by decide) ?_
  refine lv_ldc2 (v := 30) hx hb hown (hts (.constantLong RX7 216 (30)) (by decide +kernel)) dX7_days_3 ?_
  obtain ⟨q7, hq7, h⟩ := ob h
  refine kS (As := [.long p1.toInt64, .long 1, .long 30]) (rest := []) (w2 := cMd mh m_kindr m_toldr m_nowr m_readToldr m_readCellr m_readKindr m_textr m_rowr m_seenCellr m_seenWayr m_seenCamer m_isKeptr m_keptr cy.1 cy.2.2.1 m_marbles m_kind m_told m_now m_readTold m_readCell m_readKind m_text m_length m_at m_faultAt m_there m_stopped m_acts m_next m_row m_bestRow m_seen m_seenCell m_seenWay m_seenCame m_seed m_isKept m_kept) (n := 3) ⟨hx, hb, hml, hown, hts⟩ (c_X7_in l D cy p1.toInt64 1 30 q7 hq7) gX7_days_X7_in rfl (by decide +kernel) ⟨by rw [hRf]; exact Nat.le_of_ble_eq_true rfl, by rw [hRl]; exact Nat.le_of_ble_eq_true rfl⟩ hE hP hD hS hA [] rfl rfl rfl rfl rfl hl.1 rfl (Nat.le_of_ble_eq_true rfl) dX7_days_6 ⟨Nat.zero_le _, Nat.zero_le _⟩ (fun H locs hP hD hS => ?_)
  refine lv_if_ne (tgt := 15) hx hb dX7_days_9 (by decide) (fun c8 => ?_) (fun c8 => ?_)
  · have h := oif h c8
    refine lv_aload_n hx hb dX7_days_15 rfl (lv_at hl 0 rfl) ?_
    obtain ⟨q9, hq9, h⟩ := ob h
    refine kV (As := []) (rest := []) (w2 := cMd mh m_kindr m_toldr m_nowr m_readToldr m_readCellr m_readKindr m_textr m_rowr m_seenCellr m_seenWayr m_seenCamer m_isKeptr m_keptr cy.1 cy.2.2.1 m_marbles m_kind m_told q9 m_readTold m_readCell m_readKind m_text m_length m_at m_faultAt m_there m_stopped m_acts m_next m_row m_bestRow m_seen m_seenCell m_seenWay m_seenCame m_seed m_isKept m_kept) (n := 0) (q0 := 0) ⟨hx, hb, hml, hown, hts⟩ (c_X7_layTrial l D cy mh m_kindr m_toldr m_nowr m_readToldr m_readCellr m_readKindr m_textr m_rowr m_seenCellr m_seenWayr m_seenCamer m_isKeptr m_keptr m_marbles m_kind m_told m_now m_readTold m_readCell m_readKind m_text m_length m_at m_faultAt m_there m_stopped m_acts m_next m_row m_bestRow m_seen m_seenCell m_seenWay m_seenCame m_seed m_isKept m_kept q9 hq9) gX7_days_X7_layTrial rfl (by decide +kernel) ⟨by rw [hRf]; exact Nat.le_of_ble_eq_true rfl, by rw [hRl]; exact Nat.le_of_ble_eq_true rfl⟩ hE hP hD hS hA [0, 1, 2, 3, 4, 5, 6, 7, 8, 9, 10, 11, 12, 13] rfl rfl rfl rfl rfl rfl rfl hl.1 rfl (Nat.le_of_ble_eq_true rfl) dX7_days_16 ⟨Nat.zero_le _, Nat.zero_le _⟩ (fun H locs hP hD hS => ?_)
    refine lv_iconst (v := 0) hx hb dX7_days_19 (by decide) ?_
    refine lv_istore_n (lv' := [(2, .int 0), (0, .ref mh), (1, .int p1)]) hx hb dX7_days_20 rfl hl (by decide) rfl (fun ls hl => ?_)
    refine lv_iconst (v := 0) hx hb dX7_days_21 (by decide) ?_
    refine lv_istore_n (lv' := [(3, .int 0), (2, .int 0), (0, .ref mh), (1, .int p1)]) hx hb dX7_days_22 rfl hl (by decide) rfl (fun ls hl => ?_)
    exact L23 31 0 0 q9 m_stopped m_seed _ _ _ (lv_sub hl [2, 3, 1, 0] rfl) hP hD hS h
  · have h := oit h c8
    refine lv_bipush (v := (-2)) hx hb dX7_days_12 (by decide) ?_
    obtain rfl := Option.some.inj h
    rw [hQ]; exact ct_iret hx hb hr hlocks hP hS rfl dX7_days_14

def tw_X7_keep (m_now : Nat → Int32) (m_isKept : Nat → Int32) (m_kept : Nat → Int32) (p1 : Int32) : Option (Int32 × (Nat → Int32) × (Nat → Int32)) :=
  (tw_X7_in p1.toInt64 0 1).bind (fun q1 => if q1 = 0 then (some ((-1), m_isKept, m_kept)) else (if ix p1 2 = true then (if ix ((7 * p1) + 0) 14 = true then (if ix ((7 * p1) + 1) 14 = true then (if ix ((7 * p1) + 2) 14 = true then (if ix ((7 * p1) + 3) 14 = true then (if ix ((7 * p1) + 4) 14 = true then (if ix ((7 * p1) + 5) 14 = true then (if ix ((7 * p1) + 6) 14 = true then (some (m_now (6 : Int32).toNatClampNeg, upd m_isKept p1.toNatClampNeg (vp_nar .boolean 1), upd (upd (upd (upd (upd (upd (upd m_kept ((7 * p1) + 0).toNatClampNeg (m_now (0 : Int32).toNatClampNeg)) ((7 * p1) + 1).toNatClampNeg (m_now (1 : Int32).toNatClampNeg)) ((7 * p1) + 2).toNatClampNeg (m_now (2 : Int32).toNatClampNeg)) ((7 * p1) + 3).toNatClampNeg (m_now (3 : Int32).toNatClampNeg)) ((7 * p1) + 4).toNatClampNeg (m_now (4 : Int32).toNatClampNeg)) ((7 * p1) + 5).toNatClampNeg (m_now (5 : Int32).toNatClampNeg)) ((7 * p1) + 6).toNatClampNeg (m_now (6 : Int32).toNatClampNeg))) else none) else none) else none) else none) else none) else none) else none) else none))
set_option maxHeartbeats 4000000 in
set_option maxRecDepth 100000 in
theorem c_X7_keep (l : Launch) (D : va_G) (cy : Cy) (mh : Nat) (m_kindr : Nat) (m_toldr : Nat) (m_nowr : Nat) (m_readToldr : Nat) (m_readCellr : Nat) (m_readKindr : Nat) (m_textr : Nat) (m_rowr : Nat) (m_seenCellr : Nat) (m_seenWayr : Nat) (m_seenCamer : Nat) (m_isKeptr : Nat) (m_keptr : Nat) (m_marbles : Int32) (m_kind : Nat → Int32) (m_told : Nat → Int32) (m_now : Nat → Int32) (m_readTold : Nat → Int32) (m_readCell : Nat → Int32) (m_readKind : Nat → Int32) (m_text : Nat → Int32) (m_length : Int32) (m_at : Int32) (m_faultAt : Int32) (m_there : Int32) (m_stopped : Int32) (m_acts : Int32) (m_next : Int32) (m_row : Nat → Int32) (m_bestRow : Int32) (m_seen : Int32) (m_seenCell : Nat → Int32) (m_seenWay : Nat → Int32) (m_seenCame : Nat → Int32) (m_seed : Int64) (m_isKept : Nat → Int32) (m_kept : Nat → Int32) (p1 : Int32) (res : Int32 × (Nat → Int32) × (Nat → Int32)) (h : tw_X7_keep m_now m_isKept m_kept p1 = some res) : Ct l yX7_keep wsX7_keep 1 25 D cy [.ref mh, .int p1] (cMd mh m_kindr m_toldr m_nowr m_readToldr m_readCellr m_readKindr m_textr m_rowr m_seenCellr m_seenWayr m_seenCamer m_isKeptr m_keptr cy.1 cy.2.2.1 m_marbles m_kind m_told m_now m_readTold m_readCell m_readKind m_text m_length m_at m_faultAt m_there m_stopped m_acts m_next m_row m_bestRow m_seen m_seenCell m_seenWay m_seenCame m_seed m_isKept m_kept) (cMd mh m_kindr m_toldr m_nowr m_readToldr m_readCellr m_readKindr m_textr m_rowr m_seenCellr m_seenWayr m_seenCamer m_isKeptr m_keptr cy.1 cy.2.2.1 m_marbles m_kind m_told m_now m_readTold m_readCell m_readKind m_text m_length m_at m_faultAt m_there m_stopped m_acts m_next m_row m_bestRow m_seen m_seenCell m_seenWay m_seenCame m_seed res.2.1 res.2.2) (some (.int res.1)) := by
  refine Ct.ofW (cc := cX7_keep) (maxL := 3) (ret := (some .int)) (by decide) rfl (Nat.le_of_ble_eq_true rfl) ?_
  intro p e R s m args below meth c A Q ls hRf hRl hQ hx hb hr hml hts hown hlocks hE hP hD hS hA hl
  have hiX7 : ∀ w ∈ u_ws RX7 TX7 24, w ∈ wsX7_keep := by decide +kernel
  have hl : lv_has ls 3 [(0, .ref mh), (1, .int p1)] := hl
  rw [tw_X7_keep] at h
  refine lv_iload_n hx hb dX7_keep_0 rfl (lv_at hl 1 rfl) ?_
  refine lv_i2l hx hb dX7_keep_1 rfl ?_
  refine lv_lconst (v := 0) hx hb dX7_keep_2 (by decide) ?_
  refine lv_lconst (v := 1) hx hb dX7_keep_3 (by decide) ?_
  obtain ⟨q1, hq1, h⟩ := ob h
  refine kS (As := [.long p1.toInt64, .long 0, .long 1]) (rest := []) (w2 := cMd mh m_kindr m_toldr m_nowr m_readToldr m_readCellr m_readKindr m_textr m_rowr m_seenCellr m_seenWayr m_seenCamer m_isKeptr m_keptr cy.1 cy.2.2.1 m_marbles m_kind m_told m_now m_readTold m_readCell m_readKind m_text m_length m_at m_faultAt m_there m_stopped m_acts m_next m_row m_bestRow m_seen m_seenCell m_seenWay m_seenCame m_seed m_isKept m_kept) (n := 3) ⟨hx, hb, hml, hown, hts⟩ (c_X7_in l D cy p1.toInt64 0 1 q1 hq1) gX7_keep_X7_in rfl (by decide +kernel) ⟨by rw [hRf]; exact Nat.le_of_ble_eq_true rfl, by rw [hRl]; exact Nat.le_of_ble_eq_true rfl⟩ hE hP hD hS hA [] rfl rfl rfl rfl rfl hl.1 rfl (Nat.le_of_ble_eq_true rfl) dX7_keep_4 ⟨Nat.zero_le _, Nat.zero_le _⟩ (fun H locs hP hD hS => ?_)
  refine lv_if_ne (tgt := 12) hx hb dX7_keep_7 (by decide) (fun c2 => ?_) (fun c2 => ?_)
  · have h := oif h c2
    refine lv_aload_n hx hb dX7_keep_12 rfl (lv_at hl 0 rfl) ?_
    refine va_get (D := D) (ci := 7) (v := .ref m_isKeptr) (C := RX7) (T := TX7) (N := 24) hx hb hts hiX7 hown hE.1 hP 0 rfl rfl 22 (by decide) (hts (.fieldLink RX7 47 "TiltTrayModel" "isKept" "[Z") (by decide +kernel)) (fun _ h9 => h9) rfl dX7_keep_13 ?_
    refine lv_iload_n hx hb dX7_keep_16 rfl (lv_at hl 1 rfl) ?_
    refine lv_iconst (v := 1) hx hb dX7_keep_17 (by decide) ?_
    obtain ⟨g3, h⟩ := og h
    refine va_zast hx hb hE.1 hP hD hS 12 2 rfl rfl (ix_in g3) dX7_keep_18 (fun H locs hP hD hS => ?_)
    have hP : va_P D vwCl (cMd mh m_kindr m_toldr m_nowr m_readToldr m_readCellr m_readKindr m_textr m_rowr m_seenCellr m_seenWayr m_seenCamer m_isKeptr m_keptr cy.1 cy.2.2.1 m_marbles m_kind m_told m_now m_readTold m_readCell m_readKind m_text m_length m_at m_faultAt m_there m_stopped m_acts m_next m_row m_bestRow m_seen m_seenCell m_seenWay m_seenCame m_seed (upd m_isKept p1.toNatClampNeg (vp_nar .boolean 1)) m_kept) H := hP
    have hD : va_D A (cMd mh m_kindr m_toldr m_nowr m_readToldr m_readCellr m_readKindr m_textr m_rowr m_seenCellr m_seenWayr m_seenCamer m_isKeptr m_keptr cy.1 cy.2.2.1 m_marbles m_kind m_told m_now m_readTold m_readCell m_readKind m_text m_length m_at m_faultAt m_there m_stopped m_acts m_next m_row m_bestRow m_seen m_seenCell m_seenWay m_seenCame m_seed (upd m_isKept p1.toNatClampNeg (vp_nar .boolean 1)) m_kept) := hD
    refine lv_iconst (v := 0) hx hb dX7_keep_19 (by decide) ?_
    refine lv_istore_n (lv' := [(2, .int 0), (0, .ref mh), (1, .int p1)]) hx hb dX7_keep_20 rfl hl (by decide) rfl (fun ls hl => ?_)
    refine lv_iload_n hx hb dX7_keep_21 rfl (lv_at hl 0 rfl) ?_
    refine lv_bipush (v := 7) hx hb dX7_keep_22 (by decide) ?_
    refine lv_icmp_ge (tgt := 50) hx hb dX7_keep_24 (by decide) (fun c4 => absurd c4 (by decide)) (fun _ => ?_)
    refine lv_aload_n hx hb dX7_keep_27 rfl (lv_at hl 1 rfl) ?_
    refine va_get (D := D) (ci := 7) (v := .ref m_keptr) (C := RX7) (T := TX7) (N := 24) hx hb hts hiX7 hown hE.1 hP 0 rfl rfl 23 (by decide) (hts (.fieldLink RX7 51 "TiltTrayModel" "kept" "[I") (by decide +kernel)) (fun _ h9 => h9) rfl dX7_keep_28 ?_
    refine lv_bipush (v := 7) hx hb dX7_keep_31 (by decide) ?_
    refine lv_iload_n hx hb dX7_keep_33 rfl (lv_at hl 2 rfl) ?_
    refine lv_imul hx hb dX7_keep_34 ?_
    refine lv_iload_n hx hb dX7_keep_35 rfl (lv_at hl 0 rfl) ?_
    refine lv_iadd hx hb dX7_keep_36 ?_
    refine lv_aload_n hx hb dX7_keep_37 rfl (lv_at hl 1 rfl) ?_
    refine va_get (D := D) (ci := 7) (v := .ref m_nowr) (C := RX7) (T := TX7) (N := 24) hx hb hts hiX7 hown hE.1 hP 0 rfl rfl 3 (by decide) (hts (.fieldLink RX7 16 "TiltTrayModel" "now" "[I") (by decide +kernel)) (fun _ h9 => h9) rfl dX7_keep_38 ?_
    refine lv_iload_n hx hb dX7_keep_41 rfl (lv_at hl 0 rfl) ?_
    refine va_iald hx hb hE.1 hP 3 0 rfl rfl (ix_in (by decide)) dX7_keep_42 ?_
    obtain ⟨g5, h⟩ := og h
    refine va_iast hx hb hE.1 hP hD hS 13 0 rfl rfl (ix_in g5) dX7_keep_43 (fun H locs hP hD hS => ?_)
    have hP : va_P D vwCl (cMd mh m_kindr m_toldr m_nowr m_readToldr m_readCellr m_readKindr m_textr m_rowr m_seenCellr m_seenWayr m_seenCamer m_isKeptr m_keptr cy.1 cy.2.2.1 m_marbles m_kind m_told m_now m_readTold m_readCell m_readKind m_text m_length m_at m_faultAt m_there m_stopped m_acts m_next m_row m_bestRow m_seen m_seenCell m_seenWay m_seenCame m_seed (upd m_isKept p1.toNatClampNeg (vp_nar .boolean 1)) (upd m_kept ((7 * p1) + 0).toNatClampNeg (m_now (0 : Int32).toNatClampNeg))) H := hP
    have hD : va_D A (cMd mh m_kindr m_toldr m_nowr m_readToldr m_readCellr m_readKindr m_textr m_rowr m_seenCellr m_seenWayr m_seenCamer m_isKeptr m_keptr cy.1 cy.2.2.1 m_marbles m_kind m_told m_now m_readTold m_readCell m_readKind m_text m_length m_at m_faultAt m_there m_stopped m_acts m_next m_row m_bestRow m_seen m_seenCell m_seenWay m_seenCame m_seed (upd m_isKept p1.toNatClampNeg (vp_nar .boolean 1)) (upd m_kept ((7 * p1) + 0).toNatClampNeg (m_now (0 : Int32).toNatClampNeg))) := hD
    refine lv_iinc (v := 1) (lv' := [(2, .int 1), (0, .ref mh), (1, .int p1)]) hx hb dX7_keep_44 hl (k := 0) rfl (by decide) (by decide) rfl (fun ls hl => ?_)
    refine lv_goto (tgt := 21) hx hb dX7_keep_47 (by decide) ?_
    refine lv_iload_n hx hb dX7_keep_21 rfl (lv_at hl 0 rfl) ?_
    refine lv_bipush (v := 7) hx hb dX7_keep_22 (by decide) ?_
    refine lv_icmp_ge (tgt := 50) hx hb dX7_keep_24 (by decide) (fun c6 => absurd c6 (by decide)) (fun _ => ?_)
    refine lv_aload_n hx hb dX7_keep_27 rfl (lv_at hl 1 rfl) ?_
    refine va_get (D := D) (ci := 7) (v := .ref m_keptr) (C := RX7) (T := TX7) (N := 24) hx hb hts hiX7 hown hE.1 hP 0 rfl rfl 23 (by decide) (hts (.fieldLink RX7 51 "TiltTrayModel" "kept" "[I") (by decide +kernel)) (fun _ h9 => h9) rfl dX7_keep_28 ?_
    refine lv_bipush (v := 7) hx hb dX7_keep_31 (by decide) ?_
    refine lv_iload_n hx hb dX7_keep_33 rfl (lv_at hl 2 rfl) ?_
    refine lv_imul hx hb dX7_keep_34 ?_
    refine lv_iload_n hx hb dX7_keep_35 rfl (lv_at hl 0 rfl) ?_
    refine lv_iadd hx hb dX7_keep_36 ?_
    refine lv_aload_n hx hb dX7_keep_37 rfl (lv_at hl 1 rfl) ?_
    refine va_get (D := D) (ci := 7) (v := .ref m_nowr) (C := RX7) (T := TX7) (N := 24) hx hb hts hiX7 hown hE.1 hP 0 rfl rfl 3 (by decide) (hts (.fieldLink RX7 16 "TiltTrayModel" "now" "[I") (by decide +kernel)) (fun _ h9 => h9) rfl dX7_keep_38 ?_
    refine lv_iload_n hx hb dX7_keep_41 rfl (lv_at hl 0 rfl) ?_
    refine va_iald hx hb hE.1 hP 3 0 rfl rfl (ix_in (by decide)) dX7_keep_42 ?_
    obtain ⟨g7, h⟩ := og h
    refine va_iast hx hb hE.1 hP hD hS 13 0 rfl rfl (ix_in g7) dX7_keep_43 (fun H locs hP hD hS => ?_)
    have hP : va_P D vwCl (cMd mh m_kindr m_toldr m_nowr m_readToldr m_readCellr m_readKindr m_textr m_rowr m_seenCellr m_seenWayr m_seenCamer m_isKeptr m_keptr cy.1 cy.2.2.1 m_marbles m_kind m_told m_now m_readTold m_readCell m_readKind m_text m_length m_at m_faultAt m_there m_stopped m_acts m_next m_row m_bestRow m_seen m_seenCell m_seenWay m_seenCame m_seed (upd m_isKept p1.toNatClampNeg (vp_nar .boolean 1)) (upd (upd m_kept ((7 * p1) + 0).toNatClampNeg (m_now (0 : Int32).toNatClampNeg)) ((7 * p1) + 1).toNatClampNeg (m_now (1 : Int32).toNatClampNeg))) H := hP
    have hD : va_D A (cMd mh m_kindr m_toldr m_nowr m_readToldr m_readCellr m_readKindr m_textr m_rowr m_seenCellr m_seenWayr m_seenCamer m_isKeptr m_keptr cy.1 cy.2.2.1 m_marbles m_kind m_told m_now m_readTold m_readCell m_readKind m_text m_length m_at m_faultAt m_there m_stopped m_acts m_next m_row m_bestRow m_seen m_seenCell m_seenWay m_seenCame m_seed (upd m_isKept p1.toNatClampNeg (vp_nar .boolean 1)) (upd (upd m_kept ((7 * p1) + 0).toNatClampNeg (m_now (0 : Int32).toNatClampNeg)) ((7 * p1) + 1).toNatClampNeg (m_now (1 : Int32).toNatClampNeg))) := hD
    refine lv_iinc (v := 2) (lv' := [(2, .int 2), (0, .ref mh), (1, .int p1)]) hx hb dX7_keep_44 hl (k := 0) rfl (by decide) (by decide) rfl (fun ls hl => ?_)
    refine lv_goto (tgt := 21) hx hb dX7_keep_47 (by decide) ?_
    refine lv_iload_n hx hb dX7_keep_21 rfl (lv_at hl 0 rfl) ?_
    refine lv_bipush (v := 7) hx hb dX7_keep_22 (by decide) ?_
    refine lv_icmp_ge (tgt := 50) hx hb dX7_keep_24 (by decide) (fun c8 => absurd c8 (by decide)) (fun _ => ?_)
    refine lv_aload_n hx hb dX7_keep_27 rfl (lv_at hl 1 rfl) ?_
    refine va_get (D := D) (ci := 7) (v := .ref m_keptr) (C := RX7) (T := TX7) (N := 24) hx hb hts hiX7 hown hE.1 hP 0 rfl rfl 23 (by decide) (hts (.fieldLink RX7 51 "TiltTrayModel" "kept" "[I") (by decide +kernel)) (fun _ h9 => h9) rfl dX7_keep_28 ?_
    refine lv_bipush (v := 7) hx hb dX7_keep_31 (by decide) ?_
    refine lv_iload_n hx hb dX7_keep_33 rfl (lv_at hl 2 rfl) ?_
    refine lv_imul hx hb dX7_keep_34 ?_
    refine lv_iload_n hx hb dX7_keep_35 rfl (lv_at hl 0 rfl) ?_
    refine lv_iadd hx hb dX7_keep_36 ?_
    refine lv_aload_n hx hb dX7_keep_37 rfl (lv_at hl 1 rfl) ?_
    refine va_get (D := D) (ci := 7) (v := .ref m_nowr) (C := RX7) (T := TX7) (N := 24) hx hb hts hiX7 hown hE.1 hP 0 rfl rfl 3 (by decide) (hts (.fieldLink RX7 16 "TiltTrayModel" "now" "[I") (by decide +kernel)) (fun _ h9 => h9) rfl dX7_keep_38 ?_
    refine lv_iload_n hx hb dX7_keep_41 rfl (lv_at hl 0 rfl) ?_
    refine va_iald hx hb hE.1 hP 3 0 rfl rfl (ix_in (by decide)) dX7_keep_42 ?_
    obtain ⟨g9, h⟩ := og h
    refine va_iast hx hb hE.1 hP hD hS 13 0 rfl rfl (ix_in g9) dX7_keep_43 (fun H locs hP hD hS => ?_)
    have hP : va_P D vwCl (cMd mh m_kindr m_toldr m_nowr m_readToldr m_readCellr m_readKindr m_textr m_rowr m_seenCellr m_seenWayr m_seenCamer m_isKeptr m_keptr cy.1 cy.2.2.1 m_marbles m_kind m_told m_now m_readTold m_readCell m_readKind m_text m_length m_at m_faultAt m_there m_stopped m_acts m_next m_row m_bestRow m_seen m_seenCell m_seenWay m_seenCame m_seed (upd m_isKept p1.toNatClampNeg (vp_nar .boolean 1)) (upd (upd (upd m_kept ((7 * p1) + 0).toNatClampNeg (m_now (0 : Int32).toNatClampNeg)) ((7 * p1) + 1).toNatClampNeg (m_now (1 : Int32).toNatClampNeg)) ((7 * p1) + 2).toNatClampNeg (m_now (2 : Int32).toNatClampNeg))) H := hP
    have hD : va_D A (cMd mh m_kindr m_toldr m_nowr m_readToldr m_readCellr m_readKindr m_textr m_rowr m_seenCellr m_seenWayr m_seenCamer m_isKeptr m_keptr cy.1 cy.2.2.1 m_marbles m_kind m_told m_now m_readTold m_readCell m_readKind m_text m_length m_at m_faultAt m_there m_stopped m_acts m_next m_row m_bestRow m_seen m_seenCell m_seenWay m_seenCame m_seed (upd m_isKept p1.toNatClampNeg (vp_nar .boolean 1)) (upd (upd (upd m_kept ((7 * p1) + 0).toNatClampNeg (m_now (0 : Int32).toNatClampNeg)) ((7 * p1) + 1).toNatClampNeg (m_now (1 : Int32).toNatClampNeg)) ((7 * p1) + 2).toNatClampNeg (m_now (2 : Int32).toNatClampNeg))) := hD
    refine lv_iinc (v := 3) (lv' := [(2, .int 3), (0, .ref mh), (1, .int p1)]) hx hb dX7_keep_44 hl (k := 0) rfl (by decide) (by decide) rfl (fun ls hl => ?_)
    refine lv_goto (tgt := 21) hx hb dX7_keep_47 (by decide) ?_
    refine lv_iload_n hx hb dX7_keep_21 rfl (lv_at hl 0 rfl) ?_
    refine lv_bipush (v := 7) hx hb dX7_keep_22 (by decide) ?_
    refine lv_icmp_ge (tgt := 50) hx hb dX7_keep_24 (by decide) (fun c10 => absurd c10 (by decide)) (fun _ => ?_)
    refine lv_aload_n hx hb dX7_keep_27 rfl (lv_at hl 1 rfl) ?_
    refine va_get (D := D) (ci := 7) (v := .ref m_keptr) (C := RX7) (T := TX7) (N := 24) hx hb hts hiX7 hown hE.1 hP 0 rfl rfl 23 (by decide) (hts (.fieldLink RX7 51 "TiltTrayModel" "kept" "[I") (by decide +kernel)) (fun _ h9 => h9) rfl dX7_keep_28 ?_
    refine lv_bipush (v := 7) hx hb dX7_keep_31 (by decide) ?_
    refine lv_iload_n hx hb dX7_keep_33 rfl (lv_at hl 2 rfl) ?_
    refine lv_imul hx hb dX7_keep_34 ?_
    refine lv_iload_n hx hb dX7_keep_35 rfl (lv_at hl 0 rfl) ?_
    refine lv_iadd hx hb dX7_keep_36 ?_
    refine lv_aload_n hx hb dX7_keep_37 rfl (lv_at hl 1 rfl) ?_
    refine va_get (D := D) (ci := 7) (v := .ref m_nowr) (C := RX7) (T := TX7) (N := 24) hx hb hts hiX7 hown hE.1 hP 0 rfl rfl 3 (by decide) (hts (.fieldLink RX7 16 "TiltTrayModel" "now" "[I") (by decide +kernel)) (fun _ h9 => h9) rfl dX7_keep_38 ?_
    refine lv_iload_n hx hb dX7_keep_41 rfl (lv_at hl 0 rfl) ?_
    refine va_iald hx hb hE.1 hP 3 0 rfl rfl (ix_in (by decide)) dX7_keep_42 ?_
    obtain ⟨g11, h⟩ := og h
    refine va_iast hx hb hE.1 hP hD hS 13 0 rfl rfl (ix_in g11) dX7_keep_43 (fun H locs hP hD hS => ?_)
    have hP : va_P D vwCl (cMd mh m_kindr m_toldr m_nowr m_readToldr m_readCellr m_readKindr m_textr m_rowr m_seenCellr m_seenWayr m_seenCamer m_isKeptr m_keptr cy.1 cy.2.2.1 m_marbles m_kind m_told m_now m_readTold m_readCell m_readKind m_text m_length m_at m_faultAt m_there m_stopped m_acts m_next m_row m_bestRow m_seen m_seenCell m_seenWay m_seenCame m_seed (upd m_isKept p1.toNatClampNeg (vp_nar .boolean 1)) (upd (upd (upd (upd m_kept ((7 * p1) + 0).toNatClampNeg (m_now (0 : Int32).toNatClampNeg)) ((7 * p1) + 1).toNatClampNeg (m_now (1 : Int32).toNatClampNeg)) ((7 * p1) + 2).toNatClampNeg (m_now (2 : Int32).toNatClampNeg)) ((7 * p1) + 3).toNatClampNeg (m_now (3 : Int32).toNatClampNeg))) H := hP
    have hD : va_D A (cMd mh m_kindr m_toldr m_nowr m_readToldr m_readCellr m_readKindr m_textr m_rowr m_seenCellr m_seenWayr m_seenCamer m_isKeptr m_keptr cy.1 cy.2.2.1 m_marbles m_kind m_told m_now m_readTold m_readCell m_readKind m_text m_length m_at m_faultAt m_there m_stopped m_acts m_next m_row m_bestRow m_seen m_seenCell m_seenWay m_seenCame m_seed (upd m_isKept p1.toNatClampNeg (vp_nar .boolean 1)) (upd (upd (upd (upd m_kept ((7 * p1) + 0).toNatClampNeg (m_now (0 : Int32).toNatClampNeg)) ((7 * p1) + 1).toNatClampNeg (m_now (1 : Int32).toNatClampNeg)) ((7 * p1) + 2).toNatClampNeg (m_now (2 : Int32).toNatClampNeg)) ((7 * p1) + 3).toNatClampNeg (m_now (3 : Int32).toNatClampNeg))) := hD
    refine lv_iinc (v := 4) (lv' := [(2, .int 4), (0, .ref mh), (1, .int p1)]) hx hb dX7_keep_44 hl (k := 0) rfl (by decide) (by decide) rfl (fun ls hl => ?_)
    refine lv_goto (tgt := 21) hx hb dX7_keep_47 (by decide) ?_
    refine lv_iload_n hx hb dX7_keep_21 rfl (lv_at hl 0 rfl) ?_
    refine lv_bipush (v := 7) hx hb dX7_keep_22 (by decide) ?_
    refine lv_icmp_ge (tgt := 50) hx hb dX7_keep_24 (by decide) (fun c12 => absurd c12 (by decide)) (fun _ => ?_)
    refine lv_aload_n hx hb dX7_keep_27 rfl (lv_at hl 1 rfl) ?_
    refine va_get (D := D) (ci := 7) (v := .ref m_keptr) (C := RX7) (T := TX7) (N := 24) hx hb hts hiX7 hown hE.1 hP 0 rfl rfl 23 (by decide) (hts (.fieldLink RX7 51 "TiltTrayModel" "kept" "[I") (by decide +kernel)) (fun _ h9 => h9) rfl dX7_keep_28 ?_
    refine lv_bipush (v := 7) hx hb dX7_keep_31 (by decide) ?_
    refine lv_iload_n hx hb dX7_keep_33 rfl (lv_at hl 2 rfl) ?_
    refine lv_imul hx hb dX7_keep_34 ?_
    refine lv_iload_n hx hb dX7_keep_35 rfl (lv_at hl 0 rfl) ?_
    refine lv_iadd hx hb dX7_keep_36 ?_
    refine lv_aload_n hx hb dX7_keep_37 rfl (lv_at hl 1 rfl) ?_
    refine va_get (D := D) (ci := 7) (v := .ref m_nowr) (C := RX7) (T := TX7) (N := 24) hx hb hts hiX7 hown hE.1 hP 0 rfl rfl 3 (by decide) (hts (.fieldLink RX7 16 "TiltTrayModel" "now" "[I") (by decide +kernel)) (fun _ h9 => h9) rfl dX7_keep_38 ?_
    refine lv_iload_n hx hb dX7_keep_41 rfl (lv_at hl 0 rfl) ?_
    refine va_iald hx hb hE.1 hP 3 0 rfl rfl (ix_in (by decide)) dX7_keep_42 ?_
    obtain ⟨g13, h⟩ := og h
    refine va_iast hx hb hE.1 hP hD hS 13 0 rfl rfl (ix_in g13) dX7_keep_43 (fun H locs hP hD hS => ?_)
    have hP : va_P D vwCl (cMd mh m_kindr m_toldr m_nowr m_readToldr m_readCellr m_readKindr m_textr m_rowr m_seenCellr m_seenWayr m_seenCamer m_isKeptr m_keptr cy.1 cy.2.2.1 m_marbles m_kind m_told m_now m_readTold m_readCell m_readKind m_text m_length m_at m_faultAt m_there m_stopped m_acts m_next m_row m_bestRow m_seen m_seenCell m_seenWay m_seenCame m_seed (upd m_isKept p1.toNatClampNeg (vp_nar .boolean 1)) (upd (upd (upd (upd (upd m_kept ((7 * p1) + 0).toNatClampNeg (m_now (0 : Int32).toNatClampNeg)) ((7 * p1) + 1).toNatClampNeg (m_now (1 : Int32).toNatClampNeg)) ((7 * p1) + 2).toNatClampNeg (m_now (2 : Int32).toNatClampNeg)) ((7 * p1) + 3).toNatClampNeg (m_now (3 : Int32).toNatClampNeg)) ((7 * p1) + 4).toNatClampNeg (m_now (4 : Int32).toNatClampNeg))) H := hP
    have hD : va_D A (cMd mh m_kindr m_toldr m_nowr m_readToldr m_readCellr m_readKindr m_textr m_rowr m_seenCellr m_seenWayr m_seenCamer m_isKeptr m_keptr cy.1 cy.2.2.1 m_marbles m_kind m_told m_now m_readTold m_readCell m_readKind m_text m_length m_at m_faultAt m_there m_stopped m_acts m_next m_row m_bestRow m_seen m_seenCell m_seenWay m_seenCame m_seed (upd m_isKept p1.toNatClampNeg (vp_nar .boolean 1)) (upd (upd (upd (upd (upd m_kept ((7 * p1) + 0).toNatClampNeg (m_now (0 : Int32).toNatClampNeg)) ((7 * p1) + 1).toNatClampNeg (m_now (1 : Int32).toNatClampNeg)) ((7 * p1) + 2).toNatClampNeg (m_now (2 : Int32).toNatClampNeg)) ((7 * p1) + 3).toNatClampNeg (m_now (3 : Int32).toNatClampNeg)) ((7 * p1) + 4).toNatClampNeg (m_now (4 : Int32).toNatClampNeg))) := hD
    refine lv_iinc (v := 5) (lv' := [(2, .int 5), (0, .ref mh), (1, .int p1)]) hx hb dX7_keep_44 hl (k := 0) rfl (by decide) (by decide) rfl (fun ls hl => ?_)
    refine lv_goto (tgt := 21) hx hb dX7_keep_47 (by decide) ?_
    refine lv_iload_n hx hb dX7_keep_21 rfl (lv_at hl 0 rfl) ?_
    refine lv_bipush (v := 7) hx hb dX7_keep_22 (by decide) ?_
    refine lv_icmp_ge (tgt := 50) hx hb dX7_keep_24 (by decide) (fun c14 => absurd c14 (by decide)) (fun _ => ?_)
    refine lv_aload_n hx hb dX7_keep_27 rfl (lv_at hl 1 rfl) ?_
    refine va_get (D := D) (ci := 7) (v := .ref m_keptr) (C := RX7) (T := TX7) (N := 24) hx hb hts hiX7 hown hE.1 hP 0 rfl rfl 23 (by decide) (hts (.fieldLink RX7 51 "TiltTrayModel" "kept" "[I") (by decide +kernel)) (fun _ h9 => h9) rfl dX7_keep_28 ?_
    refine lv_bipush (v := 7) hx hb dX7_keep_31 (by decide) ?_
    refine lv_iload_n hx hb dX7_keep_33 rfl (lv_at hl 2 rfl) ?_
    refine lv_imul hx hb dX7_keep_34 ?_
    refine lv_iload_n hx hb dX7_keep_35 rfl (lv_at hl 0 rfl) ?_
    refine lv_iadd hx hb dX7_keep_36 ?_
    refine lv_aload_n hx hb dX7_keep_37 rfl (lv_at hl 1 rfl) ?_
    refine va_get (D := D) (ci := 7) (v := .ref m_nowr) (C := RX7) (T := TX7) (N := 24) hx hb hts hiX7 hown hE.1 hP 0 rfl rfl 3 (by decide) (hts (.fieldLink RX7 16 "TiltTrayModel" "now" "[I") (by decide +kernel)) (fun _ h9 => h9) rfl dX7_keep_38 ?_
    refine lv_iload_n hx hb dX7_keep_41 rfl (lv_at hl 0 rfl) ?_
    refine va_iald hx hb hE.1 hP 3 0 rfl rfl (ix_in (by decide)) dX7_keep_42 ?_
    obtain ⟨g15, h⟩ := og h
    refine va_iast hx hb hE.1 hP hD hS 13 0 rfl rfl (ix_in g15) dX7_keep_43 (fun H locs hP hD hS => ?_)
    have hP : va_P D vwCl (cMd mh m_kindr m_toldr m_nowr m_readToldr m_readCellr m_readKindr m_textr m_rowr m_seenCellr m_seenWayr m_seenCamer m_isKeptr m_keptr cy.1 cy.2.2.1 m_marbles m_kind m_told m_now m_readTold m_readCell m_readKind m_text m_length m_at m_faultAt m_there m_stopped m_acts m_next m_row m_bestRow m_seen m_seenCell m_seenWay m_seenCame m_seed (upd m_isKept p1.toNatClampNeg (vp_nar .boolean 1)) (upd (upd (upd (upd (upd (upd m_kept ((7 * p1) + 0).toNatClampNeg (m_now (0 : Int32).toNatClampNeg)) ((7 * p1) + 1).toNatClampNeg (m_now (1 : Int32).toNatClampNeg)) ((7 * p1) + 2).toNatClampNeg (m_now (2 : Int32).toNatClampNeg)) ((7 * p1) + 3).toNatClampNeg (m_now (3 : Int32).toNatClampNeg)) ((7 * p1) + 4).toNatClampNeg (m_now (4 : Int32).toNatClampNeg)) ((7 * p1) + 5).toNatClampNeg (m_now (5 : Int32).toNatClampNeg))) H := hP
    have hD : va_D A (cMd mh m_kindr m_toldr m_nowr m_readToldr m_readCellr m_readKindr m_textr m_rowr m_seenCellr m_seenWayr m_seenCamer m_isKeptr m_keptr cy.1 cy.2.2.1 m_marbles m_kind m_told m_now m_readTold m_readCell m_readKind m_text m_length m_at m_faultAt m_there m_stopped m_acts m_next m_row m_bestRow m_seen m_seenCell m_seenWay m_seenCame m_seed (upd m_isKept p1.toNatClampNeg (vp_nar .boolean 1)) (upd (upd (upd (upd (upd (upd m_kept ((7 * p1) + 0).toNatClampNeg (m_now (0 : Int32).toNatClampNeg)) ((7 * p1) + 1).toNatClampNeg (m_now (1 : Int32).toNatClampNeg)) ((7 * p1) + 2).toNatClampNeg (m_now (2 : Int32).toNatClampNeg)) ((7 * p1) + 3).toNatClampNeg (m_now (3 : Int32).toNatClampNeg)) ((7 * p1) + 4).toNatClampNeg (m_now (4 : Int32).toNatClampNeg)) ((7 * p1) + 5).toNatClampNeg (m_now (5 : Int32).toNatClampNeg))) := hD
    refine lv_iinc (v := 6) (lv' := [(2, .int 6), (0, .ref mh), (1, .int p1)]) hx hb dX7_keep_44 hl (k := 0) rfl (by decide) (by decide) rfl (fun ls hl => ?_)
    refine lv_goto (tgt := 21) hx hb dX7_keep_47 (by decide) ?_
    refine lv_iload_n hx hb dX7_keep_21 rfl (lv_at hl 0 rfl) ?_
    refine lv_bipush (v := 7) hx hb dX7_keep_22 (by decide) ?_
    refine lv_icmp_ge (tgt := 50) hx hb dX7_keep_24 (by decide) (fun c16 => absurd c16 (by decide)) (fun _ => ?_)
    refine lv_aload_n hx hb dX7_keep_27 rfl (lv_at hl 1 rfl) ?_
    refine va_get (D := D) (ci := 7) (v := .ref m_keptr) (C := RX7) (T := TX7) (N := 24) hx hb hts hiX7 hown hE.1 hP 0 rfl rfl 23 (by decide) (hts (.fieldLink RX7 51 "TiltTrayModel" "kept" "[I") (by decide +kernel)) (fun _ h9 => h9) rfl dX7_keep_28 ?_
    refine lv_bipush (v := 7) hx hb dX7_keep_31 (by decide) ?_
    refine lv_iload_n hx hb dX7_keep_33 rfl (lv_at hl 2 rfl) ?_
    refine lv_imul hx hb dX7_keep_34 ?_
    refine lv_iload_n hx hb dX7_keep_35 rfl (lv_at hl 0 rfl) ?_
    refine lv_iadd hx hb dX7_keep_36 ?_
    refine lv_aload_n hx hb dX7_keep_37 rfl (lv_at hl 1 rfl) ?_
    refine va_get (D := D) (ci := 7) (v := .ref m_nowr) (C := RX7) (T := TX7) (N := 24) hx hb hts hiX7 hown hE.1 hP 0 rfl rfl 3 (by decide) (hts (.fieldLink RX7 16 "TiltTrayModel" "now" "[I") (by decide +kernel)) (fun _ h9 => h9) rfl dX7_keep_38 ?_
    refine lv_iload_n hx hb dX7_keep_41 rfl (lv_at hl 0 rfl) ?_
    refine va_iald hx hb hE.1 hP 3 0 rfl rfl (ix_in (by decide)) dX7_keep_42 ?_
    obtain ⟨g17, h⟩ := og h
    refine va_iast hx hb hE.1 hP hD hS 13 0 rfl rfl (ix_in g17) dX7_keep_43 (fun H locs hP hD hS => ?_)
    have hP : va_P D vwCl (cMd mh m_kindr m_toldr m_nowr m_readToldr m_readCellr m_readKindr m_textr m_rowr m_seenCellr m_seenWayr m_seenCamer m_isKeptr m_keptr cy.1 cy.2.2.1 m_marbles m_kind m_told m_now m_readTold m_readCell m_readKind m_text m_length m_at m_faultAt m_there m_stopped m_acts m_next m_row m_bestRow m_seen m_seenCell m_seenWay m_seenCame m_seed (upd m_isKept p1.toNatClampNeg (vp_nar .boolean 1)) (upd (upd (upd (upd (upd (upd (upd m_kept ((7 * p1) + 0).toNatClampNeg (m_now (0 : Int32).toNatClampNeg)) ((7 * p1) + 1).toNatClampNeg (m_now (1 : Int32).toNatClampNeg)) ((7 * p1) + 2).toNatClampNeg (m_now (2 : Int32).toNatClampNeg)) ((7 * p1) + 3).toNatClampNeg (m_now (3 : Int32).toNatClampNeg)) ((7 * p1) + 4).toNatClampNeg (m_now (4 : Int32).toNatClampNeg)) ((7 * p1) + 5).toNatClampNeg (m_now (5 : Int32).toNatClampNeg)) ((7 * p1) + 6).toNatClampNeg (m_now (6 : Int32).toNatClampNeg))) H := hP
    have hD : va_D A (cMd mh m_kindr m_toldr m_nowr m_readToldr m_readCellr m_readKindr m_textr m_rowr m_seenCellr m_seenWayr m_seenCamer m_isKeptr m_keptr cy.1 cy.2.2.1 m_marbles m_kind m_told m_now m_readTold m_readCell m_readKind m_text m_length m_at m_faultAt m_there m_stopped m_acts m_next m_row m_bestRow m_seen m_seenCell m_seenWay m_seenCame m_seed (upd m_isKept p1.toNatClampNeg (vp_nar .boolean 1)) (upd (upd (upd (upd (upd (upd (upd m_kept ((7 * p1) + 0).toNatClampNeg (m_now (0 : Int32).toNatClampNeg)) ((7 * p1) + 1).toNatClampNeg (m_now (1 : Int32).toNatClampNeg)) ((7 * p1) + 2).toNatClampNeg (m_now (2 : Int32).toNatClampNeg)) ((7 * p1) + 3).toNatClampNeg (m_now (3 : Int32).toNatClampNeg)) ((7 * p1) + 4).toNatClampNeg (m_now (4 : Int32).toNatClampNeg)) ((7 * p1) + 5).toNatClampNeg (m_now (5 : Int32).toNatClampNeg)) ((7 * p1) + 6).toNatClampNeg (m_now (6 : Int32).toNatClampNeg))) := hD
    refine lv_iinc (v := 7) (lv' := [(2, .int 7), (0, .ref mh), (1, .int p1)]) hx hb dX7_keep_44 hl (k := 0) rfl (by decide) (by decide) rfl (fun ls hl => ?_)
    refine lv_goto (tgt := 21) hx hb dX7_keep_47 (by decide) ?_
    refine lv_iload_n hx hb dX7_keep_21 rfl (lv_at hl 0 rfl) ?_
    refine lv_bipush (v := 7) hx hb dX7_keep_22 (by decide) ?_
    refine lv_icmp_ge (tgt := 50) hx hb dX7_keep_24 (by decide) (fun _ => ?_) (fun c18 => absurd c18 (by decide))
    refine lv_aload_n hx hb dX7_keep_50 rfl (lv_at hl 1 rfl) ?_
    refine va_get (D := D) (ci := 7) (v := .ref m_nowr) (C := RX7) (T := TX7) (N := 24) hx hb hts hiX7 hown hE.1 hP 0 rfl rfl 3 (by decide) (hts (.fieldLink RX7 16 "TiltTrayModel" "now" "[I") (by decide +kernel)) (fun _ h9 => h9) rfl dX7_keep_51 ?_
    refine lv_bipush (v := 6) hx hb dX7_keep_54 (by decide) ?_
    refine va_iald hx hb hE.1 hP 3 0 rfl rfl (ix_in (by decide)) dX7_keep_56 ?_
    obtain rfl := Option.some.inj h
    rw [hQ]; exact ct_iret hx hb hr hlocks hP hS rfl dX7_keep_57
  · have h := oit h c2
    refine lv_iconst (v := (-1)) hx hb dX7_keep_10 (by decide) ?_
    obtain rfl := Option.some.inj h
    rw [hQ]; exact ct_iret hx hb hr hlocks hP hS rfl dX7_keep_11

def tw_X7_again (m_now : Nat → Int32) (m_acts : Int32) (m_isKept : Nat → Int32) (m_kept : Nat → Int32) (p1 : Int32) : Option (Int32 × (Nat → Int32) × Int32) :=
  (tw_X7_in p1.toInt64 0 1).bind (fun q1 => if q1 = 0 then (some ((-1), m_now, m_acts)) else (if ix p1 2 = true then (if (m_isKept p1.toNatClampNeg) = 0 then (some ((-3), m_now, m_acts)) else (if ix ((7 * p1) + 0) 14 = true then (if ix ((7 * p1) + 1) 14 = true then (if ix ((7 * p1) + 2) 14 = true then (if ix ((7 * p1) + 3) 14 = true then (if ix ((7 * p1) + 4) 14 = true then (if ix ((7 * p1) + 5) 14 = true then (if ix ((7 * p1) + 6) 14 = true then (some ((upd (upd (upd (upd (upd (upd (upd m_now (0 : Int32).toNatClampNeg (m_kept ((7 * p1) + 0).toNatClampNeg)) (1 : Int32).toNatClampNeg (m_kept ((7 * p1) + 1).toNatClampNeg)) (2 : Int32).toNatClampNeg (m_kept ((7 * p1) + 2).toNatClampNeg)) (3 : Int32).toNatClampNeg (m_kept ((7 * p1) + 3).toNatClampNeg)) (4 : Int32).toNatClampNeg (m_kept ((7 * p1) + 4).toNatClampNeg)) (5 : Int32).toNatClampNeg (m_kept ((7 * p1) + 5).toNatClampNeg)) (6 : Int32).toNatClampNeg (m_kept ((7 * p1) + 6).toNatClampNeg)) (6 : Int32).toNatClampNeg, upd (upd (upd (upd (upd (upd (upd m_now (0 : Int32).toNatClampNeg (m_kept ((7 * p1) + 0).toNatClampNeg)) (1 : Int32).toNatClampNeg (m_kept ((7 * p1) + 1).toNatClampNeg)) (2 : Int32).toNatClampNeg (m_kept ((7 * p1) + 2).toNatClampNeg)) (3 : Int32).toNatClampNeg (m_kept ((7 * p1) + 3).toNatClampNeg)) (4 : Int32).toNatClampNeg (m_kept ((7 * p1) + 4).toNatClampNeg)) (5 : Int32).toNatClampNeg (m_kept ((7 * p1) + 5).toNatClampNeg)) (6 : Int32).toNatClampNeg (m_kept ((7 * p1) + 6).toNatClampNeg), 0)) else none) else none) else none) else none) else none) else none) else none)) else none))
set_option maxHeartbeats 4000000 in
set_option maxRecDepth 100000 in
theorem c_X7_again (l : Launch) (D : va_G) (cy : Cy) (mh : Nat) (m_kindr : Nat) (m_toldr : Nat) (m_nowr : Nat) (m_readToldr : Nat) (m_readCellr : Nat) (m_readKindr : Nat) (m_textr : Nat) (m_rowr : Nat) (m_seenCellr : Nat) (m_seenWayr : Nat) (m_seenCamer : Nat) (m_isKeptr : Nat) (m_keptr : Nat) (m_marbles : Int32) (m_kind : Nat → Int32) (m_told : Nat → Int32) (m_now : Nat → Int32) (m_readTold : Nat → Int32) (m_readCell : Nat → Int32) (m_readKind : Nat → Int32) (m_text : Nat → Int32) (m_length : Int32) (m_at : Int32) (m_faultAt : Int32) (m_there : Int32) (m_stopped : Int32) (m_acts : Int32) (m_next : Int32) (m_row : Nat → Int32) (m_bestRow : Int32) (m_seen : Int32) (m_seenCell : Nat → Int32) (m_seenWay : Nat → Int32) (m_seenCame : Nat → Int32) (m_seed : Int64) (m_isKept : Nat → Int32) (m_kept : Nat → Int32) (p1 : Int32) (res : Int32 × (Nat → Int32) × Int32) (h : tw_X7_again m_now m_acts m_isKept m_kept p1 = some res) : Ct l yX7_again wsX7_again 1 25 D cy [.ref mh, .int p1] (cMd mh m_kindr m_toldr m_nowr m_readToldr m_readCellr m_readKindr m_textr m_rowr m_seenCellr m_seenWayr m_seenCamer m_isKeptr m_keptr cy.1 cy.2.2.1 m_marbles m_kind m_told m_now m_readTold m_readCell m_readKind m_text m_length m_at m_faultAt m_there m_stopped m_acts m_next m_row m_bestRow m_seen m_seenCell m_seenWay m_seenCame m_seed m_isKept m_kept) (cMd mh m_kindr m_toldr m_nowr m_readToldr m_readCellr m_readKindr m_textr m_rowr m_seenCellr m_seenWayr m_seenCamer m_isKeptr m_keptr cy.1 cy.2.2.1 m_marbles m_kind m_told res.2.1 m_readTold m_readCell m_readKind m_text m_length m_at m_faultAt m_there m_stopped res.2.2 m_next m_row m_bestRow m_seen m_seenCell m_seenWay m_seenCame m_seed m_isKept m_kept) (some (.int res.1)) := by
  refine Ct.ofW (cc := cX7_again) (maxL := 3) (ret := (some .int)) (by decide) rfl (Nat.le_of_ble_eq_true rfl) ?_
  intro p e R s m args below meth c A Q ls hRf hRl hQ hx hb hr hml hts hown hlocks hE hP hD hS hA hl
  have hiX7 : ∀ w ∈ u_ws RX7 TX7 24, w ∈ wsX7_again := by decide +kernel
  have hl : lv_has ls 3 [(0, .ref mh), (1, .int p1)] := hl
  rw [tw_X7_again] at h
  refine lv_iload_n hx hb dX7_again_0 rfl (lv_at hl 1 rfl) ?_
  refine lv_i2l hx hb dX7_again_1 rfl ?_
  refine lv_lconst (v := 0) hx hb dX7_again_2 (by decide) ?_
  refine lv_lconst (v := 1) hx hb dX7_again_3 (by decide) ?_
  obtain ⟨q1, hq1, h⟩ := ob h
  refine kS (As := [.long p1.toInt64, .long 0, .long 1]) (rest := []) (w2 := cMd mh m_kindr m_toldr m_nowr m_readToldr m_readCellr m_readKindr m_textr m_rowr m_seenCellr m_seenWayr m_seenCamer m_isKeptr m_keptr cy.1 cy.2.2.1 m_marbles m_kind m_told m_now m_readTold m_readCell m_readKind m_text m_length m_at m_faultAt m_there m_stopped m_acts m_next m_row m_bestRow m_seen m_seenCell m_seenWay m_seenCame m_seed m_isKept m_kept) (n := 3) ⟨hx, hb, hml, hown, hts⟩ (c_X7_in l D cy p1.toInt64 0 1 q1 hq1) gX7_again_X7_in rfl (by decide +kernel) ⟨by rw [hRf]; exact Nat.le_of_ble_eq_true rfl, by rw [hRl]; exact Nat.le_of_ble_eq_true rfl⟩ hE hP hD hS hA [] rfl rfl rfl rfl rfl hl.1 rfl (Nat.le_of_ble_eq_true rfl) dX7_again_4 ⟨Nat.zero_le _, Nat.zero_le _⟩ (fun H locs hP hD hS => ?_)
  refine lv_if_ne (tgt := 12) hx hb dX7_again_7 (by decide) (fun c2 => ?_) (fun c2 => ?_)
  · have h := oif h c2
    refine lv_aload_n hx hb dX7_again_12 rfl (lv_at hl 0 rfl) ?_
    refine va_get (D := D) (ci := 7) (v := .ref m_isKeptr) (C := RX7) (T := TX7) (N := 24) hx hb hts hiX7 hown hE.1 hP 0 rfl rfl 22 (by decide) (hts (.fieldLink RX7 47 "TiltTrayModel" "isKept" "[Z") (by decide +kernel)) (fun _ h9 => h9) rfl dX7_again_13 ?_
    refine lv_iload_n hx hb dX7_again_16 rfl (lv_at hl 1 rfl) ?_
    obtain ⟨g3, h⟩ := og h
    refine va_zald hx hb hE.1 hP 12 2 rfl rfl (ix_in g3) dX7_again_17 ?_
    refine lv_if_ne (tgt := 24) hx hb dX7_again_18 (by decide) (fun c4 => ?_) (fun c4 => ?_)
    · have h := oif h c4
      refine lv_iconst (v := 0) hx hb dX7_again_24 (by decide) ?_
      refine lv_istore_n (lv' := [(2, .int 0), (0, .ref mh), (1, .int p1)]) hx hb dX7_again_25 rfl hl (by decide) rfl (fun ls hl => ?_)
      refine lv_iload_n hx hb dX7_again_26 rfl (lv_at hl 0 rfl) ?_
      refine lv_bipush (v := 7) hx hb dX7_again_27 (by decide) ?_
      refine lv_icmp_ge (tgt := 55) hx hb dX7_again_29 (by decide) (fun c5 => absurd c5 (by decide)) (fun _ => ?_)
      refine lv_aload_n hx hb dX7_again_32 rfl (lv_at hl 1 rfl) ?_
      refine va_get (D := D) (ci := 7) (v := .ref m_nowr) (C := RX7) (T := TX7) (N := 24) hx hb hts hiX7 hown hE.1 hP 0 rfl rfl 3 (by decide) (hts (.fieldLink RX7 16 "TiltTrayModel" "now" "[I") (by decide +kernel)) (fun _ h9 => h9) rfl dX7_again_33 ?_
      refine lv_iload_n hx hb dX7_again_36 rfl (lv_at hl 0 rfl) ?_
      refine lv_aload_n hx hb dX7_again_37 rfl (lv_at hl 1 rfl) ?_
      refine va_get (D := D) (ci := 7) (v := .ref m_keptr) (C := RX7) (T := TX7) (N := 24) hx hb hts hiX7 hown hE.1 hP 0 rfl rfl 23 (by decide) (hts (.fieldLink RX7 51 "TiltTrayModel" "kept" "[I") (by decide +kernel)) (fun _ h9 => h9) rfl dX7_again_38 ?_
      refine lv_bipush (v := 7) hx hb dX7_again_41 (by decide) ?_
      refine lv_iload_n hx hb dX7_again_43 rfl (lv_at hl 2 rfl) ?_
      refine lv_imul hx hb dX7_again_44 ?_
      refine lv_iload_n hx hb dX7_again_45 rfl (lv_at hl 0 rfl) ?_
      refine lv_iadd hx hb dX7_again_46 ?_
      obtain ⟨g6, h⟩ := og h
      refine va_iald hx hb hE.1 hP 13 0 rfl rfl (ix_in g6) dX7_again_47 ?_
      refine va_iast hx hb hE.1 hP hD hS 3 0 rfl rfl (ix_in (by decide)) dX7_again_48 (fun H locs hP hD hS => ?_)
      have hP : va_P D vwCl (cMd mh m_kindr m_toldr m_nowr m_readToldr m_readCellr m_readKindr m_textr m_rowr m_seenCellr m_seenWayr m_seenCamer m_isKeptr m_keptr cy.1 cy.2.2.1 m_marbles m_kind m_told (upd m_now (0 : Int32).toNatClampNeg (m_kept ((7 * p1) + 0).toNatClampNeg)) m_readTold m_readCell m_readKind m_text m_length m_at m_faultAt m_there m_stopped m_acts m_next m_row m_bestRow m_seen m_seenCell m_seenWay m_seenCame m_seed m_isKept m_kept) H := hP
      have hD : va_D A (cMd mh m_kindr m_toldr m_nowr m_readToldr m_readCellr m_readKindr m_textr m_rowr m_seenCellr m_seenWayr m_seenCamer m_isKeptr m_keptr cy.1 cy.2.2.1 m_marbles m_kind m_told (upd m_now (0 : Int32).toNatClampNeg (m_kept ((7 * p1) + 0).toNatClampNeg)) m_readTold m_readCell m_readKind m_text m_length m_at m_faultAt m_there m_stopped m_acts m_next m_row m_bestRow m_seen m_seenCell m_seenWay m_seenCame m_seed m_isKept m_kept) := hD
      refine lv_iinc (v := 1) (lv' := [(2, .int 1), (0, .ref mh), (1, .int p1)]) hx hb dX7_again_49 hl (k := 0) rfl (by decide) (by decide) rfl (fun ls hl => ?_)
      refine lv_goto (tgt := 26) hx hb dX7_again_52 (by decide) ?_
      refine lv_iload_n hx hb dX7_again_26 rfl (lv_at hl 0 rfl) ?_
      refine lv_bipush (v := 7) hx hb dX7_again_27 (by decide) ?_
      refine lv_icmp_ge (tgt := 55) hx hb dX7_again_29 (by decide) (fun c7 => absurd c7 (by decide)) (fun _ => ?_)
      refine lv_aload_n hx hb dX7_again_32 rfl (lv_at hl 1 rfl) ?_
      refine va_get (D := D) (ci := 7) (v := .ref m_nowr) (C := RX7) (T := TX7) (N := 24) hx hb hts hiX7 hown hE.1 hP 0 rfl rfl 3 (by decide) (hts (.fieldLink RX7 16 "TiltTrayModel" "now" "[I") (by decide +kernel)) (fun _ h9 => h9) rfl dX7_again_33 ?_
      refine lv_iload_n hx hb dX7_again_36 rfl (lv_at hl 0 rfl) ?_
      refine lv_aload_n hx hb dX7_again_37 rfl (lv_at hl 1 rfl) ?_
      refine va_get (D := D) (ci := 7) (v := .ref m_keptr) (C := RX7) (T := TX7) (N := 24) hx hb hts hiX7 hown hE.1 hP 0 rfl rfl 23 (by decide) (hts (.fieldLink RX7 51 "TiltTrayModel" "kept" "[I") (by decide +kernel)) (fun _ h9 => h9) rfl dX7_again_38 ?_
      refine lv_bipush (v := 7) hx hb dX7_again_41 (by decide) ?_
      refine lv_iload_n hx hb dX7_again_43 rfl (lv_at hl 2 rfl) ?_
      refine lv_imul hx hb dX7_again_44 ?_
      refine lv_iload_n hx hb dX7_again_45 rfl (lv_at hl 0 rfl) ?_
      refine lv_iadd hx hb dX7_again_46 ?_
      obtain ⟨g8, h⟩ := og h
      refine va_iald hx hb hE.1 hP 13 0 rfl rfl (ix_in g8) dX7_again_47 ?_
      refine va_iast hx hb hE.1 hP hD hS 3 0 rfl rfl (ix_in (by decide)) dX7_again_48 (fun H locs hP hD hS => ?_)
      have hP : va_P D vwCl (cMd mh m_kindr m_toldr m_nowr m_readToldr m_readCellr m_readKindr m_textr m_rowr m_seenCellr m_seenWayr m_seenCamer m_isKeptr m_keptr cy.1 cy.2.2.1 m_marbles m_kind m_told (upd (upd m_now (0 : Int32).toNatClampNeg (m_kept ((7 * p1) + 0).toNatClampNeg)) (1 : Int32).toNatClampNeg (m_kept ((7 * p1) + 1).toNatClampNeg)) m_readTold m_readCell m_readKind m_text m_length m_at m_faultAt m_there m_stopped m_acts m_next m_row m_bestRow m_seen m_seenCell m_seenWay m_seenCame m_seed m_isKept m_kept) H := hP
      have hD : va_D A (cMd mh m_kindr m_toldr m_nowr m_readToldr m_readCellr m_readKindr m_textr m_rowr m_seenCellr m_seenWayr m_seenCamer m_isKeptr m_keptr cy.1 cy.2.2.1 m_marbles m_kind m_told (upd (upd m_now (0 : Int32).toNatClampNeg (m_kept ((7 * p1) + 0).toNatClampNeg)) (1 : Int32).toNatClampNeg (m_kept ((7 * p1) + 1).toNatClampNeg)) m_readTold m_readCell m_readKind m_text m_length m_at m_faultAt m_there m_stopped m_acts m_next m_row m_bestRow m_seen m_seenCell m_seenWay m_seenCame m_seed m_isKept m_kept) := hD
      refine lv_iinc (v := 2) (lv' := [(2, .int 2), (0, .ref mh), (1, .int p1)]) hx hb dX7_again_49 hl (k := 0) rfl (by decide) (by decide) rfl (fun ls hl => ?_)
      refine lv_goto (tgt := 26) hx hb dX7_again_52 (by decide) ?_
      refine lv_iload_n hx hb dX7_again_26 rfl (lv_at hl 0 rfl) ?_
      refine lv_bipush (v := 7) hx hb dX7_again_27 (by decide) ?_
      refine lv_icmp_ge (tgt := 55) hx hb dX7_again_29 (by decide) (fun c9 => absurd c9 (by decide)) (fun _ => ?_)
      refine lv_aload_n hx hb dX7_again_32 rfl (lv_at hl 1 rfl) ?_
      refine va_get (D := D) (ci := 7) (v := .ref m_nowr) (C := RX7) (T := TX7) (N := 24) hx hb hts hiX7 hown hE.1 hP 0 rfl rfl 3 (by decide) (hts (.fieldLink RX7 16 "TiltTrayModel" "now" "[I") (by decide +kernel)) (fun _ h9 => h9) rfl dX7_again_33 ?_
      refine lv_iload_n hx hb dX7_again_36 rfl (lv_at hl 0 rfl) ?_
      refine lv_aload_n hx hb dX7_again_37 rfl (lv_at hl 1 rfl) ?_
      refine va_get (D := D) (ci := 7) (v := .ref m_keptr) (C := RX7) (T := TX7) (N := 24) hx hb hts hiX7 hown hE.1 hP 0 rfl rfl 23 (by decide) (hts (.fieldLink RX7 51 "TiltTrayModel" "kept" "[I") (by decide +kernel)) (fun _ h9 => h9) rfl dX7_again_38 ?_
      refine lv_bipush (v := 7) hx hb dX7_again_41 (by decide) ?_
      refine lv_iload_n hx hb dX7_again_43 rfl (lv_at hl 2 rfl) ?_
      refine lv_imul hx hb dX7_again_44 ?_
      refine lv_iload_n hx hb dX7_again_45 rfl (lv_at hl 0 rfl) ?_
      refine lv_iadd hx hb dX7_again_46 ?_
      obtain ⟨g10, h⟩ := og h
      refine va_iald hx hb hE.1 hP 13 0 rfl rfl (ix_in g10) dX7_again_47 ?_
      refine va_iast hx hb hE.1 hP hD hS 3 0 rfl rfl (ix_in (by decide)) dX7_again_48 (fun H locs hP hD hS => ?_)
      have hP : va_P D vwCl (cMd mh m_kindr m_toldr m_nowr m_readToldr m_readCellr m_readKindr m_textr m_rowr m_seenCellr m_seenWayr m_seenCamer m_isKeptr m_keptr cy.1 cy.2.2.1 m_marbles m_kind m_told (upd (upd (upd m_now (0 : Int32).toNatClampNeg (m_kept ((7 * p1) + 0).toNatClampNeg)) (1 : Int32).toNatClampNeg (m_kept ((7 * p1) + 1).toNatClampNeg)) (2 : Int32).toNatClampNeg (m_kept ((7 * p1) + 2).toNatClampNeg)) m_readTold m_readCell m_readKind m_text m_length m_at m_faultAt m_there m_stopped m_acts m_next m_row m_bestRow m_seen m_seenCell m_seenWay m_seenCame m_seed m_isKept m_kept) H := hP
      have hD : va_D A (cMd mh m_kindr m_toldr m_nowr m_readToldr m_readCellr m_readKindr m_textr m_rowr m_seenCellr m_seenWayr m_seenCamer m_isKeptr m_keptr cy.1 cy.2.2.1 m_marbles m_kind m_told (upd (upd (upd m_now (0 : Int32).toNatClampNeg (m_kept ((7 * p1) + 0).toNatClampNeg)) (1 : Int32).toNatClampNeg (m_kept ((7 * p1) + 1).toNatClampNeg)) (2 : Int32).toNatClampNeg (m_kept ((7 * p1) + 2).toNatClampNeg)) m_readTold m_readCell m_readKind m_text m_length m_at m_faultAt m_there m_stopped m_acts m_next m_row m_bestRow m_seen m_seenCell m_seenWay m_seenCame m_seed m_isKept m_kept) := hD
      refine lv_iinc (v := 3) (lv' := [(2, .int 3), (0, .ref mh), (1, .int p1)]) hx hb dX7_again_49 hl (k := 0) rfl (by decide) (by decide) rfl (fun ls hl => ?_)
      refine lv_goto (tgt := 26) hx hb dX7_again_52 (by decide) ?_
      refine lv_iload_n hx hb dX7_again_26 rfl (lv_at hl 0 rfl) ?_
      refine lv_bipush (v := 7) hx hb dX7_again_27 (by decide) ?_
      refine lv_icmp_ge (tgt := 55) hx hb dX7_again_29 (by decide) (fun c11 => absurd c11 (by decide)) (fun _ => ?_)
      refine lv_aload_n hx hb dX7_again_32 rfl (lv_at hl 1 rfl) ?_
      refine va_get (D := D) (ci := 7) (v := .ref m_nowr) (C := RX7) (T := TX7) (N := 24) hx hb hts hiX7 hown hE.1 hP 0 rfl rfl 3 (by decide) (hts (.fieldLink RX7 16 "TiltTrayModel" "now" "[I") (by decide +kernel)) (fun _ h9 => h9) rfl dX7_again_33 ?_
      refine lv_iload_n hx hb dX7_again_36 rfl (lv_at hl 0 rfl) ?_
      refine lv_aload_n hx hb dX7_again_37 rfl (lv_at hl 1 rfl) ?_
      refine va_get (D := D) (ci := 7) (v := .ref m_keptr) (C := RX7) (T := TX7) (N := 24) hx hb hts hiX7 hown hE.1 hP 0 rfl rfl 23 (by decide) (hts (.fieldLink RX7 51 "TiltTrayModel" "kept" "[I") (by decide +kernel)) (fun _ h9 => h9) rfl dX7_again_38 ?_
      refine lv_bipush (v := 7) hx hb dX7_again_41 (by decide) ?_
      refine lv_iload_n hx hb dX7_again_43 rfl (lv_at hl 2 rfl) ?_
      refine lv_imul hx hb dX7_again_44 ?_
      refine lv_iload_n hx hb dX7_again_45 rfl (lv_at hl 0 rfl) ?_
      refine lv_iadd hx hb dX7_again_46 ?_
      obtain ⟨g12, h⟩ := og h
      refine va_iald hx hb hE.1 hP 13 0 rfl rfl (ix_in g12) dX7_again_47 ?_
      refine va_iast hx hb hE.1 hP hD hS 3 0 rfl rfl (ix_in (by decide)) dX7_again_48 (fun H locs hP hD hS => ?_)
      have hP : va_P D vwCl (cMd mh m_kindr m_toldr m_nowr m_readToldr m_readCellr m_readKindr m_textr m_rowr m_seenCellr m_seenWayr m_seenCamer m_isKeptr m_keptr cy.1 cy.2.2.1 m_marbles m_kind m_told (upd (upd (upd (upd m_now (0 : Int32).toNatClampNeg (m_kept ((7 * p1) + 0).toNatClampNeg)) (1 : Int32).toNatClampNeg (m_kept ((7 * p1) + 1).toNatClampNeg)) (2 : Int32).toNatClampNeg (m_kept ((7 * p1) + 2).toNatClampNeg)) (3 : Int32).toNatClampNeg (m_kept ((7 * p1) + 3).toNatClampNeg)) m_readTold m_readCell m_readKind m_text m_length m_at m_faultAt m_there m_stopped m_acts m_next m_row m_bestRow m_seen m_seenCell m_seenWay m_seenCame m_seed m_isKept m_kept) H := hP
      have hD : va_D A (cMd mh m_kindr m_toldr m_nowr m_readToldr m_readCellr m_readKindr m_textr m_rowr m_seenCellr m_seenWayr m_seenCamer m_isKeptr m_keptr cy.1 cy.2.2.1 m_marbles m_kind m_told (upd (upd (upd (upd m_now (0 : Int32).toNatClampNeg (m_kept ((7 * p1) + 0).toNatClampNeg)) (1 : Int32).toNatClampNeg (m_kept ((7 * p1) + 1).toNatClampNeg)) (2 : Int32).toNatClampNeg (m_kept ((7 * p1) + 2).toNatClampNeg)) (3 : Int32).toNatClampNeg (m_kept ((7 * p1) + 3).toNatClampNeg)) m_readTold m_readCell m_readKind m_text m_length m_at m_faultAt m_there m_stopped m_acts m_next m_row m_bestRow m_seen m_seenCell m_seenWay m_seenCame m_seed m_isKept m_kept) := hD
      refine lv_iinc (v := 4) (lv' := [(2, .int 4), (0, .ref mh), (1, .int p1)]) hx hb dX7_again_49 hl (k := 0) rfl (by decide) (by decide) rfl (fun ls hl => ?_)
      refine lv_goto (tgt := 26) hx hb dX7_again_52 (by decide) ?_
      refine lv_iload_n hx hb dX7_again_26 rfl (lv_at hl 0 rfl) ?_
      refine lv_bipush (v := 7) hx hb dX7_again_27 (by decide) ?_
      refine lv_icmp_ge (tgt := 55) hx hb dX7_again_29 (by decide) (fun c13 => absurd c13 (by decide)) (fun _ => ?_)
      refine lv_aload_n hx hb dX7_again_32 rfl (lv_at hl 1 rfl) ?_
      refine va_get (D := D) (ci := 7) (v := .ref m_nowr) (C := RX7) (T := TX7) (N := 24) hx hb hts hiX7 hown hE.1 hP 0 rfl rfl 3 (by decide) (hts (.fieldLink RX7 16 "TiltTrayModel" "now" "[I") (by decide +kernel)) (fun _ h9 => h9) rfl dX7_again_33 ?_
      refine lv_iload_n hx hb dX7_again_36 rfl (lv_at hl 0 rfl) ?_
      refine lv_aload_n hx hb dX7_again_37 rfl (lv_at hl 1 rfl) ?_
      refine va_get (D := D) (ci := 7) (v := .ref m_keptr) (C := RX7) (T := TX7) (N := 24) hx hb hts hiX7 hown hE.1 hP 0 rfl rfl 23 (by decide) (hts (.fieldLink RX7 51 "TiltTrayModel" "kept" "[I") (by decide +kernel)) (fun _ h9 => h9) rfl dX7_again_38 ?_
      refine lv_bipush (v := 7) hx hb dX7_again_41 (by decide) ?_
      refine lv_iload_n hx hb dX7_again_43 rfl (lv_at hl 2 rfl) ?_
      refine lv_imul hx hb dX7_again_44 ?_
      refine lv_iload_n hx hb dX7_again_45 rfl (lv_at hl 0 rfl) ?_
      refine lv_iadd hx hb dX7_again_46 ?_
      obtain ⟨g14, h⟩ := og h
      refine va_iald hx hb hE.1 hP 13 0 rfl rfl (ix_in g14) dX7_again_47 ?_
      refine va_iast hx hb hE.1 hP hD hS 3 0 rfl rfl (ix_in (by decide)) dX7_again_48 (fun H locs hP hD hS => ?_)
      have hP : va_P D vwCl (cMd mh m_kindr m_toldr m_nowr m_readToldr m_readCellr m_readKindr m_textr m_rowr m_seenCellr m_seenWayr m_seenCamer m_isKeptr m_keptr cy.1 cy.2.2.1 m_marbles m_kind m_told (upd (upd (upd (upd (upd m_now (0 : Int32).toNatClampNeg (m_kept ((7 * p1) + 0).toNatClampNeg)) (1 : Int32).toNatClampNeg (m_kept ((7 * p1) + 1).toNatClampNeg)) (2 : Int32).toNatClampNeg (m_kept ((7 * p1) + 2).toNatClampNeg)) (3 : Int32).toNatClampNeg (m_kept ((7 * p1) + 3).toNatClampNeg)) (4 : Int32).toNatClampNeg (m_kept ((7 * p1) + 4).toNatClampNeg)) m_readTold m_readCell m_readKind m_text m_length m_at m_faultAt m_there m_stopped m_acts m_next m_row m_bestRow m_seen m_seenCell m_seenWay m_seenCame m_seed m_isKept m_kept) H := hP
      have hD : va_D A (cMd mh m_kindr m_toldr m_nowr m_readToldr m_readCellr m_readKindr m_textr m_rowr m_seenCellr m_seenWayr m_seenCamer m_isKeptr m_keptr cy.1 cy.2.2.1 m_marbles m_kind m_told (upd (upd (upd (upd (upd m_now (0 : Int32).toNatClampNeg (m_kept ((7 * p1) + 0).toNatClampNeg)) (1 : Int32).toNatClampNeg (m_kept ((7 * p1) + 1).toNatClampNeg)) (2 : Int32).toNatClampNeg (m_kept ((7 * p1) + 2).toNatClampNeg)) (3 : Int32).toNatClampNeg (m_kept ((7 * p1) + 3).toNatClampNeg)) (4 : Int32).toNatClampNeg (m_kept ((7 * p1) + 4).toNatClampNeg)) m_readTold m_readCell m_readKind m_text m_length m_at m_faultAt m_there m_stopped m_acts m_next m_row m_bestRow m_seen m_seenCell m_seenWay m_seenCame m_seed m_isKept m_kept) := hD
      refine lv_iinc (v := 5) (lv' := [(2, .int 5), (0, .ref mh), (1, .int p1)]) hx hb dX7_again_49 hl (k := 0) rfl (by decide) (by decide) rfl (fun ls hl => ?_)
      refine lv_goto (tgt := 26) hx hb dX7_again_52 (by decide) ?_
      refine lv_iload_n hx hb dX7_again_26 rfl (lv_at hl 0 rfl) ?_
      refine lv_bipush (v := 7) hx hb dX7_again_27 (by decide) ?_
      refine lv_icmp_ge (tgt := 55) hx hb dX7_again_29 (by decide) (fun c15 => absurd c15 (by decide)) (fun _ => ?_)
      refine lv_aload_n hx hb dX7_again_32 rfl (lv_at hl 1 rfl) ?_
      refine va_get (D := D) (ci := 7) (v := .ref m_nowr) (C := RX7) (T := TX7) (N := 24) hx hb hts hiX7 hown hE.1 hP 0 rfl rfl 3 (by decide) (hts (.fieldLink RX7 16 "TiltTrayModel" "now" "[I") (by decide +kernel)) (fun _ h9 => h9) rfl dX7_again_33 ?_
      refine lv_iload_n hx hb dX7_again_36 rfl (lv_at hl 0 rfl) ?_
      refine lv_aload_n hx hb dX7_again_37 rfl (lv_at hl 1 rfl) ?_
      refine va_get (D := D) (ci := 7) (v := .ref m_keptr) (C := RX7) (T := TX7) (N := 24) hx hb hts hiX7 hown hE.1 hP 0 rfl rfl 23 (by decide) (hts (.fieldLink RX7 51 "TiltTrayModel" "kept" "[I") (by decide +kernel)) (fun _ h9 => h9) rfl dX7_again_38 ?_
      refine lv_bipush (v := 7) hx hb dX7_again_41 (by decide) ?_
      refine lv_iload_n hx hb dX7_again_43 rfl (lv_at hl 2 rfl) ?_
      refine lv_imul hx hb dX7_again_44 ?_
      refine lv_iload_n hx hb dX7_again_45 rfl (lv_at hl 0 rfl) ?_
      refine lv_iadd hx hb dX7_again_46 ?_
      obtain ⟨g16, h⟩ := og h
      refine va_iald hx hb hE.1 hP 13 0 rfl rfl (ix_in g16) dX7_again_47 ?_
      refine va_iast hx hb hE.1 hP hD hS 3 0 rfl rfl (ix_in (by decide)) dX7_again_48 (fun H locs hP hD hS => ?_)
      have hP : va_P D vwCl (cMd mh m_kindr m_toldr m_nowr m_readToldr m_readCellr m_readKindr m_textr m_rowr m_seenCellr m_seenWayr m_seenCamer m_isKeptr m_keptr cy.1 cy.2.2.1 m_marbles m_kind m_told (upd (upd (upd (upd (upd (upd m_now (0 : Int32).toNatClampNeg (m_kept ((7 * p1) + 0).toNatClampNeg)) (1 : Int32).toNatClampNeg (m_kept ((7 * p1) + 1).toNatClampNeg)) (2 : Int32).toNatClampNeg (m_kept ((7 * p1) + 2).toNatClampNeg)) (3 : Int32).toNatClampNeg (m_kept ((7 * p1) + 3).toNatClampNeg)) (4 : Int32).toNatClampNeg (m_kept ((7 * p1) + 4).toNatClampNeg)) (5 : Int32).toNatClampNeg (m_kept ((7 * p1) + 5).toNatClampNeg)) m_readTold m_readCell m_readKind m_text m_length m_at m_faultAt m_there m_stopped m_acts m_next m_row m_bestRow m_seen m_seenCell m_seenWay m_seenCame m_seed m_isKept m_kept) H := hP
      have hD : va_D A (cMd mh m_kindr m_toldr m_nowr m_readToldr m_readCellr m_readKindr m_textr m_rowr m_seenCellr m_seenWayr m_seenCamer m_isKeptr m_keptr cy.1 cy.2.2.1 m_marbles m_kind m_told (upd (upd (upd (upd (upd (upd m_now (0 : Int32).toNatClampNeg (m_kept ((7 * p1) + 0).toNatClampNeg)) (1 : Int32).toNatClampNeg (m_kept ((7 * p1) + 1).toNatClampNeg)) (2 : Int32).toNatClampNeg (m_kept ((7 * p1) + 2).toNatClampNeg)) (3 : Int32).toNatClampNeg (m_kept ((7 * p1) + 3).toNatClampNeg)) (4 : Int32).toNatClampNeg (m_kept ((7 * p1) + 4).toNatClampNeg)) (5 : Int32).toNatClampNeg (m_kept ((7 * p1) + 5).toNatClampNeg)) m_readTold m_readCell m_readKind m_text m_length m_at m_faultAt m_there m_stopped m_acts m_next m_row m_bestRow m_seen m_seenCell m_seenWay m_seenCame m_seed m_isKept m_kept) := hD
      refine lv_iinc (v := 6) (lv' := [(2, .int 6), (0, .ref mh), (1, .int p1)]) hx hb dX7_again_49 hl (k := 0) rfl (by decide) (by decide) rfl (fun ls hl => ?_)
      refine lv_goto (tgt := 26) hx hb dX7_again_52 (by decide) ?_
      refine lv_iload_n hx hb dX7_again_26 rfl (lv_at hl 0 rfl) ?_
      refine lv_bipush (v := 7) hx hb dX7_again_27 (by decide) ?_
      refine lv_icmp_ge (tgt := 55) hx hb dX7_again_29 (by decide) (fun c17 => absurd c17 (by decide)) (fun _ => ?_)
      refine lv_aload_n hx hb dX7_again_32 rfl (lv_at hl 1 rfl) ?_
      refine va_get (D := D) (ci := 7) (v := .ref m_nowr) (C := RX7) (T := TX7) (N := 24) hx hb hts hiX7 hown hE.1 hP 0 rfl rfl 3 (by decide) (hts (.fieldLink RX7 16 "TiltTrayModel" "now" "[I") (by decide +kernel)) (fun _ h9 => h9) rfl dX7_again_33 ?_
      refine lv_iload_n hx hb dX7_again_36 rfl (lv_at hl 0 rfl) ?_
      refine lv_aload_n hx hb dX7_again_37 rfl (lv_at hl 1 rfl) ?_
      refine va_get (D := D) (ci := 7) (v := .ref m_keptr) (C := RX7) (T := TX7) (N := 24) hx hb hts hiX7 hown hE.1 hP 0 rfl rfl 23 (by decide) (hts (.fieldLink RX7 51 "TiltTrayModel" "kept" "[I") (by decide +kernel)) (fun _ h9 => h9) rfl dX7_again_38 ?_
      refine lv_bipush (v := 7) hx hb dX7_again_41 (by decide) ?_
      refine lv_iload_n hx hb dX7_again_43 rfl (lv_at hl 2 rfl) ?_
      refine lv_imul hx hb dX7_again_44 ?_
      refine lv_iload_n hx hb dX7_again_45 rfl (lv_at hl 0 rfl) ?_
      refine lv_iadd hx hb dX7_again_46 ?_
      obtain ⟨g18, h⟩ := og h
      refine va_iald hx hb hE.1 hP 13 0 rfl rfl (ix_in g18) dX7_again_47 ?_
      refine va_iast hx hb hE.1 hP hD hS 3 0 rfl rfl (ix_in (by decide)) dX7_again_48 (fun H locs hP hD hS => ?_)
      have hP : va_P D vwCl (cMd mh m_kindr m_toldr m_nowr m_readToldr m_readCellr m_readKindr m_textr m_rowr m_seenCellr m_seenWayr m_seenCamer m_isKeptr m_keptr cy.1 cy.2.2.1 m_marbles m_kind m_told (upd (upd (upd (upd (upd (upd (upd m_now (0 : Int32).toNatClampNeg (m_kept ((7 * p1) + 0).toNatClampNeg)) (1 : Int32).toNatClampNeg (m_kept ((7 * p1) + 1).toNatClampNeg)) (2 : Int32).toNatClampNeg (m_kept ((7 * p1) + 2).toNatClampNeg)) (3 : Int32).toNatClampNeg (m_kept ((7 * p1) + 3).toNatClampNeg)) (4 : Int32).toNatClampNeg (m_kept ((7 * p1) + 4).toNatClampNeg)) (5 : Int32).toNatClampNeg (m_kept ((7 * p1) + 5).toNatClampNeg)) (6 : Int32).toNatClampNeg (m_kept ((7 * p1) + 6).toNatClampNeg)) m_readTold m_readCell m_readKind m_text m_length m_at m_faultAt m_there m_stopped m_acts m_next m_row m_bestRow m_seen m_seenCell m_seenWay m_seenCame m_seed m_isKept m_kept) H := hP
      have hD : va_D A (cMd mh m_kindr m_toldr m_nowr m_readToldr m_readCellr m_readKindr m_textr m_rowr m_seenCellr m_seenWayr m_seenCamer m_isKeptr m_keptr cy.1 cy.2.2.1 m_marbles m_kind m_told (upd (upd (upd (upd (upd (upd (upd m_now (0 : Int32).toNatClampNeg (m_kept ((7 * p1) + 0).toNatClampNeg)) (1 : Int32).toNatClampNeg (m_kept ((7 * p1) + 1).toNatClampNeg)) (2 : Int32).toNatClampNeg (m_kept ((7 * p1) + 2).toNatClampNeg)) (3 : Int32).toNatClampNeg (m_kept ((7 * p1) + 3).toNatClampNeg)) (4 : Int32).toNatClampNeg (m_kept ((7 * p1) + 4).toNatClampNeg)) (5 : Int32).toNatClampNeg (m_kept ((7 * p1) + 5).toNatClampNeg)) (6 : Int32).toNatClampNeg (m_kept ((7 * p1) + 6).toNatClampNeg)) m_readTold m_readCell m_readKind m_text m_length m_at m_faultAt m_there m_stopped m_acts m_next m_row m_bestRow m_seen m_seenCell m_seenWay m_seenCame m_seed m_isKept m_kept) := hD
      refine lv_iinc (v := 7) (lv' := [(2, .int 7), (0, .ref mh), (1, .int p1)]) hx hb dX7_again_49 hl (k := 0) rfl (by decide) (by decide) rfl (fun ls hl => ?_)
      refine lv_goto (tgt := 26) hx hb dX7_again_52 (by decide) ?_
      refine lv_iload_n hx hb dX7_again_26 rfl (lv_at hl 0 rfl) ?_
      refine lv_bipush (v := 7) hx hb dX7_again_27 (by decide) ?_
      refine lv_icmp_ge (tgt := 55) hx hb dX7_again_29 (by decide) (fun _ => ?_) (fun c19 => absurd c19 (by decide))
      refine lv_aload_n hx hb dX7_again_55 rfl (lv_at hl 1 rfl) ?_
      refine lv_iconst (v := 0) hx hb dX7_again_56 (by decide) ?_
      refine va_put (D := D) (ci := 7) (v := .int 0) (ty := .int) (C := RX7) (T := TX7) (N := 24) hx hb hts hiX7 tyX7 tyX7_ok nmX7 hown hE.1 hP hD hS 0 rfl rfl 13 (by decide) (hts (.fieldLink RX7 95 "TiltTrayModel" "acts" "I") (by decide +kernel)) (fun _ h9 => h9) rfl (by decide +kernel) rfl rfl (Nat.le_of_ble_eq_true rfl) dX7_again_57 (fun H locs hP hD hS => ?_)
      have hP : va_P D vwCl (cMd mh m_kindr m_toldr m_nowr m_readToldr m_readCellr m_readKindr m_textr m_rowr m_seenCellr m_seenWayr m_seenCamer m_isKeptr m_keptr cy.1 cy.2.2.1 m_marbles m_kind m_told (upd (upd (upd (upd (upd (upd (upd m_now (0 : Int32).toNatClampNeg (m_kept ((7 * p1) + 0).toNatClampNeg)) (1 : Int32).toNatClampNeg (m_kept ((7 * p1) + 1).toNatClampNeg)) (2 : Int32).toNatClampNeg (m_kept ((7 * p1) + 2).toNatClampNeg)) (3 : Int32).toNatClampNeg (m_kept ((7 * p1) + 3).toNatClampNeg)) (4 : Int32).toNatClampNeg (m_kept ((7 * p1) + 4).toNatClampNeg)) (5 : Int32).toNatClampNeg (m_kept ((7 * p1) + 5).toNatClampNeg)) (6 : Int32).toNatClampNeg (m_kept ((7 * p1) + 6).toNatClampNeg)) m_readTold m_readCell m_readKind m_text m_length m_at m_faultAt m_there m_stopped 0 m_next m_row m_bestRow m_seen m_seenCell m_seenWay m_seenCame m_seed m_isKept m_kept) H := hP
      have hD : va_D A (cMd mh m_kindr m_toldr m_nowr m_readToldr m_readCellr m_readKindr m_textr m_rowr m_seenCellr m_seenWayr m_seenCamer m_isKeptr m_keptr cy.1 cy.2.2.1 m_marbles m_kind m_told (upd (upd (upd (upd (upd (upd (upd m_now (0 : Int32).toNatClampNeg (m_kept ((7 * p1) + 0).toNatClampNeg)) (1 : Int32).toNatClampNeg (m_kept ((7 * p1) + 1).toNatClampNeg)) (2 : Int32).toNatClampNeg (m_kept ((7 * p1) + 2).toNatClampNeg)) (3 : Int32).toNatClampNeg (m_kept ((7 * p1) + 3).toNatClampNeg)) (4 : Int32).toNatClampNeg (m_kept ((7 * p1) + 4).toNatClampNeg)) (5 : Int32).toNatClampNeg (m_kept ((7 * p1) + 5).toNatClampNeg)) (6 : Int32).toNatClampNeg (m_kept ((7 * p1) + 6).toNatClampNeg)) m_readTold m_readCell m_readKind m_text m_length m_at m_faultAt m_there m_stopped 0 m_next m_row m_bestRow m_seen m_seenCell m_seenWay m_seenCame m_seed m_isKept m_kept) := hD
      refine lv_aload_n hx hb dX7_again_60 rfl (lv_at hl 1 rfl) ?_
      refine va_get (D := D) (ci := 7) (v := .ref m_nowr) (C := RX7) (T := TX7) (N := 24) hx hb hts hiX7 hown hE.1 hP 0 rfl rfl 3 (by decide) (hts (.fieldLink RX7 16 "TiltTrayModel" "now" "[I") (by decide +kernel)) (fun _ h9 => h9) rfl dX7_again_61 ?_
      refine lv_bipush (v := 6) hx hb dX7_again_64 (by decide) ?_
      refine va_iald hx hb hE.1 hP 3 0 rfl rfl (ix_in (by decide)) dX7_again_66 ?_
      obtain rfl := Option.some.inj h
      rw [hQ]; exact ct_iret hx hb hr hlocks hP hS rfl dX7_again_67
    · have h := oit h c4
      refine lv_bipush (v := (-3)) hx hb dX7_again_21 (by decide) ?_
      obtain rfl := Option.some.inj h
      rw [hQ]; exact ct_iret hx hb hr hlocks hP hS rfl dX7_again_23
  · have h := oit h c2
    refine lv_iconst (v := (-1)) hx hb dX7_again_10 (by decide) ?_
    obtain rfl := Option.some.inj h
    rw [hQ]; exact ct_iret hx hb hr hlocks hP hS rfl dX7_again_11

def tw_X7_lying_4 (m_marbles : Int32) (m_now : Nat → Int32) : Nat → Int32 → Int32 → Option (Int32)
  | 0, _, _ => none
  | n + 1, x1, x2 =>
    if m_marbles ≤ x2 then (some (x1)) else (if ix x2 14 = true then (if 100 ≤ (m_now x2.toNatClampNeg) then ((tw_X7_lying_4 m_marbles m_now n) (x1 ||| 0) (x2 + 1)) else (if ix x2 14 = true then ((tw_X7_lying_4 m_marbles m_now n) (x1 ||| (1 <<< ((m_now x2.toNatClampNeg) &&& 31))) (x2 + 1)) else none)) else none)
def tw_X7_lying (m_marbles : Int32) (m_now : Nat → Int32) : Option (Int32) :=
  tw_X7_lying_4 m_marbles m_now 6 0 0
set_option maxHeartbeats 4000000 in
set_option maxRecDepth 100000 in
theorem c_X7_lying (l : Launch) (D : va_G) (cy : Cy) (mh : Nat) (m_kindr : Nat) (m_toldr : Nat) (m_nowr : Nat) (m_readToldr : Nat) (m_readCellr : Nat) (m_readKindr : Nat) (m_textr : Nat) (m_rowr : Nat) (m_seenCellr : Nat) (m_seenWayr : Nat) (m_seenCamer : Nat) (m_isKeptr : Nat) (m_keptr : Nat) (m_marbles : Int32) (m_kind : Nat → Int32) (m_told : Nat → Int32) (m_now : Nat → Int32) (m_readTold : Nat → Int32) (m_readCell : Nat → Int32) (m_readKind : Nat → Int32) (m_text : Nat → Int32) (m_length : Int32) (m_at : Int32) (m_faultAt : Int32) (m_there : Int32) (m_stopped : Int32) (m_acts : Int32) (m_next : Int32) (m_row : Nat → Int32) (m_bestRow : Int32) (m_seen : Int32) (m_seenCell : Nat → Int32) (m_seenWay : Nat → Int32) (m_seenCame : Nat → Int32) (m_seed : Int64) (m_isKept : Nat → Int32) (m_kept : Nat → Int32) (res : Int32) (h : tw_X7_lying m_marbles m_now = some res) : Ct l yX7_lying wsX7_lying 0 0 D cy [.ref mh] (cMd mh m_kindr m_toldr m_nowr m_readToldr m_readCellr m_readKindr m_textr m_rowr m_seenCellr m_seenWayr m_seenCamer m_isKeptr m_keptr cy.1 cy.2.2.1 m_marbles m_kind m_told m_now m_readTold m_readCell m_readKind m_text m_length m_at m_faultAt m_there m_stopped m_acts m_next m_row m_bestRow m_seen m_seenCell m_seenWay m_seenCame m_seed m_isKept m_kept) (cMd mh m_kindr m_toldr m_nowr m_readToldr m_readCellr m_readKindr m_textr m_rowr m_seenCellr m_seenWayr m_seenCamer m_isKeptr m_keptr cy.1 cy.2.2.1 m_marbles m_kind m_told m_now m_readTold m_readCell m_readKind m_text m_length m_at m_faultAt m_there m_stopped m_acts m_next m_row m_bestRow m_seen m_seenCell m_seenWay m_seenCame m_seed m_isKept m_kept) (some (.int res)) := by
  refine Ct.ofW (cc := cX7_lying) (maxL := 3) (ret := (some .int)) (by decide) rfl (Nat.le_of_ble_eq_true rfl) ?_
  intro p e R s m args below meth c A Q ls hRf hRl hQ hx hb hr hml hts hown hlocks hE hP hD hS hA hl
  have hiX7 : ∀ w ∈ u_ws RX7 TX7 24, w ∈ wsX7_lying := by decide +kernel
  have hl : lv_has ls 3 [(0, .ref mh)] := hl
  rw [tw_X7_lying] at h
  have L4 : ∀ (n : Nat) (x1 : Int32) (x2 : Int32)  (H : Heap) (locs : List Loc) (ls : Array Slot), lv_has ls 3 [(0, .ref mh), (1, .int x1), (2, .int x2)] → va_P D vwCl (cMd mh m_kindr m_toldr m_nowr m_readToldr m_readCellr m_readKindr m_textr m_rowr m_seenCellr m_seenWayr m_seenCamer m_isKeptr m_keptr cy.1 cy.2.2.1 m_marbles m_kind m_told m_now m_readTold m_readCell m_readKind m_text m_length m_at m_faultAt m_there m_stopped m_acts m_next m_row m_bestRow m_seen m_seenCell m_seenWay m_seenCame m_seed m_isKept m_kept) H → va_D A (cMd mh m_kindr m_toldr m_nowr m_readToldr m_readCellr m_readKindr m_textr m_rowr m_seenCellr m_seenWayr m_seenCamer m_isKeptr m_keptr cy.1 cy.2.2.1 m_marbles m_kind m_told m_now m_readTold m_readCell m_readKind m_text m_length m_at m_faultAt m_there m_stopped m_acts m_next m_row m_bestRow m_seen m_seenCell m_seenWay m_seenCame m_seed m_isKept m_kept) → va_S A s.heap H locs → tw_X7_lying_4 m_marbles m_now n x1 x2 = some res → W p l e R s m args below meth c H locs 0 0 Q (F0 m 4 ls []) := by
    intro n4
    induction n4 with
    | zero =>
      intro x1 x2  H locs ls hl hP hD hS h
      exact absurd h (by rw [tw_X7_lying_4]; exact fun q => by cases q)
    | succ n4 ih4 =>
      intro x1 x2  H locs ls hl hP hD hS h
      rw [tw_X7_lying_4] at h
      refine lv_iload_n hx hb dX7_lying_4 rfl (lv_at hl 2 rfl) ?_
      refine lv_aload_n hx hb dX7_lying_5 rfl (lv_at hl 0 rfl) ?_
      refine va_get (D := D) (ci := 7) (v := .int m_marbles) (C := RX7) (T := TX7) (N := 24) hx hb hts hiX7 hown hE.1 hP 0 rfl rfl 0 (by decide) (hts (.fieldLink RX7 92 "TiltTrayModel" "marbles" "I") (by decide +kernel)) (fun _ h9 => h9) rfl dX7_lying_6 ?_
      refine lv_icmp_ge (tgt := 44) hx hb dX7_lying_9 (by decide) (fun c1 => ?_) (fun c1 => ?_)
      · have h := oit h c1
        refine lv_iload_n hx hb dX7_lying_44 rfl (lv_at hl 1 rfl) ?_
        obtain rfl := Option.some.inj h
        rw [hQ]; exact ct_iret hx hb hr hlocks hP hS rfl dX7_lying_45
      · have h := oif h c1
        refine lv_iload_n hx hb dX7_lying_12 rfl (lv_at hl 1 rfl) ?_
        refine lv_aload_n hx hb dX7_lying_13 rfl (lv_at hl 0 rfl) ?_
        refine va_get (D := D) (ci := 7) (v := .ref m_nowr) (C := RX7) (T := TX7) (N := 24) hx hb hts hiX7 hown hE.1 hP 0 rfl rfl 3 (by decide) (hts (.fieldLink RX7 16 "TiltTrayModel" "now" "[I") (by decide +kernel)) (fun _ h9 => h9) rfl dX7_lying_14 ?_
        refine lv_iload_n hx hb dX7_lying_17 rfl (lv_at hl 2 rfl) ?_
        obtain ⟨g2, h⟩ := og h
        refine va_iald hx hb hE.1 hP 3 0 rfl rfl (ix_in g2) dX7_lying_18 ?_
        refine lv_bipush (v := 100) hx hb dX7_lying_19 (by decide) ?_
        refine lv_icmp_ge (tgt := 35) hx hb dX7_lying_21 (by decide) (fun c3 => ?_) (fun c3 => ?_)
        · have h := oit h c3
          refine lv_iconst (v := 0) hx hb dX7_lying_35 (by decide) ?_
          refine lv_ior hx hb dX7_lying_36 ?_
          refine lv_istore_n (lv' := [(1, .int (x1 ||| 0)), (0, .ref mh), (2, .int x2)]) hx hb dX7_lying_37 rfl hl (by decide) rfl (fun ls hl => ?_)
          refine lv_iinc (v := x2 + 1) (lv' := [(2, .int (x2 + 1)), (1, .int (x1 ||| 0)), (0, .ref mh)]) hx hb dX7_lying_38 hl (k := 2) rfl rfl (by decide) rfl (fun ls hl => ?_)
          refine lv_goto (tgt := 4) hx hb dX7_lying_41 (by decide) ?_
          exact ih4 (x1 ||| 0) (x2 + 1) _ _ _ (lv_sub hl [2, 1, 0] rfl) hP hD hS h
        · have h := oif h c3
          refine lv_iconst (v := 1) hx hb dX7_lying_24 (by decide) ?_
          refine lv_aload_n hx hb dX7_lying_25 rfl (lv_at hl 0 rfl) ?_
          refine va_get (D := D) (ci := 7) (v := .ref m_nowr) (C := RX7) (T := TX7) (N := 24) hx hb hts hiX7 hown hE.1 hP 0 rfl rfl 3 (by decide) (hts (.fieldLink RX7 16 "TiltTrayModel" "now" "[I") (by decide +kernel)) (fun _ h9 => h9) rfl dX7_lying_26 ?_
          refine lv_iload_n hx hb dX7_lying_29 rfl (lv_at hl 2 rfl) ?_
          obtain ⟨g4, h⟩ := og h
          refine va_iald hx hb hE.1 hP 3 0 rfl rfl (ix_in g4) dX7_lying_30 ?_
          refine lv_ishl hx hb dX7_lying_31 ?_
          refine lv_goto (tgt := 36) hx hb dX7_lying_32 (by decide) ?_
          refine lv_ior hx hb dX7_lying_36 ?_
          refine lv_istore_n (lv' := [(1, .int (x1 ||| (1 <<< ((m_now x2.toNatClampNeg) &&& 31)))), (0, .ref mh), (2, .int x2)]) hx hb dX7_lying_37 rfl hl (by decide) rfl (fun ls hl => ?_)
          refine lv_iinc (v := x2 + 1) (lv' := [(2, .int (x2 + 1)), (1, .int (x1 ||| (1 <<< ((m_now x2.toNatClampNeg) &&& 31)))), (0, .ref mh)]) hx hb dX7_lying_38 hl (k := 2) rfl rfl (by decide) rfl (fun ls hl => ?_)
          refine lv_goto (tgt := 4) hx hb dX7_lying_41 (by decide) ?_
          exact ih4 (x1 ||| (1 <<< ((m_now x2.toNatClampNeg) &&& 31))) (x2 + 1) _ _ _ (lv_sub hl [2, 1, 0] rfl) hP hD hS h
  refine lv_iconst (v := 0) hx hb dX7_lying_0 (by decide) ?_
  refine lv_istore_n (lv' := [(1, .int 0), (0, .ref mh)]) hx hb dX7_lying_1 rfl hl (by decide) rfl (fun ls hl => ?_)
  refine lv_iconst (v := 0) hx hb dX7_lying_2 (by decide) ?_
  refine lv_istore_n (lv' := [(2, .int 0), (1, .int 0), (0, .ref mh)]) hx hb dX7_lying_3 rfl hl (by decide) rfl (fun ls hl => ?_)
  exact L4 6 0 0 _ _ _ (lv_sub hl [2, 1, 0] rfl) hP hD hS h

def tw_X7_count (m_marbles : Int32) (m_told : Nat → Int32) (m_now : Nat → Int32) (m_length : Int32) (m_acts : Int32) (m_seen : Int32) (p1 : Int32) : Option (Int32) :=
  if p1 = 0 then (some (m_length)) else (if p1 = 1 then (some (m_marbles)) else (if p1 = 2 then (some (m_told (0 : Int32).toNatClampNeg)) else (if p1 = 3 then (some (m_told (1 : Int32).toNatClampNeg)) else (if p1 = 4 then (some (m_told (2 : Int32).toNatClampNeg)) else (if p1 = 5 then (some (m_told (3 : Int32).toNatClampNeg)) else (if p1 = 6 then ((tw_X7_lying m_marbles m_now).bind (fun q7 => some (q7))) else (if p1 = 7 then (some (m_now (4 : Int32).toNatClampNeg)) else (if p1 = 8 then (some (m_now (5 : Int32).toNatClampNeg)) else (if p1 = 9 then (some (m_now (6 : Int32).toNatClampNeg)) else (if p1 = 10 then (some (m_acts)) else (if p1 = 11 then (some (m_seen)) else (some ((-2))))))))))))))
set_option maxHeartbeats 4000000 in
set_option maxRecDepth 100000 in
theorem c_X7_count (l : Launch) (D : va_G) (cy : Cy) (mh : Nat) (m_kindr : Nat) (m_toldr : Nat) (m_nowr : Nat) (m_readToldr : Nat) (m_readCellr : Nat) (m_readKindr : Nat) (m_textr : Nat) (m_rowr : Nat) (m_seenCellr : Nat) (m_seenWayr : Nat) (m_seenCamer : Nat) (m_isKeptr : Nat) (m_keptr : Nat) (m_marbles : Int32) (m_kind : Nat → Int32) (m_told : Nat → Int32) (m_now : Nat → Int32) (m_readTold : Nat → Int32) (m_readCell : Nat → Int32) (m_readKind : Nat → Int32) (m_text : Nat → Int32) (m_length : Int32) (m_at : Int32) (m_faultAt : Int32) (m_there : Int32) (m_stopped : Int32) (m_acts : Int32) (m_next : Int32) (m_row : Nat → Int32) (m_bestRow : Int32) (m_seen : Int32) (m_seenCell : Nat → Int32) (m_seenWay : Nat → Int32) (m_seenCame : Nat → Int32) (m_seed : Int64) (m_isKept : Nat → Int32) (m_kept : Nat → Int32) (p1 : Int32) (res : Int32) (h : tw_X7_count m_marbles m_told m_now m_length m_acts m_seen p1 = some res) : Ct l yX7_count wsX7_count 1 22 D cy [.ref mh, .int p1] (cMd mh m_kindr m_toldr m_nowr m_readToldr m_readCellr m_readKindr m_textr m_rowr m_seenCellr m_seenWayr m_seenCamer m_isKeptr m_keptr cy.1 cy.2.2.1 m_marbles m_kind m_told m_now m_readTold m_readCell m_readKind m_text m_length m_at m_faultAt m_there m_stopped m_acts m_next m_row m_bestRow m_seen m_seenCell m_seenWay m_seenCame m_seed m_isKept m_kept) (cMd mh m_kindr m_toldr m_nowr m_readToldr m_readCellr m_readKindr m_textr m_rowr m_seenCellr m_seenWayr m_seenCamer m_isKeptr m_keptr cy.1 cy.2.2.1 m_marbles m_kind m_told m_now m_readTold m_readCell m_readKind m_text m_length m_at m_faultAt m_there m_stopped m_acts m_next m_row m_bestRow m_seen m_seenCell m_seenWay m_seenCame m_seed m_isKept m_kept) (some (.int res)) := by
  refine Ct.ofW (cc := cX7_count) (maxL := 2) (ret := (some .int)) (by decide) rfl (Nat.le_of_ble_eq_true rfl) ?_
  intro p e R s m args below meth c A Q ls hRf hRl hQ hx hb hr hml hts hown hlocks hE hP hD hS hA hl
  have hiX7 : ∀ w ∈ u_ws RX7 TX7 24, w ∈ wsX7_count := by decide +kernel
  have hl : lv_has ls 2 [(0, .ref mh), (1, .int p1)] := hl
  rw [tw_X7_count] at h
  refine lv_iload_n hx hb dX7_count_0 rfl (lv_at hl 1 rfl) ?_
  by_cases c1 : p1 = 0
  · have h := oit h c1
    refine lv_tableIn (off := 63) (tgt := 64) hx hb dX7_count_1 (by rw [c1]; decide) (by rw [c1]; decide) (by rw [c1]; decide) (by decide) ?_
    refine lv_aload_n hx hb dX7_count_64 rfl (lv_at hl 0 rfl) ?_
    refine va_get (D := D) (ci := 7) (v := .int m_length) (C := RX7) (T := TX7) (N := 24) hx hb hts hiX7 hown hE.1 hP 0 rfl rfl 8 (by decide) (hts (.fieldLink RX7 60 "TiltTrayModel" "length" "I") (by decide +kernel)) (fun _ h9 => h9) rfl dX7_count_65 ?_
    obtain rfl := Option.some.inj h
    rw [hQ]; exact ct_iret hx hb hr hlocks hP hS rfl dX7_count_68
  have h := oif h c1
  by_cases c2 : p1 = 1
  · have h := oit h c2
    refine lv_tableIn (off := 68) (tgt := 69) hx hb dX7_count_1 (by rw [c2]; decide) (by rw [c2]; decide) (by rw [c2]; decide) (by decide) ?_
    refine lv_aload_n hx hb dX7_count_69 rfl (lv_at hl 0 rfl) ?_
    refine va_get (D := D) (ci := 7) (v := .int m_marbles) (C := RX7) (T := TX7) (N := 24) hx hb hts hiX7 hown hE.1 hP 0 rfl rfl 0 (by decide) (hts (.fieldLink RX7 92 "TiltTrayModel" "marbles" "I") (by decide +kernel)) (fun _ h9 => h9) rfl dX7_count_70 ?_
    obtain rfl := Option.some.inj h
    rw [hQ]; exact ct_iret hx hb hr hlocks hP hS rfl dX7_count_73
  have h := oif h c2
  by_cases c3 : p1 = 2
  · have h := oit h c3
    refine lv_tableIn (off := 73) (tgt := 74) hx hb dX7_count_1 (by rw [c3]; decide) (by rw [c3]; decide) (by rw [c3]; decide) (by decide) ?_
    refine lv_aload_n hx hb dX7_count_74 rfl (lv_at hl 0 rfl) ?_
    refine va_get (D := D) (ci := 7) (v := .ref m_toldr) (C := RX7) (T := TX7) (N := 24) hx hb hts hiX7 hown hE.1 hP 0 rfl rfl 2 (by decide) (hts (.fieldLink RX7 13 "TiltTrayModel" "told" "[I") (by decide +kernel)) (fun _ h9 => h9) rfl dX7_count_75 ?_
    refine lv_iconst (v := 0) hx hb dX7_count_78 (by decide) ?_
    refine va_iald hx hb hE.1 hP 2 0 rfl rfl (ix_in (by decide)) dX7_count_79 ?_
    obtain rfl := Option.some.inj h
    rw [hQ]; exact ct_iret hx hb hr hlocks hP hS rfl dX7_count_80
  have h := oif h c3
  by_cases c4 : p1 = 3
  · have h := oit h c4
    refine lv_tableIn (off := 80) (tgt := 81) hx hb dX7_count_1 (by rw [c4]; decide) (by rw [c4]; decide) (by rw [c4]; decide) (by decide) ?_
    refine lv_aload_n hx hb dX7_count_81 rfl (lv_at hl 0 rfl) ?_
    refine va_get (D := D) (ci := 7) (v := .ref m_toldr) (C := RX7) (T := TX7) (N := 24) hx hb hts hiX7 hown hE.1 hP 0 rfl rfl 2 (by decide) (hts (.fieldLink RX7 13 "TiltTrayModel" "told" "[I") (by decide +kernel)) (fun _ h9 => h9) rfl dX7_count_82 ?_
    refine lv_iconst (v := 1) hx hb dX7_count_85 (by decide) ?_
    refine va_iald hx hb hE.1 hP 2 0 rfl rfl (ix_in (by decide)) dX7_count_86 ?_
    obtain rfl := Option.some.inj h
    rw [hQ]; exact ct_iret hx hb hr hlocks hP hS rfl dX7_count_87
  have h := oif h c4
  by_cases c5 : p1 = 4
  · have h := oit h c5
    refine lv_tableIn (off := 87) (tgt := 88) hx hb dX7_count_1 (by rw [c5]; decide) (by rw [c5]; decide) (by rw [c5]; decide) (by decide) ?_
    refine lv_aload_n hx hb dX7_count_88 rfl (lv_at hl 0 rfl) ?_
    refine va_get (D := D) (ci := 7) (v := .ref m_toldr) (C := RX7) (T := TX7) (N := 24) hx hb hts hiX7 hown hE.1 hP 0 rfl rfl 2 (by decide) (hts (.fieldLink RX7 13 "TiltTrayModel" "told" "[I") (by decide +kernel)) (fun _ h9 => h9) rfl dX7_count_89 ?_
    refine lv_iconst (v := 2) hx hb dX7_count_92 (by decide) ?_
    refine va_iald hx hb hE.1 hP 2 0 rfl rfl (ix_in (by decide)) dX7_count_93 ?_
    obtain rfl := Option.some.inj h
    rw [hQ]; exact ct_iret hx hb hr hlocks hP hS rfl dX7_count_94
  have h := oif h c5
  by_cases c6 : p1 = 5
  · have h := oit h c6
    refine lv_tableIn (off := 94) (tgt := 95) hx hb dX7_count_1 (by rw [c6]; decide) (by rw [c6]; decide) (by rw [c6]; decide) (by decide) ?_
    refine lv_aload_n hx hb dX7_count_95 rfl (lv_at hl 0 rfl) ?_
    refine va_get (D := D) (ci := 7) (v := .ref m_toldr) (C := RX7) (T := TX7) (N := 24) hx hb hts hiX7 hown hE.1 hP 0 rfl rfl 2 (by decide) (hts (.fieldLink RX7 13 "TiltTrayModel" "told" "[I") (by decide +kernel)) (fun _ h9 => h9) rfl dX7_count_96 ?_
    refine lv_iconst (v := 3) hx hb dX7_count_99 (by decide) ?_
    refine va_iald hx hb hE.1 hP 2 0 rfl rfl (ix_in (by decide)) dX7_count_100 ?_
    obtain rfl := Option.some.inj h
    rw [hQ]; exact ct_iret hx hb hr hlocks hP hS rfl dX7_count_101
  have h := oif h c6
  by_cases c8 : p1 = 6
  · have h := oit h c8
    refine lv_tableIn (off := 101) (tgt := 102) hx hb dX7_count_1 (by rw [c8]; decide) (by rw [c8]; decide) (by rw [c8]; decide) (by decide) ?_
    refine lv_aload_n hx hb dX7_count_102 rfl (lv_at hl 0 rfl) ?_
    obtain ⟨q7, hq7, h⟩ := ob h
    refine kV (As := []) (rest := []) (w2 := cMd mh m_kindr m_toldr m_nowr m_readToldr m_readCellr m_readKindr m_textr m_rowr m_seenCellr m_seenWayr m_seenCamer m_isKeptr m_keptr cy.1 cy.2.2.1 m_marbles m_kind m_told m_now m_readTold m_readCell m_readKind m_text m_length m_at m_faultAt m_there m_stopped m_acts m_next m_row m_bestRow m_seen m_seenCell m_seenWay m_seenCame m_seed m_isKept m_kept) (n := 0) (q0 := 0) ⟨hx, hb, hml, hown, hts⟩ (c_X7_lying l D cy mh m_kindr m_toldr m_nowr m_readToldr m_readCellr m_readKindr m_textr m_rowr m_seenCellr m_seenWayr m_seenCamer m_isKeptr m_keptr m_marbles m_kind m_told m_now m_readTold m_readCell m_readKind m_text m_length m_at m_faultAt m_there m_stopped m_acts m_next m_row m_bestRow m_seen m_seenCell m_seenWay m_seenCame m_seed m_isKept m_kept q7 hq7) gX7_count_X7_lying rfl (by decide +kernel) ⟨by rw [hRf]; exact Nat.le_of_ble_eq_true rfl, by rw [hRl]; exact Nat.le_of_ble_eq_true rfl⟩ hE hP hD hS hA [0, 1, 2, 3, 4, 5, 6, 7, 8, 9, 10, 11, 12, 13] rfl rfl rfl rfl rfl rfl rfl hl.1 rfl (Nat.le_of_ble_eq_true rfl) dX7_count_103 ⟨Nat.zero_le _, Nat.zero_le _⟩ (fun H locs hP hD hS => ?_)
    obtain rfl := Option.some.inj h
    rw [hQ]; exact ct_iret hx hb hr hlocks hP hS rfl dX7_count_106
  have h := oif h c8
  by_cases c9 : p1 = 7
  · have h := oit h c9
    refine lv_tableIn (off := 106) (tgt := 107) hx hb dX7_count_1 (by rw [c9]; decide) (by rw [c9]; decide) (by rw [c9]; decide) (by decide) ?_
    refine lv_aload_n hx hb dX7_count_107 rfl (lv_at hl 0 rfl) ?_
    refine va_get (D := D) (ci := 7) (v := .ref m_nowr) (C := RX7) (T := TX7) (N := 24) hx hb hts hiX7 hown hE.1 hP 0 rfl rfl 3 (by decide) (hts (.fieldLink RX7 16 "TiltTrayModel" "now" "[I") (by decide +kernel)) (fun _ h9 => h9) rfl dX7_count_108 ?_
    refine lv_iconst (v := 4) hx hb dX7_count_111 (by decide) ?_
    refine va_iald hx hb hE.1 hP 3 0 rfl rfl (ix_in (by decide)) dX7_count_112 ?_
    obtain rfl := Option.some.inj h
    rw [hQ]; exact ct_iret hx hb hr hlocks hP hS rfl dX7_count_113
  have h := oif h c9
  by_cases c10 : p1 = 8
  · have h := oit h c10
    refine lv_tableIn (off := 113) (tgt := 114) hx hb dX7_count_1 (by rw [c10]; decide) (by rw [c10]; decide) (by rw [c10]; decide) (by decide) ?_
    refine lv_aload_n hx hb dX7_count_114 rfl (lv_at hl 0 rfl) ?_
    refine va_get (D := D) (ci := 7) (v := .ref m_nowr) (C := RX7) (T := TX7) (N := 24) hx hb hts hiX7 hown hE.1 hP 0 rfl rfl 3 (by decide) (hts (.fieldLink RX7 16 "TiltTrayModel" "now" "[I") (by decide +kernel)) (fun _ h9 => h9) rfl dX7_count_115 ?_
    refine lv_iconst (v := 5) hx hb dX7_count_118 (by decide) ?_
    refine va_iald hx hb hE.1 hP 3 0 rfl rfl (ix_in (by decide)) dX7_count_119 ?_
    obtain rfl := Option.some.inj h
    rw [hQ]; exact ct_iret hx hb hr hlocks hP hS rfl dX7_count_120
  have h := oif h c10
  by_cases c11 : p1 = 9
  · have h := oit h c11
    refine lv_tableIn (off := 120) (tgt := 121) hx hb dX7_count_1 (by rw [c11]; decide) (by rw [c11]; decide) (by rw [c11]; decide) (by decide) ?_
    refine lv_aload_n hx hb dX7_count_121 rfl (lv_at hl 0 rfl) ?_
    refine va_get (D := D) (ci := 7) (v := .ref m_nowr) (C := RX7) (T := TX7) (N := 24) hx hb hts hiX7 hown hE.1 hP 0 rfl rfl 3 (by decide) (hts (.fieldLink RX7 16 "TiltTrayModel" "now" "[I") (by decide +kernel)) (fun _ h9 => h9) rfl dX7_count_122 ?_
    refine lv_bipush (v := 6) hx hb dX7_count_125 (by decide) ?_
    refine va_iald hx hb hE.1 hP 3 0 rfl rfl (ix_in (by decide)) dX7_count_127 ?_
    obtain rfl := Option.some.inj h
    rw [hQ]; exact ct_iret hx hb hr hlocks hP hS rfl dX7_count_128
  have h := oif h c11
  by_cases c12 : p1 = 10
  · have h := oit h c12
    refine lv_tableIn (off := 128) (tgt := 129) hx hb dX7_count_1 (by rw [c12]; decide) (by rw [c12]; decide) (by rw [c12]; decide) (by decide) ?_
    refine lv_aload_n hx hb dX7_count_129 rfl (lv_at hl 0 rfl) ?_
    refine va_get (D := D) (ci := 7) (v := .int m_acts) (C := RX7) (T := TX7) (N := 24) hx hb hts hiX7 hown hE.1 hP 0 rfl rfl 13 (by decide) (hts (.fieldLink RX7 95 "TiltTrayModel" "acts" "I") (by decide +kernel)) (fun _ h9 => h9) rfl dX7_count_130 ?_
    obtain rfl := Option.some.inj h
    rw [hQ]; exact ct_iret hx hb hr hlocks hP hS rfl dX7_count_133
  have h := oif h c12
  by_cases c13 : p1 = 11
  · have h := oit h c13
    refine lv_tableIn (off := 133) (tgt := 134) hx hb dX7_count_1 (by rw [c13]; decide) (by rw [c13]; decide) (by rw [c13]; decide) (by decide) ?_
    refine lv_aload_n hx hb dX7_count_134 rfl (lv_at hl 0 rfl) ?_
    refine va_get (D := D) (ci := 7) (v := .int m_seen) (C := RX7) (T := TX7) (N := 24) hx hb hts hiX7 hown hE.1 hP 0 rfl rfl 17 (by decide) (hts (.fieldLink RX7 185 "TiltTrayModel" "seen" "I") (by decide +kernel)) (fun _ h9 => h9) rfl dX7_count_135 ?_
    obtain rfl := Option.some.inj h
    rw [hQ]; exact ct_iret hx hb hr hlocks hP hS rfl dX7_count_138
  have h := oif h c13
  refine lv_tableOut (tgt := 139) hx hb dX7_count_1 (sw_out 11 (by decide) (fun k hk => by rcases (show k = 0 ∨ k = 1 ∨ k = 2 ∨ k = 3 ∨ k = 4 ∨ k = 5 ∨ k = 6 ∨ k = 7 ∨ k = 8 ∨ k = 9 ∨ k = 10 ∨ k = 11 by omega) with rfl | rfl | rfl | rfl | rfl | rfl | rfl | rfl | rfl | rfl | rfl | rfl <;> assumption)) (by decide) ?_
  refine lv_bipush (v := (-2)) hx hb dX7_count_139 (by decide) ?_
  obtain rfl := Option.some.inj h
  rw [hQ]; exact ct_iret hx hb hr hlocks hP hS rfl dX7_count_141
