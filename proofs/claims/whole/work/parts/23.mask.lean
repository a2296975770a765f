def tw_X7_canWedge (m_marbles : Int32) (m_told : Nat → Int32) (m_now : Nat → Int32) (m_there : Int32) (p1 : Int32) (p2 : Int32) : Option (Int32) :=
  (tw_X7_has ((((m_told (0 : Int32).toNatClampNeg) ||| (m_told (1 : Int32).toNatClampNeg)) ||| (m_told (2 : Int32).toNatClampNeg)) ||| (m_told (3 : Int32).toNatClampNeg)) p2).bind (fun q1 => if q1 = 0 then ((tw_X7_marbleAt m_marbles m_now m_there p1 p2).bind (fun q3 => if q3 = (-9) then (some (1)) else (some (0)))) else (some (0)))
set_option maxHeartbeats 4000000 in
set_option maxRecDepth 100000 in
theorem c_X7_canWedge (l : Launch) (D : va_G) (cy : Cy) (mh : Nat) (m_kindr : Nat) (m_toldr : Nat) (m_nowr : Nat) (m_readToldr : Nat) (m_readCellr : Nat) (m_readKindr : Nat) (m_textr : Nat) (m_rowr : Nat) (m_seenCellr : Nat) (m_seenWayr : Nat) (m_seenCamer : Nat) (m_isKeptr : Nat) (m_keptr : Nat) (m_marbles : Int32) (m_kind : Nat → Int32) (m_told : Nat → Int32) (m_now : Nat → Int32) (m_readTold : Nat → Int32) (m_readCell : Nat → Int32) (m_readKind : Nat → Int32) (m_text : Nat → Int32) (m_length : Int32) (m_at : Int32) (m_faultAt : Int32) (m_there : Int32) (m_stopped : Int32) (m_acts : Int32) (m_next : Int32) (m_row : Nat → Int32) (m_bestRow : Int32) (m_seen : Int32) (m_seenCell : Nat → Int32) (m_seenWay : Nat → Int32) (m_seenCame : Nat → Int32) (m_seed : Int64) (m_isKept : Nat → Int32) (m_kept : Nat → Int32) (p1 : Int32) (p2 : Int32) (res : Int32) (h : tw_X7_canWedge m_marbles m_told m_now m_there p1 p2 = some res) : Ct l yX7_canWedge wsX7_canWedge 3 66 D cy [.ref mh, .int p1, .int p2] (cMd mh m_kindr m_toldr m_nowr m_readToldr m_readCellr m_readKindr m_textr m_rowr m_seenCellr m_seenWayr m_seenCamer m_isKeptr m_keptr cy.1 cy.2.2.1 m_marbles m_kind m_told m_now m_readTold m_readCell m_readKind m_text m_length m_at m_faultAt m_there m_stopped m_acts m_next m_row m_bestRow m_seen m_seenCell m_seenWay m_seenCame m_seed m_isKept m_kept) (cMd mh m_kindr m_toldr m_nowr m_readToldr m_readCellr m_readKindr m_textr m_rowr m_seenCellr m_seenWayr m_seenCamer m_isKeptr m_keptr cy.1 cy.2.2.1 m_marbles m_kind m_told m_now m_readTold m_readCell m_readKind m_text m_length m_at m_faultAt m_there m_stopped m_acts m_next m_row m_bestRow m_seen m_seenCell m_seenWay m_seenCame m_seed m_isKept m_kept) (some (.int res)) := by
  refine Ct.ofW (cc := cX7_canWedge) (maxL := 3) (ret := (some .boolean)) (by decide) rfl (Nat.le_of_ble_eq_true rfl) ?_
  intro p e R s m args below meth c A Q ls hRf hRl hQ hx hb hr hml hts hown hlocks hE hP hD hS hA hl
  have hiX7 : ∀ w ∈ u_ws RX7 TX7 24, w ∈ wsX7_canWedge := by decide +kernel
  have hl : lv_has ls 3 [(0, .ref mh), (1, .int p1), (2, .int p2)] := hl
  rw [tw_X7_canWedge] at h
  refine lv_aload_n hx hb dX7_canWedge_0 rfl (lv_at hl 0 rfl) ?_
  refine va_get (D := D) (ci := 7) (v := .ref m_toldr) (C := RX7) (T := TX7) (N := 24) hx hb hts hiX7 hown hE.1 hP 0 rfl rfl 2 (by decide) (hts (.fieldLink RX7 13 "TiltTrayModel" "told" "[I") (by decide +kernel)) (fun _ h9 => h9) rfl dX7_canWedge_1 ?_
  refine lv_iconst (v := 0) hx hb dX7_canWedge_4 (by decide) ?_
  refine va_iald hx hb hE.1 hP 2 0 rfl rfl (ix_in (by decide)) dX7_canWedge_5 ?_
  refine lv_aload_n hx hb dX7_canWedge_6 rfl (lv_at hl 0 rfl) ?_
  refine va_get (D := D) (ci := 7) (v := .ref m_toldr) (C := RX7) (T := TX7) (N := 24) hx hb hts hiX7 hown hE.1 hP 0 rfl rfl 2 (by decide) (hts (.fieldLink RX7 13 "TiltTrayModel" "told" "[I") (by decide +kernel)) (fun _ h9 => h9) rfl dX7_canWedge_7 ?_
  refine lv_iconst (v := 1) hx hb dX7_canWedge_10 (by decide) ?_
  refine va_iald hx hb hE.1 hP 2 0 rfl rfl (ix_in (by decide)) dX7_canWedge_11 ?_
  refine lv_ior hx hb dX7_canWedge_12 ?_
  refine lv_aload_n hx hb dX7_canWedge_13 rfl (lv_at hl 0 rfl) ?_
  refine va_get (D := D) (ci := 7) (v := .ref m_toldr) (C := RX7) (T := TX7) (N := 24) hx hb hts hiX7 hown hE.1 hP 0 rfl rfl 2 (by decide) (hts (.fieldLink RX7 13 "TiltTrayModel" "told" "[I") (by decide +kernel)) (fun _ h9 => h9) rfl dX7_canWedge_14 ?_
  refine lv_iconst (v := 2) hx hb dX7_canWedge_17 (by decide) ?_
  refine va_iald hx hb hE.1 hP 2 0 rfl rfl (ix_in (by decide)) dX7_canWedge_18 ?_
  refine lv_ior hx hb dX7_canWedge_19 ?_
  refine lv_aload_n hx hb dX7_canWedge_20 rfl (lv_at hl 0 rfl) ?_
  refine va_get (D := D) (ci := 7) (v := .ref m_toldr) (C := RX7) (T := TX7) (N := 24) hx hb hts hiX7 hown hE.1 hP 0 rfl rfl 2 (by decide) (hts (.fieldLink RX7 13 "TiltTrayModel" "told" "[I") (by decide +kernel)) (fun _ h9 => h9) rfl dX7_canWedge_21 ?_
  refine lv_iconst (v := 3) hx hb dX7_canWedge_24 (by decide) ?_
  refine va_iald hx hb hE.1 hP 2 0 rfl rfl (ix_in (by decide)) dX7_canWedge_25 ?_
  refine lv_ior hx hb dX7_canWedge_26 ?_
  refine lv_iload_n hx hb dX7_canWedge_27 rfl (lv_at hl 2 rfl) ?_
  obtain ⟨q1, hq1, h⟩ := ob h
  refine kS (As := [.int ((((m_told (0 : Int32).toNatClampNeg) ||| (m_told (1 : Int32).toNatClampNeg)) ||| (m_told (2 : Int32).toNatClampNeg)) ||| (m_told (3 : Int32).toNatClampNeg)), .int p2]) (rest := []) (w2 := cMd mh m_kindr m_toldr m_nowr m_readToldr m_readCellr m_readKindr m_textr m_rowr m_seenCellr m_seenWayr m_seenCamer m_isKeptr m_keptr cy.1 cy.2.2.1 m_marbles m_kind m_told m_now m_readTold m_readCell m_readKind m_text m_length m_at m_faultAt m_there m_stopped m_acts m_next m_row m_bestRow m_seen m_seenCell m_seenWay m_seenCame m_seed m_isKept m_kept) (n := 2) ⟨hx, hb, hml, hown, hts⟩ (c_X7_has l D cy ((((m_told (0 : Int32).toNatClampNeg) ||| (m_told (1 : Int32).toNatClampNeg)) ||| (m_told (2 : Int32).toNatClampNeg)) ||| (m_told (3 : Int32).toNatClampNeg)) p2 q1 hq1) gX7_canWedge_X7_has rfl (by decide +kernel) ⟨by rw [hRf]; exact Nat.le_of_ble_eq_true rfl, by rw [hRl]; exact Nat.le_of_ble_eq_true rfl⟩ hE hP hD hS hA [] rfl rfl rfl rfl rfl hl.1 rfl (Nat.le_of_ble_eq_true rfl) dX7_canWedge_28 ⟨Nat.zero_le _, Nat.zero_le _⟩ (fun H locs hP hD hS => ?_)
  refine lv_if_ne (tgt := 49) hx hb dX7_canWedge_31 (by decide) (fun c2 => ?_) (fun c2 => ?_)
  · have h := oif h c2
    refine lv_iconst (v := 0) hx hb dX7_canWedge_49 (by decide) ?_
    obtain rfl := Option.some.inj h
    rw [hQ]; exact ct_zret hx hb hr hlocks rfl hP hS rfl dX7_canWedge_50
  · have h := oit h c2
    refine lv_aload_n hx hb dX7_canWedge_34 rfl (lv_at hl 0 rfl) ?_
    refine lv_iload_n hx hb dX7_canWedge_35 rfl (lv_at hl 1 rfl) ?_
    refine lv_iload_n hx hb dX7_canWedge_36 rfl (lv_at hl 2 rfl) ?_
    obtain ⟨q3, hq3, h⟩ := ob h
    refine kV (As := [.int p1, .int p2]) (rest := []) (w2 := cMd mh m_kindr m_toldr m_nowr m_readToldr m_readCellr m_readKindr m_textr m_rowr m_seenCellr m_seenWayr m_seenCamer m_isKeptr m_keptr cy.1 cy.2.2.1 m_marbles m_kind m_told m_now m_readTold m_readCell m_readKind m_text m_length m_at m_faultAt m_there m_stopped m_acts m_next m_row m_bestRow m_seen m_seenCell m_seenWay m_seenCame m_seed m_isKept m_kept) (n := 2) (q0 := 0) ⟨hx, hb, hml, hown, hts⟩ (c_X7_marbleAt l D cy mh m_kindr m_toldr m_nowr m_readToldr m_readCellr m_readKindr m_textr m_rowr m_seenCellr m_seenWayr m_seenCamer m_isKeptr m_keptr m_marbles m_kind m_told m_now m_readTold m_readCell m_readKind m_text m_length m_at m_faultAt m_there m_stopped m_acts m_next m_row m_bestRow m_seen m_seenCell m_seenWay m_seenCame m_seed m_isKept m_kept p1 p2 q3 hq3) gX7_canWedge_X7_marbleAt rfl (by decide +kernel) ⟨by rw [hRf]; exact Nat.le_of_ble_eq_true rfl, by rw [hRl]; exact Nat.le_of_ble_eq_true rfl⟩ hE hP hD hS hA [0, 1, 2, 3, 4, 5, 6, 7, 8, 9, 10, 11, 12, 13] rfl rfl rfl rfl rfl rfl rfl hl.1 rfl (Nat.le_of_ble_eq_true rfl) dX7_canWedge_37 ⟨Nat.zero_le _, Nat.zero_le _⟩ (fun H locs hP hD hS => ?_)
    refine lv_bipush (v := (-9)) hx hb dX7_canWedge_40 (by decide) ?_
    refine lv_icmp_ne (tgt := 49) hx hb dX7_canWedge_42 (by decide) (fun c4 => ?_) (fun c4 => ?_)
    · have h := oif h c4
      refine lv_iconst (v := 0) hx hb dX7_canWedge_49 (by decide) ?_
      obtain rfl := Option.some.inj h
      rw [hQ]; exact ct_zret hx hb hr hlocks rfl hP hS rfl dX7_canWedge_50
    · have h := oit h c4
      refine lv_iconst (v := 1) hx hb dX7_canWedge_45 (by decide) ?_
      refine lv_goto (tgt := 50) hx hb dX7_canWedge_46 (by decide) ?_
      obtain rfl := Option.some.inj h
      rw [hQ]; exact ct_zret hx hb hr hlocks rfl hP hS rfl dX7_canWedge_50

def tw_X7_wedge_56 (m_marbles : Int32) (m_told : Nat → Int32) (m_there : Int32) (p1 : Int32) (x2 : Int32) (m_now : Nat → Int32) (m_acts : Int32) (m_next : Int32) (m_row : Nat → Int32) : Option (Int32 × (Nat → Int32) × Int32 × Int32 × (Nat → Int32)) :=
  (tw_X7_keepAct m_now m_acts m_next m_row).bind (fun q1 => if x2 = 0 then (some (1, upd m_now (5 : Int32).toNatClampNeg ((m_now (5 : Int32).toNatClampNeg) ^^^ (1 <<< (p1 &&& 31))), q1.1, q1.2.1, q1.2.2)) else (some (0, upd m_now (5 : Int32).toNatClampNeg ((m_now (5 : Int32).toNatClampNeg) ^^^ (1 <<< (p1 &&& 31))), q1.1, q1.2.1, q1.2.2)))
def tw_X7_wedge_36 (m_marbles : Int32) (m_told : Nat → Int32) (m_there : Int32) (p1 : Int32) (x2 : Int32) (m_now : Nat → Int32) (m_acts : Int32) (m_next : Int32) (m_row : Nat → Int32) : Option (Int32 × (Nat → Int32) × Int32 × Int32 × (Nat → Int32)) :=
  if x2 = 0 then ((tw_X7_ones (m_now (5 : Int32).toNatClampNeg)).bind (fun q4 => if q4 = 3 then (some ((-4), m_now, m_acts, m_next, m_row)) else (tw_X7_wedge_56 m_marbles m_told m_there p1 x2 m_now m_acts m_next m_row))) else (tw_X7_wedge_56 m_marbles m_told m_there p1 x2 m_now m_acts m_next m_row)
def tw_X7_wedge (m_marbles : Int32) (m_told : Nat → Int32) (m_now : Nat → Int32) (m_there : Int32) (m_acts : Int32) (m_next : Int32) (m_row : Nat → Int32) (p1 : Int32) : Option (Int32 × (Nat → Int32) × Int32 × Int32 × (Nat → Int32)) :=
  (tw_X7_isCell p1).bind (fun q6 => if q6 = 0 then (some ((-1), m_now, m_acts, m_next, m_row)) else ((tw_X7_has (m_now (5 : Int32).toNatClampNeg) p1).bind (fun q8 => if q8 = 0 then ((tw_X7_canWedge m_marbles m_told m_now m_there 0 p1).bind (fun q10 => if q10 = 0 then (some ((-3), m_now, m_acts, m_next, m_row)) else (tw_X7_wedge_36 m_marbles m_told m_there p1 q8 m_now m_acts m_next m_row))) else (tw_X7_wedge_36 m_marbles m_told m_there p1 q8 m_now m_acts m_next m_row))))
set_option maxHeartbeats 4000000 in
set_option maxRecDepth 100000 in
theorem c_X7_wedge (l : Launch) (D : va_G) (cy : Cy) (mh : Nat) (m_kindr : Nat) (m_toldr : Nat) (m_nowr : Nat) (m_readToldr : Nat) (m_readCellr : Nat) (m_readKindr : Nat) (m_textr : Nat) (m_rowr : Nat) (m_seenCellr : Nat) (m_seenWayr : Nat) (m_seenCamer : Nat) (m_isKeptr : Nat) (m_keptr : Nat) (m_marbles : Int32) (m_kind : Nat → Int32) (m_told : Nat → Int32) (m_now : Nat → Int32) (m_readTold : Nat → Int32) (m_readCell : Nat → Int32) (m_readKind : Nat → Int32) (m_text : Nat → Int32) (m_length : Int32) (m_at : Int32) (m_faultAt : Int32) (m_there : Int32) (m_stopped : Int32) (m_acts : Int32) (m_next : Int32) (m_row : Nat → Int32) (m_bestRow : Int32) (m_seen : Int32) (m_seenCell : Nat → Int32) (m_seenWay : Nat → Int32) (m_seenCame : Nat → Int32) (m_seed : Int64) (m_isKept : Nat → Int32) (m_kept : Nat → Int32) (p1 : Int32) (res : Int32 × (Nat → Int32) × Int32 × Int32 × (Nat → Int32)) (h : tw_X7_wedge m_marbles m_told m_now m_there m_acts m_next m_row p1 = some res) : Ct l yX7_wedge wsX7_wedge 4 88 D cy [.ref mh, .int p1] (cMd mh m_kindr m_toldr m_nowr m_readToldr m_readCellr m_readKindr m_textr m_rowr m_seenCellr m_seenWayr m_seenCamer m_isKeptr m_keptr cy.1 cy.2.2.1 m_marbles m_kind m_told m_now m_readTold m_readCell m_readKind m_text m_length m_at m_faultAt m_there m_stopped m_acts m_next m_row m_bestRow m_seen m_seenCell m_seenWay m_seenCame m_seed m_isKept m_kept) (cMd mh m_kindr m_toldr m_nowr m_readToldr m_readCellr m_readKindr m_textr m_rowr m_seenCellr m_seenWayr m_seenCamer m_isKeptr m_keptr cy.1 cy.2.2.1 m_marbles m_kind m_told res.2.1 m_readTold m_readCell m_readKind m_text m_length m_at m_faultAt m_there m_stopped res.2.2.1 res.2.2.2.1 res.2.2.2.2 m_bestRow m_seen m_seenCell m_seenWay m_seenCame m_seed m_isKept m_kept) (some (.int res.1)) := by
  refine Ct.ofW (cc := cX7_wedge) (maxL := 3) (ret := (some .int)) (by decide) rfl (Nat.le_of_ble_eq_true rfl) ?_
  intro p e R s m args below meth c A Q ls hRf hRl hQ hx hb hr hml hts hown hlocks hE hP hD hS hA hl
  have hiX7 : ∀ w ∈ u_ws RX7 TX7 24, w ∈ wsX7_wedge := by decide +kernel
  have hl : lv_has ls 3 [(0, .ref mh), (1, .int p1)] := hl
  rw [tw_X7_wedge] at h
  have L56 : ∀ (x2 : Int32) (m_now : Nat → Int32) (m_acts : Int32) (m_next : Int32) (m_row : Nat → Int32)  (H : Heap) (locs : List Loc) (ls : Array Slot), lv_has ls 3 [(0, .ref mh), (1, .int p1), (2, .int x2)] → va_P D vwCl (cMd mh m_kindr m_toldr m_nowr m_readToldr m_readCellr m_readKindr m_textr m_rowr m_seenCellr m_seenWayr m_seenCamer m_isKeptr m_keptr cy.1 cy.2.2.1 m_marbles m_kind m_told m_now m_readTold m_readCell m_readKind m_text m_length m_at m_faultAt m_there m_stopped m_acts m_next m_row m_bestRow m_seen m_seenCell m_seenWay m_seenCame m_seed m_isKept m_kept) H → va_D A (cMd mh m_kindr m_toldr m_nowr m_readToldr m_readCellr m_readKindr m_textr m_rowr m_seenCellr m_seenWayr m_seenCamer m_isKeptr m_keptr cy.1 cy.2.2.1 m_marbles m_kind m_told m_now m_readTold m_readCell m_readKind m_text m_length m_at m_faultAt m_there m_stopped m_acts m_next m_row m_bestRow m_seen m_seenCell m_seenWay m_seenCame m_seed m_isKept m_kept) → va_S A s.heap H locs → tw_X7_wedge_56 m_marbles m_told m_there p1 x2 m_now m_acts m_next m_row = some res → W p l e R s m args below meth c H locs 0 0 Q (F0 m 56 ls []) := by
    intro x2 m_now m_acts m_next m_row  H locs ls hl hP hD hS h
    rw [tw_X7_wedge_56] at h
    refine lv_aload_n hx hb dX7_wedge_56 rfl (lv_at hl 0 rfl) ?_
    obtain ⟨q1, hq1, h⟩ := ob h
    refine kV (As := []) (rest := []) (w2 := cMd mh m_kindr m_toldr m_nowr m_readToldr m_readCellr m_readKindr m_textr m_rowr m_seenCellr m_seenWayr m_seenCamer m_isKeptr m_keptr cy.1 cy.2.2.1 m_marbles m_kind m_told m_now m_readTold m_readCell m_readKind m_text m_length m_at m_faultAt m_there m_stopped q1.1 q1.2.1 q1.2.2 m_bestRow m_seen m_seenCell m_seenWay m_seenCame m_seed m_isKept m_kept) (n := 0) (q0 := 0) ⟨hx, hb, hml, hown, hts⟩ (c_X7_keepAct l D cy mh m_kindr m_toldr m_nowr m_readToldr m_readCellr m_readKindr m_textr m_rowr m_seenCellr m_seenWayr m_seenCamer m_isKeptr m_keptr m_marbles m_kind m_told m_now m_readTold m_readCell m_readKind m_text m_length m_at m_faultAt m_there m_stopped m_acts m_next m_row m_bestRow m_seen m_seenCell m_seenWay m_seenCame m_seed m_isKept m_kept q1 hq1) gX7_wedge_X7_keepAct rfl (by decide +kernel) ⟨by rw [hRf]; exact Nat.le_of_ble_eq_true rfl, by rw [hRl]; exact Nat.le_of_ble_eq_true rfl⟩ hE hP hD hS hA [0, 1, 2, 3, 4, 5, 6, 7, 8, 9, 10, 11, 12, 13] rfl rfl rfl rfl rfl rfl rfl hl.1 rfl (Nat.le_of_ble_eq_true rfl) dX7_wedge_57 ⟨Nat.zero_le _, Nat.zero_le _⟩ (fun H locs hP hD hS => ?_)
    refine lv_aload_n hx hb dX7_wedge_60 rfl (lv_at hl 0 rfl) ?_
    refine va_get (D := D) (ci := 7) (v := .ref m_nowr) (C := RX7) (T := TX7) (N := 24) hx hb hts hiX7 hown hE.1 hP 0 rfl rfl 3 (by decide) (hts (.fieldLink RX7 16 "TiltTrayModel" "now" "[I") (by decide +kernel)) (fun _ h9 => h9) rfl dX7_wedge_61 ?_
    refine lv_iconst (v := 5) hx hb dX7_wedge_64 (by decide) ?_
    refine lv_dup2_11 hx hb dX7_wedge_65 rfl rfl ?_
    refine va_iald hx hb hE.1 hP 3 0 rfl rfl (ix_in (by decide)) dX7_wedge_66 ?_
    refine lv_iconst (v := 1) hx hb dX7_wedge_67 (by decide) ?_
    refine lv_iload_n hx hb dX7_wedge_68 rfl (lv_at hl 1 rfl) ?_
    refine lv_ishl hx hb dX7_wedge_69 ?_
    refine lv_ixor hx hb dX7_wedge_70 ?_
    refine va_iast hx hb hE.1 hP hD hS 3 0 rfl rfl (ix_in (by decide)) dX7_wedge_71 (fun H locs hP hD hS => ?_)
    have hP : va_P D vwCl (cMd mh m_kindr m_toldr m_nowr m_readToldr m_readCellr m_readKindr m_textr m_rowr m_seenCellr m_seenWayr m_seenCamer m_isKeptr m_keptr cy.1 cy.2.2.1 m_marbles m_kind m_told (upd m_now (5 : Int32).toNatClampNeg ((m_now (5 : Int32).toNatClampNeg) ^^^ (1 <<< (p1 &&& 31)))) m_readTold m_readCell m_readKind m_text m_length m_at m_faultAt m_there m_stopped q1.1 q1.2.1 q1.2.2 m_bestRow m_seen m_seenCell m_seenWay m_seenCame m_seed m_isKept m_kept) H := hP
    have hD : va_D A (cMd mh m_kindr m_toldr m_nowr m_readToldr m_readCellr m_readKindr m_textr m_rowr m_seenCellr m_seenWayr m_seenCamer m_isKeptr m_keptr cy.1 cy.2.2.1 m_marbles m_kind m_told (upd m_now (5 : Int32).toNatClampNeg ((m_now (5 : Int32).toNatClampNeg) ^^^ (1 <<< (p1 &&& 31)))) m_readTold m_readCell m_readKind m_text m_length m_at m_faultAt m_there m_stopped q1.1 q1.2.1 q1.2.2 m_bestRow m_seen m_seenCell m_seenWay m_seenCame m_seed m_isKept m_kept) := hD
    refine lv_iload_n hx hb dX7_wedge_72 rfl (lv_at hl 2 rfl) ?_
    refine lv_if_eq (tgt := 80) hx hb dX7_wedge_73 (by decide) (fun c2 => ?_) (fun c2 => ?_)
    · have h := oit h c2
      refine lv_iconst (v := 1) hx hb dX7_wedge_80 (by decide) ?_
      obtain rfl := Option.some.inj h
      rw [hQ]; exact ct_iret hx hb hr hlocks hP hS rfl dX7_wedge_81
    · have h := oif h c2
      refine lv_iconst (v := 0) hx hb dX7_wedge_76 (by decide) ?_
      refine lv_goto (tgt := 81) hx hb dX7_wedge_77 (by decide) ?_
      obtain rfl := Option.some.inj h
      rw [hQ]; exact ct_iret hx hb hr hlocks hP hS rfl dX7_wedge_81
  have L36 : ∀ (x2 : Int32) (m_now : Nat → Int32) (m_acts : Int32) (m_next : Int32) (m_row : Nat → Int32)  (H : Heap) (locs : List Loc) (ls : Array Slot), lv_has ls 3 [(0, .ref mh), (1, .int p1), (2, .int x2)] → va_P D vwCl (cMd mh m_kindr m_toldr m_nowr m_readToldr m_readCellr m_readKindr m_textr m_rowr m_seenCellr m_seenWayr m_seenCamer m_isKeptr m_keptr cy.1 cy.2.2.1 m_marbles m_kind m_told m_now m_readTold m_readCell m_readKind m_text m_length m_at m_faultAt m_there m_stopped m_acts m_next m_row m_bestRow m_seen m_seenCell m_seenWay m_seenCame m_seed m_isKept m_kept) H → va_D A (cMd mh m_kindr m_toldr m_nowr m_readToldr m_readCellr m_readKindr m_textr m_rowr m_seenCellr m_seenWayr m_seenCamer m_isKeptr m_keptr cy.1 cy.2.2.1 m_marbles m_kind m_told m_now m_readTold m_readCell m_readKind m_text m_length m_at m_faultAt m_there m_stopped m_acts m_next m_row m_bestRow m_seen m_seenCell m_seenWay m_seenCame m_seed m_isKept m_kept) → va_S A s.heap H locs → tw_X7_wedge_36 m_marbles m_told m_there p1 x2 m_now m_acts m_next m_row = some res → W p l e R s m args below meth c H locs 0 0 Q (F0 m 36 ls []) := by
    intro x2 m_now m_acts m_next m_row  H locs ls hl hP hD hS h
    rw [tw_X7_wedge_36] at h
    refine lv_iload_n hx hb dX7_wedge_36 rfl (lv_at hl 2 rfl) ?_
    refine lv_if_ne (tgt := 56) hx hb dX7_wedge_37 (by decide) (fun c3 => ?_) (fun c3 => ?_)
    · have h := oif h c3
      exact L56 x2 m_now m_acts m_next m_row _ _ _ (lv_sub hl [0, 1, 2] rfl) hP hD hS h
    · have h := oit h c3
      refine lv_aload_n hx hb dX7_wedge_40 rfl (lv_at hl 0 rfl) ?_
      refine va_get (D := D) (ci := 7) (v := .ref m_nowr) (C := RX7) (T := TX7) (N := 24) hx hb hts hiX7 hown hE.1 hP 0 rfl rfl 3 (by decide) (hts (.fieldLink RX7 16 "TiltTrayModel" "now" "[I") (by decide +kernel)) (fun _ h9 => h9) rfl dX7_wedge_41 ?_
      refine lv_iconst (v := 5) hx hb dX7_wedge_44 (by decide) ?_
      refine va_iald hx hb hE.1 hP 3 0 rfl rfl (ix_in (by decide)) dX7_wedge_45 ?_
      obtain ⟨q4, hq4, h⟩ := ob h
      refine kS (As := [.int (m_now (5 : Int32).toNatClampNeg)]) (rest := []) (w2 := cMd mh m_kindr m_toldr m_nowr m_readToldr m_readCellr m_readKindr m_textr m_rowr m_seenCellr m_seenWayr m_seenCamer m_isKeptr m_keptr cy.1 cy.2.2.1 m_marbles m_kind m_told m_now m_readTold m_readCell m_readKind m_text m_length m_at m_faultAt m_there m_stopped m_acts m_next m_row m_bestRow m_seen m_seenCell m_seenWay m_seenCame m_seed m_isKept m_kept) (n := 1) ⟨hx, hb, hml, hown, hts⟩ (c_X7_ones l D cy (m_now (5 : Int32).toNatClampNeg) q4 hq4) gX7_wedge_X7_ones rfl (by decide +kernel) ⟨by rw [hRf]; exact Nat.le_of_ble_eq_true rfl, by rw [hRl]; exact Nat.le_of_ble_eq_true rfl⟩ hE hP hD hS hA [] rfl rfl rfl rfl rfl hl.1 rfl (Nat.le_of_ble_eq_true rfl) dX7_wedge_46 ⟨Nat.zero_le _, Nat.zero_le _⟩ (fun H locs hP hD hS => ?_)
      refine lv_iconst (v := 3) hx hb dX7_wedge_49 (by decide) ?_
      refine lv_icmp_ne (tgt := 56) hx hb dX7_wedge_50 (by decide) (fun c5 => ?_) (fun c5 => ?_)
      · have h := oif h c5
        exact L56 x2 m_now m_acts m_next m_row _ _ _ (lv_sub hl [0, 1, 2] rfl) hP hD hS h
      · have h := oit h c5
        refine lv_bipush (v := (-4)) hx hb dX7_wedge_53 (by decide) ?_
        obtain rfl := Option.some.inj h
        rw [hQ]; exact ct_iret hx hb hr hlocks hP hS rfl dX7_wedge_55
  refine lv_iload_n hx hb dX7_wedge_0 rfl (lv_at hl 1 rfl) ?_
  obtain ⟨q6, hq6, h⟩ := ob h
  refine kS (As := [.int p1]) (rest := []) (w2 := cMd mh m_kindr m_toldr m_nowr m_readToldr m_readCellr m_readKindr m_textr m_rowr m_seenCellr m_seenWayr m_seenCamer m_isKeptr m_keptr cy.1 cy.2.2.1 m_marbles m_kind m_told m_now m_readTold m_readCell m_readKind m_text m_length m_at m_faultAt m_there m_stopped m_acts m_next m_row m_bestRow m_seen m_seenCell m_seenWay m_seenCame m_seed m_isKept m_kept) (n := 1) ⟨hx, hb, hml, hown, hts⟩ (c_X7_isCell l D cy p1 q6 hq6) gX7_wedge_X7_isCell rfl (by decide +kernel) ⟨by rw [hRf]; exact Nat.le_of_ble_eq_true rfl, by rw [hRl]; exact Nat.le_of_ble_eq_true rfl⟩ hE hP hD hS hA [] rfl rfl rfl rfl rfl hl.1 rfl (Nat.le_of_ble_eq_true rfl) dX7_wedge_1 ⟨Nat.zero_le _, Nat.zero_le _⟩ (fun H locs hP hD hS => ?_)
  refine lv_if_ne (tgt := 9) hx hb dX7_wedge_4 (by decide) (fun c7 => ?_) (fun c7 => ?_)
  · have h := oif h c7
    refine lv_aload_n hx hb dX7_wedge_9 rfl (lv_at hl 0 rfl) ?_
    refine va_get (D := D) (ci := 7) (v := .ref m_nowr) (C := RX7) (T := TX7) (N := 24) hx hb hts hiX7 hown hE.1 hP 0 rfl rfl 3 (by decide) (hts (.fieldLink RX7 16 "TiltTrayModel" "now" "[I") (by decide +kernel)) (fun _ h9 => h9) rfl dX7_wedge_10 ?_
    refine lv_iconst (v := 5) hx hb dX7_wedge_13 (by decide) ?_
    refine va_iald hx hb hE.1 hP 3 0 rfl rfl (ix_in (by decide)) dX7_wedge_14 ?_
    refine lv_iload_n hx hb dX7_wedge_15 rfl (lv_at hl 1 rfl) ?_
    obtain ⟨q8, hq8, h⟩ := ob h
    refine kS (As := [.int (m_now (5 : Int32).toNatClampNeg), .int p1]) (rest := []) (w2 := cMd mh m_kindr m_toldr m_nowr m_readToldr m_readCellr m_readKindr m_textr m_rowr m_seenCellr m_seenWayr m_seenCamer m_isKeptr m_keptr cy.1 cy.2.2.1 m_marbles m_kind m_told m_now m_readTold m_readCell m_readKind m_text m_length m_at m_faultAt m_there m_stopped m_acts m_next m_row m_bestRow m_seen m_seenCell m_seenWay m_seenCame m_seed m_isKept m_kept) (n := 2) ⟨hx, hb, hml, hown, hts⟩ (c_X7_has l D cy (m_now (5 : Int32).toNatClampNeg) p1 q8 hq8) gX7_wedge_X7_has rfl (by decide +kernel) ⟨by rw [hRf]; exact Nat.le_of_ble_eq_true rfl, by rw [hRl]; exact Nat.le_of_ble_eq_true rfl⟩ hE hP hD hS hA [] rfl rfl rfl rfl rfl hl.1 rfl (Nat.le_of_ble_eq_true rfl) dX7_wedge_16 ⟨Nat.zero_le _, Nat.zero_le _⟩ (fun H locs hP hD hS => ?_)
    refine lv_istore_n (lv' := [(2, .int q8), (0, .ref mh), (1, .int p1)]) hx hb dX7_wedge_19 rfl hl (by decide) rfl (fun ls hl => ?_)
    refine lv_iload_n hx hb dX7_wedge_20 rfl (lv_at hl 0 rfl) ?_
    refine lv_if_ne (tgt := 36) hx hb dX7_wedge_21 (by decide) (fun c9 => ?_) (fun c9 => ?_)
    · have h := oif h c9
      exact L36 q8 m_now m_acts m_next m_row _ _ _ (lv_sub hl [1, 2, 0] rfl) hP hD hS h
    · have h := oit h c9
      refine lv_aload_n hx hb dX7_wedge_24 rfl (lv_at hl 1 rfl) ?_
      refine lv_iconst (v := 0) hx hb dX7_wedge_25 (by decide) ?_
      refine lv_iload_n hx hb dX7_wedge_26 rfl (lv_at hl 2 rfl) ?_
      obtain ⟨q10, hq10, h⟩ := ob h
      refine kV (As := [.int 0, .int p1]) (rest := []) (w2 := cMd mh m_kindr m_toldr m_nowr m_readToldr m_readCellr m_readKindr m_textr m_rowr m_seenCellr m_seenWayr m_seenCamer m_isKeptr m_keptr cy.1 cy.2.2.1 m_marbles m_kind m_told m_now m_readTold m_readCell m_readKind m_text m_length m_at m_faultAt m_there m_stopped m_acts m_next m_row m_bestRow m_seen m_seenCell m_seenWay m_seenCame m_seed m_isKept m_kept) (n := 2) (q0 := 0) ⟨hx, hb, hml, hown, hts⟩ (c_X7_canWedge l D cy mh m_kindr m_toldr m_nowr m_readToldr m_readCellr m_readKindr m_textr m_rowr m_seenCellr m_seenWayr m_seenCamer m_isKeptr m_keptr m_marbles m_kind m_told m_now m_readTold m_readCell m_readKind m_text m_length m_at m_faultAt m_there m_stopped m_acts m_next m_row m_bestRow m_seen m_seenCell m_seenWay m_seenCame m_seed m_isKept m_kept 0 p1 q10 hq10) gX7_wedge_X7_canWedge rfl (by decide +kernel) ⟨by rw [hRf]; exact Nat.le_of_ble_eq_true rfl, by rw [hRl]; exact Nat.le_of_ble_eq_true rfl⟩ hE hP hD hS hA [0, 1, 2, 3, 4, 5, 6, 7, 8, 9, 10, 11, 12, 13] rfl rfl rfl rfl rfl rfl rfl hl.1 rfl (Nat.le_of_ble_eq_true rfl) dX7_wedge_27 ⟨Nat.zero_le _, Nat.zero_le _⟩ (fun H locs hP hD hS => ?_)
      refine lv_if_ne (tgt := 36) hx hb dX7_wedge_30 (by decide) (fun c11 => ?_) (fun c11 => ?_)
      · have h := oif h c11
        exact L36 q8 m_now m_acts m_next m_row _ _ _ (lv_sub hl [1, 2, 0] rfl) hP hD hS h
      · have h := oit h c11
        refine lv_bipush (v := (-3)) hx hb dX7_wedge_33 (by decide) ?_
        obtain rfl := Option.some.inj h
        rw [hQ]; exact ct_iret hx hb hr hlocks hP hS rfl dX7_wedge_35
  · have h := oit h c7
    refine lv_iconst (v := (-1)) hx hb dX7_wedge_7 (by decide) ?_
    obtain rfl := Option.some.inj h
    rw [hQ]; exact ct_iret hx hb hr hlocks hP hS rfl dX7_wedge_8

def tw_X7_undo (m_now : Nat → Int32) (m_acts : Int32) (m_next : Int32) (m_row : Nat → Int32) : Option (Int32 × (Nat → Int32) × Int32 × Int32) :=
  if m_acts = 0 then (some ((-3), m_now, m_acts, m_next)) else (if ix ((7 * ((m_next + 13) - (m_next + 13) / 14 * 14)) + 0) 98 = true then (if ix ((7 * ((m_next + 13) - (m_next + 13) / 14 * 14)) + 1) 98 = true then (if ix ((7 * ((m_next + 13) - (m_next + 13) / 14 * 14)) + 2) 98 = true then (if ix ((7 * ((m_next + 13) - (m_next + 13) / 14 * 14)) + 3) 98 = true then (if ix ((7 * ((m_next + 13) - (m_next + 13) / 14 * 14)) + 4) 98 = true then (if ix ((7 * ((m_next + 13) - (m_next + 13) / 14 * 14)) + 5) 98 = true then (if ix ((7 * ((m_next + 13) - (m_next + 13) / 14 * 14)) + 6) 98 = true then (some (m_acts - 1, upd (upd (upd (upd (upd (upd (upd m_now (0 : Int32).toNatClampNeg (m_row ((7 * ((m_next + 13) - (m_next + 13) / 14 * 14)) + 0).toNatClampNeg)) (1 : Int32).toNatClampNeg (m_row ((7 * ((m_next + 13) - (m_next + 13) / 14 * 14)) + 1).toNatClampNeg)) (2 : Int32).toNatClampNeg (m_row ((7 * ((m_next + 13) - (m_next + 13) / 14 * 14)) + 2).toNatClampNeg)) (3 : Int32).toNatClampNeg (m_row ((7 * ((m_next + 13) - (m_next + 13) / 14 * 14)) + 3).toNatClampNeg)) (4 : Int32).toNatClampNeg (m_row ((7 * ((m_next + 13) - (m_next + 13) / 14 * 14)) + 4).toNatClampNeg)) (5 : Int32).toNatClampNeg (m_row ((7 * ((m_next + 13) - (m_next + 13) / 14 * 14)) + 5).toNatClampNeg)) (6 : Int32).toNatClampNeg (m_row ((7 * ((m_next + 13) - (m_next + 13) / 14 * 14)) + 6).toNatClampNeg), m_acts - 1, (m_next + 13) - (m_next + 13) / 14 * 14)) else none) else none) else none) else none) else none) else none) else none)
set_option maxHeartbeats 4000000 in
set_option maxRecDepth 100000 in
theorem c_X7_undo (l : Launch) (D : va_G) (cy : Cy) (mh : Nat) (m_kindr : Nat) (m_toldr : Nat) (m_nowr : Nat) (m_readToldr : Nat) (m_readCellr : Nat) (m_readKindr : Nat) (m_textr : Nat) (m_rowr : Nat) (m_seenCellr : Nat) (m_seenWayr : Nat) (m_seenCamer : Nat) (m_isKeptr : Nat) (m_keptr : Nat) (m_marbles : Int32) (m_kind : Nat → Int32) (m_told : Nat → Int32) (m_now : Nat → Int32) (m_readTold : Nat → Int32) (m_readCell : Nat → Int32) (m_readKind : Nat → Int32) (m_text : Nat → Int32) (m_length : Int32) (m_at : Int32) (m_faultAt : Int32) (m_there : Int32) (m_stopped : Int32) (m_acts : Int32) (m_next : Int32) (m_row : Nat → Int32) (m_bestRow : Int32) (m_seen : Int32) (m_seenCell : Nat → Int32) (m_seenWay : Nat → Int32) (m_seenCame : Nat → Int32) (m_seed : Int64) (m_isKept : Nat → Int32) (m_kept : Nat → Int32) (res : Int32 × (Nat → Int32) × Int32 × Int32) (h : tw_X7_undo m_now m_acts m_next m_row = some res) : Ct l yX7_undo wsX7_undo 0 0 D cy [.ref mh] (cMd mh m_kindr m_toldr m_nowr m_readToldr m_readCellr m_readKindr m_textr m_rowr m_seenCellr m_seenWayr m_seenCamer m_isKeptr m_keptr cy.1 cy.2.2.1 m_marbles m_kind m_told m_now m_readTold m_readCell m_readKind m_text m_length m_at m_faultAt m_there m_stopped m_acts m_next m_row m_bestRow m_seen m_seenCell m_seenWay m_seenCame m_seed m_isKept m_kept) (cMd mh m_kindr m_toldr m_nowr m_readToldr m_readCellr m_readKindr m_textr m_rowr m_seenCellr m_seenWayr m_seenCamer m_isKeptr m_keptr cy.1 cy.2.2.1 m_marbles m_kind m_told res.2.1 m_readTold m_readCell m_readKind m_text m_length m_at m_faultAt m_there m_stopped res.2.2.1 res.2.2.2 m_row m_bestRow m_seen m_seenCell m_seenWay m_seenCame m_seed m_isKept m_kept) (some (.int res.1)) := by
  refine Ct.ofW (cc := cX7_undo) (maxL := 2) (ret := (some .int)) (by decide) rfl (Nat.le_of_ble_eq_true rfl) ?_
  intro p e R s m args below meth c A Q ls hRf hRl hQ hx hb hr hml hts hown hlocks hE hP hD hS hA hl
  have hiX7 : ∀ w ∈ u_ws RX7 TX7 24, w ∈ wsX7_undo := by decide +kernel
  have hl : lv_has ls 2 [(0, .ref mh)] := hl
  rw [tw_X7_undo] at h
  refine lv_aload_n hx hb dX7_undo_0 rfl (lv_at hl 0 rfl) ?_
  refine va_get (D := D) (ci := 7) (v := .int m_acts) (C := RX7) (T := TX7) (N := 24) hx hb hts hiX7 hown hE.1 hP 0 rfl rfl 13 (by decide) (hts (.fieldLink RX7 95 "TiltTrayModel" "acts" "I") (by decide +kernel)) (fun _ h9 => h9) rfl dX7_undo_1 ?_
  refine lv_if_ne (tgt := 10) hx hb dX7_undo_4 (by decide) (fun c1 => ?_) (fun c1 => ?_)
  · have h := oif h c1
    refine lv_aload_n hx hb dX7_undo_10 rfl (lv_at hl 0 rfl) ?_
    refine lv_dup hx hb dX7_undo_11 rfl ?_
    refine va_get (D := D) (ci := 7) (v := .int m_acts) (C := RX7) (T := TX7) (N := 24) hx hb hts hiX7 hown hE.1 hP 0 rfl rfl 13 (by decide) (hts (.fieldLink RX7 95 "TiltTrayModel" "acts" "I") (by decide +kernel)) (fun _ h9 => h9) rfl dX7_undo_12 ?_
    refine lv_iconst (v := 1) hx hb dX7_undo_15 (by decide) ?_
    refine lv_isub hx hb dX7_undo_16 ?_
    refine va_put (D := D) (ci := 7) (v := .int (m_acts - 1)) (ty := .int) (C := RX7) (T := TX7) (N := 24) hx hb hts hiX7 tyX7 tyX7_ok nmX7 hown hE.1 hP hD hS 0 rfl rfl 13 (by decide) (hts (.fieldLink RX7 95 "TiltTrayModel" "acts" "I") (by decide +kernel)) (fun _ h9 => h9) rfl (by decide +kernel) rfl rfl (Nat.le_of_ble_eq_true rfl) dX7_undo_17 (fun H locs hP hD hS => ?_)
    have hP : va_P D vwCl (cMd mh m_kindr m_toldr m_nowr m_readToldr m_readCellr m_readKindr m_textr m_rowr m_seenCellr m_seenWayr m_seenCamer m_isKeptr m_keptr cy.1 cy.2.2.1 m_marbles m_kind m_told m_now m_readTold m_readCell m_readKind m_text m_length m_at m_faultAt m_there m_stopped (m_acts - 1) m_next m_row m_bestRow m_seen m_seenCell m_seenWay m_seenCame m_seed m_isKept m_kept) H := hP
    have hD : va_D A (cMd mh m_kindr m_toldr m_nowr m_readToldr m_readCellr m_readKindr m_textr m_rowr m_seenCellr m_seenWayr m_seenCamer m_isKeptr m_keptr cy.1 cy.2.2.1 m_marbles m_kind m_told m_now m_readTold m_readCell m_readKind m_text m_length m_at m_faultAt m_there m_stopped (m_acts - 1) m_next m_row m_bestRow m_seen m_seenCell m_seenWay m_seenCame m_seed m_isKept m_kept) := hD
    refine lv_aload_n hx hb dX7_undo_20 rfl (lv_at hl 0 rfl) ?_
    refine lv_aload_n hx hb dX7_undo_21 rfl (lv_at hl 0 rfl) ?_
    refine va_get (D := D) (ci := 7) (v := .int m_next) (C := RX7) (T := TX7) (N := 24) hx hb hts hiX7 hown hE.1 hP 0 rfl rfl 14 (by decide) (hts (.fieldLink RX7 144 "TiltTrayModel" "next" "I") (by decide +kernel)) (fun _ h9 => h9) rfl dX7_undo_22 ?_
    refine lv_bipush (v := 13) hx hb dX7_undo_25 (by decide) ?_
    refine lv_iadd hx hb dX7_undo_27 ?_
    refine lv_bipush (v := 14) hx hb dX7_undo_28 (by decide) ?_
    refine lv_irem hx hb dX7_undo_30 (by decide) ?_
    refine va_put (D := D) (ci := 7) (v := .int ((m_next + 13) - (m_next + 13) / 14 * 14)) (ty := .int) (C := RX7) (T := TX7) (N := 24) hx hb hts hiX7 tyX7 tyX7_ok nmX7 hown hE.1 hP hD hS 0 rfl rfl 14 (by decide) (hts (.fieldLink RX7 144 "TiltTrayModel" "next" "I") (by decide +kernel)) (fun _ h9 => h9) rfl (by decide +kernel) rfl rfl (Nat.le_of_ble_eq_true rfl) dX7_undo_31 (fun H locs hP hD hS => ?_)
    have hP : va_P D vwCl (cMd mh m_kindr m_toldr m_nowr m_readToldr m_readCellr m_readKindr m_textr m_rowr m_seenCellr m_seenWayr m_seenCamer m_isKeptr m_keptr cy.1 cy.2.2.1 m_marbles m_kind m_told m_now m_readTold m_readCell m_readKind m_text m_length m_at m_faultAt m_there m_stopped (m_acts - 1) ((m_next + 13) - (m_next + 13) / 14 * 14) m_row m_bestRow m_seen m_seenCell m_seenWay m_seenCame m_seed m_isKept m_kept) H := hP
    have hD : va_D A (cMd mh m_kindr m_toldr m_nowr m_readToldr m_readCellr m_readKindr m_textr m_rowr m_seenCellr m_seenWayr m_seenCamer m_isKeptr m_keptr cy.1 cy.2.2.1 m_marbles m_kind m_told m_now m_readTold m_readCell m_readKind m_text m_length m_at m_faultAt m_there m_stopped (m_acts - 1) ((m_next + 13) - (m_next + 13) / 14 * 14) m_row m_bestRow m_seen m_seenCell m_seenWay m_seenCame m_seed m_isKept m_kept) := hD
    refine lv_iconst (v := 0) hx hb dX7_undo_34 (by decide) ?_
    refine lv_istore_n (lv' := [(1, .int 0), (0, .ref mh)]) hx hb dX7_undo_35 rfl hl (by decide) rfl (fun ls hl => ?_)
    refine lv_iload_n hx hb dX7_undo_36 rfl (lv_at hl 0 rfl) ?_
    refine lv_bipush (v := 7) hx hb dX7_undo_37 (by decide) ?_
    refine lv_icmp_ge (tgt := 68) hx hb dX7_undo_39 (by decide) (fun c2 => absurd c2 (by decide)) (fun _ => ?_)
    refine lv_aload_n hx hb dX7_undo_42 rfl (lv_at hl 1 rfl) ?_
    refine va_get (D := D) (ci := 7) (v := .ref m_nowr) (C := RX7) (T := TX7) (N := 24) hx hb hts hiX7 hown hE.1 hP 0 rfl rfl 3 (by decide) (hts (.fieldLink RX7 16 "TiltTrayModel" "now" "[I") (by decide +kernel)) (fun _ h9 => h9) rfl dX7_undo_43 ?_
    refine lv_iload_n hx hb dX7_undo_46 rfl (lv_at hl 0 rfl) ?_
    refine lv_aload_n hx hb dX7_undo_47 rfl (lv_at hl 1 rfl) ?_
    refine va_get (D := D) (ci := 7) (v := .ref m_rowr) (C := RX7) (T := TX7) (N := 24) hx hb hts hiX7 hown hE.1 hP 0 rfl rfl 15 (by decide) (hts (.fieldLink RX7 35 "TiltTrayModel" "row" "[I") (by decide +kernel)) (fun _ h9 => h9) rfl dX7_undo_48 ?_
    refine lv_bipush (v := 7) hx hb dX7_undo_51 (by decide) ?_
    refine lv_aload_n hx hb dX7_undo_53 rfl (lv_at hl 1 rfl) ?_
    refine va_get (D := D) (ci := 7) (v := .int ((m_next + 13) - (m_next + 13) / 14 * 14)) (C := RX7) (T := TX7) (N := 24) hx hb hts hiX7 hown hE.1 hP 0 rfl rfl 14 (by decide) (hts (.fieldLink RX7 144 "TiltTrayModel" "next" "I") (by decide +kernel)) (fun _ h9 => h9) rfl dX7_undo_54 ?_
    refine lv_imul hx hb dX7_undo_57 ?_
    refine lv_iload_n hx hb dX7_undo_58 rfl (lv_at hl 0 rfl) ?_
    refine lv_iadd hx hb dX7_undo_59 ?_
    obtain ⟨g3, h⟩ := og h
    refine va_iald hx hb hE.1 hP 8 0 rfl rfl (ix_in g3) dX7_undo_60 ?_
    refine va_iast hx hb hE.1 hP hD hS 3 0 rfl rfl (ix_in (by decide)) dX7_undo_61 (fun H locs hP hD hS => ?_)
    have hP : va_P D vwCl (cMd mh m_kindr m_toldr m_nowr m_readToldr m_readCellr m_readKindr m_textr m_rowr m_seenCellr m_seenWayr m_seenCamer m_isKeptr m_keptr cy.1 cy.2.2.1 m_marbles m_kind m_told (upd m_now (0 : Int32).toNatClampNeg (m_row ((7 * ((m_next + 13) - (m_next + 13) / 14 * 14)) + 0).toNatClampNeg)) m_readTold m_readCell m_readKind m_text m_length m_at m_faultAt m_there m_stopped (m_acts - 1) ((m_next + 13) - (m_next + 13) / 14 * 14) m_row m_bestRow m_seen m_seenCell m_seenWay m_seenCame m_seed m_isKept m_kept) H := hP
    have hD : va_D A (cMd mh m_kindr m_toldr m_nowr m_readToldr m_readCellr m_readKindr m_textr m_rowr m_seenCellr m_seenWayr m_seenCamer m_isKeptr m_keptr cy.1 cy.2.2.1 m_marbles m_kind m_told (upd m_now (0 : Int32).toNatClampNeg (m_row ((7 * ((m_next + 13) - (m_next + 13) / 14 * 14)) + 0).toNatClampNeg)) m_readTold m_readCell m_readKind m_text m_length m_at m_faultAt m_there m_stopped (m_acts - 1) ((m_next + 13) - (m_next + 13) / 14 * 14) m_row m_bestRow m_seen m_seenCell m_seenWay m_seenCame m_seed m_isKept m_kept) := hD
    refine lv_iinc (v := 1) (lv' := [(1, .int 1), (0, .ref mh)]) hx hb dX7_undo_62 hl (k := 0) rfl (by decide) (by decide) rfl (fun ls hl => ?_)
    refine lv_goto (tgt := 36) hx hb dX7_undo_65 (by decide) ?_
    refine lv_iload_n hx hb dX7_undo_36 rfl (lv_at hl 0 rfl) ?_
    refine lv_bipush (v := 7) hx hb dX7_undo_37 (by decide) ?_
    refine lv_icmp_ge (tgt := 68) hx hb dX7_undo_39 (by decide) (fun c4 => absurd c4 (by decide)) (fun _ => ?_)
    refine lv_aload_n hx hb dX7_undo_42 rfl (lv_at hl 1 rfl) ?_
    refine va_get (D := D) (ci := 7) (v := .ref m_nowr) (C := RX7) (T := TX7) (N := 24) hx hb hts hiX7 hown hE.1 hP 0 rfl rfl 3 (by decide) (hts (.fieldLink RX7 16 "TiltTrayModel" "now" "[I") (by decide +kernel)) (fun _ h9 => h9) rfl dX7_undo_43 ?_
    refine lv_iload_n hx hb dX7_undo_46 rfl (lv_at hl 0 rfl) ?_
    refine lv_aload_n hx hb dX7_undo_47 rfl (lv_at hl 1 rfl) ?_
    refine va_get (D := D) (ci := 7) (v := .ref m_rowr) (C := RX7) (T := TX7) (N := 24) hx hb hts hiX7 hown hE.1 hP 0 rfl rfl 15 (by decide) (hts (.fieldLink RX7 35 "TiltTrayModel" "row" "[I") (by decide +kernel)) (fun _ h9 => h9) rfl dX7_undo_48 ?_
    refine lv_bipush (v := 7) hx hb dX7_undo_51 (by decide) ?_
    refine lv_aload_n hx hb dX7_undo_53 rfl (lv_at hl 1 rfl) ?_
    refine va_get (D := D) (ci := 7) (v := .int ((m_next + 13) - (m_next + 13) / 14 * 14)) (C := RX7) (T := TX7) (N := 24) hx hb hts hiX7 hown hE.1 hP 0 rfl rfl 14 (by decide) (hts (.fieldLink RX7 144 "TiltTrayModel" "next" "I") (by decide +kernel)) (fun _ h9 => h9) rfl dX7_undo_54 ?_
    refine lv_imul hx hb dX7_undo_57 ?_
    refine lv_iload_n hx hb dX7_undo_58 rfl (lv_at hl 0 rfl) ?_
    refine lv_iadd hx hb dX7_undo_59 ?_
    obtain ⟨g5, h⟩ := og h
    refine va_iald hx hb hE.1 hP 8 0 rfl rfl (ix_in g5) dX7_undo_60 ?_
    refine va_iast hx hb hE.1 hP hD hS 3 0 rfl rfl (ix_in (by decide)) dX7_undo_61 (fun H locs hP hD hS => ?_)
    have hP : va_P D vwCl (cMd mh m_kindr m_toldr m_nowr m_readToldr m_readCellr m_readKindr m_textr m_rowr m_seenCellr m_seenWayr m_seenCamer m_isKeptr m_keptr cy.1 cy.2.2.1 m_marbles m_kind m_told (upd (upd m_now (0 : Int32).toNatClampNeg (m_row ((7 * ((m_next + 13) - (m_next + 13) / 14 * 14)) + 0).toNatClampNeg)) (1 : Int32).toNatClampNeg (m_row ((7 * ((m_next + 13) - (m_next + 13) / 14 * 14)) + 1).toNatClampNeg)) m_readTold m_readCell m_readKind m_text m_length m_at m_faultAt m_there m_stopped (m_acts - 1) ((m_next + 13) - (m_next + 13) / 14 * 14) m_row m_bestRow m_seen m_seenCell m_seenWay m_seenCame m_seed m_isKept m_kept) H := hP
    have hD : va_D A (cMd mh m_kindr m_toldr m_nowr m_readToldr m_readCellr m_readKindr m_textr m_rowr m_seenCellr m_seenWayr m_seenCamer m_isKeptr m_keptr cy.1 cy.2.2.1 m_marbles m_kind m_told (upd (upd m_now (0 : Int32).toNatClampNeg (m_row ((7 * ((m_next + 13) - (m_next + 13) / 14 * 14)) + 0).toNatClampNeg)) (1 : Int32).toNatClampNeg (m_row ((7 * ((m_next + 13) - (m_next + 13) / 14 * 14)) + 1).toNatClampNeg)) m_readTold m_readCell m_readKind m_text m_length m_at m_faultAt m_there m_stopped (m_acts - 1) ((m_next + 13) - (m_next + 13) / 14 * 14) m_row m_bestRow m_seen m_seenCell m_seenWay m_seenCame m_seed m_isKept m_kept) := hD
    refine lv_iinc (v := 2) (lv' := [(1, .int 2), (0, .ref mh)]) hx hb dX7_undo_62 hl (k := 0) rfl (by decide) (by decide) rfl (fun ls hl => ?_)
    refine lv_goto (tgt := 36) hx hb dX7_undo_65 (by decide) ?_
    refine lv_iload_n hx hb dX7_undo_36 rfl (lv_at hl 0 rfl) ?_
    refine lv_bipush (v := 7) hx hb dX7_undo_37 (by decide) ?_
    refine lv_icmp_ge (tgt := 68) hx hb dX7_undo_39 (by decide) (fun c6 => absurd c6 (by decide)) (fun _ => ?_)
    refine lv_aload_n hx hb dX7_undo_42 rfl (lv_at hl 1 rfl) ?_
    refine va_get (D := D) (ci := 7) (v := .ref m_nowr) (C := RX7) (T := TX7) (N := 24) hx hb hts hiX7 hown hE.1 hP 0 rfl rfl 3 (by decide) (hts (.fieldLink RX7 16 "TiltTrayModel" "now" "[I") (by decide +kernel)) (fun _ h9 => h9) rfl dX7_undo_43 ?_
    refine lv_iload_n hx hb dX7_undo_46 rfl (lv_at hl 0 rfl) ?_
    refine lv_aload_n hx hb dX7_undo_47 rfl (lv_at hl 1 rfl) ?_
    refine va_get (D := D) (ci := 7) (v := .ref m_rowr) (C := RX7) (T := TX7) (N := 24) hx hb hts hiX7 hown hE.1 hP 0 rfl rfl 15 (by decide) (hts (.fieldLink RX7 35 "TiltTrayModel" "row" "[I") (by decide +kernel)) (fun _ h9 => h9) rfl dX7_undo_48 ?_
    refine lv_bipush (v := 7) hx hb dX7_undo_51 (by decide) ?_
    refine lv_aload_n hx hb dX7_undo_53 rfl (lv_at hl 1 rfl) ?_
    refine va_get (D := D) (ci := 7) (v := .int ((m_next + 13) - (m_next + 13) / 14 * 14)) (C := RX7) (T := TX7) (N := 24) hx hb hts hiX7 hown hE.1 hP 0 rfl rfl 14 (by decide) (hts (.fieldLink RX7 144 "TiltTrayModel" "next" "I") (by decide +kernel)) (fun _ h9 => h9) rfl dX7_undo_54 ?_
    refine lv_imul hx hb dX7_undo_57 ?_
    refine lv_iload_n hx hb dX7_undo_58 rfl (lv_at hl 0 rfl) ?_
    refine lv_iadd hx hb dX7_undo_59 ?_
    obtain ⟨g7, h⟩ := og h
    refine va_iald hx hb hE.1 hP 8 0 rfl rfl (ix_in g7) dX7_undo_60 ?_
    refine va_iast hx hb hE.1 hP hD hS 3 0 rfl rfl (ix_in (by decide)) dX7_undo_61 (fun H locs hP hD hS => ?_)
    have hP : va_P D vwCl (cMd mh m_kindr m_toldr m_nowr m_readToldr m_readCellr m_readKindr m_textr m_rowr m_seenCellr m_seenWayr m_seenCamer m_isKeptr m_keptr cy.1 cy.2.2.1 m_marbles m_kind m_told (upd (upd (upd m_now (0 : Int32).toNatClampNeg (m_row ((7 * ((m_next + 13) - (m_next + 13) / 14 * 14)) + 0).toNatClampNeg)) (1 : Int32).toNatClampNeg (m_row ((7 * ((m_next + 13) - (m_next + 13) / 14 * 14)) + 1).toNatClampNeg)) (2 : Int32).toNatClampNeg (m_row ((7 * ((m_next + 13) - (m_next + 13) / 14 * 14)) + 2).toNatClampNeg)) m_readTold m_readCell m_readKind m_text m_length m_at m_faultAt m_there m_stopped (m_acts - 1) ((m_next + 13) - (m_next + 13) / 14 * 14) m_row m_bestRow m_seen m_seenCell m_seenWay m_seenCame m_seed m_isKept m_kept) H := hP
    have hD : va_D A (cMd mh m_kindr m_toldr m_nowr m_readToldr m_readCellr m_readKindr m_textr m_rowr m_seenCellr m_seenWayr m_seenCamer m_isKeptr m_keptr cy.1 cy.2.2.1 m_marbles m_kind m_told (upd (upd (upd m_now (0 : Int32).toNatClampNeg (m_row ((7 * ((m_next + 13) - (m_next + 13) / 14 * 14)) + 0).toNatClampNeg)) (1 : Int32).toNatClampNeg (m_row ((7 * ((m_next + 13) - (m_next + 13) / 14 * 14)) + 1).toNatClampNeg)) (2 : Int32).toNatClampNeg (m_row ((7 * ((m_next + 13) - (m_next + 13) / 14 * 14)) + 2).toNatClampNeg)) m_readTold m_readCell m_readKind m_text m_length m_at m_faultAt m_there m_stopped (m_acts - 1) ((m_next + 13) - (m_next + 13) / 14 * 14) m_row m_bestRow m_seen m_seenCell m_seenWay m_seenCame m_seed m_isKept m_kept) := hD
    refine lv_iinc (v := 3) (lv' := [(1, .int 3), (0, .ref mh)]) hx hb dX7_undo_62 hl (k := 0) rfl (by decide) (by decide) rfl (fun ls hl => ?_)
    refine lv_goto (tgt := 36) hx hb dX7_undo_65 (by decide) ?_
    refine lv_iload_n hx hb dX7_undo_36 rfl (lv_at hl 0 rfl) ?_
    refine lv_bipush (v := 7) hx hb dX7_undo_37 (by decide) ?_
    refine lv_icmp_ge (tgt := 68) hx hb dX7_undo_39 (by decide) (fun c8 => absurd c8 (by decide)) (fun _ => ?_)
    refine lv_aload_n hx hb dX7_undo_42 rfl (lv_at hl 1 rfl) ?_
    refine va_get (D := D) (ci := 7) (v := .ref m_nowr) (C := RX7) (T := TX7) (N := 24) hx hb hts hiX7 hown hE.1 hP 0 rfl rfl 3 (by decide) (hts (.fieldLink RX7 16 "TiltTrayModel" "now" "[I") (by decide +kernel)) (fun _ h9 => h9) rfl dX7_undo_43 ?_
    refine lv_iload_n hx hb dX7_undo_46 rfl (lv_at hl 0 rfl) ?_
    refine lv_aload_n hx hb dX7_undo_47 rfl (lv_at hl 1 rfl) ?_
    refine va_get (D := D) (ci := 7) (v := .ref m_rowr) (C := RX7) (T := TX7) (N := 24) hx hb hts hiX7 hown hE.1 hP 0 rfl rfl 15 (by decide) (hts (.fieldLink RX7 35 "TiltTrayModel" "row" "[I") (by decide +kernel)) (fun _ h9 => h9) rfl dX7_undo_48 ?_
    refine lv_bipush (v := 7) hx hb dX7_undo_51 (by decide) ?_
    refine lv_aload_n hx hb dX7_undo_53 rfl (lv_at hl 1 rfl) ?_
    refine va_get (D := D) (ci := 7) (v := .int ((m_next + 13) - (m_next + 13) / 14 * 14)) (C := RX7) (T := TX7) (N := 24) hx hb hts hiX7 hown hE.1 hP 0 rfl rfl 14 (by decide) (hts (.fieldLink RX7 144 "TiltTrayModel" "next" "I") (by decide +kernel)) (fun _ h9 => h9) rfl dX7_undo_54 ?_
    refine lv_imul hx hb dX7_undo_57 ?_
    refine lv_iload_n hx hb dX7_undo_58 rfl (lv_at hl 0 rfl) ?_
    refine lv_iadd hx hb dX7_undo_59 ?_
    obtain ⟨g9, h⟩ := og h
    refine va_iald hx hb hE.1 hP 8 0 rfl rfl (ix_in g9) dX7_undo_60 ?_
    refine va_iast hx hb hE.1 hP hD hS 3 0 rfl rfl (ix_in (by decide)) dX7_undo_61 (fun H locs hP hD hS => ?_)
    have hP : va_P D vwCl (cMd mh m_kindr m_toldr m_nowr m_readToldr m_readCellr m_readKindr m_textr m_rowr m_seenCellr m_seenWayr m_seenCamer m_isKeptr m_keptr cy.1 cy.2.2.1 m_marbles m_kind m_told (upd (upd (upd (upd m_now (0 : Int32).toNatClampNeg (m_row ((7 * ((m_next + 13) - (m_next + 13) / 14 * 14)) + 0).toNatClampNeg)) (1 : Int32).toNatClampNeg (m_row ((7 * ((m_next + 13) - (m_next + 13) / 14 * 14)) + 1).toNatClampNeg)) (2 : Int32).toNatClampNeg (m_row ((7 * ((m_next + 13) - (m_next + 13) / 14 * 14)) + 2).toNatClampNeg)) (3 : Int32).toNatClampNeg (m_row ((7 * ((m_next + 13) - (m_next + 13) / 14 * 14)) + 3).toNatClampNeg)) m_readTold m_readCell m_readKind m_text m_length m_at m_faultAt m_there m_stopped (m_acts - 1) ((m_next + 13) - (m_next + 13) / 14 * 14) m_row m_bestRow m_seen m_seenCell m_seenWay m_seenCame m_seed m_isKept m_kept) H := hP
    have hD : va_D A (cMd mh m_kindr m_toldr m_nowr m_readToldr m_readCellr m_readKindr m_textr m_rowr m_seenCellr m_seenWayr m_seenCamer m_isKeptr m_keptr cy.1 cy.2.2.1 m_marbles m_kind m_told (upd (upd (upd (upd m_now (0 : Int32).toNatClampNeg (m_row ((7 * ((m_next + 13) - (m_next + 13) / 14 * 14)) + 0).toNatClampNeg)) (1 : Int32).toNatClampNeg (m_row ((7 * ((m_next + 13) - (m_next + 13) / 14 * 14)) + 1).toNatClampNeg)) (2 : Int32).toNatClampNeg (m_row ((7 * ((m_next + 13) - (m_next + 13) / 14 * 14)) + 2).toNatClampNeg)) (3 : Int32).toNatClampNeg (m_row ((7 * ((m_next + 13) - (m_next + 13) / 14 * 14)) + 3).toNatClampNeg)) m_readTold m_readCell m_readKind m_text m_length m_at m_faultAt m_there m_stopped (m_acts - 1) ((m_next + 13) - (m_next + 13) / 14 * 14) m_row m_bestRow m_seen m_seenCell m_seenWay m_seenCame m_seed m_isKept m_kept) := hD
    refine lv_iinc (v := 4) (lv' := [(1, .int 4), (0, .ref mh)]) hx hb dX7_undo_62 hl (k := 0) rfl (by decide) (by decide) rfl (fun ls hl => ?_)
    refine lv_goto (tgt := 36) hx hb dX7_undo_65 (by decide) ?_
    refine lv_iload_n hx hb dX7_undo_36 rfl (lv_at hl 0 rfl) ?_
    refine lv_bipush (v := 7) hx hb dX7_undo_37 (by decide) ?_
    refine lv_icmp_ge (tgt := 68) hx hb dX7_undo_39 (by decide) (fun c10 => absurd c10 (by decide)) (fun _ => ?_)
    refine lv_aload_n hx hb dX7_undo_42 rfl (lv_at hl 1 rfl) ?_
    refine va_get (D := D) (ci := 7) (v := .ref m_nowr) (C := RX7) (T := TX7) (N := 24) hx hb hts hiX7 hown hE.1 hP 0 rfl rfl 3 (by decide) (hts (.fieldLink RX7 16 "TiltTrayModel" "now" "[I") (by decide +kernel)) (fun _ h9 => h9) rfl dX7_undo_43 ?_
    refine lv_iload_n hx hb dX7_undo_46 rfl (lv_at hl 0 rfl) ?_
    refine lv_aload_n hx hb dX7_undo_47 rfl (lv_at hl 1 rfl) ?_
    refine va_get (D := D) (ci := 7) (v := .ref m_rowr) (C := RX7) (T := TX7) (N := 24) hx hb hts hiX7 hown hE.1 hP 0 rfl rfl 15 (by decide) (hts (.fieldLink RX7 35 "TiltTrayModel" "row" "[I") (by decide +kernel)) (fun _ h9 => h9) rfl dX7_undo_48 ?_
    refine lv_bipush (v := 7) hx hb dX7_undo_51 (by decide) ?_
    refine lv_aload_n hx hb dX7_undo_53 rfl (lv_at hl 1 rfl) ?_
    refine va_get (D := D) (ci := 7) (v := .int ((m_next + 13) - (m_next + 13) / 14 * 14)) (C := RX7) (T := TX7) (N := 24) hx hb hts hiX7 hown hE.1 hP 0 rfl rfl 14 (by decide) (hts (.fieldLink RX7 144 "TiltTrayModel" "next" "I") (by decide +kernel)) (fun _ h9 => h9) rfl dX7_undo_54 ?_
    refine lv_imul hx hb dX7_undo_57 ?_
    refine lv_iload_n hx hb dX7_undo_58 rfl (lv_at hl 0 rfl) ?_
    refine lv_iadd hx hb dX7_undo_59 ?_
    obtain ⟨g11, h⟩ := og h
    refine va_iald hx hb hE.1 hP 8 0 rfl rfl (ix_in g11) dX7_undo_60 ?_
    refine va_iast hx hb hE.1 hP hD hS 3 0 rfl rfl (ix_in (by decide)) dX7_undo_61 (fun H locs hP hD hS => ?_)
    have hP : va_P D vwCl (cMd mh m_kindr m_toldr m_nowr m_readToldr m_readCellr m_readKindr m_textr m_rowr m_seenCellr m_seenWayr m_seenCamer m_isKeptr m_keptr cy.1 cy.2.2.1 m_marbles m_kind m_told (upd (upd (upd (upd (upd m_now (0 : Int32).toNatClampNeg (m_row ((7 * ((m_next + 13) - (m_next + 13) / 14 * 14)) + 0).toNatClampNeg)) (1 : Int32).toNatClampNeg (m_row ((7 * ((m_next + 13) - (m_next + 13) / 14 * 14)) + 1).toNatClampNeg)) (2 : Int32).toNatClampNeg (m_row ((7 * ((m_next + 13) - (m_next + 13) / 14 * 14)) + 2).toNatClampNeg)) (3 : Int32).toNatClampNeg (m_row ((7 * ((m_next + 13) - (m_next + 13) / 14 * 14)) + 3).toNatClampNeg)) (4 : Int32).toNatClampNeg (m_row ((7 * ((m_next + 13) - (m_next + 13) / 14 * 14)) + 4).toNatClampNeg)) m_readTold m_readCell m_readKind m_text m_length m_at m_faultAt m_there m_stopped (m_acts - 1) ((m_next + 13) - (m_next + 13) / 14 * 14) m_row m_bestRow m_seen m_seenCell m_seenWay m_seenCame m_seed m_isKept m_kept) H := hP
    have hD : va_D A (cMd mh m_kindr m_toldr m_nowr m_readToldr m_readCellr m_readKindr m_textr m_rowr m_seenCellr m_seenWayr m_seenCamer m_isKeptr m_keptr cy.1 cy.2.2.1 m_marbles m_kind m_told (upd (upd (upd (upd (upd m_now (0 : Int32).toNatClampNeg (m_row ((7 * ((m_next + 13) - (m_next + 13) / 14 * 14)) + 0).toNatClampNeg)) (1 : Int32).toNatClampNeg (m_row ((7 * ((m_next + 13) - (m_next + 13) / 14 * 14)) + 1).toNatClampNeg)) (2 : Int32).toNatClampNeg (m_row ((7 * ((m_next + 13) - (m_next + 13) / 14 * 14)) + 2).toNatClampNeg)) (3 : Int32).toNatClampNeg (m_row ((7 * ((m_next + 13) - (m_next + 13) / 14 * 14)) + 3).toNatClampNeg)) (4 : Int32).toNatClampNeg (m_row ((7 * ((m_next + 13) - (m_next + 13) / 14 * 14)) + 4).toNatClampNeg)) m_readTold m_readCell m_readKind m_text m_length m_at m_faultAt m_there m_stopped (m_acts - 1) ((m_next + 13) - (m_next + 13) / 14 * 14) m_row m_bestRow m_seen m_seenCell m_seenWay m_seenCame m_seed m_isKept m_kept) := hD
    refine lv_iinc (v := 5) (lv' := [(1, .int 5), (0, .ref mh)]) hx hb dX7_undo_62 hl (k := 0) rfl (by decide) (by decide) rfl (fun ls hl => ?_)
    refine lv_goto (tgt := 36) hx hb dX7_undo_65 (by decide) ?_
    refine lv_iload_n hx hb dX7_undo_36 rfl (lv_at hl 0 rfl) ?_
    refine lv_bipush (v := 7) hx hb dX7_undo_37 (by decide) ?_
    refine lv_icmp_ge (tgt := 68) hx hb dX7_undo_39 (by decide) (fun c12 => absurd c12 (by decide)) (fun _ => ?_)
    refine lv_aload_n hx hb dX7_undo_42 rfl (lv_at hl 1 rfl) ?_
    refine va_get (D := D) (ci := 7) (v := .ref m_nowr) (C := RX7) (T := TX7) (N := 24) hx hb hts hiX7 hown hE.1 hP 0 rfl rfl 3 (by decide) (hts (.fieldLink RX7 16 "TiltTrayModel" "now" "[I") (by decide +kernel)) (fun _ h9 => h9) rfl dX7_undo_43 ?_
    refine lv_iload_n hx hb dX7_undo_46 rfl (lv_at hl 0 rfl) ?_
    refine lv_aload_n hx hb dX7_undo_47 rfl (lv_at hl 1 rfl) ?_
    refine va_get (D := D) (ci := 7) (v := .ref m_rowr) (C := RX7) (T := TX7) (N := 24) hx hb hts hiX7 hown hE.1 hP 0 rfl rfl 15 (by decide) (hts (.fieldLink RX7 35 "TiltTrayModel" "row" "[I") (by decide +kernel)) (fun _ h9 => h9) rfl dX7_undo_48 ?_
    refine lv_bipush (v := 7) hx hb dX7_undo_51 (by decide) ?_
    refine lv_aload_n hx hb dX7_undo_53 rfl (lv_at hl 1 rfl) ?_
    refine va_get (D := D) (ci := 7) (v := .int ((m_next + 13) - (m_next + 13) / 14 * 14)) (C := RX7) (T := TX7) (N := 24) hx hb hts hiX7 hown hE.1 hP 0 rfl rfl 14 (by decide) (hts (.fieldLink RX7 144 "TiltTrayModel" "next" "I") (by decide +kernel)) (fun _ h9 => h9) rfl dX7_undo_54 ?_
    refine lv_imul hx hb dX7_undo_57 ?_
    refine lv_iload_n hx hb dX7_undo_58 rfl (lv_at hl 0 rfl) ?_
    refine lv_iadd hx hb dX7_undo_59 ?_
    obtain ⟨g13, h⟩ := og h
    refine va_iald hx hb hE.1 hP 8 0 rfl rfl (ix_in g13) dX7_undo_60 ?_
    refine va_iast hx hb hE.1 hP hD hS 3 0 rfl rfl (ix_in (by decide)) dX7_undo_61 (fun H locs hP hD hS => ?_)
    have hP : va_P D vwCl (cMd mh m_kindr m_toldr m_nowr m_readToldr m_readCellr m_readKindr m_textr m_rowr m_seenCellr m_seenWayr m_seenCamer m_isKeptr m_keptr cy.1 cy.2.2.1 m_marbles m_kind m_told (upd (upd (upd (upd (upd (upd m_now (0 : Int32).toNatClampNeg (m_row ((7 * ((m_next + 13) - (m_next + 13) / 14 * 14)) + 0).toNatClampNeg)) (1 : Int32).toNatClampNeg (m_row ((7 * ((m_next + 13) - (m_next + 13) / 14 * 14)) + 1).toNatClampNeg)) (2 : Int32).toNatClampNeg (m_row ((7 * ((m_next + 13) - (m_next + 13) / 14 * 14)) + 2).toNatClampNeg)) (3 : Int32).toNatClampNeg (m_row ((7 * ((m_next + 13) - (m_next + 13) / 14 * 14)) + 3).toNatClampNeg)) (4 : Int32).toNatClampNeg (m_row ((7 * ((m_next + 13) - (m_next + 13) / 14 * 14)) + 4).toNatClampNeg)) (5 : Int32).toNatClampNeg (m_row ((7 * ((m_next + 13) - (m_next + 13) / 14 * 14)) + 5).toNatClampNeg)) m_readTold m_readCell m_readKind m_text m_length m_at m_faultAt m_there m_stopped (m_acts - 1) ((m_next + 13) - (m_next + 13) / 14 * 14) m_row m_bestRow m_seen m_seenCell m_seenWay m_seenCame m_seed m_isKept m_kept) H := hP
    have hD : va_D A (cMd mh m_kindr m_toldr m_nowr m_readToldr m_readCellr m_readKindr m_textr m_rowr m_seenCellr m_seenWayr m_seenCamer m_isKeptr m_keptr cy.1 cy.2.2.1 m_marbles m_kind m_told (upd (upd (upd (upd (upd (upd m_now (0 : Int32).toNatClampNeg (m_row ((7 * ((m_next + 13) - (m_next + 13) / 14 * 14)) + 0).toNatClampNeg)) (1 : Int32).toNatClampNeg (m_row ((7 * ((m_next + 13) - (m_next + 13) / 14 * 14)) + 1).toNatClampNeg)) (2 : Int32).toNatClampNeg (m_row ((7 * ((m_next + 13) - (m_next + 13) / 14 * 14)) + 2).toNatClampNeg)) (3 : Int32).toNatClampNeg (m_row ((7 * ((m_next + 13) - (m_next + 13) / 14 * 14)) + 3).toNatClampNeg)) (4 : Int32).toNatClampNeg (m_row ((7 * ((m_next + 13) - (m_next + 13) / 14 * 14)) + 4).toNatClampNeg)) (5 : Int32).toNatClampNeg (m_row ((7 * ((m_next + 13) - (m_next + 13) / 14 * 14)) + 5).toNatClampNeg)) m_readTold m_readCell m_readKind m_text m_length m_at m_faultAt m_there m_stopped (m_acts - 1) ((m_next + 13) - (m_next + 13) / 14 * 14) m_row m_bestRow m_seen m_seenCell m_seenWay m_seenCame m_seed m_isKept m_kept) := hD
    refine lv_iinc (v := 6) (lv' := [(1, .int 6), (0, .ref mh)]) hx hb dX7_undo_62 hl (k := 0) rfl (by decide) (by decide) rfl (fun ls hl => ?_)
    refine lv_goto (tgt := 36) hx hb dX7_undo_65 (by decide) ?_
    refine lv_iload_n hx hb dX7_undo_36 rfl (lv_at hl 0 rfl) ?_
    refine lv_bipush (v := 7) hx hb dX7_undo_37 (by decide) ?_
    refine lv_icmp_ge (tgt := 68) hx hb dX7_undo_39 (by decide) (fun c14 => absurd c14 (by decide)) (fun _ => ?_)
    refine lv_aload_n hx hb dX7_undo_42 rfl (lv_at hl 1 rfl) ?_
    refine va_get (D := D) (ci := 7) (v := .ref m_nowr) (C := RX7) (T := TX7) (N := 24) hx hb hts hiX7 hown hE.1 hP 0 rfl rfl 3 (by decide) (hts (.fieldLink RX7 16 "TiltTrayModel" "now" "[I") (by decide +kernel)) (fun _ h9 => h9) rfl dX7_undo_43 ?_
    refine lv_iload_n hx hb dX7_undo_46 rfl (lv_at hl 0 rfl) ?_
    refine lv_aload_n hx hb dX7_undo_47 rfl (lv_at hl 1 rfl) ?_
    refine va_get (D := D) (ci := 7) (v := .ref m_rowr) (C := RX7) (T := TX7) (N := 24) hx hb hts hiX7 hown hE.1 hP 0 rfl rfl 15 (by decide) (hts (.fieldLink RX7 35 "TiltTrayModel" "row" "[I") (by decide +kernel)) (fun _ h9 => h9) rfl dX7_undo_48 ?_
    refine lv_bipush (v := 7) hx hb dX7_undo_51 (by decide) ?_
    refine lv_aload_n hx hb dX7_undo_53 rfl (lv_at hl 1 rfl) ?_
    refine va_get (D := D) (ci := 7) (v := .int ((m_next + 13) - (m_next + 13) / 14 * 14)) (C := RX7) (T := TX7) (N := 24) hx hb hts hiX7 hown hE.1 hP 0 rfl rfl 14 (by decide) (hts (.fieldLink RX7 144 "TiltTrayModel" "next" "I") (by decide +kernel)) (fun _ h9 => h9) rfl dX7_undo_54 ?_
    refine lv_imul hx hb dX7_undo_57 ?_
    refine lv_iload_n hx hb dX7_undo_58 rfl (lv_at hl 0 rfl) ?_
    refine lv_iadd hx hb dX7_undo_59 ?_
    obtain ⟨g15, h⟩ := og h
    refine va_iald hx hb hE.1 hP 8 0 rfl rfl (ix_in g15) dX7_undo_60 ?_
    refine va_iast hx hb hE.1 hP hD hS 3 0 rfl rfl (ix_in (by decide)) dX7_undo_61 (fun H locs hP hD hS => ?_)
    have hP : va_P D vwCl (cMd mh m_kindr m_toldr m_nowr m_readToldr m_readCellr m_readKindr m_textr m_rowr m_seenCellr m_seenWayr m_seenCamer m_isKeptr m_keptr cy.1 cy.2.2.1 m_marbles m_kind m_told (upd (upd (upd (upd (upd (upd (upd m_now (0 : Int32).toNatClampNeg (m_row ((7 * ((m_next + 13) - (m_next + 13) / 14 * 14)) + 0).toNatClampNeg)) (1 : Int32).toNatClampNeg (m_row ((7 * ((m_next + 13) - (m_next + 13) / 14 * 14)) + 1).toNatClampNeg)) (2 : Int32).toNatClampNeg (m_row ((7 * ((m_next + 13) - (m_next + 13) / 14 * 14)) + 2).toNatClampNeg)) (3 : Int32).toNatClampNeg (m_row ((7 * ((m_next + 13) - (m_next + 13) / 14 * 14)) + 3).toNatClampNeg)) (4 : Int32).toNatClampNeg (m_row ((7 * ((m_next + 13) - (m_next + 13) / 14 * 14)) + 4).toNatClampNeg)) (5 : Int32).toNatClampNeg (m_row ((7 * ((m_next + 13) - (m_next + 13) / 14 * 14)) + 5).toNatClampNeg)) (6 : Int32).toNatClampNeg (m_row ((7 * ((m_next + 13) - (m_next + 13) / 14 * 14)) + 6).toNatClampNeg)) m_readTold m_readCell m_readKind m_text m_length m_at m_faultAt m_there m_stopped (m_acts - 1) ((m_next + 13) - (m_next + 13) / 14 * 14) m_row m_bestRow m_seen m_seenCell m_seenWay m_seenCame m_seed m_isKept m_kept) H := hP
    have hD : va_D A (cMd mh m_kindr m_toldr m_nowr m_readToldr m_readCellr m_readKindr m_textr m_rowr m_seenCellr m_seenWayr m_seenCamer m_isKeptr m_keptr cy.1 cy.2.2.1 m_marbles m_kind m_told (upd (upd (upd (upd (upd (upd (upd m_now (0 : Int32).toNatClampNeg (m_row ((7 * ((m_next + 13) - (m_next + 13) / 14 * 14)) + 0).toNatClampNeg)) (1 : Int32).toNatClampNeg (m_row ((7 * ((m_next + 13) - (m_next + 13) / 14 * 14)) + 1).toNatClampNeg)) (2 : Int32).toNatClampNeg (m_row ((7 * ((m_next + 13) - (m_next + 13) / 14 * 14)) + 2).toNatClampNeg)) (3 : Int32).toNatClampNeg (m_row ((7 * ((m_next + 13) - (m_next + 13) / 14 * 14)) + 3).toNatClampNeg)) (4 : Int32).toNatClampNeg (m_row ((7 * ((m_next + 13) - (m_next + 13) / 14 * 14)) + 4).toNatClampNeg)) (5 : Int32).toNatClampNeg (m_row ((7 * ((m_next + 13) - (m_next + 13) / 14 * 14)) + 5).toNatClampNeg)) (6 : Int32).toNatClampNeg (m_row ((7 * ((m_next + 13) - (m_next + 13) / 14 * 14)) + 6).toNatClampNeg)) m_readTold m_readCell m_readKind m_text m_length m_at m_faultAt m_there m_stopped (m_acts - 1) ((m_next + 13) - (m_next + 13) / 14 * 14) m_row m_bestRow m_seen m_seenCell m_seenWay m_seenCame m_seed m_isKept m_kept) := hD
    refine lv_iinc (v := 7) (lv' := [(1, .int 7), (0, .ref mh)]) hx hb dX7_undo_62 hl (k := 0) rfl (by decide) (by decide) rfl (fun ls hl => ?_)
    refine lv_goto (tgt := 36) hx hb dX7_undo_65 (by decide) ?_
    refine lv_iload_n hx hb dX7_undo_36 rfl (lv_at hl 0 rfl) ?_
    refine lv_bipush (v := 7) hx hb dX7_undo_37 (by decide) ?_
    refine lv_icmp_ge (tgt := 68) hx hb dX7_undo_39 (by decide) (fun _ => ?_) (fun c16 => absurd c16 (by decide))
    refine lv_aload_n hx hb dX7_undo_68 rfl (lv_at hl 1 rfl) ?_
    refine va_get (D := D) (ci := 7) (v := .int (m_acts - 1)) (C := RX7) (T := TX7) (N := 24) hx hb hts hiX7 hown hE.1 hP 0 rfl rfl 13 (by decide) (hts (.fieldLink RX7 95 "TiltTrayModel" "acts" "I") (by decide +kernel)) (fun _ h9 => h9) rfl dX7_undo_69 ?_
    obtain rfl := Option.some.inj h
    rw [hQ]; exact ct_iret hx hb hr hlocks hP hS rfl dX7_undo_72
  · have h := oit h c1
    refine lv_bipush (v := (-3)) hx hb dX7_undo_7 (by decide) ?_
    obtain rfl := Option.some.inj h
    rw [hQ]; exact ct_iret hx hb hr hlocks hP hS rfl dX7_undo_9

def tw_X7_rolls (m_marbles : Int32) (m_kind : Nat → Int32) (m_told : Nat → Int32) (m_now : Nat → Int32) (m_there : Int32) (m_stopped : Int32) (p1 : Int32) (p2 : Int32) : Option (Int32 × (Nat → Int32) × Int32) :=
  (tw_X7_isMarble m_marbles p1).bind (fun q1 => if q1 = 0 then (some ((-1), m_now, m_stopped)) else ((tw_X7_in p2.toInt64 0 3).bind (fun q3 => if q3 = 0 then (some ((-2), m_now, m_stopped)) else ((tw_X7_layTrial m_now).bind (fun q5 => (tw_X7_tiltOn m_marbles m_kind m_told q5 m_there m_stopped 1 p2).bind (fun q6 => if ix (7 + p1) 14 = true then (some (q6.2.1 (7 + p1).toNatClampNeg, q6.2.1, q6.2.2)) else none))))))
set_option maxHeartbeats 4000000 in
set_option maxRecDepth 100000 in
theorem c_X7_rolls (l : Launch) (D : va_G) (cy : Cy) (mh : Nat) (m_kindr : Nat) (m_toldr : Nat) (m_nowr : Nat) (m_readToldr : Nat) (m_readCellr : Nat) (m_readKindr : Nat) (m_textr : Nat) (m_rowr : Nat) (m_seenCellr : Nat) (m_seenWayr : Nat) (m_seenCamer : Nat) (m_isKeptr : Nat) (m_keptr : Nat) (m_marbles : Int32) (m_kind : Nat → Int32) (m_told : Nat → Int32) (m_now : Nat → Int32) (m_readTold : Nat → Int32) (m_readCell : Nat → Int32) (m_readKind : Nat → Int32) (m_text : Nat → Int32) (m_length : Int32) (m_at : Int32) (m_faultAt : Int32) (m_there : Int32) (m_stopped : Int32) (m_acts : Int32) (m_next : Int32) (m_row : Nat → Int32) (m_bestRow : Int32) (m_seen : Int32) (m_seenCell : Nat → Int32) (m_seenWay : Nat → Int32) (m_seenCame : Nat → Int32) (m_seed : Int64) (m_isKept : Nat → Int32) (m_kept : Nat → Int32) (p1 : Int32) (p2 : Int32) (res : Int32 × (Nat → Int32) × Int32) (h : tw_X7_rolls m_marbles m_kind m_told m_now m_there m_stopped p1 p2 = some res) : Ct l yX7_rolls wsX7_rolls 6 140 D cy [.ref mh, .int p1, .int p2] (cMd mh m_kindr m_toldr m_nowr m_readToldr m_readCellr m_readKindr m_textr m_rowr m_seenCellr m_seenWayr m_seenCamer m_isKeptr m_keptr cy.1 cy.2.2.1 m_marbles m_kind m_told m_now m_readTold m_readCell m_readKind m_text m_length m_at m_faultAt m_there m_stopped m_acts m_next m_row m_bestRow m_seen m_seenCell m_seenWay m_seenCame m_seed m_isKept m_kept) (cMd mh m_kindr m_toldr m_nowr m_readToldr m_readCellr m_readKindr m_textr m_rowr m_seenCellr m_seenWayr m_seenCamer m_isKeptr m_keptr cy.1 cy.2.2.1 m_marbles m_kind m_told res.2.1 m_readTold m_readCell m_readKind m_text m_length m_at m_faultAt m_there res.2.2 m_acts m_next m_row m_bestRow m_seen m_seenCell m_seenWay m_seenCame m_seed m_isKept m_kept) (some (.int res.1)) := by
  refine Ct.ofW (cc := cX7_rolls) (maxL := 3) (ret := (some .int)) (by decide) rfl (Nat.le_of_ble_eq_true rfl) ?_
  intro p e R s m args below meth c A Q ls hRf hRl hQ hx hb hr hml hts hown hlocks hE hP hD hS hA hl
  have hiX7 : ∀ w ∈ u_ws RX7 TX7 24, w ∈ wsX7_rolls := by decide +kernel
  have hl : lv_has ls 3 [(0, .ref mh), (1, .int p1), (2, .int p2)] := hl
  rw [tw_X7_rolls] at h
  refine lv_aload_n hx hb dX7_rolls_0 rfl (lv_at hl 0 rfl) ?_
  refine lv_iload_n hx hb dX7_rolls_1 rfl (lv_at hl 1 rfl) ?_
  obtain ⟨q1, hq1, h⟩ := ob h
  refine kV (As := [.int p1]) (rest := []) (w2 := cMd mh m_kindr m_toldr m_nowr m_readToldr m_readCellr m_readKindr m_textr m_rowr m_seenCellr m_seenWayr m_seenCamer m_isKeptr m_keptr cy.1 cy.2.2.1 m_marbles m_kind m_told m_now m_readTold m_readCell m_readKind m_text m_length m_at m_faultAt m_there m_stopped m_acts m_next m_row m_bestRow m_seen m_seenCell m_seenWay m_seenCame m_seed m_isKept m_kept) (n := 1) (q0 := 0) ⟨hx, hb, hml, hown, hts⟩ (c_X7_isMarble l D cy mh m_kindr m_toldr m_nowr m_readToldr m_readCellr m_readKindr m_textr m_rowr m_seenCellr m_seenWayr m_seenCamer m_isKeptr m_keptr m_marbles m_kind m_told m_now m_readTold m_readCell m_readKind m_text m_length m_at m_faultAt m_there m_stopped m_acts m_next m_row m_bestRow m_seen m_seenCell m_seenWay m_seenCame m_seed m_isKept m_kept p1 q1 hq1) gX7_rolls_X7_isMarble rfl (by decide +kernel) ⟨by rw [hRf]; exact Nat.le_of_ble_eq_true rfl, by rw [hRl]; exact Nat.le_of_ble_eq_true rfl⟩ hE hP hD hS hA [0, 1, 2, 3, 4, 5, 6, 7, 8, 9, 10, 11, 12, 13] rfl rfl rfl rfl rfl rfl rfl hl.1 rfl (Nat.le_of_ble_eq_true rfl) dX7_rolls_2 ⟨Nat.zero_le _, Nat.zero_le _⟩ (fun H locs hP hD hS => ?_)
  refine lv_if_ne (tgt := 10) hx hb dX7_rolls_5 (by decide) (fun c2 => ?_) (fun c2 => ?_)
  · have h := oif h c2
    refine lv_iload_n hx hb dX7_rolls_10 rfl (lv_at hl 2 rfl) ?_
    refine lv_i2l hx hb dX7_rolls_11 rfl ?_
    refine lv_lconst (v := 0) hx hb dX7_rolls_12 (by decide) ?_
    refine lv_ldc2 (v := 3) hx hb hown (hts (.constantLong RX7 86 (3)) (by decide +kernel)) dX7_rolls_13 ?_
    obtain ⟨q3, hq3, h⟩ := ob h
    refine kS (As := [.long p2.toInt64, .long 0, .long 3]) (rest := []) (w2 := cMd mh m_kindr m_toldr m_nowr m_readToldr m_readCellr m_readKindr m_textr m_rowr m_seenCellr m_seenWayr m_seenCamer m_isKeptr m_keptr cy.1 cy.2.2.1 m_marbles m_kind m_told m_now m_readTold m_readCell m_readKind m_text m_length m_at m_faultAt m_there m_stopped m_acts m_next m_row m_bestRow m_seen m_seenCell m_seenWay m_seenCame m_seed m_isKept m_kept) (n := 3) ⟨hx, hb, hml, hown, hts⟩ (c_X7_in l D cy p2.toInt64 0 3 q3 hq3) gX7_rolls_X7_in rfl (by decide +kernel) ⟨by rw [hRf]; exact Nat.le_of_ble_eq_true rfl, by rw [hRl]; exact Nat.le_of_ble_eq_true rfl⟩ hE hP hD hS hA [] rfl rfl rfl rfl rfl hl.1 rfl (Nat.le_of_ble_eq_true rfl) dX7_rolls_16 ⟨Nat.zero_le _, Nat.zero_le _⟩ (fun H locs hP hD hS => ?_)
    refine lv_if_ne (tgt := 25) hx hb dX7_rolls_19 (by decide) (fun c4 => ?_) (fun c4 => ?_)
    · have h := oif h c4
      refine lv_aload_n hx hb dX7_rolls_25 rfl (lv_at hl 0 rfl) ?_
      obtain ⟨q5, hq5, h⟩ := ob h
      refine kV (As := []) (rest := []) (w2 := cMd mh m_kindr m_toldr m_nowr m_readToldr m_readCellr m_readKindr m_textr m_rowr m_seenCellr m_seenWayr m_seenCamer m_isKeptr m_keptr cy.1 cy.2.2.1 m_marbles m_kind m_told q5 m_readTold m_readCell m_readKind m_text m_length m_at m_faultAt m_there m_stopped m_acts m_next m_row m_bestRow m_seen m_seenCell m_seenWay m_seenCame m_seed m_isKept m_kept) (n := 0) (q0 := 0) ⟨hx, hb, hml, hown, hts⟩ (c_X7_layTrial l D cy mh m_kindr m_toldr m_nowr m_readToldr m_readCellr m_readKindr m_textr m_rowr m_seenCellr m_seenWayr m_seenCamer m_isKeptr m_keptr m_marbles m_kind m_told m_now m_readTold m_readCell m_readKind m_text m_length m_at m_faultAt m_there m_stopped m_acts m_next m_row m_bestRow m_seen m_seenCell m_seenWay m_seenCame m_seed m_isKept m_kept q5 hq5) gX7_rolls_X7_layTrial rfl (by decide +kernel) ⟨by rw [hRf]; exact Nat.le_of_ble_eq_true rfl, by rw [hRl]; exact Nat.le_of_ble_eq_true rfl⟩ hE hP hD hS hA [0, 1, 2, 3, 4, 5, 6, 7, 8, 9, 10, 11, 12, 13] rfl rfl rfl rfl rfl rfl rfl hl.1 rfl (Nat.le_of_ble_eq_true rfl) dX7_rolls_26 ⟨Nat.zero_le _, Nat.zero_le _⟩ (fun H locs hP hD hS => ?_)
      refine lv_aload_n hx hb dX7_rolls_29 rfl (lv_at hl 0 rfl) ?_
      refine lv_iconst (v := 1) hx hb dX7_rolls_30 (by decide) ?_
      refine lv_iload_n hx hb dX7_rolls_31 rfl (lv_at hl 2 rfl) ?_
      obtain ⟨q6, hq6, h⟩ := ob h
      refine kV (As := [.int 1, .int p2]) (rest := []) (w2 := cMd mh m_kindr m_toldr m_nowr m_readToldr m_readCellr m_readKindr m_textr m_rowr m_seenCellr m_seenWayr m_seenCamer m_isKeptr m_keptr cy.1 cy.2.2.1 m_marbles m_kind m_told q6.2.1 m_readTold m_readCell m_readKind m_text m_length m_at m_faultAt m_there q6.2.2 m_acts m_next m_row m_bestRow m_seen m_seenCell m_seenWay m_seenCame m_seed m_isKept m_kept) (n := 2) (q0 := 0) ⟨hx, hb, hml, hown, hts⟩ (c_X7_tiltOn l D cy mh m_kindr m_toldr m_nowr m_readToldr m_readCellr m_readKindr m_textr m_rowr m_seenCellr m_seenWayr m_seenCamer m_isKeptr m_keptr m_marbles m_kind m_told q5 m_readTold m_readCell m_readKind m_text m_length m_at m_faultAt m_there m_stopped m_acts m_next m_row m_bestRow m_seen m_seenCell m_seenWay m_seenCame m_seed m_isKept m_kept 1 p2 q6 hq6) gX7_rolls_X7_tiltOn rfl (by decide +kernel) ⟨by rw [hRf]; exact Nat.le_of_ble_eq_true rfl, by rw [hRl]; exact Nat.le_of_ble_eq_true rfl⟩ hE hP hD hS hA [0, 1, 2, 3, 4, 5, 6, 7, 8, 9, 10, 11, 12, 13] rfl rfl rfl rfl rfl rfl rfl hl.1 rfl (Nat.le_of_ble_eq_true rfl) dX7_rolls_32 ⟨Nat.zero_le _, Nat.zero_le _⟩ (fun H locs hP hD hS => ?_)
      refine lv_pop hx hb dX7_rolls_35 rfl ?_
      refine lv_aload_n hx hb dX7_rolls_36 rfl (lv_at hl 0 rfl) ?_
      refine va_get (D := D) (ci := 7) (v := .ref m_nowr) (C := RX7) (T := TX7) (N := 24) hx hb hts hiX7 hown hE.1 hP 0 rfl rfl 3 (by decide) (hts (.fieldLink RX7 16 "TiltTrayModel" "now" "[I") (by decide +kernel)) (fun _ h9 => h9) rfl dX7_rolls_37 ?_
      refine lv_bipush (v := 7) hx hb dX7_rolls_40 (by decide) ?_
      refine lv_iload_n hx hb dX7_rolls_42 rfl (lv_at hl 1 rfl) ?_
      refine lv_iadd hx hb dX7_rolls_43 ?_
      obtain ⟨g7, h⟩ := og h
      refine va_iald hx hb hE.1 hP 3 0 rfl rfl (ix_in g7) dX7_rolls_44 ?_
      obtain rfl := Option.some.inj h
      rw [hQ]; exact ct_iret hx hb hr hlocks hP hS rfl dX7_rolls_45
    · have h := oit h c4
      refine lv_bipush (v := (-2)) hx hb dX7_rolls_22 (by decide) ?_
      obtain rfl := Option.some.inj h
      rw [hQ]; exact ct_iret hx hb hr hlocks hP hS rfl dX7_rolls_24
  · have h := oit h c2
    refine lv_iconst (v := (-1)) hx hb dX7_rolls_8 (by decide) ?_
    obtain rfl := Option.some.inj h
    rw [hQ]; exact ct_iret hx hb hr hlocks hP hS rfl dX7_rolls_9

def tw_X7_safe_4 (m_marbles : Int32) (m_kind : Nat → Int32) (m_told : Nat → Int32) (m_there : Int32) : Nat → Int32 → Int32 → (Nat → Int32) → Int32 → Option (Int32 × (Nat → Int32) × Int32)
  | 0, _, _, _, _ => none
  | n + 1, x1, x2, m_now, m_stopped =>
    if 4 ≤ x2 then (some (x1, m_now, m_stopped)) else ((tw_X7_layTrial m_now).bind (fun q2 => (tw_X7_tiltOn m_marbles m_kind m_told q2 m_there m_stopped 1 x2).bind (fun q3 => if q3.1 = 0 then ((tw_X7_safe_4 m_marbles m_kind m_told m_there n) (x1 ||| (1 <<< (x2 &&& 31))) (x2 + 1) q3.2.1 q3.2.2) else ((tw_X7_safe_4 m_marbles m_kind m_told m_there n) (x1 ||| 0) (x2 + 1) q3.2.1 q3.2.2))))
def tw_X7_safe (m_marbles : Int32) (m_kind : Nat → Int32) (m_told : Nat → Int32) (m_now : Nat → Int32) (m_there : Int32) (m_stopped : Int32) : Option (Int32 × (Nat → Int32) × Int32) :=
  tw_X7_safe_4 m_marbles m_kind m_told m_there 5 0 0 m_now m_stopped
set_option maxHeartbeats 4000000 in
set_option maxRecDepth 100000 in
theorem c_X7_safe (l : Launch) (D : va_G) (cy : Cy) (mh : Nat) (m_kindr : Nat) (m_toldr : Nat) (m_nowr : Nat) (m_readToldr : Nat) (m_readCellr : Nat) (m_readKindr : Nat) (m_textr : Nat) (m_rowr : Nat) (m_seenCellr : Nat) (m_seenWayr : Nat) (m_seenCamer : Nat) (m_isKeptr : Nat) (m_keptr : Nat) (m_marbles : Int32) (m_kind : Nat → Int32) (m_told : Nat → Int32) (m_now : Nat → Int32) (m_readTold : Nat → Int32) (m_readCell : Nat → Int32) (m_readKind : Nat → Int32) (m_text : Nat → Int32) (m_length : Int32) (m_at : Int32) (m_faultAt : Int32) (m_there : Int32) (m_stopped : Int32) (m_acts : Int32) (m_next : Int32) (m_row : Nat → Int32) (m_bestRow : Int32) (m_seen : Int32) (m_seenCell : Nat → Int32) (m_seenWay : Nat → Int32) (m_seenCame : Nat → Int32) (m_seed : Int64) (m_isKept : Nat → Int32) (m_kept : Nat → Int32) (res : Int32 × (Nat → Int32) × Int32) (h : tw_X7_safe m_marbles m_kind m_told m_now m_there m_stopped = some res) : Ct l yX7_safe wsX7_safe 6 140 D cy [.ref mh] (cMd mh m_kindr m_toldr m_nowr m_readToldr m_readCellr m_readKindr m_textr m_rowr m_seenCellr m_seenWayr m_seenCamer m_isKeptr m_keptr cy.1 cy.2.2.1 m_marbles m_kind m_told m_now m_readTold m_readCell m_readKind m_text m_length m_at m_faultAt m_there m_stopped m_acts m_next m_row m_bestRow m_seen m_seenCell m_seenWay m_seenCame m_seed m_isKept m_kept) (cMd mh m_kindr m_toldr m_nowr m_readToldr m_readCellr m_readKindr m_textr m_rowr m_seenCellr m_seenWayr m_seenCamer m_isKeptr m_keptr cy.1 cy.2.2.1 m_marbles m_kind m_told res.2.1 m_readTold m_readCell m_readKind m_text m_length m_at m_faultAt m_there res.2.2 m_acts m_next m_row m_bestRow m_seen m_seenCell m_seenWay m_seenCame m_seed m_isKept m_kept) (some (.int res.1)) := by
  refine Ct.ofW (cc := cX7_safe) (maxL := 3) (ret := (some .int)) (by decide) rfl (Nat.le_of_ble_eq_true rfl) ?_
  intro p e R s m args below meth c A Q ls hRf hRl hQ hx hb hr hml hts hown hlocks hE hP hD hS hA hl
  have hl : lv_has ls 3 [(0, .ref mh)] := hl
  rw [tw_X7_safe] at h
  have L4 : ∀ (n : Nat) (x1 : Int32) (x2 : Int32) (m_now : Nat → Int32) (m_stopped : Int32)  (H : Heap) (locs : List Loc) (ls : Array Slot), lv_has ls 3 [(0, .ref mh), (1, .int x1), (2, .int x2)] → va_P D vwCl (cMd mh m_kindr m_toldr m_nowr m_readToldr m_readCellr m_readKindr m_textr m_rowr m_seenCellr m_seenWayr m_seenCamer m_isKeptr m_keptr cy.1 cy.2.2.1 m_marbles m_kind m_told m_now m_readTold m_readCell m_readKind m_text m_length m_at m_faultAt m_there m_stopped m_acts m_next m_row m_bestRow m_seen m_seenCell m_seenWay m_seenCame m_seed m_isKept m_kept) H → va_D A (cMd mh m_kindr m_toldr m_nowr m_readToldr m_readCellr m_readKindr m_textr m_rowr m_seenCellr m_seenWayr m_seenCamer m_isKeptr m_keptr cy.1 cy.2.2.1 m_marbles m_kind m_told m_now m_readTold m_readCell m_readKind m_text m_length m_at m_faultAt m_there m_stopped m_acts m_next m_row m_bestRow m_seen m_seenCell m_seenWay m_seenCame m_seed m_isKept m_kept) → va_S A s.heap H locs → tw_X7_safe_4 m_marbles m_kind m_told m_there n x1 x2 m_now m_stopped = some res → W p l e R s m args below meth c H locs 0 0 Q (F0 m 4 ls []) := by
    intro n4
    induction n4 with
    | zero =>
      intro x1 x2 m_now m_stopped  H locs ls hl hP hD hS h
      exact absurd h (by rw [tw_X7_safe_4]; exact fun q => by cases q)
    | succ n4 ih4 =>
      intro x1 x2 m_now m_stopped  H locs ls hl hP hD hS h
      rw [tw_X7_safe_4] at h
      refine lv_iload_n hx hb dX7_safe_4 rfl (lv_at hl 2 rfl) ?_
      refine lv_iconst (v := 4) hx hb dX7_safe_5 (by decide) ?_
      refine lv_icmp_ge (tgt := 38) hx hb dX7_safe_6 (by decide) (fun c1 => ?_) (fun c1 => ?_)
      · have h := oit h c1
        refine lv_iload_n hx hb dX7_safe_38 rfl (lv_at hl 1 rfl) ?_
        obtain rfl := Option.some.inj h
        rw [hQ]; exact ct_iret hx hb hr hlocks hP hS rfl dX7_safe_39
      · have h := oif h c1
        refine lv_aload_n hx hb dX7_safe_9 rfl (lv_at hl 0 rfl) ?_
        obtain ⟨q2, hq2, h⟩ := ob h
        refine kV (As := []) (rest := []) (w2 := cMd mh m_kindr m_toldr m_nowr m_readToldr m_readCellr m_readKindr m_textr m_rowr m_seenCellr m_seenWayr m_seenCamer m_isKeptr m_keptr cy.1 cy.2.2.1 m_marbles m_kind m_told q2 m_readTold m_readCell m_readKind m_text m_length m_at m_faultAt m_there m_stopped m_acts m_next m_row m_bestRow m_seen m_seenCell m_seenWay m_seenCame m_seed m_isKept m_kept) (n := 0) (q0 := 0) ⟨hx, hb, hml, hown, hts⟩ (c_X7_layTrial l D cy mh m_kindr m_toldr m_nowr m_readToldr m_readCellr m_readKindr m_textr m_rowr m_seenCellr m_seenWayr m_seenCamer m_isKeptr m_keptr m_marbles m_kind m_told m_now m_readTold m_readCell m_readKind m_text m_length m_at m_faultAt m_there m_stopped m_acts m_next m_row m_bestRow m_seen m_seenCell m_seenWay m_seenCame m_seed m_isKept m_kept q2 hq2) gX7_safe_X7_layTrial rfl (by decide +kernel) ⟨by rw [hRf]; exact Nat.le_of_ble_eq_true rfl, by rw [hRl]; exact Nat.le_of_ble_eq_true rfl⟩ hE hP hD hS hA [0, 1, 2, 3, 4, 5, 6, 7, 8, 9, 10, 11, 12, 13] rfl rfl rfl rfl rfl rfl rfl hl.1 rfl (Nat.le_of_ble_eq_true rfl) dX7_safe_10 ⟨Nat.zero_le _, Nat.zero_le _⟩ (fun H locs hP hD hS => ?_)
        refine lv_iload_n hx hb dX7_safe_13 rfl (lv_at hl 1 rfl) ?_
        refine lv_aload_n hx hb dX7_safe_14 rfl (lv_at hl 0 rfl) ?_
        refine lv_iconst (v := 1) hx hb dX7_safe_15 (by decide) ?_
        refine lv_iload_n hx hb dX7_safe_16 rfl (lv_at hl 2 rfl) ?_
        obtain ⟨q3, hq3, h⟩ := ob h
        refine kV (As := [.int 1, .int x2]) (rest := [.int x1]) (w2 := cMd mh m_kindr m_toldr m_nowr m_readToldr m_readCellr m_readKindr m_textr m_rowr m_seenCellr m_seenWayr m_seenCamer m_isKeptr m_keptr cy.1 cy.2.2.1 m_marbles m_kind m_told q3.2.1 m_readTold m_readCell m_readKind m_text m_length m_at m_faultAt m_there q3.2.2 m_acts m_next m_row m_bestRow m_seen m_seenCell m_seenWay m_seenCame m_seed m_isKept m_kept) (n := 2) (q0 := 0) ⟨hx, hb, hml, hown, hts⟩ (c_X7_tiltOn l D cy mh m_kindr m_toldr m_nowr m_readToldr m_readCellr m_readKindr m_textr m_rowr m_seenCellr m_seenWayr m_seenCamer m_isKeptr m_keptr m_marbles m_kind m_told q2 m_readTold m_readCell m_readKind m_text m_length m_at m_faultAt m_there m_stopped m_acts m_next m_row m_bestRow m_seen m_seenCell m_seenWay m_seenCame m_seed m_isKept m_kept 1 x2 q3 hq3) gX7_safe_X7_tiltOn rfl (by decide +kernel) ⟨by rw [hRf]; exact Nat.le_of_ble_eq_true rfl, by rw [hRl]; exact Nat.le_of_ble_eq_true rfl⟩ hE hP hD hS hA [0, 1, 2, 3, 4, 5, 6, 7, 8, 9, 10, 11, 12, 13] rfl rfl rfl rfl rfl rfl rfl hl.1 rfl (Nat.le_of_ble_eq_true rfl) dX7_safe_17 ⟨Nat.zero_le _, Nat.zero_le _⟩ (fun H locs hP hD hS => ?_)
        refine lv_if_ne (tgt := 29) hx hb dX7_safe_20 (by decide) (fun c4 => ?_) (fun c4 => ?_)
        · have h := oif h c4
          refine lv_iconst (v := 0) hx hb dX7_safe_29 (by decide) ?_
          refine lv_ior hx hb dX7_safe_30 ?_
          refine lv_istore_n (lv' := [(1, .int (x1 ||| 0)), (0, .ref mh), (2, .int x2)]) hx hb dX7_safe_31 rfl hl (by decide) rfl (fun ls hl => ?_)
          refine lv_iinc (v := x2 + 1) (lv' := [(2, .int (x2 + 1)), (1, .int (x1 ||| 0)), (0, .ref mh)]) hx hb dX7_safe_32 hl (k := 2) rfl rfl (by decide) rfl (fun ls hl => ?_)
          refine lv_goto (tgt := 4) hx hb dX7_safe_35 (by decide) ?_
          exact ih4 (x1 ||| 0) (x2 + 1) q3.2.1 q3.2.2 _ _ _ (lv_sub hl [2, 1, 0] rfl) hP hD hS h
        · have h := oit h c4
          refine lv_iconst (v := 1) hx hb dX7_safe_23 (by decide) ?_
          refine lv_iload_n hx hb dX7_safe_24 rfl (lv_at hl 2 rfl) ?_
          refine lv_ishl hx hb dX7_safe_25 ?_
          refine lv_goto (tgt := 30) hx hb dX7_safe_26 (by decide) ?_
          refine lv_ior hx hb dX7_safe_30 ?_
          refine lv_istore_n (lv' := [(1, .int (x1 ||| (1 <<< (x2 &&& 31)))), (0, .ref mh), (2, .int x2)]) hx hb dX7_safe_31 rfl hl (by decide) rfl (fun ls hl => ?_)
          refine lv_iinc (v := x2 + 1) (lv' := [(2, .int (x2 + 1)), (1, .int (x1 ||| (1 <<< (x2 &&& 31)))), (0, .ref mh)]) hx hb dX7_safe_32 hl (k := 2) rfl rfl (by decide) rfl (fun ls hl => ?_)
          refine lv_goto (tgt := 4) hx hb dX7_safe_35 (by decide) ?_
          exact ih4 (x1 ||| (1 <<< (x2 &&& 31))) (x2 + 1) q3.2.1 q3.2.2 _ _ _ (lv_sub hl [2, 1, 0] rfl) hP hD hS h
  refine lv_iconst (v := 0) hx hb dX7_safe_0 (by decide) ?_
  refine lv_istore_n (lv' := [(1, .int 0), (0, .ref mh)]) hx hb dX7_safe_1 rfl hl (by decide) rfl (fun ls hl => ?_)
  refine lv_iconst (v := 0) hx hb dX7_safe_2 (by decide) ?_
  refine lv_istore_n (lv' := [(2, .int 0), (1, .int 0), (0, .ref mh)]) hx hb dX7_safe_3 rfl hl (by decide) rfl (fun ls hl => ?_)
  exact L4 5 0 0 m_now m_stopped _ _ _ (lv_sub hl [2, 1, 0] rfl) hP hD hS h

def tw_X7_tiltRow_7 (m_marbles : Int32) (m_kind : Nat → Int32) (m_told : Nat → Int32) (m_there : Int32) (p1 : Int32) (p2 : Int32) (p3 : Int32) : Nat → Int32 → (Nat → Int32) → Int32 → Option ((Nat → Int32) × Int32)
  | 0, _, _, _ => none
  | n + 1, x4, m_now, m_stopped =>
    if p1 ≤ x4 then (some (m_now, m_stopped)) else ((tw_X7_has p3 x4).bind (fun q2 => if q2 = 0 then ((tw_X7_power 4 ((p1 - 1) - x4)).bind (fun q4 => if ¬ q4 = 0 then ((tw_X7_tiltOn m_marbles m_kind m_told m_now m_there m_stopped 1 ((p2 / q4) - (p2 / q4) / 4 * 4)).bind (fun q6 => (tw_X7_tiltRow_7 m_marbles m_kind m_told m_there p1 p2 p3 n) (x4 + 1) q6.2.1 q6.2.2)) else none)) else ((tw_X7_tiltRow_7 m_marbles m_kind m_told m_there p1 p2 p3 n) (x4 + 1) m_now m_stopped)))
def tw_X7_tiltRow (m_marbles : Int32) (m_kind : Nat → Int32) (m_told : Nat → Int32) (m_now : Nat → Int32) (m_there : Int32) (m_stopped : Int32) (p1 : Int32) (p2 : Int32) (p3 : Int32) : Option ((Nat → Int32) × Int32) :=
  (tw_X7_layTrial m_now).bind (fun q7 => tw_X7_tiltRow_7 m_marbles m_kind m_told m_there p1 p2 p3 7 0 q7 m_stopped)
set_option maxHeartbeats 4000000 in
set_option maxRecDepth 100000 in
theorem c_X7_tiltRow (l : Launch) (D : va_G) (cy : Cy) (mh : Nat) (m_kindr : Nat) (m_toldr : Nat) (m_nowr : Nat) (m_readToldr : Nat) (m_readCellr : Nat) (m_readKindr : Nat) (m_textr : Nat) (m_rowr : Nat) (m_seenCellr : Nat) (m_seenWayr : Nat) (m_seenCamer : Nat) (m_isKeptr : Nat) (m_keptr : Nat) (m_marbles : Int32) (m_kind : Nat → Int32) (m_told : Nat → Int32) (m_now : Nat → Int32) (m_readTold : Nat → Int32) (m_readCell : Nat → Int32) (m_readKind : Nat → Int32) (m_text : Nat → Int32) (m_length : Int32) (m_at : Int32) (m_faultAt : Int32) (m_there : Int32) (m_stopped : Int32) (m_acts : Int32) (m_next : Int32) (m_row : Nat → Int32) (m_bestRow : Int32) (m_seen : Int32) (m_seenCell : Nat → Int32) (m_seenWay : Nat → Int32) (m_seenCame : Nat → Int32) (m_seed : Int64) (m_isKept : Nat → Int32) (m_kept : Nat → Int32) (p1 : Int32) (p2 : Int32) (p3 : Int32) (res : (Nat → Int32) × Int32) (h : tw_X7_tiltRow m_marbles m_kind m_told m_now m_there m_stopped p1 p2 p3 = some res) : Ct l yX7_tiltRow wsX7_tiltRow 6 140 D cy [.ref mh, .int p1, .int p2, .int p3] (cMd mh m_kindr m_toldr m_nowr m_readToldr m_readCellr m_readKindr m_textr m_rowr m_seenCellr m_seenWayr m_seenCamer m_isKeptr m_keptr cy.1 cy.2.2.1 m_marbles m_kind m_told m_now m_readTold m_readCell m_readKind m_text m_length m_at m_faultAt m_there m_stopped m_acts m_next m_row m_bestRow m_seen m_seenCell m_seenWay m_seenCame m_seed m_isKept m_kept) (cMd mh m_kindr m_toldr m_nowr m_readToldr m_readCellr m_readKindr m_textr m_rowr m_seenCellr m_seenWayr m_seenCamer m_isKeptr m_keptr cy.1 cy.2.2.1 m_marbles m_kind m_told res.1 m_readTold m_readCell m_readKind m_text m_length m_at m_faultAt m_there res.2 m_acts m_next m_row m_bestRow m_seen m_seenCell m_seenWay m_seenCame m_seed m_isKept m_kept) (none) := by
  refine Ct.ofW (cc := cX7_tiltRow) (maxL := 5) (ret := none) (by decide) rfl (Nat.le_of_ble_eq_true rfl) ?_
  intro p e R s m args below meth c A Q ls hRf hRl hQ hx hb hr hml hts hown hlocks hE hP hD hS hA hl
  have hl : lv_has ls 5 [(0, .ref mh), (1, .int p1), (2, .int p2), (3, .int p3)] := hl
  rw [tw_X7_tiltRow] at h
  have L7 : ∀ (n : Nat) (x4 : Int32) (m_now : Nat → Int32) (m_stopped : Int32)  (H : Heap) (locs : List Loc) (ls : Array Slot), lv_has ls 5 [(0, .ref mh), (1, .int p1), (2, .int p2), (3, .int p3), (4, .int x4)] → va_P D vwCl (cMd mh m_kindr m_toldr m_nowr m_readToldr m_readCellr m_readKindr m_textr m_rowr m_seenCellr m_seenWayr m_seenCamer m_isKeptr m_keptr cy.1 cy.2.2.1 m_marbles m_kind m_told m_now m_readTold m_readCell m_readKind m_text m_length m_at m_faultAt m_there m_stopped m_acts m_next m_row m_bestRow m_seen m_seenCell m_seenWay m_seenCame m_seed m_isKept m_kept) H → va_D A (cMd mh m_kindr m_toldr m_nowr m_readToldr m_readCellr m_readKindr m_textr m_rowr m_seenCellr m_seenWayr m_seenCamer m_isKeptr m_keptr cy.1 cy.2.2.1 m_marbles m_kind m_told m_now m_readTold m_readCell m_readKind m_text m_length m_at m_faultAt m_there m_stopped m_acts m_next m_row m_bestRow m_seen m_seenCell m_seenWay m_seenCame m_seed m_isKept m_kept) → va_S A s.heap H locs → tw_X7_tiltRow_7 m_marbles m_kind m_told m_there p1 p2 p3 n x4 m_now m_stopped = some res → W p l e R s m args below meth c H locs 0 0 Q (F0 m 7 ls []) := by
    intro n7
    induction n7 with
    | zero =>
      intro x4 m_now m_stopped  H locs ls hl hP hD hS h
      exact absurd h (by rw [tw_X7_tiltRow_7]; exact fun q => by cases q)
    | succ n7 ih7 =>
      intro x4 m_now m_stopped  H locs ls hl hP hD hS h
      rw [tw_X7_tiltRow_7] at h
      refine lv_iload hx hb dX7_tiltRow_7 (lv_at hl 4 rfl) ?_
      refine lv_iload_n hx hb dX7_tiltRow_9 rfl (lv_at hl 1 rfl) ?_
      refine lv_icmp_ge (tgt := 48) hx hb dX7_tiltRow_10 (by decide) (fun c1 => ?_) (fun c1 => ?_)
      · have h := oit h c1
        obtain rfl := Option.some.inj h
        rw [hQ]; exact ct_vret hx hb hr hlocks hP hS rfl dX7_tiltRow_48
      · have h := oif h c1
        refine lv_iload_n hx hb dX7_tiltRow_13 rfl (lv_at hl 3 rfl) ?_
        refine lv_iload hx hb dX7_tiltRow_14 (lv_at hl 4 rfl) ?_
        obtain ⟨q2, hq2, h⟩ := ob h
        refine kS (As := [.int p3, .int x4]) (rest := []) (w2 := cMd mh m_kindr m_toldr m_nowr m_readToldr m_readCellr m_readKindr m_textr m_rowr m_seenCellr m_seenWayr m_seenCamer m_isKeptr m_keptr cy.1 cy.2.2.1 m_marbles m_kind m_told m_now m_readTold m_readCell m_readKind m_text m_length m_at m_faultAt m_there m_stopped m_acts m_next m_row m_bestRow m_seen m_seenCell m_seenWay m_seenCame m_seed m_isKept m_kept) (n := 2) ⟨hx, hb, hml, hown, hts⟩ (c_X7_has l D cy p3 x4 q2 hq2) gX7_tiltRow_X7_has rfl (by decide +kernel) ⟨by rw [hRf]; exact Nat.le_of_ble_eq_true rfl, by rw [hRl]; exact Nat.le_of_ble_eq_true rfl⟩ hE hP hD hS hA [] rfl rfl rfl rfl rfl hl.1 rfl (Nat.le_of_ble_eq_true rfl) dX7_tiltRow_16 ⟨Nat.zero_le _, Nat.zero_le _⟩ (fun H locs hP hD hS => ?_)
        refine lv_if_ne (tgt := 42) hx hb dX7_tiltRow_19 (by decide) (fun c3 => ?_) (fun c3 => ?_)
        · have h := oif h c3
          refine lv_iinc (v := x4 + 1) (lv' := [(4, .int (x4 + 1)), (0, .ref mh), (1, .int p1), (2, .int p2), (3, .int p3)]) hx hb dX7_tiltRow_42 hl (k := 4) rfl rfl (by decide) rfl (fun ls hl => ?_)
          refine lv_goto (tgt := 7) hx hb dX7_tiltRow_45 (by decide) ?_
          exact ih7 (x4 + 1) m_now m_stopped _ _ _ (lv_sub hl [1, 2, 3, 4, 0] rfl) hP hD hS h
        · have h := oit h c3
          refine lv_aload_n hx hb dX7_tiltRow_22 rfl (lv_at hl 0 rfl) ?_
          refine lv_iconst (v := 1) hx hb dX7_tiltRow_23 (by decide) ?_
          refine lv_iload_n hx hb dX7_tiltRow_24 rfl (lv_at hl 2 rfl) ?_
          refine lv_iconst (v := 4) hx hb dX7_tiltRow_25 (by decide) ?_
          refine lv_iload_n hx hb dX7_tiltRow_26 rfl (lv_at hl 1 rfl) ?_
          refine lv_iconst (v := 1) hx hb dX7_tiltRow_27 (by decide) ?_
          refine lv_isub hx hb dX7_tiltRow_28 ?_
          refine lv_iload hx hb dX7_tiltRow_29 (lv_at hl 4 rfl) ?_
          refine lv_isub hx hb dX7_tiltRow_31 ?_
          obtain ⟨q4, hq4, h⟩ := ob h
          refine kS (As := [.int 4, .int ((p1 - 1) - x4)]) (rest := [.int p2, .int 1, .ref mh]) (w2 := cMd mh m_kindr m_toldr m_nowr m_readToldr m_readCellr m_readKindr m_textr m_rowr m_seenCellr m_seenWayr m_seenCamer m_isKeptr m_keptr cy.1 cy.2.2.1 m_marbles m_kind m_told m_now m_readTold m_readCell m_readKind m_text m_length m_at m_faultAt m_there m_stopped m_acts m_next m_row m_bestRow m_seen m_seenCell m_seenWay m_seenCame m_seed m_isKept m_kept) (n := 2) ⟨hx, hb, hml, hown, hts⟩ (c_X7_power l D cy 4 ((p1 - 1) - x4) q4 hq4) gX7_tiltRow_X7_power rfl (by decide +kernel) ⟨by rw [hRf]; exact Nat.le_of_ble_eq_true rfl, by rw [hRl]; exact Nat.le_of_ble_eq_true rfl⟩ hE hP hD hS hA [] rfl rfl rfl rfl rfl hl.1 rfl (Nat.le_of_ble_eq_true rfl) dX7_tiltRow_32 ⟨Nat.zero_le _, Nat.zero_le _⟩ (fun H locs hP hD hS => ?_)
          obtain ⟨g5, h⟩ := og h
          refine lv_idiv hx hb dX7_tiltRow_35 g5 ?_
          refine lv_iconst (v := 4) hx hb dX7_tiltRow_36 (by decide) ?_
          refine lv_irem hx hb dX7_tiltRow_37 (by decide) ?_
          obtain ⟨q6, hq6, h⟩ := ob h
          refine kV (As := [.int 1, .int ((p2 / q4) - (p2 / q4) / 4 * 4)]) (rest := []) (w2 := cMd mh m_kindr m_toldr m_nowr m_readToldr m_readCellr m_readKindr m_textr m_rowr m_seenCellr m_seenWayr m_seenCamer m_isKeptr m_keptr cy.1 cy.2.2.1 m_marbles m_kind m_told q6.2.1 m_readTold m_readCell m_readKind m_text m_length m_at m_faultAt m_there q6.2.2 m_acts m_next m_row m_bestRow m_seen m_seenCell m_seenWay m_seenCame m_seed m_isKept m_kept) (n := 2) (q0 := 0) ⟨hx, hb, hml, hown, hts⟩ (c_X7_tiltOn l D cy mh m_kindr m_toldr m_nowr m_readToldr m_readCellr m_readKindr m_textr m_rowr m_seenCellr m_seenWayr m_seenCamer m_isKeptr m_keptr m_marbles m_kind m_told m_now m_readTold m_readCell m_readKind m_text m_length m_at m_faultAt m_there m_stopped m_acts m_next m_row m_bestRow m_seen m_seenCell m_seenWay m_seenCame m_seed m_isKept m_kept 1 ((p2 / q4) - (p2 / q4) / 4 * 4) q6 hq6) gX7_tiltRow_X7_tiltOn rfl (by decide +kernel) ⟨by rw [hRf]; exact Nat.le_of_ble_eq_true rfl, by rw [hRl]; exact Nat.le_of_ble_eq_true rfl⟩ hE hP hD hS hA [0, 1, 2, 3, 4, 5, 6, 7, 8, 9, 10, 11, 12, 13] rfl rfl rfl rfl rfl rfl rfl hl.1 rfl (Nat.le_of_ble_eq_true rfl) dX7_tiltRow_38 ⟨Nat.zero_le _, Nat.zero_le _⟩ (fun H locs hP hD hS => ?_)
          refine lv_pop hx hb dX7_tiltRow_41 rfl ?_
          refine lv_iinc (v := x4 + 1) (lv' := [(4, .int (x4 + 1)), (0, .ref mh), (1, .int p1), (2, .int p2), (3, .int p3)]) hx hb dX7_tiltRow_42 hl (k := 4) rfl rfl (by decide) rfl (fun ls hl => ?_)
          refine lv_goto (tgt := 7) hx hb dX7_tiltRow_45 (by decide) ?_
          exact ih7 (x4 + 1) q6.2.1 q6.2.2 _ _ _ (lv_sub hl [1, 2, 3, 4, 0] rfl) hP hD hS h
  refine lv_aload_n hx hb dX7_tiltRow_0 rfl (lv_at hl 0 rfl) ?_
  obtain ⟨q7, hq7, h⟩ := ob h
  refine kV (As := []) (rest := []) (w2 := cMd mh m_kindr m_toldr m_nowr m_readToldr m_readCellr m_readKindr m_textr m_rowr m_seenCellr m_seenWayr m_seenCamer m_isKeptr m_keptr cy.1 cy.2.2.1 m_marbles m_kind m_told q7 m_readTold m_readCell m_readKind m_text m_length m_at m_faultAt m_there m_stopped m_acts m_next m_row m_bestRow m_seen m_seenCell m_seenWay m_seenCame m_seed m_isKept m_kept) (n := 0) (q0 := 0) ⟨hx, hb, hml, hown, hts⟩ (c_X7_layTrial l D cy mh m_kindr m_toldr m_nowr m_readToldr m_readCellr m_readKindr m_textr m_rowr m_seenCellr m_seenWayr m_seenCamer m_isKeptr m_keptr m_marbles m_kind m_told m_now m_readTold m_readCell m_readKind m_text m_length m_at m_faultAt m_there m_stopped m_acts m_next m_row m_bestRow m_seen m_seenCell m_seenWay m_seenCame m_seed m_isKept m_kept q7 hq7) gX7_tiltRow_X7_layTrial rfl (by decide +kernel) ⟨by rw [hRf]; exact Nat.le_of_ble_eq_true rfl, by rw [hRl]; exact Nat.le_of_ble_eq_true rfl⟩ hE hP hD hS hA [0, 1, 2, 3, 4, 5, 6, 7, 8, 9, 10, 11, 12, 13] rfl rfl rfl rfl rfl rfl rfl hl.1 rfl (Nat.le_of_ble_eq_true rfl) dX7_tiltRow_1 ⟨Nat.zero_le _, Nat.zero_le _⟩ (fun H locs hP hD hS => ?_)
  refine lv_iconst (v := 0) hx hb dX7_tiltRow_4 (by decide) ?_
  refine lv_istore (lv' := [(4, .int 0), (0, .ref mh), (1, .int p1), (2, .int p2), (3, .int p3)]) hx hb dX7_tiltRow_5 hl (by decide) rfl (fun ls hl => ?_)
  exact L7 7 0 q7 m_stopped _ _ _ (lv_sub hl [1, 2, 3, 4, 0] rfl) hP hD hS h

def tw_X7_fewest_21 (m_marbles : Int32) (m_kind : Nat → Int32) (m_told : Nat → Int32) (m_there : Int32) (p1 : Int32) (p2 : Int32) (k12 : Int32 → (Nat → Int32) → Int32 → Option (Int32 × (Nat → Int32) × Int32)) : Nat → Int32 → Int32 → (Nat → Int32) → Int32 → Option (Int32 × (Nat → Int32) × Int32)
  | 0, _, _, _, _ => none
  | n + 1, x3, x4, m_now, m_stopped =>
    (tw_X7_power 4 x3).bind (fun q1 => if q1 ≤ x4 then (k12 (x3 + 1) m_now m_stopped) else ((tw_X7_tiltRow m_marbles m_kind m_told m_now m_there m_stopped x3 x4 0).bind (fun q3 => if ix (7 + p1) 14 = true then (if (q3.1 (7 + p1).toNatClampNeg) < 100 then ((tw_X7_fewest_21 m_marbles m_kind m_told m_there p1 p2 k12 n) x3 (x4 + 1) q3.1 q3.2) else (if p2 = 0 then (some (x3, q3.1, q3.2)) else ((tw_X7_figuresOf x3 x4).bind (fun q7 => some (q7, q3.1, q3.2))))) else none)))
def tw_X7_fewest_12 (m_marbles : Int32) (m_kind : Nat → Int32) (m_told : Nat → Int32) (m_there : Int32) (p1 : Int32) (p2 : Int32) : Nat → Int32 → (Nat → Int32) → Int32 → Option (Int32 × (Nat → Int32) × Int32)
  | 0, _, _, _ => none
  | n + 1, x3, m_now, m_stopped =>
    if 6 ≤ x3 then (some ((-9), m_now, m_stopped)) else (tw_X7_fewest_21 m_marbles m_kind m_told m_there p1 p2 (tw_X7_fewest_12 m_marbles m_kind m_told m_there p1 p2 n) 1025 x3 0 m_now m_stopped)
def tw_X7_fewest (m_marbles : Int32) (m_kind : Nat → Int32) (m_told : Nat → Int32) (m_now : Nat → Int32) (m_there : Int32) (m_stopped : Int32) (p1 : Int32) (p2 : Int32) : Option (Int32 × (Nat → Int32) × Int32) :=
  (tw_X7_isMarble m_marbles p1).bind (fun q9 => if q9 = 0 then (some ((-1), m_now, m_stopped)) else (tw_X7_fewest_12 m_marbles m_kind m_told m_there p1 p2 7 0 m_now m_stopped))
set_option maxHeartbeats 4000000 in
set_option maxRecDepth 100000 in
theorem c_X7_fewest (l : Launch) (D : va_G) (cy : Cy) (mh : Nat) (m_kindr : Nat) (m_toldr : Nat) (m_nowr : Nat) (m_readToldr : Nat) (m_readCellr : Nat) (m_readKindr : Nat) (m_textr : Nat) (m_rowr : Nat) (m_seenCellr : Nat) (m_seenWayr : Nat) (m_seenCamer : Nat) (m_isKeptr : Nat) (m_keptr : Nat) (m_marbles : Int32) (m_kind : Nat → Int32) (m_told : Nat → Int32) (m_now : Nat → Int32) (m_readTold : Nat → Int32) (m_readCell : Nat → Int32) (m_readKind : Nat → Int32) (m_text : Nat → Int32) (m_length : Int32) (m_at : Int32) (m_faultAt : Int32) (m_there : Int32) (m_stopped : Int32) (m_acts : Int32) (m_next : Int32) (m_row : Nat → Int32) (m_bestRow : Int32) (m_seen : Int32) (m_seenCell : Nat → Int32) (m_seenWay : Nat → Int32) (m_seenCame : Nat → Int32) (m_seed : Int64) (m_isKept : Nat → Int32) (m_kept : Nat → Int32) (p1 : Int32) (p2 : Int32) (res : Int32 × (Nat → Int32) × Int32) (h : tw_X7_fewest m_marbles m_kind m_told m_now m_there m_stopped p1 p2 = some res) : Ct l yX7_fewest wsX7_fewest 7 164 D cy [.ref mh, .int p1, .int p2] (cMd mh m_kindr m_toldr m_nowr m_readToldr m_readCellr m_readKindr m_textr m_rowr m_seenCellr m_seenWayr m_seenCamer m_isKeptr m_keptr cy.1 cy.2.2.1 m_marbles m_kind m_told m_now m_readTold m_readCell m_readKind m_text m_length m_at m_faultAt m_there m_stopped m_acts m_next m_row m_bestRow m_seen m_seenCell m_seenWay m_seenCame m_seed m_isKept m_kept) (cMd mh m_kindr m_toldr m_nowr m_readToldr m_readCellr m_readKindr m_textr m_rowr m_seenCellr m_seenWayr m_seenCamer m_isKeptr m_keptr cy.1 cy.2.2.1 m_marbles m_kind m_told res.2.1 m_readTold m_readCell m_readKind m_text m_length m_at m_faultAt m_there res.2.2 m_acts m_next m_row m_bestRow m_seen m_seenCell m_seenWay m_seenCame m_seed m_isKept m_kept) (some (.int res.1)) := by
  refine Ct.ofW (cc := cX7_fewest) (maxL := 5) (ret := (some .int)) (by decide) rfl (Nat.le_of_ble_eq_true rfl) ?_
  intro p e R s m args below meth c A Q ls hRf hRl hQ hx hb hr hml hts hown hlocks hE hP hD hS hA hl
  have hiX7 : ∀ w ∈ u_ws RX7 TX7 24, w ∈ wsX7_fewest := by decide +kernel
  have hl : lv_has ls 5 [(0, .ref mh), (1, .int p1), (2, .int p2)] := hl
  rw [tw_X7_fewest] at h
  have L12 : ∀ (n : Nat) (x3 : Int32) (m_now : Nat → Int32) (m_stopped : Int32)  (H : Heap) (locs : List Loc) (ls : Array Slot), lv_has ls 5 [(0, .ref mh), (1, .int p1), (2, .int p2), (3, .int x3)] → va_P D vwCl (cMd mh m_kindr m_toldr m_nowr m_readToldr m_readCellr m_readKindr m_textr m_rowr m_seenCellr m_seenWayr m_seenCamer m_isKeptr m_keptr cy.1 cy.2.2.1 m_marbles m_kind m_told m_now m_readTold m_readCell m_readKind m_text m_length m_at m_faultAt m_there m_stopped m_acts m_next m_row m_bestRow m_seen m_seenCell m_seenWay m_seenCame m_seed m_isKept m_kept) H → va_D A (cMd mh m_kindr m_toldr m_nowr m_readToldr m_readCellr m_readKindr m_textr m_rowr m_seenCellr m_seenWayr m_seenCamer m_isKeptr m_keptr cy.1 cy.2.2.1 m_marbles m_kind m_told m_now m_readTold m_readCell m_readKind m_text m_length m_at m_faultAt m_there m_stopped m_acts m_next m_row m_bestRow m_seen m_seenCell m_seenWay m_seenCame m_seed m_isKept m_kept) → va_S A s.heap H locs → tw_X7_fewest_12 m_marbles m_kind m_told m_there p1 p2 n x3 m_now m_stopped = some res → W p l e R s m args below meth c H locs 0 0 Q (F0 m 12 ls []) := by
    intro n12
    induction n12 with
    | zero =>
      intro x3 m_now m_stopped  H locs ls hl hP hD hS h
      exact absurd h (by rw [tw_X7_fewest_12]; exact fun q => by cases q)
    | succ n12 ih12 =>
      intro x3 m_now m_stopped  H locs ls hl hP hD hS h
      rw [tw_X7_fewest_12] at h
      have L21 : ∀ (n : Nat) (x3 : Int32) (x4 : Int32) (m_now : Nat → Int32) (m_stopped : Int32)  (H : Heap) (locs : List Loc) (ls : Array Slot), lv_has ls 5 [(0, .ref mh), (1, .int p1), (2, .int p2), (3, .int x3), (4, .int x4)] → va_P D vwCl (cMd mh m_kindr m_toldr m_nowr m_readToldr m_readCellr m_readKindr m_textr m_rowr m_seenCellr m_seenWayr m_seenCamer m_isKeptr m_keptr cy.1 cy.2.2.1 m_marbles m_kind m_told m_now m_readTold m_readCell m_readKind m_text m_length m_at m_faultAt m_there m_stopped m_acts m_next m_row m_bestRow m_seen m_seenCell m_seenWay m_seenCame m_seed m_isKept m_kept) H → va_D A (cMd mh m_kindr m_toldr m_nowr m_readToldr m_readCellr m_readKindr m_textr m_rowr m_seenCellr m_seenWayr m_seenCamer m_isKeptr m_keptr cy.1 cy.2.2.1 m_marbles m_kind m_told m_now m_readTold m_readCell m_readKind m_text m_length m_at m_faultAt m_there m_stopped m_acts m_next m_row m_bestRow m_seen m_seenCell m_seenWay m_seenCame m_seed m_isKept m_kept) → va_S A s.heap H locs → tw_X7_fewest_21 m_marbles m_kind m_told m_there p1 p2 (tw_X7_fewest_12 m_marbles m_kind m_told m_there p1 p2 n12) n x3 x4 m_now m_stopped = some res → W p l e R s m args below meth c H locs 0 0 Q (F0 m 21 ls []) := by
        intro n21
        induction n21 with
        | zero =>
          intro x3 x4 m_now m_stopped  H locs ls hl hP hD hS h
          exact absurd h (by rw [tw_X7_fewest_21]; exact fun q => by cases q)
        | succ n21 ih21 =>
          intro x3 x4 m_now m_stopped  H locs ls hl hP hD hS h
          rw [tw_X7_fewest_21] at h
          refine lv_iload hx hb dX7_fewest_21 (lv_at hl 4 rfl) ?_
          refine lv_iconst (v := 4) hx hb dX7_fewest_23 (by decide) ?_
          refine lv_iload_n hx hb dX7_fewest_24 rfl (lv_at hl 3 rfl) ?_
          obtain ⟨q1, hq1, h⟩ := ob h
          refine kS (As := [.int 4, .int x3]) (rest := [.int x4]) (w2 := cMd mh m_kindr m_toldr m_nowr m_readToldr m_readCellr m_readKindr m_textr m_rowr m_seenCellr m_seenWayr m_seenCamer m_isKeptr m_keptr cy.1 cy.2.2.1 m_marbles m_kind m_told m_now m_readTold m_readCell m_readKind m_text m_length m_at m_faultAt m_there m_stopped m_acts m_next m_row m_bestRow m_seen m_seenCell m_seenWay m_seenCame m_seed m_isKept m_kept) (n := 2) ⟨hx, hb, hml, hown, hts⟩ (c_X7_power l D cy 4 x3 q1 hq1) gX7_fewest_X7_power rfl (by decide +kernel) ⟨by rw [hRf]; exact Nat.le_of_ble_eq_true rfl, by rw [hRl]; exact Nat.le_of_ble_eq_true rfl⟩ hE hP hD hS hA [] rfl rfl rfl rfl rfl hl.1 rfl (Nat.le_of_ble_eq_true rfl) dX7_fewest_25 ⟨Nat.zero_le _, Nat.zero_le _⟩ (fun H locs hP hD hS => ?_)
          refine lv_icmp_ge (tgt := 74) hx hb dX7_fewest_28 (by decide) (fun c2 => ?_) (fun c2 => ?_)
          · have h := oit h c2
            refine lv_iinc (v := x3 + 1) (lv' := [(3, .int (x3 + 1)), (0, .ref mh), (1, .int p1), (2, .int p2), (4, .int x4)]) hx hb dX7_fewest_74 hl (k := 3) rfl rfl (by decide) rfl (fun ls hl => ?_)
            refine lv_goto (tgt := 12) hx hb dX7_fewest_77 (by decide) ?_
            exact ih12 (x3 + 1) m_now m_stopped _ _ _ (lv_sub hl [1, 2, 3, 0] rfl) hP hD hS h
          · have h := oif h c2
            refine lv_aload_n hx hb dX7_fewest_31 rfl (lv_at hl 0 rfl) ?_
            refine lv_iload_n hx hb dX7_fewest_32 rfl (lv_at hl 3 rfl) ?_
            refine lv_iload hx hb dX7_fewest_33 (lv_at hl 4 rfl) ?_
            refine lv_iconst (v := 0) hx hb dX7_fewest_35 (by decide) ?_
            obtain ⟨q3, hq3, h⟩ := ob h
            refine kV (As := [.int x3, .int x4, .int 0]) (rest := []) (w2 := cMd mh m_kindr m_toldr m_nowr m_readToldr m_readCellr m_readKindr m_textr m_rowr m_seenCellr m_seenWayr m_seenCamer m_isKeptr m_keptr cy.1 cy.2.2.1 m_marbles m_kind m_told q3.1 m_readTold m_readCell m_readKind m_text m_length m_at m_faultAt m_there q3.2 m_acts m_next m_row m_bestRow m_seen m_seenCell m_seenWay m_seenCame m_seed m_isKept m_kept) (n := 3) (q0 := 0) ⟨hx, hb, hml, hown, hts⟩ (c_X7_tiltRow l D cy mh m_kindr m_toldr m_nowr m_readToldr m_readCellr m_readKindr m_textr m_rowr m_seenCellr m_seenWayr m_seenCamer m_isKeptr m_keptr m_marbles m_kind m_told m_now m_readTold m_readCell m_readKind m_text m_length m_at m_faultAt m_there m_stopped m_acts m_next m_row m_bestRow m_seen m_seenCell m_seenWay m_seenCame m_seed m_isKept m_kept x3 x4 0 q3 hq3) gX7_fewest_X7_tiltRow rfl (by decide +kernel) ⟨by rw [hRf]; exact Nat.le_of_ble_eq_true rfl, by rw [hRl]; exact Nat.le_of_ble_eq_true rfl⟩ hE hP hD hS hA [0, 1, 2, 3, 4, 5, 6, 7, 8, 9, 10, 11, 12, 13] rfl rfl rfl rfl rfl rfl rfl hl.1 rfl (Nat.le_of_ble_eq_true rfl) dX7_fewest_36 ⟨Nat.zero_le _, Nat.zero_le _⟩ (fun H locs hP hD hS => ?_)
            refine lv_aload_n hx hb dX7_fewest_39 rfl (lv_at hl 0 rfl) ?_
            refine va_get (D := D) (ci := 7) (v := .ref m_nowr) (C := RX7) (T := TX7) (N := 24) hx hb hts hiX7 hown hE.1 hP 0 rfl rfl 3 (by decide) (hts (.fieldLink RX7 16 "TiltTrayModel" "now" "[I") (by decide +kernel)) (fun _ h9 => h9) rfl dX7_fewest_40 ?_
            refine lv_bipush (v := 7) hx hb dX7_fewest_43 (by decide) ?_
            refine lv_iload_n hx hb dX7_fewest_45 rfl (lv_at hl 1 rfl) ?_
            refine lv_iadd hx hb dX7_fewest_46 ?_
            obtain ⟨g4, h⟩ := og h
            refine va_iald hx hb hE.1 hP 3 0 rfl rfl (ix_in g4) dX7_fewest_47 ?_
            refine lv_bipush (v := 100) hx hb dX7_fewest_48 (by decide) ?_
            refine lv_icmp_lt (tgt := 68) hx hb dX7_fewest_50 (by decide) (fun c5 => ?_) (fun c5 => ?_)
            · have h := oit h c5
              refine lv_iinc (v := x4 + 1) (lv' := [(4, .int (x4 + 1)), (0, .ref mh), (1, .int p1), (2, .int p2), (3, .int x3)]) hx hb dX7_fewest_68 hl (k := 4) rfl rfl (by decide) rfl (fun ls hl => ?_)
              refine lv_goto (tgt := 21) hx hb dX7_fewest_71 (by decide) ?_
              exact ih21 x3 (x4 + 1) q3.1 q3.2 _ _ _ (lv_sub hl [1, 2, 3, 4, 0] rfl) hP hD hS h
            · have h := oif h c5
              refine lv_iload_n hx hb dX7_fewest_53 rfl (lv_at hl 2 rfl) ?_
              refine lv_if_eq (tgt := 66) hx hb dX7_fewest_54 (by decide) (fun c6 => ?_) (fun c6 => ?_)
              · have h := oit h c6
                refine lv_iload_n hx hb dX7_fewest_66 rfl (lv_at hl 3 rfl) ?_
                obtain rfl := Option.some.inj h
                rw [hQ]; exact ct_iret hx hb hr hlocks hP hS rfl dX7_fewest_67
              · have h := oif h c6
                refine lv_iload_n hx hb dX7_fewest_57 rfl (lv_at hl 3 rfl) ?_
                refine lv_iload hx hb dX7_fewest_58 (lv_at hl 4 rfl) ?_
                obtain ⟨q7, hq7, h⟩ := ob h
                refine kS (As := [.int x3, .int x4]) (rest := []) (w2 := cMd mh m_kindr m_toldr m_nowr m_readToldr m_readCellr m_readKindr m_textr m_rowr m_seenCellr m_seenWayr m_seenCamer m_isKeptr m_keptr cy.1 cy.2.2.1 m_marbles m_kind m_told q3.1 m_readTold m_readCell m_readKind m_text m_length m_at m_faultAt m_there q3.2 m_acts m_next m_row m_bestRow m_seen m_seenCell m_seenWay m_seenCame m_seed m_isKept m_kept) (n := 2) ⟨hx, hb, hml, hown, hts⟩ (c_X7_figuresOf l D cy x3 x4 q7 hq7) gX7_fewest_X7_figuresOf rfl (by decide +kernel) ⟨by rw [hRf]; exact Nat.le_of_ble_eq_true rfl, by rw [hRl]; exact Nat.le_of_ble_eq_true rfl⟩ hE hP hD hS hA [] rfl rfl rfl rfl rfl hl.1 rfl (Nat.le_of_ble_eq_true rfl) dX7_fewest_60 ⟨Nat.zero_le _, Nat.zero_le _⟩ (fun H locs hP hD hS => ?_)
                refine lv_goto (tgt := 67) hx hb dX7_fewest_63 (by decide) ?_
                obtain rfl := Option.some.inj h
                rw [hQ]; exact ct_iret hx hb hr hlocks hP hS rfl dX7_fewest_67
      refine lv_iload_n hx hb dX7_fewest_12 rfl (lv_at hl 3 rfl) ?_
      refine lv_bipush (v := 6) hx hb dX7_fewest_13 (by decide) ?_
      refine lv_icmp_ge (tgt := 80) hx hb dX7_fewest_15 (by decide) (fun c8 => ?_) (fun c8 => ?_)
      · have h := oit h c8
        refine lv_bipush (v := (-9)) hx hb dX7_fewest_80 (by decide) ?_
        obtain rfl := Option.some.inj h
        rw [hQ]; exact ct_iret hx hb hr hlocks hP hS rfl dX7_fewest_82
      · have h := oif h c8
        refine lv_iconst (v := 0) hx hb dX7_fewest_18 (by decide) ?_
        refine lv_istore (lv' := [(4, .int 0), (0, .ref mh), (1, .int p1), (2, .int p2), (3, .int x3)]) hx hb dX7_fewest_19 hl (by decide) rfl (fun ls hl => ?_)
        exact L21 1025 x3 0 m_now m_stopped _ _ _ (lv_sub hl [1, 2, 3, 4, 0] rfl) hP hD hS h
  refine lv_aload_n hx hb dX7_fewest_0 rfl (lv_at hl 0 rfl) ?_
  refine lv_iload_n hx hb dX7_fewest_1 rfl (lv_at hl 1 rfl) ?_
  obtain ⟨q9, hq9, h⟩ := ob h
  refine kV (As := [.int p1]) (rest := []) (w2 := cMd mh m_kindr m_toldr m_nowr m_readToldr m_readCellr m_readKindr m_textr m_rowr m_seenCellr m_seenWayr m_seenCamer m_isKeptr m_keptr cy.1 cy.2.2.1 m_marbles m_kind m_told m_now m_readTold m_readCell m_readKind m_text m_length m_at m_faultAt m_there m_stopped m_acts m_next m_row m_bestRow m_seen m_seenCell m_seenWay m_seenCame m_seed m_isKept m_kept) (n := 1) (q0 := 0) ⟨hx, hb, hml, hown, hts⟩ (c_X7_isMarble l D cy mh m_kindr m_toldr m_nowr m_readToldr m_readCellr m_readKindr m_textr m_rowr m_seenCellr m_seenWayr m_seenCamer m_isKeptr m_keptr m_marbles m_kind m_told m_now m_readTold m_readCell m_readKind m_text m_length m_at m_faultAt m_there m_stopped m_acts m_next m_row m_bestRow m_seen m_seenCell m_seenWay m_seenCame m_seed m_isKept m_kept p1 q9 hq9) gX7_fewest_X7_isMarble rfl (by decide +kernel) ⟨by rw [hRf]; exact Nat.le_of_ble_eq_true rfl, by rw [hRl]; exact Nat.le_of_ble_eq_true rfl⟩ hE hP hD hS hA [0, 1, 2, 3, 4, 5, 6, 7, 8, 9, 10, 11, 12, 13] rfl rfl rfl rfl rfl rfl rfl hl.1 rfl (Nat.le_of_ble_eq_true rfl) dX7_fewest_2 ⟨Nat.zero_le _, Nat.zero_le _⟩ (fun H locs hP hD hS => ?_)
  refine lv_if_ne (tgt := 10) hx hb dX7_fewest_5 (by decide) (fun c10 => ?_) (fun c10 => ?_)
  · have h := oif h c10
    refine lv_iconst (v := 0) hx hb dX7_fewest_10 (by decide) ?_
    refine lv_istore_n (lv' := [(3, .int 0), (0, .ref mh), (1, .int p1), (2, .int p2)]) hx hb dX7_fewest_11 rfl hl (by decide) rfl (fun ls hl => ?_)
    exact L12 7 0 m_now m_stopped _ _ _ (lv_sub hl [1, 2, 3, 0] rfl) hP hD hS h
  · have h := oit h c10
    refine lv_iconst (v := (-1)) hx hb dX7_fewest_8 (by decide) ?_
    obtain rfl := Option.some.inj h
    rw [hQ]; exact ct_iret hx hb hr hlocks hP hS rfl dX7_fewest_9

def tw_X7_reach_22 (m_marbles : Int32) (m_kind : Nat → Int32) (m_told : Nat → Int32) (m_there : Int32) (p1 : Int32) (k14 : Int32 → Int32 → (Nat → Int32) → Int32 → Option (Int32 × (Nat → Int32) × Int32)) : Nat → Int32 → Int32 → Int32 → (Nat → Int32) → Int32 → Option (Int32 × (Nat → Int32) × Int32)
  | 0, _, _, _, _, _ => none
  | n + 1, x2, x3, x4, m_now, m_stopped =>
    (tw_X7_power 4 x3).bind (fun q1 => if q1 ≤ x4 then (k14 x2 (x3 + 1) m_now m_stopped) else ((tw_X7_tiltRow m_marbles m_kind m_told m_now m_there m_stopped x3 x4 0).bind (fun q3 => if ix (7 + p1) 14 = true then (if 100 ≤ (q3.1 (7 + p1).toNatClampNeg) then ((tw_X7_reach_22 m_marbles m_kind m_told m_there p1 k14 n) (x2 ||| 0) x3 (x4 + 1) q3.1 q3.2) else (if ix (7 + p1) 14 = true then ((tw_X7_reach_22 m_marbles m_kind m_told m_there p1 k14 n) (x2 ||| (1 <<< ((q3.1 (7 + p1).toNatClampNeg) &&& 31))) x3 (x4 + 1) q3.1 q3.2) else none)) else none)))
def tw_X7_reach_14 (m_marbles : Int32) (m_kind : Nat → Int32) (m_told : Nat → Int32) (m_there : Int32) (p1 : Int32) : Nat → Int32 → Int32 → (Nat → Int32) → Int32 → Option (Int32 × (Nat → Int32) × Int32)
  | 0, _, _, _, _ => none
  | n + 1, x2, x3, m_now, m_stopped =>
    if 5 ≤ x3 then (some (x2, m_now, m_stopped)) else (tw_X7_reach_22 m_marbles m_kind m_told m_there p1 (tw_X7_reach_14 m_marbles m_kind m_told m_there p1 n) 257 x2 x3 0 m_now m_stopped)
def tw_X7_reach (m_marbles : Int32) (m_kind : Nat → Int32) (m_told : Nat → Int32) (m_now : Nat → Int32) (m_there : Int32) (m_stopped : Int32) (p1 : Int32) : Option (Int32 × (Nat → Int32) × Int32) :=
  (tw_X7_isMarble m_marbles p1).bind (fun q8 => if q8 = 0 then (some ((-1), m_now, m_stopped)) else (tw_X7_reach_14 m_marbles m_kind m_told m_there p1 6 0 0 m_now m_stopped))
set_option maxHeartbeats 4000000 in
set_option maxRecDepth 100000 in
theorem c_X7_reach (l : Launch) (D : va_G) (cy : Cy) (mh : Nat) (m_kindr : Nat) (m_toldr : Nat) (m_nowr : Nat) (m_readToldr : Nat) (m_readCellr : Nat) (m_readKindr : Nat) (m_textr : Nat) (m_rowr : Nat) (m_seenCellr : Nat) (m_seenWayr : Nat) (m_seenCamer : Nat) (m_isKeptr : Nat) (m_keptr : Nat) (m_marbles : Int32) (m_kind : Nat → Int32) (m_told : Nat → Int32) (m_now : Nat → Int32) (m_readTold : Nat → Int32) (m_readCell : Nat → Int32) (m_readKind : Nat → Int32) (m_text : Nat → Int32) (m_length : Int32) (m_at : Int32) (m_faultAt : Int32) (m_there : Int32) (m_stopped : Int32) (m_acts : Int32) (m_next : Int32) (m_row : Nat → Int32) (m_bestRow : Int32) (m_seen : Int32) (m_seenCell : Nat → Int32) (m_seenWay : Nat → Int32) (m_seenCame : Nat → Int32) (m_seed : Int64) (m_isKept : Nat → Int32) (m_kept : Nat → Int32) (p1 : Int32) (res : Int32 × (Nat → Int32) × Int32) (h : tw_X7_reach m_marbles m_kind m_told m_now m_there m_stopped p1 = some res) : Ct l yX7_reach wsX7_reach 7 164 D cy [.ref mh, .int p1] (cMd mh m_kindr m_toldr m_nowr m_readToldr m_readCellr m_readKindr m_textr m_rowr m_seenCellr m_seenWayr m_seenCamer m_isKeptr m_keptr cy.1 cy.2.2.1 m_marbles m_kind m_told m_now m_readTold m_readCell m_readKind m_text m_length m_at m_faultAt m_there m_stopped m_acts m_next m_row m_bestRow m_seen m_seenCell m_seenWay m_seenCame m_seed m_isKept m_kept) (cMd mh m_kindr m_toldr m_nowr m_readToldr m_readCellr m_readKindr m_textr m_rowr m_seenCellr m_seenWayr m_seenCamer m_isKeptr m_keptr cy.1 cy.2.2.1 m_marbles m_kind m_told res.2.1 m_readTold m_readCell m_readKind m_text m_length m_at m_faultAt m_there res.2.2 m_acts m_next m_row m_bestRow m_seen m_seenCell m_seenWay m_seenCame m_seed m_isKept m_kept) (some (.int res.1)) := by
  refine Ct.ofW (cc := cX7_reach) (maxL := 5) (ret := (some .int)) (by decide) rfl (Nat.le_of_ble_eq_true rfl) ?_
  intro p e R s m args below meth c A Q ls hRf hRl hQ hx hb hr hml hts hown hlocks hE hP hD hS hA hl
  have hiX7 : ∀ w ∈ u_ws RX7 TX7 24, w ∈ wsX7_reach := by decide +kernel
  have hl : lv_has ls 5 [(0, .ref mh), (1, .int p1)] := hl
  rw [tw_X7_reach] at h
  have L14 : ∀ (n : Nat) (x2 : Int32) (x3 : Int32) (m_now : Nat → Int32) (m_stopped : Int32)  (H : Heap) (locs : List Loc) (ls : Array Slot), lv_has ls 5 [(0, .ref mh), (1, .int p1), (2, .int x2), (3, .int x3)] → va_P D vwCl (cMd mh m_kindr m_toldr m_nowr m_readToldr m_readCellr m_readKindr m_textr m_rowr m_seenCellr m_seenWayr m_seenCamer m_isKeptr m_keptr cy.1 cy.2.2.1 m_marbles m_kind m_told m_now m_readTold m_readCell m_readKind m_text m_length m_at m_faultAt m_there m_stopped m_acts m_next m_row m_bestRow m_seen m_seenCell m_seenWay m_seenCame m_seed m_isKept m_kept) H → va_D A (cMd mh m_kindr m_toldr m_nowr m_readToldr m_readCellr m_readKindr m_textr m_rowr m_seenCellr m_seenWayr m_seenCamer m_isKeptr m_keptr cy.1 cy.2.2.1 m_marbles m_kind m_told m_now m_readTold m_readCell m_readKind m_text m_length m_at m_faultAt m_there m_stopped m_acts m_next m_row m_bestRow m_seen m_seenCell m_seenWay m_seenCame m_seed m_isKept m_kept) → va_S A s.heap H locs → tw_X7_reach_14 m_marbles m_kind m_told m_there p1 n x2 x3 m_now m_stopped = some res → W p l e R s m args below meth c H locs 0 0 Q (F0 m 14 ls []) := by
    intro n14
    induction n14 with
    | zero =>
      intro x2 x3 m_now m_stopped  H locs ls hl hP hD hS h
      exact absurd h (by rw [tw_X7_reach_14]; exact fun q => by cases q)
    | succ n14 ih14 =>
      intro x2 x3 m_now m_stopped  H locs ls hl hP hD hS h
      rw [tw_X7_reach_14] at h
      have L22 : ∀ (n : Nat) (x2 : Int32) (x3 : Int32) (x4 : Int32) (m_now : Nat → Int32) (m_stopped : Int32)  (H : Heap) (locs : List Loc) (ls : Array Slot), lv_has ls 5 [(0, .ref mh), (1, .int p1), (2, .int x2), (3, .int x3), (4, .int x4)] → va_P D vwCl (cMd mh m_kindr m_toldr m_nowr m_readToldr m_readCellr m_readKindr m_textr m_rowr m_seenCellr m_seenWayr m_seenCamer m_isKeptr m_keptr cy.1 cy.2.2.1 m_marbles m_kind m_told m_now m_readTold m_readCell m_readKind m_text m_length m_at m_faultAt m_there m_stopped m_acts m_next m_row m_bestRow m_seen m_seenCell m_seenWay m_seenCame m_seed m_isKept m_kept) H → va_D A (cMd mh m_kindr m_toldr m_nowr m_readToldr m_readCellr m_readKindr m_textr m_rowr m_seenCellr m_seenWayr m_seenCamer m_isKeptr m_keptr cy.1 cy.2.2.1 m_marbles m_kind m_told m_now m_readTold m_readCell m_readKind m_text m_length m_at m_faultAt m_there m_stopped m_acts m_next m_row m_bestRow m_seen m_seenCell m_seenWay m_seenCame m_seed m_isKept m_kept) → va_S A s.heap H locs → tw_X7_reach_22 m_marbles m_kind m_told m_there p1 (tw_X7_reach_14 m_marbles m_kind m_told m_there p1 n14) n x2 x3 x4 m_now m_stopped = some res → W p l e R s m args below meth c H locs 0 0 Q (F0 m 22 ls []) := by
        intro n22
        induction n22 with
        | zero =>
          intro x2 x3 x4 m_now m_stopped  H locs ls hl hP hD hS h
          exact absurd h (by rw [tw_X7_reach_22]; exact fun q => by cases q)
        | succ n22 ih22 =>
          intro x2 x3 x4 m_now m_stopped  H locs ls hl hP hD hS h
          rw [tw_X7_reach_22] at h
          refine lv_iload hx hb dX7_reach_22 (lv_at hl 4 rfl) ?_
          refine lv_iconst (v := 4) hx hb dX7_reach_24 (by decide) ?_
          refine lv_iload_n hx hb dX7_reach_25 rfl (lv_at hl 3 rfl) ?_
          obtain ⟨q1, hq1, h⟩ := ob h
          refine kS (As := [.int 4, .int x3]) (rest := [.int x4]) (w2 := cMd mh m_kindr m_toldr m_nowr m_readToldr m_readCellr m_readKindr m_textr m_rowr m_seenCellr m_seenWayr m_seenCamer m_isKeptr m_keptr cy.1 cy.2.2.1 m_marbles m_kind m_told m_now m_readTold m_readCell m_readKind m_text m_length m_at m_faultAt m_there m_stopped m_acts m_next m_row m_bestRow m_seen m_seenCell m_seenWay m_seenCame m_seed m_isKept m_kept) (n := 2) ⟨hx, hb, hml, hown, hts⟩ (c_X7_power l D cy 4 x3 q1 hq1) gX7_reach_X7_power rfl (by decide +kernel) ⟨by rw [hRf]; exact Nat.le_of_ble_eq_true rfl, by rw [hRl]; exact Nat.le_of_ble_eq_true rfl⟩ hE hP hD hS hA [] rfl rfl rfl rfl rfl hl.1 rfl (Nat.le_of_ble_eq_true rfl) dX7_reach_26 ⟨Nat.zero_le _, Nat.zero_le _⟩ (fun H locs hP hD hS => ?_)
          refine lv_icmp_ge (tgt := 78) hx hb dX7_reach_29 (by decide) (fun c2 => ?_) (fun c2 => ?_)
          · have h := oit h c2
            refine lv_iinc (v := x3 + 1) (lv' := [(3, .int (x3 + 1)), (0, .ref mh), (1, .int p1), (2, .int x2), (4, .int x4)]) hx hb dX7_reach_78 hl (k := 3) rfl rfl (by decide) rfl (fun ls hl => ?_)
            refine lv_goto (tgt := 14) hx hb dX7_reach_81 (by decide) ?_
            exact ih14 x2 (x3 + 1) m_now m_stopped _ _ _ (lv_sub hl [1, 2, 3, 0] rfl) hP hD hS h
          · have h := oif h c2
            refine lv_aload_n hx hb dX7_reach_32 rfl (lv_at hl 0 rfl) ?_
            refine lv_iload_n hx hb dX7_reach_33 rfl (lv_at hl 3 rfl) ?_
            refine lv_iload hx hb dX7_reach_34 (lv_at hl 4 rfl) ?_
            refine lv_iconst (v := 0) hx hb dX7_reach_36 (by decide) ?_
            obtain ⟨q3, hq3, h⟩ := ob h
            refine kV (As := [.int x3, .int x4, .int 0]) (rest := []) (w2 := cMd mh m_kindr m_toldr m_nowr m_readToldr m_readCellr m_readKindr m_textr m_rowr m_seenCellr m_seenWayr m_seenCamer m_isKeptr m_keptr cy.1 cy.2.2.1 m_marbles m_kind m_told q3.1 m_readTold m_readCell m_readKind m_text m_length m_at m_faultAt m_there q3.2 m_acts m_next m_row m_bestRow m_seen m_seenCell m_seenWay m_seenCame m_seed m_isKept m_kept) (n := 3) (q0 := 0) ⟨hx, hb, hml, hown, hts⟩ (c_X7_tiltRow l D cy mh m_kindr m_toldr m_nowr m_readToldr m_readCellr m_readKindr m_textr m_rowr m_seenCellr m_seenWayr m_seenCamer m_isKeptr m_keptr m_marbles m_kind m_told m_now m_readTold m_readCell m_readKind m_text m_length m_at m_faultAt m_there m_stopped m_acts m_next m_row m_bestRow m_seen m_seenCell m_seenWay m_seenCame m_seed m_isKept m_kept x3 x4 0 q3 hq3) gX7_reach_X7_tiltRow rfl (by decide +kernel) ⟨by rw [hRf]; exact Nat.le_of_ble_eq_true rfl, by rw [hRl]; exact Nat.le_of_ble_eq_true rfl⟩ hE hP hD hS hA [0, 1, 2, 3, 4, 5, 6, 7, 8, 9, 10, 11, 12, 13] rfl rfl rfl rfl rfl rfl rfl hl.1 rfl (Nat.le_of_ble_eq_true rfl) dX7_reach_37 ⟨Nat.zero_le _, Nat.zero_le _⟩ (fun H locs hP hD hS => ?_)
            refine lv_iload_n hx hb dX7_reach_40 rfl (lv_at hl 2 rfl) ?_
            refine lv_aload_n hx hb dX7_reach_41 rfl (lv_at hl 0 rfl) ?_
            refine va_get (D := D) (ci := 7) (v := .ref m_nowr) (C := RX7) (T := TX7) (N := 24) hx hb hts hiX7 hown hE.1 hP 0 rfl rfl 3 (by decide) (hts (.fieldLink RX7 16 "TiltTrayModel" "now" "[I") (by decide +kernel)) (fun _ h9 => h9) rfl dX7_reach_42 ?_
            refine lv_bipush (v := 7) hx hb dX7_reach_45 (by decide) ?_
            refine lv_iload_n hx hb dX7_reach_47 rfl (lv_at hl 1 rfl) ?_
            refine lv_iadd hx hb dX7_reach_48 ?_
            obtain ⟨g4, h⟩ := og h
            refine va_iald hx hb hE.1 hP 3 0 rfl rfl (ix_in g4) dX7_reach_49 ?_
            refine lv_bipush (v := 100) hx hb dX7_reach_50 (by decide) ?_
            refine lv_icmp_ge (tgt := 69) hx hb dX7_reach_52 (by decide) (fun c5 => ?_) (fun c5 => ?_)
            · have h := oit h c5
              refine lv_iconst (v := 0) hx hb dX7_reach_69 (by decide) ?_
              refine lv_ior hx hb dX7_reach_70 ?_
              refine lv_istore_n (lv' := [(2, .int (x2 ||| 0)), (0, .ref mh), (1, .int p1), (3, .int x3), (4, .int x4)]) hx hb dX7_reach_71 rfl hl (by decide) rfl (fun ls hl => ?_)
              refine lv_iinc (v := x4 + 1) (lv' := [(4, .int (x4 + 1)), (2, .int (x2 ||| 0)), (0, .ref mh), (1, .int p1), (3, .int x3)]) hx hb dX7_reach_72 hl (k := 4) rfl rfl (by decide) rfl (fun ls hl => ?_)
              refine lv_goto (tgt := 22) hx hb dX7_reach_75 (by decide) ?_
              exact ih22 (x2 ||| 0) x3 (x4 + 1) q3.1 q3.2 _ _ _ (lv_sub hl [2, 3, 1, 4, 0] rfl) hP hD hS h
            · have h := oif h c5
              refine lv_iconst (v := 1) hx hb dX7_reach_55 (by decide) ?_
              refine lv_aload_n hx hb dX7_reach_56 rfl (lv_at hl 0 rfl) ?_
              refine va_get (D := D) (ci := 7) (v := .ref m_nowr) (C := RX7) (T := TX7) (N := 24) hx hb hts hiX7 hown hE.1 hP 0 rfl rfl 3 (by decide) (hts (.fieldLink RX7 16 "TiltTrayModel" "now" "[I") (by decide +kernel)) (fun _ h9 => h9) rfl dX7_reach_57 ?_
              refine lv_bipush (v := 7) hx hb dX7_reach_60 (by decide) ?_
              refine lv_iload_n hx hb dX7_reach_62 rfl (lv_at hl 1 rfl) ?_
              refine lv_iadd hx hb dX7_reach_63 ?_
              obtain ⟨g6, h⟩ := og h
              refine va_iald hx hb hE.1 hP 3 0 rfl rfl (ix_in g6) dX7_reach_64 ?_
              refine lv_ishl hx hb dX7_reach_65 ?_
              refine lv_goto (tgt := 70) hx hb dX7_reach_66 (by decide) ?_
              refine lv_ior hx hb dX7_reach_70 ?_
              refine lv_istore_n (lv' := [(2, .int (x2 ||| (1 <<< ((q3.1 (7 + p1).toNatClampNeg) &&& 31)))), (0, .ref mh), (1, .int p1), (3, .int x3), (4, .int x4)]) hx hb dX7_reach_71 rfl hl (by decide) rfl (fun ls hl => ?_)
              refine lv_iinc (v := x4 + 1) (lv' := [(4, .int (x4 + 1)), (2, .int (x2 ||| (1 <<< ((q3.1 (7 + p1).toNatClampNeg) &&& 31)))), (0, .ref mh), (1, .int p1), (3, .int x3)]) hx hb dX7_reach_72 hl (k := 4) rfl rfl (by decide) rfl (fun ls hl => ?_)
              refine lv_goto (tgt := 22) hx hb dX7_reach_75 (by decide) ?_
              exact ih22 (x2 ||| (1 <<< ((q3.1 (7 + p1).toNatClampNeg) &&& 31))) x3 (x4 + 1) q3.1 q3.2 _ _ _ (lv_sub hl [2, 3, 1, 4, 0] rfl) hP hD hS h
      refine lv_iload_n hx hb dX7_reach_14 rfl (lv_at hl 3 rfl) ?_
      refine lv_iconst (v := 5) hx hb dX7_reach_15 (by decide) ?_
      refine lv_icmp_ge (tgt := 84) hx hb dX7_reach_16 (by decide) (fun c7 => ?_) (fun c7 => ?_)
      · have h := oit h c7
        refine lv_iload_n hx hb dX7_reach_84 rfl (lv_at hl 2 rfl) ?_
        obtain rfl := Option.some.inj h
        rw [hQ]; exact ct_iret hx hb hr hlocks hP hS rfl dX7_reach_85
      · have h := oif h c7
        refine lv_iconst (v := 0) hx hb dX7_reach_19 (by decide) ?_
        refine lv_istore (lv' := [(4, .int 0), (0, .ref mh), (1, .int p1), (2, .int x2), (3, .int x3)]) hx hb dX7_reach_20 hl (by decide) rfl (fun ls hl => ?_)
        exact L22 257 x2 x3 0 m_now m_stopped _ _ _ (lv_sub hl [1, 2, 3, 4, 0] rfl) hP hD hS h
  refine lv_aload_n hx hb dX7_reach_0 rfl (lv_at hl 0 rfl) ?_
  refine lv_iload_n hx hb dX7_reach_1 rfl (lv_at hl 1 rfl) ?_
  obtain ⟨q8, hq8, h⟩ := ob h
  refine kV (As := [.int p1]) (rest := []) (w2 := cMd mh m_kindr m_toldr m_nowr m_readToldr m_readCellr m_readKindr m_textr m_rowr m_seenCellr m_seenWayr m_seenCamer m_isKeptr m_keptr cy.1 cy.2.2.1 m_marbles m_kind m_told m_now m_readTold m_readCell m_readKind m_text m_length m_at m_faultAt m_there m_stopped m_acts m_next m_row m_bestRow m_seen m_seenCell m_seenWay m_seenCame m_seed m_isKept m_kept) (n := 1) (q0 := 0) ⟨hx, hb, hml, hown, hts⟩ (c_X7_isMarble l D cy mh m_kindr m_toldr m_nowr m_readToldr m_readCellr m_readKindr m_textr m_rowr m_seenCellr m_seenWayr m_seenCamer m_isKeptr m_keptr m_marbles m_kind m_told m_now m_readTold m_readCell m_readKind m_text m_length m_at m_faultAt m_there m_stopped m_acts m_next m_row m_bestRow m_seen m_seenCell m_seenWay m_seenCame m_seed m_isKept m_kept p1 q8 hq8) gX7_reach_X7_isMarble rfl (by decide +kernel) ⟨by rw [hRf]; exact Nat.le_of_ble_eq_true rfl, by rw [hRl]; exact Nat.le_of_ble_eq_true rfl⟩ hE hP hD hS hA [0, 1, 2, 3, 4, 5, 6, 7, 8, 9, 10, 11, 12, 13] rfl rfl rfl rfl rfl rfl rfl hl.1 rfl (Nat.le_of_ble_eq_true rfl) dX7_reach_2 ⟨Nat.zero_le _, Nat.zero_le _⟩ (fun H locs hP hD hS => ?_)
  refine lv_if_ne (tgt := 10) hx hb dX7_reach_5 (by decide) (fun c9 => ?_) (fun c9 => ?_)
  · have h := oif h c9
    refine lv_iconst (v := 0) hx hb dX7_reach_10 (by decide) ?_
    refine lv_istore_n (lv' := [(2, .int 0), (0, .ref mh), (1, .int p1)]) hx hb dX7_reach_11 rfl hl (by decide) rfl (fun ls hl => ?_)
    refine lv_iconst (v := 0) hx hb dX7_reach_12 (by decide) ?_
    refine lv_istore_n (lv' := [(3, .int 0), (2, .int 0), (0, .ref mh), (1, .int p1)]) hx hb dX7_reach_13 rfl hl (by decide) rfl (fun ls hl => ?_)
    exact L14 6 0 0 m_now m_stopped _ _ _ (lv_sub hl [2, 3, 1, 0] rfl) hP hD hS h
  · have h := oit h c9
    refine lv_iconst (v := (-1)) hx hb dX7_reach_8 (by decide) ?_
    obtain rfl := Option.some.inj h
    rw [hQ]; exact ct_iret hx hb hr hlocks hP hS rfl dX7_reach_9

def tw_X7_bestOf_47 (m_marbles : Int32) (m_kind : Nat → Int32) (m_told : Nat → Int32) (m_there : Int32) (p1 : Int32) (k5 : Int32 → Int32 → (Nat → Int32) → Int32 → Int32 → Option (Int32 × (Nat → Int32) × Int32 × Int32)) (x2 : Int32) (x3 : Int32) (x4 : Int32) (z1 : Int32) (m_now : Nat → Int32) (m_stopped : Int32) (m_bestRow : Int32) : Option (Int32 × (Nat → Int32) × Int32 × Int32) :=
  if x4 ≤ x2 then (k5 x2 (x3 + 1) m_now m_stopped z1) else (k5 x4 (x3 + 1) m_now m_stopped z1)
def tw_X7_bestOf_5 (m_marbles : Int32) (m_kind : Nat → Int32) (m_told : Nat → Int32) (m_there : Int32) (p1 : Int32) : Nat → Int32 → Int32 → (Nat → Int32) → Int32 → Int32 → Option (Int32 × (Nat → Int32) × Int32 × Int32)
  | 0, _, _, _, _, _ => none
  | n + 1, x2, x3, m_now, m_stopped, m_bestRow =>
    (tw_X7_power 4 p1).bind (fun q2 => if q2 ≤ x3 then (some (x2, m_now, m_stopped, m_bestRow)) else ((tw_X7_tiltRow m_marbles m_kind m_told m_now m_there m_stopped p1 x3 0).bind (fun q4 => (tw_X7_fallen m_marbles q4.1 m_there 1).bind (fun q5 => if q5 ≤ x2 then (tw_X7_bestOf_47 m_marbles m_kind m_told m_there p1 (tw_X7_bestOf_5 m_marbles m_kind m_told m_there p1 n) x2 x3 q5 m_bestRow q4.1 q4.2 m_bestRow) else ((tw_X7_figuresOf p1 x3).bind (fun q7 => tw_X7_bestOf_47 m_marbles m_kind m_told m_there p1 (tw_X7_bestOf_5 m_marbles m_kind m_told m_there p1 n) x2 x3 q5 q7 q4.1 q4.2 m_bestRow))))))
def tw_X7_bestOf (m_marbles : Int32) (m_kind : Nat → Int32) (m_told : Nat → Int32) (m_now : Nat → Int32) (m_there : Int32) (m_stopped : Int32) (m_bestRow : Int32) (p1 : Int32) : Option (Int32 × (Nat → Int32) × Int32 × Int32) :=
  tw_X7_bestOf_5 m_marbles m_kind m_told m_there p1 257 (-9) 0 m_now m_stopped m_bestRow
set_option maxHeartbeats 4000000 in
set_option maxRecDepth 100000 in
theorem c_X7_bestOf (l : Launch) (D : va_G) (cy : Cy) (mh : Nat) (m_kindr : Nat) (m_toldr : Nat) (m_nowr : Nat) (m_readToldr : Nat) (m_readCellr : Nat) (m_readKindr : Nat) (m_textr : Nat) (m_rowr : Nat) (m_seenCellr : Nat) (m_seenWayr : Nat) (m_seenCamer : Nat) (m_isKeptr : Nat) (m_keptr : Nat) (m_marbles : Int32) (m_kind : Nat → Int32) (m_told : Nat → Int32) (m_now : Nat → Int32) (m_readTold : Nat → Int32) (m_readCell : Nat → Int32) (m_readKind : Nat → Int32) (m_text : Nat → Int32) (m_length : Int32) (m_at : Int32) (m_faultAt : Int32) (m_there : Int32) (m_stopped : Int32) (m_acts : Int32) (m_next : Int32) (m_row : Nat → Int32) (m_bestRow : Int32) (m_seen : Int32) (m_seenCell : Nat → Int32) (m_seenWay : Nat → Int32) (m_seenCame : Nat → Int32) (m_seed : Int64) (m_isKept : Nat → Int32) (m_kept : Nat → Int32) (p1 : Int32) (res : Int32 × (Nat → Int32) × Int32 × Int32) (h : tw_X7_bestOf m_marbles m_kind m_told m_now m_there m_stopped m_bestRow p1 = some res) : Ct l yX7_bestOf wsX7_bestOf 7 164 D cy [.ref mh, .int p1] (cMd mh m_kindr m_toldr m_nowr m_readToldr m_readCellr m_readKindr m_textr m_rowr m_seenCellr m_seenWayr m_seenCamer m_isKeptr m_keptr cy.1 cy.2.2.1 m_marbles m_kind m_told m_now m_readTold m_readCell m_readKind m_text m_length m_at m_faultAt m_there m_stopped m_acts m_next m_row m_bestRow m_seen m_seenCell m_seenWay m_seenCame m_seed m_isKept m_kept) (cMd mh m_kindr m_toldr m_nowr m_readToldr m_readCellr m_readKindr m_textr m_rowr m_seenCellr m_seenWayr m_seenCamer m_isKeptr m_keptr cy.1 cy.2.2.1 m_marbles m_kind m_told res.2.1 m_readTold m_readCell m_readKind m_text m_length m_at m_faultAt m_there res.2.2.1 m_acts m_next m_row res.2.2.2 m_seen m_seenCell m_seenWay m_seenCame m_seed m_isKept m_kept) (some (.int res.1)) := by
  refine Ct.ofW (cc := cX7_bestOf) (maxL := 5) (ret := (some .int)) (by decide) rfl (Nat.le_of_ble_eq_true rfl) ?_
  intro p e R s m args below meth c A Q ls hRf hRl hQ hx hb hr hml hts hown hlocks hE hP hD hS hA hl
  have hiX7 : ∀ w ∈ u_ws RX7 TX7 24, w ∈ wsX7_bestOf := by decide +kernel
  have hl : lv_has ls 5 [(0, .ref mh), (1, .int p1)] := hl
  rw [tw_X7_bestOf] at h
  have L5 : ∀ (n : Nat) (x2 : Int32) (x3 : Int32) (m_now : Nat → Int32) (m_stopped : Int32) (m_bestRow : Int32)  (H : Heap) (locs : List Loc) (ls : Array Slot), lv_has ls 5 [(0, .ref mh), (1, .int p1), (2, .int x2), (3, .int x3)] → va_P D vwCl (cMd mh m_kindr m_toldr m_nowr m_readToldr m_readCellr m_readKindr m_textr m_rowr m_seenCellr m_seenWayr m_seenCamer m_isKeptr m_keptr cy.1 cy.2.2.1 m_marbles m_kind m_told m_now m_readTold m_readCell m_readKind m_text m_length m_at m_faultAt m_there m_stopped m_acts m_next m_row m_bestRow m_seen m_seenCell m_seenWay m_seenCame m_seed m_isKept m_kept) H → va_D A (cMd mh m_kindr m_toldr m_nowr m_readToldr m_readCellr m_readKindr m_textr m_rowr m_seenCellr m_seenWayr m_seenCamer m_isKeptr m_keptr cy.1 cy.2.2.1 m_marbles m_kind m_told m_now m_readTold m_readCell m_readKind m_text m_length m_at m_faultAt m_there m_stopped m_acts m_next m_row m_bestRow m_seen m_seenCell m_seenWay m_seenCame m_seed m_isKept m_kept) → va_S A s.heap H locs → tw_X7_bestOf_5 m_marbles m_kind m_told m_there p1 n x2 x3 m_now m_stopped m_bestRow = some res → W p l e R s m args below meth c H locs 0 0 Q (F0 m 5 ls []) := by
    intro n5
    induction n5 with
    | zero =>
      intro x2 x3 m_now m_stopped m_bestRow  H locs ls hl hP hD hS h
      exact absurd h (by rw [tw_X7_bestOf_5]; exact fun q => by cases q)
    | succ n5 ih5 =>
      intro x2 x3 m_now m_stopped m_bestRow  H locs ls hl hP hD hS h
      rw [tw_X7_bestOf_5] at h
      have L47 : ∀ (x2 : Int32) (x3 : Int32) (x4 : Int32) (z1 : Int32) (m_now : Nat → Int32) (m_stopped : Int32) (m_bestRow : Int32)  (H : Heap) (locs : List Loc) (ls : Array Slot), lv_has ls 5 [(0, .ref mh), (1, .int p1), (2, .int x2), (3, .int x3), (4, .int x4)] → va_P D vwCl (cMd mh m_kindr m_toldr m_nowr m_readToldr m_readCellr m_readKindr m_textr m_rowr m_seenCellr m_seenWayr m_seenCamer m_isKeptr m_keptr cy.1 cy.2.2.1 m_marbles m_kind m_told m_now m_readTold m_readCell m_readKind m_text m_length m_at m_faultAt m_there m_stopped m_acts m_next m_row m_bestRow m_seen m_seenCell m_seenWay m_seenCame m_seed m_isKept m_kept) H → va_D A (cMd mh m_kindr m_toldr m_nowr m_readToldr m_readCellr m_readKindr m_textr m_rowr m_seenCellr m_seenWayr m_seenCamer m_isKeptr m_keptr cy.1 cy.2.2.1 m_marbles m_kind m_told m_now m_readTold m_readCell m_readKind m_text m_length m_at m_faultAt m_there m_stopped m_acts m_next m_row m_bestRow m_seen m_seenCell m_seenWay m_seenCame m_seed m_isKept m_kept) → va_S A s.heap H locs → tw_X7_bestOf_47 m_marbles m_kind m_told m_there p1 (tw_X7_bestOf_5 m_marbles m_kind m_told m_there p1 n5) x2 x3 x4 z1 m_now m_stopped m_bestRow = some res → W p l e R s m args below meth c H locs 0 0 Q (F0 m 47 ls [.int z1, .ref mh]) := by
        intro x2 x3 x4 z1 m_now m_stopped m_bestRow  H locs ls hl hP hD hS h
        rw [tw_X7_bestOf_47] at h
        refine va_put (D := D) (ci := 7) (v := .int z1) (ty := .int) (C := RX7) (T := TX7) (N := 24) hx hb hts hiX7 tyX7 tyX7_ok nmX7 hown hE.1 hP hD hS 0 rfl rfl 16 (by decide) (hts (.fieldLink RX7 163 "TiltTrayModel" "bestRow" "I") (by decide +kernel)) (fun _ h9 => h9) rfl (by decide +kernel) rfl rfl (Nat.le_of_ble_eq_true rfl) dX7_bestOf_47 (fun H locs hP hD hS => ?_)
        have hP : va_P D vwCl (cMd mh m_kindr m_toldr m_nowr m_readToldr m_readCellr m_readKindr m_textr m_rowr m_seenCellr m_seenWayr m_seenCamer m_isKeptr m_keptr cy.1 cy.2.2.1 m_marbles m_kind m_told m_now m_readTold m_readCell m_readKind m_text m_length m_at m_faultAt m_there m_stopped m_acts m_next m_row z1 m_seen m_seenCell m_seenWay m_seenCame m_seed m_isKept m_kept) H := hP
        have hD : va_D A (cMd mh m_kindr m_toldr m_nowr m_readToldr m_readCellr m_readKindr m_textr m_rowr m_seenCellr m_seenWayr m_seenCamer m_isKeptr m_keptr cy.1 cy.2.2.1 m_marbles m_kind m_told m_now m_readTold m_readCell m_readKind m_text m_length m_at m_faultAt m_there m_stopped m_acts m_next m_row z1 m_seen m_seenCell m_seenWay m_seenCame m_seed m_isKept m_kept) := hD
        refine lv_iload hx hb dX7_bestOf_50 (lv_at hl 4 rfl) ?_
        refine lv_iload_n hx hb dX7_bestOf_52 rfl (lv_at hl 2 rfl) ?_
        refine lv_icmp_le (tgt := 61) hx hb dX7_bestOf_53 (by decide) (fun c1 => ?_) (fun c1 => ?_)
        · have h := oit h c1
          refine lv_iload_n hx hb dX7_bestOf_61 rfl (lv_at hl 2 rfl) ?_
          refine lv_istore_n (lv' := [(2, .int x2), (0, .ref mh), (1, .int p1), (3, .int x3), (4, .int x4)]) hx hb dX7_bestOf_62 rfl hl (by decide) rfl (fun ls hl => ?_)
          refine lv_iinc (v := x3 + 1) (lv' := [(3, .int (x3 + 1)), (2, .int x2), (0, .ref mh), (1, .int p1), (4, .int x4)]) hx hb dX7_bestOf_63 hl (k := 3) rfl rfl (by decide) rfl (fun ls hl => ?_)
          refine lv_goto (tgt := 5) hx hb dX7_bestOf_66 (by decide) ?_
          exact ih5 x2 (x3 + 1) m_now m_stopped z1 _ _ _ (lv_sub hl [2, 3, 1, 0] rfl) hP hD hS h
        · have h := oif h c1
          refine lv_iload hx hb dX7_bestOf_56 (lv_at hl 4 rfl) ?_
          refine lv_goto (tgt := 62) hx hb dX7_bestOf_58 (by decide) ?_
          refine lv_istore_n (lv' := [(2, .int x4), (0, .ref mh), (1, .int p1), (3, .int x3), (4, .int x4)]) hx hb dX7_bestOf_62 rfl hl (by decide) rfl (fun ls hl => ?_)
          refine lv_iinc (v := x3 + 1) (lv' := [(3, .int (x3 + 1)), (2, .int x4), (0, .ref mh), (1, .int p1), (4, .int x4)]) hx hb dX7_bestOf_63 hl (k := 3) rfl rfl (by decide) rfl (fun ls hl => ?_)
          refine lv_goto (tgt := 5) hx hb dX7_bestOf_66 (by decide) ?_
          exact ih5 x4 (x3 + 1) m_now m_stopped z1 _ _ _ (lv_sub hl [2, 3, 1, 0] rfl) hP hD hS h
      refine lv_iload_n hx hb dX7_bestOf_5 rfl (lv_at hl 3 rfl) ?_
      refine lv_iconst (v := 4) hx hb dX7_bestOf_6 (by decide) ?_
      refine lv_iload_n hx hb dX7_bestOf_7 rfl (lv_at hl 1 rfl) ?_
      obtain ⟨q2, hq2, h⟩ := ob h
      refine kS (As := [.int 4, .int p1]) (rest := [.int x3]) (w2 := cMd mh m_kindr m_toldr m_nowr m_readToldr m_readCellr m_readKindr m_textr m_rowr m_seenCellr m_seenWayr m_seenCamer m_isKeptr m_keptr cy.1 cy.2.2.1 m_marbles m_kind m_told m_now m_readTold m_readCell m_readKind m_text m_length m_at m_faultAt m_there m_stopped m_acts m_next m_row m_bestRow m_seen m_seenCell m_seenWay m_seenCame m_seed m_isKept m_kept) (n := 2) ⟨hx, hb, hml, hown, hts⟩ (c_X7_power l D cy 4 p1 q2 hq2) gX7_bestOf_X7_power rfl (by decide +kernel) ⟨by rw [hRf]; exact Nat.le_of_ble_eq_true rfl, by rw [hRl]; exact Nat.le_of_ble_eq_true rfl⟩ hE hP hD hS hA [] rfl rfl rfl rfl rfl hl.1 rfl (Nat.le_of_ble_eq_true rfl) dX7_bestOf_8 ⟨Nat.zero_le _, Nat.zero_le _⟩ (fun H locs hP hD hS => ?_)
      refine lv_icmp_ge (tgt := 69) hx hb dX7_bestOf_11 (by decide) (fun c3 => ?_) (fun c3 => ?_)
      · have h := oit h c3
        refine lv_iload_n hx hb dX7_bestOf_69 rfl (lv_at hl 2 rfl) ?_
        obtain rfl := Option.some.inj h
        rw [hQ]; exact ct_iret hx hb hr hlocks hP hS rfl dX7_bestOf_70
      · have h := oif h c3
        refine lv_aload_n hx hb dX7_bestOf_14 rfl (lv_at hl 0 rfl) ?_
        refine lv_iload_n hx hb dX7_bestOf_15 rfl (lv_at hl 1 rfl) ?_
        refine lv_iload_n hx hb dX7_bestOf_16 rfl (lv_at hl 3 rfl) ?_
        refine lv_iconst (v := 0) hx hb dX7_bestOf_17 (by decide) ?_
        obtain ⟨q4, hq4, h⟩ := ob h
        refine kV (As := [.int p1, .int x3, .int 0]) (rest := []) (w2 := cMd mh m_kindr m_toldr m_nowr m_readToldr m_readCellr m_readKindr m_textr m_rowr m_seenCellr m_seenWayr m_seenCamer m_isKeptr m_keptr cy.1 cy.2.2.1 m_marbles m_kind m_told q4.1 m_readTold m_readCell m_readKind m_text m_length m_at m_faultAt m_there q4.2 m_acts m_next m_row m_bestRow m_seen m_seenCell m_seenWay m_seenCame m_seed m_isKept m_kept) (n := 3) (q0 := 0) ⟨hx, hb, hml, hown, hts⟩ (c_X7_tiltRow l D cy mh m_kindr m_toldr m_nowr m_readToldr m_readCellr m_readKindr m_textr m_rowr m_seenCellr m_seenWayr m_seenCamer m_isKeptr m_keptr m_marbles m_kind m_told m_now m_readTold m_readCell m_readKind m_text m_length m_at m_faultAt m_there m_stopped m_acts m_next m_row m_bestRow m_seen m_seenCell m_seenWay m_seenCame m_seed m_isKept m_kept p1 x3 0 q4 hq4) gX7_bestOf_X7_tiltRow rfl (by decide +kernel) ⟨by rw [hRf]; exact Nat.le_of_ble_eq_true rfl, by rw [hRl]; exact Nat.le_of_ble_eq_true rfl⟩ hE hP hD hS hA [0, 1, 2, 3, 4, 5, 6, 7, 8, 9, 10, 11, 12, 13] rfl rfl rfl rfl rfl rfl rfl hl.1 rfl (Nat.le_of_ble_eq_true rfl) dX7_bestOf_18 ⟨Nat.zero_le _, Nat.zero_le _⟩ (fun H locs hP hD hS => ?_)
        refine lv_aload_n hx hb dX7_bestOf_21 rfl (lv_at hl 0 rfl) ?_
        refine lv_iconst (v := 1) hx hb dX7_bestOf_22 (by decide) ?_
        obtain ⟨q5, hq5, h⟩ := ob h
        refine kV (As := [.int 1]) (rest := []) (w2 := cMd mh m_kindr m_toldr m_nowr m_readToldr m_readCellr m_readKindr m_textr m_rowr m_seenCellr m_seenWayr m_seenCamer m_isKeptr m_keptr cy.1 cy.2.2.1 m_marbles m_kind m_told q4.1 m_readTold m_readCell m_readKind m_text m_length m_at m_faultAt m_there q4.2 m_acts m_next m_row m_bestRow m_seen m_seenCell m_seenWay m_seenCame m_seed m_isKept m_kept) (n := 1) (q0 := 0) ⟨hx, hb, hml, hown, hts⟩ (c_X7_fallen l D cy mh m_kindr m_toldr m_nowr m_readToldr m_readCellr m_readKindr m_textr m_rowr m_seenCellr m_seenWayr m_seenCamer m_isKeptr m_keptr m_marbles m_kind m_told q4.1 m_readTold m_readCell m_readKind m_text m_length m_at m_faultAt m_there q4.2 m_acts m_next m_row m_bestRow m_seen m_seenCell m_seenWay m_seenCame m_seed m_isKept m_kept 1 q5 hq5) gX7_bestOf_X7_fallen rfl (by decide +kernel) ⟨by rw [hRf]; exact Nat.le_of_ble_eq_true rfl, by rw [hRl]; exact Nat.le_of_ble_eq_true rfl⟩ hE hP hD hS hA [0, 1, 2, 3, 4, 5, 6, 7, 8, 9, 10, 11, 12, 13] rfl rfl rfl rfl rfl rfl rfl hl.1 rfl (Nat.le_of_ble_eq_true rfl) dX7_bestOf_23 ⟨Nat.zero_le _, Nat.zero_le _⟩ (fun H locs hP hD hS => ?_)
        refine lv_istore (lv' := [(4, .int q5), (0, .ref mh), (1, .int p1), (2, .int x2), (3, .int x3)]) hx hb dX7_bestOf_26 hl (by decide) rfl (fun ls hl => ?_)
        refine lv_aload_n hx hb dX7_bestOf_28 rfl (lv_at hl 1 rfl) ?_
        refine lv_iload hx hb dX7_bestOf_29 (lv_at hl 0 rfl) ?_
        refine lv_iload_n hx hb dX7_bestOf_31 rfl (lv_at hl 3 rfl) ?_
        refine lv_icmp_le (tgt := 43) hx hb dX7_bestOf_32 (by decide) (fun c6 => ?_) (fun c6 => ?_)
        · have h := oit h c6
          refine lv_aload_n hx hb dX7_bestOf_43 rfl (lv_at hl 1 rfl) ?_
          refine va_get (D := D) (ci := 7) (v := .int m_bestRow) (C := RX7) (T := TX7) (N := 24) hx hb hts hiX7 hown hE.1 hP 0 rfl rfl 16 (by decide) (hts (.fieldLink RX7 163 "TiltTrayModel" "bestRow" "I") (by decide +kernel)) (fun _ h9 => h9) rfl dX7_bestOf_44 ?_
          exact L47 x2 x3 q5 m_bestRow q4.1 q4.2 m_bestRow _ _ _ (lv_sub hl [1, 2, 3, 4, 0] rfl) hP hD hS h
        · have h := oif h c6
          refine lv_iload_n hx hb dX7_bestOf_35 rfl (lv_at hl 2 rfl) ?_
          refine lv_iload_n hx hb dX7_bestOf_36 rfl (lv_at hl 4 rfl) ?_
          obtain ⟨q7, hq7, h⟩ := ob h
          refine kS (As := [.int p1, .int x3]) (rest := [.ref mh]) (w2 := cMd mh m_kindr m_toldr m_nowr m_readToldr m_readCellr m_readKindr m_textr m_rowr m_seenCellr m_seenWayr m_seenCamer m_isKeptr m_keptr cy.1 cy.2.2.1 m_marbles m_kind m_told q4.1 m_readTold m_readCell m_readKind m_text m_length m_at m_faultAt m_there q4.2 m_acts m_next m_row m_bestRow m_seen m_seenCell m_seenWay m_seenCame m_seed m_isKept m_kept) (n := 2) ⟨hx, hb, hml, hown, hts⟩ (c_X7_figuresOf l D cy p1 x3 q7 hq7) gX7_bestOf_X7_figuresOf rfl (by decide +kernel) ⟨by rw [hRf]; exact Nat.le_of_ble_eq_true rfl, by rw [hRl]; exact Nat.le_of_ble_eq_true rfl⟩ hE hP hD hS hA [] rfl rfl rfl rfl rfl hl.1 rfl (Nat.le_of_ble_eq_true rfl) dX7_bestOf_37 ⟨Nat.zero_le _, Nat.zero_le _⟩ (fun H locs hP hD hS => ?_)
          refine lv_goto (tgt := 47) hx hb dX7_bestOf_40 (by decide) ?_
          exact L47 x2 x3 q5 q7 q4.1 q4.2 m_bestRow _ _ _ (lv_sub hl [1, 2, 3, 4, 0] rfl) hP hD hS h
  refine lv_bipush (v := (-9)) hx hb dX7_bestOf_0 (by decide) ?_
  refine lv_istore_n (lv' := [(2, .int (-9)), (0, .ref mh), (1, .int p1)]) hx hb dX7_bestOf_2 rfl hl (by decide) rfl (fun ls hl => ?_)
  refine lv_iconst (v := 0) hx hb dX7_bestOf_3 (by decide) ?_
  refine lv_istore_n (lv' := [(3, .int 0), (2, .int (-9)), (0, .ref mh), (1, .int p1)]) hx hb dX7_bestOf_4 rfl hl (by decide) rfl (fun ls hl => ?_)
  exact L5 257 (-9) 0 m_now m_stopped m_bestRow _ _ _ (lv_sub hl [2, 3, 1, 0] rfl) hP hD hS h

def tw_X7_best (m_marbles : Int32) (m_kind : Nat → Int32) (m_told : Nat → Int32) (m_now : Nat → Int32) (m_there : Int32) (m_stopped : Int32) (m_bestRow : Int32) (p1 : Int32) (p2 : Int32) : Option (Int32 × (Nat → Int32) × Int32 × Int32) :=
  (tw_X7_in p1.toInt64 1 4).bind (fun q1 => if q1 = 0 then (some ((-2), m_now, m_stopped, m_bestRow)) else ((tw_X7_bestOf m_marbles m_kind m_told m_now m_there m_stopped m_bestRow p1).bind (fun q3 => if p2 = 0 then (some (q3.1, q3.2.1, q3.2.2.1, q3.2.2.2)) else (some (q3.2.2.2, q3.2.1, q3.2.2.1, q3.2.2.2)))))
set_option maxHeartbeats 4000000 in
set_option maxRecDepth 100000 in
theorem c_X7_best (l : Launch) (D : va_G) (cy : Cy) (mh : Nat) (m_kindr : Nat) (m_toldr : Nat) (m_nowr : Nat) (m_readToldr : Nat) (m_readCellr : Nat) (m_readKindr : Nat) (m_textr : Nat) (m_rowr : Nat) (m_seenCellr : Nat) (m_seenWayr : Nat) (m_seenCamer : Nat) (m_isKeptr : Nat) (m_keptr : Nat) (m_marbles : Int32) (m_kind : Nat → Int32) (m_told : Nat → Int32) (m_now : Nat → Int32) (m_readTold : Nat → Int32) (m_readCell : Nat → Int32) (m_readKind : Nat → Int32) (m_text : Nat → Int32) (m_length : Int32) (m_at : Int32) (m_faultAt : Int32) (m_there : Int32) (m_stopped : Int32) (m_acts : Int32) (m_next : Int32) (m_row : Nat → Int32) (m_bestRow : Int32) (m_seen : Int32) (m_seenCell : Nat → Int32) (m_seenWay : Nat → Int32) (m_seenCame : Nat → Int32) (m_seed : Int64) (m_isKept : Nat → Int32) (m_kept : Nat → Int32) (p1 : Int32) (p2 : Int32) (res : Int32 × (Nat → Int32) × Int32 × Int32) (h : tw_X7_best m_marbles m_kind m_told m_now m_there m_stopped m_bestRow p1 p2 = some res) : Ct l yX7_best wsX7_best 8 188 D cy [.ref mh, .int p1, .int p2] (cMd mh m_kindr m_toldr m_nowr m_readToldr m_readCellr m_readKindr m_textr m_rowr m_seenCellr m_seenWayr m_seenCamer m_isKeptr m_keptr cy.1 cy.2.2.1 m_marbles m_kind m_told m_now m_readTold m_readCell m_readKind m_text m_length m_at m_faultAt m_there m_stopped m_acts m_next m_row m_bestRow m_seen m_seenCell m_seenWay m_seenCame m_seed m_isKept m_kept) (cMd mh m_kindr m_toldr m_nowr m_readToldr m_readCellr m_readKindr m_textr m_rowr m_seenCellr m_seenWayr m_seenCamer m_isKeptr m_keptr cy.1 cy.2.2.1 m_marbles m_kind m_told res.2.1 m_readTold m_readCell m_readKind m_text m_length m_at m_faultAt m_there res.2.2.1 m_acts m_next m_row res.2.2.2 m_seen m_seenCell m_seenWay m_seenCame m_seed m_isKept m_kept) (some (.int res.1)) := by
  refine Ct.ofW (cc := cX7_best) (maxL := 4) (ret := (some .int)) (by decide) rfl (Nat.le_of_ble_eq_true rfl) ?_
  intro p e R s m args below meth c A Q ls hRf hRl hQ hx hb hr hml hts hown hlocks hE hP hD hS hA hl
  have hiX7 : ∀ w ∈ u_ws RX7 TX7 24, w ∈ wsX7_best := by decide +kernel
  have hl : lv_has ls 4 [(0, .ref mh), (1, .int p1), (2, .int p2)] := hl
  rw [tw_X7_best] at h
  refine lv_iload_n hx hb dX7_best_0 rfl (lv_at hl 1 rfl) ?_
  refine lv_i2l hx hb dX7_best_1 rfl ?_
  refine lv_lconst (v := 1) hx hb dX7_best_2 (by decide) ?_
  refine lv_ldc2 (v := 4) hx hb hown (hts (.constantLong RX7 166 (4)) (by decide +kernel)) dX7_best_3 ?_
  obtain ⟨q1, hq1, h⟩ := ob h
  refine kS (As := [.long p1.toInt64, .long 1, .long 4]) (rest := []) (w2 := cMd mh m_kindr m_toldr m_nowr m_readToldr m_readCellr m_readKindr m_textr m_rowr m_seenCellr m_seenWayr m_seenCamer m_isKeptr m_keptr cy.1 cy.2.2.1 m_marbles m_kind m_told m_now m_readTold m_readCell m_readKind m_text m_length m_at m_faultAt m_there m_stopped m_acts m_next m_row m_bestRow m_seen m_seenCell m_seenWay m_seenCame m_seed m_isKept m_kept) (n := 3) ⟨hx, hb, hml, hown, hts⟩ (c_X7_in l D cy p1.toInt64 1 4 q1 hq1) gX7_best_X7_in rfl (by decide +kernel) ⟨by rw [hRf]; exact Nat.le_of_ble_eq_true rfl, by rw [hRl]; exact Nat.le_of_ble_eq_true rfl⟩ hE hP hD hS hA [] rfl rfl rfl rfl rfl hl.1 rfl (Nat.le_of_ble_eq_true rfl) dX7_best_6 ⟨Nat.zero_le _, Nat.zero_le _⟩ (fun H locs hP hD hS => ?_)
  refine lv_if_ne (tgt := 15) hx hb dX7_best_9 (by decide) (fun c2 => ?_) (fun c2 => ?_)
  · have h := oif h c2
    refine lv_aload_n hx hb dX7_best_15 rfl (lv_at hl 0 rfl) ?_
    refine lv_iload_n hx hb dX7_best_16 rfl (lv_at hl 1 rfl) ?_
    obtain ⟨q3, hq3, h⟩ := ob h
    refine kV (As := [.int p1]) (rest := []) (w2 := cMd mh m_kindr m_toldr m_nowr m_readToldr m_readCellr m_readKindr m_textr m_rowr m_seenCellr m_seenWayr m_seenCamer m_isKeptr m_keptr cy.1 cy.2.2.1 m_marbles m_kind m_told q3.2.1 m_readTold m_readCell m_readKind m_text m_length m_at m_faultAt m_there q3.2.2.1 m_acts m_next m_row q3.2.2.2 m_seen m_seenCell m_seenWay m_seenCame m_seed m_isKept m_kept) (n := 1) (q0 := 0) ⟨hx, hb, hml, hown, hts⟩ (c_X7_bestOf l D cy mh m_kindr m_toldr m_nowr m_readToldr m_readCellr m_readKindr m_textr m_rowr m_seenCellr m_seenWayr m_seenCamer m_isKeptr m_keptr m_marbles m_kind m_told m_now m_readTold m_readCell m_readKind m_text m_length m_at m_faultAt m_there m_stopped m_acts m_next m_row m_bestRow m_seen m_seenCell m_seenWay m_seenCame m_seed m_isKept m_kept p1 q3 hq3) gX7_best_X7_bestOf rfl (by decide +kernel) ⟨by rw [hRf]; exact Nat.le_of_ble_eq_true rfl, by rw [hRl]; exact Nat.le_of_ble_eq_true rfl⟩ hE hP hD hS hA [0, 1, 2, 3, 4, 5, 6, 7, 8, 9, 10, 11, 12, 13] rfl rfl rfl rfl rfl rfl rfl hl.1 rfl (Nat.le_of_ble_eq_true rfl) dX7_best_17 ⟨Nat.zero_le _, Nat.zero_le _⟩ (fun H locs hP hD hS => ?_)
    refine lv_istore_n (lv' := [(3, .int q3.1), (0, .ref mh), (1, .int p1), (2, .int p2)]) hx hb dX7_best_20 rfl hl (by decide) rfl (fun ls hl => ?_)
    refine lv_iload_n hx hb dX7_best_21 rfl (lv_at hl 3 rfl) ?_
    refine lv_if_eq (tgt := 32) hx hb dX7_best_22 (by decide) (fun c4 => ?_) (fun c4 => ?_)
    · have h := oit h c4
      refine lv_iload_n hx hb dX7_best_32 rfl (lv_at hl 0 rfl) ?_
      obtain rfl := Option.some.inj h
      rw [hQ]; exact ct_iret hx hb hr hlocks hP hS rfl dX7_best_33
    · have h := oif h c4
      refine lv_aload_n hx hb dX7_best_25 rfl (lv_at hl 1 rfl) ?_
      refine va_get (D := D) (ci := 7) (v := .int q3.2.2.2) (C := RX7) (T := TX7) (N := 24) hx hb hts hiX7 hown hE.1 hP 0 rfl rfl 16 (by decide) (hts (.fieldLink RX7 163 "TiltTrayModel" "bestRow" "I") (by decide +kernel)) (fun _ h9 => h9) rfl dX7_best_26 ?_
      refine lv_goto (tgt := 33) hx hb dX7_best_29 (by decide) ?_
      obtain rfl := Option.some.inj h
      rw [hQ]; exact ct_iret hx hb hr hlocks hP hS rfl dX7_best_33
  · have h := oit h c2
    refine lv_bipush (v := (-2)) hx hb dX7_best_12 (by decide) ?_
    obtain rfl := Option.some.inj h
    rw [hQ]; exact ct_iret hx hb hr hlocks hP hS rfl dX7_best_14

def tw_X7_saves_69 (m_marbles : Int32) (m_kind : Nat → Int32) (m_told : Nat → Int32) (m_there : Int32) (p1 : Int32) (p2 : Int32) : Nat → Int32 → (Nat → Int32) → Int32 → Option (Int32 × (Nat → Int32) × Int32)
  | 0, _, _, _ => none
  | n + 1, x3, m_now, m_stopped =>
    if 25 ≤ x3 then (some ((-9), m_now, m_stopped)) else ((tw_X7_ones (m_now (5 : Int32).toNatClampNeg)).bind (fun q2 => if 3 ≤ q2 then (some ((-9), m_now, m_stopped)) else ((tw_X7_has (m_now (5 : Int32).toNatClampNeg) x3).bind (fun q4 => if q4 = 0 then ((tw_X7_canWedge m_marbles m_told m_now m_there 0 x3).bind (fun q6 => if q6 = 0 then ((tw_X7_saves_69 m_marbles m_kind m_told m_there p1 p2 n) (x3 + 1) m_now m_stopped) else ((tw_X7_layTrial m_now).bind (fun q8 => (tw_X7_tiltOn m_marbles m_kind m_told (upd q8 (12 : Int32).toNatClampNeg ((q8 (12 : Int32).toNatClampNeg) ||| (1 <<< (x3 &&& 31)))) m_there m_stopped 1 p2).bind (fun q9 => if ix (7 + p1) 14 = true then (if 100 ≤ (q9.2.1 (7 + p1).toNatClampNeg) then ((tw_X7_saves_69 m_marbles m_kind m_told m_there p1 p2 n) (x3 + 1) q9.2.1 q9.2.2) else (some (x3, q9.2.1, q9.2.2))) else none))))) else ((tw_X7_saves_69 m_marbles m_kind m_told m_there p1 p2 n) (x3 + 1) m_now m_stopped)))))
def tw_X7_saves (m_marbles : Int32) (m_kind : Nat → Int32) (m_told : Nat → Int32) (m_now : Nat → Int32) (m_there : Int32) (m_stopped : Int32) (p1 : Int32) (p2 : Int32) : Option (Int32 × (Nat → Int32) × Int32) :=
  (tw_X7_isMarble m_marbles p1).bind (fun q12 => if q12 = 0 then (some ((-1), m_now, m_stopped)) else ((tw_X7_in p2.toInt64 0 3).bind (fun q14 => if q14 = 0 then (some ((-2), m_now, m_stopped)) else (if ix p1 14 = true then (if (m_now p1.toNatClampNeg) < 100 then ((tw_X7_layTrial m_now).bind (fun q18 => (tw_X7_tiltOn m_marbles m_kind m_told q18 m_there m_stopped 1 p2).bind (fun q19 => if ix (7 + p1) 14 = true then (if 100 ≤ (q19.2.1 (7 + p1).toNatClampNeg) then (tw_X7_saves_69 m_marbles m_kind m_told m_there p1 p2 26 0 q19.2.1 q19.2.2) else (some (25, q19.2.1, q19.2.2))) else none))) else (some ((-3), m_now, m_stopped))) else none))))
set_option maxHeartbeats 4000000 in
set_option maxRecDepth 100000 in
theorem c_X7_saves (l : Launch) (D : va_G) (cy : Cy) (mh : Nat) (m_kindr : Nat) (m_toldr : Nat) (m_nowr : Nat) (m_readToldr : Nat) (m_readCellr : Nat) (m_readKindr : Nat) (m_textr : Nat) (m_rowr : Nat) (m_seenCellr : Nat) (m_seenWayr : Nat) (m_seenCamer : Nat) (m_isKeptr : Nat) (m_keptr : Nat) (m_marbles : Int32) (m_kind : Nat → Int32) (m_told : Nat → Int32) (m_now : Nat → Int32) (m_readTold : Nat → Int32) (m_readCell : Nat → Int32) (m_readKind : Nat → Int32) (m_text : Nat → Int32) (m_length : Int32) (m_at : Int32) (m_faultAt : Int32) (m_there : Int32) (m_stopped : Int32) (m_acts : Int32) (m_next : Int32) (m_row : Nat → Int32) (m_bestRow : Int32) (m_seen : Int32) (m_seenCell : Nat → Int32) (m_seenWay : Nat → Int32) (m_seenCame : Nat → Int32) (m_seed : Int64) (m_isKept : Nat → Int32) (m_kept : Nat → Int32) (p1 : Int32) (p2 : Int32) (res : Int32 × (Nat → Int32) × Int32) (h : tw_X7_saves m_marbles m_kind m_told m_now m_there m_stopped p1 p2 = some res) : Ct l yX7_saves wsX7_saves 6 140 D cy [.ref mh, .int p1, .int p2] (cMd mh m_kindr m_toldr m_nowr m_readToldr m_readCellr m_readKindr m_textr m_rowr m_seenCellr m_seenWayr m_seenCamer m_isKeptr m_keptr cy.1 cy.2.2.1 m_marbles m_kind m_told m_now m_readTold m_readCell m_readKind m_text m_length m_at m_faultAt m_there m_stopped m_acts m_next m_row m_bestRow m_seen m_seenCell m_seenWay m_seenCame m_seed m_isKept m_kept) (cMd mh m_kindr m_toldr m_nowr m_readToldr m_readCellr m_readKindr m_textr m_rowr m_seenCellr m_seenWayr m_seenCamer m_isKeptr m_keptr cy.1 cy.2.2.1 m_marbles m_kind m_told res.2.1 m_readTold m_readCell m_readKind m_text m_length m_at m_faultAt m_there res.2.2 m_acts m_next m_row m_bestRow m_seen m_seenCell m_seenWay m_seenCame m_seed m_isKept m_kept) (some (.int res.1)) := by
  refine Ct.ofW (cc := cX7_saves) (maxL := 4) (ret := (some .int)) (by decide) rfl (Nat.le_of_ble_eq_true rfl) ?_
  intro p e R s m args below meth c A Q ls hRf hRl hQ hx hb hr hml hts hown hlocks hE hP hD hS hA hl
  have hiX7 : ∀ w ∈ u_ws RX7 TX7 24, w ∈ wsX7_saves := by decide +kernel
  have hl : lv_has ls 4 [(0, .ref mh), (1, .int p1), (2, .int p2)] := hl
  rw [tw_X7_saves] at h
  have L69 : ∀ (n : Nat) (x3 : Int32) (m_now : Nat → Int32) (m_stopped : Int32)  (H : Heap) (locs : List Loc) (ls : Array Slot), lv_has ls 4 [(0, .ref mh), (1, .int p1), (2, .int p2), (3, .int x3)] → va_P D vwCl (cMd mh m_kindr m_toldr m_nowr m_readToldr m_readCellr m_readKindr m_textr m_rowr m_seenCellr m_seenWayr m_seenCamer m_isKeptr m_keptr cy.1 cy.2.2.1 m_marbles m_kind m_told m_now m_readTold m_readCell m_readKind m_text m_length m_at m_faultAt m_there m_stopped m_acts m_next m_row m_bestRow m_seen m_seenCell m_seenWay m_seenCame m_seed m_isKept m_kept) H → va_D A (cMd mh m_kindr m_toldr m_nowr m_readToldr m_readCellr m_readKindr m_textr m_rowr m_seenCellr m_seenWayr m_seenCamer m_isKeptr m_keptr cy.1 cy.2.2.1 m_marbles m_kind m_told m_now m_readTold m_readCell m_readKind m_text m_length m_at m_faultAt m_there m_stopped m_acts m_next m_row m_bestRow m_seen m_seenCell m_seenWay m_seenCame m_seed m_isKept m_kept) → va_S A s.heap H locs → tw_X7_saves_69 m_marbles m_kind m_told m_there p1 p2 n x3 m_now m_stopped = some res → W p l e R s m args below meth c H locs 0 0 Q (F0 m 69 ls []) := by
    intro n69
    induction n69 with
    | zero =>
      intro x3 m_now m_stopped  H locs ls hl hP hD hS h
      exact absurd h (by rw [tw_X7_saves_69]; exact fun q => by cases q)
    | succ n69 ih69 =>
      intro x3 m_now m_stopped  H locs ls hl hP hD hS h
      rw [tw_X7_saves_69] at h
      refine lv_iload_n hx hb dX7_saves_69 rfl (lv_at hl 3 rfl) ?_
      refine lv_bipush (v := 25) hx hb dX7_saves_70 (by decide) ?_
      refine lv_icmp_ge (tgt := 156) hx hb dX7_saves_72 (by decide) (fun c1 => ?_) (fun c1 => ?_)
      · have h := oit h c1
        refine lv_bipush (v := (-9)) hx hb dX7_saves_156 (by decide) ?_
        obtain rfl := Option.some.inj h
        rw [hQ]; exact ct_iret hx hb hr hlocks hP hS rfl dX7_saves_158
      · have h := oif h c1
        refine lv_aload_n hx hb dX7_saves_75 rfl (lv_at hl 0 rfl) ?_
        refine va_get (D := D) (ci := 7) (v := .ref m_nowr) (C := RX7) (T := TX7) (N := 24) hx hb hts hiX7 hown hE.1 hP 0 rfl rfl 3 (by decide) (hts (.fieldLink RX7 16 "TiltTrayModel" "now" "[I") (by decide +kernel)) (fun _ h9 => h9) rfl dX7_saves_76 ?_
        refine lv_iconst (v := 5) hx hb dX7_saves_79 (by decide) ?_
        refine va_iald hx hb hE.1 hP 3 0 rfl rfl (ix_in (by decide)) dX7_saves_80 ?_
        obtain ⟨q2, hq2, h⟩ := ob h
        refine kS (As := [.int (m_now (5 : Int32).toNatClampNeg)]) (rest := []) (w2 := cMd mh m_kindr m_toldr m_nowr m_readToldr m_readCellr m_readKindr m_textr m_rowr m_seenCellr m_seenWayr m_seenCamer m_isKeptr m_keptr cy.1 cy.2.2.1 m_marbles m_kind m_told m_now m_readTold m_readCell m_readKind m_text m_length m_at m_faultAt m_there m_stopped m_acts m_next m_row m_bestRow m_seen m_seenCell m_seenWay m_seenCame m_seed m_isKept m_kept) (n := 1) ⟨hx, hb, hml, hown, hts⟩ (c_X7_ones l D cy (m_now (5 : Int32).toNatClampNeg) q2 hq2) gX7_saves_X7_ones rfl (by decide +kernel) ⟨by rw [hRf]; exact Nat.le_of_ble_eq_true rfl, by rw [hRl]; exact Nat.le_of_ble_eq_true rfl⟩ hE hP hD hS hA [] rfl rfl rfl rfl rfl hl.1 rfl (Nat.le_of_ble_eq_true rfl) dX7_saves_81 ⟨Nat.zero_le _, Nat.zero_le _⟩ (fun H locs hP hD hS => ?_)
        refine lv_iconst (v := 3) hx hb dX7_saves_84 (by decide) ?_
        refine lv_icmp_ge (tgt := 156) hx hb dX7_saves_85 (by decide) (fun c3 => ?_) (fun c3 => ?_)
        · have h := oit h c3
          refine lv_bipush (v := (-9)) hx hb dX7_saves_156 (by decide) ?_
          obtain rfl := Option.some.inj h
          rw [hQ]; exact ct_iret hx hb hr hlocks hP hS rfl dX7_saves_158
        · have h := oif h c3
          refine lv_aload_n hx hb dX7_saves_88 rfl (lv_at hl 0 rfl) ?_
          refine va_get (D := D) (ci := 7) (v := .ref m_nowr) (C := RX7) (T := TX7) (N := 24) hx hb hts hiX7 hown hE.1 hP 0 rfl rfl 3 (by decide) (hts (.fieldLink RX7 16 "TiltTrayModel" "now" "[I") (by decide +kernel)) (fun _ h9 => h9) rfl dX7_saves_89 ?_
          refine lv_iconst (v := 5) hx hb dX7_saves_92 (by decide) ?_
          refine va_iald hx hb hE.1 hP 3 0 rfl rfl (ix_in (by decide)) dX7_saves_93 ?_
          refine lv_iload_n hx hb dX7_saves_94 rfl (lv_at hl 3 rfl) ?_
          obtain ⟨q4, hq4, h⟩ := ob h
          refine kS (As := [.int (m_now (5 : Int32).toNatClampNeg), .int x3]) (rest := []) (w2 := cMd mh m_kindr m_toldr m_nowr m_readToldr m_readCellr m_readKindr m_textr m_rowr m_seenCellr m_seenWayr m_seenCamer m_isKeptr m_keptr cy.1 cy.2.2.1 m_marbles m_kind m_told m_now m_readTold m_readCell m_readKind m_text m_length m_at m_faultAt m_there m_stopped m_acts m_next m_row m_bestRow m_seen m_seenCell m_seenWay m_seenCame m_seed m_isKept m_kept) (n := 2) ⟨hx, hb, hml, hown, hts⟩ (c_X7_has l D cy (m_now (5 : Int32).toNatClampNeg) x3 q4 hq4) gX7_saves_X7_has rfl (by decide +kernel) ⟨by rw [hRf]; exact Nat.le_of_ble_eq_true rfl, by rw [hRl]; exact Nat.le_of_ble_eq_true rfl⟩ hE hP hD hS hA [] rfl rfl rfl rfl rfl hl.1 rfl (Nat.le_of_ble_eq_true rfl) dX7_saves_95 ⟨Nat.zero_le _, Nat.zero_le _⟩ (fun H locs hP hD hS => ?_)
          refine lv_if_ne (tgt := 150) hx hb dX7_saves_98 (by decide) (fun c5 => ?_) (fun c5 => ?_)
          · have h := oif h c5
            refine lv_iinc (v := x3 + 1) (lv' := [(3, .int (x3 + 1)), (0, .ref mh), (1, .int p1), (2, .int p2)]) hx hb dX7_saves_150 hl (k := 3) rfl rfl (by decide) rfl (fun ls hl => ?_)
            refine lv_goto (tgt := 69) hx hb dX7_saves_153 (by decide) ?_
            exact ih69 (x3 + 1) m_now m_stopped _ _ _ (lv_sub hl [1, 2, 3, 0] rfl) hP hD hS h
          · have h := oit h c5
            refine lv_aload_n hx hb dX7_saves_101 rfl (lv_at hl 0 rfl) ?_
            refine lv_iconst (v := 0) hx hb dX7_saves_102 (by decide) ?_
            refine lv_iload_n hx hb dX7_saves_103 rfl (lv_at hl 3 rfl) ?_
            obtain ⟨q6, hq6, h⟩ := ob h
            refine kV (As := [.int 0, .int x3]) (rest := []) (w2 := cMd mh m_kindr m_toldr m_nowr m_readToldr m_readCellr m_readKindr m_textr m_rowr m_seenCellr m_seenWayr m_seenCamer m_isKeptr m_keptr cy.1 cy.2.2.1 m_marbles m_kind m_told m_now m_readTold m_readCell m_readKind m_text m_length m_at m_faultAt m_there m_stopped m_acts m_next m_row m_bestRow m_seen m_seenCell m_seenWay m_seenCame m_seed m_isKept m_kept) (n := 2) (q0 := 0) ⟨hx, hb, hml, hown, hts⟩ (c_X7_canWedge l D cy mh m_kindr m_toldr m_nowr m_readToldr m_readCellr m_readKindr m_textr m_rowr m_seenCellr m_seenWayr m_seenCamer m_isKeptr m_keptr m_marbles m_kind m_told m_now m_readTold m_readCell m_readKind m_text m_length m_at m_faultAt m_there m_stopped m_acts m_next m_row m_bestRow m_seen m_seenCell m_seenWay m_seenCame m_seed m_isKept m_kept 0 x3 q6 hq6) gX7_saves_X7_canWedge rfl (by decide +kernel) ⟨by rw [hRf]; exact Nat.le_of_ble_eq_true rfl, by rw [hRl]; exact Nat.le_of_ble_eq_true rfl⟩ hE hP hD hS hA [0, 1, 2, 3, 4, 5, 6, 7, 8, 9, 10, 11, 12, 13] rfl rfl rfl rfl rfl rfl rfl hl.1 rfl (Nat.le_of_ble_eq_true rfl) dX7_saves_104 ⟨Nat.zero_le _, Nat.zero_le _⟩ (fun H locs hP hD hS => ?_)
            refine lv_if_eq (tgt := 150) hx hb dX7_saves_107 (by decide) (fun c7 => ?_) (fun c7 => ?_)
            · have h := oit h c7
              refine lv_iinc (v := x3 + 1) (lv' := [(3, .int (x3 + 1)), (0, .ref mh), (1, .int p1), (2, .int p2)]) hx hb dX7_saves_150 hl (k := 3) rfl rfl (by decide) rfl (fun ls hl => ?_)
              refine lv_goto (tgt := 69) hx hb dX7_saves_153 (by decide) ?_
              exact ih69 (x3 + 1) m_now m_stopped _ _ _ (lv_sub hl [1, 2, 3, 0] rfl) hP hD hS h
            · have h := oif h c7
              refine lv_aload_n hx hb dX7_saves_110 rfl (lv_at hl 0 rfl) ?_
              obtain ⟨q8, hq8, h⟩ := ob h
              refine kV (As := []) (rest := []) (w2 := cMd mh m_kindr m_toldr m_nowr m_readToldr m_readCellr m_readKindr m_textr m_rowr m_seenCellr m_seenWayr m_seenCamer m_isKeptr m_keptr cy.1 cy.2.2.1 m_marbles m_kind m_told q8 m_readTold m_readCell m_readKind m_text m_length m_at m_faultAt m_there m_stopped m_acts m_next m_row m_bestRow m_seen m_seenCell m_seenWay m_seenCame m_seed m_isKept m_kept) (n := 0) (q0 := 0) ⟨hx, hb, hml, hown, hts⟩ (c_X7_layTrial l D cy mh m_kindr m_toldr m_nowr m_readToldr m_readCellr m_readKindr m_textr m_rowr m_seenCellr m_seenWayr m_seenCamer m_isKeptr m_keptr m_marbles m_kind m_told m_now m_readTold m_readCell m_readKind m_text m_length m_at m_faultAt m_there m_stopped m_acts m_next m_row m_bestRow m_seen m_seenCell m_seenWay m_seenCame m_seed m_isKept m_kept q8 hq8) gX7_saves_X7_layTrial rfl (by decide +kernel) ⟨by rw [hRf]; exact Nat.le_of_ble_eq_true rfl, by rw [hRl]; exact Nat.le_of_ble_eq_true rfl⟩ hE hP hD hS hA [0, 1, 2, 3, 4, 5, 6, 7, 8, 9, 10, 11, 12, 13] rfl rfl rfl rfl rfl rfl rfl hl.1 rfl (Nat.le_of_ble_eq_true rfl) dX7_saves_111 ⟨Nat.zero_le _, Nat.zero_le _⟩ (fun H locs hP hD hS => ?_)
              refine lv_aload_n hx hb dX7_saves_114 rfl (lv_at hl 0 rfl) ?_
              refine va_get (D := D) (ci := 7) (v := .ref m_nowr) (C := RX7) (T := TX7) (N := 24) hx hb hts hiX7 hown hE.1 hP 0 rfl rfl 3 (by decide) (hts (.fieldLink RX7 16 "TiltTrayModel" "now" "[I") (by decide +kernel)) (fun _ h9 => h9) rfl dX7_saves_115 ?_
              refine lv_bipush (v := 12) hx hb dX7_saves_118 (by decide) ?_
              refine lv_dup2_11 hx hb dX7_saves_120 rfl rfl ?_
              refine va_iald hx hb hE.1 hP 3 0 rfl rfl (ix_in (by decide)) dX7_saves_121 ?_
              refine lv_iconst (v := 1) hx hb dX7_saves_122 (by decide) ?_
              refine lv_iload_n hx hb dX7_saves_123 rfl (lv_at hl 3 rfl) ?_
              refine lv_ishl hx hb dX7_saves_124 ?_
              refine lv_ior hx hb dX7_saves_125 ?_
              refine va_iast hx hb hE.1 hP hD hS 3 0 rfl rfl (ix_in (by decide)) dX7_saves_126 (fun H locs hP hD hS => ?_)
              have hP : va_P D vwCl (cMd mh m_kindr m_toldr m_nowr m_readToldr m_readCellr m_readKindr m_textr m_rowr m_seenCellr m_seenWayr m_seenCamer m_isKeptr m_keptr cy.1 cy.2.2.1 m_marbles m_kind m_told (upd q8 (12 : Int32).toNatClampNeg ((q8 (12 : Int32).toNatClampNeg) ||| (1 <<< (x3 &&& 31)))) m_readTold m_readCell m_readKind m_text m_length m_at m_faultAt m_there m_stopped m_acts m_next m_row m_bestRow m_seen m_seenCell m_seenWay m_seenCame m_seed m_isKept m_kept) H := hP
              have hD : va_D A (cMd mh m_kindr m_toldr m_nowr m_readToldr m_readCellr m_readKindr m_textr m_rowr m_seenCellr m_seenWayr m_seenCamer m_isKeptr m_keptr cy.1 cy.2.2.1 m_marbles m_kind m_told (upd q8 (12 : Int32).toNatClampNeg ((q8 (12 : Int32).toNatClampNeg) ||| (1 <<< (x3 &&& 31)))) m_readTold m_readCell m_readKind m_text m_length m_at m_faultAt m_there m_stopped m_acts m_next m_row m_bestRow m_seen m_seenCell m_seenWay m_seenCame m_seed m_isKept m_kept) := hD
              refine lv_aload_n hx hb dX7_saves_127 rfl (lv_at hl 0 rfl) ?_
              refine lv_iconst (v := 1) hx hb dX7_saves_128 (by decide) ?_
              refine lv_iload_n hx hb dX7_saves_129 rfl (lv_at hl 2 rfl) ?_
              obtain ⟨q9, hq9, h⟩ := ob h
              refine kV (As := [.int 1, .int p2]) (rest := []) (w2 := cMd mh m_kindr m_toldr m_nowr m_readToldr m_readCellr m_readKindr m_textr m_rowr m_seenCellr m_seenWayr m_seenCamer m_isKeptr m_keptr cy.1 cy.2.2.1 m_marbles m_kind m_told q9.2.1 m_readTold m_readCell m_readKind m_text m_length m_at m_faultAt m_there q9.2.2 m_acts m_next m_row m_bestRow m_seen m_seenCell m_seenWay m_seenCame m_seed m_isKept m_kept) (n := 2) (q0 := 0) ⟨hx, hb, hml, hown, hts⟩ (c_X7_tiltOn l D cy mh m_kindr m_toldr m_nowr m_readToldr m_readCellr m_readKindr m_textr m_rowr m_seenCellr m_seenWayr m_seenCamer m_isKeptr m_keptr m_marbles m_kind m_told (upd q8 (12 : Int32).toNatClampNeg ((q8 (12 : Int32).toNatClampNeg) ||| (1 <<< (x3 &&& 31)))) m_readTold m_readCell m_readKind m_text m_length m_at m_faultAt m_there m_stopped m_acts m_next m_row m_bestRow m_seen m_seenCell m_seenWay m_seenCame m_seed m_isKept m_kept 1 p2 q9 hq9) gX7_saves_X7_tiltOn rfl (by decide +kernel) ⟨by rw [hRf]; exact Nat.le_of_ble_eq_true rfl, by rw [hRl]; exact Nat.le_of_ble_eq_true rfl⟩ hE hP hD hS hA [0, 1, 2, 3, 4, 5, 6, 7, 8, 9, 10, 11, 12, 13] rfl rfl rfl rfl rfl rfl rfl hl.1 rfl (Nat.le_of_ble_eq_true rfl) dX7_saves_130 ⟨Nat.zero_le _, Nat.zero_le _⟩ (fun H locs hP hD hS => ?_)
              refine lv_pop hx hb dX7_saves_133 rfl ?_
              refine lv_aload_n hx hb dX7_saves_134 rfl (lv_at hl 0 rfl) ?_
              refine va_get (D := D) (ci := 7) (v := .ref m_nowr) (C := RX7) (T := TX7) (N := 24) hx hb hts hiX7 hown hE.1 hP 0 rfl rfl 3 (by decide) (hts (.fieldLink RX7 16 "TiltTrayModel" "now" "[I") (by decide +kernel)) (fun _ h9 => h9) rfl dX7_saves_135 ?_
              refine lv_bipush (v := 7) hx hb dX7_saves_138 (by decide) ?_
              refine lv_iload_n hx hb dX7_saves_140 rfl (lv_at hl 1 rfl) ?_
              refine lv_iadd hx hb dX7_saves_141 ?_
              obtain ⟨g10, h⟩ := og h
              refine va_iald hx hb hE.1 hP 3 0 rfl rfl (ix_in g10) dX7_saves_142 ?_
              refine lv_bipush (v := 100) hx hb dX7_saves_143 (by decide) ?_
              refine lv_icmp_ge (tgt := 150) hx hb dX7_saves_145 (by decide) (fun c11 => ?_) (fun c11 => ?_)
              · have h := oit h c11
                refine lv_iinc (v := x3 + 1) (lv' := [(3, .int (x3 + 1)), (0, .ref mh), (1, .int p1), (2, .int p2)]) hx hb dX7_saves_150 hl (k := 3) rfl rfl (by decide) rfl (fun ls hl => ?_)
                refine lv_goto (tgt := 69) hx hb dX7_saves_153 (by decide) ?_
                exact ih69 (x3 + 1) q9.2.1 q9.2.2 _ _ _ (lv_sub hl [1, 2, 3, 0] rfl) hP hD hS h
              · have h := oif h c11
                refine lv_iload_n hx hb dX7_saves_148 rfl (lv_at hl 3 rfl) ?_
                obtain rfl := Option.some.inj h
                rw [hQ]; exact ct_iret hx hb hr hlocks hP hS rfl dX7_saves_149
  refine lv_aload_n hx hb dX7_saves_0 rfl (lv_at hl 0 rfl) ?_
  refine lv_iload_n hx hb dX7_saves_1 rfl (lv_at hl 1 rfl) ?_
  obtain ⟨q12, hq12, h⟩ := ob h
  refine kV (As := [.int p1]) (rest := []) (w2 := cMd mh m_kindr m_toldr m_nowr m_readToldr m_readCellr m_readKindr m_textr m_rowr m_seenCellr m_seenWayr m_seenCamer m_isKeptr m_keptr cy.1 cy.2.2.1 m_marbles m_kind m_told m_now m_readTold m_readCell m_readKind m_text m_length m_at m_faultAt m_there m_stopped m_acts m_next m_row m_bestRow m_seen m_seenCell m_seenWay m_seenCame m_seed m_isKept m_kept) (n := 1) (q0 := 0) ⟨hx, hb, hml, hown, hts⟩ (c_X7_isMarble l D cy mh m_kindr m_toldr m_nowr m_readToldr m_readCellr m_readKindr m_textr m_rowr m_seenCellr m_seenWayr m_seenCamer m_isKeptr m_keptr m_marbles m_kind m_told m_now m_readTold m_readCell m_readKind m_text m_length m_at m_faultAt m_there m_stopped m_acts m_next m_row m_bestRow m_seen m_seenCell m_seenWay m_seenCame m_seed m_isKept m_kept p1 q12 hq12) gX7_saves_X7_isMarble rfl (by decide +kernel) ⟨by rw [hRf]; exact Nat.le_of_ble_eq_true rfl, by rw [hRl]; exact Nat.le_of_ble_eq_true rfl⟩ hE hP hD hS hA [0, 1, 2, 3, 4, 5, 6, 7, 8, 9, 10, 11, 12, 13] rfl rfl rfl rfl rfl rfl rfl hl.1 rfl (Nat.le_of_ble_eq_true rfl) dX7_saves_2 ⟨Nat.zero_le _, Nat.zero_le _⟩ (fun H locs hP hD hS => ?_)
  refine lv_if_ne (tgt := 10) hx hb dX7_saves_5 (by decide) (fun c13 => ?_) (fun c13 => ?_)
  · have h := oif h c13
    refine lv_iload_n hx hb dX7_saves_10 rfl (lv_at hl 2 rfl) ?_
    refine lv_i2l hx hb dX7_saves_11 rfl ?_
    refine lv_lconst (v := 0) hx hb dX7_saves_12 (by decide) ?_
    refine lv_ldc2 (v := 3) hx hb hown (hts (.constantLong RX7 86 (3)) (by decide +kernel)) dX7_saves_13 ?_
    obtain ⟨q14, hq14, h⟩ := ob h
    refine kS (As := [.long p2.toInt64, .long 0, .long 3]) (rest := []) (w2 := cMd mh m_kindr m_toldr m_nowr m_readToldr m_readCellr m_readKindr m_textr m_rowr m_seenCellr m_seenWayr m_seenCamer m_isKeptr m_keptr cy.1 cy.2.2.1 m_marbles m_kind m_told m_now m_readTold m_readCell m_readKind m_text m_length m_at m_faultAt m_there m_stopped m_acts m_next m_row m_bestRow m_seen m_seenCell m_seenWay m_seenCame m_seed m_isKept m_kept) (n := 3) ⟨hx, hb, hml, hown, hts⟩ (c_X7_in l D cy p2.toInt64 0 3 q14 hq14) gX7_saves_X7_in rfl (by decide +kernel) ⟨by rw [hRf]; exact Nat.le_of_ble_eq_true rfl, by rw [hRl]; exact Nat.le_of_ble_eq_true rfl⟩ hE hP hD hS hA [] rfl rfl rfl rfl rfl hl.1 rfl (Nat.le_of_ble_eq_true rfl) dX7_saves_16 ⟨Nat.zero_le _, Nat.zero_le _⟩ (fun H locs hP hD hS => ?_)
    refine lv_if_ne (tgt := 25) hx hb dX7_saves_19 (by decide) (fun c15 => ?_) (fun c15 => ?_)
    · have h := oif h c15
      refine lv_aload_n hx hb dX7_saves_25 rfl (lv_at hl 0 rfl) ?_
      refine va_get (D := D) (ci := 7) (v := .ref m_nowr) (C := RX7) (T := TX7) (N := 24) hx hb hts hiX7 hown hE.1 hP 0 rfl rfl 3 (by decide) (hts (.fieldLink RX7 16 "TiltTrayModel" "now" "[I") (by decide +kernel)) (fun _ h9 => h9) rfl dX7_saves_26 ?_
      refine lv_iload_n hx hb dX7_saves_29 rfl (lv_at hl 1 rfl) ?_
      obtain ⟨g16, h⟩ := og h
      refine va_iald hx hb hE.1 hP 3 0 rfl rfl (ix_in g16) dX7_saves_30 ?_
      refine lv_bipush (v := 100) hx hb dX7_saves_31 (by decide) ?_
      refine lv_icmp_lt (tgt := 39) hx hb dX7_saves_33 (by decide) (fun c17 => ?_) (fun c17 => ?_)
      · have h := oit h c17
        refine lv_aload_n hx hb dX7_saves_39 rfl (lv_at hl 0 rfl) ?_
        obtain ⟨q18, hq18, h⟩ := ob h
        refine kV (As := []) (rest := []) (w2 := cMd mh m_kindr m_toldr m_nowr m_readToldr m_readCellr m_readKindr m_textr m_rowr m_seenCellr m_seenWayr m_seenCamer m_isKeptr m_keptr cy.1 cy.2.2.1 m_marbles m_kind m_told q18 m_readTold m_readCell m_readKind m_text m_length m_at m_faultAt m_there m_stopped m_acts m_next m_row m_bestRow m_seen m_seenCell m_seenWay m_seenCame m_seed m_isKept m_kept) (n := 0) (q0 := 0) ⟨hx, hb, hml, hown, hts⟩ (c_X7_layTrial l D cy mh m_kindr m_toldr m_nowr m_readToldr m_readCellr m_readKindr m_textr m_rowr m_seenCellr m_seenWayr m_seenCamer m_isKeptr m_keptr m_marbles m_kind m_told m_now m_readTold m_readCell m_readKind m_text m_length m_at m_faultAt m_there m_stopped m_acts m_next m_row m_bestRow m_seen m_seenCell m_seenWay m_seenCame m_seed m_isKept m_kept q18 hq18) gX7_saves_X7_layTrial rfl (by decide +kernel) ⟨by rw [hRf]; exact Nat.le_of_ble_eq_true rfl, by rw [hRl]; exact Nat.le_of_ble_eq_true rfl⟩ hE hP hD hS hA [0, 1, 2, 3, 4, 5, 6, 7, 8, 9, 10, 11, 12, 13] rfl rfl rfl rfl rfl rfl rfl hl.1 rfl (Nat.le_of_ble_eq_true rfl) dX7_saves_40 ⟨Nat.zero_le _, Nat.zero_le _⟩ (fun H locs hP hD hS => ?_)
        refine lv_aload_n hx hb dX7_saves_43 rfl (lv_at hl 0 rfl) ?_
        refine lv_iconst (v := 1) hx hb dX7_saves_44 (by decide) ?_
        refine lv_iload_n hx hb dX7_saves_45 rfl (lv_at hl 2 rfl) ?_
        obtain ⟨q19, hq19, h⟩ := ob h
        refine kV (As := [.int 1, .int p2]) (rest := []) (w2 := cMd mh m_kindr m_toldr m_nowr m_readToldr m_readCellr m_readKindr m_textr m_rowr m_seenCellr m_seenWayr m_seenCamer m_isKeptr m_keptr cy.1 cy.2.2.1 m_marbles m_kind m_told q19.2.1 m_readTold m_readCell m_readKind m_text m_length m_at m_faultAt m_there q19.2.2 m_acts m_next m_row m_bestRow m_seen m_seenCell m_seenWay m_seenCame m_seed m_isKept m_kept) (n := 2) (q0 := 0) ⟨hx, hb, hml, hown, hts⟩ (c_X7_tiltOn l D cy mh m_kindr m_toldr m_nowr m_readToldr m_readCellr m_readKindr m_textr m_rowr m_seenCellr m_seenWayr m_seenCamer m_isKeptr m_keptr m_marbles m_kind m_told q18 m_readTold m_readCell m_readKind m_text m_length m_at m_faultAt m_there m_stopped m_acts m_next m_row m_bestRow m_seen m_seenCell m_seenWay m_seenCame m_seed m_isKept m_kept 1 p2 q19 hq19) gX7_saves_X7_tiltOn rfl (by decide +kernel) ⟨by rw [hRf]; exact Nat.le_of_ble_eq_true rfl, by rw [hRl]; exact Nat.le_of_ble_eq_true rfl⟩ hE hP hD hS hA [0, 1, 2, 3, 4, 5, 6, 7, 8, 9, 10, 11, 12, 13] rfl rfl rfl rfl rfl rfl rfl hl.1 rfl (Nat.le_of_ble_eq_true rfl) dX7_saves_46 ⟨Nat.zero_le _, Nat.zero_le _⟩ (fun H locs hP hD hS => ?_)
        refine lv_pop hx hb dX7_saves_49 rfl ?_
        refine lv_aload_n hx hb dX7_saves_50 rfl (lv_at hl 0 rfl) ?_
        refine va_get (D := D) (ci := 7) (v := .ref m_nowr) (C := RX7) (T := TX7) (N := 24) hx hb hts hiX7 hown hE.1 hP 0 rfl rfl 3 (by decide) (hts (.fieldLink RX7 16 "TiltTrayModel" "now" "[I") (by decide +kernel)) (fun _ h9 => h9) rfl dX7_saves_51 ?_
        refine lv_bipush (v := 7) hx hb dX7_saves_54 (by decide) ?_
        refine lv_iload_n hx hb dX7_saves_56 rfl (lv_at hl 1 rfl) ?_
        refine lv_iadd hx hb dX7_saves_57 ?_
        obtain ⟨g20, h⟩ := og h
        refine va_iald hx hb hE.1 hP 3 0 rfl rfl (ix_in g20) dX7_saves_58 ?_
        refine lv_bipush (v := 100) hx hb dX7_saves_59 (by decide) ?_
        refine lv_icmp_ge (tgt := 67) hx hb dX7_saves_61 (by decide) (fun c21 => ?_) (fun c21 => ?_)
        · have h := oit h c21
          refine lv_iconst (v := 0) hx hb dX7_saves_67 (by decide) ?_
          refine lv_istore_n (lv' := [(3, .int 0), (0, .ref mh), (1, .int p1), (2, .int p2)]) hx hb dX7_saves_68 rfl hl (by decide) rfl (fun ls hl => ?_)
          exact L69 26 0 q19.2.1 q19.2.2 _ _ _ (lv_sub hl [1, 2, 3, 0] rfl) hP hD hS h
        · have h := oif h c21
          refine lv_bipush (v := 25) hx hb dX7_saves_64 (by decide) ?_
          obtain rfl := Option.some.inj h
          rw [hQ]; exact ct_iret hx hb hr hlocks hP hS rfl dX7_saves_66
      · have h := oif h c17
        refine lv_bipush (v := (-3)) hx hb dX7_saves_36 (by decide) ?_
        obtain rfl := Option.some.inj h
        rw [hQ]; exact ct_iret hx hb hr hlocks hP hS rfl dX7_saves_38
    · have h := oit h c15
      refine lv_bipush (v := (-2)) hx hb dX7_saves_22 (by decide) ?_
      obtain rfl := Option.some.inj h
      rw [hQ]; exact ct_iret hx hb hr hlocks hP hS rfl dX7_saves_24
  · have h := oit h c13
    refine lv_iconst (v := (-1)) hx hb dX7_saves_8 (by decide) ?_
    obtain rfl := Option.some.inj h
    rw [hQ]; exact ct_iret hx hb hr hlocks hP hS rfl dX7_saves_9

def tw_X7_wedgeTrial_75 (m_marbles : Int32) (m_told : Nat → Int32) (m_there : Int32) (p1 : Int32) (x3 : Int32) (z1 : Int32) (z2 : Int32) (z3 : Int32) (m_now : Nat → Int32) : Option (Int32 × (Nat → Int32)) :=
  if ix z1 14 = true then (if x3 &&& 1 = x3 then (some (x3, upd m_now z1.toNatClampNeg (z2 ^^^ z3))) else none) else none
def tw_X7_wedgeTrial_54 (m_marbles : Int32) (m_told : Nat → Int32) (m_there : Int32) (p1 : Int32) (x2 : Int32) (z0 : Int32) (m_now : Nat → Int32) : Option (Int32 × (Nat → Int32)) :=
  if ix (x2 + 5) 14 = true then (if z0 = 0 then (tw_X7_wedgeTrial_75 m_marbles m_told m_there p1 z0 (x2 + 5) (m_now (x2 + 5).toNatClampNeg) 0 m_now) else (tw_X7_wedgeTrial_75 m_marbles m_told m_there p1 z0 (x2 + 5) (m_now (x2 + 5).toNatClampNeg) (1 <<< (p1 &&& 31)) m_now)) else none
def tw_X7_wedgeTrial_53 (m_marbles : Int32) (m_told : Nat → Int32) (m_there : Int32) (p1 : Int32) (x2 : Int32) (m_now : Nat → Int32) : Option (Int32 × (Nat → Int32)) :=
  tw_X7_wedgeTrial_54 m_marbles m_told m_there p1 x2 0 m_now
def tw_X7_wedgeTrial_49 (m_marbles : Int32) (m_told : Nat → Int32) (m_there : Int32) (p1 : Int32) (x2 : Int32) (m_now : Nat → Int32) : Option (Int32 × (Nat → Int32)) :=
  tw_X7_wedgeTrial_54 m_marbles m_told m_there p1 x2 1 m_now
def tw_X7_wedgeTrial (m_marbles : Int32) (m_told : Nat → Int32) (m_now : Nat → Int32) (m_there : Int32) (p1 : Int32) : Option (Int32 × (Nat → Int32)) :=
  (tw_X7_isCell p1).bind (fun q5 => if q5 = 0 then (tw_X7_wedgeTrial_53 m_marbles m_told m_there p1 7 m_now) else ((tw_X7_has (m_now (12 : Int32).toNatClampNeg) p1).bind (fun q7 => if q7 = 0 then ((tw_X7_canWedge m_marbles m_told m_now m_there 1 p1).bind (fun q9 => if q9 = 0 then (tw_X7_wedgeTrial_53 m_marbles m_told m_there p1 7 m_now) else ((tw_X7_ones (m_now (12 : Int32).toNatClampNeg)).bind (fun q11 => if 3 ≤ q11 then (tw_X7_wedgeTrial_53 m_marbles m_told m_there p1 7 m_now) else (tw_X7_wedgeTrial_49 m_marbles m_told m_there p1 7 m_now))))) else (tw_X7_wedgeTrial_49 m_marbles m_told m_there p1 7 m_now))))
set_option maxHeartbeats 4000000 in
set_option maxRecDepth 100000 in
theorem c_X7_wedgeTrial (l : Launch) (D : va_G) (cy : Cy) (mh : Nat) (m_kindr : Nat) (m_toldr : Nat) (m_nowr : Nat) (m_readToldr : Nat) (m_readCellr : Nat) (m_readKindr : Nat) (m_textr : Nat) (m_rowr : Nat) (m_seenCellr : Nat) (m_seenWayr : Nat) (m_seenCamer : Nat) (m_isKeptr : Nat) (m_keptr : Nat) (m_marbles : Int32) (m_kind : Nat → Int32) (m_told : Nat → Int32) (m_now : Nat → Int32) (m_readTold : Nat → Int32) (m_readCell : Nat → Int32) (m_readKind : Nat → Int32) (m_text : Nat → Int32) (m_length : Int32) (m_at : Int32) (m_faultAt : Int32) (m_there : Int32) (m_stopped : Int32) (m_acts : Int32) (m_next : Int32) (m_row : Nat → Int32) (m_bestRow : Int32) (m_seen : Int32) (m_seenCell : Nat → Int32) (m_seenWay : Nat → Int32) (m_seenCame : Nat → Int32) (m_seed : Int64) (m_isKept : Nat → Int32) (m_kept : Nat → Int32) (p1 : Int32) (res : Int32 × (Nat → Int32)) (h : tw_X7_wedgeTrial m_marbles m_told m_now m_there p1 = some res) : Ct l yX7_wedgeTrial wsX7_wedgeTrial 4 88 D cy [.ref mh, .int p1] (cMd mh m_kindr m_toldr m_nowr m_readToldr m_readCellr m_readKindr m_textr m_rowr m_seenCellr m_seenWayr m_seenCamer m_isKeptr m_keptr cy.1 cy.2.2.1 m_marbles m_kind m_told m_now m_readTold m_readCell m_readKind m_text m_length m_at m_faultAt m_there m_stopped m_acts m_next m_row m_bestRow m_seen m_seenCell m_seenWay m_seenCame m_seed m_isKept m_kept) (cMd mh m_kindr m_toldr m_nowr m_readToldr m_readCellr m_readKindr m_textr m_rowr m_seenCellr m_seenWayr m_seenCamer m_isKeptr m_keptr cy.1 cy.2.2.1 m_marbles m_kind m_told res.2 m_readTold m_readCell m_readKind m_text m_length m_at m_faultAt m_there m_stopped m_acts m_next m_row m_bestRow m_seen m_seenCell m_seenWay m_seenCame m_seed m_isKept m_kept) (some (.int res.1)) := by
  refine Ct.ofW (cc := cX7_wedgeTrial) (maxL := 4) (ret := (some .boolean)) (by decide) rfl (Nat.le_of_ble_eq_true rfl) ?_
  intro p e R s m args below meth c A Q ls hRf hRl hQ hx hb hr hml hts hown hlocks hE hP hD hS hA hl
  have hiX7 : ∀ w ∈ u_ws RX7 TX7 24, w ∈ wsX7_wedgeTrial := by decide +kernel
  have hl : lv_has ls 4 [(0, .ref mh), (1, .int p1)] := hl
  rw [tw_X7_wedgeTrial] at h
  have L75 : ∀ (x3 : Int32) (z1 : Int32) (z2 : Int32) (z3 : Int32) (m_now : Nat → Int32)  (H : Heap) (locs : List Loc) (ls : Array Slot), lv_has ls 4 [(3, .int x3)] → va_P D vwCl (cMd mh m_kindr m_toldr m_nowr m_readToldr m_readCellr m_readKindr m_textr m_rowr m_seenCellr m_seenWayr m_seenCamer m_isKeptr m_keptr cy.1 cy.2.2.1 m_marbles m_kind m_told m_now m_readTold m_readCell m_readKind m_text m_length m_at m_faultAt m_there m_stopped m_acts m_next m_row m_bestRow m_seen m_seenCell m_seenWay m_seenCame m_seed m_isKept m_kept) H → va_D A (cMd mh m_kindr m_toldr m_nowr m_readToldr m_readCellr m_readKindr m_textr m_rowr m_seenCellr m_seenWayr m_seenCamer m_isKeptr m_keptr cy.1 cy.2.2.1 m_marbles m_kind m_told m_now m_readTold m_readCell m_readKind m_text m_length m_at m_faultAt m_there m_stopped m_acts m_next m_row m_bestRow m_seen m_seenCell m_seenWay m_seenCame m_seed m_isKept m_kept) → va_S A s.heap H locs → tw_X7_wedgeTrial_75 m_marbles m_told m_there p1 x3 z1 z2 z3 m_now = some res → W p l e R s m args below meth c H locs 0 0 Q (F0 m 75 ls [.int z3, .int z2, .int z1, .ref m_nowr]) := by
    intro x3 z1 z2 z3 m_now  H locs ls hl hP hD hS h
    rw [tw_X7_wedgeTrial_75] at h
    refine lv_ixor hx hb dX7_wedgeTrial_75 ?_
    obtain ⟨g1, h⟩ := og h
    refine va_iast hx hb hE.1 hP hD hS 3 0 rfl rfl (ix_in g1) dX7_wedgeTrial_76 (fun H locs hP hD hS => ?_)
    have hP : va_P D vwCl (cMd mh m_kindr m_toldr m_nowr m_readToldr m_readCellr m_readKindr m_textr m_rowr m_seenCellr m_seenWayr m_seenCamer m_isKeptr m_keptr cy.1 cy.2.2.1 m_marbles m_kind m_told (upd m_now z1.toNatClampNeg (z2 ^^^ z3)) m_readTold m_readCell m_readKind m_text m_length m_at m_faultAt m_there m_stopped m_acts m_next m_row m_bestRow m_seen m_seenCell m_seenWay m_seenCame m_seed m_isKept m_kept) H := hP
    have hD : va_D A (cMd mh m_kindr m_toldr m_nowr m_readToldr m_readCellr m_readKindr m_textr m_rowr m_seenCellr m_seenWayr m_seenCamer m_isKeptr m_keptr cy.1 cy.2.2.1 m_marbles m_kind m_told (upd m_now z1.toNatClampNeg (z2 ^^^ z3)) m_readTold m_readCell m_readKind m_text m_length m_at m_faultAt m_there m_stopped m_acts m_next m_row m_bestRow m_seen m_seenCell m_seenWay m_seenCame m_seed m_isKept m_kept) := hD
    refine lv_iload_n hx hb dX7_wedgeTrial_77 rfl (lv_at hl 0 rfl) ?_
    obtain ⟨g2, h⟩ := og h
    obtain rfl := Option.some.inj h
    rw [hQ]; exact ct_zret hx hb hr hlocks (nar_z g2) hP hS rfl dX7_wedgeTrial_78
  have L54 : ∀ (x2 : Int32) (z0 : Int32) (m_now : Nat → Int32)  (H : Heap) (locs : List Loc) (ls : Array Slot), lv_has ls 4 [(0, .ref mh), (1, .int p1), (2, .int x2)] → va_P D vwCl (cMd mh m_kindr m_toldr m_nowr m_readToldr m_readCellr m_readKindr m_textr m_rowr m_seenCellr m_seenWayr m_seenCamer m_isKeptr m_keptr cy.1 cy.2.2.1 m_marbles m_kind m_told m_now m_readTold m_readCell m_readKind m_text m_length m_at m_faultAt m_there m_stopped m_acts m_next m_row m_bestRow m_seen m_seenCell m_seenWay m_seenCame m_seed m_isKept m_kept) H → va_D A (cMd mh m_kindr m_toldr m_nowr m_readToldr m_readCellr m_readKindr m_textr m_rowr m_seenCellr m_seenWayr m_seenCamer m_isKeptr m_keptr cy.1 cy.2.2.1 m_marbles m_kind m_told m_now m_readTold m_readCell m_readKind m_text m_length m_at m_faultAt m_there m_stopped m_acts m_next m_row m_bestRow m_seen m_seenCell m_seenWay m_seenCame m_seed m_isKept m_kept) → va_S A s.heap H locs → tw_X7_wedgeTrial_54 m_marbles m_told m_there p1 x2 z0 m_now = some res → W p l e R s m args below meth c H locs 0 0 Q (F0 m 54 ls [.int z0]) := by
    intro x2 z0 m_now  H locs ls hl hP hD hS h
    rw [tw_X7_wedgeTrial_54] at h
    refine lv_istore_n (lv' := [(3, .int z0), (0, .ref mh), (1, .int p1), (2, .int x2)]) hx hb dX7_wedgeTrial_54 rfl hl (by decide) rfl (fun ls hl => ?_)
    refine lv_aload_n hx hb dX7_wedgeTrial_55 rfl (lv_at hl 1 rfl) ?_
    refine va_get (D := D) (ci := 7) (v := .ref m_nowr) (C := RX7) (T := TX7) (N := 24) hx hb hts hiX7 hown hE.1 hP 0 rfl rfl 3 (by decide) (hts (.fieldLink RX7 16 "TiltTrayModel" "now" "[I") (by decide +kernel)) (fun _ h9 => h9) rfl dX7_wedgeTrial_56 ?_
    refine lv_iload_n hx hb dX7_wedgeTrial_59 rfl (lv_at hl 3 rfl) ?_
    refine lv_iconst (v := 5) hx hb dX7_wedgeTrial_60 (by decide) ?_
    refine lv_iadd hx hb dX7_wedgeTrial_61 ?_
    refine lv_dup2_11 hx hb dX7_wedgeTrial_62 rfl rfl ?_
    obtain ⟨g3, h⟩ := og h
    refine va_iald hx hb hE.1 hP 3 0 rfl rfl (ix_in g3) dX7_wedgeTrial_63 ?_
    refine lv_iload_n hx hb dX7_wedgeTrial_64 rfl (lv_at hl 0 rfl) ?_
    refine lv_if_eq (tgt := 74) hx hb dX7_wedgeTrial_65 (by decide) (fun c4 => ?_) (fun c4 => ?_)
    · have h := oit h c4
      refine lv_iconst (v := 0) hx hb dX7_wedgeTrial_74 (by decide) ?_
      exact L75 z0 (x2 + 5) (m_now (x2 + 5).toNatClampNeg) 0 m_now _ _ _ (lv_sub hl [0] rfl) hP hD hS h
    · have h := oif h c4
      refine lv_iconst (v := 1) hx hb dX7_wedgeTrial_68 (by decide) ?_
      refine lv_iload_n hx hb dX7_wedgeTrial_69 rfl (lv_at hl 2 rfl) ?_
      refine lv_ishl hx hb dX7_wedgeTrial_70 ?_
      refine lv_goto (tgt := 75) hx hb dX7_wedgeTrial_71 (by decide) ?_
      exact L75 z0 (x2 + 5) (m_now (x2 + 5).toNatClampNeg) (1 <<< (p1 &&& 31)) m_now _ _ _ (lv_sub hl [0] rfl) hP hD hS h
  have L53 : ∀ (x2 : Int32) (m_now : Nat → Int32)  (H : Heap) (locs : List Loc) (ls : Array Slot), lv_has ls 4 [(0, .ref mh), (1, .int p1), (2, .int x2)] → va_P D vwCl (cMd mh m_kindr m_toldr m_nowr m_readToldr m_readCellr m_readKindr m_textr m_rowr m_seenCellr m_seenWayr m_seenCamer m_isKeptr m_keptr cy.1 cy.2.2.1 m_marbles m_kind m_told m_now m_readTold m_readCell m_readKind m_text m_length m_at m_faultAt m_there m_stopped m_acts m_next m_row m_bestRow m_seen m_seenCell m_seenWay m_seenCame m_seed m_isKept m_kept) H → va_D A (cMd mh m_kindr m_toldr m_nowr m_readToldr m_readCellr m_readKindr m_textr m_rowr m_seenCellr m_seenWayr m_seenCamer m_isKeptr m_keptr cy.1 cy.2.2.1 m_marbles m_kind m_told m_now m_readTold m_readCell m_readKind m_text m_length m_at m_faultAt m_there m_stopped m_acts m_next m_row m_bestRow m_seen m_seenCell m_seenWay m_seenCame m_seed m_isKept m_kept) → va_S A s.heap H locs → tw_X7_wedgeTrial_53 m_marbles m_told m_there p1 x2 m_now = some res → W p l e R s m args below meth c H locs 0 0 Q (F0 m 53 ls []) := by
    intro x2 m_now  H locs ls hl hP hD hS h
    rw [tw_X7_wedgeTrial_53] at h
    refine lv_iconst (v := 0) hx hb dX7_wedgeTrial_53 (by decide) ?_
    exact L54 x2 0 m_now _ _ _ (lv_sub hl [0, 1, 2] rfl) hP hD hS h
  have L49 : ∀ (x2 : Int32) (m_now : Nat → Int32)  (H : Heap) (locs : List Loc) (ls : Array Slot), lv_has ls 4 [(0, .ref mh), (1, .int p1), (2, .int x2)] → va_P D vwCl (cMd mh m_kindr m_toldr m_nowr m_readToldr m_readCellr m_readKindr m_textr m_rowr m_seenCellr m_seenWayr m_seenCamer m_isKeptr m_keptr cy.1 cy.2.2.1 m_marbles m_kind m_told m_now m_readTold m_readCell m_readKind m_text m_length m_at m_faultAt m_there m_stopped m_acts m_next m_row m_bestRow m_seen m_seenCell m_seenWay m_seenCame m_seed m_isKept m_kept) H → va_D A (cMd mh m_kindr m_toldr m_nowr m_readToldr m_readCellr m_readKindr m_textr m_rowr m_seenCellr m_seenWayr m_seenCamer m_isKeptr m_keptr cy.1 cy.2.2.1 m_marbles m_kind m_told m_now m_readTold m_readCell m_readKind m_text m_length m_at m_faultAt m_there m_stopped m_acts m_next m_row m_bestRow m_seen m_seenCell m_seenWay m_seenCame m_seed m_isKept m_kept) → va_S A s.heap H locs → tw_X7_wedgeTrial_49 m_marbles m_told m_there p1 x2 m_now = some res → W p l e R s m args below meth c H locs 0 0 Q (F0 m 49 ls []) := by
    intro x2 m_now  H locs ls hl hP hD hS h
    rw [tw_X7_wedgeTrial_49] at h
    refine lv_iconst (v := 1) hx hb dX7_wedgeTrial_49 (by decide) ?_
    refine lv_goto (tgt := 54) hx hb dX7_wedgeTrial_50 (by decide) ?_
    exact L54 x2 1 m_now _ _ _ (lv_sub hl [0, 1, 2] rfl) hP hD hS h
  refine lv_bipush (v := 7) hx hb dX7_wedgeTrial_0 (by decide) ?_
  refine lv_istore_n (lv' := [(2, .int 7), (0, .ref mh), (1, .int p1)]) hx hb dX7_wedgeTrial_2 rfl hl (by decide) rfl (fun ls hl => ?_)
  refine lv_iload_n hx hb dX7_wedgeTrial_3 rfl (lv_at hl 2 rfl) ?_
  obtain ⟨q5, hq5, h⟩ := ob h
  refine kS (As := [.int p1]) (rest := []) (w2 := cMd mh m_kindr m_toldr m_nowr m_readToldr m_readCellr m_readKindr m_textr m_rowr m_seenCellr m_seenWayr m_seenCamer m_isKeptr m_keptr cy.1 cy.2.2.1 m_marbles m_kind m_told m_now m_readTold m_readCell m_readKind m_text m_length m_at m_faultAt m_there m_stopped m_acts m_next m_row m_bestRow m_seen m_seenCell m_seenWay m_seenCame m_seed m_isKept m_kept) (n := 1) ⟨hx, hb, hml, hown, hts⟩ (c_X7_isCell l D cy p1 q5 hq5) gX7_wedgeTrial_X7_isCell rfl (by decide +kernel) ⟨by rw [hRf]; exact Nat.le_of_ble_eq_true rfl, by rw [hRl]; exact Nat.le_of_ble_eq_true rfl⟩ hE hP hD hS hA [] rfl rfl rfl rfl rfl hl.1 rfl (Nat.le_of_ble_eq_true rfl) dX7_wedgeTrial_4 ⟨Nat.zero_le _, Nat.zero_le _⟩ (fun H locs hP hD hS => ?_)
  refine lv_if_eq (tgt := 53) hx hb dX7_wedgeTrial_7 (by decide) (fun c6 => ?_) (fun c6 => ?_)
  · have h := oit h c6
    exact L53 7 m_now _ _ _ (lv_sub hl [1, 2, 0] rfl) hP hD hS h
  · have h := oif h c6
    refine lv_aload_n hx hb dX7_wedgeTrial_10 rfl (lv_at hl 1 rfl) ?_
    refine va_get (D := D) (ci := 7) (v := .ref m_nowr) (C := RX7) (T := TX7) (N := 24) hx hb hts hiX7 hown hE.1 hP 0 rfl rfl 3 (by decide) (hts (.fieldLink RX7 16 "TiltTrayModel" "now" "[I") (by decide +kernel)) (fun _ h9 => h9) rfl dX7_wedgeTrial_11 ?_
    refine lv_iload_n hx hb dX7_wedgeTrial_14 rfl (lv_at hl 0 rfl) ?_
    refine lv_iconst (v := 5) hx hb dX7_wedgeTrial_15 (by decide) ?_
    refine lv_iadd hx hb dX7_wedgeTrial_16 ?_
    refine lv_fold (y := 12) (by decide) ?_
    refine va_iald hx hb hE.1 hP 3 0 rfl rfl (ix_in (by decide)) dX7_wedgeTrial_17 ?_
    refine lv_iload_n hx hb dX7_wedgeTrial_18 rfl (lv_at hl 2 rfl) ?_
    obtain ⟨q7, hq7, h⟩ := ob h
    refine kS (As := [.int (m_now (12 : Int32).toNatClampNeg), .int p1]) (rest := []) (w2 := cMd mh m_kindr m_toldr m_nowr m_readToldr m_readCellr m_readKindr m_textr m_rowr m_seenCellr m_seenWayr m_seenCamer m_isKeptr m_keptr cy.1 cy.2.2.1 m_marbles m_kind m_told m_now m_readTold m_readCell m_readKind m_text m_length m_at m_faultAt m_there m_stopped m_acts m_next m_row m_bestRow m_seen m_seenCell m_seenWay m_seenCame m_seed m_isKept m_kept) (n := 2) ⟨hx, hb, hml, hown, hts⟩ (c_X7_has l D cy (m_now (12 : Int32).toNatClampNeg) p1 q7 hq7) gX7_wedgeTrial_X7_has rfl (by decide +kernel) ⟨by rw [hRf]; exact Nat.le_of_ble_eq_true rfl, by rw [hRl]; exact Nat.le_of_ble_eq_true rfl⟩ hE hP hD hS hA [] rfl rfl rfl rfl rfl hl.1 rfl (Nat.le_of_ble_eq_true rfl) dX7_wedgeTrial_19 ⟨Nat.zero_le _, Nat.zero_le _⟩ (fun H locs hP hD hS => ?_)
    refine lv_if_ne (tgt := 49) hx hb dX7_wedgeTrial_22 (by decide) (fun c8 => ?_) (fun c8 => ?_)
    · have h := oif h c8
      exact L49 7 m_now _ _ _ (lv_sub hl [1, 2, 0] rfl) hP hD hS h
    · have h := oit h c8
      refine lv_aload_n hx hb dX7_wedgeTrial_25 rfl (lv_at hl 1 rfl) ?_
      refine lv_iconst (v := 1) hx hb dX7_wedgeTrial_26 (by decide) ?_
      refine lv_iload_n hx hb dX7_wedgeTrial_27 rfl (lv_at hl 2 rfl) ?_
      obtain ⟨q9, hq9, h⟩ := ob h
      refine kV (As := [.int 1, .int p1]) (rest := []) (w2 := cMd mh m_kindr m_toldr m_nowr m_readToldr m_readCellr m_readKindr m_textr m_rowr m_seenCellr m_seenWayr m_seenCamer m_isKeptr m_keptr cy.1 cy.2.2.1 m_marbles m_kind m_told m_now m_readTold m_readCell m_readKind m_text m_length m_at m_faultAt m_there m_stopped m_acts m_next m_row m_bestRow m_seen m_seenCell m_seenWay m_seenCame m_seed m_isKept m_kept) (n := 2) (q0 := 0) ⟨hx, hb, hml, hown, hts⟩ (c_X7_canWedge l D cy mh m_kindr m_toldr m_nowr m_readToldr m_readCellr m_readKindr m_textr m_rowr m_seenCellr m_seenWayr m_seenCamer m_isKeptr m_keptr m_marbles m_kind m_told m_now m_readTold m_readCell m_readKind m_text m_length m_at m_faultAt m_there m_stopped m_acts m_next m_row m_bestRow m_seen m_seenCell m_seenWay m_seenCame m_seed m_isKept m_kept 1 p1 q9 hq9) gX7_wedgeTrial_X7_canWedge rfl (by decide +kernel) ⟨by rw [hRf]; exact Nat.le_of_ble_eq_true rfl, by rw [hRl]; exact Nat.le_of_ble_eq_true rfl⟩ hE hP hD hS hA [0, 1, 2, 3, 4, 5, 6, 7, 8, 9, 10, 11, 12, 13] rfl rfl rfl rfl rfl rfl rfl hl.1 rfl (Nat.le_of_ble_eq_true rfl) dX7_wedgeTrial_28 ⟨Nat.zero_le _, Nat.zero_le _⟩ (fun H locs hP hD hS => ?_)
      refine lv_if_eq (tgt := 53) hx hb dX7_wedgeTrial_31 (by decide) (fun c10 => ?_) (fun c10 => ?_)
      · have h := oit h c10
        exact L53 7 m_now _ _ _ (lv_sub hl [1, 2, 0] rfl) hP hD hS h
      · have h := oif h c10
        refine lv_aload_n hx hb dX7_wedgeTrial_34 rfl (lv_at hl 1 rfl) ?_
        refine va_get (D := D) (ci := 7) (v := .ref m_nowr) (C := RX7) (T := TX7) (N := 24) hx hb hts hiX7 hown hE.1 hP 0 rfl rfl 3 (by decide) (hts (.fieldLink RX7 16 "TiltTrayModel" "now" "[I") (by decide +kernel)) (fun _ h9 => h9) rfl dX7_wedgeTrial_35 ?_
        refine lv_iload_n hx hb dX7_wedgeTrial_38 rfl (lv_at hl 0 rfl) ?_
        refine lv_iconst (v := 5) hx hb dX7_wedgeTrial_39 (by decide) ?_
        refine lv_iadd hx hb dX7_wedgeTrial_40 ?_
        refine lv_fold (y := 12) (by decide) ?_
        refine va_iald hx hb hE.1 hP 3 0 rfl rfl (ix_in (by decide)) dX7_wedgeTrial_41 ?_
        obtain ⟨q11, hq11, h⟩ := ob h
        refine kS (As := [.int (m_now (12 : Int32).toNatClampNeg)]) (rest := []) (w2 := cMd mh m_kindr m_toldr m_nowr m_readToldr m_readCellr m_readKindr m_textr m_rowr m_seenCellr m_seenWayr m_seenCamer m_isKeptr m_keptr cy.1 cy.2.2.1 m_marbles m_kind m_told m_now m_readTold m_readCell m_readKind m_text m_length m_at m_faultAt m_there m_stopped m_acts m_next m_row m_bestRow m_seen m_seenCell m_seenWay m_seenCame m_seed m_isKept m_kept) (n := 1) ⟨hx, hb, hml, hown, hts⟩ (c_X7_ones l D cy (m_now (12 : Int32).toNatClampNeg) q11 hq11) gX7_wedgeTrial_X7_ones rfl (by decide +kernel) ⟨by rw [hRf]; exact Nat.le_of_ble_eq_true rfl, by rw [hRl]; exact Nat.le_of_ble_eq_true rfl⟩ hE hP hD hS hA [] rfl rfl rfl rfl rfl hl.1 rfl (Nat.le_of_ble_eq_true rfl) dX7_wedgeTrial_42 ⟨Nat.zero_le _, Nat.zero_le _⟩ (fun H locs hP hD hS => ?_)
        refine lv_iconst (v := 3) hx hb dX7_wedgeTrial_45 (by decide) ?_
        refine lv_icmp_ge (tgt := 53) hx hb dX7_wedgeTrial_46 (by decide) (fun c12 => ?_) (fun c12 => ?_)
        · have h := oit h c12
          exact L53 7 m_now _ _ _ (lv_sub hl [1, 2, 0] rfl) hP hD hS h
        · have h := oif h c12
          exact L49 7 m_now _ _ _ (lv_sub hl [1, 2, 0] rfl) hP hD hS h

def tw_X7_tryThing_112 (m_marbles : Int32) (m_kind : Nat → Int32) (m_told : Nat → Int32) (m_there : Int32) (p1 : Int32) (p2 : Int32) (z0 : Int32) (z1 : Int32) (m_now : Nat → Int32) (m_stopped : Int32) : Option (Int32 × (Nat → Int32) × Int32) :=
  if z0 = z1 then (some (1, m_now, m_stopped)) else (some (0, m_now, m_stopped))
def tw_X7_tryThing_99 (m_marbles : Int32) (m_kind : Nat → Int32) (m_told : Nat → Int32) (m_there : Int32) (p1 : Int32) (p2 : Int32) (z0 : Int32) (m_now : Nat → Int32) (m_stopped : Int32) : Option (Int32 × (Nat → Int32) × Int32) :=
  if (p2 - p2 / 10 * 10) = 1 then (tw_X7_tryThing_112 m_marbles m_kind m_told m_there p1 p2 z0 1 m_now m_stopped) else (tw_X7_tryThing_112 m_marbles m_kind m_told m_there p1 p2 z0 0 m_now m_stopped)
def tw_X7_tryThing_38 (m_marbles : Int32) (m_kind : Nat → Int32) (m_told : Nat → Int32) (m_there : Int32) (p1 : Int32) (p2 : Int32) (z0 : Int32) (m_now : Nat → Int32) (m_stopped : Int32) : Option (Int32 × (Nat → Int32) × Int32) :=
  if z0 = 0 then (if z0 &&& 1 = z0 then (some (z0, m_now, m_stopped)) else none) else ((tw_X7_tiltOn m_marbles m_kind m_told m_now m_there m_stopped 1 p2).bind (fun q5 => if z0 &&& 1 = z0 then (some (z0, q5.2.1, q5.2.2)) else none))
def tw_X7_tryThing (m_marbles : Int32) (m_kind : Nat → Int32) (m_told : Nat → Int32) (m_now : Nat → Int32) (m_there : Int32) (m_stopped : Int32) (p1 : Int32) (p2 : Int32) : Option (Int32 × (Nat → Int32) × Int32) :=
  if p1 = 0 then (if 4 ≤ p2 then (tw_X7_tryThing_38 m_marbles m_kind m_told m_there p1 p2 0 m_now m_stopped) else (tw_X7_tryThing_38 m_marbles m_kind m_told m_there p1 p2 1 m_now m_stopped)) else (if p1 = 1 then ((tw_X7_wedgeTrial m_marbles m_told m_now m_there p2).bind (fun q9 => if q9.1 &&& 1 = q9.1 then (some (q9.1, q9.2, m_stopped)) else none)) else (if p1 = 2 then ((tw_X7_isMarble m_marbles (p2 / 10)).bind (fun q12 => if q12 = 0 then (some (0, m_now, m_stopped)) else (if 2 ≤ (p2 - p2 / 10 * 10) then (some (0, m_now, m_stopped)) else (if ix (7 + (p2 / 10)) 14 = true then (if (m_now (7 + (p2 / 10)).toNatClampNeg) < 100 then (tw_X7_tryThing_99 m_marbles m_kind m_told m_there p1 p2 0 m_now m_stopped) else (tw_X7_tryThing_99 m_marbles m_kind m_told m_there p1 p2 1 m_now m_stopped)) else none)))) else (some (0, m_now, m_stopped))))
set_option maxHeartbeats 4000000 in
set_option maxRecDepth 100000 in
theorem c_X7_tryThing (l : Launch) (D : va_G) (cy : Cy) (mh : Nat) (m_kindr : Nat) (m_toldr : Nat) (m_nowr : Nat) (m_readToldr : Nat) (m_readCellr : Nat) (m_readKindr : Nat) (m_textr : Nat) (m_rowr : Nat) (m_seenCellr : Nat) (m_seenWayr : Nat) (m_seenCamer : Nat) (m_isKeptr : Nat) (m_keptr : Nat) (m_marbles : Int32) (m_kind : Nat → Int32) (m_told : Nat → Int32) (m_now : Nat → Int32) (m_readTold : Nat → Int32) (m_readCell : Nat → Int32) (m_readKind : Nat → Int32) (m_text : Nat → Int32) (m_length : Int32) (m_at : Int32) (m_faultAt : Int32) (m_there : Int32) (m_stopped : Int32) (m_acts : Int32) (m_next : Int32) (m_row : Nat → Int32) (m_bestRow : Int32) (m_seen : Int32) (m_seenCell : Nat → Int32) (m_seenWay : Nat → Int32) (m_seenCame : Nat → Int32) (m_seed : Int64) (m_isKept : Nat → Int32) (m_kept : Nat → Int32) (p1 : Int32) (p2 : Int32) (res : Int32 × (Nat → Int32) × Int32) (h : tw_X7_tryThing m_marbles m_kind m_told m_now m_there m_stopped p1 p2 = some res) : Ct l yX7_tryThing wsX7_tryThing 6 140 D cy [.ref mh, .int p1, .int p2] (cMd mh m_kindr m_toldr m_nowr m_readToldr m_readCellr m_readKindr m_textr m_rowr m_seenCellr m_seenWayr m_seenCamer m_isKeptr m_keptr cy.1 cy.2.2.1 m_marbles m_kind m_told m_now m_readTold m_readCell m_readKind m_text m_length m_at m_faultAt m_there m_stopped m_acts m_next m_row m_bestRow m_seen m_seenCell m_seenWay m_seenCame m_seed m_isKept m_kept) (cMd mh m_kindr m_toldr m_nowr m_readToldr m_readCellr m_readKindr m_textr m_rowr m_seenCellr m_seenWayr m_seenCamer m_isKeptr m_keptr cy.1 cy.2.2.1 m_marbles m_kind m_told res.2.1 m_readTold m_readCell m_readKind m_text m_length m_at m_faultAt m_there res.2.2 m_acts m_next m_row m_bestRow m_seen m_seenCell m_seenWay m_seenCame m_seed m_isKept m_kept) (some (.int res.1)) := by
  refine Ct.ofW (cc := cX7_tryThing) (maxL := 4) (ret := (some .boolean)) (by decide) rfl (Nat.le_of_ble_eq_true rfl) ?_
  intro p e R s m args below meth c A Q ls hRf hRl hQ hx hb hr hml hts hown hlocks hE hP hD hS hA hl
  have hiX7 : ∀ w ∈ u_ws RX7 TX7 24, w ∈ wsX7_tryThing := by decide +kernel
  have hl : lv_has ls 4 [(0, .ref mh), (1, .int p1), (2, .int p2)] := hl
  rw [tw_X7_tryThing] at h
  have L112 : ∀ (z0 : Int32) (z1 : Int32) (m_now : Nat → Int32) (m_stopped : Int32)  (H : Heap) (locs : List Loc) (ls : Array Slot), lv_has ls 4 [] → va_P D vwCl (cMd mh m_kindr m_toldr m_nowr m_readToldr m_readCellr m_readKindr m_textr m_rowr m_seenCellr m_seenWayr m_seenCamer m_isKeptr m_keptr cy.1 cy.2.2.1 m_marbles m_kind m_told m_now m_readTold m_readCell m_readKind m_text m_length m_at m_faultAt m_there m_stopped m_acts m_next m_row m_bestRow m_seen m_seenCell m_seenWay m_seenCame m_seed m_isKept m_kept) H → va_D A (cMd mh m_kindr m_toldr m_nowr m_readToldr m_readCellr m_readKindr m_textr m_rowr m_seenCellr m_seenWayr m_seenCamer m_isKeptr m_keptr cy.1 cy.2.2.1 m_marbles m_kind m_told m_now m_readTold m_readCell m_readKind m_text m_length m_at m_faultAt m_there m_stopped m_acts m_next m_row m_bestRow m_seen m_seenCell m_seenWay m_seenCame m_seed m_isKept m_kept) → va_S A s.heap H locs → tw_X7_tryThing_112 m_marbles m_kind m_told m_there p1 p2 z0 z1 m_now m_stopped = some res → W p l e R s m args below meth c H locs 0 0 Q (F0 m 112 ls [.int z1, .int z0]) := by
    intro z0 z1 m_now m_stopped  H locs ls hl hP hD hS h
    rw [tw_X7_tryThing_112] at h
    refine lv_icmp_ne (tgt := 119) hx hb dX7_tryThing_112 (by decide) (fun c1 => ?_) (fun c1 => ?_)
    · have h := oif h c1
      refine lv_iconst (v := 0) hx hb dX7_tryThing_119 (by decide) ?_
      obtain rfl := Option.some.inj h
      rw [hQ]; exact ct_zret hx hb hr hlocks rfl hP hS rfl dX7_tryThing_120
    · have h := oit h c1
      refine lv_iconst (v := 1) hx hb dX7_tryThing_115 (by decide) ?_
      refine lv_goto (tgt := 120) hx hb dX7_tryThing_116 (by decide) ?_
      obtain rfl := Option.some.inj h
      rw [hQ]; exact ct_zret hx hb hr hlocks rfl hP hS rfl dX7_tryThing_120
  have L99 : ∀ (z0 : Int32) (m_now : Nat → Int32) (m_stopped : Int32)  (H : Heap) (locs : List Loc) (ls : Array Slot), lv_has ls 4 [(2, .int p2)] → va_P D vwCl (cMd mh m_kindr m_toldr m_nowr m_readToldr m_readCellr m_readKindr m_textr m_rowr m_seenCellr m_seenWayr m_seenCamer m_isKeptr m_keptr cy.1 cy.2.2.1 m_marbles m_kind m_told m_now m_readTold m_readCell m_readKind m_text m_length m_at m_faultAt m_there m_stopped m_acts m_next m_row m_bestRow m_seen m_seenCell m_seenWay m_seenCame m_seed m_isKept m_kept) H → va_D A (cMd mh m_kindr m_toldr m_nowr m_readToldr m_readCellr m_readKindr m_textr m_rowr m_seenCellr m_seenWayr m_seenCamer m_isKeptr m_keptr cy.1 cy.2.2.1 m_marbles m_kind m_told m_now m_readTold m_readCell m_readKind m_text m_length m_at m_faultAt m_there m_stopped m_acts m_next m_row m_bestRow m_seen m_seenCell m_seenWay m_seenCame m_seed m_isKept m_kept) → va_S A s.heap H locs → tw_X7_tryThing_99 m_marbles m_kind m_told m_there p1 p2 z0 m_now m_stopped = some res → W p l e R s m args below meth c H locs 0 0 Q (F0 m 99 ls [.int z0]) := by
    intro z0 m_now m_stopped  H locs ls hl hP hD hS h
    rw [tw_X7_tryThing_99] at h
    refine lv_iload_n hx hb dX7_tryThing_99 rfl (lv_at hl 0 rfl) ?_
    refine lv_bipush (v := 10) hx hb dX7_tryThing_100 (by decide) ?_
    refine lv_irem hx hb dX7_tryThing_102 (by decide) ?_
    refine lv_iconst (v := 1) hx hb dX7_tryThing_103 (by decide) ?_
    refine lv_icmp_ne (tgt := 111) hx hb dX7_tryThing_104 (by decide) (fun c2 => ?_) (fun c2 => ?_)
    · have h := oif h c2
      refine lv_iconst (v := 0) hx hb dX7_tryThing_111 (by decide) ?_
      exact L112 z0 0 m_now m_stopped _ _ _ (lv_sub hl [] rfl) hP hD hS h
    · have h := oit h c2
      refine lv_iconst (v := 1) hx hb dX7_tryThing_107 (by decide) ?_
      refine lv_goto (tgt := 112) hx hb dX7_tryThing_108 (by decide) ?_
      exact L112 z0 1 m_now m_stopped _ _ _ (lv_sub hl [] rfl) hP hD hS h
  have L38 : ∀ (z0 : Int32) (m_now : Nat → Int32) (m_stopped : Int32)  (H : Heap) (locs : List Loc) (ls : Array Slot), lv_has ls 4 [(0, .ref mh), (2, .int p2)] → va_P D vwCl (cMd mh m_kindr m_toldr m_nowr m_readToldr m_readCellr m_readKindr m_textr m_rowr m_seenCellr m_seenWayr m_seenCamer m_isKeptr m_keptr cy.1 cy.2.2.1 m_marbles m_kind m_told m_now m_readTold m_readCell m_readKind m_text m_length m_at m_faultAt m_there m_stopped m_acts m_next m_row m_bestRow m_seen m_seenCell m_seenWay m_seenCame m_seed m_isKept m_kept) H → va_D A (cMd mh m_kindr m_toldr m_nowr m_readToldr m_readCellr m_readKindr m_textr m_rowr m_seenCellr m_seenWayr m_seenCamer m_isKeptr m_keptr cy.1 cy.2.2.1 m_marbles m_kind m_told m_now m_readTold m_readCell m_readKind m_text m_length m_at m_faultAt m_there m_stopped m_acts m_next m_row m_bestRow m_seen m_seenCell m_seenWay m_seenCame m_seed m_isKept m_kept) → va_S A s.heap H locs → tw_X7_tryThing_38 m_marbles m_kind m_told m_there p1 p2 z0 m_now m_stopped = some res → W p l e R s m args below meth c H locs 0 0 Q (F0 m 38 ls [.int z0]) := by
    intro z0 m_now m_stopped  H locs ls hl hP hD hS h
    rw [tw_X7_tryThing_38] at h
    refine lv_istore_n (lv' := [(3, .int z0), (0, .ref mh), (2, .int p2)]) hx hb dX7_tryThing_38 rfl hl (by decide) rfl (fun ls hl => ?_)
    refine lv_iload_n hx hb dX7_tryThing_39 rfl (lv_at hl 0 rfl) ?_
    refine lv_if_eq (tgt := 50) hx hb dX7_tryThing_40 (by decide) (fun c3 => ?_) (fun c3 => ?_)
    · have h := oit h c3
      refine lv_iload_n hx hb dX7_tryThing_50 rfl (lv_at hl 0 rfl) ?_
      obtain ⟨g4, h⟩ := og h
      obtain rfl := Option.some.inj h
      rw [hQ]; exact ct_zret hx hb hr hlocks (nar_z g4) hP hS rfl dX7_tryThing_51
    · have h := oif h c3
      refine lv_aload_n hx hb dX7_tryThing_43 rfl (lv_at hl 1 rfl) ?_
      refine lv_iconst (v := 1) hx hb dX7_tryThing_44 (by decide) ?_
      refine lv_iload_n hx hb dX7_tryThing_45 rfl (lv_at hl 2 rfl) ?_
      obtain ⟨q5, hq5, h⟩ := ob h
      refine kV (As := [.int 1, .int p2]) (rest := []) (w2 := cMd mh m_kindr m_toldr m_nowr m_readToldr m_readCellr m_readKindr m_textr m_rowr m_seenCellr m_seenWayr m_seenCamer m_isKeptr m_keptr cy.1 cy.2.2.1 m_marbles m_kind m_told q5.2.1 m_readTold m_readCell m_readKind m_text m_length m_at m_faultAt m_there q5.2.2 m_acts m_next m_row m_bestRow m_seen m_seenCell m_seenWay m_seenCame m_seed m_isKept m_kept) (n := 2) (q0 := 0) ⟨hx, hb, hml, hown, hts⟩ (c_X7_tiltOn l D cy mh m_kindr m_toldr m_nowr m_readToldr m_readCellr m_readKindr m_textr m_rowr m_seenCellr m_seenWayr m_seenCamer m_isKeptr m_keptr m_marbles m_kind m_told m_now m_readTold m_readCell m_readKind m_text m_length m_at m_faultAt m_there m_stopped m_acts m_next m_row m_bestRow m_seen m_seenCell m_seenWay m_seenCame m_seed m_isKept m_kept 1 p2 q5 hq5) gX7_tryThing_X7_tiltOn rfl (by decide +kernel) ⟨by rw [hRf]; exact Nat.le_of_ble_eq_true rfl, by rw [hRl]; exact Nat.le_of_ble_eq_true rfl⟩ hE hP hD hS hA [0, 1, 2, 3, 4, 5, 6, 7, 8, 9, 10, 11, 12, 13] rfl rfl rfl rfl rfl rfl rfl hl.1 rfl (Nat.le_of_ble_eq_true rfl) dX7_tryThing_46 ⟨Nat.zero_le _, Nat.zero_le _⟩ (fun H locs hP hD hS => ?_)
      refine lv_pop hx hb dX7_tryThing_49 rfl ?_
      refine lv_iload_n hx hb dX7_tryThing_50 rfl (lv_at hl 0 rfl) ?_
      obtain ⟨g6, h⟩ := og h
      obtain rfl := Option.some.inj h
      rw [hQ]; exact ct_zret hx hb hr hlocks (nar_z g6) hP hS rfl dX7_tryThing_51
  refine lv_iload_n hx hb dX7_tryThing_0 rfl (lv_at hl 1 rfl) ?_
  by_cases c8 : p1 = 0
  · have h := oit h c8
    refine lv_tableIn (off := 27) (tgt := 28) hx hb dX7_tryThing_1 (by rw [c8]; decide) (by rw [c8]; decide) (by rw [c8]; decide) (by decide) ?_
    refine lv_iload_n hx hb dX7_tryThing_28 rfl (lv_at hl 2 rfl) ?_
    refine lv_iconst (v := 4) hx hb dX7_tryThing_29 (by decide) ?_
    refine lv_icmp_ge (tgt := 37) hx hb dX7_tryThing_30 (by decide) (fun c7 => ?_) (fun c7 => ?_)
    · have h := oit h c7
      refine lv_iconst (v := 0) hx hb dX7_tryThing_37 (by decide) ?_
      exact L38 0 m_now m_stopped _ _ _ (lv_sub hl [0, 2] rfl) hP hD hS h
    · have h := oif h c7
      refine lv_iconst (v := 1) hx hb dX7_tryThing_33 (by decide) ?_
      refine lv_goto (tgt := 38) hx hb dX7_tryThing_34 (by decide) ?_
      exact L38 1 m_now m_stopped _ _ _ (lv_sub hl [0, 2] rfl) hP hD hS h
  have h := oif h c8
  by_cases c11 : p1 = 1
  · have h := oit h c11
    refine lv_tableIn (off := 51) (tgt := 52) hx hb dX7_tryThing_1 (by rw [c11]; decide) (by rw [c11]; decide) (by rw [c11]; decide) (by decide) ?_
    refine lv_aload_n hx hb dX7_tryThing_52 rfl (lv_at hl 0 rfl) ?_
    refine lv_iload_n hx hb dX7_tryThing_53 rfl (lv_at hl 2 rfl) ?_
    obtain ⟨q9, hq9, h⟩ := ob h
    refine kV (As := [.int p2]) (rest := []) (w2 := cMd mh m_kindr m_toldr m_nowr m_readToldr m_readCellr m_readKindr m_textr m_rowr m_seenCellr m_seenWayr m_seenCamer m_isKeptr m_keptr cy.1 cy.2.2.1 m_marbles m_kind m_told q9.2 m_readTold m_readCell m_readKind m_text m_length m_at m_faultAt m_there m_stopped m_acts m_next m_row m_bestRow m_seen m_seenCell m_seenWay m_seenCame m_seed m_isKept m_kept) (n := 1) (q0 := 0) ⟨hx, hb, hml, hown, hts⟩ (c_X7_wedgeTrial l D cy mh m_kindr m_toldr m_nowr m_readToldr m_readCellr m_readKindr m_textr m_rowr m_seenCellr m_seenWayr m_seenCamer m_isKeptr m_keptr m_marbles m_kind m_told m_now m_readTold m_readCell m_readKind m_text m_length m_at m_faultAt m_there m_stopped m_acts m_next m_row m_bestRow m_seen m_seenCell m_seenWay m_seenCame m_seed m_isKept m_kept p2 q9 hq9) gX7_tryThing_X7_wedgeTrial rfl (by decide +kernel) ⟨by rw [hRf]; exact Nat.le_of_ble_eq_true rfl, by rw [hRl]; exact Nat.le_of_ble_eq_true rfl⟩ hE hP hD hS hA [0, 1, 2, 3, 4, 5, 6, 7, 8, 9, 10, 11, 12, 13] rfl rfl rfl rfl rfl rfl rfl hl.1 rfl (Nat.le_of_ble_eq_true rfl) dX7_tryThing_54 ⟨Nat.zero_le _, Nat.zero_le _⟩ (fun H locs hP hD hS => ?_)
    obtain ⟨g10, h⟩ := og h
    obtain rfl := Option.some.inj h
    rw [hQ]; exact ct_zret hx hb hr hlocks (nar_z g10) hP hS rfl dX7_tryThing_57
  have h := oif h c11
  by_cases c17 : p1 = 2
  · have h := oit h c17
    refine lv_tableIn (off := 57) (tgt := 58) hx hb dX7_tryThing_1 (by rw [c17]; decide) (by rw [c17]; decide) (by rw [c17]; decide) (by decide) ?_
    refine lv_aload_n hx hb dX7_tryThing_58 rfl (lv_at hl 0 rfl) ?_
    refine lv_iload_n hx hb dX7_tryThing_59 rfl (lv_at hl 2 rfl) ?_
    refine lv_bipush (v := 10) hx hb dX7_tryThing_60 (by decide) ?_
    refine lv_idiv hx hb dX7_tryThing_62 (by decide) ?_
    obtain ⟨q12, hq12, h⟩ := ob h
    refine kV (As := [.int (p2 / 10)]) (rest := []) (w2 := cMd mh m_kindr m_toldr m_nowr m_readToldr m_readCellr m_readKindr m_textr m_rowr m_seenCellr m_seenWayr m_seenCamer m_isKeptr m_keptr cy.1 cy.2.2.1 m_marbles m_kind m_told m_now m_readTold m_readCell m_readKind m_text m_length m_at m_faultAt m_there m_stopped m_acts m_next m_row m_bestRow m_seen m_seenCell m_seenWay m_seenCame m_seed m_isKept m_kept) (n := 1) (q0 := 0) ⟨hx, hb, hml, hown, hts⟩ (c_X7_isMarble l D cy mh m_kindr m_toldr m_nowr m_readToldr m_readCellr m_readKindr m_textr m_rowr m_seenCellr m_seenWayr m_seenCamer m_isKeptr m_keptr m_marbles m_kind m_told m_now m_readTold m_readCell m_readKind m_text m_length m_at m_faultAt m_there m_stopped m_acts m_next m_row m_bestRow m_seen m_seenCell m_seenWay m_seenCame m_seed m_isKept m_kept (p2 / 10) q12 hq12) gX7_tryThing_X7_isMarble rfl (by decide +kernel) ⟨by rw [hRf]; exact Nat.le_of_ble_eq_true rfl, by rw [hRl]; exact Nat.le_of_ble_eq_true rfl⟩ hE hP hD hS hA [0, 1, 2, 3, 4, 5, 6, 7, 8, 9, 10, 11, 12, 13] rfl rfl rfl rfl rfl rfl rfl hl.1 rfl (Nat.le_of_ble_eq_true rfl) dX7_tryThing_63 ⟨Nat.zero_le _, Nat.zero_le _⟩ (fun H locs hP hD hS => ?_)
    refine lv_if_eq (tgt := 119) hx hb dX7_tryThing_66 (by decide) (fun c13 => ?_) (fun c13 => ?_)
    · have h := oit h c13
      refine lv_iconst (v := 0) hx hb dX7_tryThing_119 (by decide) ?_
      obtain rfl := Option.some.inj h
      rw [hQ]; exact ct_zret hx hb hr hlocks rfl hP hS rfl dX7_tryThing_120
    · have h := oif h c13
      refine lv_iload_n hx hb dX7_tryThing_69 rfl (lv_at hl 2 rfl) ?_
      refine lv_bipush (v := 10) hx hb dX7_tryThing_70 (by decide) ?_
      refine lv_irem hx hb dX7_tryThing_72 (by decide) ?_
      refine lv_iconst (v := 2) hx hb dX7_tryThing_73 (by decide) ?_
      refine lv_icmp_ge (tgt := 119) hx hb dX7_tryThing_74 (by decide) (fun c14 => ?_) (fun c14 => ?_)
      · have h := oit h c14
        refine lv_iconst (v := 0) hx hb dX7_tryThing_119 (by decide) ?_
        obtain rfl := Option.some.inj h
        rw [hQ]; exact ct_zret hx hb hr hlocks rfl hP hS rfl dX7_tryThing_120
      · have h := oif h c14
        refine lv_aload_n hx hb dX7_tryThing_77 rfl (lv_at hl 0 rfl) ?_
        refine va_get (D := D) (ci := 7) (v := .ref m_nowr) (C := RX7) (T := TX7) (N := 24) hx hb hts hiX7 hown hE.1 hP 0 rfl rfl 3 (by decide) (hts (.fieldLink RX7 16 "TiltTrayModel" "now" "[I") (by decide +kernel)) (fun _ h9 => h9) rfl dX7_tryThing_78 ?_
        refine lv_bipush (v := 7) hx hb dX7_tryThing_81 (by decide) ?_
        refine lv_iload_n hx hb dX7_tryThing_83 rfl (lv_at hl 2 rfl) ?_
        refine lv_bipush (v := 10) hx hb dX7_tryThing_84 (by decide) ?_
        refine lv_idiv hx hb dX7_tryThing_86 (by decide) ?_
        refine lv_iadd hx hb dX7_tryThing_87 ?_
        obtain ⟨g15, h⟩ := og h
        refine va_iald hx hb hE.1 hP 3 0 rfl rfl (ix_in g15) dX7_tryThing_88 ?_
        refine lv_bipush (v := 100) hx hb dX7_tryThing_89 (by decide) ?_
        refine lv_icmp_lt (tgt := 98) hx hb dX7_tryThing_91 (by decide) (fun c16 => ?_) (fun c16 => ?_)
        · have h := oit h c16
          refine lv_iconst (v := 0) hx hb dX7_tryThing_98 (by decide) ?_
          exact L99 0 m_now m_stopped _ _ _ (lv_sub hl [2] rfl) hP hD hS h
        · have h := oif h c16
          refine lv_iconst (v := 1) hx hb dX7_tryThing_94 (by decide) ?_
          refine lv_goto (tgt := 99) hx hb dX7_tryThing_95 (by decide) ?_
          exact L99 1 m_now m_stopped _ _ _ (lv_sub hl [2] rfl) hP hD hS h
  have h := oif h c17
  refine lv_tableOut (tgt := 121) hx hb dX7_tryThing_1 (sw_out 2 (by decide) (fun k hk => by rcases (show k = 0 ∨ k = 1 ∨ k = 2 by omega) with rfl | rfl | rfl <;> assumption)) (by decide) ?_
  refine lv_iconst (v := 0) hx hb dX7_tryThing_121 (by decide) ?_
  obtain rfl := Option.some.inj h
  rw [hQ]; exact ct_zret hx hb hr hlocks rfl hP hS rfl dX7_tryThing_122

def tw_X7_judge_36 (m_marbles : Int32) (m_kind : Nat → Int32) (m_told : Nat → Int32) (m_there : Int32) (p1 : Int32) (p2 : Int64) : Nat → Int32 → (Nat → Int32) → Int32 → Option (Int32 × (Nat → Int32) × Int32)
  | 0, _, _, _ => none
  | n + 1, x4, m_now, m_stopped =>
    if p1 ≤ x4 then (some ((-9), m_now, m_stopped)) else ((tw_X7_thousandTo ((p1 - 1) - x4)).bind (fun q2 => if ¬ q2 = 0 then ((tw_X7_tryThing m_marbles m_kind m_told m_now m_there m_stopped ((((p2 / q2) - (p2 / q2) / 1000 * 1000).toInt32) / 100) ((((p2 / q2) - (p2 / q2) / 1000 * 1000).toInt32) - (((p2 / q2) - (p2 / q2) / 1000 * 1000).toInt32) / 100 * 100)).bind (fun q4 => if q4.1 = 0 then (some (x4, q4.2.1, q4.2.2)) else ((tw_X7_judge_36 m_marbles m_kind m_told m_there p1 p2 n) (x4 + 1) q4.2.1 q4.2.2))) else none))
def tw_X7_judge (m_marbles : Int32) (m_kind : Nat → Int32) (m_told : Nat → Int32) (m_now : Nat → Int32) (m_there : Int32) (m_stopped : Int32) (p1 : Int32) (p2 : Int64) : Option (Int32 × (Nat → Int32) × Int32) :=
  (tw_X7_in p1.toInt64 1 4).bind (fun q6 => if q6 = 0 then (some ((-2), m_now, m_stopped)) else ((tw_X7_thousandTo p1).bind (fun q8 => (tw_X7_in p2 0 (q8 - 1)).bind (fun q9 => if q9 = 0 then (some ((-2), m_now, m_stopped)) else ((tw_X7_layTrial m_now).bind (fun q11 => tw_X7_judge_36 m_marbles m_kind m_told m_there p1 p2 6 0 q11 m_stopped))))))
set_option maxHeartbeats 4000000 in
set_option maxRecDepth 100000 in
theorem c_X7_judge (l : Launch) (D : va_G) (cy : Cy) (mh : Nat) (m_kindr : Nat) (m_toldr : Nat) (m_nowr : Nat) (m_readToldr : Nat) (m_readCellr : Nat) (m_readKindr : Nat) (m_textr : Nat) (m_rowr : Nat) (m_seenCellr : Nat) (m_seenWayr : Nat) (m_seenCamer : Nat) (m_isKeptr : Nat) (m_keptr : Nat) (m_marbles : Int32) (m_kind : Nat → Int32) (m_told : Nat → Int32) (m_now : Nat → Int32) (m_readTold : Nat → Int32) (m_readCell : Nat → Int32) (m_readKind : Nat → Int32) (m_text : Nat → Int32) (m_length : Int32) (m_at : Int32) (m_faultAt : Int32) (m_there : Int32) (m_stopped : Int32) (m_acts : Int32) (m_next : Int32) (m_row : Nat → Int32) (m_bestRow : Int32) (m_seen : Int32) (m_seenCell : Nat → Int32) (m_seenWay : Nat → Int32) (m_seenCame : Nat → Int32) (m_seed : Int64) (m_isKept : Nat → Int32) (m_kept : Nat → Int32) (p1 : Int32) (p2 : Int64) (res : Int32 × (Nat → Int32) × Int32) (h : tw_X7_judge m_marbles m_kind m_told m_now m_there m_stopped p1 p2 = some res) : Ct l yX7_judge wsX7_judge 7 163 D cy [.ref mh, .int p1, .long p2] (cMd mh m_kindr m_toldr m_nowr m_readToldr m_readCellr m_readKindr m_textr m_rowr m_seenCellr m_seenWayr m_seenCamer m_isKeptr m_keptr cy.1 cy.2.2.1 m_marbles m_kind m_told m_now m_readTold m_readCell m_readKind m_text m_length m_at m_faultAt m_there m_stopped m_acts m_next m_row m_bestRow m_seen m_seenCell m_seenWay m_seenCame m_seed m_isKept m_kept) (cMd mh m_kindr m_toldr m_nowr m_readToldr m_readCellr m_readKindr m_textr m_rowr m_seenCellr m_seenWayr m_seenCamer m_isKeptr m_keptr cy.1 cy.2.2.1 m_marbles m_kind m_told res.2.1 m_readTold m_readCell m_readKind m_text m_length m_at m_faultAt m_there res.2.2 m_acts m_next m_row m_bestRow m_seen m_seenCell m_seenWay m_seenCame m_seed m_isKept m_kept) (some (.int res.1)) := by
  refine Ct.ofW (cc := cX7_judge) (maxL := 6) (ret := (some .int)) (by decide) rfl (Nat.le_of_ble_eq_true rfl) ?_
  intro p e R s m args below meth c A Q ls hRf hRl hQ hx hb hr hml hts hown hlocks hE hP hD hS hA hl
  have hl : lv_has ls 6 [(0, .ref mh), (1, .int p1), (2, .long p2)] := hl
  rw [tw_X7_judge] at h
  have L36 : ∀ (n : Nat) (x4 : Int32) (m_now : Nat → Int32) (m_stopped : Int32)  (H : Heap) (locs : List Loc) (ls : Array Slot), lv_has ls 6 [(0, .ref mh), (1, .int p1), (2, .long p2), (4, .int x4)] → va_P D vwCl (cMd mh m_kindr m_toldr m_nowr m_readToldr m_readCellr m_readKindr m_textr m_rowr m_seenCellr m_seenWayr m_seenCamer m_isKeptr m_keptr cy.1 cy.2.2.1 m_marbles m_kind m_told m_now m_readTold m_readCell m_readKind m_text m_length m_at m_faultAt m_there m_stopped m_acts m_next m_row m_bestRow m_seen m_seenCell m_seenWay m_seenCame m_seed m_isKept m_kept) H → va_D A (cMd mh m_kindr m_toldr m_nowr m_readToldr m_readCellr m_readKindr m_textr m_rowr m_seenCellr m_seenWayr m_seenCamer m_isKeptr m_keptr cy.1 cy.2.2.1 m_marbles m_kind m_told m_now m_readTold m_readCell m_readKind m_text m_length m_at m_faultAt m_there m_stopped m_acts m_next m_row m_bestRow m_seen m_seenCell m_seenWay m_seenCame m_seed m_isKept m_kept) → va_S A s.heap H locs → tw_X7_judge_36 m_marbles m_kind m_told m_there p1 p2 n x4 m_now m_stopped = some res → W p l e R s m args below meth c H locs 0 0 Q (F0 m 36 ls []) := by
    intro n36
    induction n36 with
    | zero =>
      intro x4 m_now m_stopped  H locs ls hl hP hD hS h
      exact absurd h (by rw [tw_X7_judge_36]; exact fun q => by cases q)
    | succ n36 ih36 =>
      intro x4 m_now m_stopped  H locs ls hl hP hD hS h
      rw [tw_X7_judge_36] at h
      refine lv_iload hx hb dX7_judge_36 (lv_at hl 3 rfl) ?_
      refine lv_iload_n hx hb dX7_judge_38 rfl (lv_at hl 1 rfl) ?_
      refine lv_icmp_ge (tgt := 86) hx hb dX7_judge_39 (by decide) (fun c1 => ?_) (fun c1 => ?_)
      · have h := oit h c1
        refine lv_bipush (v := (-9)) hx hb dX7_judge_86 (by decide) ?_
        obtain rfl := Option.some.inj h
        rw [hQ]; exact ct_iret hx hb hr hlocks hP hS rfl dX7_judge_88
      · have h := oif h c1
        refine lv_lload_n hx hb dX7_judge_42 rfl (lv_at hl 2 rfl) ?_
        refine lv_iload_n hx hb dX7_judge_43 rfl (lv_at hl 1 rfl) ?_
        refine lv_iconst (v := 1) hx hb dX7_judge_44 (by decide) ?_
        refine lv_isub hx hb dX7_judge_45 ?_
        refine lv_iload hx hb dX7_judge_46 (lv_at hl 3 rfl) ?_
        refine lv_isub hx hb dX7_judge_48 ?_
        obtain ⟨q2, hq2, h⟩ := ob h
        refine kS (As := [.int ((p1 - 1) - x4)]) (rest := [.long p2]) (w2 := cMd mh m_kindr m_toldr m_nowr m_readToldr m_readCellr m_readKindr m_textr m_rowr m_seenCellr m_seenWayr m_seenCamer m_isKeptr m_keptr cy.1 cy.2.2.1 m_marbles m_kind m_told m_now m_readTold m_readCell m_readKind m_text m_length m_at m_faultAt m_there m_stopped m_acts m_next m_row m_bestRow m_seen m_seenCell m_seenWay m_seenCame m_seed m_isKept m_kept) (n := 1) ⟨hx, hb, hml, hown, hts⟩ (c_X7_thousandTo l D cy ((p1 - 1) - x4) q2 hq2) gX7_judge_X7_thousandTo rfl (by decide +kernel) ⟨by rw [hRf]; exact Nat.le_of_ble_eq_true rfl, by rw [hRl]; exact Nat.le_of_ble_eq_true rfl⟩ hE hP hD hS hA [] rfl rfl rfl rfl rfl hl.1 rfl (Nat.le_of_ble_eq_true rfl) dX7_judge_49 ⟨Nat.zero_le _, Nat.zero_le _⟩ (fun H locs hP hD hS => ?_)
        obtain ⟨g3, h⟩ := og h
        refine lv_ldiv hx hb dX7_judge_52 g3 ?_
        refine lv_ldc2 (v := 1000) hx hb hown (hts (.constantLong RX7 174 (1000)) (by decide +kernel)) dX7_judge_53 ?_
        refine lv_lrem hx hb dX7_judge_56 (by decide) ?_
        refine lv_l2i hx hb dX7_judge_57 rfl ?_
        refine lv_istore (lv' := [(5, .int (((p2 / q2) - (p2 / q2) / 1000 * 1000).toInt32)), (0, .ref mh), (1, .int p1), (2, .long p2), (4, .int x4)]) hx hb dX7_judge_58 hl (by decide) rfl (fun ls hl => ?_)
        refine lv_aload_n hx hb dX7_judge_60 rfl (lv_at hl 1 rfl) ?_
        refine lv_iload hx hb dX7_judge_61 (lv_at hl 0 rfl) ?_
        refine lv_bipush (v := 100) hx hb dX7_judge_63 (by decide) ?_
        refine lv_idiv hx hb dX7_judge_65 (by decide) ?_
        refine lv_iload hx hb dX7_judge_66 (lv_at hl 0 rfl) ?_
        refine lv_bipush (v := 100) hx hb dX7_judge_68 (by decide) ?_
        refine lv_irem hx hb dX7_judge_70 (by decide) ?_
        obtain ⟨q4, hq4, h⟩ := ob h
        refine kV (As := [.int ((((p2 / q2) - (p2 / q2) / 1000 * 1000).toInt32) / 100), .int ((((p2 / q2) - (p2 / q2) / 1000 * 1000).toInt32) - (((p2 / q2) - (p2 / q2) / 1000 * 1000).toInt32) / 100 * 100)]) (rest := []) (w2 := cMd mh m_kindr m_toldr m_nowr m_readToldr m_readCellr m_readKindr m_textr m_rowr m_seenCellr m_seenWayr m_seenCamer m_isKeptr m_keptr cy.1 cy.2.2.1 m_marbles m_kind m_told q4.2.1 m_readTold m_readCell m_readKind m_text m_length m_at m_faultAt m_there q4.2.2 m_acts m_next m_row m_bestRow m_seen m_seenCell m_seenWay m_seenCame m_seed m_isKept m_kept) (n := 2) (q0 := 0) ⟨hx, hb, hml, hown, hts⟩ (c_X7_tryThing l D cy mh m_kindr m_toldr m_nowr m_readToldr m_readCellr m_readKindr m_textr m_rowr m_seenCellr m_seenWayr m_seenCamer m_isKeptr m_keptr m_marbles m_kind m_told m_now m_readTold m_readCell m_readKind m_text m_length m_at m_faultAt m_there m_stopped m_acts m_next m_row m_bestRow m_seen m_seenCell m_seenWay m_seenCame m_seed m_isKept m_kept ((((p2 / q2) - (p2 / q2) / 1000 * 1000).toInt32) / 100) ((((p2 / q2) - (p2 / q2) / 1000 * 1000).toInt32) - (((p2 / q2) - (p2 / q2) / 1000 * 1000).toInt32) / 100 * 100) q4 hq4) gX7_judge_X7_tryThing rfl (by decide +kernel) ⟨by rw [hRf]; exact Nat.le_of_ble_eq_true rfl, by rw [hRl]; exact Nat.le_of_ble_eq_true rfl⟩ hE hP hD hS hA [0, 1, 2, 3, 4, 5, 6, 7, 8, 9, 10, 11, 12, 13] rfl rfl rfl rfl rfl rfl rfl hl.1 rfl (Nat.le_of_ble_eq_true rfl) dX7_judge_71 ⟨Nat.zero_le _, Nat.zero_le _⟩ (fun H locs hP hD hS => ?_)
        refine lv_if_ne (tgt := 80) hx hb dX7_judge_74 (by decide) (fun c5 => ?_) (fun c5 => ?_)
        · have h := oif h c5
          refine lv_iinc (v := x4 + 1) (lv' := [(4, .int (x4 + 1)), (5, .int (((p2 / q2) - (p2 / q2) / 1000 * 1000).toInt32)), (0, .ref mh), (1, .int p1), (2, .long p2)]) hx hb dX7_judge_80 hl (k := 4) rfl rfl (by decide) rfl (fun ls hl => ?_)
          refine lv_goto (tgt := 36) hx hb dX7_judge_83 (by decide) ?_
          exact ih36 (x4 + 1) q4.2.1 q4.2.2 _ _ _ (lv_sub hl [2, 3, 4, 0] rfl) hP hD hS h
        · have h := oit h c5
          refine lv_iload hx hb dX7_judge_77 (lv_at hl 4 rfl) ?_
          obtain rfl := Option.some.inj h
          rw [hQ]; exact ct_iret hx hb hr hlocks hP hS rfl dX7_judge_79
  refine lv_iload_n hx hb dX7_judge_0 rfl (lv_at hl 1 rfl) ?_
  refine lv_i2l hx hb dX7_judge_1 rfl ?_
  refine lv_lconst (v := 1) hx hb dX7_judge_2 (by decide) ?_
  refine lv_ldc2 (v := 4) hx hb hown (hts (.constantLong RX7 166 (4)) (by decide +kernel)) dX7_judge_3 ?_
  obtain ⟨q6, hq6, h⟩ := ob h
  refine kS (As := [.long p1.toInt64, .long 1, .long 4]) (rest := []) (w2 := cMd mh m_kindr m_toldr m_nowr m_readToldr m_readCellr m_readKindr m_textr m_rowr m_seenCellr m_seenWayr m_seenCamer m_isKeptr m_keptr cy.1 cy.2.2.1 m_marbles m_kind m_told m_now m_readTold m_readCell m_readKind m_text m_length m_at m_faultAt m_there m_stopped m_acts m_next m_row m_bestRow m_seen m_seenCell m_seenWay m_seenCame m_seed m_isKept m_kept) (n := 3) ⟨hx, hb, hml, hown, hts⟩ (c_X7_in l D cy p1.toInt64 1 4 q6 hq6) gX7_judge_X7_in rfl (by decide +kernel) ⟨by rw [hRf]; exact Nat.le_of_ble_eq_true rfl, by rw [hRl]; exact Nat.le_of_ble_eq_true rfl⟩ hE hP hD hS hA [] rfl rfl rfl rfl rfl hl.1 rfl (Nat.le_of_ble_eq_true rfl) dX7_judge_6 ⟨Nat.zero_le _, Nat.zero_le _⟩ (fun H locs hP hD hS => ?_)
  refine lv_if_eq (tgt := 26) hx hb dX7_judge_9 (by decide) (fun c7 => ?_) (fun c7 => ?_)
  · have h := oit h c7
    refine lv_bipush (v := (-2)) hx hb dX7_judge_26 (by decide) ?_
    obtain rfl := Option.some.inj h
    rw [hQ]; exact ct_iret hx hb hr hlocks hP hS rfl dX7_judge_28
  · have h := oif h c7
    refine lv_lload_n hx hb dX7_judge_12 rfl (lv_at hl 2 rfl) ?_
    refine lv_lconst (v := 0) hx hb dX7_judge_13 (by decide) ?_
    refine lv_iload_n hx hb dX7_judge_14 rfl (lv_at hl 1 rfl) ?_
    obtain ⟨q8, hq8, h⟩ := ob h
    refine kS (As := [.int p1]) (rest := [.long 0, .long p2]) (w2 := cMd mh m_kindr m_toldr m_nowr m_readToldr m_readCellr m_readKindr m_textr m_rowr m_seenCellr m_seenWayr m_seenCamer m_isKeptr m_keptr cy.1 cy.2.2.1 m_marbles m_kind m_told m_now m_readTold m_readCell m_readKind m_text m_length m_at m_faultAt m_there m_stopped m_acts m_next m_row m_bestRow m_seen m_seenCell m_seenWay m_seenCame m_seed m_isKept m_kept) (n := 1) ⟨hx, hb, hml, hown, hts⟩ (c_X7_thousandTo l D cy p1 q8 hq8) gX7_judge_X7_thousandTo rfl (by decide +kernel) ⟨by rw [hRf]; exact Nat.le_of_ble_eq_true rfl, by rw [hRl]; exact Nat.le_of_ble_eq_true rfl⟩ hE hP hD hS hA [] rfl rfl rfl rfl rfl hl.1 rfl (Nat.le_of_ble_eq_true rfl) dX7_judge_15 ⟨Nat.zero_le _, Nat.zero_le _⟩ (fun H locs hP hD hS => ?_)
    refine lv_lconst (v := 1) hx hb dX7_judge_18 (by decide) ?_
    refine lv_lsub hx hb dX7_judge_19 ?_
    obtain ⟨q9, hq9, h⟩ := ob h
    refine kS (As := [.long p2, .long 0, .long (q8 - 1)]) (rest := []) (w2 := cMd mh m_kindr m_toldr m_nowr m_readToldr m_readCellr m_readKindr m_textr m_rowr m_seenCellr m_seenWayr m_seenCamer m_isKeptr m_keptr cy.1 cy.2.2.1 m_marbles m_kind m_told m_now m_readTold m_readCell m_readKind m_text m_length m_at m_faultAt m_there m_stopped m_acts m_next m_row m_bestRow m_seen m_seenCell m_seenWay m_seenCame m_seed m_isKept m_kept) (n := 3) ⟨hx, hb, hml, hown, hts⟩ (c_X7_in l D cy p2 0 (q8 - 1) q9 hq9) gX7_judge_X7_in rfl (by decide +kernel) ⟨by rw [hRf]; exact Nat.le_of_ble_eq_true rfl, by rw [hRl]; exact Nat.le_of_ble_eq_true rfl⟩ hE hP hD hS hA [] rfl rfl rfl rfl rfl hl.1 rfl (Nat.le_of_ble_eq_true rfl) dX7_judge_20 ⟨Nat.zero_le _, Nat.zero_le _⟩ (fun H locs hP hD hS => ?_)
    refine lv_if_ne (tgt := 29) hx hb dX7_judge_23 (by decide) (fun c10 => ?_) (fun c10 => ?_)
    · have h := oif h c10
      refine lv_aload_n hx hb dX7_judge_29 rfl (lv_at hl 0 rfl) ?_
      obtain ⟨q11, hq11, h⟩ := ob h
      refine kV (As := []) (rest := []) (w2 := cMd mh m_kindr m_toldr m_nowr m_readToldr m_readCellr m_readKindr m_textr m_rowr m_seenCellr m_seenWayr m_seenCamer m_isKeptr m_keptr cy.1 cy.2.2.1 m_marbles m_kind m_told q11 m_readTold m_readCell m_readKind m_text m_length m_at m_faultAt m_there m_stopped m_acts m_next m_row m_bestRow m_seen m_seenCell m_seenWay m_seenCame m_seed m_isKept m_kept) (n := 0) (q0 := 0) ⟨hx, hb, hml, hown, hts⟩ (c_X7_layTrial l D cy mh m_kindr m_toldr m_nowr m_readToldr m_readCellr m_readKindr m_textr m_rowr m_seenCellr m_seenWayr m_seenCamer m_isKeptr m_keptr m_marbles m_kind m_told m_now m_readTold m_readCell m_readKind m_text m_length m_at m_faultAt m_there m_stopped m_acts m_next m_row m_bestRow m_seen m_seenCell m_seenWay m_seenCame m_seed m_isKept m_kept q11 hq11) gX7_judge_X7_layTrial rfl (by decide +kernel) ⟨by rw [hRf]; exact Nat.le_of_ble_eq_true rfl, by rw [hRl]; exact Nat.le_of_ble_eq_true rfl⟩ hE hP hD hS hA [0, 1, 2, 3, 4, 5, 6, 7, 8, 9, 10, 11, 12, 13] rfl rfl rfl rfl rfl rfl rfl hl.1 rfl (Nat.le_of_ble_eq_true rfl) dX7_judge_30 ⟨Nat.zero_le _, Nat.zero_le _⟩ (fun H locs hP hD hS => ?_)
      refine lv_iconst (v := 0) hx hb dX7_judge_33 (by decide) ?_
      refine lv_istore (lv' := [(4, .int 0), (0, .ref mh), (1, .int p1), (2, .long p2)]) hx hb dX7_judge_34 hl (by decide) rfl (fun ls hl => ?_)
      exact L36 6 0 q11 m_stopped _ _ _ (lv_sub hl [1, 2, 3, 0] rfl) hP hD hS h
    · have h := oit h c10
      refine lv_bipush (v := (-2)) hx hb dX7_judge_26 (by decide) ?_
      obtain rfl := Option.some.inj h
      rw [hQ]; exact ct_iret hx hb hr hlocks hP hS rfl dX7_judge_28
