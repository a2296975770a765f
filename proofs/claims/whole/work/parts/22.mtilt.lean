def tw_X7_isMarble (m_marbles : Int32) (p1 : Int32) : Option (Int32) :=
  (tw_X7_in p1.toInt64 0 ((m_marbles - 1).toInt64)).bind (fun q1 => if q1 &&& 1 = q1 then (some (q1)) else none)
set_option maxHeartbeats 4000000 in
set_option maxRecDepth 100000 in
theorem c_X7_isMarble (l : Launch) (D : va_G) (cy : Cy) (mh : Nat) (m_kindr : Nat) (m_toldr : Nat) (m_nowr : Nat) (m_readToldr : Nat) (m_readCellr : Nat) (m_readKindr : Nat) (m_textr : Nat) (m_rowr : Nat) (m_seenCellr : Nat) (m_seenWayr : Nat) (m_seenCamer : Nat) (m_isKeptr : Nat) (m_keptr : Nat) (m_marbles : Int32) (m_kind : Nat → Int32) (m_told : Nat → Int32) (m_now : Nat → Int32) (m_readTold : Nat → Int32) (m_readCell : Nat → Int32) (m_readKind : Nat → Int32) (m_text : Nat → Int32) (m_length : Int32) (m_at : Int32) (m_faultAt : Int32) (m_there : Int32) (m_stopped : Int32) (m_acts : Int32) (m_next : Int32) (m_row : Nat → Int32) (m_bestRow : Int32) (m_seen : Int32) (m_seenCell : Nat → Int32) (m_seenWay : Nat → Int32) (m_seenCame : Nat → Int32) (m_seed : Int64) (m_isKept : Nat → Int32) (m_kept : Nat → Int32) (p1 : Int32) (res : Int32) (h : tw_X7_isMarble m_marbles p1 = some res) : Ct l yX7_isMarble wsX7_isMarble 1 25 D cy [.ref mh, .int p1] (cMd mh m_kindr m_toldr m_nowr m_readToldr m_readCellr m_readKindr m_textr m_rowr m_seenCellr m_seenWayr m_seenCamer m_isKeptr m_keptr cy.1 cy.2.2.1 m_marbles m_kind m_told m_now m_readTold m_readCell m_readKind m_text m_length m_at m_faultAt m_there m_stopped m_acts m_next m_row m_bestRow m_seen m_seenCell m_seenWay m_seenCame m_seed m_isKept m_kept) (cMd mh m_kindr m_toldr m_nowr m_readToldr m_readCellr m_readKindr m_textr m_rowr m_seenCellr m_seenWayr m_seenCamer m_isKeptr m_keptr cy.1 cy.2.2.1 m_marbles m_kind m_told m_now m_readTold m_readCell m_readKind m_text m_length m_at m_faultAt m_there m_stopped m_acts m_next m_row m_bestRow m_seen m_seenCell m_seenWay m_seenCame m_seed m_isKept m_kept) (some (.int res)) := by
  refine Ct.ofW (cc := cX7_isMarble) (maxL := 2) (ret := (some .boolean)) (by decide) rfl (Nat.le_of_ble_eq_true rfl) ?_
  intro p e R s m args below meth c A Q ls hRf hRl hQ hx hb hr hml hts hown hlocks hE hP hD hS hA hl
  have hiX7 : ∀ w ∈ u_ws RX7 TX7 24, w ∈ wsX7_isMarble := by decide +kernel
  have hl : lv_has ls 2 [(0, .ref mh), (1, .int p1)] := hl
  rw [tw_X7_isMarble] at h
  refine lv_iload_n hx hb dX7_isMarble_0 rfl (lv_at hl 1 rfl) ?_
  refine lv_i2l hx hb dX7_isMarble_1 rfl ?_
  refine lv_lconst (v := 0) hx hb dX7_isMarble_2 (by decide) ?_
  refine lv_aload_n hx hb dX7_isMarble_3 rfl (lv_at hl 0 rfl) ?_
  refine va_get (D := D) (ci := 7) (v := .int m_marbles) (C := RX7) (T := TX7) (N := 24) hx hb hts hiX7 hown hE.1 hP 0 rfl rfl 0 (by decide) (hts (.fieldLink RX7 92 "TiltTrayModel" "marbles" "I") (by decide +kernel)) (fun _ h9 => h9) rfl dX7_isMarble_4 ?_
  refine lv_iconst (v := 1) hx hb dX7_isMarble_7 (by decide) ?_
  refine lv_isub hx hb dX7_isMarble_8 ?_
  refine lv_i2l hx hb dX7_isMarble_9 rfl ?_
  obtain ⟨q1, hq1, h⟩ := ob h
  refine kS (As := [.long p1.toInt64, .long 0, .long ((m_marbles - 1).toInt64)]) (rest := []) (w2 := cMd mh m_kindr m_toldr m_nowr m_readToldr m_readCellr m_readKindr m_textr m_rowr m_seenCellr m_seenWayr m_seenCamer m_isKeptr m_keptr cy.1 cy.2.2.1 m_marbles m_kind m_told m_now m_readTold m_readCell m_readKind m_text m_length m_at m_faultAt m_there m_stopped m_acts m_next m_row m_bestRow m_seen m_seenCell m_seenWay m_seenCame m_seed m_isKept m_kept) (n := 3) ⟨hx, hb, hml, hown, hts⟩ (c_X7_in l D cy p1.toInt64 0 ((m_marbles - 1).toInt64) q1 hq1) gX7_isMarble_X7_in rfl (by decide +kernel) ⟨by rw [hRf]; exact Nat.le_of_ble_eq_true rfl, by rw [hRl]; exact Nat.le_of_ble_eq_true rfl⟩ hE hP hD hS hA [] rfl rfl rfl rfl rfl hl.1 rfl (Nat.le_of_ble_eq_true rfl) dX7_isMarble_10 ⟨Nat.zero_le _, Nat.zero_le _⟩ (fun H locs hP hD hS => ?_)
  obtain ⟨g2, h⟩ := og h
  obtain rfl := Option.some.inj h
  rw [hQ]; exact ct_zret hx hb hr hlocks (nar_z g2) hP hS rfl dX7_isMarble_13

def tw_X7_nearMagnet_4 (m_told : Nat → Int32) (p1 : Int32) : Nat → Int32 → Int32 → Option (Int32)
  | 0, _, _ => none
  | n + 1, x2, x3 =>
    if 4 ≤ x3 then (if x2 &&& 1 = x2 then (some (x2)) else none) else ((tw_X7_onward p1 x3).bind (fun q3 => if x2 = 0 then (if q3 = (-9) then ((tw_X7_nearMagnet_4 m_told p1 n) 0 (x3 + 1)) else ((tw_X7_has (m_told (3 : Int32).toNatClampNeg) q3).bind (fun q6 => if q6 = 0 then ((tw_X7_nearMagnet_4 m_told p1 n) 0 (x3 + 1)) else ((tw_X7_nearMagnet_4 m_told p1 n) 1 (x3 + 1))))) else ((tw_X7_nearMagnet_4 m_told p1 n) 1 (x3 + 1))))
def tw_X7_nearMagnet (m_told : Nat → Int32) (p1 : Int32) : Option (Int32) :=
  tw_X7_nearMagnet_4 m_told p1 5 0 0
set_option maxHeartbeats 4000000 in
set_option maxRecDepth 100000 in
theorem c_X7_nearMagnet (l : Launch) (D : va_G) (cy : Cy) (mh : Nat) (m_kindr : Nat) (m_toldr : Nat) (m_nowr : Nat) (m_readToldr : Nat) (m_readCellr : Nat) (m_readKindr : Nat) (m_textr : Nat) (m_rowr : Nat) (m_seenCellr : Nat) (m_seenWayr : Nat) (m_seenCamer : Nat) (m_isKeptr : Nat) (m_keptr : Nat) (m_marbles : Int32) (m_kind : Nat → Int32) (m_told : Nat → Int32) (m_now : Nat → Int32) (m_readTold : Nat → Int32) (m_readCell : Nat → Int32) (m_readKind : Nat → Int32) (m_text : Nat → Int32) (m_length : Int32) (m_at : Int32) (m_faultAt : Int32) (m_there : Int32) (m_stopped : Int32) (m_acts : Int32) (m_next : Int32) (m_row : Nat → Int32) (m_bestRow : Int32) (m_seen : Int32) (m_seenCell : Nat → Int32) (m_seenWay : Nat → Int32) (m_seenCame : Nat → Int32) (m_seed : Int64) (m_isKept : Nat → Int32) (m_kept : Nat → Int32) (p1 : Int32) (res : Int32) (h : tw_X7_nearMagnet m_told p1 = some res) : Ct l yX7_nearMagnet wsX7_nearMagnet 1 21 D cy [.ref mh, .int p1] (cMd mh m_kindr m_toldr m_nowr m_readToldr m_readCellr m_readKindr m_textr m_rowr m_seenCellr m_seenWayr m_seenCamer m_isKeptr m_keptr cy.1 cy.2.2.1 m_marbles m_kind m_told m_now m_readTold m_readCell m_readKind m_text m_length m_at m_faultAt m_there m_stopped m_acts m_next m_row m_bestRow m_seen m_seenCell m_seenWay m_seenCame m_seed m_isKept m_kept) (cMd mh m_kindr m_toldr m_nowr m_readToldr m_readCellr m_readKindr m_textr m_rowr m_seenCellr m_seenWayr m_seenCamer m_isKeptr m_keptr cy.1 cy.2.2.1 m_marbles m_kind m_told m_now m_readTold m_readCell m_readKind m_text m_length m_at m_faultAt m_there m_stopped m_acts m_next m_row m_bestRow m_seen m_seenCell m_seenWay m_seenCame m_seed m_isKept m_kept) (some (.int res)) := by
  refine Ct.ofW (cc := cX7_nearMagnet) (maxL := 5) (ret := (some .boolean)) (by decide) rfl (Nat.le_of_ble_eq_true rfl) ?_
  intro p e R s m args below meth c A Q ls hRf hRl hQ hx hb hr hml hts hown hlocks hE hP hD hS hA hl
  have hiX7 : ∀ w ∈ u_ws RX7 TX7 24, w ∈ wsX7_nearMagnet := by decide +kernel
  have hl : lv_has ls 5 [(0, .ref mh), (1, .int p1)] := hl
  rw [tw_X7_nearMagnet] at h
  have L4 : ∀ (n : Nat) (x2 : Int32) (x3 : Int32)  (H : Heap) (locs : List Loc) (ls : Array Slot), lv_has ls 5 [(0, .ref mh), (1, .int p1), (2, .int x2), (3, .int x3)] → va_P D vwCl (cMd mh m_kindr m_toldr m_nowr m_readToldr m_readCellr m_readKindr m_textr m_rowr m_seenCellr m_seenWayr m_seenCamer m_isKeptr m_keptr cy.1 cy.2.2.1 m_marbles m_kind m_told m_now m_readTold m_readCell m_readKind m_text m_length m_at m_faultAt m_there m_stopped m_acts m_next m_row m_bestRow m_seen m_seenCell m_seenWay m_seenCame m_seed m_isKept m_kept) H → va_D A (cMd mh m_kindr m_toldr m_nowr m_readToldr m_readCellr m_readKindr m_textr m_rowr m_seenCellr m_seenWayr m_seenCamer m_isKeptr m_keptr cy.1 cy.2.2.1 m_marbles m_kind m_told m_now m_readTold m_readCell m_readKind m_text m_length m_at m_faultAt m_there m_stopped m_acts m_next m_row m_bestRow m_seen m_seenCell m_seenWay m_seenCame m_seed m_isKept m_kept) → va_S A s.heap H locs → tw_X7_nearMagnet_4 m_told p1 n x2 x3 = some res → W p l e R s m args below meth c H locs 0 0 Q (F0 m 4 ls []) := by
    intro n4
    induction n4 with
    | zero =>
      intro x2 x3  H locs ls hl hP hD hS h
      exact absurd h (by rw [tw_X7_nearMagnet_4]; exact fun q => by cases q)
    | succ n4 ih4 =>
      intro x2 x3  H locs ls hl hP hD hS h
      rw [tw_X7_nearMagnet_4] at h
      refine lv_iload_n hx hb dX7_nearMagnet_4 rfl (lv_at hl 3 rfl) ?_
      refine lv_iconst (v := 4) hx hb dX7_nearMagnet_5 (by decide) ?_
      refine lv_icmp_ge (tgt := 53) hx hb dX7_nearMagnet_6 (by decide) (fun c1 => ?_) (fun c1 => ?_)
      · have h := oit h c1
        refine lv_iload_n hx hb dX7_nearMagnet_53 rfl (lv_at hl 2 rfl) ?_
        obtain ⟨g2, h⟩ := og h
        obtain rfl := Option.some.inj h
        rw [hQ]; exact ct_zret hx hb hr hlocks (nar_z g2) hP hS rfl dX7_nearMagnet_54
      · have h := oif h c1
        refine lv_iload_n hx hb dX7_nearMagnet_9 rfl (lv_at hl 1 rfl) ?_
        refine lv_iload_n hx hb dX7_nearMagnet_10 rfl (lv_at hl 3 rfl) ?_
        obtain ⟨q3, hq3, h⟩ := ob h
        refine kS (As := [.int p1, .int x3]) (rest := []) (w2 := cMd mh m_kindr m_toldr m_nowr m_readToldr m_readCellr m_readKindr m_textr m_rowr m_seenCellr m_seenWayr m_seenCamer m_isKeptr m_keptr cy.1 cy.2.2.1 m_marbles m_kind m_told m_now m_readTold m_readCell m_readKind m_text m_length m_at m_faultAt m_there m_stopped m_acts m_next m_row m_bestRow m_seen m_seenCell m_seenWay m_seenCame m_seed m_isKept m_kept) (n := 2) ⟨hx, hb, hml, hown, hts⟩ (c_X7_onward l D cy p1 x3 q3 hq3) gX7_nearMagnet_X7_onward rfl (by decide +kernel) ⟨by rw [hRf]; exact Nat.le_of_ble_eq_true rfl, by rw [hRl]; exact Nat.le_of_ble_eq_true rfl⟩ hE hP hD hS hA [] rfl rfl rfl rfl rfl hl.1 rfl (Nat.le_of_ble_eq_true rfl) dX7_nearMagnet_11 ⟨Nat.zero_le _, Nat.zero_le _⟩ (fun H locs hP hD hS => ?_)
        refine lv_istore (lv' := [(4, .int q3), (0, .ref mh), (1, .int p1), (2, .int x2), (3, .int x3)]) hx hb dX7_nearMagnet_14 hl (by decide) rfl (fun ls hl => ?_)
        refine lv_iload_n hx hb dX7_nearMagnet_16 rfl (lv_at hl 3 rfl) ?_
        refine lv_if_ne (tgt := 41) hx hb dX7_nearMagnet_17 (by decide) (fun c4 => ?_) (fun c4 => ?_)
        · have h := oif h c4
          refine lv_iconst (v := 1) hx hb dX7_nearMagnet_41 (by decide) ?_
          refine lv_goto (tgt := 46) hx hb dX7_nearMagnet_42 (by decide) ?_
          refine lv_istore_n (lv' := [(2, .int 1), (4, .int q3), (0, .ref mh), (1, .int p1), (3, .int x3)]) hx hb dX7_nearMagnet_46 rfl hl (by decide) rfl (fun ls hl => ?_)
          refine lv_iinc (v := x3 + 1) (lv' := [(3, .int (x3 + 1)), (2, .int 1), (4, .int q3), (0, .ref mh), (1, .int p1)]) hx hb dX7_nearMagnet_47 hl (k := 4) rfl rfl (by decide) rfl (fun ls hl => ?_)
          refine lv_goto (tgt := 4) hx hb dX7_nearMagnet_50 (by decide) ?_
          exact ih4 1 (x3 + 1) _ _ _ (lv_sub hl [3, 4, 1, 0] rfl) hP hD hS h
        · have h := oit h c4
          refine lv_iload hx hb dX7_nearMagnet_20 (lv_at hl 0 rfl) ?_
          refine lv_bipush (v := (-9)) hx hb dX7_nearMagnet_22 (by decide) ?_
          refine lv_icmp_eq (tgt := 45) hx hb dX7_nearMagnet_24 (by decide) (fun c5 => ?_) (fun c5 => ?_)
          · have h := oit h c5
            refine lv_iconst (v := 0) hx hb dX7_nearMagnet_45 (by decide) ?_
            refine lv_istore_n (lv' := [(2, .int 0), (4, .int q3), (0, .ref mh), (1, .int p1), (3, .int x3)]) hx hb dX7_nearMagnet_46 rfl hl (by decide) rfl (fun ls hl => ?_)
            refine lv_iinc (v := x3 + 1) (lv' := [(3, .int (x3 + 1)), (2, .int 0), (4, .int q3), (0, .ref mh), (1, .int p1)]) hx hb dX7_nearMagnet_47 hl (k := 4) rfl rfl (by decide) rfl (fun ls hl => ?_)
            refine lv_goto (tgt := 4) hx hb dX7_nearMagnet_50 (by decide) ?_
            exact ih4 0 (x3 + 1) _ _ _ (lv_sub hl [3, 4, 1, 0] rfl) hP hD hS h
          · have h := oif h c5
            refine lv_aload_n hx hb dX7_nearMagnet_27 rfl (lv_at hl 1 rfl) ?_
            refine va_get (D := D) (ci := 7) (v := .ref m_toldr) (C := RX7) (T := TX7) (N := 24) hx hb hts hiX7 hown hE.1 hP 0 rfl rfl 2 (by decide) (hts (.fieldLink RX7 13 "TiltTrayModel" "told" "[I") (by decide +kernel)) (fun _ h9 => h9) rfl dX7_nearMagnet_28 ?_
            refine lv_iconst (v := 3) hx hb dX7_nearMagnet_31 (by decide) ?_
            refine va_iald hx hb hE.1 hP 2 0 rfl rfl (ix_in (by decide)) dX7_nearMagnet_32 ?_
            refine lv_iload hx hb dX7_nearMagnet_33 (lv_at hl 0 rfl) ?_
            obtain ⟨q6, hq6, h⟩ := ob h
            refine kS (As := [.int (m_told (3 : Int32).toNatClampNeg), .int q3]) (rest := []) (w2 := cMd mh m_kindr m_toldr m_nowr m_readToldr m_readCellr m_readKindr m_textr m_rowr m_seenCellr m_seenWayr m_seenCamer m_isKeptr m_keptr cy.1 cy.2.2.1 m_marbles m_kind m_told m_now m_readTold m_readCell m_readKind m_text m_length m_at m_faultAt m_there m_stopped m_acts m_next m_row m_bestRow m_seen m_seenCell m_seenWay m_seenCame m_seed m_isKept m_kept) (n := 2) ⟨hx, hb, hml, hown, hts⟩ (c_X7_has l D cy (m_told (3 : Int32).toNatClampNeg) q3 q6 hq6) gX7_nearMagnet_X7_has rfl (by decide +kernel) ⟨by rw [hRf]; exact Nat.le_of_ble_eq_true rfl, by rw [hRl]; exact Nat.le_of_ble_eq_true rfl⟩ hE hP hD hS hA [] rfl rfl rfl rfl rfl hl.1 rfl (Nat.le_of_ble_eq_true rfl) dX7_nearMagnet_35 ⟨Nat.zero_le _, Nat.zero_le _⟩ (fun H locs hP hD hS => ?_)
            refine lv_if_eq (tgt := 45) hx hb dX7_nearMagnet_38 (by decide) (fun c7 => ?_) (fun c7 => ?_)
            · have h := oit h c7
              refine lv_iconst (v := 0) hx hb dX7_nearMagnet_45 (by decide) ?_
              refine lv_istore_n (lv' := [(2, .int 0), (4, .int q3), (0, .ref mh), (1, .int p1), (3, .int x3)]) hx hb dX7_nearMagnet_46 rfl hl (by decide) rfl (fun ls hl => ?_)
              refine lv_iinc (v := x3 + 1) (lv' := [(3, .int (x3 + 1)), (2, .int 0), (4, .int q3), (0, .ref mh), (1, .int p1)]) hx hb dX7_nearMagnet_47 hl (k := 4) rfl rfl (by decide) rfl (fun ls hl => ?_)
              refine lv_goto (tgt := 4) hx hb dX7_nearMagnet_50 (by decide) ?_
              exact ih4 0 (x3 + 1) _ _ _ (lv_sub hl [3, 4, 1, 0] rfl) hP hD hS h
            · have h := oif h c7
              refine lv_iconst (v := 1) hx hb dX7_nearMagnet_41 (by decide) ?_
              refine lv_goto (tgt := 46) hx hb dX7_nearMagnet_42 (by decide) ?_
              refine lv_istore_n (lv' := [(2, .int 1), (4, .int q3), (0, .ref mh), (1, .int p1), (3, .int x3)]) hx hb dX7_nearMagnet_46 rfl hl (by decide) rfl (fun ls hl => ?_)
              refine lv_iinc (v := x3 + 1) (lv' := [(3, .int (x3 + 1)), (2, .int 1), (4, .int q3), (0, .ref mh), (1, .int p1)]) hx hb dX7_nearMagnet_47 hl (k := 4) rfl rfl (by decide) rfl (fun ls hl => ?_)
              refine lv_goto (tgt := 4) hx hb dX7_nearMagnet_50 (by decide) ?_
              exact ih4 1 (x3 + 1) _ _ _ (lv_sub hl [3, 4, 1, 0] rfl) hP hD hS h
  refine lv_iconst (v := 0) hx hb dX7_nearMagnet_0 (by decide) ?_
  refine lv_istore_n (lv' := [(2, .int 0), (0, .ref mh), (1, .int p1)]) hx hb dX7_nearMagnet_1 rfl hl (by decide) rfl (fun ls hl => ?_)
  refine lv_iconst (v := 0) hx hb dX7_nearMagnet_2 (by decide) ?_
  refine lv_istore_n (lv' := [(3, .int 0), (2, .int 0), (0, .ref mh), (1, .int p1)]) hx hb dX7_nearMagnet_3 rfl hl (by decide) rfl (fun ls hl => ?_)
  exact L4 5 0 0 _ _ _ (lv_sub hl [2, 3, 1, 0] rfl) hP hD hS h

def tw_X7_isThere (m_now : Nat → Int32) (m_there : Int32) (p1 : Int32) (p2 : Int32) : Option (Int32) :=
  (tw_X7_has m_there p2).bind (fun q1 => if q1 = 0 then (some (0)) else (if ix ((7 * p1) + p2) 14 = true then (if 100 ≤ (m_now ((7 * p1) + p2).toNatClampNeg) then (some (0)) else (some (1))) else none))
set_option maxHeartbeats 4000000 in
set_option maxRecDepth 100000 in
theorem c_X7_isThere (l : Launch) (D : va_G) (cy : Cy) (mh : Nat) (m_kindr : Nat) (m_toldr : Nat) (m_nowr : Nat) (m_readToldr : Nat) (m_readCellr : Nat) (m_readKindr : Nat) (m_textr : Nat) (m_rowr : Nat) (m_seenCellr : Nat) (m_seenWayr : Nat) (m_seenCamer : Nat) (m_isKeptr : Nat) (m_keptr : Nat) (m_marbles : Int32) (m_kind : Nat → Int32) (m_told : Nat → Int32) (m_now : Nat → Int32) (m_readTold : Nat → Int32) (m_readCell : Nat → Int32) (m_readKind : Nat → Int32) (m_text : Nat → Int32) (m_length : Int32) (m_at : Int32) (m_faultAt : Int32) (m_there : Int32) (m_stopped : Int32) (m_acts : Int32) (m_next : Int32) (m_row : Nat → Int32) (m_bestRow : Int32) (m_seen : Int32) (m_seenCell : Nat → Int32) (m_seenWay : Nat → Int32) (m_seenCame : Nat → Int32) (m_seed : Int64) (m_isKept : Nat → Int32) (m_kept : Nat → Int32) (p1 : Int32) (p2 : Int32) (res : Int32) (h : tw_X7_isThere m_now m_there p1 p2 = some res) : Ct l yX7_isThere wsX7_isThere 1 21 D cy [.ref mh, .int p1, .int p2] (cMd mh m_kindr m_toldr m_nowr m_readToldr m_readCellr m_readKindr m_textr m_rowr m_seenCellr m_seenWayr m_seenCamer m_isKeptr m_keptr cy.1 cy.2.2.1 m_marbles m_kind m_told m_now m_readTold m_readCell m_readKind m_text m_length m_at m_faultAt m_there m_stopped m_acts m_next m_row m_bestRow m_seen m_seenCell m_seenWay m_seenCame m_seed m_isKept m_kept) (cMd mh m_kindr m_toldr m_nowr m_readToldr m_readCellr m_readKindr m_textr m_rowr m_seenCellr m_seenWayr m_seenCamer m_isKeptr m_keptr cy.1 cy.2.2.1 m_marbles m_kind m_told m_now m_readTold m_readCell m_readKind m_text m_length m_at m_faultAt m_there m_stopped m_acts m_next m_row m_bestRow m_seen m_seenCell m_seenWay m_seenCame m_seed m_isKept m_kept) (some (.int res)) := by
  refine Ct.ofW (cc := cX7_isThere) (maxL := 3) (ret := (some .boolean)) (by decide) rfl (Nat.le_of_ble_eq_true rfl) ?_
  intro p e R s m args below meth c A Q ls hRf hRl hQ hx hb hr hml hts hown hlocks hE hP hD hS hA hl
  have hiX7 : ∀ w ∈ u_ws RX7 TX7 24, w ∈ wsX7_isThere := by decide +kernel
  have hl : lv_has ls 3 [(0, .ref mh), (1, .int p1), (2, .int p2)] := hl
  rw [tw_X7_isThere] at h
  refine lv_aload_n hx hb dX7_isThere_0 rfl (lv_at hl 0 rfl) ?_
  refine va_get (D := D) (ci := 7) (v := .int m_there) (C := RX7) (T := TX7) (N := 24) hx hb hts hiX7 hown hE.1 hP 0 rfl rfl 11 (by decide) (hts (.fieldLink RX7 31 "TiltTrayModel" "there" "I") (by decide +kernel)) (fun _ h9 => h9) rfl dX7_isThere_1 ?_
  refine lv_iload_n hx hb dX7_isThere_4 rfl (lv_at hl 2 rfl) ?_
  obtain ⟨q1, hq1, h⟩ := ob h
  refine kS (As := [.int m_there, .int p2]) (rest := []) (w2 := cMd mh m_kindr m_toldr m_nowr m_readToldr m_readCellr m_readKindr m_textr m_rowr m_seenCellr m_seenWayr m_seenCamer m_isKeptr m_keptr cy.1 cy.2.2.1 m_marbles m_kind m_told m_now m_readTold m_readCell m_readKind m_text m_length m_at m_faultAt m_there m_stopped m_acts m_next m_row m_bestRow m_seen m_seenCell m_seenWay m_seenCame m_seed m_isKept m_kept) (n := 2) ⟨hx, hb, hml, hown, hts⟩ (c_X7_has l D cy m_there p2 q1 hq1) gX7_isThere_X7_has rfl (by decide +kernel) ⟨by rw [hRf]; exact Nat.le_of_ble_eq_true rfl, by rw [hRl]; exact Nat.le_of_ble_eq_true rfl⟩ hE hP hD hS hA [] rfl rfl rfl rfl rfl hl.1 rfl (Nat.le_of_ble_eq_true rfl) dX7_isThere_5 ⟨Nat.zero_le _, Nat.zero_le _⟩ (fun H locs hP hD hS => ?_)
  refine lv_if_eq (tgt := 31) hx hb dX7_isThere_8 (by decide) (fun c2 => ?_) (fun c2 => ?_)
  · have h := oit h c2
    refine lv_iconst (v := 0) hx hb dX7_isThere_31 (by decide) ?_
    obtain rfl := Option.some.inj h
    rw [hQ]; exact ct_zret hx hb hr hlocks rfl hP hS rfl dX7_isThere_32
  · have h := oif h c2
    refine lv_aload_n hx hb dX7_isThere_11 rfl (lv_at hl 0 rfl) ?_
    refine va_get (D := D) (ci := 7) (v := .ref m_nowr) (C := RX7) (T := TX7) (N := 24) hx hb hts hiX7 hown hE.1 hP 0 rfl rfl 3 (by decide) (hts (.fieldLink RX7 16 "TiltTrayModel" "now" "[I") (by decide +kernel)) (fun _ h9 => h9) rfl dX7_isThere_12 ?_
    refine lv_bipush (v := 7) hx hb dX7_isThere_15 (by decide) ?_
    refine lv_iload_n hx hb dX7_isThere_17 rfl (lv_at hl 1 rfl) ?_
    refine lv_imul hx hb dX7_isThere_18 ?_
    refine lv_iload_n hx hb dX7_isThere_19 rfl (lv_at hl 2 rfl) ?_
    refine lv_iadd hx hb dX7_isThere_20 ?_
    obtain ⟨g3, h⟩ := og h
    refine va_iald hx hb hE.1 hP 3 0 rfl rfl (ix_in g3) dX7_isThere_21 ?_
    refine lv_bipush (v := 100) hx hb dX7_isThere_22 (by decide) ?_
    refine lv_icmp_ge (tgt := 31) hx hb dX7_isThere_24 (by decide) (fun c4 => ?_) (fun c4 => ?_)
    · have h := oit h c4
      refine lv_iconst (v := 0) hx hb dX7_isThere_31 (by decide) ?_
      obtain rfl := Option.some.inj h
      rw [hQ]; exact ct_zret hx hb hr hlocks rfl hP hS rfl dX7_isThere_32
    · have h := oif h c4
      refine lv_iconst (v := 1) hx hb dX7_isThere_27 (by decide) ?_
      refine lv_goto (tgt := 32) hx hb dX7_isThere_28 (by decide) ?_
      obtain rfl := Option.some.inj h
      rw [hQ]; exact ct_zret hx hb hr hlocks rfl hP hS rfl dX7_isThere_32

def tw_X7_marbleAt_2 (m_marbles : Int32) (m_now : Nat → Int32) (m_there : Int32) (p1 : Int32) (p2 : Int32) : Nat → Int32 → Option (Int32)
  | 0, _ => none
  | n + 1, x3 =>
    if m_marbles ≤ x3 then (some ((-9))) else ((tw_X7_isThere m_now m_there p1 x3).bind (fun q2 => if q2 = 0 then ((tw_X7_marbleAt_2 m_marbles m_now m_there p1 p2 n) (x3 + 1)) else (if ix ((7 * p1) + x3) 14 = true then (if (m_now ((7 * p1) + x3).toNatClampNeg) = p2 then (some (x3)) else ((tw_X7_marbleAt_2 m_marbles m_now m_there p1 p2 n) (x3 + 1))) else none)))
def tw_X7_marbleAt (m_marbles : Int32) (m_now : Nat → Int32) (m_there : Int32) (p1 : Int32) (p2 : Int32) : Option (Int32) :=
  tw_X7_marbleAt_2 m_marbles m_now m_there p1 p2 6 0
set_option maxHeartbeats 4000000 in
set_option maxRecDepth 100000 in
theorem c_X7_marbleAt (l : Launch) (D : va_G) (cy : Cy) (mh : Nat) (m_kindr : Nat) (m_toldr : Nat) (m_nowr : Nat) (m_readToldr : Nat) (m_readCellr : Nat) (m_readKindr : Nat) (m_textr : Nat) (m_rowr : Nat) (m_seenCellr : Nat) (m_seenWayr : Nat) (m_seenCamer : Nat) (m_isKeptr : Nat) (m_keptr : Nat) (m_marbles : Int32) (m_kind : Nat → Int32) (m_told : Nat → Int32) (m_now : Nat → Int32) (m_readTold : Nat → Int32) (m_readCell : Nat → Int32) (m_readKind : Nat → Int32) (m_text : Nat → Int32) (m_length : Int32) (m_at : Int32) (m_faultAt : Int32) (m_there : Int32) (m_stopped : Int32) (m_acts : Int32) (m_next : Int32) (m_row : Nat → Int32) (m_bestRow : Int32) (m_seen : Int32) (m_seenCell : Nat → Int32) (m_seenWay : Nat → Int32) (m_seenCame : Nat → Int32) (m_seed : Int64) (m_isKept : Nat → Int32) (m_kept : Nat → Int32) (p1 : Int32) (p2 : Int32) (res : Int32) (h : tw_X7_marbleAt m_marbles m_now m_there p1 p2 = some res) : Ct l yX7_marbleAt wsX7_marbleAt 2 43 D cy [.ref mh, .int p1, .int p2] (cMd mh m_kindr m_toldr m_nowr m_readToldr m_readCellr m_readKindr m_textr m_rowr m_seenCellr m_seenWayr m_seenCamer m_isKeptr m_keptr cy.1 cy.2.2.1 m_marbles m_kind m_told m_now m_readTold m_readCell m_readKind m_text m_length m_at m_faultAt m_there m_stopped m_acts m_next m_row m_bestRow m_seen m_seenCell m_seenWay m_seenCame m_seed m_isKept m_kept) (cMd mh m_kindr m_toldr m_nowr m_readToldr m_readCellr m_readKindr m_textr m_rowr m_seenCellr m_seenWayr m_seenCamer m_isKeptr m_keptr cy.1 cy.2.2.1 m_marbles m_kind m_told m_now m_readTold m_readCell m_readKind m_text m_length m_at m_faultAt m_there m_stopped m_acts m_next m_row m_bestRow m_seen m_seenCell m_seenWay m_seenCame m_seed m_isKept m_kept) (some (.int res)) := by
  refine Ct.ofW (cc := cX7_marbleAt) (maxL := 4) (ret := (some .int)) (by decide) rfl (Nat.le_of_ble_eq_true rfl) ?_
  intro p e R s m args below meth c A Q ls hRf hRl hQ hx hb hr hml hts hown hlocks hE hP hD hS hA hl
  have hiX7 : ∀ w ∈ u_ws RX7 TX7 24, w ∈ wsX7_marbleAt := by decide +kernel
  have hl : lv_has ls 4 [(0, .ref mh), (1, .int p1), (2, .int p2)] := hl
  rw [tw_X7_marbleAt] at h
  have L2 : ∀ (n : Nat) (x3 : Int32)  (H : Heap) (locs : List Loc) (ls : Array Slot), lv_has ls 4 [(0, .ref mh), (1, .int p1), (2, .int p2), (3, .int x3)] → va_P D vwCl (cMd mh m_kindr m_toldr m_nowr m_readToldr m_readCellr m_readKindr m_textr m_rowr m_seenCellr m_seenWayr m_seenCamer m_isKeptr m_keptr cy.1 cy.2.2.1 m_marbles m_kind m_told m_now m_readTold m_readCell m_readKind m_text m_length m_at m_faultAt m_there m_stopped m_acts m_next m_row m_bestRow m_seen m_seenCell m_seenWay m_seenCame m_seed m_isKept m_kept) H → va_D A (cMd mh m_kindr m_toldr m_nowr m_readToldr m_readCellr m_readKindr m_textr m_rowr m_seenCellr m_seenWayr m_seenCamer m_isKeptr m_keptr cy.1 cy.2.2.1 m_marbles m_kind m_told m_now m_readTold m_readCell m_readKind m_text m_length m_at m_faultAt m_there m_stopped m_acts m_next m_row m_bestRow m_seen m_seenCell m_seenWay m_seenCame m_seed m_isKept m_kept) → va_S A s.heap H locs → tw_X7_marbleAt_2 m_marbles m_now m_there p1 p2 n x3 = some res → W p l e R s m args below meth c H locs 0 0 Q (F0 m 2 ls []) := by
    intro n2
    induction n2 with
    | zero =>
      intro x3  H locs ls hl hP hD hS h
      exact absurd h (by rw [tw_X7_marbleAt_2]; exact fun q => by cases q)
    | succ n2 ih2 =>
      intro x3  H locs ls hl hP hD hS h
      rw [tw_X7_marbleAt_2] at h
      refine lv_iload_n hx hb dX7_marbleAt_2 rfl (lv_at hl 3 rfl) ?_
      refine lv_aload_n hx hb dX7_marbleAt_3 rfl (lv_at hl 0 rfl) ?_
      refine va_get (D := D) (ci := 7) (v := .int m_marbles) (C := RX7) (T := TX7) (N := 24) hx hb hts hiX7 hown hE.1 hP 0 rfl rfl 0 (by decide) (hts (.fieldLink RX7 92 "TiltTrayModel" "marbles" "I") (by decide +kernel)) (fun _ h9 => h9) rfl dX7_marbleAt_4 ?_
      refine lv_icmp_ge (tgt := 42) hx hb dX7_marbleAt_7 (by decide) (fun c1 => ?_) (fun c1 => ?_)
      · have h := oit h c1
        refine lv_bipush (v := (-9)) hx hb dX7_marbleAt_42 (by decide) ?_
        obtain rfl := Option.some.inj h
        rw [hQ]; exact ct_iret hx hb hr hlocks hP hS rfl dX7_marbleAt_44
      · have h := oif h c1
        refine lv_aload_n hx hb dX7_marbleAt_10 rfl (lv_at hl 0 rfl) ?_
        refine lv_iload_n hx hb dX7_marbleAt_11 rfl (lv_at hl 1 rfl) ?_
        refine lv_iload_n hx hb dX7_marbleAt_12 rfl (lv_at hl 3 rfl) ?_
        obtain ⟨q2, hq2, h⟩ := ob h
        refine kV (As := [.int p1, .int x3]) (rest := []) (w2 := cMd mh m_kindr m_toldr m_nowr m_readToldr m_readCellr m_readKindr m_textr m_rowr m_seenCellr m_seenWayr m_seenCamer m_isKeptr m_keptr cy.1 cy.2.2.1 m_marbles m_kind m_told m_now m_readTold m_readCell m_readKind m_text m_length m_at m_faultAt m_there m_stopped m_acts m_next m_row m_bestRow m_seen m_seenCell m_seenWay m_seenCame m_seed m_isKept m_kept) (n := 2) (q0 := 0) ⟨hx, hb, hml, hown, hts⟩ (c_X7_isThere l D cy mh m_kindr m_toldr m_nowr m_readToldr m_readCellr m_readKindr m_textr m_rowr m_seenCellr m_seenWayr m_seenCamer m_isKeptr m_keptr m_marbles m_kind m_told m_now m_readTold m_readCell m_readKind m_text m_length m_at m_faultAt m_there m_stopped m_acts m_next m_row m_bestRow m_seen m_seenCell m_seenWay m_seenCame m_seed m_isKept m_kept p1 x3 q2 hq2) gX7_marbleAt_X7_isThere rfl (by decide +kernel) ⟨by rw [hRf]; exact Nat.le_of_ble_eq_true rfl, by rw [hRl]; exact Nat.le_of_ble_eq_true rfl⟩ hE hP hD hS hA [0, 1, 2, 3, 4, 5, 6, 7, 8, 9, 10, 11, 12, 13] rfl rfl rfl rfl rfl rfl rfl hl.1 rfl (Nat.le_of_ble_eq_true rfl) dX7_marbleAt_13 ⟨Nat.zero_le _, Nat.zero_le _⟩ (fun H locs hP hD hS => ?_)
        refine lv_if_eq (tgt := 36) hx hb dX7_marbleAt_16 (by decide) (fun c3 => ?_) (fun c3 => ?_)
        · have h := oit h c3
          refine lv_iinc (v := x3 + 1) (lv' := [(3, .int (x3 + 1)), (0, .ref mh), (1, .int p1), (2, .int p2)]) hx hb dX7_marbleAt_36 hl (k := 3) rfl rfl (by decide) rfl (fun ls hl => ?_)
          refine lv_goto (tgt := 2) hx hb dX7_marbleAt_39 (by decide) ?_
          exact ih2 (x3 + 1) _ _ _ (lv_sub hl [1, 2, 3, 0] rfl) hP hD hS h
        · have h := oif h c3
          refine lv_aload_n hx hb dX7_marbleAt_19 rfl (lv_at hl 0 rfl) ?_
          refine va_get (D := D) (ci := 7) (v := .ref m_nowr) (C := RX7) (T := TX7) (N := 24) hx hb hts hiX7 hown hE.1 hP 0 rfl rfl 3 (by decide) (hts (.fieldLink RX7 16 "TiltTrayModel" "now" "[I") (by decide +kernel)) (fun _ h9 => h9) rfl dX7_marbleAt_20 ?_
          refine lv_bipush (v := 7) hx hb dX7_marbleAt_23 (by decide) ?_
          refine lv_iload_n hx hb dX7_marbleAt_25 rfl (lv_at hl 1 rfl) ?_
          refine lv_imul hx hb dX7_marbleAt_26 ?_
          refine lv_iload_n hx hb dX7_marbleAt_27 rfl (lv_at hl 3 rfl) ?_
          refine lv_iadd hx hb dX7_marbleAt_28 ?_
          obtain ⟨g4, h⟩ := og h
          refine va_iald hx hb hE.1 hP 3 0 rfl rfl (ix_in g4) dX7_marbleAt_29 ?_
          refine lv_iload_n hx hb dX7_marbleAt_30 rfl (lv_at hl 2 rfl) ?_
          refine lv_icmp_ne (tgt := 36) hx hb dX7_marbleAt_31 (by decide) (fun c5 => ?_) (fun c5 => ?_)
          · have h := oif h c5
            refine lv_iinc (v := x3 + 1) (lv' := [(3, .int (x3 + 1)), (0, .ref mh), (1, .int p1), (2, .int p2)]) hx hb dX7_marbleAt_36 hl (k := 3) rfl rfl (by decide) rfl (fun ls hl => ?_)
            refine lv_goto (tgt := 2) hx hb dX7_marbleAt_39 (by decide) ?_
            exact ih2 (x3 + 1) _ _ _ (lv_sub hl [1, 2, 3, 0] rfl) hP hD hS h
          · have h := oit h c5
            refine lv_iload_n hx hb dX7_marbleAt_34 rfl (lv_at hl 3 rfl) ?_
            obtain rfl := Option.some.inj h
            rw [hQ]; exact ct_iret hx hb hr hlocks hP hS rfl dX7_marbleAt_35
  refine lv_iconst (v := 0) hx hb dX7_marbleAt_0 (by decide) ?_
  refine lv_istore_n (lv' := [(3, .int 0), (0, .ref mh), (1, .int p1), (2, .int p2)]) hx hb dX7_marbleAt_1 rfl hl (by decide) rfl (fun ls hl => ?_)
  exact L2 6 0 _ _ _ (lv_sub hl [1, 2, 3, 0] rfl) hP hD hS h

def tw_X7_canBe (m_marbles : Int32) (m_told : Nat → Int32) (m_now : Nat → Int32) (m_there : Int32) (p1 : Int32) (p2 : Int32) : Option (Int32) :=
  if p2 = (-9) then (some (0)) else (if ix ((7 * p1) + 5) 14 = true then ((tw_X7_has (((m_told (0 : Int32).toNatClampNeg) ||| (m_told (3 : Int32).toNatClampNeg)) ||| (m_now ((7 * p1) + 5).toNatClampNeg)) p2).bind (fun q3 => if q3 = 0 then ((tw_X7_marbleAt m_marbles m_now m_there p1 p2).bind (fun q5 => if q5 = (-9) then (some (1)) else (some (0)))) else (some (0)))) else none)
set_option maxHeartbeats 4000000 in
set_option maxRecDepth 100000 in
theorem c_X7_canBe (l : Launch) (D : va_G) (cy : Cy) (mh : Nat) (m_kindr : Nat) (m_toldr : Nat) (m_nowr : Nat) (m_readToldr : Nat) (m_readCellr : Nat) (m_readKindr : Nat) (m_textr : Nat) (m_rowr : Nat) (m_seenCellr : Nat) (m_seenWayr : Nat) (m_seenCamer : Nat) (m_isKeptr : Nat) (m_keptr : Nat) (m_marbles : Int32) (m_kind : Nat → Int32) (m_told : Nat → Int32) (m_now : Nat → Int32) (m_readTold : Nat → Int32) (m_readCell : Nat → Int32) (m_readKind : Nat → Int32) (m_text : Nat → Int32) (m_length : Int32) (m_at : Int32) (m_faultAt : Int32) (m_there : Int32) (m_stopped : Int32) (m_acts : Int32) (m_next : Int32) (m_row : Nat → Int32) (m_bestRow : Int32) (m_seen : Int32) (m_seenCell : Nat → Int32) (m_seenWay : Nat → Int32) (m_seenCame : Nat → Int32) (m_seed : Int64) (m_isKept : Nat → Int32) (m_kept : Nat → Int32) (p1 : Int32) (p2 : Int32) (res : Int32) (h : tw_X7_canBe m_marbles m_told m_now m_there p1 p2 = some res) : Ct l yX7_canBe wsX7_canBe 3 66 D cy [.ref mh, .int p1, .int p2] (cMd mh m_kindr m_toldr m_nowr m_readToldr m_readCellr m_readKindr m_textr m_rowr m_seenCellr m_seenWayr m_seenCamer m_isKeptr m_keptr cy.1 cy.2.2.1 m_marbles m_kind m_told m_now m_readTold m_readCell m_readKind m_text m_length m_at m_faultAt m_there m_stopped m_acts m_next m_row m_bestRow m_seen m_seenCell m_seenWay m_seenCame m_seed m_isKept m_kept) (cMd mh m_kindr m_toldr m_nowr m_readToldr m_readCellr m_readKindr m_textr m_rowr m_seenCellr m_seenWayr m_seenCamer m_isKeptr m_keptr cy.1 cy.2.2.1 m_marbles m_kind m_told m_now m_readTold m_readCell m_readKind m_text m_length m_at m_faultAt m_there m_stopped m_acts m_next m_row m_bestRow m_seen m_seenCell m_seenWay m_seenCame m_seed m_isKept m_kept) (some (.int res)) := by
  refine Ct.ofW (cc := cX7_canBe) (maxL := 3) (ret := (some .boolean)) (by decide) rfl (Nat.le_of_ble_eq_true rfl) ?_
  intro p e R s m args below meth c A Q ls hRf hRl hQ hx hb hr hml hts hown hlocks hE hP hD hS hA hl
  have hiX7 : ∀ w ∈ u_ws RX7 TX7 24, w ∈ wsX7_canBe := by decide +kernel
  have hl : lv_has ls 3 [(0, .ref mh), (1, .int p1), (2, .int p2)] := hl
  rw [tw_X7_canBe] at h
  refine lv_iload_n hx hb dX7_canBe_0 rfl (lv_at hl 2 rfl) ?_
  refine lv_bipush (v := (-9)) hx hb dX7_canBe_1 (by decide) ?_
  refine lv_icmp_eq (tgt := 53) hx hb dX7_canBe_3 (by decide) (fun c1 => ?_) (fun c1 => ?_)
  · have h := oit h c1
    refine lv_iconst (v := 0) hx hb dX7_canBe_53 (by decide) ?_
    obtain rfl := Option.some.inj h
    rw [hQ]; exact ct_zret hx hb hr hlocks rfl hP hS rfl dX7_canBe_54
  · have h := oif h c1
    refine lv_aload_n hx hb dX7_canBe_6 rfl (lv_at hl 0 rfl) ?_
    refine va_get (D := D) (ci := 7) (v := .ref m_toldr) (C := RX7) (T := TX7) (N := 24) hx hb hts hiX7 hown hE.1 hP 0 rfl rfl 2 (by decide) (hts (.fieldLink RX7 13 "TiltTrayModel" "told" "[I") (by decide +kernel)) (fun _ h9 => h9) rfl dX7_canBe_7 ?_
    refine lv_iconst (v := 0) hx hb dX7_canBe_10 (by decide) ?_
    refine va_iald hx hb hE.1 hP 2 0 rfl rfl (ix_in (by decide)) dX7_canBe_11 ?_
    refine lv_aload_n hx hb dX7_canBe_12 rfl (lv_at hl 0 rfl) ?_
    refine va_get (D := D) (ci := 7) (v := .ref m_toldr) (C := RX7) (T := TX7) (N := 24) hx hb hts hiX7 hown hE.1 hP 0 rfl rfl 2 (by decide) (hts (.fieldLink RX7 13 "TiltTrayModel" "told" "[I") (by decide +kernel)) (fun _ h9 => h9) rfl dX7_canBe_13 ?_
    refine lv_iconst (v := 3) hx hb dX7_canBe_16 (by decide) ?_
    refine va_iald hx hb hE.1 hP 2 0 rfl rfl (ix_in (by decide)) dX7_canBe_17 ?_
    refine lv_ior hx hb dX7_canBe_18 ?_
    refine lv_aload_n hx hb dX7_canBe_19 rfl (lv_at hl 0 rfl) ?_
    refine va_get (D := D) (ci := 7) (v := .ref m_nowr) (C := RX7) (T := TX7) (N := 24) hx hb hts hiX7 hown hE.1 hP 0 rfl rfl 3 (by decide) (hts (.fieldLink RX7 16 "TiltTrayModel" "now" "[I") (by decide +kernel)) (fun _ h9 => h9) rfl dX7_canBe_20 ?_
    refine lv_bipush (v := 7) hx hb dX7_canBe_23 (by decide) ?_
    refine lv_iload_n hx hb dX7_canBe_25 rfl (lv_at hl 1 rfl) ?_
    refine lv_imul hx hb dX7_canBe_26 ?_
    refine lv_iconst (v := 5) hx hb dX7_canBe_27 (by decide) ?_
    refine lv_iadd hx hb dX7_canBe_28 ?_
    obtain ⟨g2, h⟩ := og h
    refine va_iald hx hb hE.1 hP 3 0 rfl rfl (ix_in g2) dX7_canBe_29 ?_
    refine lv_ior hx hb dX7_canBe_30 ?_
    refine lv_iload_n hx hb dX7_canBe_31 rfl (lv_at hl 2 rfl) ?_
    obtain ⟨q3, hq3, h⟩ := ob h
    refine kS (As := [.int (((m_told (0 : Int32).toNatClampNeg) ||| (m_told (3 : Int32).toNatClampNeg)) ||| (m_now ((7 * p1) + 5).toNatClampNeg)), .int p2]) (rest := []) (w2 := cMd mh m_kindr m_toldr m_nowr m_readToldr m_readCellr m_readKindr m_textr m_rowr m_seenCellr m_seenWayr m_seenCamer m_isKeptr m_keptr cy.1 cy.2.2.1 m_marbles m_kind m_told m_now m_readTold m_readCell m_readKind m_text m_length m_at m_faultAt m_there m_stopped m_acts m_next m_row m_bestRow m_seen m_seenCell m_seenWay m_seenCame m_seed m_isKept m_kept) (n := 2) ⟨hx, hb, hml, hown, hts⟩ (c_X7_has l D cy (((m_told (0 : Int32).toNatClampNeg) ||| (m_told (3 : Int32).toNatClampNeg)) ||| (m_now ((7 * p1) + 5).toNatClampNeg)) p2 q3 hq3) gX7_canBe_X7_has rfl (by decide +kernel) ⟨by rw [hRf]; exact Nat.le_of_ble_eq_true rfl, by rw [hRl]; exact Nat.le_of_ble_eq_true rfl⟩ hE hP hD hS hA [] rfl rfl rfl rfl rfl hl.1 rfl (Nat.le_of_ble_eq_true rfl) dX7_canBe_32 ⟨Nat.zero_le _, Nat.zero_le _⟩ (fun H locs hP hD hS => ?_)
    refine lv_if_ne (tgt := 53) hx hb dX7_canBe_35 (by decide) (fun c4 => ?_) (fun c4 => ?_)
    · have h := oif h c4
      refine lv_iconst (v := 0) hx hb dX7_canBe_53 (by decide) ?_
      obtain rfl := Option.some.inj h
      rw [hQ]; exact ct_zret hx hb hr hlocks rfl hP hS rfl dX7_canBe_54
    · have h := oit h c4
      refine lv_aload_n hx hb dX7_canBe_38 rfl (lv_at hl 0 rfl) ?_
      refine lv_iload_n hx hb dX7_canBe_39 rfl (lv_at hl 1 rfl) ?_
      refine lv_iload_n hx hb dX7_canBe_40 rfl (lv_at hl 2 rfl) ?_
      obtain ⟨q5, hq5, h⟩ := ob h
      refine kV (As := [.int p1, .int p2]) (rest := []) (w2 := cMd mh m_kindr m_toldr m_nowr m_readToldr m_readCellr m_readKindr m_textr m_rowr m_seenCellr m_seenWayr m_seenCamer m_isKeptr m_keptr cy.1 cy.2.2.1 m_marbles m_kind m_told m_now m_readTold m_readCell m_readKind m_text m_length m_at m_faultAt m_there m_stopped m_acts m_next m_row m_bestRow m_seen m_seenCell m_seenWay m_seenCame m_seed m_isKept m_kept) (n := 2) (q0 := 0) ⟨hx, hb, hml, hown, hts⟩ (c_X7_marbleAt l D cy mh m_kindr m_toldr m_nowr m_readToldr m_readCellr m_readKindr m_textr m_rowr m_seenCellr m_seenWayr m_seenCamer m_isKeptr m_keptr m_marbles m_kind m_told m_now m_readTold m_readCell m_readKind m_text m_length m_at m_faultAt m_there m_stopped m_acts m_next m_row m_bestRow m_seen m_seenCell m_seenWay m_seenCame m_seed m_isKept m_kept p1 p2 q5 hq5) gX7_canBe_X7_marbleAt rfl (by decide +kernel) ⟨by rw [hRf]; exact Nat.le_of_ble_eq_true rfl, by rw [hRl]; exact Nat.le_of_ble_eq_true rfl⟩ hE hP hD hS hA [0, 1, 2, 3, 4, 5, 6, 7, 8, 9, 10, 11, 12, 13] rfl rfl rfl rfl rfl rfl rfl hl.1 rfl (Nat.le_of_ble_eq_true rfl) dX7_canBe_41 ⟨Nat.zero_le _, Nat.zero_le _⟩ (fun H locs hP hD hS => ?_)
      refine lv_bipush (v := (-9)) hx hb dX7_canBe_44 (by decide) ?_
      refine lv_icmp_ne (tgt := 53) hx hb dX7_canBe_46 (by decide) (fun c6 => ?_) (fun c6 => ?_)
      · have h := oif h c6
        refine lv_iconst (v := 0) hx hb dX7_canBe_53 (by decide) ?_
        obtain rfl := Option.some.inj h
        rw [hQ]; exact ct_zret hx hb hr hlocks rfl hP hS rfl dX7_canBe_54
      · have h := oit h c6
        refine lv_iconst (v := 1) hx hb dX7_canBe_49 (by decide) ?_
        refine lv_goto (tgt := 54) hx hb dX7_canBe_50 (by decide) ?_
        obtain rfl := Option.some.inj h
        rw [hQ]; exact ct_zret hx hb hr hlocks rfl hP hS rfl dX7_canBe_54

def tw_X7_isOpen (m_told : Nat → Int32) (m_now : Nat → Int32) (p1 : Int32) (p2 : Int32) : Option (Int32) :=
  (tw_X7_has (m_told (1 : Int32).toNatClampNeg) p2).bind (fun q1 => if q1 = 0 then (some (0)) else (if ix ((7 * p1) + 4) 14 = true then ((tw_X7_has (m_now ((7 * p1) + 4).toNatClampNeg) p2).bind (fun q4 => if q4 = 0 then (some (1)) else (some (0)))) else none))
set_option maxHeartbeats 4000000 in
set_option maxRecDepth 100000 in
theorem c_X7_isOpen (l : Launch) (D : va_G) (cy : Cy) (mh : Nat) (m_kindr : Nat) (m_toldr : Nat) (m_nowr : Nat) (m_readToldr : Nat) (m_readCellr : Nat) (m_readKindr : Nat) (m_textr : Nat) (m_rowr : Nat) (m_seenCellr : Nat) (m_seenWayr : Nat) (m_seenCamer : Nat) (m_isKeptr : Nat) (m_keptr : Nat) (m_marbles : Int32) (m_kind : Nat → Int32) (m_told : Nat → Int32) (m_now : Nat → Int32) (m_readTold : Nat → Int32) (m_readCell : Nat → Int32) (m_readKind : Nat → Int32) (m_text : Nat → Int32) (m_length : Int32) (m_at : Int32) (m_faultAt : Int32) (m_there : Int32) (m_stopped : Int32) (m_acts : Int32) (m_next : Int32) (m_row : Nat → Int32) (m_bestRow : Int32) (m_seen : Int32) (m_seenCell : Nat → Int32) (m_seenWay : Nat → Int32) (m_seenCame : Nat → Int32) (m_seed : Int64) (m_isKept : Nat → Int32) (m_kept : Nat → Int32) (p1 : Int32) (p2 : Int32) (res : Int32) (h : tw_X7_isOpen m_told m_now p1 p2 = some res) : Ct l yX7_isOpen wsX7_isOpen 1 21 D cy [.ref mh, .int p1, .int p2] (cMd mh m_kindr m_toldr m_nowr m_readToldr m_readCellr m_readKindr m_textr m_rowr m_seenCellr m_seenWayr m_seenCamer m_isKeptr m_keptr cy.1 cy.2.2.1 m_marbles m_kind m_told m_now m_readTold m_readCell m_readKind m_text m_length m_at m_faultAt m_there m_stopped m_acts m_next m_row m_bestRow m_seen m_seenCell m_seenWay m_seenCame m_seed m_isKept m_kept) (cMd mh m_kindr m_toldr m_nowr m_readToldr m_readCellr m_readKindr m_textr m_rowr m_seenCellr m_seenWayr m_seenCamer m_isKeptr m_keptr cy.1 cy.2.2.1 m_marbles m_kind m_told m_now m_readTold m_readCell m_readKind m_text m_length m_at m_faultAt m_there m_stopped m_acts m_next m_row m_bestRow m_seen m_seenCell m_seenWay m_seenCame m_seed m_isKept m_kept) (some (.int res)) := by
  refine Ct.ofW (cc := cX7_isOpen) (maxL := 3) (ret := (some .boolean)) (by decide) rfl (Nat.le_of_ble_eq_true rfl) ?_
  intro p e R s m args below meth c A Q ls hRf hRl hQ hx hb hr hml hts hown hlocks hE hP hD hS hA hl
  have hiX7 : ∀ w ∈ u_ws RX7 TX7 24, w ∈ wsX7_isOpen := by decide +kernel
  have hl : lv_has ls 3 [(0, .ref mh), (1, .int p1), (2, .int p2)] := hl
  rw [tw_X7_isOpen] at h
  refine lv_aload_n hx hb dX7_isOpen_0 rfl (lv_at hl 0 rfl) ?_
  refine va_get (D := D) (ci := 7) (v := .ref m_toldr) (C := RX7) (T := TX7) (N := 24) hx hb hts hiX7 hown hE.1 hP 0 rfl rfl 2 (by decide) (hts (.fieldLink RX7 13 "TiltTrayModel" "told" "[I") (by decide +kernel)) (fun _ h9 => h9) rfl dX7_isOpen_1 ?_
  refine lv_iconst (v := 1) hx hb dX7_isOpen_4 (by decide) ?_
  refine va_iald hx hb hE.1 hP 2 0 rfl rfl (ix_in (by decide)) dX7_isOpen_5 ?_
  refine lv_iload_n hx hb dX7_isOpen_6 rfl (lv_at hl 2 rfl) ?_
  obtain ⟨q1, hq1, h⟩ := ob h
  refine kS (As := [.int (m_told (1 : Int32).toNatClampNeg), .int p2]) (rest := []) (w2 := cMd mh m_kindr m_toldr m_nowr m_readToldr m_readCellr m_readKindr m_textr m_rowr m_seenCellr m_seenWayr m_seenCamer m_isKeptr m_keptr cy.1 cy.2.2.1 m_marbles m_kind m_told m_now m_readTold m_readCell m_readKind m_text m_length m_at m_faultAt m_there m_stopped m_acts m_next m_row m_bestRow m_seen m_seenCell m_seenWay m_seenCame m_seed m_isKept m_kept) (n := 2) ⟨hx, hb, hml, hown, hts⟩ (c_X7_has l D cy (m_told (1 : Int32).toNatClampNeg) p2 q1 hq1) gX7_isOpen_X7_has rfl (by decide +kernel) ⟨by rw [hRf]; exact Nat.le_of_ble_eq_true rfl, by rw [hRl]; exact Nat.le_of_ble_eq_true rfl⟩ hE hP hD hS hA [] rfl rfl rfl rfl rfl hl.1 rfl (Nat.le_of_ble_eq_true rfl) dX7_isOpen_7 ⟨Nat.zero_le _, Nat.zero_le _⟩ (fun H locs hP hD hS => ?_)
  refine lv_if_eq (tgt := 35) hx hb dX7_isOpen_10 (by decide) (fun c2 => ?_) (fun c2 => ?_)
  · have h := oit h c2
    refine lv_iconst (v := 0) hx hb dX7_isOpen_35 (by decide) ?_
    obtain rfl := Option.some.inj h
    rw [hQ]; exact ct_zret hx hb hr hlocks rfl hP hS rfl dX7_isOpen_36
  · have h := oif h c2
    refine lv_aload_n hx hb dX7_isOpen_13 rfl (lv_at hl 0 rfl) ?_
    refine va_get (D := D) (ci := 7) (v := .ref m_nowr) (C := RX7) (T := TX7) (N := 24) hx hb hts hiX7 hown hE.1 hP 0 rfl rfl 3 (by decide) (hts (.fieldLink RX7 16 "TiltTrayModel" "now" "[I") (by decide +kernel)) (fun _ h9 => h9) rfl dX7_isOpen_14 ?_
    refine lv_bipush (v := 7) hx hb dX7_isOpen_17 (by decide) ?_
    refine lv_iload_n hx hb dX7_isOpen_19 rfl (lv_at hl 1 rfl) ?_
    refine lv_imul hx hb dX7_isOpen_20 ?_
    refine lv_iconst (v := 4) hx hb dX7_isOpen_21 (by decide) ?_
    refine lv_iadd hx hb dX7_isOpen_22 ?_
    obtain ⟨g3, h⟩ := og h
    refine va_iald hx hb hE.1 hP 3 0 rfl rfl (ix_in g3) dX7_isOpen_23 ?_
    refine lv_iload_n hx hb dX7_isOpen_24 rfl (lv_at hl 2 rfl) ?_
    obtain ⟨q4, hq4, h⟩ := ob h
    refine kS (As := [.int (m_now ((7 * p1) + 4).toNatClampNeg), .int p2]) (rest := []) (w2 := cMd mh m_kindr m_toldr m_nowr m_readToldr m_readCellr m_readKindr m_textr m_rowr m_seenCellr m_seenWayr m_seenCamer m_isKeptr m_keptr cy.1 cy.2.2.1 m_marbles m_kind m_told m_now m_readTold m_readCell m_readKind m_text m_length m_at m_faultAt m_there m_stopped m_acts m_next m_row m_bestRow m_seen m_seenCell m_seenWay m_seenCame m_seed m_isKept m_kept) (n := 2) ⟨hx, hb, hml, hown, hts⟩ (c_X7_has l D cy (m_now ((7 * p1) + 4).toNatClampNeg) p2 q4 hq4) gX7_isOpen_X7_has rfl (by decide +kernel) ⟨by rw [hRf]; exact Nat.le_of_ble_eq_true rfl, by rw [hRl]; exact Nat.le_of_ble_eq_true rfl⟩ hE hP hD hS hA [] rfl rfl rfl rfl rfl hl.1 rfl (Nat.le_of_ble_eq_true rfl) dX7_isOpen_25 ⟨Nat.zero_le _, Nat.zero_le _⟩ (fun H locs hP hD hS => ?_)
    refine lv_if_ne (tgt := 35) hx hb dX7_isOpen_28 (by decide) (fun c5 => ?_) (fun c5 => ?_)
    · have h := oif h c5
      refine lv_iconst (v := 0) hx hb dX7_isOpen_35 (by decide) ?_
      obtain rfl := Option.some.inj h
      rw [hQ]; exact ct_zret hx hb hr hlocks rfl hP hS rfl dX7_isOpen_36
    · have h := oit h c5
      refine lv_iconst (v := 1) hx hb dX7_isOpen_31 (by decide) ?_
      refine lv_goto (tgt := 36) hx hb dX7_isOpen_32 (by decide) ?_
      obtain rfl := Option.some.inj h
      rw [hQ]; exact ct_zret hx hb hr hlocks rfl hP hS rfl dX7_isOpen_36

def tw_X7_roll_200 (m_marbles : Int32) (m_kind : Nat → Int32) (m_told : Nat → Int32) (m_there : Int32) (p1 : Int32) (p2 : Int32) (p3 : Int32) (z1 : Int32) (z2 : Int32) (m_now : Nat → Int32) (m_stopped : Int32) : Option (Int32 × (Nat → Int32) × Int32) :=
  some (1, m_now, z1 ||| z2)
def tw_X7_roll_181 (m_marbles : Int32) (m_kind : Nat → Int32) (m_told : Nat → Int32) (m_there : Int32) (p1 : Int32) (p2 : Int32) (p3 : Int32) (z0 : Int32) (m_now : Nat → Int32) (m_stopped : Int32) : Option (Int32 × (Nat → Int32) × Int32) :=
  if z0 = 0 then (tw_X7_roll_200 m_marbles m_kind m_told m_there p1 p2 p3 m_stopped 0 m_now m_stopped) else (tw_X7_roll_200 m_marbles m_kind m_told m_there p1 p2 p3 m_stopped (1 <<< (p2 &&& 31)) m_now m_stopped)
def tw_X7_roll_180 (m_marbles : Int32) (m_kind : Nat → Int32) (m_told : Nat → Int32) (m_there : Int32) (p1 : Int32) (p2 : Int32) (p3 : Int32) (m_now : Nat → Int32) (m_stopped : Int32) : Option (Int32 × (Nat → Int32) × Int32) :=
  tw_X7_roll_181 m_marbles m_kind m_told m_there p1 p2 p3 0 m_now m_stopped
def tw_X7_roll_176 (m_marbles : Int32) (m_kind : Nat → Int32) (m_told : Nat → Int32) (m_there : Int32) (p1 : Int32) (p2 : Int32) (p3 : Int32) (m_now : Nat → Int32) (m_stopped : Int32) : Option (Int32 × (Nat → Int32) × Int32) :=
  tw_X7_roll_181 m_marbles m_kind m_told m_there p1 p2 p3 1 m_now m_stopped
def tw_X7_roll_157 (m_marbles : Int32) (m_kind : Nat → Int32) (m_told : Nat → Int32) (m_there : Int32) (p1 : Int32) (p2 : Int32) (p3 : Int32) (x5 : Int32) (m_now : Nat → Int32) (m_stopped : Int32) : Option (Int32 × (Nat → Int32) × Int32) :=
  if ix p2 4 = true then (if (m_kind p2.toNatClampNeg) = 1 then ((tw_X7_nearMagnet m_told x5).bind (fun q4 => if q4 = 0 then (tw_X7_roll_180 m_marbles m_kind m_told m_there p1 p2 p3 m_now m_stopped) else (tw_X7_roll_176 m_marbles m_kind m_told m_there p1 p2 p3 m_now m_stopped))) else (tw_X7_roll_180 m_marbles m_kind m_told m_there p1 p2 p3 m_now m_stopped)) else none
def tw_X7_roll_54 (m_marbles : Int32) (m_kind : Nat → Int32) (m_told : Nat → Int32) (m_there : Int32) (p1 : Int32) (p2 : Int32) (p3 : Int32) (x4 : Int32) (z0 : Int32) (z1 : Int32) (m_now : Nat → Int32) (m_stopped : Int32) : Option (Int32 × (Nat → Int32) × Int32) :=
  (tw_X7_onward z0 z1).bind (fun q6 => (tw_X7_canBe m_marbles m_told m_now m_there p1 q6).bind (fun q7 => if q7 = 0 then (some (0, m_now, m_stopped)) else ((tw_X7_isOpen m_told m_now p1 q6).bind (fun q9 => if q9 = 0 then (if ix (x4 + p2) 14 = true then (if ix p2 4 = true then (if (m_kind p2.toNatClampNeg) = 2 then (tw_X7_roll_176 m_marbles m_kind m_told m_there p1 p2 p3 (upd m_now (x4 + p2).toNatClampNeg q6) m_stopped) else (if ix p2 4 = true then (if (m_kind p2.toNatClampNeg) = 0 then (tw_X7_roll_157 m_marbles m_kind m_told m_there p1 p2 p3 q6 (upd m_now (x4 + p2).toNatClampNeg q6) m_stopped) else ((tw_X7_has (m_told (2 : Int32).toNatClampNeg) q6).bind (fun q16 => if q16 = 0 then (tw_X7_roll_157 m_marbles m_kind m_told m_there p1 p2 p3 q6 (upd m_now (x4 + p2).toNatClampNeg q6) m_stopped) else (tw_X7_roll_176 m_marbles m_kind m_told m_there p1 p2 p3 (upd m_now (x4 + p2).toNatClampNeg q6) m_stopped)))) else none)) else none) else none) else (if ix (x4 + p2) 14 = true then (if ix (x4 + 4) 14 = true then (if ix (x4 + 4) 14 = true then (some (1, upd (upd m_now (x4 + p2).toNatClampNeg (100 + q6)) (x4 + 4).toNatClampNeg (((upd m_now (x4 + p2).toNatClampNeg (100 + q6)) (x4 + 4).toNatClampNeg) ||| (1 <<< (q6 &&& 31))), m_stopped)) else none) else none) else none)))))
def tw_X7_roll (m_marbles : Int32) (m_kind : Nat → Int32) (m_told : Nat → Int32) (m_now : Nat → Int32) (m_there : Int32) (m_stopped : Int32) (p1 : Int32) (p2 : Int32) (p3 : Int32) : Option (Int32 × (Nat → Int32) × Int32) :=
  (tw_X7_isThere m_now m_there p1 p2).bind (fun q21 => if q21 = 0 then (some (0, m_now, m_stopped)) else ((tw_X7_has m_stopped p2).bind (fun q23 => if q23 = 0 then (if ix ((7 * p1) + p2) 14 = true then (if ix p2 4 = true then (if (m_kind p2.toNatClampNeg) = 3 then (tw_X7_roll_54 m_marbles m_kind m_told m_there p1 p2 p3 (7 * p1) (m_now ((7 * p1) + p2).toNatClampNeg) (p3 ^^^ 1) m_now m_stopped) else (tw_X7_roll_54 m_marbles m_kind m_told m_there p1 p2 p3 (7 * p1) (m_now ((7 * p1) + p2).toNatClampNeg) p3 m_now m_stopped)) else none) else none) else (some (0, m_now, m_stopped)))))
set_option maxHeartbeats 4000000 in
set_option maxRecDepth 100000 in
theorem c_X7_roll (l : Launch) (D : va_G) (cy : Cy) (mh : Nat) (m_kindr : Nat) (m_toldr : Nat) (m_nowr : Nat) (m_readToldr : Nat) (m_readCellr : Nat) (m_readKindr : Nat) (m_textr : Nat) (m_rowr : Nat) (m_seenCellr : Nat) (m_seenWayr : Nat) (m_seenCamer : Nat) (m_isKeptr : Nat) (m_keptr : Nat) (m_marbles : Int32) (m_kind : Nat → Int32) (m_told : Nat → Int32) (m_now : Nat → Int32) (m_readTold : Nat → Int32) (m_readCell : Nat → Int32) (m_readKind : Nat → Int32) (m_text : Nat → Int32) (m_length : Int32) (m_at : Int32) (m_faultAt : Int32) (m_there : Int32) (m_stopped : Int32) (m_acts : Int32) (m_next : Int32) (m_row : Nat → Int32) (m_bestRow : Int32) (m_seen : Int32) (m_seenCell : Nat → Int32) (m_seenWay : Nat → Int32) (m_seenCame : Nat → Int32) (m_seed : Int64) (m_isKept : Nat → Int32) (m_kept : Nat → Int32) (p1 : Int32) (p2 : Int32) (p3 : Int32) (res : Int32 × (Nat → Int32) × Int32) (h : tw_X7_roll m_marbles m_kind m_told m_now m_there m_stopped p1 p2 p3 = some res) : Ct l yX7_roll wsX7_roll 4 88 D cy [.ref mh, .int p1, .int p2, .int p3] (cMd mh m_kindr m_toldr m_nowr m_readToldr m_readCellr m_readKindr m_textr m_rowr m_seenCellr m_seenWayr m_seenCamer m_isKeptr m_keptr cy.1 cy.2.2.1 m_marbles m_kind m_told m_now m_readTold m_readCell m_readKind m_text m_length m_at m_faultAt m_there m_stopped m_acts m_next m_row m_bestRow m_seen m_seenCell m_seenWay m_seenCame m_seed m_isKept m_kept) (cMd mh m_kindr m_toldr m_nowr m_readToldr m_readCellr m_readKindr m_textr m_rowr m_seenCellr m_seenWayr m_seenCamer m_isKeptr m_keptr cy.1 cy.2.2.1 m_marbles m_kind m_told res.2.1 m_readTold m_readCell m_readKind m_text m_length m_at m_faultAt m_there res.2.2 m_acts m_next m_row m_bestRow m_seen m_seenCell m_seenWay m_seenCame m_seed m_isKept m_kept) (some (.int res.1)) := by
  refine Ct.ofW (cc := cX7_roll) (maxL := 7) (ret := (some .boolean)) (by decide) rfl (Nat.le_of_ble_eq_true rfl) ?_
  intro p e R s m args below meth c A Q ls hRf hRl hQ hx hb hr hml hts hown hlocks hE hP hD hS hA hl
  have hiX7 : ∀ w ∈ u_ws RX7 TX7 24, w ∈ wsX7_roll := by decide +kernel
  have hl : lv_has ls 7 [(0, .ref mh), (1, .int p1), (2, .int p2), (3, .int p3)] := hl
  rw [tw_X7_roll] at h
  have L200 : ∀ (z1 : Int32) (z2 : Int32) (m_now : Nat → Int32) (m_stopped : Int32)  (H : Heap) (locs : List Loc) (ls : Array Slot), lv_has ls 7 [] → va_P D vwCl (cMd mh m_kindr m_toldr m_nowr m_readToldr m_readCellr m_readKindr m_textr m_rowr m_seenCellr m_seenWayr m_seenCamer m_isKeptr m_keptr cy.1 cy.2.2.1 m_marbles m_kind m_told m_now m_readTold m_readCell m_readKind m_text m_length m_at m_faultAt m_there m_stopped m_acts m_next m_row m_bestRow m_seen m_seenCell m_seenWay m_seenCame m_seed m_isKept m_kept) H → va_D A (cMd mh m_kindr m_toldr m_nowr m_readToldr m_readCellr m_readKindr m_textr m_rowr m_seenCellr m_seenWayr m_seenCamer m_isKeptr m_keptr cy.1 cy.2.2.1 m_marbles m_kind m_told m_now m_readTold m_readCell m_readKind m_text m_length m_at m_faultAt m_there m_stopped m_acts m_next m_row m_bestRow m_seen m_seenCell m_seenWay m_seenCame m_seed m_isKept m_kept) → va_S A s.heap H locs → tw_X7_roll_200 m_marbles m_kind m_told m_there p1 p2 p3 z1 z2 m_now m_stopped = some res → W p l e R s m args below meth c H locs 0 0 Q (F0 m 200 ls [.int z2, .int z1, .ref mh]) := by
    intro z1 z2 m_now m_stopped  H locs ls hl hP hD hS h
    rw [tw_X7_roll_200] at h
    refine lv_ior hx hb dX7_roll_200 ?_
    refine va_put (D := D) (ci := 7) (v := .int (z1 ||| z2)) (ty := .int) (C := RX7) (T := TX7) (N := 24) hx hb hts hiX7 tyX7 tyX7_ok nmX7 hown hE.1 hP hD hS 0 rfl rfl 12 (by decide) (hts (.fieldLink RX7 108 "TiltTrayModel" "stopped" "I") (by decide +kernel)) (fun _ h9 => h9) rfl (by decide +kernel) rfl rfl (Nat.le_of_ble_eq_true rfl) dX7_roll_201 (fun H locs hP hD hS => ?_)
    have hP : va_P D vwCl (cMd mh m_kindr m_toldr m_nowr m_readToldr m_readCellr m_readKindr m_textr m_rowr m_seenCellr m_seenWayr m_seenCamer m_isKeptr m_keptr cy.1 cy.2.2.1 m_marbles m_kind m_told m_now m_readTold m_readCell m_readKind m_text m_length m_at m_faultAt m_there (z1 ||| z2) m_acts m_next m_row m_bestRow m_seen m_seenCell m_seenWay m_seenCame m_seed m_isKept m_kept) H := hP
    have hD : va_D A (cMd mh m_kindr m_toldr m_nowr m_readToldr m_readCellr m_readKindr m_textr m_rowr m_seenCellr m_seenWayr m_seenCamer m_isKeptr m_keptr cy.1 cy.2.2.1 m_marbles m_kind m_told m_now m_readTold m_readCell m_readKind m_text m_length m_at m_faultAt m_there (z1 ||| z2) m_acts m_next m_row m_bestRow m_seen m_seenCell m_seenWay m_seenCame m_seed m_isKept m_kept) := hD
    refine lv_iconst (v := 1) hx hb dX7_roll_204 (by decide) ?_
    obtain rfl := Option.some.inj h
    rw [hQ]; exact ct_zret hx hb hr hlocks rfl hP hS rfl dX7_roll_205
  have L181 : ∀ (z0 : Int32) (m_now : Nat → Int32) (m_stopped : Int32)  (H : Heap) (locs : List Loc) (ls : Array Slot), lv_has ls 7 [(0, .ref mh), (2, .int p2)] → va_P D vwCl (cMd mh m_kindr m_toldr m_nowr m_readToldr m_readCellr m_readKindr m_textr m_rowr m_seenCellr m_seenWayr m_seenCamer m_isKeptr m_keptr cy.1 cy.2.2.1 m_marbles m_kind m_told m_now m_readTold m_readCell m_readKind m_text m_length m_at m_faultAt m_there m_stopped m_acts m_next m_row m_bestRow m_seen m_seenCell m_seenWay m_seenCame m_seed m_isKept m_kept) H → va_D A (cMd mh m_kindr m_toldr m_nowr m_readToldr m_readCellr m_readKindr m_textr m_rowr m_seenCellr m_seenWayr m_seenCamer m_isKeptr m_keptr cy.1 cy.2.2.1 m_marbles m_kind m_told m_now m_readTold m_readCell m_readKind m_text m_length m_at m_faultAt m_there m_stopped m_acts m_next m_row m_bestRow m_seen m_seenCell m_seenWay m_seenCame m_seed m_isKept m_kept) → va_S A s.heap H locs → tw_X7_roll_181 m_marbles m_kind m_told m_there p1 p2 p3 z0 m_now m_stopped = some res → W p l e R s m args below meth c H locs 0 0 Q (F0 m 181 ls [.int z0]) := by
    intro z0 m_now m_stopped  H locs ls hl hP hD hS h
    rw [tw_X7_roll_181] at h
    refine lv_istore (lv' := [(6, .int z0), (0, .ref mh), (2, .int p2)]) hx hb dX7_roll_181 hl (by decide) rfl (fun ls hl => ?_)
    refine lv_aload_n hx hb dX7_roll_183 rfl (lv_at hl 1 rfl) ?_
    refine lv_dup hx hb dX7_roll_184 rfl ?_
    refine va_get (D := D) (ci := 7) (v := .int m_stopped) (C := RX7) (T := TX7) (N := 24) hx hb hts hiX7 hown hE.1 hP 0 rfl rfl 12 (by decide) (hts (.fieldLink RX7 108 "TiltTrayModel" "stopped" "I") (by decide +kernel)) (fun _ h9 => h9) rfl dX7_roll_185 ?_
    refine lv_iload hx hb dX7_roll_188 (lv_at hl 0 rfl) ?_
    refine lv_if_eq (tgt := 199) hx hb dX7_roll_190 (by decide) (fun c1 => ?_) (fun c1 => ?_)
    · have h := oit h c1
      refine lv_iconst (v := 0) hx hb dX7_roll_199 (by decide) ?_
      exact L200 m_stopped 0 m_now m_stopped _ _ _ (lv_sub hl [] rfl) hP hD hS h
    · have h := oif h c1
      refine lv_iconst (v := 1) hx hb dX7_roll_193 (by decide) ?_
      refine lv_iload_n hx hb dX7_roll_194 rfl (lv_at hl 2 rfl) ?_
      refine lv_ishl hx hb dX7_roll_195 ?_
      refine lv_goto (tgt := 200) hx hb dX7_roll_196 (by decide) ?_
      exact L200 m_stopped (1 <<< (p2 &&& 31)) m_now m_stopped _ _ _ (lv_sub hl [] rfl) hP hD hS h
  have L180 : ∀ (m_now : Nat → Int32) (m_stopped : Int32)  (H : Heap) (locs : List Loc) (ls : Array Slot), lv_has ls 7 [(0, .ref mh), (2, .int p2)] → va_P D vwCl (cMd mh m_kindr m_toldr m_nowr m_readToldr m_readCellr m_readKindr m_textr m_rowr m_seenCellr m_seenWayr m_seenCamer m_isKeptr m_keptr cy.1 cy.2.2.1 m_marbles m_kind m_told m_now m_readTold m_readCell m_readKind m_text m_length m_at m_faultAt m_there m_stopped m_acts m_next m_row m_bestRow m_seen m_seenCell m_seenWay m_seenCame m_seed m_isKept m_kept) H → va_D A (cMd mh m_kindr m_toldr m_nowr m_readToldr m_readCellr m_readKindr m_textr m_rowr m_seenCellr m_seenWayr m_seenCamer m_isKeptr m_keptr cy.1 cy.2.2.1 m_marbles m_kind m_told m_now m_readTold m_readCell m_readKind m_text m_length m_at m_faultAt m_there m_stopped m_acts m_next m_row m_bestRow m_seen m_seenCell m_seenWay m_seenCame m_seed m_isKept m_kept) → va_S A s.heap H locs → tw_X7_roll_180 m_marbles m_kind m_told m_there p1 p2 p3 m_now m_stopped = some res → W p l e R s m args below meth c H locs 0 0 Q (F0 m 180 ls []) := by
    intro m_now m_stopped  H locs ls hl hP hD hS h
    rw [tw_X7_roll_180] at h
    refine lv_iconst (v := 0) hx hb dX7_roll_180 (by decide) ?_
    exact L181 0 m_now m_stopped _ _ _ (lv_sub hl [0, 1] rfl) hP hD hS h
  have L176 : ∀ (m_now : Nat → Int32) (m_stopped : Int32)  (H : Heap) (locs : List Loc) (ls : Array Slot), lv_has ls 7 [(0, .ref mh), (2, .int p2)] → va_P D vwCl (cMd mh m_kindr m_toldr m_nowr m_readToldr m_readCellr m_readKindr m_textr m_rowr m_seenCellr m_seenWayr m_seenCamer m_isKeptr m_keptr cy.1 cy.2.2.1 m_marbles m_kind m_told m_now m_readTold m_readCell m_readKind m_text m_length m_at m_faultAt m_there m_stopped m_acts m_next m_row m_bestRow m_seen m_seenCell m_seenWay m_seenCame m_seed m_isKept m_kept) H → va_D A (cMd mh m_kindr m_toldr m_nowr m_readToldr m_readCellr m_readKindr m_textr m_rowr m_seenCellr m_seenWayr m_seenCamer m_isKeptr m_keptr cy.1 cy.2.2.1 m_marbles m_kind m_told m_now m_readTold m_readCell m_readKind m_text m_length m_at m_faultAt m_there m_stopped m_acts m_next m_row m_bestRow m_seen m_seenCell m_seenWay m_seenCame m_seed m_isKept m_kept) → va_S A s.heap H locs → tw_X7_roll_176 m_marbles m_kind m_told m_there p1 p2 p3 m_now m_stopped = some res → W p l e R s m args below meth c H locs 0 0 Q (F0 m 176 ls []) := by
    intro m_now m_stopped  H locs ls hl hP hD hS h
    rw [tw_X7_roll_176] at h
    refine lv_iconst (v := 1) hx hb dX7_roll_176 (by decide) ?_
    refine lv_goto (tgt := 181) hx hb dX7_roll_177 (by decide) ?_
    exact L181 1 m_now m_stopped _ _ _ (lv_sub hl [0, 1] rfl) hP hD hS h
  have L157 : ∀ (x5 : Int32) (m_now : Nat → Int32) (m_stopped : Int32)  (H : Heap) (locs : List Loc) (ls : Array Slot), lv_has ls 7 [(0, .ref mh), (2, .int p2), (5, .int x5)] → va_P D vwCl (cMd mh m_kindr m_toldr m_nowr m_readToldr m_readCellr m_readKindr m_textr m_rowr m_seenCellr m_seenWayr m_seenCamer m_isKeptr m_keptr cy.1 cy.2.2.1 m_marbles m_kind m_told m_now m_readTold m_readCell m_readKind m_text m_length m_at m_faultAt m_there m_stopped m_acts m_next m_row m_bestRow m_seen m_seenCell m_seenWay m_seenCame m_seed m_isKept m_kept) H → va_D A (cMd mh m_kindr m_toldr m_nowr m_readToldr m_readCellr m_readKindr m_textr m_rowr m_seenCellr m_seenWayr m_seenCamer m_isKeptr m_keptr cy.1 cy.2.2.1 m_marbles m_kind m_told m_now m_readTold m_readCell m_readKind m_text m_length m_at m_faultAt m_there m_stopped m_acts m_next m_row m_bestRow m_seen m_seenCell m_seenWay m_seenCame m_seed m_isKept m_kept) → va_S A s.heap H locs → tw_X7_roll_157 m_marbles m_kind m_told m_there p1 p2 p3 x5 m_now m_stopped = some res → W p l e R s m args below meth c H locs 0 0 Q (F0 m 157 ls []) := by
    intro x5 m_now m_stopped  H locs ls hl hP hD hS h
    rw [tw_X7_roll_157] at h
    refine lv_aload_n hx hb dX7_roll_157 rfl (lv_at hl 0 rfl) ?_
    refine va_get (D := D) (ci := 7) (v := .ref m_kindr) (C := RX7) (T := TX7) (N := 24) hx hb hts hiX7 hown hE.1 hP 0 rfl rfl 1 (by decide) (hts (.fieldLink RX7 7 "TiltTrayModel" "kind" "[I") (by decide +kernel)) (fun _ h9 => h9) rfl dX7_roll_158 ?_
    refine lv_iload_n hx hb dX7_roll_161 rfl (lv_at hl 1 rfl) ?_
    obtain ⟨g2, h⟩ := og h
    refine va_iald hx hb hE.1 hP 1 0 rfl rfl (ix_in g2) dX7_roll_162 ?_
    refine lv_iconst (v := 1) hx hb dX7_roll_163 (by decide) ?_
    refine lv_icmp_ne (tgt := 180) hx hb dX7_roll_164 (by decide) (fun c3 => ?_) (fun c3 => ?_)
    · have h := oif h c3
      exact L180 m_now m_stopped _ _ _ (lv_sub hl [0, 1] rfl) hP hD hS h
    · have h := oit h c3
      refine lv_aload_n hx hb dX7_roll_167 rfl (lv_at hl 0 rfl) ?_
      refine lv_iload hx hb dX7_roll_168 (lv_at hl 2 rfl) ?_
      obtain ⟨q4, hq4, h⟩ := ob h
      refine kV (As := [.int x5]) (rest := []) (w2 := cMd mh m_kindr m_toldr m_nowr m_readToldr m_readCellr m_readKindr m_textr m_rowr m_seenCellr m_seenWayr m_seenCamer m_isKeptr m_keptr cy.1 cy.2.2.1 m_marbles m_kind m_told m_now m_readTold m_readCell m_readKind m_text m_length m_at m_faultAt m_there m_stopped m_acts m_next m_row m_bestRow m_seen m_seenCell m_seenWay m_seenCame m_seed m_isKept m_kept) (n := 1) (q0 := 0) ⟨hx, hb, hml, hown, hts⟩ (c_X7_nearMagnet l D cy mh m_kindr m_toldr m_nowr m_readToldr m_readCellr m_readKindr m_textr m_rowr m_seenCellr m_seenWayr m_seenCamer m_isKeptr m_keptr m_marbles m_kind m_told m_now m_readTold m_readCell m_readKind m_text m_length m_at m_faultAt m_there m_stopped m_acts m_next m_row m_bestRow m_seen m_seenCell m_seenWay m_seenCame m_seed m_isKept m_kept x5 q4 hq4) gX7_roll_X7_nearMagnet rfl (by decide +kernel) ⟨by rw [hRf]; exact Nat.le_of_ble_eq_true rfl, by rw [hRl]; exact Nat.le_of_ble_eq_true rfl⟩ hE hP hD hS hA [0, 1, 2, 3, 4, 5, 6, 7, 8, 9, 10, 11, 12, 13] rfl rfl rfl rfl rfl rfl rfl hl.1 rfl (Nat.le_of_ble_eq_true rfl) dX7_roll_170 ⟨Nat.zero_le _, Nat.zero_le _⟩ (fun H locs hP hD hS => ?_)
      refine lv_if_eq (tgt := 180) hx hb dX7_roll_173 (by decide) (fun c5 => ?_) (fun c5 => ?_)
      · have h := oit h c5
        exact L180 m_now m_stopped _ _ _ (lv_sub hl [0, 1] rfl) hP hD hS h
      · have h := oif h c5
        exact L176 m_now m_stopped _ _ _ (lv_sub hl [0, 1] rfl) hP hD hS h
  have L54 : ∀ (x4 : Int32) (z0 : Int32) (z1 : Int32) (m_now : Nat → Int32) (m_stopped : Int32)  (H : Heap) (locs : List Loc) (ls : Array Slot), lv_has ls 7 [(0, .ref mh), (1, .int p1), (2, .int p2), (4, .int x4)] → va_P D vwCl (cMd mh m_kindr m_toldr m_nowr m_readToldr m_readCellr m_readKindr m_textr m_rowr m_seenCellr m_seenWayr m_seenCamer m_isKeptr m_keptr cy.1 cy.2.2.1 m_marbles m_kind m_told m_now m_readTold m_readCell m_readKind m_text m_length m_at m_faultAt m_there m_stopped m_acts m_next m_row m_bestRow m_seen m_seenCell m_seenWay m_seenCame m_seed m_isKept m_kept) H → va_D A (cMd mh m_kindr m_toldr m_nowr m_readToldr m_readCellr m_readKindr m_textr m_rowr m_seenCellr m_seenWayr m_seenCamer m_isKeptr m_keptr cy.1 cy.2.2.1 m_marbles m_kind m_told m_now m_readTold m_readCell m_readKind m_text m_length m_at m_faultAt m_there m_stopped m_acts m_next m_row m_bestRow m_seen m_seenCell m_seenWay m_seenCame m_seed m_isKept m_kept) → va_S A s.heap H locs → tw_X7_roll_54 m_marbles m_kind m_told m_there p1 p2 p3 x4 z0 z1 m_now m_stopped = some res → W p l e R s m args below meth c H locs 0 0 Q (F0 m 54 ls [.int z1, .int z0]) := by
    intro x4 z0 z1 m_now m_stopped  H locs ls hl hP hD hS h
    rw [tw_X7_roll_54] at h
    obtain ⟨q6, hq6, h⟩ := ob h
    refine kS (As := [.int z0, .int z1]) (rest := []) (w2 := cMd mh m_kindr m_toldr m_nowr m_readToldr m_readCellr m_readKindr m_textr m_rowr m_seenCellr m_seenWayr m_seenCamer m_isKeptr m_keptr cy.1 cy.2.2.1 m_marbles m_kind m_told m_now m_readTold m_readCell m_readKind m_text m_length m_at m_faultAt m_there m_stopped m_acts m_next m_row m_bestRow m_seen m_seenCell m_seenWay m_seenCame m_seed m_isKept m_kept) (n := 2) ⟨hx, hb, hml, hown, hts⟩ (c_X7_onward l D cy z0 z1 q6 hq6) gX7_roll_X7_onward rfl (by decide +kernel) ⟨by rw [hRf]; exact Nat.le_of_ble_eq_true rfl, by rw [hRl]; exact Nat.le_of_ble_eq_true rfl⟩ hE hP hD hS hA [] rfl rfl rfl rfl rfl hl.1 rfl (Nat.le_of_ble_eq_true rfl) dX7_roll_54 ⟨Nat.zero_le _, Nat.zero_le _⟩ (fun H locs hP hD hS => ?_)
    refine lv_istore (lv' := [(5, .int q6), (0, .ref mh), (1, .int p1), (2, .int p2), (4, .int x4)]) hx hb dX7_roll_57 hl (by decide) rfl (fun ls hl => ?_)
    refine lv_aload_n hx hb dX7_roll_59 rfl (lv_at hl 1 rfl) ?_
    refine lv_iload_n hx hb dX7_roll_60 rfl (lv_at hl 2 rfl) ?_
    refine lv_iload hx hb dX7_roll_61 (lv_at hl 0 rfl) ?_
    obtain ⟨q7, hq7, h⟩ := ob h
    refine kV (As := [.int p1, .int q6]) (rest := []) (w2 := cMd mh m_kindr m_toldr m_nowr m_readToldr m_readCellr m_readKindr m_textr m_rowr m_seenCellr m_seenWayr m_seenCamer m_isKeptr m_keptr cy.1 cy.2.2.1 m_marbles m_kind m_told m_now m_readTold m_readCell m_readKind m_text m_length m_at m_faultAt m_there m_stopped m_acts m_next m_row m_bestRow m_seen m_seenCell m_seenWay m_seenCame m_seed m_isKept m_kept) (n := 2) (q0 := 0) ⟨hx, hb, hml, hown, hts⟩ (c_X7_canBe l D cy mh m_kindr m_toldr m_nowr m_readToldr m_readCellr m_readKindr m_textr m_rowr m_seenCellr m_seenWayr m_seenCamer m_isKeptr m_keptr m_marbles m_kind m_told m_now m_readTold m_readCell m_readKind m_text m_length m_at m_faultAt m_there m_stopped m_acts m_next m_row m_bestRow m_seen m_seenCell m_seenWay m_seenCame m_seed m_isKept m_kept p1 q6 q7 hq7) gX7_roll_X7_canBe rfl (by decide +kernel) ⟨by rw [hRf]; exact Nat.le_of_ble_eq_true rfl, by rw [hRl]; exact Nat.le_of_ble_eq_true rfl⟩ hE hP hD hS hA [0, 1, 2, 3, 4, 5, 6, 7, 8, 9, 10, 11, 12, 13] rfl rfl rfl rfl rfl rfl rfl hl.1 rfl (Nat.le_of_ble_eq_true rfl) dX7_roll_63 ⟨Nat.zero_le _, Nat.zero_le _⟩ (fun H locs hP hD hS => ?_)
    refine lv_if_ne (tgt := 71) hx hb dX7_roll_66 (by decide) (fun c8 => ?_) (fun c8 => ?_)
    · have h := oif h c8
      refine lv_aload_n hx hb dX7_roll_71 rfl (lv_at hl 1 rfl) ?_
      refine lv_iload_n hx hb dX7_roll_72 rfl (lv_at hl 2 rfl) ?_
      refine lv_iload hx hb dX7_roll_73 (lv_at hl 0 rfl) ?_
      obtain ⟨q9, hq9, h⟩ := ob h
      refine kV (As := [.int p1, .int q6]) (rest := []) (w2 := cMd mh m_kindr m_toldr m_nowr m_readToldr m_readCellr m_readKindr m_textr m_rowr m_seenCellr m_seenWayr m_seenCamer m_isKeptr m_keptr cy.1 cy.2.2.1 m_marbles m_kind m_told m_now m_readTold m_readCell m_readKind m_text m_length m_at m_faultAt m_there m_stopped m_acts m_next m_row m_bestRow m_seen m_seenCell m_seenWay m_seenCame m_seed m_isKept m_kept) (n := 2) (q0 := 0) ⟨hx, hb, hml, hown, hts⟩ (c_X7_isOpen l D cy mh m_kindr m_toldr m_nowr m_readToldr m_readCellr m_readKindr m_textr m_rowr m_seenCellr m_seenWayr m_seenCamer m_isKeptr m_keptr m_marbles m_kind m_told m_now m_readTold m_readCell m_readKind m_text m_length m_at m_faultAt m_there m_stopped m_acts m_next m_row m_bestRow m_seen m_seenCell m_seenWay m_seenCame m_seed m_isKept m_kept p1 q6 q9 hq9) gX7_roll_X7_isOpen rfl (by decide +kernel) ⟨by rw [hRf]; exact Nat.le_of_ble_eq_true rfl, by rw [hRl]; exact Nat.le_of_ble_eq_true rfl⟩ hE hP hD hS hA [0, 1, 2, 3, 4, 5, 6, 7, 8, 9, 10, 11, 12, 13] rfl rfl rfl rfl rfl rfl rfl hl.1 rfl (Nat.le_of_ble_eq_true rfl) dX7_roll_75 ⟨Nat.zero_le _, Nat.zero_le _⟩ (fun H locs hP hD hS => ?_)
      refine lv_if_eq (tgt := 113) hx hb dX7_roll_78 (by decide) (fun c10 => ?_) (fun c10 => ?_)
      · have h := oit h c10
        refine lv_aload_n hx hb dX7_roll_113 rfl (lv_at hl 1 rfl) ?_
        refine va_get (D := D) (ci := 7) (v := .ref m_nowr) (C := RX7) (T := TX7) (N := 24) hx hb hts hiX7 hown hE.1 hP 0 rfl rfl 3 (by decide) (hts (.fieldLink RX7 16 "TiltTrayModel" "now" "[I") (by decide +kernel)) (fun _ h9 => h9) rfl dX7_roll_114 ?_
        refine lv_iload hx hb dX7_roll_117 (lv_at hl 4 rfl) ?_
        refine lv_iload_n hx hb dX7_roll_119 rfl (lv_at hl 3 rfl) ?_
        refine lv_iadd hx hb dX7_roll_120 ?_
        refine lv_iload hx hb dX7_roll_121 (lv_at hl 0 rfl) ?_
        obtain ⟨g11, h⟩ := og h
        refine va_iast hx hb hE.1 hP hD hS 3 0 rfl rfl (ix_in g11) dX7_roll_123 (fun H locs hP hD hS => ?_)
        have hP : va_P D vwCl (cMd mh m_kindr m_toldr m_nowr m_readToldr m_readCellr m_readKindr m_textr m_rowr m_seenCellr m_seenWayr m_seenCamer m_isKeptr m_keptr cy.1 cy.2.2.1 m_marbles m_kind m_told (upd m_now (x4 + p2).toNatClampNeg q6) m_readTold m_readCell m_readKind m_text m_length m_at m_faultAt m_there m_stopped m_acts m_next m_row m_bestRow m_seen m_seenCell m_seenWay m_seenCame m_seed m_isKept m_kept) H := hP
        have hD : va_D A (cMd mh m_kindr m_toldr m_nowr m_readToldr m_readCellr m_readKindr m_textr m_rowr m_seenCellr m_seenWayr m_seenCamer m_isKeptr m_keptr cy.1 cy.2.2.1 m_marbles m_kind m_told (upd m_now (x4 + p2).toNatClampNeg q6) m_readTold m_readCell m_readKind m_text m_length m_at m_faultAt m_there m_stopped m_acts m_next m_row m_bestRow m_seen m_seenCell m_seenWay m_seenCame m_seed m_isKept m_kept) := hD
        refine lv_aload_n hx hb dX7_roll_124 rfl (lv_at hl 1 rfl) ?_
        refine va_get (D := D) (ci := 7) (v := .ref m_kindr) (C := RX7) (T := TX7) (N := 24) hx hb hts hiX7 hown hE.1 hP 0 rfl rfl 1 (by decide) (hts (.fieldLink RX7 7 "TiltTrayModel" "kind" "[I") (by decide +kernel)) (fun _ h9 => h9) rfl dX7_roll_125 ?_
        refine lv_iload_n hx hb dX7_roll_128 rfl (lv_at hl 3 rfl) ?_
        obtain ⟨g12, h⟩ := og h
        refine va_iald hx hb hE.1 hP 1 0 rfl rfl (ix_in g12) dX7_roll_129 ?_
        refine lv_iconst (v := 2) hx hb dX7_roll_130 (by decide) ?_
        refine lv_icmp_eq (tgt := 176) hx hb dX7_roll_131 (by decide) (fun c13 => ?_) (fun c13 => ?_)
        · have h := oit h c13
          exact L176 (upd m_now (x4 + p2).toNatClampNeg q6) m_stopped _ _ _ (lv_sub hl [1, 3] rfl) hP hD hS h
        · have h := oif h c13
          refine lv_aload_n hx hb dX7_roll_134 rfl (lv_at hl 1 rfl) ?_
          refine va_get (D := D) (ci := 7) (v := .ref m_kindr) (C := RX7) (T := TX7) (N := 24) hx hb hts hiX7 hown hE.1 hP 0 rfl rfl 1 (by decide) (hts (.fieldLink RX7 7 "TiltTrayModel" "kind" "[I") (by decide +kernel)) (fun _ h9 => h9) rfl dX7_roll_135 ?_
          refine lv_iload_n hx hb dX7_roll_138 rfl (lv_at hl 3 rfl) ?_
          obtain ⟨g14, h⟩ := og h
          refine va_iald hx hb hE.1 hP 1 0 rfl rfl (ix_in g14) dX7_roll_139 ?_
          refine lv_if_eq (tgt := 157) hx hb dX7_roll_140 (by decide) (fun c15 => ?_) (fun c15 => ?_)
          · have h := oit h c15
            exact L157 q6 (upd m_now (x4 + p2).toNatClampNeg q6) m_stopped _ _ _ (lv_sub hl [1, 3, 0] rfl) hP hD hS h
          · have h := oif h c15
            refine lv_aload_n hx hb dX7_roll_143 rfl (lv_at hl 1 rfl) ?_
            refine va_get (D := D) (ci := 7) (v := .ref m_toldr) (C := RX7) (T := TX7) (N := 24) hx hb hts hiX7 hown hE.1 hP 0 rfl rfl 2 (by decide) (hts (.fieldLink RX7 13 "TiltTrayModel" "told" "[I") (by decide +kernel)) (fun _ h9 => h9) rfl dX7_roll_144 ?_
            refine lv_iconst (v := 2) hx hb dX7_roll_147 (by decide) ?_
            refine va_iald hx hb hE.1 hP 2 0 rfl rfl (ix_in (by decide)) dX7_roll_148 ?_
            refine lv_iload hx hb dX7_roll_149 (lv_at hl 0 rfl) ?_
            obtain ⟨q16, hq16, h⟩ := ob h
            refine kS (As := [.int (m_told (2 : Int32).toNatClampNeg), .int q6]) (rest := []) (w2 := cMd mh m_kindr m_toldr m_nowr m_readToldr m_readCellr m_readKindr m_textr m_rowr m_seenCellr m_seenWayr m_seenCamer m_isKeptr m_keptr cy.1 cy.2.2.1 m_marbles m_kind m_told (upd m_now (x4 + p2).toNatClampNeg q6) m_readTold m_readCell m_readKind m_text m_length m_at m_faultAt m_there m_stopped m_acts m_next m_row m_bestRow m_seen m_seenCell m_seenWay m_seenCame m_seed m_isKept m_kept) (n := 2) ⟨hx, hb, hml, hown, hts⟩ (c_X7_has l D cy (m_told (2 : Int32).toNatClampNeg) q6 q16 hq16) gX7_roll_X7_has rfl (by decide +kernel) ⟨by rw [hRf]; exact Nat.le_of_ble_eq_true rfl, by rw [hRl]; exact Nat.le_of_ble_eq_true rfl⟩ hE hP hD hS hA [] rfl rfl rfl rfl rfl hl.1 rfl (Nat.le_of_ble_eq_true rfl) dX7_roll_151 ⟨Nat.zero_le _, Nat.zero_le _⟩ (fun H locs hP hD hS => ?_)
            refine lv_if_ne (tgt := 176) hx hb dX7_roll_154 (by decide) (fun c17 => ?_) (fun c17 => ?_)
            · have h := oif h c17
              exact L176 (upd m_now (x4 + p2).toNatClampNeg q6) m_stopped _ _ _ (lv_sub hl [1, 3] rfl) hP hD hS h
            · have h := oit h c17
              exact L157 q6 (upd m_now (x4 + p2).toNatClampNeg q6) m_stopped _ _ _ (lv_sub hl [1, 3, 0] rfl) hP hD hS h
      · have h := oif h c10
        refine lv_aload_n hx hb dX7_roll_81 rfl (lv_at hl 1 rfl) ?_
        refine va_get (D := D) (ci := 7) (v := .ref m_nowr) (C := RX7) (T := TX7) (N := 24) hx hb hts hiX7 hown hE.1 hP 0 rfl rfl 3 (by decide) (hts (.fieldLink RX7 16 "TiltTrayModel" "now" "[I") (by decide +kernel)) (fun _ h9 => h9) rfl dX7_roll_82 ?_
        refine lv_iload hx hb dX7_roll_85 (lv_at hl 4 rfl) ?_
        refine lv_iload_n hx hb dX7_roll_87 rfl (lv_at hl 3 rfl) ?_
        refine lv_iadd hx hb dX7_roll_88 ?_
        refine lv_bipush (v := 100) hx hb dX7_roll_89 (by decide) ?_
        refine lv_iload hx hb dX7_roll_91 (lv_at hl 0 rfl) ?_
        refine lv_iadd hx hb dX7_roll_93 ?_
        obtain ⟨g18, h⟩ := og h
        refine va_iast hx hb hE.1 hP hD hS 3 0 rfl rfl (ix_in g18) dX7_roll_94 (fun H locs hP hD hS => ?_)
        have hP : va_P D vwCl (cMd mh m_kindr m_toldr m_nowr m_readToldr m_readCellr m_readKindr m_textr m_rowr m_seenCellr m_seenWayr m_seenCamer m_isKeptr m_keptr cy.1 cy.2.2.1 m_marbles m_kind m_told (upd m_now (x4 + p2).toNatClampNeg (100 + q6)) m_readTold m_readCell m_readKind m_text m_length m_at m_faultAt m_there m_stopped m_acts m_next m_row m_bestRow m_seen m_seenCell m_seenWay m_seenCame m_seed m_isKept m_kept) H := hP
        have hD : va_D A (cMd mh m_kindr m_toldr m_nowr m_readToldr m_readCellr m_readKindr m_textr m_rowr m_seenCellr m_seenWayr m_seenCamer m_isKeptr m_keptr cy.1 cy.2.2.1 m_marbles m_kind m_told (upd m_now (x4 + p2).toNatClampNeg (100 + q6)) m_readTold m_readCell m_readKind m_text m_length m_at m_faultAt m_there m_stopped m_acts m_next m_row m_bestRow m_seen m_seenCell m_seenWay m_seenCame m_seed m_isKept m_kept) := hD
        refine lv_aload_n hx hb dX7_roll_95 rfl (lv_at hl 1 rfl) ?_
        refine va_get (D := D) (ci := 7) (v := .ref m_nowr) (C := RX7) (T := TX7) (N := 24) hx hb hts hiX7 hown hE.1 hP 0 rfl rfl 3 (by decide) (hts (.fieldLink RX7 16 "TiltTrayModel" "now" "[I") (by decide +kernel)) (fun _ h9 => h9) rfl dX7_roll_96 ?_
        refine lv_iload hx hb dX7_roll_99 (lv_at hl 4 rfl) ?_
        refine lv_iconst (v := 4) hx hb dX7_roll_101 (by decide) ?_
        refine lv_iadd hx hb dX7_roll_102 ?_
        refine lv_dup2_11 hx hb dX7_roll_103 rfl rfl ?_
        obtain ⟨g19, h⟩ := og h
        refine va_iald hx hb hE.1 hP 3 0 rfl rfl (ix_in g19) dX7_roll_104 ?_
        refine lv_iconst (v := 1) hx hb dX7_roll_105 (by decide) ?_
        refine lv_iload hx hb dX7_roll_106 (lv_at hl 0 rfl) ?_
        refine lv_ishl hx hb dX7_roll_108 ?_
        refine lv_ior hx hb dX7_roll_109 ?_
        obtain ⟨g20, h⟩ := og h
        refine va_iast hx hb hE.1 hP hD hS 3 0 rfl rfl (ix_in g20) dX7_roll_110 (fun H locs hP hD hS => ?_)
        have hP : va_P D vwCl (cMd mh m_kindr m_toldr m_nowr m_readToldr m_readCellr m_readKindr m_textr m_rowr m_seenCellr m_seenWayr m_seenCamer m_isKeptr m_keptr cy.1 cy.2.2.1 m_marbles m_kind m_told (upd (upd m_now (x4 + p2).toNatClampNeg (100 + q6)) (x4 + 4).toNatClampNeg (((upd m_now (x4 + p2).toNatClampNeg (100 + q6)) (x4 + 4).toNatClampNeg) ||| (1 <<< (q6 &&& 31)))) m_readTold m_readCell m_readKind m_text m_length m_at m_faultAt m_there m_stopped m_acts m_next m_row m_bestRow m_seen m_seenCell m_seenWay m_seenCame m_seed m_isKept m_kept) H := hP
        have hD : va_D A (cMd mh m_kindr m_toldr m_nowr m_readToldr m_readCellr m_readKindr m_textr m_rowr m_seenCellr m_seenWayr m_seenCamer m_isKeptr m_keptr cy.1 cy.2.2.1 m_marbles m_kind m_told (upd (upd m_now (x4 + p2).toNatClampNeg (100 + q6)) (x4 + 4).toNatClampNeg (((upd m_now (x4 + p2).toNatClampNeg (100 + q6)) (x4 + 4).toNatClampNeg) ||| (1 <<< (q6 &&& 31)))) m_readTold m_readCell m_readKind m_text m_length m_at m_faultAt m_there m_stopped m_acts m_next m_row m_bestRow m_seen m_seenCell m_seenWay m_seenCame m_seed m_isKept m_kept) := hD
        refine lv_iconst (v := 1) hx hb dX7_roll_111 (by decide) ?_
        obtain rfl := Option.some.inj h
        rw [hQ]; exact ct_zret hx hb hr hlocks rfl hP hS rfl dX7_roll_112
    · have h := oit h c8
      refine lv_iconst (v := 0) hx hb dX7_roll_69 (by decide) ?_
      obtain rfl := Option.some.inj h
      rw [hQ]; exact ct_zret hx hb hr hlocks rfl hP hS rfl dX7_roll_70
  refine lv_bipush (v := 7) hx hb dX7_roll_0 (by decide) ?_
  refine lv_iload_n hx hb dX7_roll_2 rfl (lv_at hl 1 rfl) ?_
  refine lv_imul hx hb dX7_roll_3 ?_
  refine lv_istore (lv' := [(4, .int (7 * p1)), (0, .ref mh), (1, .int p1), (2, .int p2), (3, .int p3)]) hx hb dX7_roll_4 hl (by decide) rfl (fun ls hl => ?_)
  refine lv_aload_n hx hb dX7_roll_6 rfl (lv_at hl 1 rfl) ?_
  refine lv_iload_n hx hb dX7_roll_7 rfl (lv_at hl 2 rfl) ?_
  refine lv_iload_n hx hb dX7_roll_8 rfl (lv_at hl 3 rfl) ?_
  obtain ⟨q21, hq21, h⟩ := ob h
  refine kV (As := [.int p1, .int p2]) (rest := []) (w2 := cMd mh m_kindr m_toldr m_nowr m_readToldr m_readCellr m_readKindr m_textr m_rowr m_seenCellr m_seenWayr m_seenCamer m_isKeptr m_keptr cy.1 cy.2.2.1 m_marbles m_kind m_told m_now m_readTold m_readCell m_readKind m_text m_length m_at m_faultAt m_there m_stopped m_acts m_next m_row m_bestRow m_seen m_seenCell m_seenWay m_seenCame m_seed m_isKept m_kept) (n := 2) (q0 := 0) ⟨hx, hb, hml, hown, hts⟩ (c_X7_isThere l D cy mh m_kindr m_toldr m_nowr m_readToldr m_readCellr m_readKindr m_textr m_rowr m_seenCellr m_seenWayr m_seenCamer m_isKeptr m_keptr m_marbles m_kind m_told m_now m_readTold m_readCell m_readKind m_text m_length m_at m_faultAt m_there m_stopped m_acts m_next m_row m_bestRow m_seen m_seenCell m_seenWay m_seenCame m_seed m_isKept m_kept p1 p2 q21 hq21) gX7_roll_X7_isThere rfl (by decide +kernel) ⟨by rw [hRf]; exact Nat.le_of_ble_eq_true rfl, by rw [hRl]; exact Nat.le_of_ble_eq_true rfl⟩ hE hP hD hS hA [0, 1, 2, 3, 4, 5, 6, 7, 8, 9, 10, 11, 12, 13] rfl rfl rfl rfl rfl rfl rfl hl.1 rfl (Nat.le_of_ble_eq_true rfl) dX7_roll_9 ⟨Nat.zero_le _, Nat.zero_le _⟩ (fun H locs hP hD hS => ?_)
  refine lv_if_eq (tgt := 26) hx hb dX7_roll_12 (by decide) (fun c22 => ?_) (fun c22 => ?_)
  · have h := oit h c22
    refine lv_iconst (v := 0) hx hb dX7_roll_26 (by decide) ?_
    obtain rfl := Option.some.inj h
    rw [hQ]; exact ct_zret hx hb hr hlocks rfl hP hS rfl dX7_roll_27
  · have h := oif h c22
    refine lv_aload_n hx hb dX7_roll_15 rfl (lv_at hl 1 rfl) ?_
    refine va_get (D := D) (ci := 7) (v := .int m_stopped) (C := RX7) (T := TX7) (N := 24) hx hb hts hiX7 hown hE.1 hP 0 rfl rfl 12 (by decide) (hts (.fieldLink RX7 108 "TiltTrayModel" "stopped" "I") (by decide +kernel)) (fun _ h9 => h9) rfl dX7_roll_16 ?_
    refine lv_iload_n hx hb dX7_roll_19 rfl (lv_at hl 3 rfl) ?_
    obtain ⟨q23, hq23, h⟩ := ob h
    refine kS (As := [.int m_stopped, .int p2]) (rest := []) (w2 := cMd mh m_kindr m_toldr m_nowr m_readToldr m_readCellr m_readKindr m_textr m_rowr m_seenCellr m_seenWayr m_seenCamer m_isKeptr m_keptr cy.1 cy.2.2.1 m_marbles m_kind m_told m_now m_readTold m_readCell m_readKind m_text m_length m_at m_faultAt m_there m_stopped m_acts m_next m_row m_bestRow m_seen m_seenCell m_seenWay m_seenCame m_seed m_isKept m_kept) (n := 2) ⟨hx, hb, hml, hown, hts⟩ (c_X7_has l D cy m_stopped p2 q23 hq23) gX7_roll_X7_has rfl (by decide +kernel) ⟨by rw [hRf]; exact Nat.le_of_ble_eq_true rfl, by rw [hRl]; exact Nat.le_of_ble_eq_true rfl⟩ hE hP hD hS hA [] rfl rfl rfl rfl rfl hl.1 rfl (Nat.le_of_ble_eq_true rfl) dX7_roll_20 ⟨Nat.zero_le _, Nat.zero_le _⟩ (fun H locs hP hD hS => ?_)
    refine lv_if_eq (tgt := 28) hx hb dX7_roll_23 (by decide) (fun c24 => ?_) (fun c24 => ?_)
    · have h := oit h c24
      refine lv_aload_n hx hb dX7_roll_28 rfl (lv_at hl 1 rfl) ?_
      refine va_get (D := D) (ci := 7) (v := .ref m_nowr) (C := RX7) (T := TX7) (N := 24) hx hb hts hiX7 hown hE.1 hP 0 rfl rfl 3 (by decide) (hts (.fieldLink RX7 16 "TiltTrayModel" "now" "[I") (by decide +kernel)) (fun _ h9 => h9) rfl dX7_roll_29 ?_
      refine lv_iload hx hb dX7_roll_32 (lv_at hl 0 rfl) ?_
      refine lv_iload_n hx hb dX7_roll_34 rfl (lv_at hl 3 rfl) ?_
      refine lv_iadd hx hb dX7_roll_35 ?_
      obtain ⟨g25, h⟩ := og h
      refine va_iald hx hb hE.1 hP 3 0 rfl rfl (ix_in g25) dX7_roll_36 ?_
      refine lv_aload_n hx hb dX7_roll_37 rfl (lv_at hl 1 rfl) ?_
      refine va_get (D := D) (ci := 7) (v := .ref m_kindr) (C := RX7) (T := TX7) (N := 24) hx hb hts hiX7 hown hE.1 hP 0 rfl rfl 1 (by decide) (hts (.fieldLink RX7 7 "TiltTrayModel" "kind" "[I") (by decide +kernel)) (fun _ h9 => h9) rfl dX7_roll_38 ?_
      refine lv_iload_n hx hb dX7_roll_41 rfl (lv_at hl 3 rfl) ?_
      obtain ⟨g26, h⟩ := og h
      refine va_iald hx hb hE.1 hP 1 0 rfl rfl (ix_in g26) dX7_roll_42 ?_
      refine lv_iconst (v := 3) hx hb dX7_roll_43 (by decide) ?_
      refine lv_icmp_ne (tgt := 53) hx hb dX7_roll_44 (by decide) (fun c27 => ?_) (fun c27 => ?_)
      · have h := oif h c27
        refine lv_iload_n hx hb dX7_roll_53 rfl (lv_at hl 4 rfl) ?_
        exact L54 (7 * p1) (m_now ((7 * p1) + p2).toNatClampNeg) p3 m_now m_stopped _ _ _ (lv_sub hl [1, 2, 3, 0] rfl) hP hD hS h
      · have h := oit h c27
        refine lv_iload_n hx hb dX7_roll_47 rfl (lv_at hl 4 rfl) ?_
        refine lv_iconst (v := 1) hx hb dX7_roll_48 (by decide) ?_
        refine lv_ixor hx hb dX7_roll_49 ?_
        refine lv_goto (tgt := 54) hx hb dX7_roll_50 (by decide) ?_
        exact L54 (7 * p1) (m_now ((7 * p1) + p2).toNatClampNeg) (p3 ^^^ 1) m_now m_stopped _ _ _ (lv_sub hl [1, 2, 3, 0] rfl) hP hD hS h
    · have h := oif h c24
      refine lv_iconst (v := 0) hx hb dX7_roll_26 (by decide) ?_
      obtain rfl := Option.some.inj h
      rw [hQ]; exact ct_zret hx hb hr hlocks rfl hP hS rfl dX7_roll_27

def tw_X7_fallen_4 (m_marbles : Int32) (m_now : Nat → Int32) (m_there : Int32) (p1 : Int32) : Nat → Int32 → Int32 → Option (Int32)
  | 0, _, _ => none
  | n + 1, x2, x3 =>
    if m_marbles ≤ x3 then (some (x2)) else ((tw_X7_has m_there x3).bind (fun q2 => if q2 = 0 then ((tw_X7_fallen_4 m_marbles m_now m_there p1 n) (x2 + 0) (x3 + 1)) else (if ix ((7 * p1) + x3) 14 = true then (if (m_now ((7 * p1) + x3).toNatClampNeg) < 100 then ((tw_X7_fallen_4 m_marbles m_now m_there p1 n) (x2 + 0) (x3 + 1)) else ((tw_X7_fallen_4 m_marbles m_now m_there p1 n) (x2 + 1) (x3 + 1))) else none)))
def tw_X7_fallen (m_marbles : Int32) (m_now : Nat → Int32) (m_there : Int32) (p1 : Int32) : Option (Int32) :=
  tw_X7_fallen_4 m_marbles m_now m_there p1 6 0 0
set_option maxHeartbeats 4000000 in
set_option maxRecDepth 100000 in
theorem c_X7_fallen (l : Launch) (D : va_G) (cy : Cy) (mh : Nat) (m_kindr : Nat) (m_toldr : Nat) (m_nowr : Nat) (m_readToldr : Nat) (m_readCellr : Nat) (m_readKindr : Nat) (m_textr : Nat) (m_rowr : Nat) (m_seenCellr : Nat) (m_seenWayr : Nat) (m_seenCamer : Nat) (m_isKeptr : Nat) (m_keptr : Nat) (m_marbles : Int32) (m_kind : Nat → Int32) (m_told : Nat → Int32) (m_now : Nat → Int32) (m_readTold : Nat → Int32) (m_readCell : Nat → Int32) (m_readKind : Nat → Int32) (m_text : Nat → Int32) (m_length : Int32) (m_at : Int32) (m_faultAt : Int32) (m_there : Int32) (m_stopped : Int32) (m_acts : Int32) (m_next : Int32) (m_row : Nat → Int32) (m_bestRow : Int32) (m_seen : Int32) (m_seenCell : Nat → Int32) (m_seenWay : Nat → Int32) (m_seenCame : Nat → Int32) (m_seed : Int64) (m_isKept : Nat → Int32) (m_kept : Nat → Int32) (p1 : Int32) (res : Int32) (h : tw_X7_fallen m_marbles m_now m_there p1 = some res) : Ct l yX7_fallen wsX7_fallen 1 21 D cy [.ref mh, .int p1] (cMd mh m_kindr m_toldr m_nowr m_readToldr m_readCellr m_readKindr m_textr m_rowr m_seenCellr m_seenWayr m_seenCamer m_isKeptr m_keptr cy.1 cy.2.2.1 m_marbles m_kind m_told m_now m_readTold m_readCell m_readKind m_text m_length m_at m_faultAt m_there m_stopped m_acts m_next m_row m_bestRow m_seen m_seenCell m_seenWay m_seenCame m_seed m_isKept m_kept) (cMd mh m_kindr m_toldr m_nowr m_readToldr m_readCellr m_readKindr m_textr m_rowr m_seenCellr m_seenWayr m_seenCamer m_isKeptr m_keptr cy.1 cy.2.2.1 m_marbles m_kind m_told m_now m_readTold m_readCell m_readKind m_text m_length m_at m_faultAt m_there m_stopped m_acts m_next m_row m_bestRow m_seen m_seenCell m_seenWay m_seenCame m_seed m_isKept m_kept) (some (.int res)) := by
  refine Ct.ofW (cc := cX7_fallen) (maxL := 4) (ret := (some .int)) (by decide) rfl (Nat.le_of_ble_eq_true rfl) ?_
  intro p e R s m args below meth c A Q ls hRf hRl hQ hx hb hr hml hts hown hlocks hE hP hD hS hA hl
  have hiX7 : ∀ w ∈ u_ws RX7 TX7 24, w ∈ wsX7_fallen := by decide +kernel
  have hl : lv_has ls 4 [(0, .ref mh), (1, .int p1)] := hl
  rw [tw_X7_fallen] at h
  have L4 : ∀ (n : Nat) (x2 : Int32) (x3 : Int32)  (H : Heap) (locs : List Loc) (ls : Array Slot), lv_has ls 4 [(0, .ref mh), (1, .int p1), (2, .int x2), (3, .int x3)] → va_P D vwCl (cMd mh m_kindr m_toldr m_nowr m_readToldr m_readCellr m_readKindr m_textr m_rowr m_seenCellr m_seenWayr m_seenCamer m_isKeptr m_keptr cy.1 cy.2.2.1 m_marbles m_kind m_told m_now m_readTold m_readCell m_readKind m_text m_length m_at m_faultAt m_there m_stopped m_acts m_next m_row m_bestRow m_seen m_seenCell m_seenWay m_seenCame m_seed m_isKept m_kept) H → va_D A (cMd mh m_kindr m_toldr m_nowr m_readToldr m_readCellr m_readKindr m_textr m_rowr m_seenCellr m_seenWayr m_seenCamer m_isKeptr m_keptr cy.1 cy.2.2.1 m_marbles m_kind m_told m_now m_readTold m_readCell m_readKind m_text m_length m_at m_faultAt m_there m_stopped m_acts m_next m_row m_bestRow m_seen m_seenCell m_seenWay m_seenCame m_seed m_isKept m_kept) → va_S A s.heap H locs → tw_X7_fallen_4 m_marbles m_now m_there p1 n x2 x3 = some res → W p l e R s m args below meth c H locs 0 0 Q (F0 m 4 ls []) := by
    intro n4
    induction n4 with
    | zero =>
      intro x2 x3  H locs ls hl hP hD hS h
      exact absurd h (by rw [tw_X7_fallen_4]; exact fun q => by cases q)
    | succ n4 ih4 =>
      intro x2 x3  H locs ls hl hP hD hS h
      rw [tw_X7_fallen_4] at h
      refine lv_iload_n hx hb dX7_fallen_4 rfl (lv_at hl 3 rfl) ?_
      refine lv_aload_n hx hb dX7_fallen_5 rfl (lv_at hl 0 rfl) ?_
      refine va_get (D := D) (ci := 7) (v := .int m_marbles) (C := RX7) (T := TX7) (N := 24) hx hb hts hiX7 hown hE.1 hP 0 rfl rfl 0 (by decide) (hts (.fieldLink RX7 92 "TiltTrayModel" "marbles" "I") (by decide +kernel)) (fun _ h9 => h9) rfl dX7_fallen_6 ?_
      refine lv_icmp_ge (tgt := 53) hx hb dX7_fallen_9 (by decide) (fun c1 => ?_) (fun c1 => ?_)
      · have h := oit h c1
        refine lv_iload_n hx hb dX7_fallen_53 rfl (lv_at hl 2 rfl) ?_
        obtain rfl := Option.some.inj h
        rw [hQ]; exact ct_iret hx hb hr hlocks hP hS rfl dX7_fallen_54
      · have h := oif h c1
        refine lv_iload_n hx hb dX7_fallen_12 rfl (lv_at hl 2 rfl) ?_
        refine lv_aload_n hx hb dX7_fallen_13 rfl (lv_at hl 0 rfl) ?_
        refine va_get (D := D) (ci := 7) (v := .int m_there) (C := RX7) (T := TX7) (N := 24) hx hb hts hiX7 hown hE.1 hP 0 rfl rfl 11 (by decide) (hts (.fieldLink RX7 31 "TiltTrayModel" "there" "I") (by decide +kernel)) (fun _ h9 => h9) rfl dX7_fallen_14 ?_
        refine lv_iload_n hx hb dX7_fallen_17 rfl (lv_at hl 3 rfl) ?_
        obtain ⟨q2, hq2, h⟩ := ob h
        refine kS (As := [.int m_there, .int x3]) (rest := [.int x2]) (w2 := cMd mh m_kindr m_toldr m_nowr m_readToldr m_readCellr m_readKindr m_textr m_rowr m_seenCellr m_seenWayr m_seenCamer m_isKeptr m_keptr cy.1 cy.2.2.1 m_marbles m_kind m_told m_now m_readTold m_readCell m_readKind m_text m_length m_at m_faultAt m_there m_stopped m_acts m_next m_row m_bestRow m_seen m_seenCell m_seenWay m_seenCame m_seed m_isKept m_kept) (n := 2) ⟨hx, hb, hml, hown, hts⟩ (c_X7_has l D cy m_there x3 q2 hq2) gX7_fallen_X7_has rfl (by decide +kernel) ⟨by rw [hRf]; exact Nat.le_of_ble_eq_true rfl, by rw [hRl]; exact Nat.le_of_ble_eq_true rfl⟩ hE hP hD hS hA [] rfl rfl rfl rfl rfl hl.1 rfl (Nat.le_of_ble_eq_true rfl) dX7_fallen_18 ⟨Nat.zero_le _, Nat.zero_le _⟩ (fun H locs hP hD hS => ?_)
        refine lv_if_eq (tgt := 44) hx hb dX7_fallen_21 (by decide) (fun c3 => ?_) (fun c3 => ?_)
        · have h := oit h c3
          refine lv_iconst (v := 0) hx hb dX7_fallen_44 (by decide) ?_
          refine lv_iadd hx hb dX7_fallen_45 ?_
          refine lv_istore_n (lv' := [(2, .int (x2 + 0)), (0, .ref mh), (1, .int p1), (3, .int x3)]) hx hb dX7_fallen_46 rfl hl (by decide) rfl (fun ls hl => ?_)
          refine lv_iinc (v := x3 + 1) (lv' := [(3, .int (x3 + 1)), (2, .int (x2 + 0)), (0, .ref mh), (1, .int p1)]) hx hb dX7_fallen_47 hl (k := 3) rfl rfl (by decide) rfl (fun ls hl => ?_)
          refine lv_goto (tgt := 4) hx hb dX7_fallen_50 (by decide) ?_
          exact ih4 (x2 + 0) (x3 + 1) _ _ _ (lv_sub hl [2, 3, 1, 0] rfl) hP hD hS h
        · have h := oif h c3
          refine lv_aload_n hx hb dX7_fallen_24 rfl (lv_at hl 0 rfl) ?_
          refine va_get (D := D) (ci := 7) (v := .ref m_nowr) (C := RX7) (T := TX7) (N := 24) hx hb hts hiX7 hown hE.1 hP 0 rfl rfl 3 (by decide) (hts (.fieldLink RX7 16 "TiltTrayModel" "now" "[I") (by decide +kernel)) (fun _ h9 => h9) rfl dX7_fallen_25 ?_
          refine lv_bipush (v := 7) hx hb dX7_fallen_28 (by decide) ?_
          refine lv_iload_n hx hb dX7_fallen_30 rfl (lv_at hl 1 rfl) ?_
          refine lv_imul hx hb dX7_fallen_31 ?_
          refine lv_iload_n hx hb dX7_fallen_32 rfl (lv_at hl 3 rfl) ?_
          refine lv_iadd hx hb dX7_fallen_33 ?_
          obtain ⟨g4, h⟩ := og h
          refine va_iald hx hb hE.1 hP 3 0 rfl rfl (ix_in g4) dX7_fallen_34 ?_
          refine lv_bipush (v := 100) hx hb dX7_fallen_35 (by decide) ?_
          refine lv_icmp_lt (tgt := 44) hx hb dX7_fallen_37 (by decide) (fun c5 => ?_) (fun c5 => ?_)
          · have h := oit h c5
            refine lv_iconst (v := 0) hx hb dX7_fallen_44 (by decide) ?_
            refine lv_iadd hx hb dX7_fallen_45 ?_
            refine lv_istore_n (lv' := [(2, .int (x2 + 0)), (0, .ref mh), (1, .int p1), (3, .int x3)]) hx hb dX7_fallen_46 rfl hl (by decide) rfl (fun ls hl => ?_)
            refine lv_iinc (v := x3 + 1) (lv' := [(3, .int (x3 + 1)), (2, .int (x2 + 0)), (0, .ref mh), (1, .int p1)]) hx hb dX7_fallen_47 hl (k := 3) rfl rfl (by decide) rfl (fun ls hl => ?_)
            refine lv_goto (tgt := 4) hx hb dX7_fallen_50 (by decide) ?_
            exact ih4 (x2 + 0) (x3 + 1) _ _ _ (lv_sub hl [2, 3, 1, 0] rfl) hP hD hS h
          · have h := oif h c5
            refine lv_iconst (v := 1) hx hb dX7_fallen_40 (by decide) ?_
            refine lv_goto (tgt := 45) hx hb dX7_fallen_41 (by decide) ?_
            refine lv_iadd hx hb dX7_fallen_45 ?_
            refine lv_istore_n (lv' := [(2, .int (x2 + 1)), (0, .ref mh), (1, .int p1), (3, .int x3)]) hx hb dX7_fallen_46 rfl hl (by decide) rfl (fun ls hl => ?_)
            refine lv_iinc (v := x3 + 1) (lv' := [(3, .int (x3 + 1)), (2, .int (x2 + 1)), (0, .ref mh), (1, .int p1)]) hx hb dX7_fallen_47 hl (k := 3) rfl rfl (by decide) rfl (fun ls hl => ?_)
            refine lv_goto (tgt := 4) hx hb dX7_fallen_50 (by decide) ?_
            exact ih4 (x2 + 1) (x3 + 1) _ _ _ (lv_sub hl [2, 3, 1, 0] rfl) hP hD hS h
  refine lv_iconst (v := 0) hx hb dX7_fallen_0 (by decide) ?_
  refine lv_istore_n (lv' := [(2, .int 0), (0, .ref mh), (1, .int p1)]) hx hb dX7_fallen_1 rfl hl (by decide) rfl (fun ls hl => ?_)
  refine lv_iconst (v := 0) hx hb dX7_fallen_2 (by decide) ?_
  refine lv_istore_n (lv' := [(3, .int 0), (2, .int 0), (0, .ref mh), (1, .int p1)]) hx hb dX7_fallen_3 rfl hl (by decide) rfl (fun ls hl => ?_)
  exact L4 6 0 0 _ _ _ (lv_sub hl [2, 3, 1, 0] rfl) hP hD hS h

def tw_X7_tiltOn_103 (m_marbles : Int32) (m_kind : Nat → Int32) (m_told : Nat → Int32) (m_there : Int32) (p1 : Int32) (p2 : Int32) (k92 : Int32 → Int32 → Int32 → (Nat → Int32) → Int32 → Option (Int32 × (Nat → Int32) × Int32)) : Nat → Int32 → Int32 → Int32 → Int32 → (Nat → Int32) → Int32 → Option (Int32 × (Nat → Int32) × Int32)
  | 0, _, _, _, _, _, _ => none
  | n + 1, x3, x4, x5, x6, m_now, m_stopped =>
    if m_marbles ≤ x6 then (k92 x3 x4 x5 m_now m_stopped) else ((tw_X7_roll m_marbles m_kind m_told m_now m_there m_stopped p1 x6 p2).bind (fun q2 => if q2.1 = 0 then (if x5 = 0 then ((tw_X7_tiltOn_103 m_marbles m_kind m_told m_there p1 p2 k92 n) x3 x4 0 (x6 + 1) q2.2.1 q2.2.2) else ((tw_X7_tiltOn_103 m_marbles m_kind m_told m_there p1 p2 k92 n) x3 x4 1 (x6 + 1) q2.2.1 q2.2.2)) else ((tw_X7_tiltOn_103 m_marbles m_kind m_told m_there p1 p2 k92 n) x3 x4 1 (x6 + 1) q2.2.1 q2.2.2)))
def tw_X7_tiltOn_92 (m_marbles : Int32) (m_kind : Nat → Int32) (m_told : Nat → Int32) (m_there : Int32) (p1 : Int32) (p2 : Int32) : Nat → Int32 → Int32 → Int32 → (Nat → Int32) → Int32 → Option (Int32 × (Nat → Int32) × Int32)
  | 0, _, _, _, _, _ => none
  | n + 1, x3, x4, x5, m_now, m_stopped =>
    if x5 = 0 then (if ix (x3 + 6) 14 = true then (if ix (x3 + 6) 14 = true then ((tw_X7_fallen m_marbles (upd m_now (x3 + 6).toNatClampNeg ((m_now (x3 + 6).toNatClampNeg) + 1)) m_there p1).bind (fun q8 => some (q8 - x4, upd m_now (x3 + 6).toNatClampNeg ((m_now (x3 + 6).toNatClampNeg) + 1), m_stopped))) else none) else none) else (tw_X7_tiltOn_103 m_marbles m_kind m_told m_there p1 p2 (tw_X7_tiltOn_92 m_marbles m_kind m_told m_there p1 p2 n) 6 x3 x4 0 0 m_now m_stopped)
def tw_X7_tiltOn_79 (m_marbles : Int32) (m_kind : Nat → Int32) (m_told : Nat → Int32) (m_there : Int32) (p1 : Int32) (p2 : Int32) (k20 : Int32 → Int32 → Int32 → (Nat → Int32) → Int32 → Option (Int32 × (Nat → Int32) × Int32)) (x3 : Int32) (x4 : Int32) (x5 : Int32) (z1 : Int32) (z2 : Int32) (m_now : Nat → Int32) (m_stopped : Int32) : Option (Int32 × (Nat → Int32) × Int32) :=
  k20 x3 x4 (x5 + 1) m_now (z1 ||| z2)
def tw_X7_tiltOn_78 (m_marbles : Int32) (m_kind : Nat → Int32) (m_told : Nat → Int32) (m_there : Int32) (p1 : Int32) (p2 : Int32) (k20 : Int32 → Int32 → Int32 → (Nat → Int32) → Int32 → Option (Int32 × (Nat → Int32) × Int32)) (x3 : Int32) (x4 : Int32) (x5 : Int32) (z1 : Int32) (m_now : Nat → Int32) (m_stopped : Int32) : Option (Int32 × (Nat → Int32) × Int32) :=
  tw_X7_tiltOn_79 m_marbles m_kind m_told m_there p1 p2 k20 x3 x4 x5 z1 0 m_now m_stopped
def tw_X7_tiltOn_20 (m_marbles : Int32) (m_kind : Nat → Int32) (m_told : Nat → Int32) (m_there : Int32) (p1 : Int32) (p2 : Int32) : Nat → Int32 → Int32 → Int32 → (Nat → Int32) → Int32 → Option (Int32 × (Nat → Int32) × Int32)
  | 0, _, _, _, _, _ => none
  | n + 1, x3, x4, x5, m_now, m_stopped =>
    if m_marbles ≤ x5 then (tw_X7_tiltOn_92 m_marbles m_kind m_told m_there p1 p2 20 x3 x4 1 m_now m_stopped) else ((tw_X7_isThere m_now m_there p1 x5).bind (fun q10 => if q10 = 0 then (tw_X7_tiltOn_78 m_marbles m_kind m_told m_there p1 p2 (tw_X7_tiltOn_20 m_marbles m_kind m_told m_there p1 p2 n) x3 x4 x5 m_stopped m_now m_stopped) else (if ix x5 4 = true then (if (m_kind x5.toNatClampNeg) = 1 then (if ix (x3 + x5) 14 = true then ((tw_X7_nearMagnet m_told (m_now (x3 + x5).toNatClampNeg)).bind (fun q15 => if q15 = 0 then (tw_X7_tiltOn_78 m_marbles m_kind m_told m_there p1 p2 (tw_X7_tiltOn_20 m_marbles m_kind m_told m_there p1 p2 n) x3 x4 x5 m_stopped m_now m_stopped) else (tw_X7_tiltOn_79 m_marbles m_kind m_told m_there p1 p2 (tw_X7_tiltOn_20 m_marbles m_kind m_told m_there p1 p2 n) x3 x4 x5 m_stopped (1 <<< (x5 &&& 31)) m_now m_stopped))) else none) else (tw_X7_tiltOn_78 m_marbles m_kind m_told m_there p1 p2 (tw_X7_tiltOn_20 m_marbles m_kind m_told m_there p1 p2 n) x3 x4 x5 m_stopped m_now m_stopped)) else none)))
def tw_X7_tiltOn (m_marbles : Int32) (m_kind : Nat → Int32) (m_told : Nat → Int32) (m_now : Nat → Int32) (m_there : Int32) (m_stopped : Int32) (p1 : Int32) (p2 : Int32) : Option (Int32 × (Nat → Int32) × Int32) :=
  (tw_X7_fallen m_marbles m_now m_there p1).bind (fun q17 => tw_X7_tiltOn_20 m_marbles m_kind m_told m_there p1 p2 6 (7 * p1) q17 0 m_now 0)
set_option maxHeartbeats 4000000 in
set_option maxRecDepth 100000 in
theorem c_X7_tiltOn (l : Launch) (D : va_G) (cy : Cy) (mh : Nat) (m_kindr : Nat) (m_toldr : Nat) (m_nowr : Nat) (m_readToldr : Nat) (m_readCellr : Nat) (m_readKindr : Nat) (m_textr : Nat) (m_rowr : Nat) (m_seenCellr : Nat) (m_seenWayr : Nat) (m_seenCamer : Nat) (m_isKeptr : Nat) (m_keptr : Nat) (m_marbles : Int32) (m_kind : Nat → Int32) (m_told : Nat → Int32) (m_now : Nat → Int32) (m_readTold : Nat → Int32) (m_readCell : Nat → Int32) (m_readKind : Nat → Int32) (m_text : Nat → Int32) (m_length : Int32) (m_at : Int32) (m_faultAt : Int32) (m_there : Int32) (m_stopped : Int32) (m_acts : Int32) (m_next : Int32) (m_row : Nat → Int32) (m_bestRow : Int32) (m_seen : Int32) (m_seenCell : Nat → Int32) (m_seenWay : Nat → Int32) (m_seenCame : Nat → Int32) (m_seed : Int64) (m_isKept : Nat → Int32) (m_kept : Nat → Int32) (p1 : Int32) (p2 : Int32) (res : Int32 × (Nat → Int32) × Int32) (h : tw_X7_tiltOn m_marbles m_kind m_told m_now m_there m_stopped p1 p2 = some res) : Ct l yX7_tiltOn wsX7_tiltOn 5 114 D cy [.ref mh, .int p1, .int p2] (cMd mh m_kindr m_toldr m_nowr m_readToldr m_readCellr m_readKindr m_textr m_rowr m_seenCellr m_seenWayr m_seenCamer m_isKeptr m_keptr cy.1 cy.2.2.1 m_marbles m_kind m_told m_now m_readTold m_readCell m_readKind m_text m_length m_at m_faultAt m_there m_stopped m_acts m_next m_row m_bestRow m_seen m_seenCell m_seenWay m_seenCame m_seed m_isKept m_kept) (cMd mh m_kindr m_toldr m_nowr m_readToldr m_readCellr m_readKindr m_textr m_rowr m_seenCellr m_seenWayr m_seenCamer m_isKeptr m_keptr cy.1 cy.2.2.1 m_marbles m_kind m_told res.2.1 m_readTold m_readCell m_readKind m_text m_length m_at m_faultAt m_there res.2.2 m_acts m_next m_row m_bestRow m_seen m_seenCell m_seenWay m_seenCame m_seed m_isKept m_kept) (some (.int res.1)) := by
  refine Ct.ofW (cc := cX7_tiltOn) (maxL := 7) (ret := (some .int)) (by decide) rfl (Nat.le_of_ble_eq_true rfl) ?_
  intro p e R s m args below meth c A Q ls hRf hRl hQ hx hb hr hml hts hown hlocks hE hP hD hS hA hl
  have hiX7 : ∀ w ∈ u_ws RX7 TX7 24, w ∈ wsX7_tiltOn := by decide +kernel
  have hl : lv_has ls 7 [(0, .ref mh), (1, .int p1), (2, .int p2)] := hl
  rw [tw_X7_tiltOn] at h
  have L92 : ∀ (n : Nat) (x3 : Int32) (x4 : Int32) (x5 : Int32) (m_now : Nat → Int32) (m_stopped : Int32)  (H : Heap) (locs : List Loc) (ls : Array Slot), lv_has ls 7 [(0, .ref mh), (1, .int p1), (2, .int p2), (3, .int x3), (4, .int x4), (5, .int x5)] → va_P D vwCl (cMd mh m_kindr m_toldr m_nowr m_readToldr m_readCellr m_readKindr m_textr m_rowr m_seenCellr m_seenWayr m_seenCamer m_isKeptr m_keptr cy.1 cy.2.2.1 m_marbles m_kind m_told m_now m_readTold m_readCell m_readKind m_text m_length m_at m_faultAt m_there m_stopped m_acts m_next m_row m_bestRow m_seen m_seenCell m_seenWay m_seenCame m_seed m_isKept m_kept) H → va_D A (cMd mh m_kindr m_toldr m_nowr m_readToldr m_readCellr m_readKindr m_textr m_rowr m_seenCellr m_seenWayr m_seenCamer m_isKeptr m_keptr cy.1 cy.2.2.1 m_marbles m_kind m_told m_now m_readTold m_readCell m_readKind m_text m_length m_at m_faultAt m_there m_stopped m_acts m_next m_row m_bestRow m_seen m_seenCell m_seenWay m_seenCame m_seed m_isKept m_kept) → va_S A s.heap H locs → tw_X7_tiltOn_92 m_marbles m_kind m_told m_there p1 p2 n x3 x4 x5 m_now m_stopped = some res → W p l e R s m args below meth c H locs 0 0 Q (F0 m 92 ls []) := by
    intro n92
    induction n92 with
    | zero =>
      intro x3 x4 x5 m_now m_stopped  H locs ls hl hP hD hS h
      exact absurd h (by rw [tw_X7_tiltOn_92]; exact fun q => by cases q)
    | succ n92 ih92 =>
      intro x3 x4 x5 m_now m_stopped  H locs ls hl hP hD hS h
      rw [tw_X7_tiltOn_92] at h
      have L103 : ∀ (n : Nat) (x3 : Int32) (x4 : Int32) (x5 : Int32) (x6 : Int32) (m_now : Nat → Int32) (m_stopped : Int32)  (H : Heap) (locs : List Loc) (ls : Array Slot), lv_has ls 7 [(0, .ref mh), (1, .int p1), (2, .int p2), (3, .int x3), (4, .int x4), (5, .int x5), (6, .int x6)] → va_P D vwCl (cMd mh m_kindr m_toldr m_nowr m_readToldr m_readCellr m_readKindr m_textr m_rowr m_seenCellr m_seenWayr m_seenCamer m_isKeptr m_keptr cy.1 cy.2.2.1 m_marbles m_kind m_told m_now m_readTold m_readCell m_readKind m_text m_length m_at m_faultAt m_there m_stopped m_acts m_next m_row m_bestRow m_seen m_seenCell m_seenWay m_seenCame m_seed m_isKept m_kept) H → va_D A (cMd mh m_kindr m_toldr m_nowr m_readToldr m_readCellr m_readKindr m_textr m_rowr m_seenCellr m_seenWayr m_seenCamer m_isKeptr m_keptr cy.1 cy.2.2.1 m_marbles m_kind m_told m_now m_readTold m_readCell m_readKind m_text m_length m_at m_faultAt m_there m_stopped m_acts m_next m_row m_bestRow m_seen m_seenCell m_seenWay m_seenCame m_seed m_isKept m_kept) → va_S A s.heap H locs → tw_X7_tiltOn_103 m_marbles m_kind m_told m_there p1 p2 (tw_X7_tiltOn_92 m_marbles m_kind m_told m_there p1 p2 n92) n x3 x4 x5 x6 m_now m_stopped = some res → W p l e R s m args below meth c H locs 0 0 Q (F0 m 103 ls []) := by
        intro n103
        induction n103 with
        | zero =>
          intro x3 x4 x5 x6 m_now m_stopped  H locs ls hl hP hD hS h
          exact absurd h (by rw [tw_X7_tiltOn_103]; exact fun q => by cases q)
        | succ n103 ih103 =>
          intro x3 x4 x5 x6 m_now m_stopped  H locs ls hl hP hD hS h
          rw [tw_X7_tiltOn_103] at h
          refine lv_iload hx hb dX7_tiltOn_103 (lv_at hl 6 rfl) ?_
          refine lv_aload_n hx hb dX7_tiltOn_105 rfl (lv_at hl 0 rfl) ?_
          refine va_get (D := D) (ci := 7) (v := .int m_marbles) (C := RX7) (T := TX7) (N := 24) hx hb hts hiX7 hown hE.1 hP 0 rfl rfl 0 (by decide) (hts (.fieldLink RX7 92 "TiltTrayModel" "marbles" "I") (by decide +kernel)) (fun _ h9 => h9) rfl dX7_tiltOn_106 ?_
          refine lv_icmp_ge (tgt := 141) hx hb dX7_tiltOn_109 (by decide) (fun c1 => ?_) (fun c1 => ?_)
          · have h := oit h c1
            refine lv_goto (tgt := 92) hx hb dX7_tiltOn_141 (by decide) ?_
            exact ih92 x3 x4 x5 m_now m_stopped _ _ _ (lv_sub hl [0, 1, 2, 3, 4, 5] rfl) hP hD hS h
          · have h := oif h c1
            refine lv_aload_n hx hb dX7_tiltOn_112 rfl (lv_at hl 0 rfl) ?_
            refine lv_iload_n hx hb dX7_tiltOn_113 rfl (lv_at hl 1 rfl) ?_
            refine lv_iload hx hb dX7_tiltOn_114 (lv_at hl 6 rfl) ?_
            refine lv_iload_n hx hb dX7_tiltOn_116 rfl (lv_at hl 2 rfl) ?_
            obtain ⟨q2, hq2, h⟩ := ob h
            refine kV (As := [.int p1, .int x6, .int p2]) (rest := []) (w2 := cMd mh m_kindr m_toldr m_nowr m_readToldr m_readCellr m_readKindr m_textr m_rowr m_seenCellr m_seenWayr m_seenCamer m_isKeptr m_keptr cy.1 cy.2.2.1 m_marbles m_kind m_told q2.2.1 m_readTold m_readCell m_readKind m_text m_length m_at m_faultAt m_there q2.2.2 m_acts m_next m_row m_bestRow m_seen m_seenCell m_seenWay m_seenCame m_seed m_isKept m_kept) (n := 3) (q0 := 0) ⟨hx, hb, hml, hown, hts⟩ (c_X7_roll l D cy mh m_kindr m_toldr m_nowr m_readToldr m_readCellr m_readKindr m_textr m_rowr m_seenCellr m_seenWayr m_seenCamer m_isKeptr m_keptr m_marbles m_kind m_told m_now m_readTold m_readCell m_readKind m_text m_length m_at m_faultAt m_there m_stopped m_acts m_next m_row m_bestRow m_seen m_seenCell m_seenWay m_seenCame m_seed m_isKept m_kept p1 x6 p2 q2 hq2) gX7_tiltOn_X7_roll rfl (by decide +kernel) ⟨by rw [hRf]; exact Nat.le_of_ble_eq_true rfl, by rw [hRl]; exact Nat.le_of_ble_eq_true rfl⟩ hE hP hD hS hA [0, 1, 2, 3, 4, 5, 6, 7, 8, 9, 10, 11, 12, 13] rfl rfl rfl rfl rfl rfl rfl hl.1 rfl (Nat.le_of_ble_eq_true rfl) dX7_tiltOn_117 ⟨Nat.zero_le _, Nat.zero_le _⟩ (fun H locs hP hD hS => ?_)
            refine lv_if_ne (tgt := 128) hx hb dX7_tiltOn_120 (by decide) (fun c3 => ?_) (fun c3 => ?_)
            · have h := oif h c3
              refine lv_iconst (v := 1) hx hb dX7_tiltOn_128 (by decide) ?_
              refine lv_goto (tgt := 133) hx hb dX7_tiltOn_129 (by decide) ?_
              refine lv_istore (lv' := [(5, .int 1), (0, .ref mh), (1, .int p1), (2, .int p2), (3, .int x3), (4, .int x4), (6, .int x6)]) hx hb dX7_tiltOn_133 hl (by decide) rfl (fun ls hl => ?_)
              refine lv_iinc (v := x6 + 1) (lv' := [(6, .int (x6 + 1)), (5, .int 1), (0, .ref mh), (1, .int p1), (2, .int p2), (3, .int x3), (4, .int x4)]) hx hb dX7_tiltOn_135 hl (k := 6) rfl rfl (by decide) rfl (fun ls hl => ?_)
              refine lv_goto (tgt := 103) hx hb dX7_tiltOn_138 (by decide) ?_
              exact ih103 x3 x4 1 (x6 + 1) q2.2.1 q2.2.2 _ _ _ (lv_sub hl [2, 3, 4, 5, 6, 1, 0] rfl) hP hD hS h
            · have h := oit h c3
              refine lv_iload hx hb dX7_tiltOn_123 (lv_at hl 5 rfl) ?_
              refine lv_if_eq (tgt := 132) hx hb dX7_tiltOn_125 (by decide) (fun c4 => ?_) (fun c4 => ?_)
              · have h := oit h c4
                refine lv_iconst (v := 0) hx hb dX7_tiltOn_132 (by decide) ?_
                refine lv_istore (lv' := [(5, .int 0), (0, .ref mh), (1, .int p1), (2, .int p2), (3, .int x3), (4, .int x4), (6, .int x6)]) hx hb dX7_tiltOn_133 hl (by decide) rfl (fun ls hl => ?_)
                refine lv_iinc (v := x6 + 1) (lv' := [(6, .int (x6 + 1)), (5, .int 0), (0, .ref mh), (1, .int p1), (2, .int p2), (3, .int x3), (4, .int x4)]) hx hb dX7_tiltOn_135 hl (k := 6) rfl rfl (by decide) rfl (fun ls hl => ?_)
                refine lv_goto (tgt := 103) hx hb dX7_tiltOn_138 (by decide) ?_
                exact ih103 x3 x4 0 (x6 + 1) q2.2.1 q2.2.2 _ _ _ (lv_sub hl [2, 3, 4, 5, 6, 1, 0] rfl) hP hD hS h
              · have h := oif h c4
                refine lv_iconst (v := 1) hx hb dX7_tiltOn_128 (by decide) ?_
                refine lv_goto (tgt := 133) hx hb dX7_tiltOn_129 (by decide) ?_
                refine lv_istore (lv' := [(5, .int 1), (0, .ref mh), (1, .int p1), (2, .int p2), (3, .int x3), (4, .int x4), (6, .int x6)]) hx hb dX7_tiltOn_133 hl (by decide) rfl (fun ls hl => ?_)
                refine lv_iinc (v := x6 + 1) (lv' := [(6, .int (x6 + 1)), (5, .int 1), (0, .ref mh), (1, .int p1), (2, .int p2), (3, .int x3), (4, .int x4)]) hx hb dX7_tiltOn_135 hl (k := 6) rfl rfl (by decide) rfl (fun ls hl => ?_)
                refine lv_goto (tgt := 103) hx hb dX7_tiltOn_138 (by decide) ?_
                exact ih103 x3 x4 1 (x6 + 1) q2.2.1 q2.2.2 _ _ _ (lv_sub hl [2, 3, 4, 5, 6, 1, 0] rfl) hP hD hS h
      refine lv_iload hx hb dX7_tiltOn_92 (lv_at hl 5 rfl) ?_
      refine lv_if_eq (tgt := 144) hx hb dX7_tiltOn_94 (by decide) (fun c5 => ?_) (fun c5 => ?_)
      · have h := oit h c5
        refine lv_aload_n hx hb dX7_tiltOn_144 rfl (lv_at hl 0 rfl) ?_
        refine va_get (D := D) (ci := 7) (v := .ref m_nowr) (C := RX7) (T := TX7) (N := 24) hx hb hts hiX7 hown hE.1 hP 0 rfl rfl 3 (by decide) (hts (.fieldLink RX7 16 "TiltTrayModel" "now" "[I") (by decide +kernel)) (fun _ h9 => h9) rfl dX7_tiltOn_145 ?_
        refine lv_iload_n hx hb dX7_tiltOn_148 rfl (lv_at hl 3 rfl) ?_
        refine lv_bipush (v := 6) hx hb dX7_tiltOn_149 (by decide) ?_
        refine lv_iadd hx hb dX7_tiltOn_151 ?_
        refine lv_dup2_11 hx hb dX7_tiltOn_152 rfl rfl ?_
        obtain ⟨g6, h⟩ := og h
        refine va_iald hx hb hE.1 hP 3 0 rfl rfl (ix_in g6) dX7_tiltOn_153 ?_
        refine lv_iconst (v := 1) hx hb dX7_tiltOn_154 (by decide) ?_
        refine lv_iadd hx hb dX7_tiltOn_155 ?_
        obtain ⟨g7, h⟩ := og h
        refine va_iast hx hb hE.1 hP hD hS 3 0 rfl rfl (ix_in g7) dX7_tiltOn_156 (fun H locs hP hD hS => ?_)
        have hP : va_P D vwCl (cMd mh m_kindr m_toldr m_nowr m_readToldr m_readCellr m_readKindr m_textr m_rowr m_seenCellr m_seenWayr m_seenCamer m_isKeptr m_keptr cy.1 cy.2.2.1 m_marbles m_kind m_told (upd m_now (x3 + 6).toNatClampNeg ((m_now (x3 + 6).toNatClampNeg) + 1)) m_readTold m_readCell m_readKind m_text m_length m_at m_faultAt m_there m_stopped m_acts m_next m_row m_bestRow m_seen m_seenCell m_seenWay m_seenCame m_seed m_isKept m_kept) H := hP
        have hD : va_D A (cMd mh m_kindr m_toldr m_nowr m_readToldr m_readCellr m_readKindr m_textr m_rowr m_seenCellr m_seenWayr m_seenCamer m_isKeptr m_keptr cy.1 cy.2.2.1 m_marbles m_kind m_told (upd m_now (x3 + 6).toNatClampNeg ((m_now (x3 + 6).toNatClampNeg) + 1)) m_readTold m_readCell m_readKind m_text m_length m_at m_faultAt m_there m_stopped m_acts m_next m_row m_bestRow m_seen m_seenCell m_seenWay m_seenCame m_seed m_isKept m_kept) := hD
        refine lv_aload_n hx hb dX7_tiltOn_157 rfl (lv_at hl 0 rfl) ?_
        refine lv_iload_n hx hb dX7_tiltOn_158 rfl (lv_at hl 1 rfl) ?_
        obtain ⟨q8, hq8, h⟩ := ob h
        refine kV (As := [.int p1]) (rest := []) (w2 := cMd mh m_kindr m_toldr m_nowr m_readToldr m_readCellr m_readKindr m_textr m_rowr m_seenCellr m_seenWayr m_seenCamer m_isKeptr m_keptr cy.1 cy.2.2.1 m_marbles m_kind m_told (upd m_now (x3 + 6).toNatClampNeg ((m_now (x3 + 6).toNatClampNeg) + 1)) m_readTold m_readCell m_readKind m_text m_length m_at m_faultAt m_there m_stopped m_acts m_next m_row m_bestRow m_seen m_seenCell m_seenWay m_seenCame m_seed m_isKept m_kept) (n := 1) (q0 := 0) ⟨hx, hb, hml, hown, hts⟩ (c_X7_fallen l D cy mh m_kindr m_toldr m_nowr m_readToldr m_readCellr m_readKindr m_textr m_rowr m_seenCellr m_seenWayr m_seenCamer m_isKeptr m_keptr m_marbles m_kind m_told (upd m_now (x3 + 6).toNatClampNeg ((m_now (x3 + 6).toNatClampNeg) + 1)) m_readTold m_readCell m_readKind m_text m_length m_at m_faultAt m_there m_stopped m_acts m_next m_row m_bestRow m_seen m_seenCell m_seenWay m_seenCame m_seed m_isKept m_kept p1 q8 hq8) gX7_tiltOn_X7_fallen rfl (by decide +kernel) ⟨by rw [hRf]; exact Nat.le_of_ble_eq_true rfl, by rw [hRl]; exact Nat.le_of_ble_eq_true rfl⟩ hE hP hD hS hA [0, 1, 2, 3, 4, 5, 6, 7, 8, 9, 10, 11, 12, 13] rfl rfl rfl rfl rfl rfl rfl hl.1 rfl (Nat.le_of_ble_eq_true rfl) dX7_tiltOn_159 ⟨Nat.zero_le _, Nat.zero_le _⟩ (fun H locs hP hD hS => ?_)
        refine lv_iload hx hb dX7_tiltOn_162 (lv_at hl 4 rfl) ?_
        refine lv_isub hx hb dX7_tiltOn_164 ?_
        obtain rfl := Option.some.inj h
        rw [hQ]; exact ct_iret hx hb hr hlocks hP hS rfl dX7_tiltOn_165
      · have h := oif h c5
        refine lv_iconst (v := 0) hx hb dX7_tiltOn_97 (by decide) ?_
        refine lv_istore (lv' := [(5, .int 0), (0, .ref mh), (1, .int p1), (2, .int p2), (3, .int x3), (4, .int x4)]) hx hb dX7_tiltOn_98 hl (by decide) rfl (fun ls hl => ?_)
        refine lv_iconst (v := 0) hx hb dX7_tiltOn_100 (by decide) ?_
        refine lv_istore (lv' := [(6, .int 0), (5, .int 0), (0, .ref mh), (1, .int p1), (2, .int p2), (3, .int x3), (4, .int x4)]) hx hb dX7_tiltOn_101 hl (by decide) rfl (fun ls hl => ?_)
        exact L103 6 x3 x4 0 0 m_now m_stopped _ _ _ (lv_sub hl [2, 3, 4, 5, 6, 1, 0] rfl) hP hD hS h
  have L20 : ∀ (n : Nat) (x3 : Int32) (x4 : Int32) (x5 : Int32) (m_now : Nat → Int32) (m_stopped : Int32)  (H : Heap) (locs : List Loc) (ls : Array Slot), lv_has ls 7 [(0, .ref mh), (1, .int p1), (2, .int p2), (3, .int x3), (4, .int x4), (5, .int x5)] → va_P D vwCl (cMd mh m_kindr m_toldr m_nowr m_readToldr m_readCellr m_readKindr m_textr m_rowr m_seenCellr m_seenWayr m_seenCamer m_isKeptr m_keptr cy.1 cy.2.2.1 m_marbles m_kind m_told m_now m_readTold m_readCell m_readKind m_text m_length m_at m_faultAt m_there m_stopped m_acts m_next m_row m_bestRow m_seen m_seenCell m_seenWay m_seenCame m_seed m_isKept m_kept) H → va_D A (cMd mh m_kindr m_toldr m_nowr m_readToldr m_readCellr m_readKindr m_textr m_rowr m_seenCellr m_seenWayr m_seenCamer m_isKeptr m_keptr cy.1 cy.2.2.1 m_marbles m_kind m_told m_now m_readTold m_readCell m_readKind m_text m_length m_at m_faultAt m_there m_stopped m_acts m_next m_row m_bestRow m_seen m_seenCell m_seenWay m_seenCame m_seed m_isKept m_kept) → va_S A s.heap H locs → tw_X7_tiltOn_20 m_marbles m_kind m_told m_there p1 p2 n x3 x4 x5 m_now m_stopped = some res → W p l e R s m args below meth c H locs 0 0 Q (F0 m 20 ls []) := by
    intro n20
    induction n20 with
    | zero =>
      intro x3 x4 x5 m_now m_stopped  H locs ls hl hP hD hS h
      exact absurd h (by rw [tw_X7_tiltOn_20]; exact fun q => by cases q)
    | succ n20 ih20 =>
      intro x3 x4 x5 m_now m_stopped  H locs ls hl hP hD hS h
      rw [tw_X7_tiltOn_20] at h
      have L79 : ∀ (x3 : Int32) (x4 : Int32) (x5 : Int32) (z1 : Int32) (z2 : Int32) (m_now : Nat → Int32) (m_stopped : Int32)  (H : Heap) (locs : List Loc) (ls : Array Slot), lv_has ls 7 [(0, .ref mh), (1, .int p1), (2, .int p2), (3, .int x3), (4, .int x4), (5, .int x5)] → va_P D vwCl (cMd mh m_kindr m_toldr m_nowr m_readToldr m_readCellr m_readKindr m_textr m_rowr m_seenCellr m_seenWayr m_seenCamer m_isKeptr m_keptr cy.1 cy.2.2.1 m_marbles m_kind m_told m_now m_readTold m_readCell m_readKind m_text m_length m_at m_faultAt m_there m_stopped m_acts m_next m_row m_bestRow m_seen m_seenCell m_seenWay m_seenCame m_seed m_isKept m_kept) H → va_D A (cMd mh m_kindr m_toldr m_nowr m_readToldr m_readCellr m_readKindr m_textr m_rowr m_seenCellr m_seenWayr m_seenCamer m_isKeptr m_keptr cy.1 cy.2.2.1 m_marbles m_kind m_told m_now m_readTold m_readCell m_readKind m_text m_length m_at m_faultAt m_there m_stopped m_acts m_next m_row m_bestRow m_seen m_seenCell m_seenWay m_seenCame m_seed m_isKept m_kept) → va_S A s.heap H locs → tw_X7_tiltOn_79 m_marbles m_kind m_told m_there p1 p2 (tw_X7_tiltOn_20 m_marbles m_kind m_told m_there p1 p2 n20) x3 x4 x5 z1 z2 m_now m_stopped = some res → W p l e R s m args below meth c H locs 0 0 Q (F0 m 79 ls [.int z2, .int z1, .ref mh]) := by
        intro x3 x4 x5 z1 z2 m_now m_stopped  H locs ls hl hP hD hS h
        rw [tw_X7_tiltOn_79] at h
        refine lv_ior hx hb dX7_tiltOn_79 ?_
        refine va_put (D := D) (ci := 7) (v := .int (z1 ||| z2)) (ty := .int) (C := RX7) (T := TX7) (N := 24) hx hb hts hiX7 tyX7 tyX7_ok nmX7 hown hE.1 hP hD hS 0 rfl rfl 12 (by decide) (hts (.fieldLink RX7 108 "TiltTrayModel" "stopped" "I") (by decide +kernel)) (fun _ h9 => h9) rfl (by decide +kernel) rfl rfl (Nat.le_of_ble_eq_true rfl) dX7_tiltOn_80 (fun H locs hP hD hS => ?_)
        have hP : va_P D vwCl (cMd mh m_kindr m_toldr m_nowr m_readToldr m_readCellr m_readKindr m_textr m_rowr m_seenCellr m_seenWayr m_seenCamer m_isKeptr m_keptr cy.1 cy.2.2.1 m_marbles m_kind m_told m_now m_readTold m_readCell m_readKind m_text m_length m_at m_faultAt m_there (z1 ||| z2) m_acts m_next m_row m_bestRow m_seen m_seenCell m_seenWay m_seenCame m_seed m_isKept m_kept) H := hP
        have hD : va_D A (cMd mh m_kindr m_toldr m_nowr m_readToldr m_readCellr m_readKindr m_textr m_rowr m_seenCellr m_seenWayr m_seenCamer m_isKeptr m_keptr cy.1 cy.2.2.1 m_marbles m_kind m_told m_now m_readTold m_readCell m_readKind m_text m_length m_at m_faultAt m_there (z1 ||| z2) m_acts m_next m_row m_bestRow m_seen m_seenCell m_seenWay m_seenCame m_seed m_isKept m_kept) := hD
        refine lv_iinc (v := x5 + 1) (lv' := [(5, .int (x5 + 1)), (0, .ref mh), (1, .int p1), (2, .int p2), (3, .int x3), (4, .int x4)]) hx hb dX7_tiltOn_83 hl (k := 5) rfl rfl (by decide) rfl (fun ls hl => ?_)
        refine lv_goto (tgt := 20) hx hb dX7_tiltOn_86 (by decide) ?_
        exact ih20 x3 x4 (x5 + 1) m_now (z1 ||| z2) _ _ _ (lv_sub hl [1, 2, 3, 4, 5, 0] rfl) hP hD hS h
      have L78 : ∀ (x3 : Int32) (x4 : Int32) (x5 : Int32) (z1 : Int32) (m_now : Nat → Int32) (m_stopped : Int32)  (H : Heap) (locs : List Loc) (ls : Array Slot), lv_has ls 7 [(0, .ref mh), (1, .int p1), (2, .int p2), (3, .int x3), (4, .int x4), (5, .int x5)] → va_P D vwCl (cMd mh m_kindr m_toldr m_nowr m_readToldr m_readCellr m_readKindr m_textr m_rowr m_seenCellr m_seenWayr m_seenCamer m_isKeptr m_keptr cy.1 cy.2.2.1 m_marbles m_kind m_told m_now m_readTold m_readCell m_readKind m_text m_length m_at m_faultAt m_there m_stopped m_acts m_next m_row m_bestRow m_seen m_seenCell m_seenWay m_seenCame m_seed m_isKept m_kept) H → va_D A (cMd mh m_kindr m_toldr m_nowr m_readToldr m_readCellr m_readKindr m_textr m_rowr m_seenCellr m_seenWayr m_seenCamer m_isKeptr m_keptr cy.1 cy.2.2.1 m_marbles m_kind m_told m_now m_readTold m_readCell m_readKind m_text m_length m_at m_faultAt m_there m_stopped m_acts m_next m_row m_bestRow m_seen m_seenCell m_seenWay m_seenCame m_seed m_isKept m_kept) → va_S A s.heap H locs → tw_X7_tiltOn_78 m_marbles m_kind m_told m_there p1 p2 (tw_X7_tiltOn_20 m_marbles m_kind m_told m_there p1 p2 n20) x3 x4 x5 z1 m_now m_stopped = some res → W p l e R s m args below meth c H locs 0 0 Q (F0 m 78 ls [.int z1, .ref mh]) := by
        intro x3 x4 x5 z1 m_now m_stopped  H locs ls hl hP hD hS h
        rw [tw_X7_tiltOn_78] at h
        refine lv_iconst (v := 0) hx hb dX7_tiltOn_78 (by decide) ?_
        exact L79 x3 x4 x5 z1 0 m_now m_stopped _ _ _ (lv_sub hl [0, 1, 2, 3, 4, 5] rfl) hP hD hS h
      refine lv_iload hx hb dX7_tiltOn_20 (lv_at hl 5 rfl) ?_
      refine lv_aload_n hx hb dX7_tiltOn_22 rfl (lv_at hl 0 rfl) ?_
      refine va_get (D := D) (ci := 7) (v := .int m_marbles) (C := RX7) (T := TX7) (N := 24) hx hb hts hiX7 hown hE.1 hP 0 rfl rfl 0 (by decide) (hts (.fieldLink RX7 92 "TiltTrayModel" "marbles" "I") (by decide +kernel)) (fun _ h9 => h9) rfl dX7_tiltOn_23 ?_
      refine lv_icmp_ge (tgt := 89) hx hb dX7_tiltOn_26 (by decide) (fun c9 => ?_) (fun c9 => ?_)
      · have h := oit h c9
        refine lv_iconst (v := 1) hx hb dX7_tiltOn_89 (by decide) ?_
        refine lv_istore (lv' := [(5, .int 1), (0, .ref mh), (1, .int p1), (2, .int p2), (3, .int x3), (4, .int x4)]) hx hb dX7_tiltOn_90 hl (by decide) rfl (fun ls hl => ?_)
        exact L92 20 x3 x4 1 m_now m_stopped _ _ _ (lv_sub hl [1, 2, 3, 4, 5, 0] rfl) hP hD hS h
      · have h := oif h c9
        refine lv_aload_n hx hb dX7_tiltOn_29 rfl (lv_at hl 0 rfl) ?_
        refine lv_dup hx hb dX7_tiltOn_30 rfl ?_
        refine va_get (D := D) (ci := 7) (v := .int m_stopped) (C := RX7) (T := TX7) (N := 24) hx hb hts hiX7 hown hE.1 hP 0 rfl rfl 12 (by decide) (hts (.fieldLink RX7 108 "TiltTrayModel" "stopped" "I") (by decide +kernel)) (fun _ h9 => h9) rfl dX7_tiltOn_31 ?_
        refine lv_aload_n hx hb dX7_tiltOn_34 rfl (lv_at hl 0 rfl) ?_
        refine lv_iload_n hx hb dX7_tiltOn_35 rfl (lv_at hl 1 rfl) ?_
        refine lv_iload hx hb dX7_tiltOn_36 (lv_at hl 5 rfl) ?_
        obtain ⟨q10, hq10, h⟩ := ob h
        refine kV (As := [.int p1, .int x5]) (rest := [.int m_stopped, .ref mh]) (w2 := cMd mh m_kindr m_toldr m_nowr m_readToldr m_readCellr m_readKindr m_textr m_rowr m_seenCellr m_seenWayr m_seenCamer m_isKeptr m_keptr cy.1 cy.2.2.1 m_marbles m_kind m_told m_now m_readTold m_readCell m_readKind m_text m_length m_at m_faultAt m_there m_stopped m_acts m_next m_row m_bestRow m_seen m_seenCell m_seenWay m_seenCame m_seed m_isKept m_kept) (n := 2) (q0 := 0) ⟨hx, hb, hml, hown, hts⟩ (c_X7_isThere l D cy mh m_kindr m_toldr m_nowr m_readToldr m_readCellr m_readKindr m_textr m_rowr m_seenCellr m_seenWayr m_seenCamer m_isKeptr m_keptr m_marbles m_kind m_told m_now m_readTold m_readCell m_readKind m_text m_length m_at m_faultAt m_there m_stopped m_acts m_next m_row m_bestRow m_seen m_seenCell m_seenWay m_seenCame m_seed m_isKept m_kept p1 x5 q10 hq10) gX7_tiltOn_X7_isThere rfl (by decide +kernel) ⟨by rw [hRf]; exact Nat.le_of_ble_eq_true rfl, by rw [hRl]; exact Nat.le_of_ble_eq_true rfl⟩ hE hP hD hS hA [0, 1, 2, 3, 4, 5, 6, 7, 8, 9, 10, 11, 12, 13] rfl rfl rfl rfl rfl rfl rfl hl.1 rfl (Nat.le_of_ble_eq_true rfl) dX7_tiltOn_38 ⟨Nat.zero_le _, Nat.zero_le _⟩ (fun H locs hP hD hS => ?_)
        refine lv_if_eq (tgt := 78) hx hb dX7_tiltOn_41 (by decide) (fun c11 => ?_) (fun c11 => ?_)
        · have h := oit h c11
          exact L78 x3 x4 x5 m_stopped m_now m_stopped _ _ _ (lv_sub hl [0, 1, 2, 3, 4, 5] rfl) hP hD hS h
        · have h := oif h c11
          refine lv_aload_n hx hb dX7_tiltOn_44 rfl (lv_at hl 0 rfl) ?_
          refine va_get (D := D) (ci := 7) (v := .ref m_kindr) (C := RX7) (T := TX7) (N := 24) hx hb hts hiX7 hown hE.1 hP 0 rfl rfl 1 (by decide) (hts (.fieldLink RX7 7 "TiltTrayModel" "kind" "[I") (by decide +kernel)) (fun _ h9 => h9) rfl dX7_tiltOn_45 ?_
          refine lv_iload hx hb dX7_tiltOn_48 (lv_at hl 5 rfl) ?_
          obtain ⟨g12, h⟩ := og h
          refine va_iald hx hb hE.1 hP 1 0 rfl rfl (ix_in g12) dX7_tiltOn_50 ?_
          refine lv_iconst (v := 1) hx hb dX7_tiltOn_51 (by decide) ?_
          refine lv_icmp_ne (tgt := 78) hx hb dX7_tiltOn_52 (by decide) (fun c13 => ?_) (fun c13 => ?_)
          · have h := oif h c13
            exact L78 x3 x4 x5 m_stopped m_now m_stopped _ _ _ (lv_sub hl [0, 1, 2, 3, 4, 5] rfl) hP hD hS h
          · have h := oit h c13
            refine lv_aload_n hx hb dX7_tiltOn_55 rfl (lv_at hl 0 rfl) ?_
            refine lv_aload_n hx hb dX7_tiltOn_56 rfl (lv_at hl 0 rfl) ?_
            refine va_get (D := D) (ci := 7) (v := .ref m_nowr) (C := RX7) (T := TX7) (N := 24) hx hb hts hiX7 hown hE.1 hP 0 rfl rfl 3 (by decide) (hts (.fieldLink RX7 16 "TiltTrayModel" "now" "[I") (by decide +kernel)) (fun _ h9 => h9) rfl dX7_tiltOn_57 ?_
            refine lv_iload_n hx hb dX7_tiltOn_60 rfl (lv_at hl 3 rfl) ?_
            refine lv_iload hx hb dX7_tiltOn_61 (lv_at hl 5 rfl) ?_
            refine lv_iadd hx hb dX7_tiltOn_63 ?_
            obtain ⟨g14, h⟩ := og h
            refine va_iald hx hb hE.1 hP 3 0 rfl rfl (ix_in g14) dX7_tiltOn_64 ?_
            obtain ⟨q15, hq15, h⟩ := ob h
            refine kV (As := [.int (m_now (x3 + x5).toNatClampNeg)]) (rest := [.int m_stopped, .ref mh]) (w2 := cMd mh m_kindr m_toldr m_nowr m_readToldr m_readCellr m_readKindr m_textr m_rowr m_seenCellr m_seenWayr m_seenCamer m_isKeptr m_keptr cy.1 cy.2.2.1 m_marbles m_kind m_told m_now m_readTold m_readCell m_readKind m_text m_length m_at m_faultAt m_there m_stopped m_acts m_next m_row m_bestRow m_seen m_seenCell m_seenWay m_seenCame m_seed m_isKept m_kept) (n := 1) (q0 := 0) ⟨hx, hb, hml, hown, hts⟩ (c_X7_nearMagnet l D cy mh m_kindr m_toldr m_nowr m_readToldr m_readCellr m_readKindr m_textr m_rowr m_seenCellr m_seenWayr m_seenCamer m_isKeptr m_keptr m_marbles m_kind m_told m_now m_readTold m_readCell m_readKind m_text m_length m_at m_faultAt m_there m_stopped m_acts m_next m_row m_bestRow m_seen m_seenCell m_seenWay m_seenCame m_seed m_isKept m_kept (m_now (x3 + x5).toNatClampNeg) q15 hq15) gX7_tiltOn_X7_nearMagnet rfl (by decide +kernel) ⟨by rw [hRf]; exact Nat.le_of_ble_eq_true rfl, by rw [hRl]; exact Nat.le_of_ble_eq_true rfl⟩ hE hP hD hS hA [0, 1, 2, 3, 4, 5, 6, 7, 8, 9, 10, 11, 12, 13] rfl rfl rfl rfl rfl rfl rfl hl.1 rfl (Nat.le_of_ble_eq_true rfl) dX7_tiltOn_65 ⟨Nat.zero_le _, Nat.zero_le _⟩ (fun H locs hP hD hS => ?_)
            refine lv_if_eq (tgt := 78) hx hb dX7_tiltOn_68 (by decide) (fun c16 => ?_) (fun c16 => ?_)
            · have h := oit h c16
              exact L78 x3 x4 x5 m_stopped m_now m_stopped _ _ _ (lv_sub hl [0, 1, 2, 3, 4, 5] rfl) hP hD hS h
            · have h := oif h c16
              refine lv_iconst (v := 1) hx hb dX7_tiltOn_71 (by decide) ?_
              refine lv_iload hx hb dX7_tiltOn_72 (lv_at hl 5 rfl) ?_
              refine lv_ishl hx hb dX7_tiltOn_74 ?_
              refine lv_goto (tgt := 79) hx hb dX7_tiltOn_75 (by decide) ?_
              exact L79 x3 x4 x5 m_stopped (1 <<< (x5 &&& 31)) m_now m_stopped _ _ _ (lv_sub hl [0, 1, 2, 3, 4, 5] rfl) hP hD hS h
  refine lv_bipush (v := 7) hx hb dX7_tiltOn_0 (by decide) ?_
  refine lv_iload_n hx hb dX7_tiltOn_2 rfl (lv_at hl 1 rfl) ?_
  refine lv_imul hx hb dX7_tiltOn_3 ?_
  refine lv_istore_n (lv' := [(3, .int (7 * p1)), (0, .ref mh), (1, .int p1), (2, .int p2)]) hx hb dX7_tiltOn_4 rfl hl (by decide) rfl (fun ls hl => ?_)
  refine lv_aload_n hx hb dX7_tiltOn_5 rfl (lv_at hl 1 rfl) ?_
  refine lv_iload_n hx hb dX7_tiltOn_6 rfl (lv_at hl 2 rfl) ?_
  obtain ⟨q17, hq17, h⟩ := ob h
  refine kV (As := [.int p1]) (rest := []) (w2 := cMd mh m_kindr m_toldr m_nowr m_readToldr m_readCellr m_readKindr m_textr m_rowr m_seenCellr m_seenWayr m_seenCamer m_isKeptr m_keptr cy.1 cy.2.2.1 m_marbles m_kind m_told m_now m_readTold m_readCell m_readKind m_text m_length m_at m_faultAt m_there m_stopped m_acts m_next m_row m_bestRow m_seen m_seenCell m_seenWay m_seenCame m_seed m_isKept m_kept) (n := 1) (q0 := 0) ⟨hx, hb, hml, hown, hts⟩ (c_X7_fallen l D cy mh m_kindr m_toldr m_nowr m_readToldr m_readCellr m_readKindr m_textr m_rowr m_seenCellr m_seenWayr m_seenCamer m_isKeptr m_keptr m_marbles m_kind m_told m_now m_readTold m_readCell m_readKind m_text m_length m_at m_faultAt m_there m_stopped m_acts m_next m_row m_bestRow m_seen m_seenCell m_seenWay m_seenCame m_seed m_isKept m_kept p1 q17 hq17) gX7_tiltOn_X7_fallen rfl (by decide +kernel) ⟨by rw [hRf]; exact Nat.le_of_ble_eq_true rfl, by rw [hRl]; exact Nat.le_of_ble_eq_true rfl⟩ hE hP hD hS hA [0, 1, 2, 3, 4, 5, 6, 7, 8, 9, 10, 11, 12, 13] rfl rfl rfl rfl rfl rfl rfl hl.1 rfl (Nat.le_of_ble_eq_true rfl) dX7_tiltOn_7 ⟨Nat.zero_le _, Nat.zero_le _⟩ (fun H locs hP hD hS => ?_)
  refine lv_istore (lv' := [(4, .int q17), (3, .int (7 * p1)), (0, .ref mh), (1, .int p1), (2, .int p2)]) hx hb dX7_tiltOn_10 hl (by decide) rfl (fun ls hl => ?_)
  refine lv_aload_n hx hb dX7_tiltOn_12 rfl (lv_at hl 2 rfl) ?_
  refine lv_iconst (v := 0) hx hb dX7_tiltOn_13 (by decide) ?_
  refine va_put (D := D) (ci := 7) (v := .int 0) (ty := .int) (C := RX7) (T := TX7) (N := 24) hx hb hts hiX7 tyX7 tyX7_ok nmX7 hown hE.1 hP hD hS 0 rfl rfl 12 (by decide) (hts (.fieldLink RX7 108 "TiltTrayModel" "stopped" "I") (by decide +kernel)) (fun _ h9 => h9) rfl (by decide +kernel) rfl rfl (Nat.le_of_ble_eq_true rfl) dX7_tiltOn_14 (fun H locs hP hD hS => ?_)
  have hP : va_P D vwCl (cMd mh m_kindr m_toldr m_nowr m_readToldr m_readCellr m_readKindr m_textr m_rowr m_seenCellr m_seenWayr m_seenCamer m_isKeptr m_keptr cy.1 cy.2.2.1 m_marbles m_kind m_told m_now m_readTold m_readCell m_readKind m_text m_length m_at m_faultAt m_there 0 m_acts m_next m_row m_bestRow m_seen m_seenCell m_seenWay m_seenCame m_seed m_isKept m_kept) H := hP
  have hD : va_D A (cMd mh m_kindr m_toldr m_nowr m_readToldr m_readCellr m_readKindr m_textr m_rowr m_seenCellr m_seenWayr m_seenCamer m_isKeptr m_keptr cy.1 cy.2.2.1 m_marbles m_kind m_told m_now m_readTold m_readCell m_readKind m_text m_length m_at m_faultAt m_there 0 m_acts m_next m_row m_bestRow m_seen m_seenCell m_seenWay m_seenCame m_seed m_isKept m_kept) := hD
  refine lv_iconst (v := 0) hx hb dX7_tiltOn_17 (by decide) ?_
  refine lv_istore (lv' := [(5, .int 0), (4, .int q17), (3, .int (7 * p1)), (0, .ref mh), (1, .int p1), (2, .int p2)]) hx hb dX7_tiltOn_18 hl (by decide) rfl (fun ls hl => ?_)
  exact L20 6 (7 * p1) q17 0 m_now 0 _ _ _ (lv_sub hl [3, 4, 5, 2, 1, 0] rfl) hP hD hS h

def tw_X7_layTrial (m_now : Nat → Int32) : Option ((Nat → Int32)) :=
  some (upd (upd (upd (upd (upd (upd (upd m_now (7 : Int32).toNatClampNeg (m_now (0 : Int32).toNatClampNeg)) (8 : Int32).toNatClampNeg ((upd m_now (7 : Int32).toNatClampNeg (m_now (0 : Int32).toNatClampNeg)) (1 : Int32).toNatClampNeg)) (9 : Int32).toNatClampNeg ((upd (upd m_now (7 : Int32).toNatClampNeg (m_now (0 : Int32).toNatClampNeg)) (8 : Int32).toNatClampNeg ((upd m_now (7 : Int32).toNatClampNeg (m_now (0 : Int32).toNatClampNeg)) (1 : Int32).toNatClampNeg)) (2 : Int32).toNatClampNeg)) (10 : Int32).toNatClampNeg ((upd (upd (upd m_now (7 : Int32).toNatClampNeg (m_now (0 : Int32).toNatClampNeg)) (8 : Int32).toNatClampNeg ((upd m_now (7 : Int32).toNatClampNeg (m_now (0 : Int32).toNatClampNeg)) (1 : Int32).toNatClampNeg)) (9 : Int32).toNatClampNeg ((upd (upd m_now (7 : Int32).toNatClampNeg (m_now (0 : Int32).toNatClampNeg)) (8 : Int32).toNatClampNeg ((upd m_now (7 : Int32).toNatClampNeg (m_now (0 : Int32).toNatClampNeg)) (1 : Int32).toNatClampNeg)) (2 : Int32).toNatClampNeg)) (3 : Int32).toNatClampNeg)) (11 : Int32).toNatClampNeg ((upd (upd (upd (upd m_now (7 : Int32).toNatClampNeg (m_now (0 : Int32).toNatClampNeg)) (8 : Int32).toNatClampNeg ((upd m_now (7 : Int32).toNatClampNeg (m_now (0 : Int32).toNatClampNeg)) (1 : Int32).toNatClampNeg)) (9 : Int32).toNatClampNeg ((upd (upd m_now (7 : Int32).toNatClampNeg (m_now (0 : Int32).toNatClampNeg)) (8 : Int32).toNatClampNeg ((upd m_now (7 : Int32).toNatClampNeg (m_now (0 : Int32).toNatClampNeg)) (1 : Int32).toNatClampNeg)) (2 : Int32).toNatClampNeg)) (10 : Int32).toNatClampNeg ((upd (upd (upd m_now (7 : Int32).toNatClampNeg (m_now (0 : Int32).toNatClampNeg)) (8 : Int32).toNatClampNeg ((upd m_now (7 : Int32).toNatClampNeg (m_now (0 : Int32).toNatClampNeg)) (1 : Int32).toNatClampNeg)) (9 : Int32).toNatClampNeg ((upd (upd m_now (7 : Int32).toNatClampNeg (m_now (0 : Int32).toNatClampNeg)) (8 : Int32).toNatClampNeg ((upd m_now (7 : Int32).toNatClampNeg (m_now (0 : Int32).toNatClampNeg)) (1 : Int32).toNatClampNeg)) (2 : Int32).toNatClampNeg)) (3 : Int32).toNatClampNeg)) (4 : Int32).toNatClampNeg)) (12 : Int32).toNatClampNeg ((upd (upd (upd (upd (upd m_now (7 : Int32).toNatClampNeg (m_now (0 : Int32).toNatClampNeg)) (8 : Int32).toNatClampNeg ((upd m_now (7 : Int32).toNatClampNeg (m_now (0 : Int32).toNatClampNeg)) (1 : Int32).toNatClampNeg)) (9 : Int32).toNatClampNeg ((upd (upd m_now (7 : Int32).toNatClampNeg (m_now (0 : Int32).toNatClampNeg)) (8 : Int32).toNatClampNeg ((upd m_now (7 : Int32).toNatClampNeg (m_now (0 : Int32).toNatClampNeg)) (1 : Int32).toNatClampNeg)) (2 : Int32).toNatClampNeg)) (10 : Int32).toNatClampNeg ((upd (upd (upd m_now (7 : Int32).toNatClampNeg (m_now (0 : Int32).toNatClampNeg)) (8 : Int32).toNatClampNeg ((upd m_now (7 : Int32).toNatClampNeg (m_now (0 : Int32).toNatClampNeg)) (1 : Int32).toNatClampNeg)) (9 : Int32).toNatClampNeg ((upd (upd m_now (7 : Int32).toNatClampNeg (m_now (0 : Int32).toNatClampNeg)) (8 : Int32).toNatClampNeg ((upd m_now (7 : Int32).toNatClampNeg (m_now (0 : Int32).toNatClampNeg)) (1 : Int32).toNatClampNeg)) (2 : Int32).toNatClampNeg)) (3 : Int32).toNatClampNeg)) (11 : Int32).toNatClampNeg ((upd (upd (upd (upd m_now (7 : Int32).toNatClampNeg (m_now (0 : Int32).toNatClampNeg)) (8 : Int32).toNatClampNeg ((upd m_now (7 : Int32).toNatClampNeg (m_now (0 : Int32).toNatClampNeg)) (1 : Int32).toNatClampNeg)) (9 : Int32).toNatClampNeg ((upd (upd m_now (7 : Int32).toNatClampNeg (m_now (0 : Int32).toNatClampNeg)) (8 : Int32).toNatClampNeg ((upd m_now (7 : Int32).toNatClampNeg (m_now (0 : Int32).toNatClampNeg)) (1 : Int32).toNatClampNeg)) (2 : Int32).toNatClampNeg)) (10 : Int32).toNatClampNeg ((upd (upd (upd m_now (7 : Int32).toNatClampNeg (m_now (0 : Int32).toNatClampNeg)) (8 : Int32).toNatClampNeg ((upd m_now (7 : Int32).toNatClampNeg (m_now (0 : Int32).toNatClampNeg)) (1 : Int32).toNatClampNeg)) (9 : Int32).toNatClampNeg ((upd (upd m_now (7 : Int32).toNatClampNeg (m_now (0 : Int32).toNatClampNeg)) (8 : Int32).toNatClampNeg ((upd m_now (7 : Int32).toNatClampNeg (m_now (0 : Int32).toNatClampNeg)) (1 : Int32).toNatClampNeg)) (2 : Int32).toNatClampNeg)) (3 : Int32).toNatClampNeg)) (4 : Int32).toNatClampNeg)) (5 : Int32).toNatClampNeg)) (13 : Int32).toNatClampNeg ((upd (upd (upd (upd (upd (upd m_now (7 : Int32).toNatClampNeg (m_now (0 : Int32).toNatClampNeg)) (8 : Int32).toNatClampNeg ((upd m_now (7 : Int32).toNatClampNeg (m_now (0 : Int32).toNatClampNeg)) (1 : Int32).toNatClampNeg)) (9 : Int32).toNatClampNeg ((upd (upd m_now (7 : Int32).toNatClampNeg (m_now (0 : Int32).toNatClampNeg)) (8 : Int32).toNatClampNeg ((upd m_now (7 : Int32).toNatClampNeg (m_now (0 : Int32).toNatClampNeg)) (1 : Int32).toNatClampNeg)) (2 : Int32).toNatClampNeg)) (10 : Int32).toNatClampNeg ((upd (upd (upd m_now (7 : Int32).toNatClampNeg (m_now (0 : Int32).toNatClampNeg)) (8 : Int32).toNatClampNeg ((upd m_now (7 : Int32).toNatClampNeg (m_now (0 : Int32).toNatClampNeg)) (1 : Int32).toNatClampNeg)) (9 : Int32).toNatClampNeg ((upd (upd m_now (7 : Int32).toNatClampNeg (m_now (0 : Int32).toNatClampNeg)) (8 : Int32).toNatClampNeg ((upd m_now (7 : Int32).toNatClampNeg (m_now (0 : Int32).toNatClampNeg)) (1 : Int32).toNatClampNeg)) (2 : Int32).toNatClampNeg)) (3 : Int32).toNatClampNeg)) (11 : Int32).toNatClampNeg ((upd (upd (upd (upd m_now (7 : Int32).toNatClampNeg (m_now (0 : Int32).toNatClampNeg)) (8 : Int32).toNatClampNeg ((upd m_now (7 : Int32).toNatClampNeg (m_now (0 : Int32).toNatClampNeg)) (1 : Int32).toNatClampNeg)) (9 : Int32).toNatClampNeg ((upd (upd m_now (7 : Int32).toNatClampNeg (m_now (0 : Int32).toNatClampNeg)) (8 : Int32).toNatClampNeg ((upd m_now (7 : Int32).toNatClampNeg (m_now (0 : Int32).toNatClampNeg)) (1 : Int32).toNatClampNeg)) (2 : Int32).toNatClampNeg)) (10 : Int32).toNatClampNeg ((upd (upd (upd m_now (7 : Int32).toNatClampNeg (m_now (0 : Int32).toNatClampNeg)) (8 : Int32).toNatClampNeg ((upd m_now (7 : Int32).toNatClampNeg (m_now (0 : Int32).toNatClampNeg)) (1 : Int32).toNatClampNeg)) (9 : Int32).toNatClampNeg ((upd (upd m_now (7 : Int32).toNatClampNeg (m_now (0 : Int32).toNatClampNeg)) (8 : Int32).toNatClampNeg ((upd m_now (7 : Int32).toNatClampNeg (m_now (0 : Int32).toNatClampNeg)) (1 : Int32).toNatClampNeg)) (2 : Int32).toNatClampNeg)) (3 : Int32).toNatClampNeg)) (4 : Int32).toNatClampNeg)) (12 : Int32).toNatClampNeg ((upd (upd (upd (upd (upd m_now (7 : Int32).toNatClampNeg (m_now (0 : Int32).toNatClampNeg)) (8 : Int32).toNatClampNeg ((upd m_now (7 : Int32).toNatClampNeg (m_now (0 : Int32).toNatClampNeg)) (1 : Int32).toNatClampNeg)) (9 : Int32).toNatClampNeg ((upd (upd m_now (7 : Int32).toNatClampNeg (m_now (0 : Int32).toNatClampNeg)) (8 : Int32).toNatClampNeg ((upd m_now (7 : Int32).toNatClampNeg (m_now (0 : Int32).toNatClampNeg)) (1 : Int32).toNatClampNeg)) (2 : Int32).toNatClampNeg)) (10 : Int32).toNatClampNeg ((upd (upd (upd m_now (7 : Int32).toNatClampNeg (m_now (0 : Int32).toNatClampNeg)) (8 : Int32).toNatClampNeg ((upd m_now (7 : Int32).toNatClampNeg (m_now (0 : Int32).toNatClampNeg)) (1 : Int32).toNatClampNeg)) (9 : Int32).toNatClampNeg ((upd (upd m_now (7 : Int32).toNatClampNeg (m_now (0 : Int32).toNatClampNeg)) (8 : Int32).toNatClampNeg ((upd m_now (7 : Int32).toNatClampNeg (m_now (0 : Int32).toNatClampNeg)) (1 : Int32).toNatClampNeg)) (2 : Int32).toNatClampNeg)) (3 : Int32).toNatClampNeg)) (11 : Int32).toNatClampNeg ((upd (upd (upd (upd m_now (7 : Int32).toNatClampNeg (m_now (0 : Int32).toNatClampNeg)) (8 : Int32).toNatClampNeg ((upd m_now (7 : Int32).toNatClampNeg (m_now (0 : Int32).toNatClampNeg)) (1 : Int32).toNatClampNeg)) (9 : Int32).toNatClampNeg ((upd (upd m_now (7 : Int32).toNatClampNeg (m_now (0 : Int32).toNatClampNeg)) (8 : Int32).toNatClampNeg ((upd m_now (7 : Int32).toNatClampNeg (m_now (0 : Int32).toNatClampNeg)) (1 : Int32).toNatClampNeg)) (2 : Int32).toNatClampNeg)) (10 : Int32).toNatClampNeg ((upd (upd (upd m_now (7 : Int32).toNatClampNeg (m_now (0 : Int32).toNatClampNeg)) (8 : Int32).toNatClampNeg ((upd m_now (7 : Int32).toNatClampNeg (m_now (0 : Int32).toNatClampNeg)) (1 : Int32).toNatClampNeg)) (9 : Int32).toNatClampNeg ((upd (upd m_now (7 : Int32).toNatClampNeg (m_now (0 : Int32).toNatClampNeg)) (8 : Int32).toNatClampNeg ((upd m_now (7 : Int32).toNatClampNeg (m_now (0 : Int32).toNatClampNeg)) (1 : Int32).toNatClampNeg)) (2 : Int32).toNatClampNeg)) (3 : Int32).toNatClampNeg)) (4 : Int32).toNatClampNeg)) (5 : Int32).toNatClampNeg)) (6 : Int32).toNatClampNeg))
set_option maxHeartbeats 4000000 in
set_option maxRecDepth 100000 in
theorem c_X7_layTrial (l : Launch) (D : va_G) (cy : Cy) (mh : Nat) (m_kindr : Nat) (m_toldr : Nat) (m_nowr : Nat) (m_readToldr : Nat) (m_readCellr : Nat) (m_readKindr : Nat) (m_textr : Nat) (m_rowr : Nat) (m_seenCellr : Nat) (m_seenWayr : Nat) (m_seenCamer : Nat) (m_isKeptr : Nat) (m_keptr : Nat) (m_marbles : Int32) (m_kind : Nat → Int32) (m_told : Nat → Int32) (m_now : Nat → Int32) (m_readTold : Nat → Int32) (m_readCell : Nat → Int32) (m_readKind : Nat → Int32) (m_text : Nat → Int32) (m_length : Int32) (m_at : Int32) (m_faultAt : Int32) (m_there : Int32) (m_stopped : Int32) (m_acts : Int32) (m_next : Int32) (m_row : Nat → Int32) (m_bestRow : Int32) (m_seen : Int32) (m_seenCell : Nat → Int32) (m_seenWay : Nat → Int32) (m_seenCame : Nat → Int32) (m_seed : Int64) (m_isKept : Nat → Int32) (m_kept : Nat → Int32) (res : (Nat → Int32)) (h : tw_X7_layTrial m_now = some res) : Ct l yX7_layTrial wsX7_layTrial 0 0 D cy [.ref mh] (cMd mh m_kindr m_toldr m_nowr m_readToldr m_readCellr m_readKindr m_textr m_rowr m_seenCellr m_seenWayr m_seenCamer m_isKeptr m_keptr cy.1 cy.2.2.1 m_marbles m_kind m_told m_now m_readTold m_readCell m_readKind m_text m_length m_at m_faultAt m_there m_stopped m_acts m_next m_row m_bestRow m_seen m_seenCell m_seenWay m_seenCame m_seed m_isKept m_kept) (cMd mh m_kindr m_toldr m_nowr m_readToldr m_readCellr m_readKindr m_textr m_rowr m_seenCellr m_seenWayr m_seenCamer m_isKeptr m_keptr cy.1 cy.2.2.1 m_marbles m_kind m_told res m_readTold m_readCell m_readKind m_text m_length m_at m_faultAt m_there m_stopped m_acts m_next m_row m_bestRow m_seen m_seenCell m_seenWay m_seenCame m_seed m_isKept m_kept) (none) := by
  refine Ct.ofW (cc := cX7_layTrial) (maxL := 2) (ret := none) (by decide) rfl (Nat.le_of_ble_eq_true rfl) ?_
  intro p e R s m args below meth c A Q ls hRf hRl hQ hx hb hr hml hts hown hlocks hE hP hD hS hA hl
  have hiX7 : ∀ w ∈ u_ws RX7 TX7 24, w ∈ wsX7_layTrial := by decide +kernel
  have hl : lv_has ls 2 [(0, .ref mh)] := hl
  rw [tw_X7_layTrial] at h
  refine lv_iconst (v := 0) hx hb dX7_layTrial_0 (by decide) ?_
  refine lv_istore_n (lv' := [(1, .int 0), (0, .ref mh)]) hx hb dX7_layTrial_1 rfl hl (by decide) rfl (fun ls hl => ?_)
  refine lv_iload_n hx hb dX7_layTrial_2 rfl (lv_at hl 0 rfl) ?_
  refine lv_bipush (v := 7) hx hb dX7_layTrial_3 (by decide) ?_
  refine lv_icmp_ge (tgt := 29) hx hb dX7_layTrial_5 (by decide) (fun c1 => absurd c1 (by decide)) (fun _ => ?_)
  refine lv_aload_n hx hb dX7_layTrial_8 rfl (lv_at hl 1 rfl) ?_
  refine va_get (D := D) (ci := 7) (v := .ref m_nowr) (C := RX7) (T := TX7) (N := 24) hx hb hts hiX7 hown hE.1 hP 0 rfl rfl 3 (by decide) (hts (.fieldLink RX7 16 "TiltTrayModel" "now" "[I") (by decide +kernel)) (fun _ h9 => h9) rfl dX7_layTrial_9 ?_
  refine lv_bipush (v := 7) hx hb dX7_layTrial_12 (by decide) ?_
  refine lv_iload_n hx hb dX7_layTrial_14 rfl (lv_at hl 0 rfl) ?_
  refine lv_iadd hx hb dX7_layTrial_15 ?_
  refine lv_fold (y := 7) (by decide) ?_
  refine lv_aload_n hx hb dX7_layTrial_16 rfl (lv_at hl 1 rfl) ?_
  refine va_get (D := D) (ci := 7) (v := .ref m_nowr) (C := RX7) (T := TX7) (N := 24) hx hb hts hiX7 hown hE.1 hP 0 rfl rfl 3 (by decide) (hts (.fieldLink RX7 16 "TiltTrayModel" "now" "[I") (by decide +kernel)) (fun _ h9 => h9) rfl dX7_layTrial_17 ?_
  refine lv_iload_n hx hb dX7_layTrial_20 rfl (lv_at hl 0 rfl) ?_
  refine va_iald hx hb hE.1 hP 3 0 rfl rfl (ix_in (by decide)) dX7_layTrial_21 ?_
  refine va_iast hx hb hE.1 hP hD hS 3 0 rfl rfl (ix_in (by decide)) dX7_layTrial_22 (fun H locs hP hD hS => ?_)
  have hP : va_P D vwCl (cMd mh m_kindr m_toldr m_nowr m_readToldr m_readCellr m_readKindr m_textr m_rowr m_seenCellr m_seenWayr m_seenCamer m_isKeptr m_keptr cy.1 cy.2.2.1 m_marbles m_kind m_told (upd m_now (7 : Int32).toNatClampNeg (m_now (0 : Int32).toNatClampNeg)) m_readTold m_readCell m_readKind m_text m_length m_at m_faultAt m_there m_stopped m_acts m_next m_row m_bestRow m_seen m_seenCell m_seenWay m_seenCame m_seed m_isKept m_kept) H := hP
  have hD : va_D A (cMd mh m_kindr m_toldr m_nowr m_readToldr m_readCellr m_readKindr m_textr m_rowr m_seenCellr m_seenWayr m_seenCamer m_isKeptr m_keptr cy.1 cy.2.2.1 m_marbles m_kind m_told (upd m_now (7 : Int32).toNatClampNeg (m_now (0 : Int32).toNatClampNeg)) m_readTold m_readCell m_readKind m_text m_length m_at m_faultAt m_there m_stopped m_acts m_next m_row m_bestRow m_seen m_seenCell m_seenWay m_seenCame m_seed m_isKept m_kept) := hD
  refine lv_iinc (v := 1) (lv' := [(1, .int 1), (0, .ref mh)]) hx hb dX7_layTrial_23 hl (k := 0) rfl (by decide) (by decide) rfl (fun ls hl => ?_)
  refine lv_goto (tgt := 2) hx hb dX7_layTrial_26 (by decide) ?_
  refine lv_iload_n hx hb dX7_layTrial_2 rfl (lv_at hl 0 rfl) ?_
  refine lv_bipush (v := 7) hx hb dX7_layTrial_3 (by decide) ?_
  refine lv_icmp_ge (tgt := 29) hx hb dX7_layTrial_5 (by decide) (fun c2 => absurd c2 (by decide)) (fun _ => ?_)
  refine lv_aload_n hx hb dX7_layTrial_8 rfl (lv_at hl 1 rfl) ?_
  refine va_get (D := D) (ci := 7) (v := .ref m_nowr) (C := RX7) (T := TX7) (N := 24) hx hb hts hiX7 hown hE.1 hP 0 rfl rfl 3 (by decide) (hts (.fieldLink RX7 16 "TiltTrayModel" "now" "[I") (by decide +kernel)) (fun _ h9 => h9) rfl dX7_layTrial_9 ?_
  refine lv_bipush (v := 7) hx hb dX7_layTrial_12 (by decide) ?_
  refine lv_iload_n hx hb dX7_layTrial_14 rfl (lv_at hl 0 rfl) ?_
  refine lv_iadd hx hb dX7_layTrial_15 ?_
  refine lv_fold (y := 8) (by decide) ?_
  refine lv_aload_n hx hb dX7_layTrial_16 rfl (lv_at hl 1 rfl) ?_
  refine va_get (D := D) (ci := 7) (v := .ref m_nowr) (C := RX7) (T := TX7) (N := 24) hx hb hts hiX7 hown hE.1 hP 0 rfl rfl 3 (by decide) (hts (.fieldLink RX7 16 "TiltTrayModel" "now" "[I") (by decide +kernel)) (fun _ h9 => h9) rfl dX7_layTrial_17 ?_
  refine lv_iload_n hx hb dX7_layTrial_20 rfl (lv_at hl 0 rfl) ?_
  refine va_iald hx hb hE.1 hP 3 0 rfl rfl (ix_in (by decide)) dX7_layTrial_21 ?_
  refine va_iast hx hb hE.1 hP hD hS 3 0 rfl rfl (ix_in (by decide)) dX7_layTrial_22 (fun H locs hP hD hS => ?_)
  have hP : va_P D vwCl (cMd mh m_kindr m_toldr m_nowr m_readToldr m_readCellr m_readKindr m_textr m_rowr m_seenCellr m_seenWayr m_seenCamer m_isKeptr m_keptr cy.1 cy.2.2.1 m_marbles m_kind m_told (upd (upd m_now (7 : Int32).toNatClampNeg (m_now (0 : Int32).toNatClampNeg)) (8 : Int32).toNatClampNeg ((upd m_now (7 : Int32).toNatClampNeg (m_now (0 : Int32).toNatClampNeg)) (1 : Int32).toNatClampNeg)) m_readTold m_readCell m_readKind m_text m_length m_at m_faultAt m_there m_stopped m_acts m_next m_row m_bestRow m_seen m_seenCell m_seenWay m_seenCame m_seed m_isKept m_kept) H := hP
  have hD : va_D A (cMd mh m_kindr m_toldr m_nowr m_readToldr m_readCellr m_readKindr m_textr m_rowr m_seenCellr m_seenWayr m_seenCamer m_isKeptr m_keptr cy.1 cy.2.2.1 m_marbles m_kind m_told (upd (upd m_now (7 : Int32).toNatClampNeg (m_now (0 : Int32).toNatClampNeg)) (8 : Int32).toNatClampNeg ((upd m_now (7 : Int32).toNatClampNeg (m_now (0 : Int32).toNatClampNeg)) (1 : Int32).toNatClampNeg)) m_readTold m_readCell m_readKind m_text m_length m_at m_faultAt m_there m_stopped m_acts m_next m_row m_bestRow m_seen m_seenCell m_seenWay m_seenCame m_seed m_isKept m_kept) := hD
  refine lv_iinc (v := 2) (lv' := [(1, .int 2), (0, .ref mh)]) hx hb dX7_layTrial_23 hl (k := 0) rfl (by decide) (by decide) rfl (fun ls hl => ?_)
  refine lv_goto (tgt := 2) hx hb dX7_layTrial_26 (by decide) ?_
  refine lv_iload_n hx hb dX7_layTrial_2 rfl (lv_at hl 0 rfl) ?_
  refine lv_bipush (v := 7) hx hb dX7_layTrial_3 (by decide) ?_
  refine lv_icmp_ge (tgt := 29) hx hb dX7_layTrial_5 (by decide) (fun c3 => absurd c3 (by decide)) (fun _ => ?_)
  refine lv_aload_n hx hb dX7_layTrial_8 rfl (lv_at hl 1 rfl) ?_
  refine va_get (D := D) (ci := 7) (v := .ref m_nowr) (C := RX7) (T := TX7) (N := 24) hx hb hts hiX7 hown hE.1 hP 0 rfl rfl 3 (by decide) (hts (.fieldLink RX7 16 "TiltTrayModel" "now" "[I") (by decide +kernel)) (fun _ h9 => h9) rfl dX7_layTrial_9 ?_
  refine lv_bipush (v := 7) hx hb dX7_layTrial_12 (by decide) ?_
  refine lv_iload_n hx hb dX7_layTrial_14 rfl (lv_at hl 0 rfl) ?_
  refine lv_iadd hx hb dX7_layTrial_15 ?_
  refine lv_fold (y := 9) (by decide) ?_
  refine lv_aload_n hx hb dX7_layTrial_16 rfl (lv_at hl 1 rfl) ?_
  refine va_get (D := D) (ci := 7) (v := .ref m_nowr) (C := RX7) (T := TX7) (N := 24) hx hb hts hiX7 hown hE.1 hP 0 rfl rfl 3 (by decide) (hts (.fieldLink RX7 16 "TiltTrayModel" "now" "[I") (by decide +kernel)) (fun _ h9 => h9) rfl dX7_layTrial_17 ?_
  refine lv_iload_n hx hb dX7_layTrial_20 rfl (lv_at hl 0 rfl) ?_
  refine va_iald hx hb hE.1 hP 3 0 rfl rfl (ix_in (by decide)) dX7_layTrial_21 ?_
  refine va_iast hx hb hE.1 hP hD hS 3 0 rfl rfl (ix_in (by decide)) dX7_layTrial_22 (fun H locs hP hD hS => ?_)
  have hP : va_P D vwCl (cMd mh m_kindr m_toldr m_nowr m_readToldr m_readCellr m_readKindr m_textr m_rowr m_seenCellr m_seenWayr m_seenCamer m_isKeptr m_keptr cy.1 cy.2.2.1 m_marbles m_kind m_told (upd (upd (upd m_now (7 : Int32).toNatClampNeg (m_now (0 : Int32).toNatClampNeg)) (8 : Int32).toNatClampNeg ((upd m_now (7 : Int32).toNatClampNeg (m_now (0 : Int32).toNatClampNeg)) (1 : Int32).toNatClampNeg)) (9 : Int32).toNatClampNeg ((upd (upd m_now (7 : Int32).toNatClampNeg (m_now (0 : Int32).toNatClampNeg)) (8 : Int32).toNatClampNeg ((upd m_now (7 : Int32).toNatClampNeg (m_now (0 : Int32).toNatClampNeg)) (1 : Int32).toNatClampNeg)) (2 : Int32).toNatClampNeg)) m_readTold m_readCell m_readKind m_text m_length m_at m_faultAt m_there m_stopped m_acts m_next m_row m_bestRow m_seen m_seenCell m_seenWay m_seenCame m_seed m_isKept m_kept) H := hP
  have hD : va_D A (cMd mh m_kindr m_toldr m_nowr m_readToldr m_readCellr m_readKindr m_textr m_rowr m_seenCellr m_seenWayr m_seenCamer m_isKeptr m_keptr cy.1 cy.2.2.1 m_marbles m_kind m_told (upd (upd (upd m_now (7 : Int32).toNatClampNeg (m_now (0 : Int32).toNatClampNeg)) (8 : Int32).toNatClampNeg ((upd m_now (7 : Int32).toNatClampNeg (m_now (0 : Int32).toNatClampNeg)) (1 : Int32).toNatClampNeg)) (9 : Int32).toNatClampNeg ((upd (upd m_now (7 : Int32).toNatClampNeg (m_now (0 : Int32).toNatClampNeg)) (8 : Int32).toNatClampNeg ((upd m_now (7 : Int32).toNatClampNeg (m_now (0 : Int32).toNatClampNeg)) (1 : Int32).toNatClampNeg)) (2 : Int32).toNatClampNeg)) m_readTold m_readCell m_readKind m_text m_length m_at m_faultAt m_there m_stopped m_acts m_next m_row m_bestRow m_seen m_seenCell m_seenWay m_seenCame m_seed m_isKept m_kept) := hD
  refine lv_iinc (v := 3) (lv' := [(1, .int 3), (0, .ref mh)]) hx hb dX7_layTrial_23 hl (k := 0) rfl (by decide) (by decide) rfl (fun ls hl => ?_)
  refine lv_goto (tgt := 2) hx hb dX7_layTrial_26 (by decide) ?_
  refine lv_iload_n hx hb dX7_layTrial_2 rfl (lv_at hl 0 rfl) ?_
  refine lv_bipush (v := 7) hx hb dX7_layTrial_3 (by decide) ?_
  refine lv_icmp_ge (tgt := 29) hx hb dX7_layTrial_5 (by decide) (fun c4 => absurd c4 (by decide)) (fun _ => ?_)
  refine lv_aload_n hx hb dX7_layTrial_8 rfl (lv_at hl 1 rfl) ?_
  refine va_get (D := D) (ci := 7) (v := .ref m_nowr) (C := RX7) (T := TX7) (N := 24) hx hb hts hiX7 hown hE.1 hP 0 rfl rfl 3 (by decide) (hts (.fieldLink RX7 16 "TiltTrayModel" "now" "[I") (by decide +kernel)) (fun _ h9 => h9) rfl dX7_layTrial_9 ?_
  refine lv_bipush (v := 7) hx hb dX7_layTrial_12 (by decide) ?_
  refine lv_iload_n hx hb dX7_layTrial_14 rfl (lv_at hl 0 rfl) ?_
  refine lv_iadd hx hb dX7_layTrial_15 ?_
  refine lv_fold (y := 10) (by decide) ?_
  refine lv_aload_n hx hb dX7_layTrial_16 rfl (lv_at hl 1 rfl) ?_
  refine va_get (D := D) (ci := 7) (v := .ref m_nowr) (C := RX7) (T := TX7) (N := 24) hx hb hts hiX7 hown hE.1 hP 0 rfl rfl 3 (by decide) (hts (.fieldLink RX7 16 "TiltTrayModel" "now" "[I") (by decide +kernel)) (fun _ h9 => h9) rfl dX7_layTrial_17 ?_
  refine lv_iload_n hx hb dX7_layTrial_20 rfl (lv_at hl 0 rfl) ?_
  refine va_iald hx hb hE.1 hP 3 0 rfl rfl (ix_in (by decide)) dX7_layTrial_21 ?_
  refine va_iast hx hb hE.1 hP hD hS 3 0 rfl rfl (ix_in (by decide)) dX7_layTrial_22 (fun H locs hP hD hS => ?_)
  have hP : va_P D vwCl (cMd mh m_kindr m_toldr m_nowr m_readToldr m_readCellr m_readKindr m_textr m_rowr m_seenCellr m_seenWayr m_seenCamer m_isKeptr m_keptr cy.1 cy.2.2.1 m_marbles m_kind m_told (upd (upd (upd (upd m_now (7 : Int32).toNatClampNeg (m_now (0 : Int32).toNatClampNeg)) (8 : Int32).toNatClampNeg ((upd m_now (7 : Int32).toNatClampNeg (m_now (0 : Int32).toNatClampNeg)) (1 : Int32).toNatClampNeg)) (9 : Int32).toNatClampNeg ((upd (upd m_now (7 : Int32).toNatClampNeg (m_now (0 : Int32).toNatClampNeg)) (8 : Int32).toNatClampNeg ((upd m_now (7 : Int32).toNatClampNeg (m_now (0 : Int32).toNatClampNeg)) (1 : Int32).toNatClampNeg)) (2 : Int32).toNatClampNeg)) (10 : Int32).toNatClampNeg ((upd (upd (upd m_now (7 : Int32).toNatClampNeg (m_now (0 : Int32).toNatClampNeg)) (8 : Int32).toNatClampNeg ((upd m_now (7 : Int32).toNatClampNeg (m_now (0 : Int32).toNatClampNeg)) (1 : Int32).toNatClampNeg)) (9 : Int32).toNatClampNeg ((upd (upd m_now (7 : Int32).toNatClampNeg (m_now (0 : Int32).toNatClampNeg)) (8 : Int32).toNatClampNeg ((upd m_now (7 : Int32).toNatClampNeg (m_now (0 : Int32).toNatClampNeg)) (1 : Int32).toNatClampNeg)) (2 : Int32).toNatClampNeg)) (3 : Int32).toNatClampNeg)) m_readTold m_readCell m_readKind m_text m_length m_at m_faultAt m_there m_stopped m_acts m_next m_row m_bestRow m_seen m_seenCell m_seenWay m_seenCame m_seed m_isKept m_kept) H := hP
  have hD : va_D A (cMd mh m_kindr m_toldr m_nowr m_readToldr m_readCellr m_readKindr m_textr m_rowr m_seenCellr m_seenWayr m_seenCamer m_isKeptr m_keptr cy.1 cy.2.2.1 m_marbles m_kind m_told (upd (upd (upd (upd m_now (7 : Int32).toNatClampNeg (m_now (0 : Int32).toNatClampNeg)) (8 : Int32).toNatClampNeg ((upd m_now (7 : Int32).toNatClampNeg (m_now (0 : Int32).toNatClampNeg)) (1 : Int32).toNatClampNeg)) (9 : Int32).toNatClampNeg ((upd (upd m_now (7 : Int32).toNatClampNeg (m_now (0 : Int32).toNatClampNeg)) (8 : Int32).toNatClampNeg ((upd m_now (7 : Int32).toNatClampNeg (m_now (0 : Int32).toNatClampNeg)) (1 : Int32).toNatClampNeg)) (2 : Int32).toNatClampNeg)) (10 : Int32).toNatClampNeg ((upd (upd (upd m_now (7 : Int32).toNatClampNeg (m_now (0 : Int32).toNatClampNeg)) (8 : Int32).toNatClampNeg ((upd m_now (7 : Int32).toNatClampNeg (m_now (0 : Int32).toNatClampNeg)) (1 : Int32).toNatClampNeg)) (9 : Int32).toNatClampNeg ((upd (upd m_now (7 : Int32).toNatClampNeg (m_now (0 : Int32).toNatClampNeg)) (8 : Int32).toNatClampNeg ((upd m_now (7 : Int32).toNatClampNeg (m_now (0 : Int32).toNatClampNeg)) (1 : Int32).toNatClampNeg)) (2 : Int32).toNatClampNeg)) (3 : Int32).toNatClampNeg)) m_readTold m_readCell m_readKind m_text m_length m_at m_faultAt m_there m_stopped m_acts m_next m_row m_bestRow m_seen m_seenCell m_seenWay m_seenCame m_seed m_isKept m_kept) := hD
  refine lv_iinc (v := 4) (lv' := [(1, .int 4), (0, .ref mh)]) hx hb dX7_layTrial_23 hl (k := 0) rfl (by decide) (by decide) rfl (fun ls hl => ?_)
  refine lv_goto (tgt := 2) hx hb dX7_layTrial_26 (by decide) ?_
  refine lv_iload_n hx hb dX7_layTrial_2 rfl (lv_at hl 0 rfl) ?_
  refine lv_bipush (v := 7) hx hb dX7_layTrial_3 (by decide) ?_
  refine lv_icmp_ge (tgt := 29) hx hb dX7_layTrial_5 (by decide) (fun c5 => absurd c5 (by decide)) (fun _ => ?_)
  refine lv_aload_n hx hb dX7_layTrial_8 rfl (lv_at hl 1 rfl) ?_
  refine va_get (D := D) (ci := 7) (v := .ref m_nowr) (C := RX7) (T := TX7) (N := 24) hx hb hts hiX7 hown hE.1 hP 0 rfl rfl 3 (by decide) (hts (.fieldLink RX7 16 "TiltTrayModel" "now" "[I") (by decide +kernel)) (fun _ h9 => h9) rfl dX7_layTrial_9 ?_
  refine lv_bipush (v := 7) hx hb dX7_layTrial_12 (by decide) ?_
  refine lv_iload_n hx hb dX7_layTrial_14 rfl (lv_at hl 0 rfl) ?_
  refine lv_iadd hx hb dX7_layTrial_15 ?_
  refine lv_fold (y := 11) (by decide) ?_
  refine lv_aload_n hx hb dX7_layTrial_16 rfl (lv_at hl 1 rfl) ?_
  refine va_get (D := D) (ci := 7) (v := .ref m_nowr) (C := RX7) (T := TX7) (N := 24) hx hb hts hiX7 hown hE.1 hP 0 rfl rfl 3 (by decide) (hts (.fieldLink RX7 16 "TiltTrayModel" "now" "[I") (by decide +kernel)) (fun _ h9 => h9) rfl dX7_layTrial_17 ?_
  refine lv_iload_n hx hb dX7_layTrial_20 rfl (lv_at hl 0 rfl) ?_
  refine va_iald hx hb hE.1 hP 3 0 rfl rfl (ix_in (by decide)) dX7_layTrial_21 ?_
  refine va_iast hx hb hE.1 hP hD hS 3 0 rfl rfl (ix_in (by decide)) dX7_layTrial_22 (fun H locs hP hD hS => ?_)
  have hP : va_P D vwCl (cMd mh m_kindr m_toldr m_nowr m_readToldr m_readCellr m_readKindr m_textr m_rowr m_seenCellr m_seenWayr m_seenCamer m_isKeptr m_keptr cy.1 cy.2.2.1 m_marbles m_kind m_told (upd (upd (upd (upd (upd m_now (7 : Int32).toNatClampNeg (m_now (0 : Int32).toNatClampNeg)) (8 : Int32).toNatClampNeg ((upd m_now (7 : Int32).toNatClampNeg (m_now (0 : Int32).toNatClampNeg)) (1 : Int32).toNatClampNeg)) (9 : Int32).toNatClampNeg ((upd (upd m_now (7 : Int32).toNatClampNeg (m_now (0 : Int32).toNatClampNeg)) (8 : Int32).toNatClampNeg ((upd m_now (7 : Int32).toNatClampNeg (m_now (0 : Int32).toNatClampNeg)) (1 : Int32).toNatClampNeg)) (2 : Int32).toNatClampNeg)) (10 : Int32).toNatClampNeg ((upd (upd (upd m_now (7 : Int32).toNatClampNeg (m_now (0 : Int32).toNatClampNeg)) (8 : Int32).toNatClampNeg ((upd m_now (7 : Int32).toNatClampNeg (m_now (0 : Int32).toNatClampNeg)) (1 : Int32).toNatClampNeg)) (9 : Int32).toNatClampNeg ((upd (upd m_now (7 : Int32).toNatClampNeg (m_now (0 : Int32).toNatClampNeg)) (8 : Int32).toNatClampNeg ((upd m_now (7 : Int32).toNatClampNeg (m_now (0 : Int32).toNatClampNeg)) (1 : Int32).toNatClampNeg)) (2 : Int32).toNatClampNeg)) (3 : Int32).toNatClampNeg)) (11 : Int32).toNatClampNeg ((upd (upd (upd (upd m_now (7 : Int32).toNatClampNeg (m_now (0 : Int32).toNatClampNeg)) (8 : Int32).toNatClampNeg ((upd m_now (7 : Int32).toNatClampNeg (m_now (0 : Int32).toNatClampNeg)) (1 : Int32).toNatClampNeg)) (9 : Int32).toNatClampNeg ((upd (upd m_now (7 : Int32).toNatClampNeg (m_now (0 : Int32).toNatClampNeg)) (8 : Int32).toNatClampNeg ((upd m_now (7 : Int32).toNatClampNeg (m_now (0 : Int32).toNatClampNeg)) (1 : Int32).toNatClampNeg)) (2 : Int32).toNatClampNeg)) (10 : Int32).toNatClampNeg ((upd (upd (upd m_now (7 : Int32).toNatClampNeg (m_now (0 : Int32).toNatClampNeg)) (8 : Int32).toNatClampNeg ((upd m_now (7 : Int32).toNatClampNeg (m_now (0 : Int32).toNatClampNeg)) (1 : Int32).toNatClampNeg)) (9 : Int32).toNatClampNeg ((upd (upd m_now (7 : Int32).toNatClampNeg (m_now (0 : Int32).toNatClampNeg)) (8 : Int32).toNatClampNeg ((upd m_now (7 : Int32).toNatClampNeg (m_now (0 : Int32).toNatClampNeg)) (1 : Int32).toNatClampNeg)) (2 : Int32).toNatClampNeg)) (3 : Int32).toNatClampNeg)) (4 : Int32).toNatClampNeg)) m_readTold m_readCell m_readKind m_text m_length m_at m_faultAt m_there m_stopped m_acts m_next m_row m_bestRow m_seen m_seenCell m_seenWay m_seenCame m_seed m_isKept m_kept) H := hP
  have hD : va_D A (cMd mh m_kindr m_toldr m_nowr m_readToldr m_readCellr m_readKindr m_textr m_rowr m_seenCellr m_seenWayr m_seenCamer m_isKeptr m_keptr cy.1 cy.2.2.1 m_marbles m_kind m_told (upd (upd (upd (upd (upd m_now (7 : Int32).toNatClampNeg (m_now (0 : Int32).toNatClampNeg)) (8 : Int32).toNatClampNeg ((upd m_now (7 : Int32).toNatClampNeg (m_now (0 : Int32).toNatClampNeg)) (1 : Int32).toNatClampNeg)) (9 : Int32).toNatClampNeg ((upd (upd m_now (7 : Int32).toNatClampNeg (m_now (0 : Int32).toNatClampNeg)) (8 : Int32).toNatClampNeg ((upd m_now (7 : Int32).toNatClampNeg (m_now (0 : Int32).toNatClampNeg)) (1 : Int32).toNatClampNeg)) (2 : Int32).toNatClampNeg)) (10 : Int32).toNatClampNeg ((upd (upd (upd m_now (7 : Int32).toNatClampNeg (m_now (0 : Int32).toNatClampNeg)) (8 : Int32).toNatClampNeg ((upd m_now (7 : Int32).toNatClampNeg (m_now (0 : Int32).toNatClampNeg)) (1 : Int32).toNatClampNeg)) (9 : Int32).toNatClampNeg ((upd (upd m_now (7 : Int32).toNatClampNeg (m_now (0 : Int32).toNatClampNeg)) (8 : Int32).toNatClampNeg ((upd m_now (7 : Int32).toNatClampNeg (m_now (0 : Int32).toNatClampNeg)) (1 : Int32).toNatClampNeg)) (2 : Int32).toNatClampNeg)) (3 : Int32).toNatClampNeg)) (11 : Int32).toNatClampNeg ((upd (upd (upd (upd m_now (7 : Int32).toNatClampNeg (m_now (0 : Int32).toNatClampNeg)) (8 : Int32).toNatClampNeg ((upd m_now (7 : Int32).toNatClampNeg (m_now (0 : Int32).toNatClampNeg)) (1 : Int32).toNatClampNeg)) (9 : Int32).toNatClampNeg ((upd (upd m_now (7 : Int32).toNatClampNeg (m_now (0 : Int32).toNatClampNeg)) (8 : Int32).toNatClampNeg ((upd m_now (7 : Int32).toNatClampNeg (m_now (0 : Int32).toNatClampNeg)) (1 : Int32).toNatClampNeg)) (2 : Int32).toNatClampNeg)) (10 : Int32).toNatClampNeg ((upd (upd (upd m_now (7 : Int32).toNatClampNeg (m_now (0 : Int32).toNatClampNeg)) (8 : Int32).toNatClampNeg ((upd m_now (7 : Int32).toNatClampNeg (m_now (0 : Int32).toNatClampNeg)) (1 : Int32).toNatClampNeg)) (9 : Int32).toNatClampNeg ((upd (upd m_now (7 : Int32).toNatClampNeg (m_now (0 : Int32).toNatClampNeg)) (8 : Int32).toNatClampNeg ((upd m_now (7 : Int32).toNatClampNeg (m_now (0 : Int32).toNatClampNeg)) (1 : Int32).toNatClampNeg)) (2 : Int32).toNatClampNeg)) (3 : Int32).toNatClampNeg)) (4 : Int32).toNatClampNeg)) m_readTold m_readCell m_readKind m_text m_length m_at m_faultAt m_there m_stopped m_acts m_next m_row m_bestRow m_seen m_seenCell m_seenWay m_seenCame m_seed m_isKept m_kept) := hD
  refine lv_iinc (v := 5) (lv' := [(1, .int 5), (0, .ref mh)]) hx hb dX7_layTrial_23 hl (k := 0) rfl (by decide) (by decide) rfl (fun ls hl => ?_)
  refine lv_goto (tgt := 2) hx hb dX7_layTrial_26 (by decide) ?_
  refine lv_iload_n hx hb dX7_layTrial_2 rfl (lv_at hl 0 rfl) ?_
  refine lv_bipush (v := 7) hx hb dX7_layTrial_3 (by decide) ?_
  refine lv_icmp_ge (tgt := 29) hx hb dX7_layTrial_5 (by decide) (fun c6 => absurd c6 (by decide)) (fun _ => ?_)
  refine lv_aload_n hx hb dX7_layTrial_8 rfl (lv_at hl 1 rfl) ?_
  refine va_get (D := D) (ci := 7) (v := .ref m_nowr) (C := RX7) (T := TX7) (N := 24) hx hb hts hiX7 hown hE.1 hP 0 rfl rfl 3 (by decide) (hts (.fieldLink RX7 16 "TiltTrayModel" "now" "[I") (by decide +kernel)) (fun _ h9 => h9) rfl dX7_layTrial_9 ?_
  refine lv_bipush (v := 7) hx hb dX7_layTrial_12 (by decide) ?_
  refine lv_iload_n hx hb dX7_layTrial_14 rfl (lv_at hl 0 rfl) ?_
  refine lv_iadd hx hb dX7_layTrial_15 ?_
  refine lv_fold (y := 12) (by decide) ?_
  refine lv_aload_n hx hb dX7_layTrial_16 rfl (lv_at hl 1 rfl) ?_
  refine va_get (D := D) (ci := 7) (v := .ref m_nowr) (C := RX7) (T := TX7) (N := 24) hx hb hts hiX7 hown hE.1 hP 0 rfl rfl 3 (by decide) (hts (.fieldLink RX7 16 "TiltTrayModel" "now" "[I") (by decide +kernel)) (fun _ h9 => h9) rfl dX7_layTrial_17 ?_
  refine lv_iload_n hx hb dX7_layTrial_20 rfl (lv_at hl 0 rfl) ?_
  refine va_iald hx hb hE.1 hP 3 0 rfl rfl (ix_in (by decide)) dX7_layTrial_21 ?_
  refine va_iast hx hb hE.1 hP hD hS 3 0 rfl rfl (ix_in (by decide)) dX7_layTrial_22 (fun H locs hP hD hS => ?_)
  have hP : va_P D vwCl (cMd mh m_kindr m_toldr m_nowr m_readToldr m_readCellr m_readKindr m_textr m_rowr m_seenCellr m_seenWayr m_seenCamer m_isKeptr m_keptr cy.1 cy.2.2.1 m_marbles m_kind m_told (upd (upd (upd (upd (upd (upd m_now (7 : Int32).toNatClampNeg (m_now (0 : Int32).toNatClampNeg)) (8 : Int32).toNatClampNeg ((upd m_now (7 : Int32).toNatClampNeg (m_now (0 : Int32).toNatClampNeg)) (1 : Int32).toNatClampNeg)) (9 : Int32).toNatClampNeg ((upd (upd m_now (7 : Int32).toNatClampNeg (m_now (0 : Int32).toNatClampNeg)) (8 : Int32).toNatClampNeg ((upd m_now (7 : Int32).toNatClampNeg (m_now (0 : Int32).toNatClampNeg)) (1 : Int32).toNatClampNeg)) (2 : Int32).toNatClampNeg)) (10 : Int32).toNatClampNeg ((upd (upd (upd m_now (7 : Int32).toNatClampNeg (m_now (0 : Int32).toNatClampNeg)) (8 : Int32).toNatClampNeg ((upd m_now (7 : Int32).toNatClampNeg (m_now (0 : Int32).toNatClampNeg)) (1 : Int32).toNatClampNeg)) (9 : Int32).toNatClampNeg ((upd (upd m_now (7 : Int32).toNatClampNeg (m_now (0 : Int32).toNatClampNeg)) (8 : Int32).toNatClampNeg ((upd m_now (7 : Int32).toNatClampNeg (m_now (0 : Int32).toNatClampNeg)) (1 : Int32).toNatClampNeg)) (2 : Int32).toNatClampNeg)) (3 : Int32).toNatClampNeg)) (11 : Int32).toNatClampNeg ((upd (upd (upd (upd m_now (7 : Int32).toNatClampNeg (m_now (0 : Int32).toNatClampNeg)) (8 : Int32).toNatClampNeg ((upd m_now (7 : Int32).toNatClampNeg (m_now (0 : Int32).toNatClampNeg)) (1 : Int32).toNatClampNeg)) (9 : Int32).toNatClampNeg ((upd (upd m_now (7 : Int32).toNatClampNeg (m_now (0 : Int32).toNatClampNeg)) (8 : Int32).toNatClampNeg ((upd m_now (7 : Int32).toNatClampNeg (m_now (0 : Int32).toNatClampNeg)) (1 : Int32).toNatClampNeg)) (2 : Int32).toNatClampNeg)) (10 : Int32).toNatClampNeg ((upd (upd (upd m_now (7 : Int32).toNatClampNeg (m_now (0 : Int32).toNatClampNeg)) (8 : Int32).toNatClampNeg ((upd m_now (7 : Int32).toNatClampNeg (m_now (0 : Int32).toNatClampNeg)) (1 : Int32).toNatClampNeg)) (9 : Int32).toNatClampNeg ((upd (upd m_now (7 : Int32).toNatClampNeg (m_now (0 : Int32).toNatClampNeg)) (8 : Int32).toNatClampNeg ((upd m_now (7 : Int32).toNatClampNeg (m_now (0 : Int32).toNatClampNeg)) (1 : Int32).toNatClampNeg)) (2 : Int32).toNatClampNeg)) (3 : Int32).toNatClampNeg)) (4 : Int32).toNatClampNeg)) (12 : Int32).toNatClampNeg ((upd (upd (upd (upd (upd m_now (7 : Int32).toNatClampNeg (m_now (0 : Int32).toNatClampNeg)) (8 : Int32).toNatClampNeg ((upd m_now (7 : Int32).toNatClampNeg (m_now (0 : Int32).toNatClampNeg)) (1 : Int32).toNatClampNeg)) (9 : Int32).toNatClampNeg ((upd (upd m_now (7 : Int32).toNatClampNeg (m_now (0 : Int32).toNatClampNeg)) (8 : Int32).toNatClampNeg ((upd m_now (7 : Int32).toNatClampNeg (m_now (0 : Int32).toNatClampNeg)) (1 : Int32).toNatClampNeg)) (2 : Int32).toNatClampNeg)) (10 : Int32).toNatClampNeg ((upd (upd (upd m_now (7 : Int32).toNatClampNeg (m_now (0 : Int32).toNatClampNeg)) (8 : Int32).toNatClampNeg ((upd m_now (7 : Int32).toNatClampNeg (m_now (0 : Int32).toNatClampNeg)) (1 : Int32).toNatClampNeg)) (9 : Int32).toNatClampNeg ((upd (upd m_now (7 : Int32).toNatClampNeg (m_now (0 : Int32).toNatClampNeg)) (8 : Int32).toNatClampNeg ((upd m_now (7 : Int32).toNatClampNeg (m_now (0 : Int32).toNatClampNeg)) (1 : Int32).toNatClampNeg)) (2 : Int32).toNatClampNeg)) (3 : Int32).toNatClampNeg)) (11 : Int32).toNatClampNeg ((upd (upd (upd (upd m_now (7 : Int32).toNatClampNeg (m_now (0 : Int32).toNatClampNeg)) (8 : Int32).toNatClampNeg ((upd m_now (7 : Int32).toNatClampNeg (m_now (0 : Int32).toNatClampNeg)) (1 : Int32).toNatClampNeg)) (9 : Int32).toNatClampNeg ((upd (upd m_now (7 : Int32).toNatClampNeg (m_now (0 : Int32).toNatClampNeg)) (8 : Int32).toNatClampNeg ((upd m_now (7 : Int32).toNatClampNeg (m_now (0 : Int32).toNatClampNeg)) (1 : Int32).toNatClampNeg)) (2 : Int32).toNatClampNeg)) (10 : Int32).toNatClampNeg ((upd (upd (upd m_now (7 : Int32).toNatClampNeg (m_now (0 : Int32).toNatClampNeg)) (8 : Int32).toNatClampNeg ((upd m_now (7 : Int32).toNatClampNeg (m_now (0 : Int32).toNatClampNeg)) (1 : Int32).toNatClampNeg)) (9 : Int32).toNatClampNeg ((upd (upd m_now (7 : Int32).toNatClampNeg (m_now (0 : Int32).toNatClampNeg)) (8 : Int32).toNatClampNeg ((upd m_now (7 : Int32).toNatClampNeg (m_now (0 : Int32).toNatClampNeg)) (1 : Int32).toNatClampNeg)) (2 : Int32).toNatClampNeg)) (3 : Int32).toNatClampNeg)) (4 : Int32).toNatClampNeg)) (5 : Int32).toNatClampNeg)) m_readTold m_readCell m_readKind m_text m_length m_at m_faultAt m_there m_stopped m_acts m_next m_row m_bestRow m_seen m_seenCell m_seenWay m_seenCame m_seed m_isKept m_kept) H := hP
  have hD : va_D A (cMd mh m_kindr m_toldr m_nowr m_readToldr m_readCellr m_readKindr m_textr m_rowr m_seenCellr m_seenWayr m_seenCamer m_isKeptr m_keptr cy.1 cy.2.2.1 m_marbles m_kind m_told (upd (upd (upd (upd (upd (upd m_now (7 : Int32).toNatClampNeg (m_now (0 : Int32).toNatClampNeg)) (8 : Int32).toNatClampNeg ((upd m_now (7 : Int32).toNatClampNeg (m_now (0 : Int32).toNatClampNeg)) (1 : Int32).toNatClampNeg)) (9 : Int32).toNatClampNeg ((upd (upd m_now (7 : Int32).toNatClampNeg (m_now (0 : Int32).toNatClampNeg)) (8 : Int32).toNatClampNeg ((upd m_now (7 : Int32).toNatClampNeg (m_now (0 : Int32).toNatClampNeg)) (1 : Int32).toNatClampNeg)) (2 : Int32).toNatClampNeg)) (10 : Int32).toNatClampNeg ((upd (upd (upd m_now (7 : Int32).toNatClampNeg (m_now (0 : Int32).toNatClampNeg)) (8 : Int32).toNatClampNeg ((upd m_now (7 : Int32).toNatClampNeg (m_now (0 : Int32).toNatClampNeg)) (1 : Int32).toNatClampNeg)) (9 : Int32).toNatClampNeg ((upd (upd m_now (7 : Int32).toNatClampNeg (m_now (0 : Int32).toNatClampNeg)) (8 : Int32).toNatClampNeg ((upd m_now (7 : Int32).toNatClampNeg (m_now (0 : Int32).toNatClampNeg)) (1 : Int32).toNatClampNeg)) (2 : Int32).toNatClampNeg)) (3 : Int32).toNatClampNeg)) (11 : Int32).toNatClampNeg ((upd (upd (upd (upd m_now (7 : Int32).toNatClampNeg (m_now (0 : Int32).toNatClampNeg)) (8 : Int32).toNatClampNeg ((upd m_now (7 : Int32).toNatClampNeg (m_now (0 : Int32).toNatClampNeg)) (1 : Int32).toNatClampNeg)) (9 : Int32).toNatClampNeg ((upd (upd m_now (7 : Int32).toNatClampNeg (m_now (0 : Int32).toNatClampNeg)) (8 : Int32).toNatClampNeg ((upd m_now (7 : Int32).toNatClampNeg (m_now (0 : Int32).toNatClampNeg)) (1 : Int32).toNatClampNeg)) (2 : Int32).toNatClampNeg)) (10 : Int32).toNatClampNeg ((upd (upd (upd m_now (7 : Int32).toNatClampNeg (m_now (0 : Int32).toNatClampNeg)) (8 : Int32).toNatClampNeg ((upd m_now (7 : Int32).toNatClampNeg (m_now (0 : Int32).toNatClampNeg)) (1 : Int32).toNatClampNeg)) (9 : Int32).toNatClampNeg ((upd (upd m_now (7 : Int32).toNatClampNeg (m_now (0 : Int32).toNatClampNeg)) (8 : Int32).toNatClampNeg ((upd m_now (7 : Int32).toNatClampNeg (m_now (0 : Int32).toNatClampNeg)) (1 : Int32).toNatClampNeg)) (2 : Int32).toNatClampNeg)) (3 : Int32).toNatClampNeg)) (4 : Int32).toNatClampNeg)) (12 : Int32).toNatClampNeg ((upd (upd (upd (upd (upd m_now (7 : Int32).toNatClampNeg (m_now (0 : Int32).toNatClampNeg)) (8 : Int32).toNatClampNeg ((upd m_now (7 : Int32).toNatClampNeg (m_now (0 : Int32).toNatClampNeg)) (1 : Int32).toNatClampNeg)) (9 : Int32).toNatClampNeg ((upd (upd m_now (7 : Int32).toNatClampNeg (m_now (0 : Int32).toNatClampNeg)) (8 : Int32).toNatClampNeg ((upd m_now (7 : Int32).toNatClampNeg (m_now (0 : Int32).toNatClampNeg)) (1 : Int32).toNatClampNeg)) (2 : Int32).toNatClampNeg)) (10 : Int32).toNatClampNeg ((upd (upd (upd m_now (7 : Int32).toNatClampNeg (m_now (0 : Int32).toNatClampNeg)) (8 : Int32).toNatClampNeg ((upd m_now (7 : Int32).toNatClampNeg (m_now (0 : Int32).toNatClampNeg)) (1 : Int32).toNatClampNeg)) (9 : Int32).toNatClampNeg ((upd (upd m_now (7 : Int32).toNatClampNeg (m_now (0 : Int32).toNatClampNeg)) (8 : Int32).toNatClampNeg ((upd m_now (7 : Int32).toNatClampNeg (m_now (0 : Int32).toNatClampNeg)) (1 : Int32).toNatClampNeg)) (2 : Int32).toNatClampNeg)) (3 : Int32).toNatClampNeg)) (11 : Int32).toNatClampNeg ((upd (upd (upd (upd m_now (7 : Int32).toNatClampNeg (m_now (0 : Int32).toNatClampNeg)) (8 : Int32).toNatClampNeg ((upd m_now (7 : Int32).toNatClampNeg (m_now (0 : Int32).toNatClampNeg)) (1 : Int32).toNatClampNeg)) (9 : Int32).toNatClampNeg ((upd (upd m_now (7 : Int32).toNatClampNeg (m_now (0 : Int32).toNatClampNeg)) (8 : Int32).toNatClampNeg ((upd m_now (7 : Int32).toNatClampNeg (m_now (0 : Int32).toNatClampNeg)) (1 : Int32).toNatClampNeg)) (2 : Int32).toNatClampNeg)) (10 : Int32).toNatClampNeg ((upd (upd (upd m_now (7 : Int32).toNatClampNeg (m_now (0 : Int32).toNatClampNeg)) (8 : Int32).toNatClampNeg ((upd m_now (7 : Int32).toNatClampNeg (m_now (0 : Int32).toNatClampNeg)) (1 : Int32).toNatClampNeg)) (9 : Int32).toNatClampNeg ((upd (upd m_now (7 : Int32).toNatClampNeg (m_now (0 : Int32).toNatClampNeg)) (8 : Int32).toNatClampNeg ((upd m_now (7 : Int32).toNatClampNeg (m_now (0 : Int32).toNatClampNeg)) (1 : Int32).toNatClampNeg)) (2 : Int32).toNatClampNeg)) (3 : Int32).toNatClampNeg)) (4 : Int32).toNatClampNeg)) (5 : Int32).toNatClampNeg)) m_readTold m_readCell m_readKind m_text m_length m_at m_faultAt m_there m_stopped m_acts m_next m_row m_bestRow m_seen m_seenCell m_seenWay m_seenCame m_seed m_isKept m_kept) := hD
  refine lv_iinc (v := 6) (lv' := [(1, .int 6), (0, .ref mh)]) hx hb dX7_layTrial_23 hl (k := 0) rfl (by decide) (by decide) rfl (fun ls hl => ?_)
  refine lv_goto (tgt := 2) hx hb dX7_layTrial_26 (by decide) ?_
  refine lv_iload_n hx hb dX7_layTrial_2 rfl (lv_at hl 0 rfl) ?_
  refine lv_bipush (v := 7) hx hb dX7_layTrial_3 (by decide) ?_
  refine lv_icmp_ge (tgt := 29) hx hb dX7_layTrial_5 (by decide) (fun c7 => absurd c7 (by decide)) (fun _ => ?_)
  refine lv_aload_n hx hb dX7_layTrial_8 rfl (lv_at hl 1 rfl) ?_
  refine va_get (D := D) (ci := 7) (v := .ref m_nowr) (C := RX7) (T := TX7) (N := 24) hx hb hts hiX7 hown hE.1 hP 0 rfl rfl 3 (by decide) (hts (.fieldLink RX7 16 "TiltTrayModel" "now" "[I") (by decide +kernel)) (fun _ h9 => h9) rfl dX7_layTrial_9 ?_
  refine lv_bipush (v := 7) hx hb dX7_layTrial_12 (by decide) ?_
  refine lv_iload_n hx hb dX7_layTrial_14 rfl (lv_at hl 0 rfl) ?_
  refine lv_iadd hx hb dX7_layTrial_15 ?_
  refine lv_fold (y := 13) (by decide) ?_
  refine lv_aload_n hx hb dX7_layTrial_16 rfl (lv_at hl 1 rfl) ?_
  refine va_get (D := D) (ci := 7) (v := .ref m_nowr) (C := RX7) (T := TX7) (N := 24) hx hb hts hiX7 hown hE.1 hP 0 rfl rfl 3 (by decide) (hts (.fieldLink RX7 16 "TiltTrayModel" "now" "[I") (by decide +kernel)) (fun _ h9 => h9) rfl dX7_layTrial_17 ?_
  refine lv_iload_n hx hb dX7_layTrial_20 rfl (lv_at hl 0 rfl) ?_
  refine va_iald hx hb hE.1 hP 3 0 rfl rfl (ix_in (by decide)) dX7_layTrial_21 ?_
  refine va_iast hx hb hE.1 hP hD hS 3 0 rfl rfl (ix_in (by decide)) dX7_layTrial_22 (fun H locs hP hD hS => ?_)
  have hP : va_P D vwCl (cMd mh m_kindr m_toldr m_nowr m_readToldr m_readCellr m_readKindr m_textr m_rowr m_seenCellr m_seenWayr m_seenCamer m_isKeptr m_keptr cy.1 cy.2.2.1 m_marbles m_kind m_told (upd (upd (upd (upd (upd (upd (upd m_now (7 : Int32).toNatClampNeg (m_now (0 : Int32).toNatClampNeg)) (8 : Int32).toNatClampNeg ((upd m_now (7 : Int32).toNatClampNeg (m_now (0 : Int32).toNatClampNeg)) (1 : Int32).toNatClampNeg)) (9 : Int32).toNatClampNeg ((upd (upd m_now (7 : Int32).toNatClampNeg (m_now (0 : Int32).toNatClampNeg)) (8 : Int32).toNatClampNeg ((upd m_now (7 : Int32).toNatClampNeg (m_now (0 : Int32).toNatClampNeg)) (1 : Int32).toNatClampNeg)) (2 : Int32).toNatClampNeg)) (10 : Int32).toNatClampNeg ((upd (upd (upd m_now (7 : Int32).toNatClampNeg (m_now (0 : Int32).toNatClampNeg)) (8 : Int32).toNatClampNeg ((upd m_now (7 : Int32).toNatClampNeg (m_now (0 : Int32).toNatClampNeg)) (1 : Int32).toNatClampNeg)) (9 : Int32).toNatClampNeg ((upd (upd m_now (7 : Int32).toNatClampNeg (m_now (0 : Int32).toNatClampNeg)) (8 : Int32).toNatClampNeg ((upd m_now (7 : Int32).toNatClampNeg (m_now (0 : Int32).toNatClampNeg)) (1 : Int32).toNatClampNeg)) (2 : Int32).toNatClampNeg)) (3 : Int32).toNatClampNeg)) (11 : Int32).toNatClampNeg ((upd (upd (upd (upd m_now (7 : Int32).toNatClampNeg (m_now (0 : Int32).toNatClampNeg)) (8 : Int32).toNatClampNeg ((upd m_now (7 : Int32).toNatClampNeg (m_now (0 : Int32).toNatClampNeg)) (1 : Int32).toNatClampNeg)) (9 : Int32).toNatClampNeg ((upd (upd m_now (7 : Int32).toNatClampNeg (m_now (0 : Int32).toNatClampNeg)) (8 : Int32).toNatClampNeg ((upd m_now (7 : Int32).toNatClampNeg (m_now (0 : Int32).toNatClampNeg)) (1 : Int32).toNatClampNeg)) (2 : Int32).toNatClampNeg)) (10 : Int32).toNatClampNeg ((upd (upd (upd m_now (7 : Int32).toNatClampNeg (m_now (0 : Int32).toNatClampNeg)) (8 : Int32).toNatClampNeg ((upd m_now (7 : Int32).toNatClampNeg (m_now (0 : Int32).toNatClampNeg)) (1 : Int32).toNatClampNeg)) (9 : Int32).toNatClampNeg ((upd (upd m_now (7 : Int32).toNatClampNeg (m_now (0 : Int32).toNatClampNeg)) (8 : Int32).toNatClampNeg ((upd m_now (7 : Int32).toNatClampNeg (m_now (0 : Int32).toNatClampNeg)) (1 : Int32).toNatClampNeg)) (2 : Int32).toNatClampNeg)) (3 : Int32).toNatClampNeg)) (4 : Int32).toNatClampNeg)) (12 : Int32).toNatClampNeg ((upd (upd (upd (upd (upd m_now (7 : Int32).toNatClampNeg (m_now (0 : Int32).toNatClampNeg)) (8 : Int32).toNatClampNeg ((upd m_now (7 : Int32).toNatClampNeg (m_now (0 : Int32).toNatClampNeg)) (1 : Int32).toNatClampNeg)) (9 : Int32).toNatClampNeg ((upd (upd m_now (7 : Int32).toNatClampNeg (m_now (0 : Int32).toNatClampNeg)) (8 : Int32).toNatClampNeg ((upd m_now (7 : Int32).toNatClampNeg (m_now (0 : Int32).toNatClampNeg)) (1 : Int32).toNatClampNeg)) (2 : Int32).toNatClampNeg)) (10 : Int32).toNatClampNeg ((upd (upd (upd m_now (7 : Int32).toNatClampNeg (m_now (0 : Int32).toNatClampNeg)) (8 : Int32).toNatClampNeg ((upd m_now (7 : Int32).toNatClampNeg (m_now (0 : Int32).toNatClampNeg)) (1 : Int32).toNatClampNeg)) (9 : Int32).toNatClampNeg ((upd (upd m_now (7 : Int32).toNatClampNeg (m_now (0 : Int32).toNatClampNeg)) (8 : Int32).toNatClampNeg ((upd m_now (7 : Int32).toNatClampNeg (m_now (0 : Int32).toNatClampNeg)) (1 : Int32).toNatClampNeg)) (2 : Int32).toNatClampNeg)) (3 : Int32).toNatClampNeg)) (11 : Int32).toNatClampNeg ((upd (upd (upd (upd m_now (7 : Int32).toNatClampNeg (m_now (0 : Int32).toNatClampNeg)) (8 : Int32).toNatClampNeg ((upd m_now (7 : Int32).toNatClampNeg (m_now (0 : Int32).toNatClampNeg)) (1 : Int32).toNatClampNeg)) (9 : Int32).toNatClampNeg ((upd (upd m_now (7 : Int32).toNatClampNeg (m_now (0 : Int32).toNatClampNeg)) (8 : Int32).toNatClampNeg ((upd m_now (7 : Int32).toNatClampNeg (m_now (0 : Int32).toNatClampNeg)) (1 : Int32).toNatClampNeg)) (2 : Int32).toNatClampNeg)) (10 : Int32).toNatClampNeg ((upd (upd (upd m_now (7 : Int32).toNatClampNeg (m_now (0 : Int32).toNatClampNeg)) (8 : Int32).toNatClampNeg ((upd m_now (7 : Int32).toNatClampNeg (m_now (0 : Int32).toNatClampNeg)) (1 : Int32).toNatClampNeg)) (9 : Int32).toNatClampNeg ((upd (upd m_now (7 : Int32).toNatClampNeg (m_now (0 : Int32).toNatClampNeg)) (8 : Int32).toNatClampNeg ((upd m_now (7 : Int32).toNatClampNeg (m_now (0 : Int32).toNatClampNeg)) (1 : Int32).toNatClampNeg)) (2 : Int32).toNatClampNeg)) (3 : Int32).toNatClampNeg)) (4 : Int32).toNatClampNeg)) (5 : Int32).toNatClampNeg)) (13 : Int32).toNatClampNeg ((upd (upd (upd (upd (upd (upd m_now (7 : Int32).toNatClampNeg (m_now (0 : Int32).toNatClampNeg)) (8 : Int32).toNatClampNeg ((upd m_now (7 : Int32).toNatClampNeg (m_now (0 : Int32).toNatClampNeg)) (1 : Int32).toNatClampNeg)) (9 : Int32).toNatClampNeg ((upd (upd m_now (7 : Int32).toNatClampNeg (m_now (0 : Int32).toNatClampNeg)) (8 : Int32).toNatClampNeg ((upd m_now (7 : Int32).toNatClampNeg (m_now (0 : Int32).toNatClampNeg)) (1 : Int32).toNatClampNeg)) (2 : Int32).toNatClampNeg)) (10 : Int32).toNatClampNeg ((upd (upd (upd m_now (7 : Int32).toNatClampNeg (m_now (0 : Int32).toNatClampNeg)) (8 : Int32).toNatClampNeg ((upd m_now (7 : Int32).toNatClampNeg (m_now (0 : Int32).toNatClampNeg)) (1 : Int32).toNatClampNeg)) (9 : Int32).toNatClampNeg ((upd (upd m_now (7 : Int32).toNatClampNeg (m_now (0 : Int32).toNatClampNeg)) (8 : Int32).toNatClampNeg ((upd m_now (7 : Int32).toNatClampNeg (m_now (0 : Int32).toNatClampNeg)) (1 : Int32).toNatClampNeg)) (2 : Int32).toNatClampNeg)) (3 : Int32).toNatClampNeg)) (11 : Int32).toNatClampNeg ((upd (upd (upd (upd m_now (7 : Int32).toNatClampNeg (m_now (0 : Int32).toNatClampNeg)) (8 : Int32).toNatClampNeg ((upd m_now (7 : Int32).toNatClampNeg (m_now (0 : Int32).toNatClampNeg)) (1 : Int32).toNatClampNeg)) (9 : Int32).toNatClampNeg ((upd (upd m_now (7 : Int32).toNatClampNeg (m_now (0 : Int32).toNatClampNeg)) (8 : Int32).toNatClampNeg ((upd m_now (7 : Int32).toNatClampNeg (m_now (0 : Int32).toNatClampNeg)) (1 : Int32).toNatClampNeg)) (2 : Int32).toNatClampNeg)) (10 : Int32).toNatClampNeg ((upd (upd (upd m_now (7 : Int32).toNatClampNeg (m_now (0 : Int32).toNatClampNeg)) (8 : Int32).toNatClampNeg ((upd m_now (7 : Int32).toNatClampNeg (m_now (0 : Int32).toNatClampNeg)) (1 : Int32).toNatClampNeg)) (9 : Int32).toNatClampNeg ((upd (upd m_now (7 : Int32).toNatClampNeg (m_now (0 : Int32).toNatClampNeg)) (8 : Int32).toNatClampNeg ((upd m_now (7 : Int32).toNatClampNeg (m_now (0 : Int32).toNatClampNeg)) (1 : Int32).toNatClampNeg)) (2 : Int32).toNatClampNeg)) (3 : Int32).toNatClampNeg)) (4 : Int32).toNatClampNeg)) (12 : Int32).toNatClampNeg ((upd (upd (upd (upd (upd m_now (7 : Int32).toNatClampNeg (m_now (0 : Int32).toNatClampNeg)) (8 : Int32).toNatClampNeg ((upd m_now (7 : Int32).toNatClampNeg (m_now (0 : Int32).toNatClampNeg)) (1 : Int32).toNatClampNeg)) (9 : Int32).toNatClampNeg ((upd (upd m_now (7 : Int32).toNatClampNeg (m_now (0 : Int32).toNatClampNeg)) (8 : Int32).toNatClampNeg ((upd m_now (7 : Int32).toNatClampNeg (m_now (0 : Int32).toNatClampNeg)) (1 : Int32).toNatClampNeg)) (2 : Int32).toNatClampNeg)) (10 : Int32).toNatClampNeg ((upd (upd (upd m_now (7 : Int32).toNatClampNeg (m_now (0 : Int32).toNatClampNeg)) (8 : Int32).toNatClampNeg ((upd m_now (7 : Int32).toNatClampNeg (m_now (0 : Int32).toNatClampNeg)) (1 : Int32).toNatClampNeg)) (9 : Int32).toNatClampNeg ((upd (upd m_now (7 : Int32).toNatClampNeg (m_now (0 : Int32).toNatClampNeg)) (8 : Int32).toNatClampNeg ((upd m_now (7 : Int32).toNatClampNeg (m_now (0 : Int32).toNatClampNeg)) (1 : Int32).toNatClampNeg)) (2 : Int32).toNatClampNeg)) (3 : Int32).toNatClampNeg)) (11 : Int32).toNatClampNeg ((upd (upd (upd (upd m_now (7 : Int32).toNatClampNeg (m_now (0 : Int32).toNatClampNeg)) (8 : Int32).toNatClampNeg ((upd m_now (7 : Int32).toNatClampNeg (m_now (0 : Int32).toNatClampNeg)) (1 : Int32).toNatClampNeg)) (9 : Int32).toNatClampNeg ((upd (upd m_now (7 : Int32).toNatClampNeg (m_now (0 : Int32).toNatClampNeg)) (8 : Int32).toNatClampNeg ((upd m_now (7 : Int32).toNatClampNeg (m_now (0 : Int32).toNatClampNeg)) (1 : Int32).toNatClampNeg)) (2 : Int32).toNatClampNeg)) (10 : Int32).toNatClampNeg ((upd (upd (upd m_now (7 : Int32).toNatClampNeg (m_now (0 : Int32).toNatClampNeg)) (8 : Int32).toNatClampNeg ((upd m_now (7 : Int32).toNatClampNeg (m_now (0 : Int32).toNatClampNeg)) (1 : Int32).toNatClampNeg)) (9 : Int32).toNatClampNeg ((upd (upd m_now (7 : Int32).toNatClampNeg (m_now (0 : Int32).toNatClampNeg)) (8 : Int32).toNatClampNeg ((upd m_now (7 : Int32).toNatClampNeg (m_now (0 : Int32).toNatClampNeg)) (1 : Int32).toNatClampNeg)) (2 : Int32).toNatClampNeg)) (3 : Int32).toNatClampNeg)) (4 : Int32).toNatClampNeg)) (5 : Int32).toNatClampNeg)) (6 : Int32).toNatClampNeg)) m_readTold m_readCell m_readKind m_text m_length m_at m_faultAt m_there m_stopped m_acts m_next m_row m_bestRow m_seen m_seenCell m_seenWay m_seenCame m_seed m_isKept m_kept) H := hP
  have hD : va_D A (cMd mh m_kindr m_toldr m_nowr m_readToldr m_readCellr m_readKindr m_textr m_rowr m_seenCellr m_seenWayr m_seenCamer m_isKeptr m_keptr cy.1 cy.2.2.1 m_marbles m_kind m_told (upd (upd (upd (upd (upd (upd (upd m_now (7 : Int32).toNatClampNeg (m_now (0 : Int32).toNatClampNeg)) (8 : Int32).toNatClampNeg ((upd m_now (7 : Int32).toNatClampNeg (m_now (0 : Int32).toNatClampNeg)) (1 : Int32).toNatClampNeg)) (9 : Int32).toNatClampNeg ((upd (upd m_now (7 : Int32).toNatClampNeg (m_now (0 : Int32).toNatClampNeg)) (8 : Int32).toNatClampNeg ((upd m_now (7 : Int32).toNatClampNeg (m_now (0 : Int32).toNatClampNeg)) (1 : Int32).toNatClampNeg)) (2 : Int32).toNatClampNeg)) (10 : Int32).toNatClampNeg ((upd (upd (upd m_now (7 : Int32).toNatClampNeg (m_now (0 : Int32).toNatClampNeg)) (8 : Int32).toNatClampNeg ((upd m_now (7 : Int32).toNatClampNeg (m_now (0 : Int32).toNatClampNeg)) (1 : Int32).toNatClampNeg)) (9 : Int32).toNatClampNeg ((upd (upd m_now (7 : Int32).toNatClampNeg (m_now (0 : Int32).toNatClampNeg)) (8 : Int32).toNatClampNeg ((upd m_now (7 : Int32).toNatClampNeg (m_now (0 : Int32).toNatClampNeg)) (1 : Int32).toNatClampNeg)) (2 : Int32).toNatClampNeg)) (3 : Int32).toNatClampNeg)) (11 : Int32).toNatClampNeg ((upd (upd (upd (upd m_now (7 : Int32).toNatClampNeg (m_now (0 : Int32).toNatClampNeg)) (8 : Int32).toNatClampNeg ((upd m_now (7 : Int32).toNatClampNeg (m_now (0 : Int32).toNatClampNeg)) (1 : Int32).toNatClampNeg)) (9 : Int32).toNatClampNeg ((upd (upd m_now (7 : Int32).toNatClampNeg (m_now (0 : Int32).toNatClampNeg)) (8 : Int32).toNatClampNeg ((upd m_now (7 : Int32).toNatClampNeg (m_now (0 : Int32).toNatClampNeg)) (1 : Int32).toNatClampNeg)) (2 : Int32).toNatClampNeg)) (10 : Int32).toNatClampNeg ((upd (upd (upd m_now (7 : Int32).toNatClampNeg (m_now (0 : Int32).toNatClampNeg)) (8 : Int32).toNatClampNeg ((upd m_now (7 : Int32).toNatClampNeg (m_now (0 : Int32).toNatClampNeg)) (1 : Int32).toNatClampNeg)) (9 : Int32).toNatClampNeg ((upd (upd m_now (7 : Int32).toNatClampNeg (m_now (0 : Int32).toNatClampNeg)) (8 : Int32).toNatClampNeg ((upd m_now (7 : Int32).toNatClampNeg (m_now (0 : Int32).toNatClampNeg)) (1 : Int32).toNatClampNeg)) (2 : Int32).toNatClampNeg)) (3 : Int32).toNatClampNeg)) (4 : Int32).toNatClampNeg)) (12 : Int32).toNatClampNeg ((upd (upd (upd (upd (upd m_now (7 : Int32).toNatClampNeg (m_now (0 : Int32).toNatClampNeg)) (8 : Int32).toNatClampNeg ((upd m_now (7 : Int32).toNatClampNeg (m_now (0 : Int32).toNatClampNeg)) (1 : Int32).toNatClampNeg)) (9 : Int32).toNatClampNeg ((upd (upd m_now (7 : Int32).toNatClampNeg (m_now (0 : Int32).toNatClampNeg)) (8 : Int32).toNatClampNeg ((upd m_now (7 : Int32).toNatClampNeg (m_now (0 : Int32).toNatClampNeg)) (1 : Int32).toNatClampNeg)) (2 : Int32).toNatClampNeg)) (10 : Int32).toNatClampNeg ((upd (upd (upd m_now (7 : Int32).toNatClampNeg (m_now (0 : Int32).toNatClampNeg)) (8 : Int32).toNatClampNeg ((upd m_now (7 : Int32).toNatClampNeg (m_now (0 : Int32).toNatClampNeg)) (1 : Int32).toNatClampNeg)) (9 : Int32).toNatClampNeg ((upd (upd m_now (7 : Int32).toNatClampNeg (m_now (0 : Int32).toNatClampNeg)) (8 : Int32).toNatClampNeg ((upd m_now (7 : Int32).toNatClampNeg (m_now (0 : Int32).toNatClampNeg)) (1 : Int32).toNatClampNeg)) (2 : Int32).toNatClampNeg)) (3 : Int32).toNatClampNeg)) (11 : Int32).toNatClampNeg ((upd (upd (upd (upd m_now (7 : Int32).toNatClampNeg (m_now (0 : Int32).toNatClampNeg)) (8 : Int32).toNatClampNeg ((upd m_now (7 : Int32).toNatClampNeg (m_now (0 : Int32).toNatClampNeg)) (1 : Int32).toNatClampNeg)) (9 : Int32).toNatClampNeg ((upd (upd m_now (7 : Int32).toNatClampNeg (m_now (0 : Int32).toNatClampNeg)) (8 : Int32).toNatClampNeg ((upd m_now (7 : Int32).toNatClampNeg (m_now (0 : Int32).toNatClampNeg)) (1 : Int32).toNatClampNeg)) (2 : Int32).toNatClampNeg)) (10 : Int32).toNatClampNeg ((upd (upd (upd m_now (7 : Int32).toNatClampNeg (m_now (0 : Int32).toNatClampNeg)) (8 : Int32).toNatClampNeg ((upd m_now (7 : Int32).toNatClampNeg (m_now (0 : Int32).toNatClampNeg)) (1 : Int32).toNatClampNeg)) (9 : Int32).toNatClampNeg ((upd (upd m_now (7 : Int32).toNatClampNeg (m_now (0 : Int32).toNatClampNeg)) (8 : Int32).toNatClampNeg ((upd m_now (7 : Int32).toNatClampNeg (m_now (0 : Int32).toNatClampNeg)) (1 : Int32).toNatClampNeg)) (2 : Int32).toNatClampNeg)) (3 : Int32).toNatClampNeg)) (4 : Int32).toNatClampNeg)) (5 : Int32).toNatClampNeg)) (13 : Int32).toNatClampNeg ((upd (upd (upd (upd (upd (upd m_now (7 : Int32).toNatClampNeg (m_now (0 : Int32).toNatClampNeg)) (8 : Int32).toNatClampNeg ((upd m_now (7 : Int32).toNatClampNeg (m_now (0 : Int32).toNatClampNeg)) (1 : Int32).toNatClampNeg)) (9 : Int32).toNatClampNeg ((upd (upd m_now (7 : Int32).toNatClampNeg (m_now (0 : Int32).toNatClampNeg)) (8 : Int32).toNatClampNeg ((upd m_now (7 : Int32).toNatClampNeg (m_now (0 : Int32).toNatClampNeg)) (1 : Int32).toNatClampNeg)) (2 : Int32).toNatClampNeg)) (10 : Int32).toNatClampNeg ((upd (upd (upd m_now (7 : Int32).toNatClampNeg (m_now (0 : Int32).toNatClampNeg)) (8 : Int32).toNatClampNeg ((upd m_now (7 : Int32).toNatClampNeg (m_now (0 : Int32).toNatClampNeg)) (1 : Int32).toNatClampNeg)) (9 : Int32).toNatClampNeg ((upd (upd m_now (7 : Int32).toNatClampNeg (m_now (0 : Int32).toNatClampNeg)) (8 : Int32).toNatClampNeg ((upd m_now (7 : Int32).toNatClampNeg (m_now (0 : Int32).toNatClampNeg)) (1 : Int32).toNatClampNeg)) (2 : Int32).toNatClampNeg)) (3 : Int32).toNatClampNeg)) (11 : Int32).toNatClampNeg ((upd (upd (upd (upd m_now (7 : Int32).toNatClampNeg (m_now (0 : Int32).toNatClampNeg)) (8 : Int32).toNatClampNeg ((upd m_now (7 : Int32).toNatClampNeg (m_now (0 : Int32).toNatClampNeg)) (1 : Int32).toNatClampNeg)) (9 : Int32).toNatClampNeg ((upd (upd m_now (7 : Int32).toNatClampNeg (m_now (0 : Int32).toNatClampNeg)) (8 : Int32).toNatClampNeg ((upd m_now (7 : Int32).toNatClampNeg (m_now (0 : Int32).toNatClampNeg)) (1 : Int32).toNatClampNeg)) (2 : Int32).toNatClampNeg)) (10 : Int32).toNatClampNeg ((upd (upd (upd m_now (7 : Int32).toNatClampNeg (m_now (0 : Int32).toNatClampNeg)) (8 : Int32).toNatClampNeg ((upd m_now (7 : Int32).toNatClampNeg (m_now (0 : Int32).toNatClampNeg)) (1 : Int32).toNatClampNeg)) (9 : Int32).toNatClampNeg ((upd (upd m_now (7 : Int32).toNatClampNeg (m_now (0 : Int32).toNatClampNeg)) (8 : Int32).toNatClampNeg ((upd m_now (7 : Int32).toNatClampNeg (m_now (0 : Int32).toNatClampNeg)) (1 : Int32).toNatClampNeg)) (2 : Int32).toNatClampNeg)) (3 : Int32).toNatClampNeg)) (4 : Int32).toNatClampNeg)) (12 : Int32).toNatClampNeg ((upd (upd (upd (upd (upd m_now (7 : Int32).toNatClampNeg (m_now (0 : Int32).toNatClampNeg)) (8 : Int32).toNatClampNeg ((upd m_now (7 : Int32).toNatClampNeg (m_now (0 : Int32).toNatClampNeg)) (1 : Int32).toNatClampNeg)) (9 : Int32).toNatClampNeg ((upd (upd m_now (7 : Int32).toNatClampNeg (m_now (0 : Int32).toNatClampNeg)) (8 : Int32).toNatClampNeg ((upd m_now (7 : Int32).toNatClampNeg (m_now (0 : Int32).toNatClampNeg)) (1 : Int32).toNatClampNeg)) (2 : Int32).toNatClampNeg)) (10 : Int32).toNatClampNeg ((upd (upd (upd m_now (7 : Int32).toNatClampNeg (m_now (0 : Int32).toNatClampNeg)) (8 : Int32).toNatClampNeg ((upd m_now (7 : Int32).toNatClampNeg (m_now (0 : Int32).toNatClampNeg)) (1 : Int32).toNatClampNeg)) (9 : Int32).toNatClampNeg ((upd (upd m_now (7 : Int32).toNatClampNeg (m_now (0 : Int32).toNatClampNeg)) (8 : Int32).toNatClampNeg ((upd m_now (7 : Int32).toNatClampNeg (m_now (0 : Int32).toNatClampNeg)) (1 : Int32).toNatClampNeg)) (2 : Int32).toNatClampNeg)) (3 : Int32).toNatClampNeg)) (11 : Int32).toNatClampNeg ((upd (upd (upd (upd m_now (7 : Int32).toNatClampNeg (m_now (0 : Int32).toNatClampNeg)) (8 : Int32).toNatClampNeg ((upd m_now (7 : Int32).toNatClampNeg (m_now (0 : Int32).toNatClampNeg)) (1 : Int32).toNatClampNeg)) (9 : Int32).toNatClampNeg ((upd (upd m_now (7 : Int32).toNatClampNeg (m_now (0 : Int32).toNatClampNeg)) (8 : Int32).toNatClampNeg ((upd m_now (7 : Int32).toNatClampNeg (m_now (0 : Int32).toNatClampNeg)) (1 : Int32).toNatClampNeg)) (2 : Int32).toNatClampNeg)) (10 : Int32).toNatClampNeg ((upd (upd (upd m_now (7 : Int32).toNatClampNeg (m_now (0 : Int32).toNatClampNeg)) (8 : Int32).toNatClampNeg ((upd m_now (7 : Int32).toNatClampNeg (m_now (0 : Int32).toNatClampNeg)) (1 : Int32).toNatClampNeg)) (9 : Int32).toNatClampNeg ((upd (upd m_now (7 : Int32).toNatClampNeg (m_now (0 : Int32).toNatClampNeg)) (8 : Int32).toNatClampNeg ((upd m_now (7 : Int32).toNatClampNeg (m_now (0 : Int32).toNatClampNeg)) (1 : Int32).toNatClampNeg)) (2 : Int32).toNatClampNeg)) (3 : Int32).toNatClampNeg)) (4 : Int32).toNatClampNeg)) (5 : Int32).toNatClampNeg)) (6 : Int32).toNatClampNeg)) m_readTold m_readCell m_readKind m_text m_length m_at m_faultAt m_there m_stopped m_acts m_next m_row m_bestRow m_seen m_seenCell m_seenWay m_seenCame m_seed m_isKept m_kept) := hD
  refine lv_iinc (v := 7) (lv' := [(1, .int 7), (0, .ref mh)]) hx hb dX7_layTrial_23 hl (k := 0) rfl (by decide) (by decide) rfl (fun ls hl => ?_)
  refine lv_goto (tgt := 2) hx hb dX7_layTrial_26 (by decide) ?_
  refine lv_iload_n hx hb dX7_layTrial_2 rfl (lv_at hl 0 rfl) ?_
  refine lv_bipush (v := 7) hx hb dX7_layTrial_3 (by decide) ?_
  refine lv_icmp_ge (tgt := 29) hx hb dX7_layTrial_5 (by decide) (fun _ => ?_) (fun c8 => absurd c8 (by decide))
  obtain rfl := Option.some.inj h
  rw [hQ]; exact ct_vret hx hb hr hlocks hP hS rfl dX7_layTrial_29

def tw_X7_cell (m_marbles : Int32) (m_told : Nat → Int32) (m_now : Nat → Int32) (m_there : Int32) (p1 : Int32) (p2 : Int32) : Option (Int32) :=
  (tw_X7_isCell p1).bind (fun q1 => if q1 = 0 then (some ((-1))) else (if p2 = 0 then ((tw_X7_has (m_told (0 : Int32).toNatClampNeg) p1).bind (fun q3 => if q3 = 0 then ((tw_X7_has (m_told (1 : Int32).toNatClampNeg) p1).bind (fun q5 => if q5 = 0 then ((tw_X7_has (m_told (2 : Int32).toNatClampNeg) p1).bind (fun q7 => if q7 = 0 then ((tw_X7_has (m_told (3 : Int32).toNatClampNeg) p1).bind (fun q9 => if q9 = 0 then (some (0)) else (some (4)))) else (some (3)))) else (some (2)))) else (some (1)))) else (if p2 = 1 then ((tw_X7_marbleAt m_marbles m_now m_there 0 p1).bind (fun q12 => some (q12))) else (if p2 = 2 then (some (((m_now (4 : Int32).toNatClampNeg) >>> (p1 &&& 31)) &&& 1)) else (if p2 = 3 then (some (((m_now (5 : Int32).toNatClampNeg) >>> (p1 &&& 31)) &&& 1)) else (some ((-2))))))))
set_option maxHeartbeats 4000000 in
set_option maxRecDepth 100000 in
theorem c_X7_cell (l : Launch) (D : va_G) (cy : Cy) (mh : Nat) (m_kindr : Nat) (m_toldr : Nat) (m_nowr : Nat) (m_readToldr : Nat) (m_readCellr : Nat) (m_readKindr : Nat) (m_textr : Nat) (m_rowr : Nat) (m_seenCellr : Nat) (m_seenWayr : Nat) (m_seenCamer : Nat) (m_isKeptr : Nat) (m_keptr : Nat) (m_marbles : Int32) (m_kind : Nat → Int32) (m_told : Nat → Int32) (m_now : Nat → Int32) (m_readTold : Nat → Int32) (m_readCell : Nat → Int32) (m_readKind : Nat → Int32) (m_text : Nat → Int32) (m_length : Int32) (m_at : Int32) (m_faultAt : Int32) (m_there : Int32) (m_stopped : Int32) (m_acts : Int32) (m_next : Int32) (m_row : Nat → Int32) (m_bestRow : Int32) (m_seen : Int32) (m_seenCell : Nat → Int32) (m_seenWay : Nat → Int32) (m_seenCame : Nat → Int32) (m_seed : Int64) (m_isKept : Nat → Int32) (m_kept : Nat → Int32) (p1 : Int32) (p2 : Int32) (res : Int32) (h : tw_X7_cell m_marbles m_told m_now m_there p1 p2 = some res) : Ct l yX7_cell wsX7_cell 3 66 D cy [.ref mh, .int p1, .int p2] (cMd mh m_kindr m_toldr m_nowr m_readToldr m_readCellr m_readKindr m_textr m_rowr m_seenCellr m_seenWayr m_seenCamer m_isKeptr m_keptr cy.1 cy.2.2.1 m_marbles m_kind m_told m_now m_readTold m_readCell m_readKind m_text m_length m_at m_faultAt m_there m_stopped m_acts m_next m_row m_bestRow m_seen m_seenCell m_seenWay m_seenCame m_seed m_isKept m_kept) (cMd mh m_kindr m_toldr m_nowr m_readToldr m_readCellr m_readKindr m_textr m_rowr m_seenCellr m_seenWayr m_seenCamer m_isKeptr m_keptr cy.1 cy.2.2.1 m_marbles m_kind m_told m_now m_readTold m_readCell m_readKind m_text m_length m_at m_faultAt m_there m_stopped m_acts m_next m_row m_bestRow m_seen m_seenCell m_seenWay m_seenCame m_seed m_isKept m_kept) (some (.int res)) := by
  refine Ct.ofW (cc := cX7_cell) (maxL := 3) (ret := (some .int)) (by decide) rfl (Nat.le_of_ble_eq_true rfl) ?_
  intro p e R s m args below meth c A Q ls hRf hRl hQ hx hb hr hml hts hown hlocks hE hP hD hS hA hl
  have hiX7 : ∀ w ∈ u_ws RX7 TX7 24, w ∈ wsX7_cell := by decide +kernel
  have hl : lv_has ls 3 [(0, .ref mh), (1, .int p1), (2, .int p2)] := hl
  rw [tw_X7_cell] at h
  refine lv_iload_n hx hb dX7_cell_0 rfl (lv_at hl 1 rfl) ?_
  obtain ⟨q1, hq1, h⟩ := ob h
  refine kS (As := [.int p1]) (rest := []) (w2 := cMd mh m_kindr m_toldr m_nowr m_readToldr m_readCellr m_readKindr m_textr m_rowr m_seenCellr m_seenWayr m_seenCamer m_isKeptr m_keptr cy.1 cy.2.2.1 m_marbles m_kind m_told m_now m_readTold m_readCell m_readKind m_text m_length m_at m_faultAt m_there m_stopped m_acts m_next m_row m_bestRow m_seen m_seenCell m_seenWay m_seenCame m_seed m_isKept m_kept) (n := 1) ⟨hx, hb, hml, hown, hts⟩ (c_X7_isCell l D cy p1 q1 hq1) gX7_cell_X7_isCell rfl (by decide +kernel) ⟨by rw [hRf]; exact Nat.le_of_ble_eq_true rfl, by rw [hRl]; exact Nat.le_of_ble_eq_true rfl⟩ hE hP hD hS hA [] rfl rfl rfl rfl rfl hl.1 rfl (Nat.le_of_ble_eq_true rfl) dX7_cell_1 ⟨Nat.zero_le _, Nat.zero_le _⟩ (fun H locs hP hD hS => ?_)
  refine lv_if_ne (tgt := 9) hx hb dX7_cell_4 (by decide) (fun c2 => ?_) (fun c2 => ?_)
  · have h := oif h c2
    refine lv_iload_n hx hb dX7_cell_9 rfl (lv_at hl 2 rfl) ?_
    by_cases c11 : p2 = 0
    · have h := oit h c11
      refine lv_tableIn (off := 30) (tgt := 40) hx hb dX7_cell_10 (by rw [c11]; decide) (by rw [c11]; decide) (by rw [c11]; decide) (by decide) ?_
      refine lv_aload_n hx hb dX7_cell_40 rfl (lv_at hl 0 rfl) ?_
      refine va_get (D := D) (ci := 7) (v := .ref m_toldr) (C := RX7) (T := TX7) (N := 24) hx hb hts hiX7 hown hE.1 hP 0 rfl rfl 2 (by decide) (hts (.fieldLink RX7 13 "TiltTrayModel" "told" "[I") (by decide +kernel)) (fun _ h9 => h9) rfl dX7_cell_41 ?_
      refine lv_iconst (v := 0) hx hb dX7_cell_44 (by decide) ?_
      refine va_iald hx hb hE.1 hP 2 0 rfl rfl (ix_in (by decide)) dX7_cell_45 ?_
      refine lv_iload_n hx hb dX7_cell_46 rfl (lv_at hl 1 rfl) ?_
      obtain ⟨q3, hq3, h⟩ := ob h
      refine kS (As := [.int (m_told (0 : Int32).toNatClampNeg), .int p1]) (rest := []) (w2 := cMd mh m_kindr m_toldr m_nowr m_readToldr m_readCellr m_readKindr m_textr m_rowr m_seenCellr m_seenWayr m_seenCamer m_isKeptr m_keptr cy.1 cy.2.2.1 m_marbles m_kind m_told m_now m_readTold m_readCell m_readKind m_text m_length m_at m_faultAt m_there m_stopped m_acts m_next m_row m_bestRow m_seen m_seenCell m_seenWay m_seenCame m_seed m_isKept m_kept) (n := 2) ⟨hx, hb, hml, hown, hts⟩ (c_X7_has l D cy (m_told (0 : Int32).toNatClampNeg) p1 q3 hq3) gX7_cell_X7_has rfl (by decide +kernel) ⟨by rw [hRf]; exact Nat.le_of_ble_eq_true rfl, by rw [hRl]; exact Nat.le_of_ble_eq_true rfl⟩ hE hP hD hS hA [] rfl rfl rfl rfl rfl hl.1 rfl (Nat.le_of_ble_eq_true rfl) dX7_cell_47 ⟨Nat.zero_le _, Nat.zero_le _⟩ (fun H locs hP hD hS => ?_)
      refine lv_if_eq (tgt := 57) hx hb dX7_cell_50 (by decide) (fun c4 => ?_) (fun c4 => ?_)
      · have h := oit h c4
        refine lv_aload_n hx hb dX7_cell_57 rfl (lv_at hl 0 rfl) ?_
        refine va_get (D := D) (ci := 7) (v := .ref m_toldr) (C := RX7) (T := TX7) (N := 24) hx hb hts hiX7 hown hE.1 hP 0 rfl rfl 2 (by decide) (hts (.fieldLink RX7 13 "TiltTrayModel" "told" "[I") (by decide +kernel)) (fun _ h9 => h9) rfl dX7_cell_58 ?_
        refine lv_iconst (v := 1) hx hb dX7_cell_61 (by decide) ?_
        refine va_iald hx hb hE.1 hP 2 0 rfl rfl (ix_in (by decide)) dX7_cell_62 ?_
        refine lv_iload_n hx hb dX7_cell_63 rfl (lv_at hl 1 rfl) ?_
        obtain ⟨q5, hq5, h⟩ := ob h
        refine kS (As := [.int (m_told (1 : Int32).toNatClampNeg), .int p1]) (rest := []) (w2 := cMd mh m_kindr m_toldr m_nowr m_readToldr m_readCellr m_readKindr m_textr m_rowr m_seenCellr m_seenWayr m_seenCamer m_isKeptr m_keptr cy.1 cy.2.2.1 m_marbles m_kind m_told m_now m_readTold m_readCell m_readKind m_text m_length m_at m_faultAt m_there m_stopped m_acts m_next m_row m_bestRow m_seen m_seenCell m_seenWay m_seenCame m_seed m_isKept m_kept) (n := 2) ⟨hx, hb, hml, hown, hts⟩ (c_X7_has l D cy (m_told (1 : Int32).toNatClampNeg) p1 q5 hq5) gX7_cell_X7_has rfl (by decide +kernel) ⟨by rw [hRf]; exact Nat.le_of_ble_eq_true rfl, by rw [hRl]; exact Nat.le_of_ble_eq_true rfl⟩ hE hP hD hS hA [] rfl rfl rfl rfl rfl hl.1 rfl (Nat.le_of_ble_eq_true rfl) dX7_cell_64 ⟨Nat.zero_le _, Nat.zero_le _⟩ (fun H locs hP hD hS => ?_)
        refine lv_if_eq (tgt := 74) hx hb dX7_cell_67 (by decide) (fun c6 => ?_) (fun c6 => ?_)
        · have h := oit h c6
          refine lv_aload_n hx hb dX7_cell_74 rfl (lv_at hl 0 rfl) ?_
          refine va_get (D := D) (ci := 7) (v := .ref m_toldr) (C := RX7) (T := TX7) (N := 24) hx hb hts hiX7 hown hE.1 hP 0 rfl rfl 2 (by decide) (hts (.fieldLink RX7 13 "TiltTrayModel" "told" "[I") (by decide +kernel)) (fun _ h9 => h9) rfl dX7_cell_75 ?_
          refine lv_iconst (v := 2) hx hb dX7_cell_78 (by decide) ?_
          refine va_iald hx hb hE.1 hP 2 0 rfl rfl (ix_in (by decide)) dX7_cell_79 ?_
          refine lv_iload_n hx hb dX7_cell_80 rfl (lv_at hl 1 rfl) ?_
          obtain ⟨q7, hq7, h⟩ := ob h
          refine kS (As := [.int (m_told (2 : Int32).toNatClampNeg), .int p1]) (rest := []) (w2 := cMd mh m_kindr m_toldr m_nowr m_readToldr m_readCellr m_readKindr m_textr m_rowr m_seenCellr m_seenWayr m_seenCamer m_isKeptr m_keptr cy.1 cy.2.2.1 m_marbles m_kind m_told m_now m_readTold m_readCell m_readKind m_text m_length m_at m_faultAt m_there m_stopped m_acts m_next m_row m_bestRow m_seen m_seenCell m_seenWay m_seenCame m_seed m_isKept m_kept) (n := 2) ⟨hx, hb, hml, hown, hts⟩ (c_X7_has l D cy (m_told (2 : Int32).toNatClampNeg) p1 q7 hq7) gX7_cell_X7_has rfl (by decide +kernel) ⟨by rw [hRf]; exact Nat.le_of_ble_eq_true rfl, by rw [hRl]; exact Nat.le_of_ble_eq_true rfl⟩ hE hP hD hS hA [] rfl rfl rfl rfl rfl hl.1 rfl (Nat.le_of_ble_eq_true rfl) dX7_cell_81 ⟨Nat.zero_le _, Nat.zero_le _⟩ (fun H locs hP hD hS => ?_)
          refine lv_if_eq (tgt := 91) hx hb dX7_cell_84 (by decide) (fun c8 => ?_) (fun c8 => ?_)
          · have h := oit h c8
            refine lv_aload_n hx hb dX7_cell_91 rfl (lv_at hl 0 rfl) ?_
            refine va_get (D := D) (ci := 7) (v := .ref m_toldr) (C := RX7) (T := TX7) (N := 24) hx hb hts hiX7 hown hE.1 hP 0 rfl rfl 2 (by decide) (hts (.fieldLink RX7 13 "TiltTrayModel" "told" "[I") (by decide +kernel)) (fun _ h9 => h9) rfl dX7_cell_92 ?_
            refine lv_iconst (v := 3) hx hb dX7_cell_95 (by decide) ?_
            refine va_iald hx hb hE.1 hP 2 0 rfl rfl (ix_in (by decide)) dX7_cell_96 ?_
            refine lv_iload_n hx hb dX7_cell_97 rfl (lv_at hl 1 rfl) ?_
            obtain ⟨q9, hq9, h⟩ := ob h
            refine kS (As := [.int (m_told (3 : Int32).toNatClampNeg), .int p1]) (rest := []) (w2 := cMd mh m_kindr m_toldr m_nowr m_readToldr m_readCellr m_readKindr m_textr m_rowr m_seenCellr m_seenWayr m_seenCamer m_isKeptr m_keptr cy.1 cy.2.2.1 m_marbles m_kind m_told m_now m_readTold m_readCell m_readKind m_text m_length m_at m_faultAt m_there m_stopped m_acts m_next m_row m_bestRow m_seen m_seenCell m_seenWay m_seenCame m_seed m_isKept m_kept) (n := 2) ⟨hx, hb, hml, hown, hts⟩ (c_X7_has l D cy (m_told (3 : Int32).toNatClampNeg) p1 q9 hq9) gX7_cell_X7_has rfl (by decide +kernel) ⟨by rw [hRf]; exact Nat.le_of_ble_eq_true rfl, by rw [hRl]; exact Nat.le_of_ble_eq_true rfl⟩ hE hP hD hS hA [] rfl rfl rfl rfl rfl hl.1 rfl (Nat.le_of_ble_eq_true rfl) dX7_cell_98 ⟨Nat.zero_le _, Nat.zero_le _⟩ (fun H locs hP hD hS => ?_)
            refine lv_if_eq (tgt := 108) hx hb dX7_cell_101 (by decide) (fun c10 => ?_) (fun c10 => ?_)
            · have h := oit h c10
              refine lv_iconst (v := 0) hx hb dX7_cell_108 (by decide) ?_
              obtain rfl := Option.some.inj h
              rw [hQ]; exact ct_iret hx hb hr hlocks hP hS rfl dX7_cell_109
            · have h := oif h c10
              refine lv_iconst (v := 4) hx hb dX7_cell_104 (by decide) ?_
              refine lv_goto (tgt := 109) hx hb dX7_cell_105 (by decide) ?_
              obtain rfl := Option.some.inj h
              rw [hQ]; exact ct_iret hx hb hr hlocks hP hS rfl dX7_cell_109
          · have h := oif h c8
            refine lv_iconst (v := 3) hx hb dX7_cell_87 (by decide) ?_
            refine lv_goto (tgt := 109) hx hb dX7_cell_88 (by decide) ?_
            obtain rfl := Option.some.inj h
            rw [hQ]; exact ct_iret hx hb hr hlocks hP hS rfl dX7_cell_109
        · have h := oif h c6
          refine lv_iconst (v := 2) hx hb dX7_cell_70 (by decide) ?_
          refine lv_goto (tgt := 109) hx hb dX7_cell_71 (by decide) ?_
          obtain rfl := Option.some.inj h
          rw [hQ]; exact ct_iret hx hb hr hlocks hP hS rfl dX7_cell_109
      · have h := oif h c4
        refine lv_iconst (v := 1) hx hb dX7_cell_53 (by decide) ?_
        refine lv_goto (tgt := 109) hx hb dX7_cell_54 (by decide) ?_
        obtain rfl := Option.some.inj h
        rw [hQ]; exact ct_iret hx hb hr hlocks hP hS rfl dX7_cell_109
    have h := oif h c11
    by_cases c13 : p2 = 1
    · have h := oit h c13
      refine lv_tableIn (off := 100) (tgt := 110) hx hb dX7_cell_10 (by rw [c13]; decide) (by rw [c13]; decide) (by rw [c13]; decide) (by decide) ?_
      refine lv_aload_n hx hb dX7_cell_110 rfl (lv_at hl 0 rfl) ?_
      refine lv_iconst (v := 0) hx hb dX7_cell_111 (by decide) ?_
      refine lv_iload_n hx hb dX7_cell_112 rfl (lv_at hl 1 rfl) ?_
      obtain ⟨q12, hq12, h⟩ := ob h
      refine kV (As := [.int 0, .int p1]) (rest := []) (w2 := cMd mh m_kindr m_toldr m_nowr m_readToldr m_readCellr m_readKindr m_textr m_rowr m_seenCellr m_seenWayr m_seenCamer m_isKeptr m_keptr cy.1 cy.2.2.1 m_marbles m_kind m_told m_now m_readTold m_readCell m_readKind m_text m_length m_at m_faultAt m_there m_stopped m_acts m_next m_row m_bestRow m_seen m_seenCell m_seenWay m_seenCame m_seed m_isKept m_kept) (n := 2) (q0 := 0) ⟨hx, hb, hml, hown, hts⟩ (c_X7_marbleAt l D cy mh m_kindr m_toldr m_nowr m_readToldr m_readCellr m_readKindr m_textr m_rowr m_seenCellr m_seenWayr m_seenCamer m_isKeptr m_keptr m_marbles m_kind m_told m_now m_readTold m_readCell m_readKind m_text m_length m_at m_faultAt m_there m_stopped m_acts m_next m_row m_bestRow m_seen m_seenCell m_seenWay m_seenCame m_seed m_isKept m_kept 0 p1 q12 hq12) gX7_cell_X7_marbleAt rfl (by decide +kernel) ⟨by rw [hRf]; exact Nat.le_of_ble_eq_true rfl, by rw [hRl]; exact Nat.le_of_ble_eq_true rfl⟩ hE hP hD hS hA [0, 1, 2, 3, 4, 5, 6, 7, 8, 9, 10, 11, 12, 13] rfl rfl rfl rfl rfl rfl rfl hl.1 rfl (Nat.le_of_ble_eq_true rfl) dX7_cell_113 ⟨Nat.zero_le _, Nat.zero_le _⟩ (fun H locs hP hD hS => ?_)
      obtain rfl := Option.some.inj h
      rw [hQ]; exact ct_iret hx hb hr hlocks hP hS rfl dX7_cell_116
    have h := oif h c13
    by_cases c14 : p2 = 2
    · have h := oit h c14
      refine lv_tableIn (off := 107) (tgt := 117) hx hb dX7_cell_10 (by rw [c14]; decide) (by rw [c14]; decide) (by rw [c14]; decide) (by decide) ?_
      refine lv_aload_n hx hb dX7_cell_117 rfl (lv_at hl 0 rfl) ?_
      refine va_get (D := D) (ci := 7) (v := .ref m_nowr) (C := RX7) (T := TX7) (N := 24) hx hb hts hiX7 hown hE.1 hP 0 rfl rfl 3 (by decide) (hts (.fieldLink RX7 16 "TiltTrayModel" "now" "[I") (by decide +kernel)) (fun _ h9 => h9) rfl dX7_cell_118 ?_
      refine lv_iconst (v := 4) hx hb dX7_cell_121 (by decide) ?_
      refine va_iald hx hb hE.1 hP 3 0 rfl rfl (ix_in (by decide)) dX7_cell_122 ?_
      refine lv_iload_n hx hb dX7_cell_123 rfl (lv_at hl 1 rfl) ?_
      refine lv_ishr hx hb dX7_cell_124 ?_
      refine lv_iconst (v := 1) hx hb dX7_cell_125 (by decide) ?_
      refine lv_iand hx hb dX7_cell_126 ?_
      obtain rfl := Option.some.inj h
      rw [hQ]; exact ct_iret hx hb hr hlocks hP hS rfl dX7_cell_127
    have h := oif h c14
    by_cases c15 : p2 = 3
    · have h := oit h c15
      refine lv_tableIn (off := 118) (tgt := 128) hx hb dX7_cell_10 (by rw [c15]; decide) (by rw [c15]; decide) (by rw [c15]; decide) (by decide) ?_
      refine lv_aload_n hx hb dX7_cell_128 rfl (lv_at hl 0 rfl) ?_
      refine va_get (D := D) (ci := 7) (v := .ref m_nowr) (C := RX7) (T := TX7) (N := 24) hx hb hts hiX7 hown hE.1 hP 0 rfl rfl 3 (by decide) (hts (.fieldLink RX7 16 "TiltTrayModel" "now" "[I") (by decide +kernel)) (fun _ h9 => h9) rfl dX7_cell_129 ?_
      refine lv_iconst (v := 5) hx hb dX7_cell_132 (by decide) ?_
      refine va_iald hx hb hE.1 hP 3 0 rfl rfl (ix_in (by decide)) dX7_cell_133 ?_
      refine lv_iload_n hx hb dX7_cell_134 rfl (lv_at hl 1 rfl) ?_
      refine lv_ishr hx hb dX7_cell_135 ?_
      refine lv_iconst (v := 1) hx hb dX7_cell_136 (by decide) ?_
      refine lv_iand hx hb dX7_cell_137 ?_
      obtain rfl := Option.some.inj h
      rw [hQ]; exact ct_iret hx hb hr hlocks hP hS rfl dX7_cell_138
    have h := oif h c15
    refine lv_tableOut (tgt := 139) hx hb dX7_cell_10 (sw_out 3 (by decide) (fun k hk => by rcases (show k = 0 ∨ k = 1 ∨ k = 2 ∨ k = 3 by omega) with rfl | rfl | rfl | rfl <;> assumption)) (by decide) ?_
    refine lv_bipush (v := (-2)) hx hb dX7_cell_139 (by decide) ?_
    obtain rfl := Option.some.inj h
    rw [hQ]; exact ct_iret hx hb hr hlocks hP hS rfl dX7_cell_141
  · have h := oit h c2
    refine lv_iconst (v := (-1)) hx hb dX7_cell_7 (by decide) ?_
    obtain rfl := Option.some.inj h
    rw [hQ]; exact ct_iret hx hb hr hlocks hP hS rfl dX7_cell_8

def tw_X7_waysOf_83 (m_marbles : Int32) (m_kind : Nat → Int32) (m_told : Nat → Int32) (m_there : Int32) (p1 : Int32) (p2 : Int32) (k5 : Int32 → Int32 → (Nat → Int32) → Int32 → Option (Int32 × (Nat → Int32) × Int32)) (x3 : Int32) (x4 : Int32) (z0 : Int32) (m_now : Nat → Int32) (m_stopped : Int32) : Option (Int32 × (Nat → Int32) × Int32) :=
  if z0 = 0 then (k5 (x3 ||| 0) (x4 + 1) m_now m_stopped) else (k5 (x3 ||| (1 <<< (x4 &&& 31))) (x4 + 1) m_now m_stopped)
def tw_X7_waysOf_56 (m_marbles : Int32) (m_kind : Nat → Int32) (m_told : Nat → Int32) (m_there : Int32) (p1 : Int32) (p2 : Int32) (k5 : Int32 → Int32 → (Nat → Int32) → Int32 → Option (Int32 × (Nat → Int32) × Int32)) (x3 : Int32) (x4 : Int32) (m_now : Nat → Int32) (m_stopped : Int32) : Option (Int32 × (Nat → Int32) × Int32) :=
  tw_X7_waysOf_83 m_marbles m_kind m_told m_there p1 p2 k5 x3 x4 0 m_now m_stopped
def tw_X7_waysOf_5 (m_marbles : Int32) (m_kind : Nat → Int32) (m_told : Nat → Int32) (m_there : Int32) (p1 : Int32) (p2 : Int32) : Nat → Int32 → Int32 → (Nat → Int32) → Int32 → Option (Int32 × (Nat → Int32) × Int32)
  | 0, _, _, _, _ => none
  | n + 1, x3, x4, m_now, m_stopped =>
    if 4 ≤ x4 then (some (x3, m_now, m_stopped)) else ((tw_X7_layTrial m_now).bind (fun q3 => (tw_X7_tiltOn m_marbles m_kind m_told q3 m_there m_stopped 1 x4).bind (fun q4 => if p2 = 0 then (if ix (7 + p1) 14 = true then (if ix p1 14 = true then (if (q4.2.1 (7 + p1).toNatClampNeg) = (q4.2.1 p1.toNatClampNeg) then (tw_X7_waysOf_83 m_marbles m_kind m_told m_there p1 p2 (tw_X7_waysOf_5 m_marbles m_kind m_told m_there p1 p2 n) x3 x4 0 q4.2.1 q4.2.2) else (tw_X7_waysOf_83 m_marbles m_kind m_told m_there p1 p2 (tw_X7_waysOf_5 m_marbles m_kind m_told m_there p1 p2 n) x3 x4 1 q4.2.1 q4.2.2)) else none) else none) else (if ix p1 14 = true then (if 100 ≤ (q4.2.1 p1.toNatClampNeg) then (tw_X7_waysOf_56 m_marbles m_kind m_told m_there p1 p2 (tw_X7_waysOf_5 m_marbles m_kind m_told m_there p1 p2 n) x3 x4 q4.2.1 q4.2.2) else (if ix (7 + p1) 14 = true then (if (q4.2.1 (7 + p1).toNatClampNeg) < 100 then (tw_X7_waysOf_56 m_marbles m_kind m_told m_there p1 p2 (tw_X7_waysOf_5 m_marbles m_kind m_told m_there p1 p2 n) x3 x4 q4.2.1 q4.2.2) else (tw_X7_waysOf_83 m_marbles m_kind m_told m_there p1 p2 (tw_X7_waysOf_5 m_marbles m_kind m_told m_there p1 p2 n) x3 x4 1 q4.2.1 q4.2.2)) else none)) else none))))
def tw_X7_waysOf (m_marbles : Int32) (m_kind : Nat → Int32) (m_told : Nat → Int32) (m_now : Nat → Int32) (m_there : Int32) (m_stopped : Int32) (p1 : Int32) (p2 : Int32) : Option (Int32 × (Nat → Int32) × Int32) :=
  tw_X7_waysOf_5 m_marbles m_kind m_told m_there p1 p2 5 0 0 m_now m_stopped
set_option maxHeartbeats 4000000 in
set_option maxRecDepth 100000 in
theorem c_X7_waysOf (l : Launch) (D : va_G) (cy : Cy) (mh : Nat) (m_kindr : Nat) (m_toldr : Nat) (m_nowr : Nat) (m_readToldr : Nat) (m_readCellr : Nat) (m_readKindr : Nat) (m_textr : Nat) (m_rowr : Nat) (m_seenCellr : Nat) (m_seenWayr : Nat) (m_seenCamer : Nat) (m_isKeptr : Nat) (m_keptr : Nat) (m_marbles : Int32) (m_kind : Nat → Int32) (m_told : Nat → Int32) (m_now : Nat → Int32) (m_readTold : Nat → Int32) (m_readCell : Nat → Int32) (m_readKind : Nat → Int32) (m_text : Nat → Int32) (m_length : Int32) (m_at : Int32) (m_faultAt : Int32) (m_there : Int32) (m_stopped : Int32) (m_acts : Int32) (m_next : Int32) (m_row : Nat → Int32) (m_bestRow : Int32) (m_seen : Int32) (m_seenCell : Nat → Int32) (m_seenWay : Nat → Int32) (m_seenCame : Nat → Int32) (m_seed : Int64) (m_isKept : Nat → Int32) (m_kept : Nat → Int32) (p1 : Int32) (p2 : Int32) (res : Int32 × (Nat → Int32) × Int32) (h : tw_X7_waysOf m_marbles m_kind m_told m_now m_there m_stopped p1 p2 = some res) : Ct l yX7_waysOf wsX7_waysOf 6 140 D cy [.ref mh, .int p1, .int p2] (cMd mh m_kindr m_toldr m_nowr m_readToldr m_readCellr m_readKindr m_textr m_rowr m_seenCellr m_seenWayr m_seenCamer m_isKeptr m_keptr cy.1 cy.2.2.1 m_marbles m_kind m_told m_now m_readTold m_readCell m_readKind m_text m_length m_at m_faultAt m_there m_stopped m_acts m_next m_row m_bestRow m_seen m_seenCell m_seenWay m_seenCame m_seed m_isKept m_kept) (cMd mh m_kindr m_toldr m_nowr m_readToldr m_readCellr m_readKindr m_textr m_rowr m_seenCellr m_seenWayr m_seenCamer m_isKeptr m_keptr cy.1 cy.2.2.1 m_marbles m_kind m_told res.2.1 m_readTold m_readCell m_readKind m_text m_length m_at m_faultAt m_there res.2.2 m_acts m_next m_row m_bestRow m_seen m_seenCell m_seenWay m_seenCame m_seed m_isKept m_kept) (some (.int res.1)) := by
  refine Ct.ofW (cc := cX7_waysOf) (maxL := 6) (ret := (some .int)) (by decide) rfl (Nat.le_of_ble_eq_true rfl) ?_
  intro p e R s m args below meth c A Q ls hRf hRl hQ hx hb hr hml hts hown hlocks hE hP hD hS hA hl
  have hiX7 : ∀ w ∈ u_ws RX7 TX7 24, w ∈ wsX7_waysOf := by decide +kernel
  have hl : lv_has ls 6 [(0, .ref mh), (1, .int p1), (2, .int p2)] := hl
  rw [tw_X7_waysOf] at h
  have L5 : ∀ (n : Nat) (x3 : Int32) (x4 : Int32) (m_now : Nat → Int32) (m_stopped : Int32)  (H : Heap) (locs : List Loc) (ls : Array Slot), lv_has ls 6 [(0, .ref mh), (1, .int p1), (2, .int p2), (3, .int x3), (4, .int x4)] → va_P D vwCl (cMd mh m_kindr m_toldr m_nowr m_readToldr m_readCellr m_readKindr m_textr m_rowr m_seenCellr m_seenWayr m_seenCamer m_isKeptr m_keptr cy.1 cy.2.2.1 m_marbles m_kind m_told m_now m_readTold m_readCell m_readKind m_text m_length m_at m_faultAt m_there m_stopped m_acts m_next m_row m_bestRow m_seen m_seenCell m_seenWay m_seenCame m_seed m_isKept m_kept) H → va_D A (cMd mh m_kindr m_toldr m_nowr m_readToldr m_readCellr m_readKindr m_textr m_rowr m_seenCellr m_seenWayr m_seenCamer m_isKeptr m_keptr cy.1 cy.2.2.1 m_marbles m_kind m_told m_now m_readTold m_readCell m_readKind m_text m_length m_at m_faultAt m_there m_stopped m_acts m_next m_row m_bestRow m_seen m_seenCell m_seenWay m_seenCame m_seed m_isKept m_kept) → va_S A s.heap H locs → tw_X7_waysOf_5 m_marbles m_kind m_told m_there p1 p2 n x3 x4 m_now m_stopped = some res → W p l e R s m args below meth c H locs 0 0 Q (F0 m 5 ls []) := by
    intro n5
    induction n5 with
    | zero =>
      intro x3 x4 m_now m_stopped  H locs ls hl hP hD hS h
      exact absurd h (by rw [tw_X7_waysOf_5]; exact fun q => by cases q)
    | succ n5 ih5 =>
      intro x3 x4 m_now m_stopped  H locs ls hl hP hD hS h
      rw [tw_X7_waysOf_5] at h
      have L83 : ∀ (x3 : Int32) (x4 : Int32) (z0 : Int32) (m_now : Nat → Int32) (m_stopped : Int32)  (H : Heap) (locs : List Loc) (ls : Array Slot), lv_has ls 6 [(0, .ref mh), (1, .int p1), (2, .int p2), (3, .int x3), (4, .int x4)] → va_P D vwCl (cMd mh m_kindr m_toldr m_nowr m_readToldr m_readCellr m_readKindr m_textr m_rowr m_seenCellr m_seenWayr m_seenCamer m_isKeptr m_keptr cy.1 cy.2.2.1 m_marbles m_kind m_told m_now m_readTold m_readCell m_readKind m_text m_length m_at m_faultAt m_there m_stopped m_acts m_next m_row m_bestRow m_seen m_seenCell m_seenWay m_seenCame m_seed m_isKept m_kept) H → va_D A (cMd mh m_kindr m_toldr m_nowr m_readToldr m_readCellr m_readKindr m_textr m_rowr m_seenCellr m_seenWayr m_seenCamer m_isKeptr m_keptr cy.1 cy.2.2.1 m_marbles m_kind m_told m_now m_readTold m_readCell m_readKind m_text m_length m_at m_faultAt m_there m_stopped m_acts m_next m_row m_bestRow m_seen m_seenCell m_seenWay m_seenCame m_seed m_isKept m_kept) → va_S A s.heap H locs → tw_X7_waysOf_83 m_marbles m_kind m_told m_there p1 p2 (tw_X7_waysOf_5 m_marbles m_kind m_told m_there p1 p2 n5) x3 x4 z0 m_now m_stopped = some res → W p l e R s m args below meth c H locs 0 0 Q (F0 m 83 ls [.int z0]) := by
        intro x3 x4 z0 m_now m_stopped  H locs ls hl hP hD hS h
        rw [tw_X7_waysOf_83] at h
        refine lv_istore (lv' := [(5, .int z0), (0, .ref mh), (1, .int p1), (2, .int p2), (3, .int x3), (4, .int x4)]) hx hb dX7_waysOf_83 hl (by decide) rfl (fun ls hl => ?_)
        refine lv_iload_n hx hb dX7_waysOf_85 rfl (lv_at hl 4 rfl) ?_
        refine lv_iload hx hb dX7_waysOf_86 (lv_at hl 0 rfl) ?_
        refine lv_if_eq (tgt := 98) hx hb dX7_waysOf_88 (by decide) (fun c1 => ?_) (fun c1 => ?_)
        · have h := oit h c1
          refine lv_iconst (v := 0) hx hb dX7_waysOf_98 (by decide) ?_
          refine lv_ior hx hb dX7_waysOf_99 ?_
          refine lv_istore_n (lv' := [(3, .int (x3 ||| 0)), (5, .int z0), (0, .ref mh), (1, .int p1), (2, .int p2), (4, .int x4)]) hx hb dX7_waysOf_100 rfl hl (by decide) rfl (fun ls hl => ?_)
          refine lv_iinc (v := x4 + 1) (lv' := [(4, .int (x4 + 1)), (3, .int (x3 ||| 0)), (5, .int z0), (0, .ref mh), (1, .int p1), (2, .int p2)]) hx hb dX7_waysOf_101 hl (k := 5) rfl rfl (by decide) rfl (fun ls hl => ?_)
          refine lv_goto (tgt := 5) hx hb dX7_waysOf_104 (by decide) ?_
          exact ih5 (x3 ||| 0) (x4 + 1) m_now m_stopped _ _ _ (lv_sub hl [3, 4, 5, 1, 0] rfl) hP hD hS h
        · have h := oif h c1
          refine lv_iconst (v := 1) hx hb dX7_waysOf_91 (by decide) ?_
          refine lv_iload hx hb dX7_waysOf_92 (lv_at hl 5 rfl) ?_
          refine lv_ishl hx hb dX7_waysOf_94 ?_
          refine lv_goto (tgt := 99) hx hb dX7_waysOf_95 (by decide) ?_
          refine lv_ior hx hb dX7_waysOf_99 ?_
          refine lv_istore_n (lv' := [(3, .int (x3 ||| (1 <<< (x4 &&& 31)))), (5, .int z0), (0, .ref mh), (1, .int p1), (2, .int p2), (4, .int x4)]) hx hb dX7_waysOf_100 rfl hl (by decide) rfl (fun ls hl => ?_)
          refine lv_iinc (v := x4 + 1) (lv' := [(4, .int (x4 + 1)), (3, .int (x3 ||| (1 <<< (x4 &&& 31)))), (5, .int z0), (0, .ref mh), (1, .int p1), (2, .int p2)]) hx hb dX7_waysOf_101 hl (k := 5) rfl rfl (by decide) rfl (fun ls hl => ?_)
          refine lv_goto (tgt := 5) hx hb dX7_waysOf_104 (by decide) ?_
          exact ih5 (x3 ||| (1 <<< (x4 &&& 31))) (x4 + 1) m_now m_stopped _ _ _ (lv_sub hl [3, 4, 5, 1, 0] rfl) hP hD hS h
      have L56 : ∀ (x3 : Int32) (x4 : Int32) (m_now : Nat → Int32) (m_stopped : Int32)  (H : Heap) (locs : List Loc) (ls : Array Slot), lv_has ls 6 [(0, .ref mh), (1, .int p1), (2, .int p2), (3, .int x3), (4, .int x4)] → va_P D vwCl (cMd mh m_kindr m_toldr m_nowr m_readToldr m_readCellr m_readKindr m_textr m_rowr m_seenCellr m_seenWayr m_seenCamer m_isKeptr m_keptr cy.1 cy.2.2.1 m_marbles m_kind m_told m_now m_readTold m_readCell m_readKind m_text m_length m_at m_faultAt m_there m_stopped m_acts m_next m_row m_bestRow m_seen m_seenCell m_seenWay m_seenCame m_seed m_isKept m_kept) H → va_D A (cMd mh m_kindr m_toldr m_nowr m_readToldr m_readCellr m_readKindr m_textr m_rowr m_seenCellr m_seenWayr m_seenCamer m_isKeptr m_keptr cy.1 cy.2.2.1 m_marbles m_kind m_told m_now m_readTold m_readCell m_readKind m_text m_length m_at m_faultAt m_there m_stopped m_acts m_next m_row m_bestRow m_seen m_seenCell m_seenWay m_seenCame m_seed m_isKept m_kept) → va_S A s.heap H locs → tw_X7_waysOf_56 m_marbles m_kind m_told m_there p1 p2 (tw_X7_waysOf_5 m_marbles m_kind m_told m_there p1 p2 n5) x3 x4 m_now m_stopped = some res → W p l e R s m args below meth c H locs 0 0 Q (F0 m 56 ls []) := by
        intro x3 x4 m_now m_stopped  H locs ls hl hP hD hS h
        rw [tw_X7_waysOf_56] at h
        refine lv_iconst (v := 0) hx hb dX7_waysOf_56 (by decide) ?_
        refine lv_goto (tgt := 83) hx hb dX7_waysOf_57 (by decide) ?_
        exact L83 x3 x4 0 m_now m_stopped _ _ _ (lv_sub hl [0, 1, 2, 3, 4] rfl) hP hD hS h
      refine lv_iload hx hb dX7_waysOf_5 (lv_at hl 4 rfl) ?_
      refine lv_iconst (v := 4) hx hb dX7_waysOf_7 (by decide) ?_
      refine lv_icmp_ge (tgt := 107) hx hb dX7_waysOf_8 (by decide) (fun c2 => ?_) (fun c2 => ?_)
      · have h := oit h c2
        refine lv_iload_n hx hb dX7_waysOf_107 rfl (lv_at hl 3 rfl) ?_
        obtain rfl := Option.some.inj h
        rw [hQ]; exact ct_iret hx hb hr hlocks hP hS rfl dX7_waysOf_108
      · have h := oif h c2
        refine lv_aload_n hx hb dX7_waysOf_11 rfl (lv_at hl 0 rfl) ?_
        obtain ⟨q3, hq3, h⟩ := ob h
        refine kV (As := []) (rest := []) (w2 := cMd mh m_kindr m_toldr m_nowr m_readToldr m_readCellr m_readKindr m_textr m_rowr m_seenCellr m_seenWayr m_seenCamer m_isKeptr m_keptr cy.1 cy.2.2.1 m_marbles m_kind m_told q3 m_readTold m_readCell m_readKind m_text m_length m_at m_faultAt m_there m_stopped m_acts m_next m_row m_bestRow m_seen m_seenCell m_seenWay m_seenCame m_seed m_isKept m_kept) (n := 0) (q0 := 0) ⟨hx, hb, hml, hown, hts⟩ (c_X7_layTrial l D cy mh m_kindr m_toldr m_nowr m_readToldr m_readCellr m_readKindr m_textr m_rowr m_seenCellr m_seenWayr m_seenCamer m_isKeptr m_keptr m_marbles m_kind m_told m_now m_readTold m_readCell m_readKind m_text m_length m_at m_faultAt m_there m_stopped m_acts m_next m_row m_bestRow m_seen m_seenCell m_seenWay m_seenCame m_seed m_isKept m_kept q3 hq3) gX7_waysOf_X7_layTrial rfl (by decide +kernel) ⟨by rw [hRf]; exact Nat.le_of_ble_eq_true rfl, by rw [hRl]; exact Nat.le_of_ble_eq_true rfl⟩ hE hP hD hS hA [0, 1, 2, 3, 4, 5, 6, 7, 8, 9, 10, 11, 12, 13] rfl rfl rfl rfl rfl rfl rfl hl.1 rfl (Nat.le_of_ble_eq_true rfl) dX7_waysOf_12 ⟨Nat.zero_le _, Nat.zero_le _⟩ (fun H locs hP hD hS => ?_)
        refine lv_aload_n hx hb dX7_waysOf_15 rfl (lv_at hl 0 rfl) ?_
        refine lv_iconst (v := 1) hx hb dX7_waysOf_16 (by decide) ?_
        refine lv_iload hx hb dX7_waysOf_17 (lv_at hl 4 rfl) ?_
        obtain ⟨q4, hq4, h⟩ := ob h
        refine kV (As := [.int 1, .int x4]) (rest := []) (w2 := cMd mh m_kindr m_toldr m_nowr m_readToldr m_readCellr m_readKindr m_textr m_rowr m_seenCellr m_seenWayr m_seenCamer m_isKeptr m_keptr cy.1 cy.2.2.1 m_marbles m_kind m_told q4.2.1 m_readTold m_readCell m_readKind m_text m_length m_at m_faultAt m_there q4.2.2 m_acts m_next m_row m_bestRow m_seen m_seenCell m_seenWay m_seenCame m_seed m_isKept m_kept) (n := 2) (q0 := 0) ⟨hx, hb, hml, hown, hts⟩ (c_X7_tiltOn l D cy mh m_kindr m_toldr m_nowr m_readToldr m_readCellr m_readKindr m_textr m_rowr m_seenCellr m_seenWayr m_seenCamer m_isKeptr m_keptr m_marbles m_kind m_told q3 m_readTold m_readCell m_readKind m_text m_length m_at m_faultAt m_there m_stopped m_acts m_next m_row m_bestRow m_seen m_seenCell m_seenWay m_seenCame m_seed m_isKept m_kept 1 x4 q4 hq4) gX7_waysOf_X7_tiltOn rfl (by decide +kernel) ⟨by rw [hRf]; exact Nat.le_of_ble_eq_true rfl, by rw [hRl]; exact Nat.le_of_ble_eq_true rfl⟩ hE hP hD hS hA [0, 1, 2, 3, 4, 5, 6, 7, 8, 9, 10, 11, 12, 13] rfl rfl rfl rfl rfl rfl rfl hl.1 rfl (Nat.le_of_ble_eq_true rfl) dX7_waysOf_19 ⟨Nat.zero_le _, Nat.zero_le _⟩ (fun H locs hP hD hS => ?_)
        refine lv_pop hx hb dX7_waysOf_22 rfl ?_
        refine lv_iload_n hx hb dX7_waysOf_23 rfl (lv_at hl 2 rfl) ?_
        refine lv_if_eq (tgt := 60) hx hb dX7_waysOf_24 (by decide) (fun c5 => ?_) (fun c5 => ?_)
        · have h := oit h c5
          refine lv_aload_n hx hb dX7_waysOf_60 rfl (lv_at hl 0 rfl) ?_
          refine va_get (D := D) (ci := 7) (v := .ref m_nowr) (C := RX7) (T := TX7) (N := 24) hx hb hts hiX7 hown hE.1 hP 0 rfl rfl 3 (by decide) (hts (.fieldLink RX7 16 "TiltTrayModel" "now" "[I") (by decide +kernel)) (fun _ h9 => h9) rfl dX7_waysOf_61 ?_
          refine lv_bipush (v := 7) hx hb dX7_waysOf_64 (by decide) ?_
          refine lv_iload_n hx hb dX7_waysOf_66 rfl (lv_at hl 1 rfl) ?_
          refine lv_iadd hx hb dX7_waysOf_67 ?_
          obtain ⟨g6, h⟩ := og h
          refine va_iald hx hb hE.1 hP 3 0 rfl rfl (ix_in g6) dX7_waysOf_68 ?_
          refine lv_aload_n hx hb dX7_waysOf_69 rfl (lv_at hl 0 rfl) ?_
          refine va_get (D := D) (ci := 7) (v := .ref m_nowr) (C := RX7) (T := TX7) (N := 24) hx hb hts hiX7 hown hE.1 hP 0 rfl rfl 3 (by decide) (hts (.fieldLink RX7 16 "TiltTrayModel" "now" "[I") (by decide +kernel)) (fun _ h9 => h9) rfl dX7_waysOf_70 ?_
          refine lv_iload_n hx hb dX7_waysOf_73 rfl (lv_at hl 1 rfl) ?_
          obtain ⟨g7, h⟩ := og h
          refine va_iald hx hb hE.1 hP 3 0 rfl rfl (ix_in g7) dX7_waysOf_74 ?_
          refine lv_icmp_eq (tgt := 82) hx hb dX7_waysOf_75 (by decide) (fun c8 => ?_) (fun c8 => ?_)
          · have h := oit h c8
            refine lv_iconst (v := 0) hx hb dX7_waysOf_82 (by decide) ?_
            exact L83 x3 x4 0 q4.2.1 q4.2.2 _ _ _ (lv_sub hl [0, 1, 2, 3, 4] rfl) hP hD hS h
          · have h := oif h c8
            refine lv_iconst (v := 1) hx hb dX7_waysOf_78 (by decide) ?_
            refine lv_goto (tgt := 83) hx hb dX7_waysOf_79 (by decide) ?_
            exact L83 x3 x4 1 q4.2.1 q4.2.2 _ _ _ (lv_sub hl [0, 1, 2, 3, 4] rfl) hP hD hS h
        · have h := oif h c5
          refine lv_aload_n hx hb dX7_waysOf_27 rfl (lv_at hl 0 rfl) ?_
          refine va_get (D := D) (ci := 7) (v := .ref m_nowr) (C := RX7) (T := TX7) (N := 24) hx hb hts hiX7 hown hE.1 hP 0 rfl rfl 3 (by decide) (hts (.fieldLink RX7 16 "TiltTrayModel" "now" "[I") (by decide +kernel)) (fun _ h9 => h9) rfl dX7_waysOf_28 ?_
          refine lv_iload_n hx hb dX7_waysOf_31 rfl (lv_at hl 1 rfl) ?_
          obtain ⟨g9, h⟩ := og h
          refine va_iald hx hb hE.1 hP 3 0 rfl rfl (ix_in g9) dX7_waysOf_32 ?_
          refine lv_bipush (v := 100) hx hb dX7_waysOf_33 (by decide) ?_
          refine lv_icmp_ge (tgt := 56) hx hb dX7_waysOf_35 (by decide) (fun c10 => ?_) (fun c10 => ?_)
          · have h := oit h c10
            exact L56 x3 x4 q4.2.1 q4.2.2 _ _ _ (lv_sub hl [0, 1, 2, 3, 4] rfl) hP hD hS h
          · have h := oif h c10
            refine lv_aload_n hx hb dX7_waysOf_38 rfl (lv_at hl 0 rfl) ?_
            refine va_get (D := D) (ci := 7) (v := .ref m_nowr) (C := RX7) (T := TX7) (N := 24) hx hb hts hiX7 hown hE.1 hP 0 rfl rfl 3 (by decide) (hts (.fieldLink RX7 16 "TiltTrayModel" "now" "[I") (by decide +kernel)) (fun _ h9 => h9) rfl dX7_waysOf_39 ?_
            refine lv_bipush (v := 7) hx hb dX7_waysOf_42 (by decide) ?_
            refine lv_iload_n hx hb dX7_waysOf_44 rfl (lv_at hl 1 rfl) ?_
            refine lv_iadd hx hb dX7_waysOf_45 ?_
            obtain ⟨g11, h⟩ := og h
            refine va_iald hx hb hE.1 hP 3 0 rfl rfl (ix_in g11) dX7_waysOf_46 ?_
            refine lv_bipush (v := 100) hx hb dX7_waysOf_47 (by decide) ?_
            refine lv_icmp_lt (tgt := 56) hx hb dX7_waysOf_49 (by decide) (fun c12 => ?_) (fun c12 => ?_)
            · have h := oit h c12
              exact L56 x3 x4 q4.2.1 q4.2.2 _ _ _ (lv_sub hl [0, 1, 2, 3, 4] rfl) hP hD hS h
            · have h := oif h c12
              refine lv_iconst (v := 1) hx hb dX7_waysOf_52 (by decide) ?_
              refine lv_goto (tgt := 83) hx hb dX7_waysOf_53 (by decide) ?_
              exact L83 x3 x4 1 q4.2.1 q4.2.2 _ _ _ (lv_sub hl [0, 1, 2, 3, 4] rfl) hP hD hS h
  refine lv_iconst (v := 0) hx hb dX7_waysOf_0 (by decide) ?_
  refine lv_istore_n (lv' := [(3, .int 0), (0, .ref mh), (1, .int p1), (2, .int p2)]) hx hb dX7_waysOf_1 rfl hl (by decide) rfl (fun ls hl => ?_)
  refine lv_iconst (v := 0) hx hb dX7_waysOf_2 (by decide) ?_
  refine lv_istore (lv' := [(4, .int 0), (3, .int 0), (0, .ref mh), (1, .int p1), (2, .int p2)]) hx hb dX7_waysOf_3 hl (by decide) rfl (fun ls hl => ?_)
  exact L5 5 0 0 m_now m_stopped _ _ _ (lv_sub hl [2, 3, 4, 1, 0] rfl) hP hD hS h

def tw_X7_marble (m_marbles : Int32) (m_kind : Nat → Int32) (m_told : Nat → Int32) (m_now : Nat → Int32) (m_there : Int32) (m_stopped : Int32) (p1 : Int32) (p2 : Int32) : Option (Int32 × (Nat → Int32) × Int32) :=
  (tw_X7_isMarble m_marbles p1).bind (fun q1 => if q1 = 0 then (some ((-1), m_now, m_stopped)) else (if p2 = 0 then (if ix p1 4 = true then (some (m_kind p1.toNatClampNeg, m_now, m_stopped)) else none) else (if p2 = 1 then (if ix p1 14 = true then (some (m_now p1.toNatClampNeg, m_now, m_stopped)) else none) else (if p2 = 2 then ((tw_X7_waysOf m_marbles m_kind m_told m_now m_there m_stopped p1 0).bind (fun q7 => some (q7.1, q7.2.1, q7.2.2))) else (if p2 = 3 then ((tw_X7_waysOf m_marbles m_kind m_told m_now m_there m_stopped p1 1).bind (fun q9 => some (q9.1, q9.2.1, q9.2.2))) else (some ((-2), m_now, m_stopped)))))))
set_option maxHeartbeats 4000000 in
set_option maxRecDepth 100000 in
theorem c_X7_marble (l : Launch) (D : va_G) (cy : Cy) (mh : Nat) (m_kindr : Nat) (m_toldr : Nat) (m_nowr : Nat) (m_readToldr : Nat) (m_readCellr : Nat) (m_readKindr : Nat) (m_textr : Nat) (m_rowr : Nat) (m_seenCellr : Nat) (m_seenWayr : Nat) (m_seenCamer : Nat) (m_isKeptr : Nat) (m_keptr : Nat) (m_marbles : Int32) (m_kind : Nat → Int32) (m_told : Nat → Int32) (m_now : Nat → Int32) (m_readTold : Nat → Int32) (m_readCell : Nat → Int32) (m_readKind : Nat → Int32) (m_text : Nat → Int32) (m_length : Int32) (m_at : Int32) (m_faultAt : Int32) (m_there : Int32) (m_stopped : Int32) (m_acts : Int32) (m_next : Int32) (m_row : Nat → Int32) (m_bestRow : Int32) (m_seen : Int32) (m_seenCell : Nat → Int32) (m_seenWay : Nat → Int32) (m_seenCame : Nat → Int32) (m_seed : Int64) (m_isKept : Nat → Int32) (m_kept : Nat → Int32) (p1 : Int32) (p2 : Int32) (res : Int32 × (Nat → Int32) × Int32) (h : tw_X7_marble m_marbles m_kind m_told m_now m_there m_stopped p1 p2 = some res) : Ct l yX7_marble wsX7_marble 7 165 D cy [.ref mh, .int p1, .int p2] (cMd mh m_kindr m_toldr m_nowr m_readToldr m_readCellr m_readKindr m_textr m_rowr m_seenCellr m_seenWayr m_seenCamer m_isKeptr m_keptr cy.1 cy.2.2.1 m_marbles m_kind m_told m_now m_readTold m_readCell m_readKind m_text m_length m_at m_faultAt m_there m_stopped m_acts m_next m_row m_bestRow m_seen m_seenCell m_seenWay m_seenCame m_seed m_isKept m_kept) (cMd mh m_kindr m_toldr m_nowr m_readToldr m_readCellr m_readKindr m_textr m_rowr m_seenCellr m_seenWayr m_seenCamer m_isKeptr m_keptr cy.1 cy.2.2.1 m_marbles m_kind m_told res.2.1 m_readTold m_readCell m_readKind m_text m_length m_at m_faultAt m_there res.2.2 m_acts m_next m_row m_bestRow m_seen m_seenCell m_seenWay m_seenCame m_seed m_isKept m_kept) (some (.int res.1)) := by
  refine Ct.ofW (cc := cX7_marble) (maxL := 3) (ret := (some .int)) (by decide) rfl (Nat.le_of_ble_eq_true rfl) ?_
  intro p e R s m args below meth c A Q ls hRf hRl hQ hx hb hr hml hts hown hlocks hE hP hD hS hA hl
  have hiX7 : ∀ w ∈ u_ws RX7 TX7 24, w ∈ wsX7_marble := by decide +kernel
  have hl : lv_has ls 3 [(0, .ref mh), (1, .int p1), (2, .int p2)] := hl
  rw [tw_X7_marble] at h
  refine lv_aload_n hx hb dX7_marble_0 rfl (lv_at hl 0 rfl) ?_
  refine lv_iload_n hx hb dX7_marble_1 rfl (lv_at hl 1 rfl) ?_
  obtain ⟨q1, hq1, h⟩ := ob h
  refine kV (As := [.int p1]) (rest := []) (w2 := cMd mh m_kindr m_toldr m_nowr m_readToldr m_readCellr m_readKindr m_textr m_rowr m_seenCellr m_seenWayr m_seenCamer m_isKeptr m_keptr cy.1 cy.2.2.1 m_marbles m_kind m_told m_now m_readTold m_readCell m_readKind m_text m_length m_at m_faultAt m_there m_stopped m_acts m_next m_row m_bestRow m_seen m_seenCell m_seenWay m_seenCame m_seed m_isKept m_kept) (n := 1) (q0 := 0) ⟨hx, hb, hml, hown, hts⟩ (c_X7_isMarble l D cy mh m_kindr m_toldr m_nowr m_readToldr m_readCellr m_readKindr m_textr m_rowr m_seenCellr m_seenWayr m_seenCamer m_isKeptr m_keptr m_marbles m_kind m_told m_now m_readTold m_readCell m_readKind m_text m_length m_at m_faultAt m_there m_stopped m_acts m_next m_row m_bestRow m_seen m_seenCell m_seenWay m_seenCame m_seed m_isKept m_kept p1 q1 hq1) gX7_marble_X7_isMarble rfl (by decide +kernel) ⟨by rw [hRf]; exact Nat.le_of_ble_eq_true rfl, by rw [hRl]; exact Nat.le_of_ble_eq_true rfl⟩ hE hP hD hS hA [0, 1, 2, 3, 4, 5, 6, 7, 8, 9, 10, 11, 12, 13] rfl rfl rfl rfl rfl rfl rfl hl.1 rfl (Nat.le_of_ble_eq_true rfl) dX7_marble_2 ⟨Nat.zero_le _, Nat.zero_le _⟩ (fun H locs hP hD hS => ?_)
  refine lv_if_ne (tgt := 10) hx hb dX7_marble_5 (by decide) (fun c2 => ?_) (fun c2 => ?_)
  · have h := oif h c2
    refine lv_iload_n hx hb dX7_marble_10 rfl (lv_at hl 2 rfl) ?_
    by_cases c4 : p2 = 0
    · have h := oit h c4
      refine lv_tableIn (off := 29) (tgt := 40) hx hb dX7_marble_11 (by rw [c4]; decide) (by rw [c4]; decide) (by rw [c4]; decide) (by decide) ?_
      refine lv_aload_n hx hb dX7_marble_40 rfl (lv_at hl 0 rfl) ?_
      refine va_get (D := D) (ci := 7) (v := .ref m_kindr) (C := RX7) (T := TX7) (N := 24) hx hb hts hiX7 hown hE.1 hP 0 rfl rfl 1 (by decide) (hts (.fieldLink RX7 7 "TiltTrayModel" "kind" "[I") (by decide +kernel)) (fun _ h9 => h9) rfl dX7_marble_41 ?_
      refine lv_iload_n hx hb dX7_marble_44 rfl (lv_at hl 1 rfl) ?_
      obtain ⟨g3, h⟩ := og h
      refine va_iald hx hb hE.1 hP 1 0 rfl rfl (ix_in g3) dX7_marble_45 ?_
      obtain rfl := Option.some.inj h
      rw [hQ]; exact ct_iret hx hb hr hlocks hP hS rfl dX7_marble_46
    have h := oif h c4
    by_cases c6 : p2 = 1
    · have h := oit h c6
      refine lv_tableIn (off := 36) (tgt := 47) hx hb dX7_marble_11 (by rw [c6]; decide) (by rw [c6]; decide) (by rw [c6]; decide) (by decide) ?_
      refine lv_aload_n hx hb dX7_marble_47 rfl (lv_at hl 0 rfl) ?_
      refine va_get (D := D) (ci := 7) (v := .ref m_nowr) (C := RX7) (T := TX7) (N := 24) hx hb hts hiX7 hown hE.1 hP 0 rfl rfl 3 (by decide) (hts (.fieldLink RX7 16 "TiltTrayModel" "now" "[I") (by decide +kernel)) (fun _ h9 => h9) rfl dX7_marble_48 ?_
      refine lv_iload_n hx hb dX7_marble_51 rfl (lv_at hl 1 rfl) ?_
      obtain ⟨g5, h⟩ := og h
      refine va_iald hx hb hE.1 hP 3 0 rfl rfl (ix_in g5) dX7_marble_52 ?_
      obtain rfl := Option.some.inj h
      rw [hQ]; exact ct_iret hx hb hr hlocks hP hS rfl dX7_marble_53
    have h := oif h c6
    by_cases c8 : p2 = 2
    · have h := oit h c8
      refine lv_tableIn (off := 43) (tgt := 54) hx hb dX7_marble_11 (by rw [c8]; decide) (by rw [c8]; decide) (by rw [c8]; decide) (by decide) ?_
      refine lv_aload_n hx hb dX7_marble_54 rfl (lv_at hl 0 rfl) ?_
      refine lv_iload_n hx hb dX7_marble_55 rfl (lv_at hl 1 rfl) ?_
      refine lv_iconst (v := 0) hx hb dX7_marble_56 (by decide) ?_
      obtain ⟨q7, hq7, h⟩ := ob h
      refine kV (As := [.int p1, .int 0]) (rest := []) (w2 := cMd mh m_kindr m_toldr m_nowr m_readToldr m_readCellr m_readKindr m_textr m_rowr m_seenCellr m_seenWayr m_seenCamer m_isKeptr m_keptr cy.1 cy.2.2.1 m_marbles m_kind m_told q7.2.1 m_readTold m_readCell m_readKind m_text m_length m_at m_faultAt m_there q7.2.2 m_acts m_next m_row m_bestRow m_seen m_seenCell m_seenWay m_seenCame m_seed m_isKept m_kept) (n := 2) (q0 := 0) ⟨hx, hb, hml, hown, hts⟩ (c_X7_waysOf l D cy mh m_kindr m_toldr m_nowr m_readToldr m_readCellr m_readKindr m_textr m_rowr m_seenCellr m_seenWayr m_seenCamer m_isKeptr m_keptr m_marbles m_kind m_told m_now m_readTold m_readCell m_readKind m_text m_length m_at m_faultAt m_there m_stopped m_acts m_next m_row m_bestRow m_seen m_seenCell m_seenWay m_seenCame m_seed m_isKept m_kept p1 0 q7 hq7) gX7_marble_X7_waysOf rfl (by decide +kernel) ⟨by rw [hRf]; exact Nat.le_of_ble_eq_true rfl, by rw [hRl]; exact Nat.le_of_ble_eq_true rfl⟩ hE hP hD hS hA [0, 1, 2, 3, 4, 5, 6, 7, 8, 9, 10, 11, 12, 13] rfl rfl rfl rfl rfl rfl rfl hl.1 rfl (Nat.le_of_ble_eq_true rfl) dX7_marble_57 ⟨Nat.zero_le _, Nat.zero_le _⟩ (fun H locs hP hD hS => ?_)
      obtain rfl := Option.some.inj h
      rw [hQ]; exact ct_iret hx hb hr hlocks hP hS rfl dX7_marble_60
    have h := oif h c8
    by_cases c10 : p2 = 3
    · have h := oit h c10
      refine lv_tableIn (off := 50) (tgt := 61) hx hb dX7_marble_11 (by rw [c10]; decide) (by rw [c10]; decide) (by rw [c10]; decide) (by decide) ?_
      refine lv_aload_n hx hb dX7_marble_61 rfl (lv_at hl 0 rfl) ?_
      refine lv_iload_n hx hb dX7_marble_62 rfl (lv_at hl 1 rfl) ?_
      refine lv_iconst (v := 1) hx hb dX7_marble_63 (by decide) ?_
      obtain ⟨q9, hq9, h⟩ := ob h
      refine kV (As := [.int p1, .int 1]) (rest := []) (w2 := cMd mh m_kindr m_toldr m_nowr m_readToldr m_readCellr m_readKindr m_textr m_rowr m_seenCellr m_seenWayr m_seenCamer m_isKeptr m_keptr cy.1 cy.2.2.1 m_marbles m_kind m_told q9.2.1 m_readTold m_readCell m_readKind m_text m_length m_at m_faultAt m_there q9.2.2 m_acts m_next m_row m_bestRow m_seen m_seenCell m_seenWay m_seenCame m_seed m_isKept m_kept) (n := 2) (q0 := 0) ⟨hx, hb, hml, hown, hts⟩ (c_X7_waysOf l D cy mh m_kindr m_toldr m_nowr m_readToldr m_readCellr m_readKindr m_textr m_rowr m_seenCellr m_seenWayr m_seenCamer m_isKeptr m_keptr m_marbles m_kind m_told m_now m_readTold m_readCell m_readKind m_text m_length m_at m_faultAt m_there m_stopped m_acts m_next m_row m_bestRow m_seen m_seenCell m_seenWay m_seenCame m_seed m_isKept m_kept p1 1 q9 hq9) gX7_marble_X7_waysOf rfl (by decide +kernel) ⟨by rw [hRf]; exact Nat.le_of_ble_eq_true rfl, by rw [hRl]; exact Nat.le_of_ble_eq_true rfl⟩ hE hP hD hS hA [0, 1, 2, 3, 4, 5, 6, 7, 8, 9, 10, 11, 12, 13] rfl rfl rfl rfl rfl rfl rfl hl.1 rfl (Nat.le_of_ble_eq_true rfl) dX7_marble_64 ⟨Nat.zero_le _, Nat.zero_le _⟩ (fun H locs hP hD hS => ?_)
      obtain rfl := Option.some.inj h
      rw [hQ]; exact ct_iret hx hb hr hlocks hP hS rfl dX7_marble_67
    have h := oif h c10
    refine lv_tableOut (tgt := 68) hx hb dX7_marble_11 (sw_out 3 (by decide) (fun k hk => by rcases (show k = 0 ∨ k = 1 ∨ k = 2 ∨ k = 3 by omega) with rfl | rfl | rfl | rfl <;> assumption)) (by decide) ?_
    refine lv_bipush (v := (-2)) hx hb dX7_marble_68 (by decide) ?_
    obtain rfl := Option.some.inj h
    rw [hQ]; exact ct_iret hx hb hr hlocks hP hS rfl dX7_marble_70
  · have h := oit h c2
    refine lv_iconst (v := (-1)) hx hb dX7_marble_8 (by decide) ?_
    obtain rfl := Option.some.inj h
    rw [hQ]; exact ct_iret hx hb hr hlocks hP hS rfl dX7_marble_9

def tw_X7_keepAct_68 (m_now : Nat → Int32) (z1 : Int32) (m_acts : Int32) (m_next : Int32) (m_row : Nat → Int32) : Option (Int32 × Int32 × (Nat → Int32)) :=
  some (z1, m_next, m_row)
def tw_X7_keepAct (m_now : Nat → Int32) (m_acts : Int32) (m_next : Int32) (m_row : Nat → Int32) : Option (Int32 × Int32 × (Nat → Int32)) :=
  if ix ((7 * m_next) + 0) 98 = true then (if ix ((7 * m_next) + 1) 98 = true then (if ix ((7 * m_next) + 2) 98 = true then (if ix ((7 * m_next) + 3) 98 = true then (if ix ((7 * m_next) + 4) 98 = true then (if ix ((7 * m_next) + 5) 98 = true then (if ix ((7 * m_next) + 6) 98 = true then (if 14 ≤ m_acts then (tw_X7_keepAct_68 m_now 14 m_acts ((m_next + 1) - (m_next + 1) / 14 * 14) (upd (upd (upd (upd (upd (upd (upd m_row ((7 * m_next) + 0).toNatClampNeg (m_now (0 : Int32).toNatClampNeg)) ((7 * m_next) + 1).toNatClampNeg (m_now (1 : Int32).toNatClampNeg)) ((7 * m_next) + 2).toNatClampNeg (m_now (2 : Int32).toNatClampNeg)) ((7 * m_next) + 3).toNatClampNeg (m_now (3 : Int32).toNatClampNeg)) ((7 * m_next) + 4).toNatClampNeg (m_now (4 : Int32).toNatClampNeg)) ((7 * m_next) + 5).toNatClampNeg (m_now (5 : Int32).toNatClampNeg)) ((7 * m_next) + 6).toNatClampNeg (m_now (6 : Int32).toNatClampNeg))) else (tw_X7_keepAct_68 m_now (m_acts + 1) m_acts ((m_next + 1) - (m_next + 1) / 14 * 14) (upd (upd (upd (upd (upd (upd (upd m_row ((7 * m_next) + 0).toNatClampNeg (m_now (0 : Int32).toNatClampNeg)) ((7 * m_next) + 1).toNatClampNeg (m_now (1 : Int32).toNatClampNeg)) ((7 * m_next) + 2).toNatClampNeg (m_now (2 : Int32).toNatClampNeg)) ((7 * m_next) + 3).toNatClampNeg (m_now (3 : Int32).toNatClampNeg)) ((7 * m_next) + 4).toNatClampNeg (m_now (4 : Int32).toNatClampNeg)) ((7 * m_next) + 5).toNatClampNeg (m_now (5 : Int32).toNatClampNeg)) ((7 * m_next) + 6).toNatClampNeg (m_now (6 : Int32).toNatClampNeg)))) else none) else none) else none) else none) else none) else none) else none
set_option maxHeartbeats 4000000 in
set_option maxRecDepth 100000 in
theorem c_X7_keepAct (l : Launch) (D : va_G) (cy : Cy) (mh : Nat) (m_kindr : Nat) (m_toldr : Nat) (m_nowr : Nat) (m_readToldr : Nat) (m_readCellr : Nat) (m_readKindr : Nat) (m_textr : Nat) (m_rowr : Nat) (m_seenCellr : Nat) (m_seenWayr : Nat) (m_seenCamer : Nat) (m_isKeptr : Nat) (m_keptr : Nat) (m_marbles : Int32) (m_kind : Nat → Int32) (m_told : Nat → Int32) (m_now : Nat → Int32) (m_readTold : Nat → Int32) (m_readCell : Nat → Int32) (m_readKind : Nat → Int32) (m_text : Nat → Int32) (m_length : Int32) (m_at : Int32) (m_faultAt : Int32) (m_there : Int32) (m_stopped : Int32) (m_acts : Int32) (m_next : Int32) (m_row : Nat → Int32) (m_bestRow : Int32) (m_seen : Int32) (m_seenCell : Nat → Int32) (m_seenWay : Nat → Int32) (m_seenCame : Nat → Int32) (m_seed : Int64) (m_isKept : Nat → Int32) (m_kept : Nat → Int32) (res : Int32 × Int32 × (Nat → Int32)) (h : tw_X7_keepAct m_now m_acts m_next m_row = some res) : Ct l yX7_keepAct wsX7_keepAct 0 0 D cy [.ref mh] (cMd mh m_kindr m_toldr m_nowr m_readToldr m_readCellr m_readKindr m_textr m_rowr m_seenCellr m_seenWayr m_seenCamer m_isKeptr m_keptr cy.1 cy.2.2.1 m_marbles m_kind m_told m_now m_readTold m_readCell m_readKind m_text m_length m_at m_faultAt m_there m_stopped m_acts m_next m_row m_bestRow m_seen m_seenCell m_seenWay m_seenCame m_seed m_isKept m_kept) (cMd mh m_kindr m_toldr m_nowr m_readToldr m_readCellr m_readKindr m_textr m_rowr m_seenCellr m_seenWayr m_seenCamer m_isKeptr m_keptr cy.1 cy.2.2.1 m_marbles m_kind m_told m_now m_readTold m_readCell m_readKind m_text m_length m_at m_faultAt m_there m_stopped res.1 res.2.1 res.2.2 m_bestRow m_seen m_seenCell m_seenWay m_seenCame m_seed m_isKept m_kept) (none) := by
  refine Ct.ofW (cc := cX7_keepAct) (maxL := 2) (ret := none) (by decide) rfl (Nat.le_of_ble_eq_true rfl) ?_
  intro p e R s m args below meth c A Q ls hRf hRl hQ hx hb hr hml hts hown hlocks hE hP hD hS hA hl
  have hiX7 : ∀ w ∈ u_ws RX7 TX7 24, w ∈ wsX7_keepAct := by decide +kernel
  have hl : lv_has ls 2 [(0, .ref mh)] := hl
  rw [tw_X7_keepAct] at h
  have L68 : ∀ (z1 : Int32) (m_acts : Int32) (m_next : Int32) (m_row : Nat → Int32)  (H : Heap) (locs : List Loc) (ls : Array Slot), lv_has ls 2 [] → va_P D vwCl (cMd mh m_kindr m_toldr m_nowr m_readToldr m_readCellr m_readKindr m_textr m_rowr m_seenCellr m_seenWayr m_seenCamer m_isKeptr m_keptr cy.1 cy.2.2.1 m_marbles m_kind m_told m_now m_readTold m_readCell m_readKind m_text m_length m_at m_faultAt m_there m_stopped m_acts m_next m_row m_bestRow m_seen m_seenCell m_seenWay m_seenCame m_seed m_isKept m_kept) H → va_D A (cMd mh m_kindr m_toldr m_nowr m_readToldr m_readCellr m_readKindr m_textr m_rowr m_seenCellr m_seenWayr m_seenCamer m_isKeptr m_keptr cy.1 cy.2.2.1 m_marbles m_kind m_told m_now m_readTold m_readCell m_readKind m_text m_length m_at m_faultAt m_there m_stopped m_acts m_next m_row m_bestRow m_seen m_seenCell m_seenWay m_seenCame m_seed m_isKept m_kept) → va_S A s.heap H locs → tw_X7_keepAct_68 m_now z1 m_acts m_next m_row = some res → W p l e R s m args below meth c H locs 0 0 Q (F0 m 68 ls [.int z1, .ref mh]) := by
    intro z1 m_acts m_next m_row  H locs ls hl hP hD hS h
    rw [tw_X7_keepAct_68] at h
    refine va_put (D := D) (ci := 7) (v := .int z1) (ty := .int) (C := RX7) (T := TX7) (N := 24) hx hb hts hiX7 tyX7 tyX7_ok nmX7 hown hE.1 hP hD hS 0 rfl rfl 13 (by decide) (hts (.fieldLink RX7 95 "TiltTrayModel" "acts" "I") (by decide +kernel)) (fun _ h9 => h9) rfl (by decide +kernel) rfl rfl (Nat.le_of_ble_eq_true rfl) dX7_keepAct_68 (fun H locs hP hD hS => ?_)
    have hP : va_P D vwCl (cMd mh m_kindr m_toldr m_nowr m_readToldr m_readCellr m_readKindr m_textr m_rowr m_seenCellr m_seenWayr m_seenCamer m_isKeptr m_keptr cy.1 cy.2.2.1 m_marbles m_kind m_told m_now m_readTold m_readCell m_readKind m_text m_length m_at m_faultAt m_there m_stopped z1 m_next m_row m_bestRow m_seen m_seenCell m_seenWay m_seenCame m_seed m_isKept m_kept) H := hP
    have hD : va_D A (cMd mh m_kindr m_toldr m_nowr m_readToldr m_readCellr m_readKindr m_textr m_rowr m_seenCellr m_seenWayr m_seenCamer m_isKeptr m_keptr cy.1 cy.2.2.1 m_marbles m_kind m_told m_now m_readTold m_readCell m_readKind m_text m_length m_at m_faultAt m_there m_stopped z1 m_next m_row m_bestRow m_seen m_seenCell m_seenWay m_seenCame m_seed m_isKept m_kept) := hD
    obtain rfl := Option.some.inj h
    rw [hQ]; exact ct_vret hx hb hr hlocks hP hS rfl dX7_keepAct_71
  refine lv_iconst (v := 0) hx hb dX7_keepAct_0 (by decide) ?_
  refine lv_istore_n (lv' := [(1, .int 0), (0, .ref mh)]) hx hb dX7_keepAct_1 rfl hl (by decide) rfl (fun ls hl => ?_)
  refine lv_iload_n hx hb dX7_keepAct_2 rfl (lv_at hl 0 rfl) ?_
  refine lv_bipush (v := 7) hx hb dX7_keepAct_3 (by decide) ?_
  refine lv_icmp_ge (tgt := 34) hx hb dX7_keepAct_5 (by decide) (fun c1 => absurd c1 (by decide)) (fun _ => ?_)
  refine lv_aload_n hx hb dX7_keepAct_8 rfl (lv_at hl 1 rfl) ?_
  refine va_get (D := D) (ci := 7) (v := .ref m_rowr) (C := RX7) (T := TX7) (N := 24) hx hb hts hiX7 hown hE.1 hP 0 rfl rfl 15 (by decide) (hts (.fieldLink RX7 35 "TiltTrayModel" "row" "[I") (by decide +kernel)) (fun _ h9 => h9) rfl dX7_keepAct_9 ?_
  refine lv_bipush (v := 7) hx hb dX7_keepAct_12 (by decide) ?_
  refine lv_aload_n hx hb dX7_keepAct_14 rfl (lv_at hl 1 rfl) ?_
  refine va_get (D := D) (ci := 7) (v := .int m_next) (C := RX7) (T := TX7) (N := 24) hx hb hts hiX7 hown hE.1 hP 0 rfl rfl 14 (by decide) (hts (.fieldLink RX7 144 "TiltTrayModel" "next" "I") (by decide +kernel)) (fun _ h9 => h9) rfl dX7_keepAct_15 ?_
  refine lv_imul hx hb dX7_keepAct_18 ?_
  refine lv_iload_n hx hb dX7_keepAct_19 rfl (lv_at hl 0 rfl) ?_
  refine lv_iadd hx hb dX7_keepAct_20 ?_
  refine lv_aload_n hx hb dX7_keepAct_21 rfl (lv_at hl 1 rfl) ?_
  refine va_get (D := D) (ci := 7) (v := .ref m_nowr) (C := RX7) (T := TX7) (N := 24) hx hb hts hiX7 hown hE.1 hP 0 rfl rfl 3 (by decide) (hts (.fieldLink RX7 16 "TiltTrayModel" "now" "[I") (by decide +kernel)) (fun _ h9 => h9) rfl dX7_keepAct_22 ?_
  refine lv_iload_n hx hb dX7_keepAct_25 rfl (lv_at hl 0 rfl) ?_
  refine va_iald hx hb hE.1 hP 3 0 rfl rfl (ix_in (by decide)) dX7_keepAct_26 ?_
  obtain ⟨g2, h⟩ := og h
  refine va_iast hx hb hE.1 hP hD hS 8 0 rfl rfl (ix_in g2) dX7_keepAct_27 (fun H locs hP hD hS => ?_)
  have hP : va_P D vwCl (cMd mh m_kindr m_toldr m_nowr m_readToldr m_readCellr m_readKindr m_textr m_rowr m_seenCellr m_seenWayr m_seenCamer m_isKeptr m_keptr cy.1 cy.2.2.1 m_marbles m_kind m_told m_now m_readTold m_readCell m_readKind m_text m_length m_at m_faultAt m_there m_stopped m_acts m_next (upd m_row ((7 * m_next) + 0).toNatClampNeg (m_now (0 : Int32).toNatClampNeg)) m_bestRow m_seen m_seenCell m_seenWay m_seenCame m_seed m_isKept m_kept) H := hP
  have hD : va_D A (cMd mh m_kindr m_toldr m_nowr m_readToldr m_readCellr m_readKindr m_textr m_rowr m_seenCellr m_seenWayr m_seenCamer m_isKeptr m_keptr cy.1 cy.2.2.1 m_marbles m_kind m_told m_now m_readTold m_readCell m_readKind m_text m_length m_at m_faultAt m_there m_stopped m_acts m_next (upd m_row ((7 * m_next) + 0).toNatClampNeg (m_now (0 : Int32).toNatClampNeg)) m_bestRow m_seen m_seenCell m_seenWay m_seenCame m_seed m_isKept m_kept) := hD
  refine lv_iinc (v := 1) (lv' := [(1, .int 1), (0, .ref mh)]) hx hb dX7_keepAct_28 hl (k := 0) rfl (by decide) (by decide) rfl (fun ls hl => ?_)
  refine lv_goto (tgt := 2) hx hb dX7_keepAct_31 (by decide) ?_
  refine lv_iload_n hx hb dX7_keepAct_2 rfl (lv_at hl 0 rfl) ?_
  refine lv_bipush (v := 7) hx hb dX7_keepAct_3 (by decide) ?_
  refine lv_icmp_ge (tgt := 34) hx hb dX7_keepAct_5 (by decide) (fun c3 => absurd c3 (by decide)) (fun _ => ?_)
  refine lv_aload_n hx hb dX7_keepAct_8 rfl (lv_at hl 1 rfl) ?_
  refine va_get (D := D) (ci := 7) (v := .ref m_rowr) (C := RX7) (T := TX7) (N := 24) hx hb hts hiX7 hown hE.1 hP 0 rfl rfl 15 (by decide) (hts (.fieldLink RX7 35 "TiltTrayModel" "row" "[I") (by decide +kernel)) (fun _ h9 => h9) rfl dX7_keepAct_9 ?_
  refine lv_bipush (v := 7) hx hb dX7_keepAct_12 (by decide) ?_
  refine lv_aload_n hx hb dX7_keepAct_14 rfl (lv_at hl 1 rfl) ?_
  refine va_get (D := D) (ci := 7) (v := .int m_next) (C := RX7) (T := TX7) (N := 24) hx hb hts hiX7 hown hE.1 hP 0 rfl rfl 14 (by decide) (hts (.fieldLink RX7 144 "TiltTrayModel" "next" "I") (by decide +kernel)) (fun _ h9 => h9) rfl dX7_keepAct_15 ?_
  refine lv_imul hx hb dX7_keepAct_18 ?_
  refine lv_iload_n hx hb dX7_keepAct_19 rfl (lv_at hl 0 rfl) ?_
  refine lv_iadd hx hb dX7_keepAct_20 ?_
  refine lv_aload_n hx hb dX7_keepAct_21 rfl (lv_at hl 1 rfl) ?_
  refine va_get (D := D) (ci := 7) (v := .ref m_nowr) (C := RX7) (T := TX7) (N := 24) hx hb hts hiX7 hown hE.1 hP 0 rfl rfl 3 (by decide) (hts (.fieldLink RX7 16 "TiltTrayModel" "now" "[I") (by decide +kernel)) (fun _ h9 => h9) rfl dX7_keepAct_22 ?_
  refine lv_iload_n hx hb dX7_keepAct_25 rfl (lv_at hl 0 rfl) ?_
  refine va_iald hx hb hE.1 hP 3 0 rfl rfl (ix_in (by decide)) dX7_keepAct_26 ?_
  obtain ⟨g4, h⟩ := og h
  refine va_iast hx hb hE.1 hP hD hS 8 0 rfl rfl (ix_in g4) dX7_keepAct_27 (fun H locs hP hD hS => ?_)
  have hP : va_P D vwCl (cMd mh m_kindr m_toldr m_nowr m_readToldr m_readCellr m_readKindr m_textr m_rowr m_seenCellr m_seenWayr m_seenCamer m_isKeptr m_keptr cy.1 cy.2.2.1 m_marbles m_kind m_told m_now m_readTold m_readCell m_readKind m_text m_length m_at m_faultAt m_there m_stopped m_acts m_next (upd (upd m_row ((7 * m_next) + 0).toNatClampNeg (m_now (0 : Int32).toNatClampNeg)) ((7 * m_next) + 1).toNatClampNeg (m_now (1 : Int32).toNatClampNeg)) m_bestRow m_seen m_seenCell m_seenWay m_seenCame m_seed m_isKept m_kept) H := hP
  have hD : va_D A (cMd mh m_kindr m_toldr m_nowr m_readToldr m_readCellr m_readKindr m_textr m_rowr m_seenCellr m_seenWayr m_seenCamer m_isKeptr m_keptr cy.1 cy.2.2.1 m_marbles m_kind m_told m_now m_readTold m_readCell m_readKind m_text m_length m_at m_faultAt m_there m_stopped m_acts m_next (upd (upd m_row ((7 * m_next) + 0).toNatClampNeg (m_now (0 : Int32).toNatClampNeg)) ((7 * m_next) + 1).toNatClampNeg (m_now (1 : Int32).toNatClampNeg)) m_bestRow m_seen m_seenCell m_seenWay m_seenCame m_seed m_isKept m_kept) := hD
  refine lv_iinc (v := 2) (lv' := [(1, .int 2), (0, .ref mh)]) hx hb dX7_keepAct_28 hl (k := 0) rfl (by decide) (by decide) rfl (fun ls hl => ?_)
  refine lv_goto (tgt := 2) hx hb dX7_keepAct_31 (by decide) ?_
  refine lv_iload_n hx hb dX7_keepAct_2 rfl (lv_at hl 0 rfl) ?_
  refine lv_bipush (v := 7) hx hb dX7_keepAct_3 (by decide) ?_
  refine lv_icmp_ge (tgt := 34) hx hb dX7_keepAct_5 (by decide) (fun c5 => absurd c5 (by decide)) (fun _ => ?_)
  refine lv_aload_n hx hb dX7_keepAct_8 rfl (lv_at hl 1 rfl) ?_
  refine va_get (D := D) (ci := 7) (v := .ref m_rowr) (C := RX7) (T := TX7) (N := 24) hx hb hts hiX7 hown hE.1 hP 0 rfl rfl 15 (by decide) (hts (.fieldLink RX7 35 "TiltTrayModel" "row" "[I") (by decide +kernel)) (fun _ h9 => h9) rfl dX7_keepAct_9 ?_
  refine lv_bipush (v := 7) hx hb dX7_keepAct_12 (by decide) ?_
  refine lv_aload_n hx hb dX7_keepAct_14 rfl (lv_at hl 1 rfl) ?_
  refine va_get (D := D) (ci := 7) (v := .int m_next) (C := RX7) (T := TX7) (N := 24) hx hb hts hiX7 hown hE.1 hP 0 rfl rfl 14 (by decide) (hts (.fieldLink RX7 144 "TiltTrayModel" "next" "I") (by decide +kernel)) (fun _ h9 => h9) rfl dX7_keepAct_15 ?_
  refine lv_imul hx hb dX7_keepAct_18 ?_
  refine lv_iload_n hx hb dX7_keepAct_19 rfl (lv_at hl 0 rfl) ?_
  refine lv_iadd hx hb dX7_keepAct_20 ?_
  refine lv_aload_n hx hb dX7_keepAct_21 rfl (lv_at hl 1 rfl) ?_
  refine va_get (D := D) (ci := 7) (v := .ref m_nowr) (C := RX7) (T := TX7) (N := 24) hx hb hts hiX7 hown hE.1 hP 0 rfl rfl 3 (by decide) (hts (.fieldLink RX7 16 "TiltTrayModel" "now" "[I") (by decide +kernel)) (fun _ h9 => h9) rfl dX7_keepAct_22 ?_
  refine lv_iload_n hx hb dX7_keepAct_25 rfl (lv_at hl 0 rfl) ?_
  refine va_iald hx hb hE.1 hP 3 0 rfl rfl (ix_in (by decide)) dX7_keepAct_26 ?_
  obtain ⟨g6, h⟩ := og h
  refine va_iast hx hb hE.1 hP hD hS 8 0 rfl rfl (ix_in g6) dX7_keepAct_27 (fun H locs hP hD hS => ?_)
  have hP : va_P D vwCl (cMd mh m_kindr m_toldr m_nowr m_readToldr m_readCellr m_readKindr m_textr m_rowr m_seenCellr m_seenWayr m_seenCamer m_isKeptr m_keptr cy.1 cy.2.2.1 m_marbles m_kind m_told m_now m_readTold m_readCell m_readKind m_text m_length m_at m_faultAt m_there m_stopped m_acts m_next (upd (upd (upd m_row ((7 * m_next) + 0).toNatClampNeg (m_now (0 : Int32).toNatClampNeg)) ((7 * m_next) + 1).toNatClampNeg (m_now (1 : Int32).toNatClampNeg)) ((7 * m_next) + 2).toNatClampNeg (m_now (2 : Int32).toNatClampNeg)) m_bestRow m_seen m_seenCell m_seenWay m_seenCame m_seed m_isKept m_kept) H := hP
  have hD : va_D A (cMd mh m_kindr m_toldr m_nowr m_readToldr m_readCellr m_readKindr m_textr m_rowr m_seenCellr m_seenWayr m_seenCamer m_isKeptr m_keptr cy.1 cy.2.2.1 m_marbles m_kind m_told m_now m_readTold m_readCell m_readKind m_text m_length m_at m_faultAt m_there m_stopped m_acts m_next (upd (upd (upd m_row ((7 * m_next) + 0).toNatClampNeg (m_now (0 : Int32).toNatClampNeg)) ((7 * m_next) + 1).toNatClampNeg (m_now (1 : Int32).toNatClampNeg)) ((7 * m_next) + 2).toNatClampNeg (m_now (2 : Int32).toNatClampNeg)) m_bestRow m_seen m_seenCell m_seenWay m_seenCame m_seed m_isKept m_kept) := hD
  refine lv_iinc (v := 3) (lv' := [(1, .int 3), (0, .ref mh)]) hx hb dX7_keepAct_28 hl (k := 0) rfl (by decide) (by decide) rfl (fun ls hl => ?_)
  refine lv_goto (tgt := 2) hx hb dX7_keepAct_31 (by decide) ?_
  refine lv_iload_n hx hb dX7_keepAct_2 rfl (lv_at hl 0 rfl) ?_
  refine lv_bipush (v := 7) hx hb dX7_keepAct_3 (by decide) ?_
  refine lv_icmp_ge (tgt := 34) hx hb dX7_keepAct_5 (by decide) (fun c7 => absurd c7 (by decide)) (fun _ => ?_)
  refine lv_aload_n hx hb dX7_keepAct_8 rfl (lv_at hl 1 rfl) ?_
  refine va_get (D := D) (ci := 7) (v := .ref m_rowr) (C := RX7) (T := TX7) (N := 24) hx hb hts hiX7 hown hE.1 hP 0 rfl rfl 15 (by decide) (hts (.fieldLink RX7 35 "TiltTrayModel" "row" "[I") (by decide +kernel)) (fun _ h9 => h9) rfl dX7_keepAct_9 ?_
  refine lv_bipush (v := 7) hx hb dX7_keepAct_12 (by decide) ?_
  refine lv_aload_n hx hb dX7_keepAct_14 rfl (lv_at hl 1 rfl) ?_
  refine va_get (D := D) (ci := 7) (v := .int m_next) (C := RX7) (T := TX7) (N := 24) hx hb hts hiX7 hown hE.1 hP 0 rfl rfl 14 (by decide) (hts (.fieldLink RX7 144 "TiltTrayModel" "next" "I") (by decide +kernel)) (fun _ h9 => h9) rfl dX7_keepAct_15 ?_
  refine lv_imul hx hb dX7_keepAct_18 ?_
  refine lv_iload_n hx hb dX7_keepAct_19 rfl (lv_at hl 0 rfl) ?_
  refine lv_iadd hx hb dX7_keepAct_20 ?_
  refine lv_aload_n hx hb dX7_keepAct_21 rfl (lv_at hl 1 rfl) ?_
  refine va_get (D := D) (ci := 7) (v := .ref m_nowr) (C := RX7) (T := TX7) (N := 24) hx hb hts hiX7 hown hE.1 hP 0 rfl rfl 3 (by decide) (hts (.fieldLink RX7 16 "TiltTrayModel" "now" "[I") (by decide +kernel)) (fun _ h9 => h9) rfl dX7_keepAct_22 ?_
  refine lv_iload_n hx hb dX7_keepAct_25 rfl (lv_at hl 0 rfl) ?_
  refine va_iald hx hb hE.1 hP 3 0 rfl rfl (ix_in (by decide)) dX7_keepAct_26 ?_
  obtain ⟨g8, h⟩ := og h
  refine va_iast hx hb hE.1 hP hD hS 8 0 rfl rfl (ix_in g8) dX7_keepAct_27 (fun H locs hP hD hS => ?_)
  have hP : va_P D vwCl (cMd mh m_kindr m_toldr m_nowr m_readToldr m_readCellr m_readKindr m_textr m_rowr m_seenCellr m_seenWayr m_seenCamer m_isKeptr m_keptr cy.1 cy.2.2.1 m_marbles m_kind m_told m_now m_readTold m_readCell m_readKind m_text m_length m_at m_faultAt m_there m_stopped m_acts m_next (upd (upd (upd (upd m_row ((7 * m_next) + 0).toNatClampNeg (m_now (0 : Int32).toNatClampNeg)) ((7 * m_next) + 1).toNatClampNeg (m_now (1 : Int32).toNatClampNeg)) ((7 * m_next) + 2).toNatClampNeg (m_now (2 : Int32).toNatClampNeg)) ((7 * m_next) + 3).toNatClampNeg (m_now (3 : Int32).toNatClampNeg)) m_bestRow m_seen m_seenCell m_seenWay m_seenCame m_seed m_isKept m_kept) H := hP
  have hD : va_D A (cMd mh m_kindr m_toldr m_nowr m_readToldr m_readCellr m_readKindr m_textr m_rowr m_seenCellr m_seenWayr m_seenCamer m_isKeptr m_keptr cy.1 cy.2.2.1 m_marbles m_kind m_told m_now m_readTold m_readCell m_readKind m_text m_length m_at m_faultAt m_there m_stopped m_acts m_next (upd (upd (upd (upd m_row ((7 * m_next) + 0).toNatClampNeg (m_now (0 : Int32).toNatClampNeg)) ((7 * m_next) + 1).toNatClampNeg (m_now (1 : Int32).toNatClampNeg)) ((7 * m_next) + 2).toNatClampNeg (m_now (2 : Int32).toNatClampNeg)) ((7 * m_next) + 3).toNatClampNeg (m_now (3 : Int32).toNatClampNeg)) m_bestRow m_seen m_seenCell m_seenWay m_seenCame m_seed m_isKept m_kept) := hD
  refine lv_iinc (v := 4) (lv' := [(1, .int 4), (0, .ref mh)]) hx hb dX7_keepAct_28 hl (k := 0) rfl (by decide) (by decide) rfl (fun ls hl => ?_)
  refine lv_goto (tgt := 2) hx hb dX7_keepAct_31 (by decide) ?_
  refine lv_iload_n hx hb dX7_keepAct_2 rfl (lv_at hl 0 rfl) ?_
  refine lv_bipush (v := 7) hx hb dX7_keepAct_3 (by decide) ?_
  refine lv_icmp_ge (tgt := 34) hx hb dX7_keepAct_5 (by decide) (fun c9 => absurd c9 (by decide)) (fun _ => ?_)
  refine lv_aload_n hx hb dX7_keepAct_8 rfl (lv_at hl 1 rfl) ?_
  refine va_get (D := D) (ci := 7) (v := .ref m_rowr) (C := RX7) (T := TX7) (N := 24) hx hb hts hiX7 hown hE.1 hP 0 rfl rfl 15 (by decide) (hts (.fieldLink RX7 35 "TiltTrayModel" "row" "[I") (by decide +kernel)) (fun _ h9 => h9) rfl dX7_keepAct_9 ?_
  refine lv_bipush (v := 7) hx hb dX7_keepAct_12 (by decide) ?_
  refine lv_aload_n hx hb dX7_keepAct_14 rfl (lv_at hl 1 rfl) ?_
  refine va_get (D := D) (ci := 7) (v := .int m_next) (C := RX7) (T := TX7) (N := 24) hx hb hts hiX7 hown hE.1 hP 0 rfl rfl 14 (by decide) (hts (.fieldLink RX7 144 "TiltTrayModel" "next" "I") (by decide +kernel)) (fun _ h9 => h9) rfl dX7_keepAct_15 ?_
  refine lv_imul hx hb dX7_keepAct_18 ?_
  refine lv_iload_n hx hb dX7_keepAct_19 rfl (lv_at hl 0 rfl) ?_
  refine lv_iadd hx hb dX7_keepAct_20 ?_
  refine lv_aload_n hx hb dX7_keepAct_21 rfl (lv_at hl 1 rfl) ?_
  refine va_get (D := D) (ci := 7) (v := .ref m_nowr) (C := RX7) (T := TX7) (N := 24) hx hb hts hiX7 hown hE.1 hP 0 rfl rfl 3 (by decide) (hts (.fieldLink RX7 16 "TiltTrayModel" "now" "[I") (by decide +kernel)) (fun _ h9 => h9) rfl dX7_keepAct_22 ?_
  refine lv_iload_n hx hb dX7_keepAct_25 rfl (lv_at hl 0 rfl) ?_
  refine va_iald hx hb hE.1 hP 3 0 rfl rfl (ix_in (by decide)) dX7_keepAct_26 ?_
  obtain ⟨g10, h⟩ := og h
  refine va_iast hx hb hE.1 hP hD hS 8 0 rfl rfl (ix_in g10) dX7_keepAct_27 (fun H locs hP hD hS => ?_)
  have hP : va_P D vwCl (cMd mh m_kindr m_toldr m_nowr m_readToldr m_readCellr m_readKindr m_textr m_rowr m_seenCellr m_seenWayr m_seenCamer m_isKeptr m_keptr cy.1 cy.2.2.1 m_marbles m_kind m_told m_now m_readTold m_readCell m_readKind m_text m_length m_at m_faultAt m_there m_stopped m_acts m_next (upd (upd (upd (upd (upd m_row ((7 * m_next) + 0).toNatClampNeg (m_now (0 : Int32).toNatClampNeg)) ((7 * m_next) + 1).toNatClampNeg (m_now (1 : Int32).toNatClampNeg)) ((7 * m_next) + 2).toNatClampNeg (m_now (2 : Int32).toNatClampNeg)) ((7 * m_next) + 3).toNatClampNeg (m_now (3 : Int32).toNatClampNeg)) ((7 * m_next) + 4).toNatClampNeg (m_now (4 : Int32).toNatClampNeg)) m_bestRow m_seen m_seenCell m_seenWay m_seenCame m_seed m_isKept m_kept) H := hP
  have hD : va_D A (cMd mh m_kindr m_toldr m_nowr m_readToldr m_readCellr m_readKindr m_textr m_rowr m_seenCellr m_seenWayr m_seenCamer m_isKeptr m_keptr cy.1 cy.2.2.1 m_marbles m_kind m_told m_now m_readTold m_readCell m_readKind m_text m_length m_at m_faultAt m_there m_stopped m_acts m_next (upd (upd (upd (upd (upd m_row ((7 * m_next) + 0).toNatClampNeg (m_now (0 : Int32).toNatClampNeg)) ((7 * m_next) + 1).toNatClampNeg (m_now (1 : Int32).toNatClampNeg)) ((7 * m_next) + 2).toNatClampNeg (m_now (2 : Int32).toNatClampNeg)) ((7 * m_next) + 3).toNatClampNeg (m_now (3 : Int32).toNatClampNeg)) ((7 * m_next) + 4).toNatClampNeg (m_now (4 : Int32).toNatClampNeg)) m_bestRow m_seen m_seenCell m_seenWay m_seenCame m_seed m_isKept m_kept) := hD
  refine lv_iinc (v := 5) (lv' := [(1, .int 5), (0, .ref mh)]) hx hb dX7_keepAct_28 hl (k := 0) rfl (by decide) (by decide) rfl (fun ls hl => ?_)
  refine lv_goto (tgt := 2) hx hb dX7_keepAct_31 (by decide) ?_
  refine lv_iload_n hx hb dX7_keepAct_2 rfl (lv_at hl 0 rfl) ?_
  refine lv_bipush (v := 7) hx hb dX7_keepAct_3 (by decide) ?_
  refine lv_icmp_ge (tgt := 34) hx hb dX7_keepAct_5 (by decide) (fun c11 => absurd c11 (by decide)) (fun _ => ?_)
  refine lv_aload_n hx hb dX7_keepAct_8 rfl (lv_at hl 1 rfl) ?_
  refine va_get (D := D) (ci := 7) (v := .ref m_rowr) (C := RX7) (T := TX7) (N := 24) hx hb hts hiX7 hown hE.1 hP 0 rfl rfl 15 (by decide) (hts (.fieldLink RX7 35 "TiltTrayModel" "row" "[I") (by decide +kernel)) (fun _ h9 => h9) rfl dX7_keepAct_9 ?_
  refine lv_bipush (v := 7) hx hb dX7_keepAct_12 (by decide) ?_
  refine lv_aload_n hx hb dX7_keepAct_14 rfl (lv_at hl 1 rfl) ?_
  refine va_get (D := D) (ci := 7) (v := .int m_next) (C := RX7) (T := TX7) (N := 24) hx hb hts hiX7 hown hE.1 hP 0 rfl rfl 14 (by decide) (hts (.fieldLink RX7 144 "TiltTrayModel" "next" "I") (by decide +kernel)) (fun _ h9 => h9) rfl dX7_keepAct_15 ?_
  refine lv_imul hx hb dX7_keepAct_18 ?_
  refine lv_iload_n hx hb dX7_keepAct_19 rfl (lv_at hl 0 rfl) ?_
  refine lv_iadd hx hb dX7_keepAct_20 ?_
  refine lv_aload_n hx hb dX7_keepAct_21 rfl (lv_at hl 1 rfl) ?_
  refine va_get (D := D) (ci := 7) (v := .ref m_nowr) (C := RX7) (T := TX7) (N := 24) hx hb hts hiX7 hown hE.1 hP 0 rfl rfl 3 (by decide) (hts (.fieldLink RX7 16 "TiltTrayModel" "now" "[I") (by decide +kernel)) (fun _ h9 => h9) rfl dX7_keepAct_22 ?_
  refine lv_iload_n hx hb dX7_keepAct_25 rfl (lv_at hl 0 rfl) ?_
  refine va_iald hx hb hE.1 hP 3 0 rfl rfl (ix_in (by decide)) dX7_keepAct_26 ?_
  obtain ⟨g12, h⟩ := og h
  refine va_iast hx hb hE.1 hP hD hS 8 0 rfl rfl (ix_in g12) dX7_keepAct_27 (fun H locs hP hD hS => ?_)
  have hP : va_P D vwCl (cMd mh m_kindr m_toldr m_nowr m_readToldr m_readCellr m_readKindr m_textr m_rowr m_seenCellr m_seenWayr m_seenCamer m_isKeptr m_keptr cy.1 cy.2.2.1 m_marbles m_kind m_told m_now m_readTold m_readCell m_readKind m_text m_length m_at m_faultAt m_there m_stopped m_acts m_next (upd (upd (upd (upd (upd (upd m_row ((7 * m_next) + 0).toNatClampNeg (m_now (0 : Int32).toNatClampNeg)) ((7 * m_next) + 1).toNatClampNeg (m_now (1 : Int32).toNatClampNeg)) ((7 * m_next) + 2).toNatClampNeg (m_now (2 : Int32).toNatClampNeg)) ((7 * m_next) + 3).toNatClampNeg (m_now (3 : Int32).toNatClampNeg)) ((7 * m_next) + 4).toNatClampNeg (m_now (4 : Int32).toNatClampNeg)) ((7 * m_next) + 5).toNatClampNeg (m_now (5 : Int32).toNatClampNeg)) m_bestRow m_seen m_seenCell m_seenWay m_seenCame m_seed m_isKept m_kept) H := hP
  have hD : va_D A (cMd mh m_kindr m_toldr m_nowr m_readToldr m_readCellr m_readKindr m_textr m_rowr m_seenCellr m_seenWayr m_seenCamer m_isKeptr m_keptr cy.1 cy.2.2.1 m_marbles m_kind m_told m_now m_readTold m_readCell m_readKind m_text m_length m_at m_faultAt m_there m_stopped m_acts m_next (upd (upd (upd (upd (upd (upd m_row ((7 * m_next) + 0).toNatClampNeg (m_now (0 : Int32).toNatClampNeg)) ((7 * m_next) + 1).toNatClampNeg (m_now (1 : Int32).toNatClampNeg)) ((7 * m_next) + 2).toNatClampNeg (m_now (2 : Int32).toNatClampNeg)) ((7 * m_next) + 3).toNatClampNeg (m_now (3 : Int32).toNatClampNeg)) ((7 * m_next) + 4).toNatClampNeg (m_now (4 : Int32).toNatClampNeg)) ((7 * m_next) + 5).toNatClampNeg (m_now (5 : Int32).toNatClampNeg)) m_bestRow m_seen m_seenCell m_seenWay m_seenCame m_seed m_isKept m_kept) := hD
  refine lv_iinc (v := 6) (lv' := [(1, .int 6), (0, .ref mh)]) hx hb dX7_keepAct_28 hl (k := 0) rfl (by decide) (by decide) rfl (fun ls hl => ?_)
  refine lv_goto (tgt := 2) hx hb dX7_keepAct_31 (by decide) ?_
  refine lv_iload_n hx hb dX7_keepAct_2 rfl (lv_at hl 0 rfl) ?_
  refine lv_bipush (v := 7) hx hb dX7_keepAct_3 (by decide) ?_
  refine lv_icmp_ge (tgt := 34) hx hb dX7_keepAct_5 (by decide) (fun c13 => absurd c13 (by decide)) (fun _ => ?_)
  refine lv_aload_n hx hb dX7_keepAct_8 rfl (lv_at hl 1 rfl) ?_
  refine va_get (D := D) (ci := 7) (v := .ref m_rowr) (C := RX7) (T := TX7) (N := 24) hx hb hts hiX7 hown hE.1 hP 0 rfl rfl 15 (by decide) (hts (.fieldLink RX7 35 "TiltTrayModel" "row" "[I") (by decide +kernel)) (fun _ h9 => h9) rfl dX7_keepAct_9 ?_
  refine lv_bipush (v := 7) hx hb dX7_keepAct_12 (by decide) ?_
  refine lv_aload_n hx hb dX7_keepAct_14 rfl (lv_at hl 1 rfl) ?_
  refine va_get (D := D) (ci := 7) (v := .int m_next) (C := RX7) (T := TX7) (N := 24) hx hb hts hiX7 hown hE.1 hP 0 rfl rfl 14 (by decide) (hts (.fieldLink RX7 144 "TiltTrayModel" "next" "I") (by decide +kernel)) (fun _ h9 => h9) rfl dX7_keepAct_15 ?_
  refine lv_imul hx hb dX7_keepAct_18 ?_
  refine lv_iload_n hx hb dX7_keepAct_19 rfl (lv_at hl 0 rfl) ?_
  refine lv_iadd hx hb dX7_keepAct_20 ?_
  refine lv_aload_n hx hb dX7_keepAct_21 rfl (lv_at hl 1 rfl) ?_
  refine va_get (D := D) (ci := 7) (v := .ref m_nowr) (C := RX7) (T := TX7) (N := 24) hx hb hts hiX7 hown hE.1 hP 0 rfl rfl 3 (by decide) (hts (.fieldLink RX7 16 "TiltTrayModel" "now" "[I") (by decide +kernel)) (fun _ h9 => h9) rfl dX7_keepAct_22 ?_
  refine lv_iload_n hx hb dX7_keepAct_25 rfl (lv_at hl 0 rfl) ?_
  refine va_iald hx hb hE.1 hP 3 0 rfl rfl (ix_in (by decide)) dX7_keepAct_26 ?_
  obtain ⟨g14, h⟩ := og h
  refine va_iast hx hb hE.1 hP hD hS 8 0 rfl rfl (ix_in g14) dX7_keepAct_27 (fun H locs hP hD hS => ?_)
  have hP : va_P D vwCl (cMd mh m_kindr m_toldr m_nowr m_readToldr m_readCellr m_readKindr m_textr m_rowr m_seenCellr m_seenWayr m_seenCamer m_isKeptr m_keptr cy.1 cy.2.2.1 m_marbles m_kind m_told m_now m_readTold m_readCell m_readKind m_text m_length m_at m_faultAt m_there m_stopped m_acts m_next (upd (upd (upd (upd (upd (upd (upd m_row ((7 * m_next) + 0).toNatClampNeg (m_now (0 : Int32).toNatClampNeg)) ((7 * m_next) + 1).toNatClampNeg (m_now (1 : Int32).toNatClampNeg)) ((7 * m_next) + 2).toNatClampNeg (m_now (2 : Int32).toNatClampNeg)) ((7 * m_next) + 3).toNatClampNeg (m_now (3 : Int32).toNatClampNeg)) ((7 * m_next) + 4).toNatClampNeg (m_now (4 : Int32).toNatClampNeg)) ((7 * m_next) + 5).toNatClampNeg (m_now (5 : Int32).toNatClampNeg)) ((7 * m_next) + 6).toNatClampNeg (m_now (6 : Int32).toNatClampNeg)) m_bestRow m_seen m_seenCell m_seenWay m_seenCame m_seed m_isKept m_kept) H := hP
  have hD : va_D A (cMd mh m_kindr m_toldr m_nowr m_readToldr m_readCellr m_readKindr m_textr m_rowr m_seenCellr m_seenWayr m_seenCamer m_isKeptr m_keptr cy.1 cy.2.2.1 m_marbles m_kind m_told m_now m_readTold m_readCell m_readKind m_text m_length m_at m_faultAt m_there m_stopped m_acts m_next (upd (upd (upd (upd (upd (upd (upd m_row ((7 * m_next) + 0).toNatClampNeg (m_now (0 : Int32).toNatClampNeg)) ((7 * m_next) + 1).toNatClampNeg (m_now (1 : Int32).toNatClampNeg)) ((7 * m_next) + 2).toNatClampNeg (m_now (2 : Int32).toNatClampNeg)) ((7 * m_next) + 3).toNatClampNeg (m_now (3 : Int32).toNatClampNeg)) ((7 * m_next) + 4).toNatClampNeg (m_now (4 : Int32).toNatClampNeg)) ((7 * m_next) + 5).toNatClampNeg (m_now (5 : Int32).toNatClampNeg)) ((7 * m_next) + 6).toNatClampNeg (m_now (6 : Int32).toNatClampNeg)) m_bestRow m_seen m_seenCell m_seenWay m_seenCame m_seed m_isKept m_kept) := hD
  refine lv_iinc (v := 7) (lv' := [(1, .int 7), (0, .ref mh)]) hx hb dX7_keepAct_28 hl (k := 0) rfl (by decide) (by decide) rfl (fun ls hl => ?_)
  refine lv_goto (tgt := 2) hx hb dX7_keepAct_31 (by decide) ?_
  refine lv_iload_n hx hb dX7_keepAct_2 rfl (lv_at hl 0 rfl) ?_
  refine lv_bipush (v := 7) hx hb dX7_keepAct_3 (by decide) ?_
  refine lv_icmp_ge (tgt := 34) hx hb dX7_keepAct_5 (by decide) (fun _ => ?_) (fun c15 => absurd c15 (by decide))
  refine lv_aload_n hx hb dX7_keepAct_34 rfl (lv_at hl 1 rfl) ?_
  refine lv_aload_n hx hb dX7_keepAct_35 rfl (lv_at hl 1 rfl) ?_
  refine va_get (D := D) (ci := 7) (v := .int m_next) (C := RX7) (T := TX7) (N := 24) hx hb hts hiX7 hown hE.1 hP 0 rfl rfl 14 (by decide) (hts (.fieldLink RX7 144 "TiltTrayModel" "next" "I") (by decide +kernel)) (fun _ h9 => h9) rfl dX7_keepAct_36 ?_
  refine lv_iconst (v := 1) hx hb dX7_keepAct_39 (by decide) ?_
  refine lv_iadd hx hb dX7_keepAct_40 ?_
  refine lv_bipush (v := 14) hx hb dX7_keepAct_41 (by decide) ?_
  refine lv_irem hx hb dX7_keepAct_43 (by decide) ?_
  refine va_put (D := D) (ci := 7) (v := .int ((m_next + 1) - (m_next + 1) / 14 * 14)) (ty := .int) (C := RX7) (T := TX7) (N := 24) hx hb hts hiX7 tyX7 tyX7_ok nmX7 hown hE.1 hP hD hS 0 rfl rfl 14 (by decide) (hts (.fieldLink RX7 144 "TiltTrayModel" "next" "I") (by decide +kernel)) (fun _ h9 => h9) rfl (by decide +kernel) rfl rfl (Nat.le_of_ble_eq_true rfl) dX7_keepAct_44 (fun H locs hP hD hS => ?_)
  have hP : va_P D vwCl (cMd mh m_kindr m_toldr m_nowr m_readToldr m_readCellr m_readKindr m_textr m_rowr m_seenCellr m_seenWayr m_seenCamer m_isKeptr m_keptr cy.1 cy.2.2.1 m_marbles m_kind m_told m_now m_readTold m_readCell m_readKind m_text m_length m_at m_faultAt m_there m_stopped m_acts ((m_next + 1) - (m_next + 1) / 14 * 14) (upd (upd (upd (upd (upd (upd (upd m_row ((7 * m_next) + 0).toNatClampNeg (m_now (0 : Int32).toNatClampNeg)) ((7 * m_next) + 1).toNatClampNeg (m_now (1 : Int32).toNatClampNeg)) ((7 * m_next) + 2).toNatClampNeg (m_now (2 : Int32).toNatClampNeg)) ((7 * m_next) + 3).toNatClampNeg (m_now (3 : Int32).toNatClampNeg)) ((7 * m_next) + 4).toNatClampNeg (m_now (4 : Int32).toNatClampNeg)) ((7 * m_next) + 5).toNatClampNeg (m_now (5 : Int32).toNatClampNeg)) ((7 * m_next) + 6).toNatClampNeg (m_now (6 : Int32).toNatClampNeg)) m_bestRow m_seen m_seenCell m_seenWay m_seenCame m_seed m_isKept m_kept) H := hP
  have hD : va_D A (cMd mh m_kindr m_toldr m_nowr m_readToldr m_readCellr m_readKindr m_textr m_rowr m_seenCellr m_seenWayr m_seenCamer m_isKeptr m_keptr cy.1 cy.2.2.1 m_marbles m_kind m_told m_now m_readTold m_readCell m_readKind m_text m_length m_at m_faultAt m_there m_stopped m_acts ((m_next + 1) - (m_next + 1) / 14 * 14) (upd (upd (upd (upd (upd (upd (upd m_row ((7 * m_next) + 0).toNatClampNeg (m_now (0 : Int32).toNatClampNeg)) ((7 * m_next) + 1).toNatClampNeg (m_now (1 : Int32).toNatClampNeg)) ((7 * m_next) + 2).toNatClampNeg (m_now (2 : Int32).toNatClampNeg)) ((7 * m_next) + 3).toNatClampNeg (m_now (3 : Int32).toNatClampNeg)) ((7 * m_next) + 4).toNatClampNeg (m_now (4 : Int32).toNatClampNeg)) ((7 * m_next) + 5).toNatClampNeg (m_now (5 : Int32).toNatClampNeg)) ((7 * m_next) + 6).toNatClampNeg (m_now (6 : Int32).toNatClampNeg)) m_bestRow m_seen m_seenCell m_seenWay m_seenCame m_seed m_isKept m_kept) := hD
  refine lv_aload_n hx hb dX7_keepAct_47 rfl (lv_at hl 1 rfl) ?_
  refine lv_aload_n hx hb dX7_keepAct_48 rfl (lv_at hl 1 rfl) ?_
  refine va_get (D := D) (ci := 7) (v := .int m_acts) (C := RX7) (T := TX7) (N := 24) hx hb hts hiX7 hown hE.1 hP 0 rfl rfl 13 (by decide) (hts (.fieldLink RX7 95 "TiltTrayModel" "acts" "I") (by decide +kernel)) (fun _ h9 => h9) rfl dX7_keepAct_49 ?_
  refine lv_bipush (v := 14) hx hb dX7_keepAct_52 (by decide) ?_
  refine lv_icmp_ge (tgt := 66) hx hb dX7_keepAct_54 (by decide) (fun c16 => ?_) (fun c16 => ?_)
  · have h := oit h c16
    refine lv_bipush (v := 14) hx hb dX7_keepAct_66 (by decide) ?_
    exact L68 14 m_acts ((m_next + 1) - (m_next + 1) / 14 * 14) (upd (upd (upd (upd (upd (upd (upd m_row ((7 * m_next) + 0).toNatClampNeg (m_now (0 : Int32).toNatClampNeg)) ((7 * m_next) + 1).toNatClampNeg (m_now (1 : Int32).toNatClampNeg)) ((7 * m_next) + 2).toNatClampNeg (m_now (2 : Int32).toNatClampNeg)) ((7 * m_next) + 3).toNatClampNeg (m_now (3 : Int32).toNatClampNeg)) ((7 * m_next) + 4).toNatClampNeg (m_now (4 : Int32).toNatClampNeg)) ((7 * m_next) + 5).toNatClampNeg (m_now (5 : Int32).toNatClampNeg)) ((7 * m_next) + 6).toNatClampNeg (m_now (6 : Int32).toNatClampNeg)) _ _ _ (lv_sub hl [] rfl) hP hD hS h
  · have h := oif h c16
    refine lv_aload_n hx hb dX7_keepAct_57 rfl (lv_at hl 1 rfl) ?_
    refine va_get (D := D) (ci := 7) (v := .int m_acts) (C := RX7) (T := TX7) (N := 24) hx hb hts hiX7 hown hE.1 hP 0 rfl rfl 13 (by decide) (hts (.fieldLink RX7 95 "TiltTrayModel" "acts" "I") (by decide +kernel)) (fun _ h9 => h9) rfl dX7_keepAct_58 ?_
    refine lv_iconst (v := 1) hx hb dX7_keepAct_61 (by decide) ?_
    refine lv_iadd hx hb dX7_keepAct_62 ?_
    refine lv_goto (tgt := 68) hx hb dX7_keepAct_63 (by decide) ?_
    exact L68 (m_acts + 1) m_acts ((m_next + 1) - (m_next + 1) / 14 * 14) (upd (upd (upd (upd (upd (upd (upd m_row ((7 * m_next) + 0).toNatClampNeg (m_now (0 : Int32).toNatClampNeg)) ((7 * m_next) + 1).toNatClampNeg (m_now (1 : Int32).toNatClampNeg)) ((7 * m_next) + 2).toNatClampNeg (m_now (2 : Int32).toNatClampNeg)) ((7 * m_next) + 3).toNatClampNeg (m_now (3 : Int32).toNatClampNeg)) ((7 * m_next) + 4).toNatClampNeg (m_now (4 : Int32).toNatClampNeg)) ((7 * m_next) + 5).toNatClampNeg (m_now (5 : Int32).toNatClampNeg)) ((7 * m_next) + 6).toNatClampNeg (m_now (6 : Int32).toNatClampNeg)) _ _ _ (lv_sub hl [] rfl) hP hD hS h

def tw_X7_tilt (m_marbles : Int32) (m_kind : Nat → Int32) (m_told : Nat → Int32) (m_now : Nat → Int32) (m_there : Int32) (m_stopped : Int32) (m_acts : Int32) (m_next : Int32) (m_row : Nat → Int32) (p1 : Int32) : Option (Int32 × (Nat → Int32) × Int32 × Int32 × Int32 × (Nat → Int32)) :=
  (tw_X7_in p1.toInt64 0 3).bind (fun q1 => if q1 = 0 then (some ((-2), m_now, m_stopped, m_acts, m_next, m_row)) else ((tw_X7_keepAct m_now m_acts m_next m_row).bind (fun q3 => (tw_X7_tiltOn m_marbles m_kind m_told m_now m_there m_stopped 0 p1).bind (fun q4 => some (q4.1, q4.2.1, q4.2.2, q3.1, q3.2.1, q3.2.2)))))
set_option maxHeartbeats 4000000 in
set_option maxRecDepth 100000 in
theorem c_X7_tilt (l : Launch) (D : va_G) (cy : Cy) (mh : Nat) (m_kindr : Nat) (m_toldr : Nat) (m_nowr : Nat) (m_readToldr : Nat) (m_readCellr : Nat) (m_readKindr : Nat) (m_textr : Nat) (m_rowr : Nat) (m_seenCellr : Nat) (m_seenWayr : Nat) (m_seenCamer : Nat) (m_isKeptr : Nat) (m_keptr : Nat) (m_marbles : Int32) (m_kind : Nat → Int32) (m_told : Nat → Int32) (m_now : Nat → Int32) (m_readTold : Nat → Int32) (m_readCell : Nat → Int32) (m_readKind : Nat → Int32) (m_text : Nat → Int32) (m_length : Int32) (m_at : Int32) (m_faultAt : Int32) (m_there : Int32) (m_stopped : Int32) (m_acts : Int32) (m_next : Int32) (m_row : Nat → Int32) (m_bestRow : Int32) (m_seen : Int32) (m_seenCell : Nat → Int32) (m_seenWay : Nat → Int32) (m_seenCame : Nat → Int32) (m_seed : Int64) (m_isKept : Nat → Int32) (m_kept : Nat → Int32) (p1 : Int32) (res : Int32 × (Nat → Int32) × Int32 × Int32 × Int32 × (Nat → Int32)) (h : tw_X7_tilt m_marbles m_kind m_told m_now m_there m_stopped m_acts m_next m_row p1 = some res) : Ct l yX7_tilt wsX7_tilt 6 140 D cy [.ref mh, .int p1] (cMd mh m_kindr m_toldr m_nowr m_readToldr m_readCellr m_readKindr m_textr m_rowr m_seenCellr m_seenWayr m_seenCamer m_isKeptr m_keptr cy.1 cy.2.2.1 m_marbles m_kind m_told m_now m_readTold m_readCell m_readKind m_text m_length m_at m_faultAt m_there m_stopped m_acts m_next m_row m_bestRow m_seen m_seenCell m_seenWay m_seenCame m_seed m_isKept m_kept) (cMd mh m_kindr m_toldr m_nowr m_readToldr m_readCellr m_readKindr m_textr m_rowr m_seenCellr m_seenWayr m_seenCamer m_isKeptr m_keptr cy.1 cy.2.2.1 m_marbles m_kind m_told res.2.1 m_readTold m_readCell m_readKind m_text m_length m_at m_faultAt m_there res.2.2.1 res.2.2.2.1 res.2.2.2.2.1 res.2.2.2.2.2 m_bestRow m_seen m_seenCell m_seenWay m_seenCame m_seed m_isKept m_kept) (some (.int res.1)) := by
  refine Ct.ofW (cc := cX7_tilt) (maxL := 2) (ret := (some .int)) (by decide) rfl (Nat.le_of_ble_eq_true rfl) ?_
  intro p e R s m args below meth c A Q ls hRf hRl hQ hx hb hr hml hts hown hlocks hE hP hD hS hA hl
  have hl : lv_has ls 2 [(0, .ref mh), (1, .int p1)] := hl
  rw [tw_X7_tilt] at h
  refine lv_iload_n hx hb dX7_tilt_0 rfl (lv_at hl 1 rfl) ?_
  refine lv_i2l hx hb dX7_tilt_1 rfl ?_
  refine lv_lconst (v := 0) hx hb dX7_tilt_2 (by decide) ?_
  refine lv_ldc2 (v := 3) hx hb hown (hts (.constantLong RX7 86 (3)) (by decide +kernel)) dX7_tilt_3 ?_
  obtain ⟨q1, hq1, h⟩ := ob h
  refine kS (As := [.long p1.toInt64, .long 0, .long 3]) (rest := []) (w2 := cMd mh m_kindr m_toldr m_nowr m_readToldr m_readCellr m_readKindr m_textr m_rowr m_seenCellr m_seenWayr m_seenCamer m_isKeptr m_keptr cy.1 cy.2.2.1 m_marbles m_kind m_told m_now m_readTold m_readCell m_readKind m_text m_length m_at m_faultAt m_there m_stopped m_acts m_next m_row m_bestRow m_seen m_seenCell m_seenWay m_seenCame m_seed m_isKept m_kept) (n := 3) ⟨hx, hb, hml, hown, hts⟩ (c_X7_in l D cy p1.toInt64 0 3 q1 hq1) gX7_tilt_X7_in rfl (by decide +kernel) ⟨by rw [hRf]; exact Nat.le_of_ble_eq_true rfl, by rw [hRl]; exact Nat.le_of_ble_eq_true rfl⟩ hE hP hD hS hA [] rfl rfl rfl rfl rfl hl.1 rfl (Nat.le_of_ble_eq_true rfl) dX7_tilt_6 ⟨Nat.zero_le _, Nat.zero_le _⟩ (fun H locs hP hD hS => ?_)
  refine lv_if_ne (tgt := 15) hx hb dX7_tilt_9 (by decide) (fun c2 => ?_) (fun c2 => ?_)
  · have h := oif h c2
    refine lv_aload_n hx hb dX7_tilt_15 rfl (lv_at hl 0 rfl) ?_
    obtain ⟨q3, hq3, h⟩ := ob h
    refine kV (As := []) (rest := []) (w2 := cMd mh m_kindr m_toldr m_nowr m_readToldr m_readCellr m_readKindr m_textr m_rowr m_seenCellr m_seenWayr m_seenCamer m_isKeptr m_keptr cy.1 cy.2.2.1 m_marbles m_kind m_told m_now m_readTold m_readCell m_readKind m_text m_length m_at m_faultAt m_there m_stopped q3.1 q3.2.1 q3.2.2 m_bestRow m_seen m_seenCell m_seenWay m_seenCame m_seed m_isKept m_kept) (n := 0) (q0 := 0) ⟨hx, hb, hml, hown, hts⟩ (c_X7_keepAct l D cy mh m_kindr m_toldr m_nowr m_readToldr m_readCellr m_readKindr m_textr m_rowr m_seenCellr m_seenWayr m_seenCamer m_isKeptr m_keptr m_marbles m_kind m_told m_now m_readTold m_readCell m_readKind m_text m_length m_at m_faultAt m_there m_stopped m_acts m_next m_row m_bestRow m_seen m_seenCell m_seenWay m_seenCame m_seed m_isKept m_kept q3 hq3) gX7_tilt_X7_keepAct rfl (by decide +kernel) ⟨by rw [hRf]; exact Nat.le_of_ble_eq_true rfl, by rw [hRl]; exact Nat.le_of_ble_eq_true rfl⟩ hE hP hD hS hA [0, 1, 2, 3, 4, 5, 6, 7, 8, 9, 10, 11, 12, 13] rfl rfl rfl rfl rfl rfl rfl hl.1 rfl (Nat.le_of_ble_eq_true rfl) dX7_tilt_16 ⟨Nat.zero_le _, Nat.zero_le _⟩ (fun H locs hP hD hS => ?_)
    refine lv_aload_n hx hb dX7_tilt_19 rfl (lv_at hl 0 rfl) ?_
    refine lv_iconst (v := 0) hx hb dX7_tilt_20 (by decide) ?_
    refine lv_iload_n hx hb dX7_tilt_21 rfl (lv_at hl 1 rfl) ?_
    obtain ⟨q4, hq4, h⟩ := ob h
    refine kV (As := [.int 0, .int p1]) (rest := []) (w2 := cMd mh m_kindr m_toldr m_nowr m_readToldr m_readCellr m_readKindr m_textr m_rowr m_seenCellr m_seenWayr m_seenCamer m_isKeptr m_keptr cy.1 cy.2.2.1 m_marbles m_kind m_told q4.2.1 m_readTold m_readCell m_readKind m_text m_length m_at m_faultAt m_there q4.2.2 q3.1 q3.2.1 q3.2.2 m_bestRow m_seen m_seenCell m_seenWay m_seenCame m_seed m_isKept m_kept) (n := 2) (q0 := 0) ⟨hx, hb, hml, hown, hts⟩ (c_X7_tiltOn l D cy mh m_kindr m_toldr m_nowr m_readToldr m_readCellr m_readKindr m_textr m_rowr m_seenCellr m_seenWayr m_seenCamer m_isKeptr m_keptr m_marbles m_kind m_told m_now m_readTold m_readCell m_readKind m_text m_length m_at m_faultAt m_there m_stopped q3.1 q3.2.1 q3.2.2 m_bestRow m_seen m_seenCell m_seenWay m_seenCame m_seed m_isKept m_kept 0 p1 q4 hq4) gX7_tilt_X7_tiltOn rfl (by decide +kernel) ⟨by rw [hRf]; exact Nat.le_of_ble_eq_true rfl, by rw [hRl]; exact Nat.le_of_ble_eq_true rfl⟩ hE hP hD hS hA [0, 1, 2, 3, 4, 5, 6, 7, 8, 9, 10, 11, 12, 13] rfl rfl rfl rfl rfl rfl rfl hl.1 rfl (Nat.le_of_ble_eq_true rfl) dX7_tilt_22 ⟨Nat.zero_le _, Nat.zero_le _⟩ (fun H locs hP hD hS => ?_)
    obtain rfl := Option.some.inj h
    rw [hQ]; exact ct_iret hx hb hr hlocks hP hS rfl dX7_tilt_25
  · have h := oit h c2
    refine lv_bipush (v := (-2)) hx hb dX7_tilt_12 (by decide) ?_
    obtain rfl := Option.some.inj h
    rw [hQ]; exact ct_iret hx hb hr hlocks hP hS rfl dX7_tilt_14

def tw_X7_lift_82 (m_marbles : Int32) (m_told : Nat → Int32) (m_there : Int32) (p1 : Int32) (p2 : Int32) (x3 : Int32) (z1 : Int32) (z2 : Int32) (z3 : Int32) (m_now : Nat → Int32) (m_acts : Int32) (m_next : Int32) (m_row : Nat → Int32) : Option (Int32 × (Nat → Int32) × Int32 × Int32 × (Nat → Int32)) :=
  if ix z1 14 = true then (if ix p1 14 = true then (some (x3, upd (upd m_now z1.toNatClampNeg (z2 &&& z3)) p1.toNatClampNeg p2, m_acts, m_next, m_row)) else none) else none
def tw_X7_lift (m_marbles : Int32) (m_told : Nat → Int32) (m_now : Nat → Int32) (m_there : Int32) (m_acts : Int32) (m_next : Int32) (m_row : Nat → Int32) (p1 : Int32) (p2 : Int32) : Option (Int32 × (Nat → Int32) × Int32 × Int32 × (Nat → Int32)) :=
  (tw_X7_isMarble m_marbles p1).bind (fun q3 => if q3 = 0 then (some ((-1), m_now, m_acts, m_next, m_row)) else ((tw_X7_isCell p2).bind (fun q5 => if q5 = 0 then (some ((-1), m_now, m_acts, m_next, m_row)) else (if ix p1 14 = true then ((tw_X7_canBe m_marbles m_told m_now m_there 0 p2).bind (fun q8 => if q8 = 0 then (some ((-3), m_now, m_acts, m_next, m_row)) else ((tw_X7_isOpen m_told m_now 0 p2).bind (fun q10 => if q10 = 0 then (if (m_now p1.toNatClampNeg) = (100 + p2) then (some ((-3), m_now, m_acts, m_next, m_row)) else ((tw_X7_keepAct m_now m_acts m_next m_row).bind (fun q13 => if (m_now p1.toNatClampNeg) < 100 then (tw_X7_lift_82 m_marbles m_told m_there p1 p2 (m_now p1.toNatClampNeg) 4 (m_now (4 : Int32).toNatClampNeg) (-1) m_now q13.1 q13.2.1 q13.2.2) else (tw_X7_lift_82 m_marbles m_told m_there p1 p2 (m_now p1.toNatClampNeg) 4 (m_now (4 : Int32).toNatClampNeg) ((1 <<< (((m_now p1.toNatClampNeg) - 100) &&& 31)) ^^^ (-1)) m_now q13.1 q13.2.1 q13.2.2)))) else (some ((-3), m_now, m_acts, m_next, m_row)))))) else none))))
set_option maxHeartbeats 4000000 in
set_option maxRecDepth 100000 in
theorem c_X7_lift (l : Launch) (D : va_G) (cy : Cy) (mh : Nat) (m_kindr : Nat) (m_toldr : Nat) (m_nowr : Nat) (m_readToldr : Nat) (m_readCellr : Nat) (m_readKindr : Nat) (m_textr : Nat) (m_rowr : Nat) (m_seenCellr : Nat) (m_seenWayr : Nat) (m_seenCamer : Nat) (m_isKeptr : Nat) (m_keptr : Nat) (m_marbles : Int32) (m_kind : Nat → Int32) (m_told : Nat → Int32) (m_now : Nat → Int32) (m_readTold : Nat → Int32) (m_readCell : Nat → Int32) (m_readKind : Nat → Int32) (m_text : Nat → Int32) (m_length : Int32) (m_at : Int32) (m_faultAt : Int32) (m_there : Int32) (m_stopped : Int32) (m_acts : Int32) (m_next : Int32) (m_row : Nat → Int32) (m_bestRow : Int32) (m_seen : Int32) (m_seenCell : Nat → Int32) (m_seenWay : Nat → Int32) (m_seenCame : Nat → Int32) (m_seed : Int64) (m_isKept : Nat → Int32) (m_kept : Nat → Int32) (p1 : Int32) (p2 : Int32) (res : Int32 × (Nat → Int32) × Int32 × Int32 × (Nat → Int32)) (h : tw_X7_lift m_marbles m_told m_now m_there m_acts m_next m_row p1 p2 = some res) : Ct l yX7_lift wsX7_lift 4 88 D cy [.ref mh, .int p1, .int p2] (cMd mh m_kindr m_toldr m_nowr m_readToldr m_readCellr m_readKindr m_textr m_rowr m_seenCellr m_seenWayr m_seenCamer m_isKeptr m_keptr cy.1 cy.2.2.1 m_marbles m_kind m_told m_now m_readTold m_readCell m_readKind m_text m_length m_at m_faultAt m_there m_stopped m_acts m_next m_row m_bestRow m_seen m_seenCell m_seenWay m_seenCame m_seed m_isKept m_kept) (cMd mh m_kindr m_toldr m_nowr m_readToldr m_readCellr m_readKindr m_textr m_rowr m_seenCellr m_seenWayr m_seenCamer m_isKeptr m_keptr cy.1 cy.2.2.1 m_marbles m_kind m_told res.2.1 m_readTold m_readCell m_readKind m_text m_length m_at m_faultAt m_there m_stopped res.2.2.1 res.2.2.2.1 res.2.2.2.2 m_bestRow m_seen m_seenCell m_seenWay m_seenCame m_seed m_isKept m_kept) (some (.int res.1)) := by
  refine Ct.ofW (cc := cX7_lift) (maxL := 4) (ret := (some .int)) (by decide) rfl (Nat.le_of_ble_eq_true rfl) ?_
  intro p e R s m args below meth c A Q ls hRf hRl hQ hx hb hr hml hts hown hlocks hE hP hD hS hA hl
  have hiX7 : ∀ w ∈ u_ws RX7 TX7 24, w ∈ wsX7_lift := by decide +kernel
  have hl : lv_has ls 4 [(0, .ref mh), (1, .int p1), (2, .int p2)] := hl
  rw [tw_X7_lift] at h
  have L82 : ∀ (x3 : Int32) (z1 : Int32) (z2 : Int32) (z3 : Int32) (m_now : Nat → Int32) (m_acts : Int32) (m_next : Int32) (m_row : Nat → Int32)  (H : Heap) (locs : List Loc) (ls : Array Slot), lv_has ls 4 [(0, .ref mh), (1, .int p1), (2, .int p2), (3, .int x3)] → va_P D vwCl (cMd mh m_kindr m_toldr m_nowr m_readToldr m_readCellr m_readKindr m_textr m_rowr m_seenCellr m_seenWayr m_seenCamer m_isKeptr m_keptr cy.1 cy.2.2.1 m_marbles m_kind m_told m_now m_readTold m_readCell m_readKind m_text m_length m_at m_faultAt m_there m_stopped m_acts m_next m_row m_bestRow m_seen m_seenCell m_seenWay m_seenCame m_seed m_isKept m_kept) H → va_D A (cMd mh m_kindr m_toldr m_nowr m_readToldr m_readCellr m_readKindr m_textr m_rowr m_seenCellr m_seenWayr m_seenCamer m_isKeptr m_keptr cy.1 cy.2.2.1 m_marbles m_kind m_told m_now m_readTold m_readCell m_readKind m_text m_length m_at m_faultAt m_there m_stopped m_acts m_next m_row m_bestRow m_seen m_seenCell m_seenWay m_seenCame m_seed m_isKept m_kept) → va_S A s.heap H locs → tw_X7_lift_82 m_marbles m_told m_there p1 p2 x3 z1 z2 z3 m_now m_acts m_next m_row = some res → W p l e R s m args below meth c H locs 0 0 Q (F0 m 82 ls [.int z3, .int z2, .int z1, .ref m_nowr]) := by
    intro x3 z1 z2 z3 m_now m_acts m_next m_row  H locs ls hl hP hD hS h
    rw [tw_X7_lift_82] at h
    refine lv_iand hx hb dX7_lift_82 ?_
    obtain ⟨g1, h⟩ := og h
    refine va_iast hx hb hE.1 hP hD hS 3 0 rfl rfl (ix_in g1) dX7_lift_83 (fun H locs hP hD hS => ?_)
    have hP : va_P D vwCl (cMd mh m_kindr m_toldr m_nowr m_readToldr m_readCellr m_readKindr m_textr m_rowr m_seenCellr m_seenWayr m_seenCamer m_isKeptr m_keptr cy.1 cy.2.2.1 m_marbles m_kind m_told (upd m_now z1.toNatClampNeg (z2 &&& z3)) m_readTold m_readCell m_readKind m_text m_length m_at m_faultAt m_there m_stopped m_acts m_next m_row m_bestRow m_seen m_seenCell m_seenWay m_seenCame m_seed m_isKept m_kept) H := hP
    have hD : va_D A (cMd mh m_kindr m_toldr m_nowr m_readToldr m_readCellr m_readKindr m_textr m_rowr m_seenCellr m_seenWayr m_seenCamer m_isKeptr m_keptr cy.1 cy.2.2.1 m_marbles m_kind m_told (upd m_now z1.toNatClampNeg (z2 &&& z3)) m_readTold m_readCell m_readKind m_text m_length m_at m_faultAt m_there m_stopped m_acts m_next m_row m_bestRow m_seen m_seenCell m_seenWay m_seenCame m_seed m_isKept m_kept) := hD
    refine lv_aload_n hx hb dX7_lift_84 rfl (lv_at hl 0 rfl) ?_
    refine va_get (D := D) (ci := 7) (v := .ref m_nowr) (C := RX7) (T := TX7) (N := 24) hx hb hts hiX7 hown hE.1 hP 0 rfl rfl 3 (by decide) (hts (.fieldLink RX7 16 "TiltTrayModel" "now" "[I") (by decide +kernel)) (fun _ h9 => h9) rfl dX7_lift_85 ?_
    refine lv_iload_n hx hb dX7_lift_88 rfl (lv_at hl 1 rfl) ?_
    refine lv_iload_n hx hb dX7_lift_89 rfl (lv_at hl 2 rfl) ?_
    obtain ⟨g2, h⟩ := og h
    refine va_iast hx hb hE.1 hP hD hS 3 0 rfl rfl (ix_in g2) dX7_lift_90 (fun H locs hP hD hS => ?_)
    have hP : va_P D vwCl (cMd mh m_kindr m_toldr m_nowr m_readToldr m_readCellr m_readKindr m_textr m_rowr m_seenCellr m_seenWayr m_seenCamer m_isKeptr m_keptr cy.1 cy.2.2.1 m_marbles m_kind m_told (upd (upd m_now z1.toNatClampNeg (z2 &&& z3)) p1.toNatClampNeg p2) m_readTold m_readCell m_readKind m_text m_length m_at m_faultAt m_there m_stopped m_acts m_next m_row m_bestRow m_seen m_seenCell m_seenWay m_seenCame m_seed m_isKept m_kept) H := hP
    have hD : va_D A (cMd mh m_kindr m_toldr m_nowr m_readToldr m_readCellr m_readKindr m_textr m_rowr m_seenCellr m_seenWayr m_seenCamer m_isKeptr m_keptr cy.1 cy.2.2.1 m_marbles m_kind m_told (upd (upd m_now z1.toNatClampNeg (z2 &&& z3)) p1.toNatClampNeg p2) m_readTold m_readCell m_readKind m_text m_length m_at m_faultAt m_there m_stopped m_acts m_next m_row m_bestRow m_seen m_seenCell m_seenWay m_seenCame m_seed m_isKept m_kept) := hD
    refine lv_iload_n hx hb dX7_lift_91 rfl (lv_at hl 3 rfl) ?_
    obtain rfl := Option.some.inj h
    rw [hQ]; exact ct_iret hx hb hr hlocks hP hS rfl dX7_lift_92
  refine lv_aload_n hx hb dX7_lift_0 rfl (lv_at hl 0 rfl) ?_
  refine lv_iload_n hx hb dX7_lift_1 rfl (lv_at hl 1 rfl) ?_
  obtain ⟨q3, hq3, h⟩ := ob h
  refine kV (As := [.int p1]) (rest := []) (w2 := cMd mh m_kindr m_toldr m_nowr m_readToldr m_readCellr m_readKindr m_textr m_rowr m_seenCellr m_seenWayr m_seenCamer m_isKeptr m_keptr cy.1 cy.2.2.1 m_marbles m_kind m_told m_now m_readTold m_readCell m_readKind m_text m_length m_at m_faultAt m_there m_stopped m_acts m_next m_row m_bestRow m_seen m_seenCell m_seenWay m_seenCame m_seed m_isKept m_kept) (n := 1) (q0 := 0) ⟨hx, hb, hml, hown, hts⟩ (c_X7_isMarble l D cy mh m_kindr m_toldr m_nowr m_readToldr m_readCellr m_readKindr m_textr m_rowr m_seenCellr m_seenWayr m_seenCamer m_isKeptr m_keptr m_marbles m_kind m_told m_now m_readTold m_readCell m_readKind m_text m_length m_at m_faultAt m_there m_stopped m_acts m_next m_row m_bestRow m_seen m_seenCell m_seenWay m_seenCame m_seed m_isKept m_kept p1 q3 hq3) gX7_lift_X7_isMarble rfl (by decide +kernel) ⟨by rw [hRf]; exact Nat.le_of_ble_eq_true rfl, by rw [hRl]; exact Nat.le_of_ble_eq_true rfl⟩ hE hP hD hS hA [0, 1, 2, 3, 4, 5, 6, 7, 8, 9, 10, 11, 12, 13] rfl rfl rfl rfl rfl rfl rfl hl.1 rfl (Nat.le_of_ble_eq_true rfl) dX7_lift_2 ⟨Nat.zero_le _, Nat.zero_le _⟩ (fun H locs hP hD hS => ?_)
  refine lv_if_eq (tgt := 15) hx hb dX7_lift_5 (by decide) (fun c4 => ?_) (fun c4 => ?_)
  · have h := oit h c4
    refine lv_iconst (v := (-1)) hx hb dX7_lift_15 (by decide) ?_
    obtain rfl := Option.some.inj h
    rw [hQ]; exact ct_iret hx hb hr hlocks hP hS rfl dX7_lift_16
  · have h := oif h c4
    refine lv_iload_n hx hb dX7_lift_8 rfl (lv_at hl 2 rfl) ?_
    obtain ⟨q5, hq5, h⟩ := ob h
    refine kS (As := [.int p2]) (rest := []) (w2 := cMd mh m_kindr m_toldr m_nowr m_readToldr m_readCellr m_readKindr m_textr m_rowr m_seenCellr m_seenWayr m_seenCamer m_isKeptr m_keptr cy.1 cy.2.2.1 m_marbles m_kind m_told m_now m_readTold m_readCell m_readKind m_text m_length m_at m_faultAt m_there m_stopped m_acts m_next m_row m_bestRow m_seen m_seenCell m_seenWay m_seenCame m_seed m_isKept m_kept) (n := 1) ⟨hx, hb, hml, hown, hts⟩ (c_X7_isCell l D cy p2 q5 hq5) gX7_lift_X7_isCell rfl (by decide +kernel) ⟨by rw [hRf]; exact Nat.le_of_ble_eq_true rfl, by rw [hRl]; exact Nat.le_of_ble_eq_true rfl⟩ hE hP hD hS hA [] rfl rfl rfl rfl rfl hl.1 rfl (Nat.le_of_ble_eq_true rfl) dX7_lift_9 ⟨Nat.zero_le _, Nat.zero_le _⟩ (fun H locs hP hD hS => ?_)
    refine lv_if_ne (tgt := 17) hx hb dX7_lift_12 (by decide) (fun c6 => ?_) (fun c6 => ?_)
    · have h := oif h c6
      refine lv_aload_n hx hb dX7_lift_17 rfl (lv_at hl 0 rfl) ?_
      refine va_get (D := D) (ci := 7) (v := .ref m_nowr) (C := RX7) (T := TX7) (N := 24) hx hb hts hiX7 hown hE.1 hP 0 rfl rfl 3 (by decide) (hts (.fieldLink RX7 16 "TiltTrayModel" "now" "[I") (by decide +kernel)) (fun _ h9 => h9) rfl dX7_lift_18 ?_
      refine lv_iload_n hx hb dX7_lift_21 rfl (lv_at hl 1 rfl) ?_
      obtain ⟨g7, h⟩ := og h
      refine va_iald hx hb hE.1 hP 3 0 rfl rfl (ix_in g7) dX7_lift_22 ?_
      refine lv_istore_n (lv' := [(3, .int (m_now p1.toNatClampNeg)), (0, .ref mh), (1, .int p1), (2, .int p2)]) hx hb dX7_lift_23 rfl hl (by decide) rfl (fun ls hl => ?_)
      refine lv_aload_n hx hb dX7_lift_24 rfl (lv_at hl 1 rfl) ?_
      refine lv_iconst (v := 0) hx hb dX7_lift_25 (by decide) ?_
      refine lv_iload_n hx hb dX7_lift_26 rfl (lv_at hl 3 rfl) ?_
      obtain ⟨q8, hq8, h⟩ := ob h
      refine kV (As := [.int 0, .int p2]) (rest := []) (w2 := cMd mh m_kindr m_toldr m_nowr m_readToldr m_readCellr m_readKindr m_textr m_rowr m_seenCellr m_seenWayr m_seenCamer m_isKeptr m_keptr cy.1 cy.2.2.1 m_marbles m_kind m_told m_now m_readTold m_readCell m_readKind m_text m_length m_at m_faultAt m_there m_stopped m_acts m_next m_row m_bestRow m_seen m_seenCell m_seenWay m_seenCame m_seed m_isKept m_kept) (n := 2) (q0 := 0) ⟨hx, hb, hml, hown, hts⟩ (c_X7_canBe l D cy mh m_kindr m_toldr m_nowr m_readToldr m_readCellr m_readKindr m_textr m_rowr m_seenCellr m_seenWayr m_seenCamer m_isKeptr m_keptr m_marbles m_kind m_told m_now m_readTold m_readCell m_readKind m_text m_length m_at m_faultAt m_there m_stopped m_acts m_next m_row m_bestRow m_seen m_seenCell m_seenWay m_seenCame m_seed m_isKept m_kept 0 p2 q8 hq8) gX7_lift_X7_canBe rfl (by decide +kernel) ⟨by rw [hRf]; exact Nat.le_of_ble_eq_true rfl, by rw [hRl]; exact Nat.le_of_ble_eq_true rfl⟩ hE hP hD hS hA [0, 1, 2, 3, 4, 5, 6, 7, 8, 9, 10, 11, 12, 13] rfl rfl rfl rfl rfl rfl rfl hl.1 rfl (Nat.le_of_ble_eq_true rfl) dX7_lift_27 ⟨Nat.zero_le _, Nat.zero_le _⟩ (fun H locs hP hD hS => ?_)
      refine lv_if_eq (tgt := 50) hx hb dX7_lift_30 (by decide) (fun c9 => ?_) (fun c9 => ?_)
      · have h := oit h c9
        refine lv_bipush (v := (-3)) hx hb dX7_lift_50 (by decide) ?_
        obtain rfl := Option.some.inj h
        rw [hQ]; exact ct_iret hx hb hr hlocks hP hS rfl dX7_lift_52
      · have h := oif h c9
        refine lv_aload_n hx hb dX7_lift_33 rfl (lv_at hl 1 rfl) ?_
        refine lv_iconst (v := 0) hx hb dX7_lift_34 (by decide) ?_
        refine lv_iload_n hx hb dX7_lift_35 rfl (lv_at hl 3 rfl) ?_
        obtain ⟨q10, hq10, h⟩ := ob h
        refine kV (As := [.int 0, .int p2]) (rest := []) (w2 := cMd mh m_kindr m_toldr m_nowr m_readToldr m_readCellr m_readKindr m_textr m_rowr m_seenCellr m_seenWayr m_seenCamer m_isKeptr m_keptr cy.1 cy.2.2.1 m_marbles m_kind m_told m_now m_readTold m_readCell m_readKind m_text m_length m_at m_faultAt m_there m_stopped m_acts m_next m_row m_bestRow m_seen m_seenCell m_seenWay m_seenCame m_seed m_isKept m_kept) (n := 2) (q0 := 0) ⟨hx, hb, hml, hown, hts⟩ (c_X7_isOpen l D cy mh m_kindr m_toldr m_nowr m_readToldr m_readCellr m_readKindr m_textr m_rowr m_seenCellr m_seenWayr m_seenCamer m_isKeptr m_keptr m_marbles m_kind m_told m_now m_readTold m_readCell m_readKind m_text m_length m_at m_faultAt m_there m_stopped m_acts m_next m_row m_bestRow m_seen m_seenCell m_seenWay m_seenCame m_seed m_isKept m_kept 0 p2 q10 hq10) gX7_lift_X7_isOpen rfl (by decide +kernel) ⟨by rw [hRf]; exact Nat.le_of_ble_eq_true rfl, by rw [hRl]; exact Nat.le_of_ble_eq_true rfl⟩ hE hP hD hS hA [0, 1, 2, 3, 4, 5, 6, 7, 8, 9, 10, 11, 12, 13] rfl rfl rfl rfl rfl rfl rfl hl.1 rfl (Nat.le_of_ble_eq_true rfl) dX7_lift_36 ⟨Nat.zero_le _, Nat.zero_le _⟩ (fun H locs hP hD hS => ?_)
        refine lv_if_ne (tgt := 50) hx hb dX7_lift_39 (by decide) (fun c11 => ?_) (fun c11 => ?_)
        · have h := oif h c11
          refine lv_bipush (v := (-3)) hx hb dX7_lift_50 (by decide) ?_
          obtain rfl := Option.some.inj h
          rw [hQ]; exact ct_iret hx hb hr hlocks hP hS rfl dX7_lift_52
        · have h := oit h c11
          refine lv_iload_n hx hb dX7_lift_42 rfl (lv_at hl 0 rfl) ?_
          refine lv_bipush (v := 100) hx hb dX7_lift_43 (by decide) ?_
          refine lv_iload_n hx hb dX7_lift_45 rfl (lv_at hl 3 rfl) ?_
          refine lv_iadd hx hb dX7_lift_46 ?_
          refine lv_icmp_ne (tgt := 53) hx hb dX7_lift_47 (by decide) (fun c12 => ?_) (fun c12 => ?_)
          · have h := oif h c12
            refine lv_aload_n hx hb dX7_lift_53 rfl (lv_at hl 1 rfl) ?_
            obtain ⟨q13, hq13, h⟩ := ob h
            refine kV (As := []) (rest := []) (w2 := cMd mh m_kindr m_toldr m_nowr m_readToldr m_readCellr m_readKindr m_textr m_rowr m_seenCellr m_seenWayr m_seenCamer m_isKeptr m_keptr cy.1 cy.2.2.1 m_marbles m_kind m_told m_now m_readTold m_readCell m_readKind m_text m_length m_at m_faultAt m_there m_stopped q13.1 q13.2.1 q13.2.2 m_bestRow m_seen m_seenCell m_seenWay m_seenCame m_seed m_isKept m_kept) (n := 0) (q0 := 0) ⟨hx, hb, hml, hown, hts⟩ (c_X7_keepAct l D cy mh m_kindr m_toldr m_nowr m_readToldr m_readCellr m_readKindr m_textr m_rowr m_seenCellr m_seenWayr m_seenCamer m_isKeptr m_keptr m_marbles m_kind m_told m_now m_readTold m_readCell m_readKind m_text m_length m_at m_faultAt m_there m_stopped m_acts m_next m_row m_bestRow m_seen m_seenCell m_seenWay m_seenCame m_seed m_isKept m_kept q13 hq13) gX7_lift_X7_keepAct rfl (by decide +kernel) ⟨by rw [hRf]; exact Nat.le_of_ble_eq_true rfl, by rw [hRl]; exact Nat.le_of_ble_eq_true rfl⟩ hE hP hD hS hA [0, 1, 2, 3, 4, 5, 6, 7, 8, 9, 10, 11, 12, 13] rfl rfl rfl rfl rfl rfl rfl hl.1 rfl (Nat.le_of_ble_eq_true rfl) dX7_lift_54 ⟨Nat.zero_le _, Nat.zero_le _⟩ (fun H locs hP hD hS => ?_)
            refine lv_aload_n hx hb dX7_lift_57 rfl (lv_at hl 1 rfl) ?_
            refine va_get (D := D) (ci := 7) (v := .ref m_nowr) (C := RX7) (T := TX7) (N := 24) hx hb hts hiX7 hown hE.1 hP 0 rfl rfl 3 (by decide) (hts (.fieldLink RX7 16 "TiltTrayModel" "now" "[I") (by decide +kernel)) (fun _ h9 => h9) rfl dX7_lift_58 ?_
            refine lv_iconst (v := 4) hx hb dX7_lift_61 (by decide) ?_
            refine lv_dup2_11 hx hb dX7_lift_62 rfl rfl ?_
            refine va_iald hx hb hE.1 hP 3 0 rfl rfl (ix_in (by decide)) dX7_lift_63 ?_
            refine lv_iload_n hx hb dX7_lift_64 rfl (lv_at hl 0 rfl) ?_
            refine lv_bipush (v := 100) hx hb dX7_lift_65 (by decide) ?_
            refine lv_icmp_lt (tgt := 81) hx hb dX7_lift_67 (by decide) (fun c14 => ?_) (fun c14 => ?_)
            · have h := oit h c14
              refine lv_iconst (v := (-1)) hx hb dX7_lift_81 (by decide) ?_
              exact L82 (m_now p1.toNatClampNeg) 4 (m_now (4 : Int32).toNatClampNeg) (-1) m_now q13.1 q13.2.1 q13.2.2 _ _ _ (lv_sub hl [1, 2, 3, 0] rfl) hP hD hS h
            · have h := oif h c14
              refine lv_iconst (v := 1) hx hb dX7_lift_70 (by decide) ?_
              refine lv_iload_n hx hb dX7_lift_71 rfl (lv_at hl 0 rfl) ?_
              refine lv_bipush (v := 100) hx hb dX7_lift_72 (by decide) ?_
              refine lv_isub hx hb dX7_lift_74 ?_
              refine lv_ishl hx hb dX7_lift_75 ?_
              refine lv_iconst (v := (-1)) hx hb dX7_lift_76 (by decide) ?_
              refine lv_ixor hx hb dX7_lift_77 ?_
              refine lv_goto (tgt := 82) hx hb dX7_lift_78 (by decide) ?_
              exact L82 (m_now p1.toNatClampNeg) 4 (m_now (4 : Int32).toNatClampNeg) ((1 <<< (((m_now p1.toNatClampNeg) - 100) &&& 31)) ^^^ (-1)) m_now q13.1 q13.2.1 q13.2.2 _ _ _ (lv_sub hl [1, 2, 3, 0] rfl) hP hD hS h
          · have h := oit h c12
            refine lv_bipush (v := (-3)) hx hb dX7_lift_50 (by decide) ?_
            obtain rfl := Option.some.inj h
            rw [hQ]; exact ct_iret hx hb hr hlocks hP hS rfl dX7_lift_52
    · have h := oit h c6
      refine lv_iconst (v := (-1)) hx hb dX7_lift_15 (by decide) ?_
      obtain rfl := Option.some.inj h
      rw [hQ]; exact ct_iret hx hb hr hlocks hP hS rfl dX7_lift_16
