def tw_J6_bitCount_0f7a4 (p1 : Int32) : Option (Int32) :=
  nm (p1 - (((p1.toUInt32 >>> ((1 : Int32).toUInt32 &&& Int32.toUInt32 31)).toInt32) &&& 1431655765)) (fun v1 => nm ((v1 &&& 858993459) + (((v1.toUInt32 >>> ((2 : Int32).toUInt32 &&& Int32.toUInt32 31)).toInt32) &&& 858993459)) (fun v2 => nm ((v2 + ((v2.toUInt32 >>> ((4 : Int32).toUInt32 &&& Int32.toUInt32 31)).toInt32)) &&& 252645135) (fun v3 => nm (v3 + ((v3.toUInt32 >>> ((8 : Int32).toUInt32 &&& Int32.toUInt32 31)).toInt32)) (fun v4 => nm (v4 + ((v4.toUInt32 >>> ((16 : Int32).toUInt32 &&& Int32.toUInt32 31)).toInt32)) (fun v5 => some (v5 &&& 63))))))
set_option maxHeartbeats 4000000 in
set_option maxRecDepth 100000 in
theorem c_J6_bitCount_0f7a4 (l : Launch) (D : va_G) (cy : Cy) (p1 : Int32) (res : Int32) (h : tw_J6_bitCount_0f7a4 p1 = some res) : Ct l yJ6_bitCount_0f7a4 wsJ6_bitCount_0f7a4 0 0 D cy [.int p1] ([]) ([]) (some (.int res)) := by
  refine Ct.ofW (cc := cJ6_bitCount_0f7a4) (maxL := 1) (ret := (some .int)) (by decide) rfl (Nat.le_of_ble_eq_true rfl) ?_
  intro p e R s m args below meth c A Q ls hRf hRl hQ hx hb hr hml hts hown hlocks hE hP hD hS hA hl
  have hl : lv_has ls 1 [(0, .int p1)] := hl
  rw [tw_J6_bitCount_0f7a4] at h
  refine lv_iload_n hx hb dJ6_bitCount_0f7a4_0 rfl (lv_at hl 0 rfl) ?_
  refine lv_iload_n hx hb dJ6_bitCount_0f7a4_1 rfl (lv_at hl 0 rfl) ?_
  refine lv_iconst (v := 1) hx hb dJ6_bitCount_0f7a4_2 (by decide) ?_
  refine lv_iushr hx hb dJ6_bitCount_0f7a4_3 rfl ?_
  refine lv_ldcw9 (v := 1431655765) hx hb hown (hts (.constant RJ6 265 (1431655765)) (by decide +kernel)) dJ6_bitCount_0f7a4_4 ?_
  refine lv_iand hx hb dJ6_bitCount_0f7a4_7 ?_
  refine lv_isub hx hb dJ6_bitCount_0f7a4_8 ?_
  refine lv_topi (fun v1 ev1 => ?_)
  have h := nmh ev1 h
  refine lv_istore_n (lv' := [(0, .int v1)]) hx hb dJ6_bitCount_0f7a4_9 rfl hl (by decide) rfl (fun ls hl => ?_)
  refine lv_iload_n hx hb dJ6_bitCount_0f7a4_10 rfl (lv_at hl 0 rfl) ?_
  refine lv_ldcw9 (v := 858993459) hx hb hown (hts (.constant RJ6 266 (858993459)) (by decide +kernel)) dJ6_bitCount_0f7a4_11 ?_
  refine lv_iand hx hb dJ6_bitCount_0f7a4_14 ?_
  refine lv_iload_n hx hb dJ6_bitCount_0f7a4_15 rfl (lv_at hl 0 rfl) ?_
  refine lv_iconst (v := 2) hx hb dJ6_bitCount_0f7a4_16 (by decide) ?_
  refine lv_iushr hx hb dJ6_bitCount_0f7a4_17 rfl ?_
  refine lv_ldcw9 (v := 858993459) hx hb hown (hts (.constant RJ6 266 (858993459)) (by decide +kernel)) dJ6_bitCount_0f7a4_18 ?_
  refine lv_iand hx hb dJ6_bitCount_0f7a4_21 ?_
  refine lv_iadd hx hb dJ6_bitCount_0f7a4_22 ?_
  refine lv_topi (fun v2 ev2 => ?_)
  have h := nmh ev2 h
  refine lv_istore_n (lv' := [(0, .int v2)]) hx hb dJ6_bitCount_0f7a4_23 rfl hl (by decide) rfl (fun ls hl => ?_)
  refine lv_iload_n hx hb dJ6_bitCount_0f7a4_24 rfl (lv_at hl 0 rfl) ?_
  refine lv_iload_n hx hb dJ6_bitCount_0f7a4_25 rfl (lv_at hl 0 rfl) ?_
  refine lv_iconst (v := 4) hx hb dJ6_bitCount_0f7a4_26 (by decide) ?_
  refine lv_iushr hx hb dJ6_bitCount_0f7a4_27 rfl ?_
  refine lv_iadd hx hb dJ6_bitCount_0f7a4_28 ?_
  refine lv_ldcw9 (v := 252645135) hx hb hown (hts (.constant RJ6 267 (252645135)) (by decide +kernel)) dJ6_bitCount_0f7a4_29 ?_
  refine lv_iand hx hb dJ6_bitCount_0f7a4_32 ?_
  refine lv_topi (fun v3 ev3 => ?_)
  have h := nmh ev3 h
  refine lv_istore_n (lv' := [(0, .int v3)]) hx hb dJ6_bitCount_0f7a4_33 rfl hl (by decide) rfl (fun ls hl => ?_)
  refine lv_iload_n hx hb dJ6_bitCount_0f7a4_34 rfl (lv_at hl 0 rfl) ?_
  refine lv_iload_n hx hb dJ6_bitCount_0f7a4_35 rfl (lv_at hl 0 rfl) ?_
  refine lv_bipush (v := 8) hx hb dJ6_bitCount_0f7a4_36 (by decide) ?_
  refine lv_iushr hx hb dJ6_bitCount_0f7a4_38 rfl ?_
  refine lv_iadd hx hb dJ6_bitCount_0f7a4_39 ?_
  refine lv_topi (fun v4 ev4 => ?_)
  have h := nmh ev4 h
  refine lv_istore_n (lv' := [(0, .int v4)]) hx hb dJ6_bitCount_0f7a4_40 rfl hl (by decide) rfl (fun ls hl => ?_)
  refine lv_iload_n hx hb dJ6_bitCount_0f7a4_41 rfl (lv_at hl 0 rfl) ?_
  refine lv_iload_n hx hb dJ6_bitCount_0f7a4_42 rfl (lv_at hl 0 rfl) ?_
  refine lv_bipush (v := 16) hx hb dJ6_bitCount_0f7a4_43 (by decide) ?_
  refine lv_iushr hx hb dJ6_bitCount_0f7a4_45 rfl ?_
  refine lv_iadd hx hb dJ6_bitCount_0f7a4_46 ?_
  refine lv_topi (fun v5 ev5 => ?_)
  have h := nmh ev5 h
  refine lv_istore_n (lv' := [(0, .int v5)]) hx hb dJ6_bitCount_0f7a4_47 rfl hl (by decide) rfl (fun ls hl => ?_)
  refine lv_iload_n hx hb dJ6_bitCount_0f7a4_48 rfl (lv_at hl 0 rfl) ?_
  refine lv_bipush (v := 63) hx hb dJ6_bitCount_0f7a4_49 (by decide) ?_
  refine lv_iand hx hb dJ6_bitCount_0f7a4_51 ?_
  obtain rfl := Option.some.inj h
  rw [hQ]; exact ct_iret hx hb hr hlocks hP hS rfl dJ6_bitCount_0f7a4_52

def tw_X6_isCell (p1 : Int32) : Option (Int32) :=
  if p1 < 0 then (some (0)) else (if 25 ≤ p1 then (some (0)) else (some (1)))
set_option maxHeartbeats 4000000 in
set_option maxRecDepth 100000 in
theorem c_X6_isCell (l : Launch) (D : va_G) (cy : Cy) (p1 : Int32) (res : Int32) (h : tw_X6_isCell p1 = some res) : Ct l yX6_isCell wsX6_isCell 0 0 D cy [.int p1] ([]) ([]) (some (.int res)) := by
  refine Ct.ofW (cc := cX6_isCell) (maxL := 1) (ret := (some .boolean)) (by decide) rfl (Nat.le_of_ble_eq_true rfl) ?_
  intro p e R s m args below meth c A Q ls hRf hRl hQ hx hb hr hml hts hown hlocks hE hP hD hS hA hl
  have hl : lv_has ls 1 [(0, .int p1)] := hl
  rw [tw_X6_isCell] at h
  refine lv_iload_n hx hb dX6_isCell_0 rfl (lv_at hl 0 rfl) ?_
  refine lv_if_lt (tgt := 14) hx hb dX6_isCell_1 (by decide) (fun c1 => ?_) (fun c1 => ?_)
  · have h := oit h c1
    refine lv_iconst (v := 0) hx hb dX6_isCell_14 (by decide) ?_
    obtain rfl := Option.some.inj h
    rw [hQ]; exact ct_zret hx hb hr hlocks rfl hP hS rfl dX6_isCell_15
  · have h := oif h c1
    refine lv_iload_n hx hb dX6_isCell_4 rfl (lv_at hl 0 rfl) ?_
    refine lv_bipush (v := 25) hx hb dX6_isCell_5 (by decide) ?_
    refine lv_icmp_ge (tgt := 14) hx hb dX6_isCell_7 (by decide) (fun c2 => ?_) (fun c2 => ?_)
    · have h := oit h c2
      refine lv_iconst (v := 0) hx hb dX6_isCell_14 (by decide) ?_
      obtain rfl := Option.some.inj h
      rw [hQ]; exact ct_zret hx hb hr hlocks rfl hP hS rfl dX6_isCell_15
    · have h := oif h c2
      refine lv_iconst (v := 1) hx hb dX6_isCell_10 (by decide) ?_
      refine lv_goto (tgt := 15) hx hb dX6_isCell_11 (by decide) ?_
      obtain rfl := Option.some.inj h
      rw [hQ]; exact ct_zret hx hb hr hlocks rfl hP hS rfl dX6_isCell_15

def tw_X6_isWay (p1 : Int32) : Option (Int32) :=
  if p1 < 0 then (some (0)) else (if 4 ≤ p1 then (some (0)) else (some (1)))
set_option maxHeartbeats 4000000 in
set_option maxRecDepth 100000 in
theorem c_X6_isWay (l : Launch) (D : va_G) (cy : Cy) (p1 : Int32) (res : Int32) (h : tw_X6_isWay p1 = some res) : Ct l yX6_isWay wsX6_isWay 0 0 D cy [.int p1] ([]) ([]) (some (.int res)) := by
  refine Ct.ofW (cc := cX6_isWay) (maxL := 1) (ret := (some .boolean)) (by decide) rfl (Nat.le_of_ble_eq_true rfl) ?_
  intro p e R s m args below meth c A Q ls hRf hRl hQ hx hb hr hml hts hown hlocks hE hP hD hS hA hl
  have hl : lv_has ls 1 [(0, .int p1)] := hl
  rw [tw_X6_isWay] at h
  refine lv_iload_n hx hb dX6_isWay_0 rfl (lv_at hl 0 rfl) ?_
  refine lv_if_lt (tgt := 13) hx hb dX6_isWay_1 (by decide) (fun c1 => ?_) (fun c1 => ?_)
  · have h := oit h c1
    refine lv_iconst (v := 0) hx hb dX6_isWay_13 (by decide) ?_
    obtain rfl := Option.some.inj h
    rw [hQ]; exact ct_zret hx hb hr hlocks rfl hP hS rfl dX6_isWay_14
  · have h := oif h c1
    refine lv_iload_n hx hb dX6_isWay_4 rfl (lv_at hl 0 rfl) ?_
    refine lv_iconst (v := 4) hx hb dX6_isWay_5 (by decide) ?_
    refine lv_icmp_ge (tgt := 13) hx hb dX6_isWay_6 (by decide) (fun c2 => ?_) (fun c2 => ?_)
    · have h := oit h c2
      refine lv_iconst (v := 0) hx hb dX6_isWay_13 (by decide) ?_
      obtain rfl := Option.some.inj h
      rw [hQ]; exact ct_zret hx hb hr hlocks rfl hP hS rfl dX6_isWay_14
    · have h := oif h c2
      refine lv_iconst (v := 1) hx hb dX6_isWay_9 (by decide) ?_
      refine lv_goto (tgt := 14) hx hb dX6_isWay_10 (by decide) ?_
      obtain rfl := Option.some.inj h
      rw [hQ]; exact ct_zret hx hb hr hlocks rfl hP hS rfl dX6_isWay_14

def tw_X6_isSlot (p1 : Int32) : Option (Int32) :=
  if p1 < 0 then (some (0)) else (if 2 ≤ p1 then (some (0)) else (some (1)))
set_option maxHeartbeats 4000000 in
set_option maxRecDepth 100000 in
theorem c_X6_isSlot (l : Launch) (D : va_G) (cy : Cy) (p1 : Int32) (res : Int32) (h : tw_X6_isSlot p1 = some res) : Ct l yX6_isSlot wsX6_isSlot 0 0 D cy [.int p1] ([]) ([]) (some (.int res)) := by
  refine Ct.ofW (cc := cX6_isSlot) (maxL := 1) (ret := (some .boolean)) (by decide) rfl (Nat.le_of_ble_eq_true rfl) ?_
  intro p e R s m args below meth c A Q ls hRf hRl hQ hx hb hr hml hts hown hlocks hE hP hD hS hA hl
  have hl : lv_has ls 1 [(0, .int p1)] := hl
  rw [tw_X6_isSlot] at h
  refine lv_iload_n hx hb dX6_isSlot_0 rfl (lv_at hl 0 rfl) ?_
  refine lv_if_lt (tgt := 13) hx hb dX6_isSlot_1 (by decide) (fun c1 => ?_) (fun c1 => ?_)
  · have h := oit h c1
    refine lv_iconst (v := 0) hx hb dX6_isSlot_13 (by decide) ?_
    obtain rfl := Option.some.inj h
    rw [hQ]; exact ct_zret hx hb hr hlocks rfl hP hS rfl dX6_isSlot_14
  · have h := oif h c1
    refine lv_iload_n hx hb dX6_isSlot_4 rfl (lv_at hl 0 rfl) ?_
    refine lv_iconst (v := 2) hx hb dX6_isSlot_5 (by decide) ?_
    refine lv_icmp_ge (tgt := 13) hx hb dX6_isSlot_6 (by decide) (fun c2 => ?_) (fun c2 => ?_)
    · have h := oit h c2
      refine lv_iconst (v := 0) hx hb dX6_isSlot_13 (by decide) ?_
      obtain rfl := Option.some.inj h
      rw [hQ]; exact ct_zret hx hb hr hlocks rfl hP hS rfl dX6_isSlot_14
    · have h := oif h c2
      refine lv_iconst (v := 1) hx hb dX6_isSlot_9 (by decide) ?_
      refine lv_goto (tgt := 14) hx hb dX6_isSlot_10 (by decide) ?_
      obtain rfl := Option.some.inj h
      rw [hQ]; exact ct_zret hx hb hr hlocks rfl hP hS rfl dX6_isSlot_14

def tw_X6_bitOf (p1 : Int32) (p2 : Int32) : Option (Int32) :=
  some ((p1 >>> (p2 &&& 31)) &&& 1)
set_option maxHeartbeats 4000000 in
set_option maxRecDepth 100000 in
theorem c_X6_bitOf (l : Launch) (D : va_G) (cy : Cy) (p1 : Int32) (p2 : Int32) (res : Int32) (h : tw_X6_bitOf p1 p2 = some res) : Ct l yX6_bitOf wsX6_bitOf 0 0 D cy [.int p1, .int p2] ([]) ([]) (some (.int res)) := by
  refine Ct.ofW (cc := cX6_bitOf) (maxL := 2) (ret := (some .int)) (by decide) rfl (Nat.le_of_ble_eq_true rfl) ?_
  intro p e R s m args below meth c A Q ls hRf hRl hQ hx hb hr hml hts hown hlocks hE hP hD hS hA hl
  have hl : lv_has ls 2 [(0, .int p1), (1, .int p2)] := hl
  rw [tw_X6_bitOf] at h
  refine lv_iload_n hx hb dX6_bitOf_0 rfl (lv_at hl 0 rfl) ?_
  refine lv_iload_n hx hb dX6_bitOf_1 rfl (lv_at hl 1 rfl) ?_
  refine lv_ishr hx hb dX6_bitOf_2 ?_
  refine lv_iconst (v := 1) hx hb dX6_bitOf_3 (by decide) ?_
  refine lv_iand hx hb dX6_bitOf_4 ?_
  obtain rfl := Option.some.inj h
  rw [hQ]; exact ct_iret hx hb hr hlocks hP hS rfl dX6_bitOf_5

def tw_X6_nextCell (p1 : Int32) (p2 : Int32) : Option (Int32) :=
  if p2 = 0 then (if (p1 - p1 / 5 * 5) = 0 then (some ((-1))) else (some (p1 - 1))) else (if p2 = 1 then (if (p1 - p1 / 5 * 5) = 4 then (some ((-1))) else (some (p1 + 1))) else (if p2 = 2 then (if 5 ≤ p1 then (some (p1 - 5)) else (some ((-1)))) else (if p2 = 3 then (if p1 < 20 then (some (p1 + 5)) else (some ((-1)))) else (some ((-1))))))
set_option maxHeartbeats 4000000 in
set_option maxRecDepth 100000 in
theorem c_X6_nextCell (l : Launch) (D : va_G) (cy : Cy) (p1 : Int32) (p2 : Int32) (res : Int32) (h : tw_X6_nextCell p1 p2 = some res) : Ct l yX6_nextCell wsX6_nextCell 0 0 D cy [.int p1, .int p2] ([]) ([]) (some (.int res)) := by
  refine Ct.ofW (cc := cX6_nextCell) (maxL := 2) (ret := (some .int)) (by decide) rfl (Nat.le_of_ble_eq_true rfl) ?_
  intro p e R s m args below meth c A Q ls hRf hRl hQ hx hb hr hml hts hown hlocks hE hP hD hS hA hl
  have hl : lv_has ls 2 [(0, .int p1), (1, .int p2)] := hl
  rw [tw_X6_nextCell] at h
  refine lv_iload_n hx hb dX6_nextCell_0 rfl (lv_at hl 1 rfl) ?_
  by_cases c2 : p2 = 0
  · have h := oit h c2
    refine lv_tableIn (off := 31) (tgt := 32) hx hb dX6_nextCell_1 (by rw [c2]; decide) (by rw [c2]; decide) (by rw [c2]; decide) (by decide) ?_
    refine lv_iload_n hx hb dX6_nextCell_32 rfl (lv_at hl 0 rfl) ?_
    refine lv_iconst (v := 5) hx hb dX6_nextCell_33 (by decide) ?_
    refine lv_irem hx hb dX6_nextCell_34 (by decide) ?_
    refine lv_if_ne (tgt := 42) hx hb dX6_nextCell_35 (by decide) (fun c1 => ?_) (fun c1 => ?_)
    · have h := oif h c1
      refine lv_iload_n hx hb dX6_nextCell_42 rfl (lv_at hl 0 rfl) ?_
      refine lv_iconst (v := 1) hx hb dX6_nextCell_43 (by decide) ?_
      refine lv_isub hx hb dX6_nextCell_44 ?_
      obtain rfl := Option.some.inj h
      rw [hQ]; exact ct_iret hx hb hr hlocks hP hS rfl dX6_nextCell_45
    · have h := oit h c1
      refine lv_iconst (v := (-1)) hx hb dX6_nextCell_38 (by decide) ?_
      refine lv_goto (tgt := 45) hx hb dX6_nextCell_39 (by decide) ?_
      obtain rfl := Option.some.inj h
      rw [hQ]; exact ct_iret hx hb hr hlocks hP hS rfl dX6_nextCell_45
  have h := oif h c2
  by_cases c4 : p2 = 1
  · have h := oit h c4
    refine lv_tableIn (off := 45) (tgt := 46) hx hb dX6_nextCell_1 (by rw [c4]; decide) (by rw [c4]; decide) (by rw [c4]; decide) (by decide) ?_
    refine lv_iload_n hx hb dX6_nextCell_46 rfl (lv_at hl 0 rfl) ?_
    refine lv_iconst (v := 5) hx hb dX6_nextCell_47 (by decide) ?_
    refine lv_irem hx hb dX6_nextCell_48 (by decide) ?_
    refine lv_iconst (v := 4) hx hb dX6_nextCell_49 (by decide) ?_
    refine lv_icmp_ne (tgt := 57) hx hb dX6_nextCell_50 (by decide) (fun c3 => ?_) (fun c3 => ?_)
    · have h := oif h c3
      refine lv_iload_n hx hb dX6_nextCell_57 rfl (lv_at hl 0 rfl) ?_
      refine lv_iconst (v := 1) hx hb dX6_nextCell_58 (by decide) ?_
      refine lv_iadd hx hb dX6_nextCell_59 ?_
      obtain rfl := Option.some.inj h
      rw [hQ]; exact ct_iret hx hb hr hlocks hP hS rfl dX6_nextCell_60
    · have h := oit h c3
      refine lv_iconst (v := (-1)) hx hb dX6_nextCell_53 (by decide) ?_
      refine lv_goto (tgt := 60) hx hb dX6_nextCell_54 (by decide) ?_
      obtain rfl := Option.some.inj h
      rw [hQ]; exact ct_iret hx hb hr hlocks hP hS rfl dX6_nextCell_60
  have h := oif h c4
  by_cases c6 : p2 = 2
  · have h := oit h c6
    refine lv_tableIn (off := 60) (tgt := 61) hx hb dX6_nextCell_1 (by rw [c6]; decide) (by rw [c6]; decide) (by rw [c6]; decide) (by decide) ?_
    refine lv_iload_n hx hb dX6_nextCell_61 rfl (lv_at hl 0 rfl) ?_
    refine lv_iconst (v := 5) hx hb dX6_nextCell_62 (by decide) ?_
    refine lv_icmp_ge (tgt := 70) hx hb dX6_nextCell_63 (by decide) (fun c5 => ?_) (fun c5 => ?_)
    · have h := oit h c5
      refine lv_iload_n hx hb dX6_nextCell_70 rfl (lv_at hl 0 rfl) ?_
      refine lv_iconst (v := 5) hx hb dX6_nextCell_71 (by decide) ?_
      refine lv_isub hx hb dX6_nextCell_72 ?_
      obtain rfl := Option.some.inj h
      rw [hQ]; exact ct_iret hx hb hr hlocks hP hS rfl dX6_nextCell_73
    · have h := oif h c5
      refine lv_iconst (v := (-1)) hx hb dX6_nextCell_66 (by decide) ?_
      refine lv_goto (tgt := 73) hx hb dX6_nextCell_67 (by decide) ?_
      obtain rfl := Option.some.inj h
      rw [hQ]; exact ct_iret hx hb hr hlocks hP hS rfl dX6_nextCell_73
  have h := oif h c6
  by_cases c8 : p2 = 3
  · have h := oit h c8
    refine lv_tableIn (off := 73) (tgt := 74) hx hb dX6_nextCell_1 (by rw [c8]; decide) (by rw [c8]; decide) (by rw [c8]; decide) (by decide) ?_
    refine lv_iload_n hx hb dX6_nextCell_74 rfl (lv_at hl 0 rfl) ?_
    refine lv_bipush (v := 20) hx hb dX6_nextCell_75 (by decide) ?_
    refine lv_icmp_lt (tgt := 84) hx hb dX6_nextCell_77 (by decide) (fun c7 => ?_) (fun c7 => ?_)
    · have h := oit h c7
      refine lv_iload_n hx hb dX6_nextCell_84 rfl (lv_at hl 0 rfl) ?_
      refine lv_iconst (v := 5) hx hb dX6_nextCell_85 (by decide) ?_
      refine lv_iadd hx hb dX6_nextCell_86 ?_
      obtain rfl := Option.some.inj h
      rw [hQ]; exact ct_iret hx hb hr hlocks hP hS rfl dX6_nextCell_87
    · have h := oif h c7
      refine lv_iconst (v := (-1)) hx hb dX6_nextCell_80 (by decide) ?_
      refine lv_goto (tgt := 87) hx hb dX6_nextCell_81 (by decide) ?_
      obtain rfl := Option.some.inj h
      rw [hQ]; exact ct_iret hx hb hr hlocks hP hS rfl dX6_nextCell_87
  have h := oif h c8
  refine lv_tableOut (tgt := 88) hx hb dX6_nextCell_1 (sw_out 3 (by decide) (fun k hk => by rcases (show k = 0 ∨ k = 1 ∨ k = 2 ∨ k = 3 by omega) with rfl | rfl | rfl | rfl <;> assumption)) (by decide) ?_
  refine lv_iconst (v := (-1)) hx hb dX6_nextCell_88 (by decide) ?_
  obtain rfl := Option.some.inj h
  rw [hQ]; exact ct_iret hx hb hr hlocks hP hS rfl dX6_nextCell_89

def tw_X6_partTold (p1 : Int32) : Option (Int32) :=
  if p1 = 70 then (some (3)) else (if p1 = 77 then (some (0)) else (if p1 = 78 then (some (4)) else (if p1 = 79 then (some (2)) else (if p1 = 87 then (some (1)) else (some ((-9)))))))
set_option maxHeartbeats 4000000 in
set_option maxRecDepth 100000 in
theorem c_X6_partTold (l : Launch) (D : va_G) (cy : Cy) (p1 : Int32) (res : Int32) (h : tw_X6_partTold p1 = some res) : Ct l yX6_partTold wsX6_partTold 0 0 D cy [.int p1] ([]) ([]) (some (.int res)) := by
  refine Ct.ofW (cc := cX6_partTold) (maxL := 1) (ret := (some .int)) (by decide) rfl (Nat.le_of_ble_eq_true rfl) ?_
  intro p e R s m args below meth c A Q ls hRf hRl hQ hx hb hr hml hts hown hlocks hE hP hD hS hA hl
  have hl : lv_has ls 1 [(0, .int p1)] := hl
  rw [tw_X6_partTold] at h
  refine lv_iload_n hx hb dX6_partTold_0 rfl (lv_at hl 0 rfl) ?_
  by_cases c1 : p1 = 70
  · have h := oit h c1
    refine lv_lookup (off := 57) (tgt := 58) hx hb dX6_partTold_1 (by decide) (by rw [c1]; decide) (by decide) ?_
    refine lv_iconst (v := 3) hx hb dX6_partTold_58 (by decide) ?_
    obtain rfl := Option.some.inj h
    rw [hQ]; exact ct_iret hx hb hr hlocks hP hS rfl dX6_partTold_59
  have h := oif h c1
  by_cases c2 : p1 = 77
  · have h := oit h c2
    refine lv_lookup (off := 51) (tgt := 52) hx hb dX6_partTold_1 (by decide) (by rw [c2]; decide) (by decide) ?_
    refine lv_iconst (v := 0) hx hb dX6_partTold_52 (by decide) ?_
    obtain rfl := Option.some.inj h
    rw [hQ]; exact ct_iret hx hb hr hlocks hP hS rfl dX6_partTold_53
  have h := oif h c2
  by_cases c3 : p1 = 78
  · have h := oit h c3
    refine lv_lookup (off := 59) (tgt := 60) hx hb dX6_partTold_1 (by decide) (by rw [c3]; decide) (by decide) ?_
    refine lv_iconst (v := 4) hx hb dX6_partTold_60 (by decide) ?_
    obtain rfl := Option.some.inj h
    rw [hQ]; exact ct_iret hx hb hr hlocks hP hS rfl dX6_partTold_61
  have h := oif h c3
  by_cases c4 : p1 = 79
  · have h := oit h c4
    refine lv_lookup (off := 55) (tgt := 56) hx hb dX6_partTold_1 (by decide) (by rw [c4]; decide) (by decide) ?_
    refine lv_iconst (v := 2) hx hb dX6_partTold_56 (by decide) ?_
    obtain rfl := Option.some.inj h
    rw [hQ]; exact ct_iret hx hb hr hlocks hP hS rfl dX6_partTold_57
  have h := oif h c4
  by_cases c5 : p1 = 87
  · have h := oit h c5
    refine lv_lookup (off := 53) (tgt := 54) hx hb dX6_partTold_1 (by decide) (by rw [c5]; decide) (by decide) ?_
    refine lv_iconst (v := 1) hx hb dX6_partTold_54 (by decide) ?_
    obtain rfl := Option.some.inj h
    rw [hQ]; exact ct_iret hx hb hr hlocks hP hS rfl dX6_partTold_55
  have h := oif h c5
  refine lv_lookup (off := 61) (tgt := 62) hx hb dX6_partTold_1 (by decide) (by simp [Op.lookupswitch.offset, ne_int 70 c1 (by decide), ne_int 77 c2 (by decide), ne_int 78 c3 (by decide), ne_int 79 c4 (by decide), ne_int 87 c5 (by decide)]) (by decide) ?_
  refine lv_bipush (v := (-9)) hx hb dX6_partTold_62 (by decide) ?_
  obtain rfl := Option.some.inj h
  rw [hQ]; exact ct_iret hx hb hr hlocks hP hS rfl dX6_partTold_64

def tw_X6_weightOf_5 (p1 : Int32) (p2 : Int32) (p3 : Int32) : Nat → Int32 → Int32 → Option (Int32)
  | 0, _, _ => none
  | n + 1, x3, x4 =>
    if p1 ≤ x4 then (some (x3)) else ((tw_X6_bitOf p2 x4).bind (fun q2 => if q2 = 1 then ((tw_X6_weightOf_5 p1 p2 p3 n) (x3 * p3) (x4 + 1)) else ((tw_X6_weightOf_5 p1 p2 p3 n) (x3 * (10 - p3)) (x4 + 1))))
def tw_X6_weightOf (p1 : Int32) (p2 : Int32) (p3 : Int32) : Option (Int32) :=
  tw_X6_weightOf_5 p1 p2 p3 6 1 0
set_option maxHeartbeats 4000000 in
set_option maxRecDepth 100000 in
theorem c_X6_weightOf (l : Launch) (D : va_G) (cy : Cy) (p1 : Int32) (p2 : Int32) (p3 : Int32) (res : Int32) (h : tw_X6_weightOf p1 p2 p3 = some res) : Ct l yX6_weightOf wsX6_weightOf 1 21 D cy [.int p1, .int p2, .int p3] ([]) ([]) (some (.int res)) := by
  refine Ct.ofW (cc := cX6_weightOf) (maxL := 5) (ret := (some .int)) (by decide) rfl (Nat.le_of_ble_eq_true rfl) ?_
  intro p e R s m args below meth c A Q ls hRf hRl hQ hx hb hr hml hts hown hlocks hE hP hD hS hA hl
  have hl : lv_has ls 5 [(0, .int p1), (1, .int p2), (2, .int p3)] := hl
  rw [tw_X6_weightOf] at h
  have L5 : ∀ (n : Nat) (x3 : Int32) (x4 : Int32)  (H : Heap) (locs : List Loc) (ls : Array Slot), lv_has ls 5 [(0, .int p1), (1, .int p2), (2, .int p3), (3, .int x3), (4, .int x4)] → va_P D vwCl ([]) H → va_D A ([]) → va_S A s.heap H locs → tw_X6_weightOf_5 p1 p2 p3 n x3 x4 = some res → W p l e R s m args below meth c H locs 0 0 Q (F0 m 5 ls []) := by
    intro n5
    induction n5 with
    | zero =>
      intro x3 x4  H locs ls hl hP hD hS h
      exact absurd h (by rw [tw_X6_weightOf_5]; exact fun q => by cases q)
    | succ n5 ih5 =>
      intro x3 x4  H locs ls hl hP hD hS h
      rw [tw_X6_weightOf_5] at h
      refine lv_iload hx hb dX6_weightOf_5 (lv_at hl 4 rfl) ?_
      refine lv_iload_n hx hb dX6_weightOf_7 rfl (lv_at hl 0 rfl) ?_
      refine lv_icmp_ge (tgt := 38) hx hb dX6_weightOf_8 (by decide) (fun c1 => ?_) (fun c1 => ?_)
      · have h := oit h c1
        refine lv_iload_n hx hb dX6_weightOf_38 rfl (lv_at hl 3 rfl) ?_
        obtain rfl := Option.some.inj h
        rw [hQ]; exact ct_iret hx hb hr hlocks hP hS rfl dX6_weightOf_39
      · have h := oif h c1
        refine lv_iload_n hx hb dX6_weightOf_11 rfl (lv_at hl 3 rfl) ?_
        refine lv_iload_n hx hb dX6_weightOf_12 rfl (lv_at hl 1 rfl) ?_
        refine lv_iload hx hb dX6_weightOf_13 (lv_at hl 4 rfl) ?_
        obtain ⟨q2, hq2, h⟩ := ob h
        refine kS (As := [.int p2, .int x4]) (rest := [.int x3]) (w2 := []) (n := 2) ⟨hx, hb, hml, hown, hts⟩ (c_X6_bitOf l D cy p2 x4 q2 hq2) gX6_weightOf_X6_bitOf rfl (by decide +kernel) ⟨by rw [hRf]; exact Nat.le_of_ble_eq_true rfl, by rw [hRl]; exact Nat.le_of_ble_eq_true rfl⟩ hE hP hD hS hA [] rfl rfl rfl rfl rfl hl.1 rfl (Nat.le_of_ble_eq_true rfl) dX6_weightOf_15 ⟨Nat.zero_le _, Nat.zero_le _⟩ (fun H locs hP hD hS => ?_)
        refine lv_iconst (v := 1) hx hb dX6_weightOf_18 (by decide) ?_
        refine lv_icmp_ne (tgt := 26) hx hb dX6_weightOf_19 (by decide) (fun c3 => ?_) (fun c3 => ?_)
        · have h := oif h c3
          refine lv_bipush (v := 10) hx hb dX6_weightOf_26 (by decide) ?_
          refine lv_iload_n hx hb dX6_weightOf_28 rfl (lv_at hl 2 rfl) ?_
          refine lv_isub hx hb dX6_weightOf_29 ?_
          refine lv_imul hx hb dX6_weightOf_30 ?_
          refine lv_istore_n (lv' := [(3, .int (x3 * (10 - p3))), (0, .int p1), (1, .int p2), (2, .int p3), (4, .int x4)]) hx hb dX6_weightOf_31 rfl hl (by decide) rfl (fun ls hl => ?_)
          refine lv_iinc (v := x4 + 1) (lv' := [(4, .int (x4 + 1)), (3, .int (x3 * (10 - p3))), (0, .int p1), (1, .int p2), (2, .int p3)]) hx hb dX6_weightOf_32 hl (k := 4) rfl rfl (by decide) rfl (fun ls hl => ?_)
          refine lv_goto (tgt := 5) hx hb dX6_weightOf_35 (by decide) ?_
          exact ih5 (x3 * (10 - p3)) (x4 + 1) _ _ _ (lv_sub hl [2, 3, 4, 1, 0] rfl) hP hD hS h
        · have h := oit h c3
          refine lv_iload_n hx hb dX6_weightOf_22 rfl (lv_at hl 2 rfl) ?_
          refine lv_goto (tgt := 30) hx hb dX6_weightOf_23 (by decide) ?_
          refine lv_imul hx hb dX6_weightOf_30 ?_
          refine lv_istore_n (lv' := [(3, .int (x3 * p3)), (0, .int p1), (1, .int p2), (2, .int p3), (4, .int x4)]) hx hb dX6_weightOf_31 rfl hl (by decide) rfl (fun ls hl => ?_)
          refine lv_iinc (v := x4 + 1) (lv' := [(4, .int (x4 + 1)), (3, .int (x3 * p3)), (0, .int p1), (1, .int p2), (2, .int p3)]) hx hb dX6_weightOf_32 hl (k := 4) rfl rfl (by decide) rfl (fun ls hl => ?_)
          refine lv_goto (tgt := 5) hx hb dX6_weightOf_35 (by decide) ?_
          exact ih5 (x3 * p3) (x4 + 1) _ _ _ (lv_sub hl [2, 3, 4, 1, 0] rfl) hP hD hS h
  refine lv_iconst (v := 1) hx hb dX6_weightOf_0 (by decide) ?_
  refine lv_istore_n (lv' := [(3, .int 1), (0, .int p1), (1, .int p2), (2, .int p3)]) hx hb dX6_weightOf_1 rfl hl (by decide) rfl (fun ls hl => ?_)
  refine lv_iconst (v := 0) hx hb dX6_weightOf_2 (by decide) ?_
  refine lv_istore (lv' := [(4, .int 0), (3, .int 1), (0, .int p1), (1, .int p2), (2, .int p3)]) hx hb dX6_weightOf_3 hl (by decide) rfl (fun ls hl => ?_)
  exact L5 6 1 0 _ _ _ (lv_sub hl [2, 3, 4, 1, 0] rfl) hP hD hS h

def tw_X6_isRow_17 (p1 : Int32) (p2 : Int32) : Nat → Int32 → Option (Int32)
  | 0, _ => none
  | n + 1, x2 =>
    if p1 ≤ x2 then (some (1)) else (if ix x2 5 = true then (if ¬ (tPow x2.toNatClampNeg) = 0 then ((tw_X6_isWay (((p2 / (tPow x2.toNatClampNeg)) - (p2 / (tPow x2.toNatClampNeg)) / 10 * 10) - 1)).bind (fun q4 => if q4 = 0 then (some (0)) else ((tw_X6_isRow_17 p1 p2 n) (x2 + 1)))) else none) else none)
def tw_X6_isRow (p1 : Int32) (p2 : Int32) : Option (Int32) :=
  if p2 < 0 then (some (0)) else (if ix p1 5 = true then (if p2 < (tPow p1.toNatClampNeg) then (tw_X6_isRow_17 p1 p2 6 0) else (some (0))) else none)
set_option maxHeartbeats 4000000 in
set_option maxRecDepth 100000 in
theorem c_X6_isRow (l : Launch) (D : va_G) (cy : Cy) (p1 : Int32) (p2 : Int32) (res : Int32) (h : tw_X6_isRow p1 p2 = some res) : Ct l yX6_isRow wsX6_isRow 1 20 D cy [.int p1, .int p2] ([]) ([]) (some (.int res)) := by
  refine Ct.ofW (cc := cX6_isRow) (maxL := 3) (ret := (some .boolean)) (by decide) rfl (Nat.le_of_ble_eq_true rfl) ?_
  intro p e R s m args below meth c A Q ls hRf hRl hQ hx hb hr hml hts hown hlocks hE hP hD hS hA hl
  have hl : lv_has ls 3 [(0, .int p1), (1, .int p2)] := hl
  rw [tw_X6_isRow] at h
  have L17 : ∀ (n : Nat) (x2 : Int32)  (H : Heap) (locs : List Loc) (ls : Array Slot), lv_has ls 3 [(0, .int p1), (1, .int p2), (2, .int x2)] → va_P D vwCl ([]) H → va_D A ([]) → va_S A s.heap H locs → tw_X6_isRow_17 p1 p2 n x2 = some res → W p l e R s m args below meth c H locs 0 0 Q (F0 m 17 ls []) := by
    intro n17
    induction n17 with
    | zero =>
      intro x2  H locs ls hl hP hD hS h
      exact absurd h (by rw [tw_X6_isRow_17]; exact fun q => by cases q)
    | succ n17 ih17 =>
      intro x2  H locs ls hl hP hD hS h
      rw [tw_X6_isRow_17] at h
      refine lv_iload_n hx hb dX6_isRow_17 rfl (lv_at hl 2 rfl) ?_
      refine lv_iload_n hx hb dX6_isRow_18 rfl (lv_at hl 0 rfl) ?_
      refine lv_icmp_ge (tgt := 48) hx hb dX6_isRow_19 (by decide) (fun c1 => ?_) (fun c1 => ?_)
      · have h := oit h c1
        refine lv_iconst (v := 1) hx hb dX6_isRow_48 (by decide) ?_
        obtain rfl := Option.some.inj h
        rw [hQ]; exact ct_zret hx hb hr hlocks rfl hP hS rfl dX6_isRow_49
      · have h := oif h c1
        refine lv_iload_n hx hb dX6_isRow_22 rfl (lv_at hl 1 rfl) ?_
        refine va_gets hx hb hE.2.2.2.2.1 hS hown (hts (.fieldLink RX6 250 "TiltTray" "POWERS" "[I") (by decide +kernel)) (fun _ h9 => h9) dX6_isRow_23 ?_
        refine lv_iload_n hx hb dX6_isRow_26 rfl (lv_at hl 2 rfl) ?_
        obtain ⟨g2, h⟩ := og h
        refine va_ti hx hb hE.2.2.2.2.2 hS (ix_in g2) rfl dX6_isRow_27 ?_
        obtain ⟨g3, h⟩ := og h
        refine lv_idiv hx hb dX6_isRow_28 g3 ?_
        refine lv_bipush (v := 10) hx hb dX6_isRow_29 (by decide) ?_
        refine lv_irem hx hb dX6_isRow_31 (by decide) ?_
        refine lv_iconst (v := 1) hx hb dX6_isRow_32 (by decide) ?_
        refine lv_isub hx hb dX6_isRow_33 ?_
        obtain ⟨q4, hq4, h⟩ := ob h
        refine kS (As := [.int (((p2 / (tPow x2.toNatClampNeg)) - (p2 / (tPow x2.toNatClampNeg)) / 10 * 10) - 1)]) (rest := []) (w2 := []) (n := 1) ⟨hx, hb, hml, hown, hts⟩ (c_X6_isWay l D cy (((p2 / (tPow x2.toNatClampNeg)) - (p2 / (tPow x2.toNatClampNeg)) / 10 * 10) - 1) q4 hq4) gX6_isRow_X6_isWay rfl (by decide +kernel) ⟨by rw [hRf]; exact Nat.le_of_ble_eq_true rfl, by rw [hRl]; exact Nat.le_of_ble_eq_true rfl⟩ hE hP hD hS hA [] rfl rfl rfl rfl rfl hl.1 rfl (Nat.le_of_ble_eq_true rfl) dX6_isRow_34 ⟨Nat.zero_le _, Nat.zero_le _⟩ (fun H locs hP hD hS => ?_)
        refine lv_if_ne (tgt := 42) hx hb dX6_isRow_37 (by decide) (fun c5 => ?_) (fun c5 => ?_)
        · have h := oif h c5
          refine lv_iinc (v := x2 + 1) (lv' := [(2, .int (x2 + 1)), (0, .int p1), (1, .int p2)]) hx hb dX6_isRow_42 hl (k := 2) rfl rfl (by decide) rfl (fun ls hl => ?_)
          refine lv_goto (tgt := 17) hx hb dX6_isRow_45 (by decide) ?_
          exact ih17 (x2 + 1) _ _ _ (lv_sub hl [1, 2, 0] rfl) hP hD hS h
        · have h := oit h c5
          refine lv_iconst (v := 0) hx hb dX6_isRow_40 (by decide) ?_
          obtain rfl := Option.some.inj h
          rw [hQ]; exact ct_zret hx hb hr hlocks rfl hP hS rfl dX6_isRow_41
  refine lv_iload_n hx hb dX6_isRow_0 rfl (lv_at hl 1 rfl) ?_
  refine lv_if_lt (tgt := 13) hx hb dX6_isRow_1 (by decide) (fun c6 => ?_) (fun c6 => ?_)
  · have h := oit h c6
    refine lv_iconst (v := 0) hx hb dX6_isRow_13 (by decide) ?_
    obtain rfl := Option.some.inj h
    rw [hQ]; exact ct_zret hx hb hr hlocks rfl hP hS rfl dX6_isRow_14
  · have h := oif h c6
    refine lv_iload_n hx hb dX6_isRow_4 rfl (lv_at hl 1 rfl) ?_
    refine va_gets hx hb hE.2.2.2.2.1 hS hown (hts (.fieldLink RX6 250 "TiltTray" "POWERS" "[I") (by decide +kernel)) (fun _ h9 => h9) dX6_isRow_5 ?_
    refine lv_iload_n hx hb dX6_isRow_8 rfl (lv_at hl 0 rfl) ?_
    obtain ⟨g7, h⟩ := og h
    refine va_ti hx hb hE.2.2.2.2.2 hS (ix_in g7) rfl dX6_isRow_9 ?_
    refine lv_icmp_lt (tgt := 15) hx hb dX6_isRow_10 (by decide) (fun c8 => ?_) (fun c8 => ?_)
    · have h := oit h c8
      refine lv_iconst (v := 0) hx hb dX6_isRow_15 (by decide) ?_
      refine lv_istore_n (lv' := [(2, .int 0), (0, .int p1), (1, .int p2)]) hx hb dX6_isRow_16 rfl hl (by decide) rfl (fun ls hl => ?_)
      exact L17 6 0 _ _ _ (lv_sub hl [1, 2, 0] rfl) hP hD hS h
    · have h := oif h c8
      refine lv_iconst (v := 0) hx hb dX6_isRow_13 (by decide) ?_
      obtain rfl := Option.some.inj h
      rw [hQ]; exact ct_zret hx hb hr hlocks rfl hP hS rfl dX6_isRow_14

def tw_X6_tellFraction_42 (p1 : Int32) (p2 : Int32) (p3 : Int32) (x3 : Int32) : Option (Int32) :=
  if x3 = 0 then (some (0)) else (if p3 = 0 then (if ¬ x3 = 0 then (some (p2 / x3)) else none) else (if ¬ x3 = 0 then (some (p1 / x3)) else none))
def tw_X6_tellFraction_11 (p1 : Int32) (p2 : Int32) (p3 : Int32) : Nat → Int32 → Int32 → Int32 → Option (Int32)
  | 0, _, _, _ => none
  | n + 1, x3, x4, x5 =>
    if 64 ≤ x5 then (tw_X6_tellFraction_42 p1 p2 p3 x3) else (if x4 = 0 then (tw_X6_tellFraction_42 p1 p2 p3 x3) else (if ¬ x4 = 0 then ((tw_X6_tellFraction_11 p1 p2 p3 n) x4 (x3 - x3 / x4 * x4) (x5 + 1)) else none))
def tw_X6_tellFraction (p1 : Int32) (p2 : Int32) (p3 : Int32) : Option (Int32) :=
  tw_X6_tellFraction_11 p1 p2 p3 66 p2 (if 0 ≤ p1 then p1 else 0 - p1) 0
set_option maxHeartbeats 4000000 in
set_option maxRecDepth 100000 in
theorem c_X6_tellFraction (l : Launch) (D : va_G) (cy : Cy) (p1 : Int32) (p2 : Int32) (p3 : Int32) (res : Int32) (h : tw_X6_tellFraction p1 p2 p3 = some res) : Ct l yX6_tellFraction wsX6_tellFraction 1 21 D cy [.int p1, .int p2, .int p3] ([]) ([]) (some (.int res)) := by
  refine Ct.ofW (cc := cX6_tellFraction) (maxL := 7) (ret := (some .int)) (by decide) rfl (Nat.le_of_ble_eq_true rfl) ?_
  intro p e R s m args below meth c A Q ls hRf hRl hQ hx hb hr hml hts hown hlocks hE hP hD hS hA hl
  have hl : lv_has ls 7 [(0, .int p1), (1, .int p2), (2, .int p3)] := hl
  rw [tw_X6_tellFraction] at h
  have L42 : ∀ (x3 : Int32)  (H : Heap) (locs : List Loc) (ls : Array Slot), lv_has ls 7 [(0, .int p1), (1, .int p2), (2, .int p3), (3, .int x3)] → va_P D vwCl ([]) H → va_D A ([]) → va_S A s.heap H locs → tw_X6_tellFraction_42 p1 p2 p3 x3 = some res → W p l e R s m args below meth c H locs 0 0 Q (F0 m 42 ls []) := by
    intro x3  H locs ls hl hP hD hS h
    rw [tw_X6_tellFraction_42] at h
    refine lv_iload_n hx hb dX6_tellFraction_42 rfl (lv_at hl 3 rfl) ?_
    refine lv_if_ne (tgt := 48) hx hb dX6_tellFraction_43 (by decide) (fun c1 => ?_) (fun c1 => ?_)
    · have h := oif h c1
      refine lv_iload_n hx hb dX6_tellFraction_48 rfl (lv_at hl 2 rfl) ?_
      refine lv_if_eq (tgt := 56) hx hb dX6_tellFraction_49 (by decide) (fun c2 => ?_) (fun c2 => ?_)
      · have h := oit h c2
        refine lv_iload_n hx hb dX6_tellFraction_56 rfl (lv_at hl 1 rfl) ?_
        refine lv_iload_n hx hb dX6_tellFraction_57 rfl (lv_at hl 3 rfl) ?_
        obtain ⟨g3, h⟩ := og h
        refine lv_idiv hx hb dX6_tellFraction_58 g3 ?_
        obtain rfl := Option.some.inj h
        rw [hQ]; exact ct_iret hx hb hr hlocks hP hS rfl dX6_tellFraction_59
      · have h := oif h c2
        refine lv_iload_n hx hb dX6_tellFraction_52 rfl (lv_at hl 0 rfl) ?_
        refine lv_goto (tgt := 57) hx hb dX6_tellFraction_53 (by decide) ?_
        refine lv_iload_n hx hb dX6_tellFraction_57 rfl (lv_at hl 3 rfl) ?_
        obtain ⟨g4, h⟩ := og h
        refine lv_idiv hx hb dX6_tellFraction_58 g4 ?_
        obtain rfl := Option.some.inj h
        rw [hQ]; exact ct_iret hx hb hr hlocks hP hS rfl dX6_tellFraction_59
    · have h := oit h c1
      refine lv_iconst (v := 0) hx hb dX6_tellFraction_46 (by decide) ?_
      obtain rfl := Option.some.inj h
      rw [hQ]; exact ct_iret hx hb hr hlocks hP hS rfl dX6_tellFraction_47
  have L11 : ∀ (n : Nat) (x3 : Int32) (x4 : Int32) (x5 : Int32)  (H : Heap) (locs : List Loc) (ls : Array Slot), lv_has ls 7 [(0, .int p1), (1, .int p2), (2, .int p3), (3, .int x3), (4, .int x4), (5, .int x5)] → va_P D vwCl ([]) H → va_D A ([]) → va_S A s.heap H locs → tw_X6_tellFraction_11 p1 p2 p3 n x3 x4 x5 = some res → W p l e R s m args below meth c H locs 0 0 Q (F0 m 11 ls []) := by
    intro n11
    induction n11 with
    | zero =>
      intro x3 x4 x5  H locs ls hl hP hD hS h
      exact absurd h (by rw [tw_X6_tellFraction_11]; exact fun q => by cases q)
    | succ n11 ih11 =>
      intro x3 x4 x5  H locs ls hl hP hD hS h
      rw [tw_X6_tellFraction_11] at h
      refine lv_iload hx hb dX6_tellFraction_11 (lv_at hl 5 rfl) ?_
      refine lv_bipush (v := 64) hx hb dX6_tellFraction_13 (by decide) ?_
      refine lv_icmp_ge (tgt := 42) hx hb dX6_tellFraction_15 (by decide) (fun c5 => ?_) (fun c5 => ?_)
      · have h := oit h c5
        exact L42 x3 _ _ _ (lv_sub hl [0, 1, 2, 3] rfl) hP hD hS h
      · have h := oif h c5
        refine lv_iload hx hb dX6_tellFraction_18 (lv_at hl 4 rfl) ?_
        refine lv_if_eq (tgt := 42) hx hb dX6_tellFraction_20 (by decide) (fun c6 => ?_) (fun c6 => ?_)
        · have h := oit h c6
          exact L42 x3 _ _ _ (lv_sub hl [0, 1, 2, 3] rfl) hP hD hS h
        · have h := oif h c6
          refine lv_iload_n hx hb dX6_tellFraction_23 rfl (lv_at hl 3 rfl) ?_
          refine lv_iload hx hb dX6_tellFraction_24 (lv_at hl 4 rfl) ?_
          obtain ⟨g7, h⟩ := og h
          refine lv_irem hx hb dX6_tellFraction_26 g7 ?_
          refine lv_istore (lv' := [(6, .int (x3 - x3 / x4 * x4)), (0, .int p1), (1, .int p2), (2, .int p3), (3, .int x3), (4, .int x4), (5, .int x5)]) hx hb dX6_tellFraction_27 hl (by decide) rfl (fun ls hl => ?_)
          refine lv_iload hx hb dX6_tellFraction_29 (lv_at hl 5 rfl) ?_
          refine lv_istore_n (lv' := [(3, .int x4), (6, .int (x3 - x3 / x4 * x4)), (0, .int p1), (1, .int p2), (2, .int p3), (4, .int x4), (5, .int x5)]) hx hb dX6_tellFraction_31 rfl hl (by decide) rfl (fun ls hl => ?_)
          refine lv_iload hx hb dX6_tellFraction_32 (lv_at hl 1 rfl) ?_
          refine lv_istore (lv' := [(4, .int (x3 - x3 / x4 * x4)), (3, .int x4), (6, .int (x3 - x3 / x4 * x4)), (0, .int p1), (1, .int p2), (2, .int p3), (5, .int x5)]) hx hb dX6_tellFraction_34 hl (by decide) rfl (fun ls hl => ?_)
          refine lv_iinc (v := x5 + 1) (lv' := [(5, .int (x5 + 1)), (4, .int (x3 - x3 / x4 * x4)), (3, .int x4), (6, .int (x3 - x3 / x4 * x4)), (0, .int p1), (1, .int p2), (2, .int p3)]) hx hb dX6_tellFraction_36 hl (k := 6) rfl rfl (by decide) rfl (fun ls hl => ?_)
          refine lv_goto (tgt := 11) hx hb dX6_tellFraction_39 (by decide) ?_
          exact ih11 x4 (x3 - x3 / x4 * x4) (x5 + 1) _ _ _ (lv_sub hl [4, 5, 6, 2, 1, 0] rfl) hP hD hS h
  refine lv_iload_n hx hb dX6_tellFraction_0 rfl (lv_at hl 1 rfl) ?_
  refine lv_istore_n (lv' := [(3, .int p2), (0, .int p1), (1, .int p2), (2, .int p3)]) hx hb dX6_tellFraction_1 rfl hl (by decide) rfl (fun ls hl => ?_)
  refine lv_iload_n hx hb dX6_tellFraction_2 rfl (lv_at hl 1 rfl) ?_
  refine va_mabs hx hb (hml.trans hl.1.symm) hown (hts (.methodLink RX6 304 Lib.Math.abs.name) (by decide +kernel)) (hts (.static Lib.Math.abs.name) (by decide +kernel)) (hts (.initialized "java/lang/Math") (by decide +kernel)) (hts (.code Lib.Math.abs.name Lib.Math.abs.code 1 (some .int)) (by decide +kernel)) (by rw [hRf]; exact Nat.le_of_ble_eq_true rfl) (by rw [hRl]; exact Nat.le_of_ble_eq_true rfl) (Nat.zero_le _) (Nat.zero_le _) dX6_tellFraction_3 ?_
  refine lv_istore (lv' := [(4, .int (if 0 ≤ p1 then p1 else 0 - p1)), (3, .int p2), (0, .int p1), (1, .int p2), (2, .int p3)]) hx hb dX6_tellFraction_6 hl (by decide) rfl (fun ls hl => ?_)
  refine lv_iconst (v := 0) hx hb dX6_tellFraction_8 (by decide) ?_
  refine lv_istore (lv' := [(5, .int 0), (4, .int (if 0 ≤ p1 then p1 else 0 - p1)), (3, .int p2), (0, .int p1), (1, .int p2), (2, .int p3)]) hx hb dX6_tellFraction_9 hl (by decide) rfl (fun ls hl => ?_)
  exact L11 66 p2 (if 0 ≤ p1 then p1 else 0 - p1) 0 _ _ _ (lv_sub hl [3, 4, 5, 2, 1, 0] rfl) hP hD hS h
