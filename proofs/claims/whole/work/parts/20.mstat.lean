def tw_X7_in (p1 : Int64) (p2 : Int64) (p3 : Int64) : Option (Int32) :=
  if (lg_cmp p1 p2) < 0 then (some (0)) else (if 0 < (lg_cmp p1 p3) then (some (0)) else (some (1)))
set_option maxHeartbeats 4000000 in
set_option maxRecDepth 100000 in
theorem c_X7_in (l : Launch) (D : va_G) (cy : Cy) (p1 : Int64) (p2 : Int64) (p3 : Int64) (res : Int32) (h : tw_X7_in p1 p2 p3 = some res) : Ct l yX7_in wsX7_in 0 0 D cy [.long p1, .long p2, .long p3] ([]) ([]) (some (.int res)) := by
  refine Ct.ofW (cc := cX7_in) (maxL := 6) (ret := (some .boolean)) (by decide) rfl (Nat.le_of_ble_eq_true rfl) ?_
  intro p e R s m args below meth c A Q ls hRf hRl hQ hx hb hr hml hts hown hlocks hE hP hD hS hA hl
  have hl : lv_has ls 6 [(0, .long p1), (2, .long p2), (4, .long p3)] := hl
  rw [tw_X7_in] at h
  refine lv_lload_n hx hb dX7_in_0 rfl (lv_at hl 0 rfl) ?_
  refine lv_lload_n hx hb dX7_in_1 rfl (lv_at hl 1 rfl) ?_
  refine W.lcmp hx hb dX7_in_2 ?_
  refine lv_if_lt (tgt := 17) hx hb dX7_in_3 (by decide) (fun c1 => ?_) (fun c1 => ?_)
  · have h := oit h c1
    refine lv_iconst (v := 0) hx hb dX7_in_17 (by decide) ?_
    obtain rfl := Option.some.inj h
    rw [hQ]; exact ct_zret hx hb hr hlocks rfl hP hS rfl dX7_in_18
  · have h := oif h c1
    refine lv_lload_n hx hb dX7_in_6 rfl (lv_at hl 0 rfl) ?_
    refine lv_lload hx hb dX7_in_7 (lv_at hl 2 rfl) ?_
    refine W.lcmp hx hb dX7_in_9 ?_
    refine lv_if_gt (tgt := 17) hx hb dX7_in_10 (by decide) (fun c2 => ?_) (fun c2 => ?_)
    · have h := oit h c2
      refine lv_iconst (v := 0) hx hb dX7_in_17 (by decide) ?_
      obtain rfl := Option.some.inj h
      rw [hQ]; exact ct_zret hx hb hr hlocks rfl hP hS rfl dX7_in_18
    · have h := oif h c2
      refine lv_iconst (v := 1) hx hb dX7_in_13 (by decide) ?_
      refine lv_goto (tgt := 18) hx hb dX7_in_14 (by decide) ?_
      obtain rfl := Option.some.inj h
      rw [hQ]; exact ct_zret hx hb hr hlocks rfl hP hS rfl dX7_in_18

def tw_X7_has (p1 : Int32) (p2 : Int32) : Option (Int32) :=
  if ((p1 >>> (p2 &&& 31)) &&& 1) = 1 then (some (1)) else (some (0))
set_option maxHeartbeats 4000000 in
set_option maxRecDepth 100000 in
theorem c_X7_has (l : Launch) (D : va_G) (cy : Cy) (p1 : Int32) (p2 : Int32) (res : Int32) (h : tw_X7_has p1 p2 = some res) : Ct l yX7_has wsX7_has 0 0 D cy [.int p1, .int p2] ([]) ([]) (some (.int res)) := by
  refine Ct.ofW (cc := cX7_has) (maxL := 2) (ret := (some .boolean)) (by decide) rfl (Nat.le_of_ble_eq_true rfl) ?_
  intro p e R s m args below meth c A Q ls hRf hRl hQ hx hb hr hml hts hown hlocks hE hP hD hS hA hl
  have hl : lv_has ls 2 [(0, .int p1), (1, .int p2)] := hl
  rw [tw_X7_has] at h
  refine lv_iload_n hx hb dX7_has_0 rfl (lv_at hl 0 rfl) ?_
  refine lv_iload_n hx hb dX7_has_1 rfl (lv_at hl 1 rfl) ?_
  refine lv_ishr hx hb dX7_has_2 ?_
  refine lv_iconst (v := 1) hx hb dX7_has_3 (by decide) ?_
  refine lv_iand hx hb dX7_has_4 ?_
  refine lv_iconst (v := 1) hx hb dX7_has_5 (by decide) ?_
  refine lv_icmp_ne (tgt := 13) hx hb dX7_has_6 (by decide) (fun c1 => ?_) (fun c1 => ?_)
  · have h := oif h c1
    refine lv_iconst (v := 0) hx hb dX7_has_13 (by decide) ?_
    obtain rfl := Option.some.inj h
    rw [hQ]; exact ct_zret hx hb hr hlocks rfl hP hS rfl dX7_has_14
  · have h := oit h c1
    refine lv_iconst (v := 1) hx hb dX7_has_9 (by decide) ?_
    refine lv_goto (tgt := 14) hx hb dX7_has_10 (by decide) ?_
    obtain rfl := Option.some.inj h
    rw [hQ]; exact ct_zret hx hb hr hlocks rfl hP hS rfl dX7_has_14

def tw_X7_ones_4 (p1 : Int32) : Nat → Int32 → Int32 → Option (Int32)
  | 0, _, _ => none
  | n + 1, x1, x2 =>
    if 25 ≤ x2 then (some (x1)) else ((tw_X7_ones_4 p1 n) (x1 + ((p1 >>> (x2 &&& 31)) &&& 1)) (x2 + 1))
def tw_X7_ones (p1 : Int32) : Option (Int32) :=
  tw_X7_ones_4 p1 26 0 0
set_option maxHeartbeats 4000000 in
set_option maxRecDepth 100000 in
theorem c_X7_ones (l : Launch) (D : va_G) (cy : Cy) (p1 : Int32) (res : Int32) (h : tw_X7_ones p1 = some res) : Ct l yX7_ones wsX7_ones 0 0 D cy [.int p1] ([]) ([]) (some (.int res)) := by
  refine Ct.ofW (cc := cX7_ones) (maxL := 3) (ret := (some .int)) (by decide) rfl (Nat.le_of_ble_eq_true rfl) ?_
  intro p e R s m args below meth c A Q ls hRf hRl hQ hx hb hr hml hts hown hlocks hE hP hD hS hA hl
  have hl : lv_has ls 3 [(0, .int p1)] := hl
  rw [tw_X7_ones] at h
  have L4 : ∀ (n : Nat) (x1 : Int32) (x2 : Int32)  (H : Heap) (locs : List Loc) (ls : Array Slot), lv_has ls 3 [(0, .int p1), (1, .int x1), (2, .int x2)] → va_P D vwCl ([]) H → va_D A ([]) → va_S A s.heap H locs → tw_X7_ones_4 p1 n x1 x2 = some res → W p l e R s m args below meth c H locs 0 0 Q (F0 m 4 ls []) := by
    intro n4
    induction n4 with
    | zero =>
      intro x1 x2  H locs ls hl hP hD hS h
      exact absurd h (by rw [tw_X7_ones_4]; exact fun q => by cases q)
    | succ n4 ih4 =>
      intro x1 x2  H locs ls hl hP hD hS h
      rw [tw_X7_ones_4] at h
      refine lv_iload_n hx hb dX7_ones_4 rfl (lv_at hl 2 rfl) ?_
      refine lv_bipush (v := 25) hx hb dX7_ones_5 (by decide) ?_
      refine lv_icmp_ge (tgt := 24) hx hb dX7_ones_7 (by decide) (fun c1 => ?_) (fun c1 => ?_)
      · have h := oit h c1
        refine lv_iload_n hx hb dX7_ones_24 rfl (lv_at hl 1 rfl) ?_
        obtain rfl := Option.some.inj h
        rw [hQ]; exact ct_iret hx hb hr hlocks hP hS rfl dX7_ones_25
      · have h := oif h c1
        refine lv_iload_n hx hb dX7_ones_10 rfl (lv_at hl 1 rfl) ?_
        refine lv_iload_n hx hb dX7_ones_11 rfl (lv_at hl 0 rfl) ?_
        refine lv_iload_n hx hb dX7_ones_12 rfl (lv_at hl 2 rfl) ?_
        refine lv_ishr hx hb dX7_ones_13 ?_
        refine lv_iconst (v := 1) hx hb dX7_ones_14 (by decide) ?_
        refine lv_iand hx hb dX7_ones_15 ?_
        refine lv_iadd hx hb dX7_ones_16 ?_
        refine lv_istore_n (lv' := [(1, .int (x1 + ((p1 >>> (x2 &&& 31)) &&& 1))), (0, .int p1), (2, .int x2)]) hx hb dX7_ones_17 rfl hl (by decide) rfl (fun ls hl => ?_)
        refine lv_iinc (v := x2 + 1) (lv' := [(2, .int (x2 + 1)), (1, .int (x1 + ((p1 >>> (x2 &&& 31)) &&& 1))), (0, .int p1)]) hx hb dX7_ones_18 hl (k := 2) rfl rfl (by decide) rfl (fun ls hl => ?_)
        refine lv_goto (tgt := 4) hx hb dX7_ones_21 (by decide) ?_
        exact ih4 (x1 + ((p1 >>> (x2 &&& 31)) &&& 1)) (x2 + 1) _ _ _ (lv_sub hl [2, 1, 0] rfl) hP hD hS h
  refine lv_iconst (v := 0) hx hb dX7_ones_0 (by decide) ?_
  refine lv_istore_n (lv' := [(1, .int 0), (0, .int p1)]) hx hb dX7_ones_1 rfl hl (by decide) rfl (fun ls hl => ?_)
  refine lv_iconst (v := 0) hx hb dX7_ones_2 (by decide) ?_
  refine lv_istore_n (lv' := [(2, .int 0), (1, .int 0), (0, .int p1)]) hx hb dX7_ones_3 rfl hl (by decide) rfl (fun ls hl => ?_)
  exact L4 26 0 0 _ _ _ (lv_sub hl [2, 1, 0] rfl) hP hD hS h

def tw_X7_isCell (p1 : Int32) : Option (Int32) :=
  (tw_X7_in p1.toInt64 0 24).bind (fun q1 => if q1 &&& 1 = q1 then (some (q1)) else none)
set_option maxHeartbeats 4000000 in
set_option maxRecDepth 100000 in
theorem c_X7_isCell (l : Launch) (D : va_G) (cy : Cy) (p1 : Int32) (res : Int32) (h : tw_X7_isCell p1 = some res) : Ct l yX7_isCell wsX7_isCell 1 25 D cy [.int p1] ([]) ([]) (some (.int res)) := by
  refine Ct.ofW (cc := cX7_isCell) (maxL := 1) (ret := (some .boolean)) (by decide) rfl (Nat.le_of_ble_eq_true rfl) ?_
  intro p e R s m args below meth c A Q ls hRf hRl hQ hx hb hr hml hts hown hlocks hE hP hD hS hA hl
  have hl : lv_has ls 1 [(0, .int p1)] := hl
  rw [tw_X7_isCell] at h
  refine lv_iload_n hx hb dX7_isCell_0 rfl (lv_at hl 0 rfl) ?_
  refine lv_i2l hx hb dX7_isCell_1 rfl ?_
  refine lv_lconst (v := 0) hx hb dX7_isCell_2 (by decide) ?_
  refine lv_ldc2 (v := 24) hx hb hown (hts (.constantLong RX7 80 (24)) (by decide +kernel)) dX7_isCell_3 ?_
  obtain ⟨q1, hq1, h⟩ := ob h
  refine kS (As := [.long p1.toInt64, .long 0, .long 24]) (rest := []) (w2 := []) (n := 3) ⟨hx, hb, hml, hown, hts⟩ (c_X7_in l D cy p1.toInt64 0 24 q1 hq1) gX7_isCell_X7_in rfl (by decide +kernel) ⟨by rw [hRf]; exact Nat.le_of_ble_eq_true rfl, by rw [hRl]; exact Nat.le_of_ble_eq_true rfl⟩ hE hP hD hS hA [] rfl rfl rfl rfl rfl hl.1 rfl (Nat.le_of_ble_eq_true rfl) dX7_isCell_6 ⟨Nat.zero_le _, Nat.zero_le _⟩ (fun H locs hP hD hS => ?_)
  obtain ⟨g2, h⟩ := og h
  obtain rfl := Option.some.inj h
  rw [hQ]; exact ct_zret hx hb hr hlocks (nar_z g2) hP hS rfl dX7_isCell_9

def tw_X7_onward (p1 : Int32) (p2 : Int32) : Option (Int32) :=
  if p2 = 0 then (if (p1 - p1 / 5 * 5) = 0 then (some ((-9))) else (some (p1 - 1))) else (if p2 = 1 then (if (p1 - p1 / 5 * 5) = 4 then (some ((-9))) else (some (p1 + 1))) else (if p2 = 2 then (if 5 ≤ p1 then (some (p1 - 5)) else (some ((-9)))) else (if p1 ≤ 19 then (some (p1 + 5)) else (some ((-9))))))
set_option maxHeartbeats 4000000 in
set_option maxRecDepth 100000 in
theorem c_X7_onward (l : Launch) (D : va_G) (cy : Cy) (p1 : Int32) (p2 : Int32) (res : Int32) (h : tw_X7_onward p1 p2 = some res) : Ct l yX7_onward wsX7_onward 0 0 D cy [.int p1, .int p2] ([]) ([]) (some (.int res)) := by
  refine Ct.ofW (cc := cX7_onward) (maxL := 2) (ret := (some .int)) (by decide) rfl (Nat.le_of_ble_eq_true rfl) ?_
  intro p e R s m args below meth c A Q ls hRf hRl hQ hx hb hr hml hts hown hlocks hE hP hD hS hA hl
  have hl : lv_has ls 2 [(0, .int p1), (1, .int p2)] := hl
  rw [tw_X7_onward] at h
  refine lv_iload_n hx hb dX7_onward_0 rfl (lv_at hl 1 rfl) ?_
  by_cases c2 : p2 = 0
  · have h := oit h c2
    refine lv_tableIn (off := 27) (tgt := 28) hx hb dX7_onward_1 (by rw [c2]; decide) (by rw [c2]; decide) (by rw [c2]; decide) (by decide) ?_
    refine lv_iload_n hx hb dX7_onward_28 rfl (lv_at hl 0 rfl) ?_
    refine lv_iconst (v := 5) hx hb dX7_onward_29 (by decide) ?_
    refine lv_irem hx hb dX7_onward_30 (by decide) ?_
    refine lv_if_ne (tgt := 39) hx hb dX7_onward_31 (by decide) (fun c1 => ?_) (fun c1 => ?_)
    · have h := oif h c1
      refine lv_iload_n hx hb dX7_onward_39 rfl (lv_at hl 0 rfl) ?_
      refine lv_iconst (v := 1) hx hb dX7_onward_40 (by decide) ?_
      refine lv_isub hx hb dX7_onward_41 ?_
      obtain rfl := Option.some.inj h
      rw [hQ]; exact ct_iret hx hb hr hlocks hP hS rfl dX7_onward_42
    · have h := oit h c1
      refine lv_bipush (v := (-9)) hx hb dX7_onward_34 (by decide) ?_
      refine lv_goto (tgt := 42) hx hb dX7_onward_36 (by decide) ?_
      obtain rfl := Option.some.inj h
      rw [hQ]; exact ct_iret hx hb hr hlocks hP hS rfl dX7_onward_42
  have h := oif h c2
  by_cases c4 : p2 = 1
  · have h := oit h c4
    refine lv_tableIn (off := 42) (tgt := 43) hx hb dX7_onward_1 (by rw [c4]; decide) (by rw [c4]; decide) (by rw [c4]; decide) (by decide) ?_
    refine lv_iload_n hx hb dX7_onward_43 rfl (lv_at hl 0 rfl) ?_
    refine lv_iconst (v := 5) hx hb dX7_onward_44 (by decide) ?_
    refine lv_irem hx hb dX7_onward_45 (by decide) ?_
    refine lv_iconst (v := 4) hx hb dX7_onward_46 (by decide) ?_
    refine lv_icmp_ne (tgt := 55) hx hb dX7_onward_47 (by decide) (fun c3 => ?_) (fun c3 => ?_)
    · have h := oif h c3
      refine lv_iload_n hx hb dX7_onward_55 rfl (lv_at hl 0 rfl) ?_
      refine lv_iconst (v := 1) hx hb dX7_onward_56 (by decide) ?_
      refine lv_iadd hx hb dX7_onward_57 ?_
      obtain rfl := Option.some.inj h
      rw [hQ]; exact ct_iret hx hb hr hlocks hP hS rfl dX7_onward_58
    · have h := oit h c3
      refine lv_bipush (v := (-9)) hx hb dX7_onward_50 (by decide) ?_
      refine lv_goto (tgt := 58) hx hb dX7_onward_52 (by decide) ?_
      obtain rfl := Option.some.inj h
      rw [hQ]; exact ct_iret hx hb hr hlocks hP hS rfl dX7_onward_58
  have h := oif h c4
  by_cases c6 : p2 = 2
  · have h := oit h c6
    refine lv_tableIn (off := 58) (tgt := 59) hx hb dX7_onward_1 (by rw [c6]; decide) (by rw [c6]; decide) (by rw [c6]; decide) (by decide) ?_
    refine lv_iload_n hx hb dX7_onward_59 rfl (lv_at hl 0 rfl) ?_
    refine lv_iconst (v := 5) hx hb dX7_onward_60 (by decide) ?_
    refine lv_icmp_ge (tgt := 69) hx hb dX7_onward_61 (by decide) (fun c5 => ?_) (fun c5 => ?_)
    · have h := oit h c5
      refine lv_iload_n hx hb dX7_onward_69 rfl (lv_at hl 0 rfl) ?_
      refine lv_iconst (v := 5) hx hb dX7_onward_70 (by decide) ?_
      refine lv_isub hx hb dX7_onward_71 ?_
      obtain rfl := Option.some.inj h
      rw [hQ]; exact ct_iret hx hb hr hlocks hP hS rfl dX7_onward_72
    · have h := oif h c5
      refine lv_bipush (v := (-9)) hx hb dX7_onward_64 (by decide) ?_
      refine lv_goto (tgt := 72) hx hb dX7_onward_66 (by decide) ?_
      obtain rfl := Option.some.inj h
      rw [hQ]; exact ct_iret hx hb hr hlocks hP hS rfl dX7_onward_72
  have h := oif h c6
  refine lv_tableOut (tgt := 73) hx hb dX7_onward_1 (sw_out 2 (by decide) (fun k hk => by rcases (show k = 0 ∨ k = 1 ∨ k = 2 by omega) with rfl | rfl | rfl <;> assumption)) (by decide) ?_
  refine lv_iload_n hx hb dX7_onward_73 rfl (lv_at hl 0 rfl) ?_
  refine lv_bipush (v := 19) hx hb dX7_onward_74 (by decide) ?_
  refine lv_icmp_le (tgt := 84) hx hb dX7_onward_76 (by decide) (fun c7 => ?_) (fun c7 => ?_)
  · have h := oit h c7
    refine lv_iload_n hx hb dX7_onward_84 rfl (lv_at hl 0 rfl) ?_
    refine lv_iconst (v := 5) hx hb dX7_onward_85 (by decide) ?_
    refine lv_iadd hx hb dX7_onward_86 ?_
    obtain rfl := Option.some.inj h
    rw [hQ]; exact ct_iret hx hb hr hlocks hP hS rfl dX7_onward_87
  · have h := oif h c7
    refine lv_bipush (v := (-9)) hx hb dX7_onward_79 (by decide) ?_
    refine lv_goto (tgt := 87) hx hb dX7_onward_81 (by decide) ?_
    obtain rfl := Option.some.inj h
    rw [hQ]; exact ct_iret hx hb hr hlocks hP hS rfl dX7_onward_87

def tw_X7_power_4 (p1 : Int32) (p2 : Int32) : Nat → Int32 → Int32 → Option (Int32)
  | 0, _, _ => none
  | n + 1, x2, x3 =>
    if p2 ≤ x3 then (some (x2)) else ((tw_X7_power_4 p1 p2 n) (x2 * p1) (x3 + 1))
def tw_X7_power (p1 : Int32) (p2 : Int32) : Option (Int32) :=
  tw_X7_power_4 p1 p2 8 1 0
set_option maxHeartbeats 4000000 in
set_option maxRecDepth 100000 in
theorem c_X7_power (l : Launch) (D : va_G) (cy : Cy) (p1 : Int32) (p2 : Int32) (res : Int32) (h : tw_X7_power p1 p2 = some res) : Ct l yX7_power wsX7_power 0 0 D cy [.int p1, .int p2] ([]) ([]) (some (.int res)) := by
  refine Ct.ofW (cc := cX7_power) (maxL := 4) (ret := (some .int)) (by decide) rfl (Nat.le_of_ble_eq_true rfl) ?_
  intro p e R s m args below meth c A Q ls hRf hRl hQ hx hb hr hml hts hown hlocks hE hP hD hS hA hl
  have hl : lv_has ls 4 [(0, .int p1), (1, .int p2)] := hl
  rw [tw_X7_power] at h
  have L4 : ∀ (n : Nat) (x2 : Int32) (x3 : Int32)  (H : Heap) (locs : List Loc) (ls : Array Slot), lv_has ls 4 [(0, .int p1), (1, .int p2), (2, .int x2), (3, .int x3)] → va_P D vwCl ([]) H → va_D A ([]) → va_S A s.heap H locs → tw_X7_power_4 p1 p2 n x2 x3 = some res → W p l e R s m args below meth c H locs 0 0 Q (F0 m 4 ls []) := by
    intro n4
    induction n4 with
    | zero =>
      intro x2 x3  H locs ls hl hP hD hS h
      exact absurd h (by rw [tw_X7_power_4]; exact fun q => by cases q)
    | succ n4 ih4 =>
      intro x2 x3  H locs ls hl hP hD hS h
      rw [tw_X7_power_4] at h
      refine lv_iload_n hx hb dX7_power_4 rfl (lv_at hl 3 rfl) ?_
      refine lv_iload_n hx hb dX7_power_5 rfl (lv_at hl 1 rfl) ?_
      refine lv_icmp_ge (tgt := 19) hx hb dX7_power_6 (by decide) (fun c1 => ?_) (fun c1 => ?_)
      · have h := oit h c1
        refine lv_iload_n hx hb dX7_power_19 rfl (lv_at hl 2 rfl) ?_
        obtain rfl := Option.some.inj h
        rw [hQ]; exact ct_iret hx hb hr hlocks hP hS rfl dX7_power_20
      · have h := oif h c1
        refine lv_iload_n hx hb dX7_power_9 rfl (lv_at hl 2 rfl) ?_
        refine lv_iload_n hx hb dX7_power_10 rfl (lv_at hl 0 rfl) ?_
        refine lv_imul hx hb dX7_power_11 ?_
        refine lv_istore_n (lv' := [(2, .int (x2 * p1)), (0, .int p1), (1, .int p2), (3, .int x3)]) hx hb dX7_power_12 rfl hl (by decide) rfl (fun ls hl => ?_)
        refine lv_iinc (v := x3 + 1) (lv' := [(3, .int (x3 + 1)), (2, .int (x2 * p1)), (0, .int p1), (1, .int p2)]) hx hb dX7_power_13 hl (k := 3) rfl rfl (by decide) rfl (fun ls hl => ?_)
        refine lv_goto (tgt := 4) hx hb dX7_power_16 (by decide) ?_
        exact ih4 (x2 * p1) (x3 + 1) _ _ _ (lv_sub hl [2, 3, 1, 0] rfl) hP hD hS h
  refine lv_iconst (v := 1) hx hb dX7_power_0 (by decide) ?_
  refine lv_istore_n (lv' := [(2, .int 1), (0, .int p1), (1, .int p2)]) hx hb dX7_power_1 rfl hl (by decide) rfl (fun ls hl => ?_)
  refine lv_iconst (v := 0) hx hb dX7_power_2 (by decide) ?_
  refine lv_istore_n (lv' := [(3, .int 0), (2, .int 1), (0, .int p1), (1, .int p2)]) hx hb dX7_power_3 rfl hl (by decide) rfl (fun ls hl => ?_)
  exact L4 8 1 0 _ _ _ (lv_sub hl [2, 3, 1, 0] rfl) hP hD hS h

def tw_X7_figuresOf_4 (p1 : Int32) (p2 : Int32) : Nat → Int32 → Int32 → Option (Int32)
  | 0, _, _ => none
  | n + 1, x2, x3 =>
    if p1 ≤ x3 then (some (x2)) else ((tw_X7_power 4 ((p1 - 1) - x3)).bind (fun q2 => if ¬ q2 = 0 then ((tw_X7_figuresOf_4 p1 p2 n) (((10 * x2) + ((p2 / q2) - (p2 / q2) / 4 * 4)) + 1) (x3 + 1)) else none))
def tw_X7_figuresOf (p1 : Int32) (p2 : Int32) : Option (Int32) :=
  tw_X7_figuresOf_4 p1 p2 7 0 0
set_option maxHeartbeats 4000000 in
set_option maxRecDepth 100000 in
theorem c_X7_figuresOf (l : Launch) (D : va_G) (cy : Cy) (p1 : Int32) (p2 : Int32) (res : Int32) (h : tw_X7_figuresOf p1 p2 = some res) : Ct l yX7_figuresOf wsX7_figuresOf 1 23 D cy [.int p1, .int p2] ([]) ([]) (some (.int res)) := by
  refine Ct.ofW (cc := cX7_figuresOf) (maxL := 4) (ret := (some .int)) (by decide) rfl (Nat.le_of_ble_eq_true rfl) ?_
  intro p e R s m args below meth c A Q ls hRf hRl hQ hx hb hr hml hts hown hlocks hE hP hD hS hA hl
  have hl : lv_has ls 4 [(0, .int p1), (1, .int p2)] := hl
  rw [tw_X7_figuresOf] at h
  have L4 : ∀ (n : Nat) (x2 : Int32) (x3 : Int32)  (H : Heap) (locs : List Loc) (ls : Array Slot), lv_has ls 4 [(0, .int p1), (1, .int p2), (2, .int x2), (3, .int x3)] → va_P D vwCl ([]) H → va_D A ([]) → va_S A s.heap H locs → tw_X7_figuresOf_4 p1 p2 n x2 x3 = some res → W p l e R s m args below meth c H locs 0 0 Q (F0 m 4 ls []) := by
    intro n4
    induction n4 with
    | zero =>
      intro x2 x3  H locs ls hl hP hD hS h
      exact absurd h (by rw [tw_X7_figuresOf_4]; exact fun q => by cases q)
    | succ n4 ih4 =>
      intro x2 x3  H locs ls hl hP hD hS h
      rw [tw_X7_figuresOf_4] at h
      refine lv_iload_n hx hb dX7_figuresOf_4 rfl (lv_at hl 3 rfl) ?_
      refine lv_iload_n hx hb dX7_figuresOf_5 rfl (lv_at hl 0 rfl) ?_
      refine lv_icmp_ge (tgt := 36) hx hb dX7_figuresOf_6 (by decide) (fun c1 => ?_) (fun c1 => ?_)
      · have h := oit h c1
        refine lv_iload_n hx hb dX7_figuresOf_36 rfl (lv_at hl 2 rfl) ?_
        obtain rfl := Option.some.inj h
        rw [hQ]; exact ct_iret hx hb hr hlocks hP hS rfl dX7_figuresOf_37
      · have h := oif h c1
        refine lv_bipush (v := 10) hx hb dX7_figuresOf_9 (by decide) ?_
        refine lv_iload_n hx hb dX7_figuresOf_11 rfl (lv_at hl 2 rfl) ?_
        refine lv_imul hx hb dX7_figuresOf_12 ?_
        refine lv_iload_n hx hb dX7_figuresOf_13 rfl (lv_at hl 1 rfl) ?_
        refine lv_iconst (v := 4) hx hb dX7_figuresOf_14 (by decide) ?_
        refine lv_iload_n hx hb dX7_figuresOf_15 rfl (lv_at hl 0 rfl) ?_
        refine lv_iconst (v := 1) hx hb dX7_figuresOf_16 (by decide) ?_
        refine lv_isub hx hb dX7_figuresOf_17 ?_
        refine lv_iload_n hx hb dX7_figuresOf_18 rfl (lv_at hl 3 rfl) ?_
        refine lv_isub hx hb dX7_figuresOf_19 ?_
        obtain ⟨q2, hq2, h⟩ := ob h
        refine kS (As := [.int 4, .int ((p1 - 1) - x3)]) (rest := [.int p2, .int (10 * x2)]) (w2 := []) (n := 2) ⟨hx, hb, hml, hown, hts⟩ (c_X7_power l D cy 4 ((p1 - 1) - x3) q2 hq2) gX7_figuresOf_X7_power rfl (by decide +kernel) ⟨by rw [hRf]; exact Nat.le_of_ble_eq_true rfl, by rw [hRl]; exact Nat.le_of_ble_eq_true rfl⟩ hE hP hD hS hA [] rfl rfl rfl rfl rfl hl.1 rfl (Nat.le_of_ble_eq_true rfl) dX7_figuresOf_20 ⟨Nat.zero_le _, Nat.zero_le _⟩ (fun H locs hP hD hS => ?_)
        obtain ⟨g3, h⟩ := og h
        refine lv_idiv hx hb dX7_figuresOf_23 g3 ?_
        refine lv_iconst (v := 4) hx hb dX7_figuresOf_24 (by decide) ?_
        refine lv_irem hx hb dX7_figuresOf_25 (by decide) ?_
        refine lv_iadd hx hb dX7_figuresOf_26 ?_
        refine lv_iconst (v := 1) hx hb dX7_figuresOf_27 (by decide) ?_
        refine lv_iadd hx hb dX7_figuresOf_28 ?_
        refine lv_istore_n (lv' := [(2, .int (((10 * x2) + ((p2 / q2) - (p2 / q2) / 4 * 4)) + 1)), (0, .int p1), (1, .int p2), (3, .int x3)]) hx hb dX7_figuresOf_29 rfl hl (by decide) rfl (fun ls hl => ?_)
        refine lv_iinc (v := x3 + 1) (lv' := [(3, .int (x3 + 1)), (2, .int (((10 * x2) + ((p2 / q2) - (p2 / q2) / 4 * 4)) + 1)), (0, .int p1), (1, .int p2)]) hx hb dX7_figuresOf_30 hl (k := 3) rfl rfl (by decide) rfl (fun ls hl => ?_)
        refine lv_goto (tgt := 4) hx hb dX7_figuresOf_33 (by decide) ?_
        exact ih4 (((10 * x2) + ((p2 / q2) - (p2 / q2) / 4 * 4)) + 1) (x3 + 1) _ _ _ (lv_sub hl [2, 3, 1, 0] rfl) hP hD hS h
  refine lv_iconst (v := 0) hx hb dX7_figuresOf_0 (by decide) ?_
  refine lv_istore_n (lv' := [(2, .int 0), (0, .int p1), (1, .int p2)]) hx hb dX7_figuresOf_1 rfl hl (by decide) rfl (fun ls hl => ?_)
  refine lv_iconst (v := 0) hx hb dX7_figuresOf_2 (by decide) ?_
  refine lv_istore_n (lv' := [(3, .int 0), (2, .int 0), (0, .int p1), (1, .int p2)]) hx hb dX7_figuresOf_3 rfl hl (by decide) rfl (fun ls hl => ?_)
  exact L4 7 0 0 _ _ _ (lv_sub hl [2, 3, 1, 0] rfl) hP hD hS h

def tw_X7_thousandTo_4 (p1 : Int32) : Nat → Int64 → Int32 → Option (Int64)
  | 0, _, _ => none
  | n + 1, x1, x3 =>
    if p1 ≤ x3 then (some (x1)) else ((tw_X7_thousandTo_4 p1 n) (x1 * 1000) (x3 + 1))
def tw_X7_thousandTo (p1 : Int32) : Option (Int64) :=
  tw_X7_thousandTo_4 p1 7 1 0
set_option maxHeartbeats 4000000 in
set_option maxRecDepth 100000 in
theorem c_X7_thousandTo (l : Launch) (D : va_G) (cy : Cy) (p1 : Int32) (res : Int64) (h : tw_X7_thousandTo p1 = some res) : Ct l yX7_thousandTo wsX7_thousandTo 0 0 D cy [.int p1] ([]) ([]) (some (.long res)) := by
  refine Ct.ofW (cc := cX7_thousandTo) (maxL := 4) (ret := (some .long)) (by decide) rfl (Nat.le_of_ble_eq_true rfl) ?_
  intro p e R s m args below meth c A Q ls hRf hRl hQ hx hb hr hml hts hown hlocks hE hP hD hS hA hl
  have hl : lv_has ls 4 [(0, .int p1)] := hl
  rw [tw_X7_thousandTo] at h
  have L4 : ∀ (n : Nat) (x1 : Int64) (x3 : Int32)  (H : Heap) (locs : List Loc) (ls : Array Slot), lv_has ls 4 [(0, .int p1), (1, .long x1), (3, .int x3)] → va_P D vwCl ([]) H → va_D A ([]) → va_S A s.heap H locs → tw_X7_thousandTo_4 p1 n x1 x3 = some res → W p l e R s m args below meth c H locs 0 0 Q (F0 m 4 ls []) := by
    intro n4
    induction n4 with
    | zero =>
      intro x1 x3  H locs ls hl hP hD hS h
      exact absurd h (by rw [tw_X7_thousandTo_4]; exact fun q => by cases q)
    | succ n4 ih4 =>
      intro x1 x3  H locs ls hl hP hD hS h
      rw [tw_X7_thousandTo_4] at h
      refine lv_iload_n hx hb dX7_thousandTo_4 rfl (lv_at hl 2 rfl) ?_
      refine lv_iload_n hx hb dX7_thousandTo_5 rfl (lv_at hl 0 rfl) ?_
      refine lv_icmp_ge (tgt := 21) hx hb dX7_thousandTo_6 (by decide) (fun c1 => ?_) (fun c1 => ?_)
      · have h := oit h c1
        refine lv_lload_n hx hb dX7_thousandTo_21 rfl (lv_at hl 1 rfl) ?_
        obtain rfl := Option.some.inj h
        rw [hQ]; exact ct_lret hx hb hr hlocks hP hS rfl dX7_thousandTo_22
      · have h := oif h c1
        refine lv_lload_n hx hb dX7_thousandTo_9 rfl (lv_at hl 1 rfl) ?_
        refine lv_ldc2 (v := 1000) hx hb hown (hts (.constantLong RX7 174 (1000)) (by decide +kernel)) dX7_thousandTo_10 ?_
        refine lv_lmul hx hb dX7_thousandTo_13 ?_
        refine lv_lstore_n (lv' := [(1, .long (x1 * 1000)), (0, .int p1), (3, .int x3)]) hx hb dX7_thousandTo_14 rfl hl (by decide) rfl (fun ls hl => ?_)
        refine lv_iinc (v := x3 + 1) (lv' := [(3, .int (x3 + 1)), (1, .long (x1 * 1000)), (0, .int p1)]) hx hb dX7_thousandTo_15 hl (k := 2) rfl rfl (by decide) rfl (fun ls hl => ?_)
        refine lv_goto (tgt := 4) hx hb dX7_thousandTo_18 (by decide) ?_
        exact ih4 (x1 * 1000) (x3 + 1) _ _ _ (lv_sub hl [2, 1, 0] rfl) hP hD hS h
  refine lv_lconst (v := 1) hx hb dX7_thousandTo_0 (by decide) ?_
  refine lv_lstore_n (lv' := [(1, .long 1), (0, .int p1)]) hx hb dX7_thousandTo_1 rfl hl (by decide) rfl (fun ls hl => ?_)
  refine lv_iconst (v := 0) hx hb dX7_thousandTo_2 (by decide) ?_
  refine lv_istore_n (lv' := [(3, .int 0), (1, .long 1), (0, .int p1)]) hx hb dX7_thousandTo_3 rfl hl (by decide) rfl (fun ls hl => ?_)
  exact L4 7 1 0 _ _ _ (lv_sub hl [2, 1, 0] rfl) hP hD hS h

def tw_X7_factorial_4 (p1 : Int32) : Nat → Int32 → Int32 → Option (Int32)
  | 0, _, _ => none
  | n + 1, x1, x2 =>
    if p1 < x2 then (some (x1)) else ((tw_X7_factorial_4 p1 n) (x1 * x2) (x2 + 1))
def tw_X7_factorial (p1 : Int32) : Option (Int32) :=
  tw_X7_factorial_4 p1 7 1 2
set_option maxHeartbeats 4000000 in
set_option maxRecDepth 100000 in
theorem c_X7_factorial (l : Launch) (D : va_G) (cy : Cy) (p1 : Int32) (res : Int32) (h : tw_X7_factorial p1 = some res) : Ct l yX7_factorial wsX7_factorial 0 0 D cy [.int p1] ([]) ([]) (some (.int res)) := by
  refine Ct.ofW (cc := cX7_factorial) (maxL := 3) (ret := (some .int)) (by decide) rfl (Nat.le_of_ble_eq_true rfl) ?_
  intro p e R s m args below meth c A Q ls hRf hRl hQ hx hb hr hml hts hown hlocks hE hP hD hS hA hl
  have hl : lv_has ls 3 [(0, .int p1)] := hl
  rw [tw_X7_factorial] at h
  have L4 : ∀ (n : Nat) (x1 : Int32) (x2 : Int32)  (H : Heap) (locs : List Loc) (ls : Array Slot), lv_has ls 3 [(0, .int p1), (1, .int x1), (2, .int x2)] → va_P D vwCl ([]) H → va_D A ([]) → va_S A s.heap H locs → tw_X7_factorial_4 p1 n x1 x2 = some res → W p l e R s m args below meth c H locs 0 0 Q (F0 m 4 ls []) := by
    intro n4
    induction n4 with
    | zero =>
      intro x1 x2  H locs ls hl hP hD hS h
      exact absurd h (by rw [tw_X7_factorial_4]; exact fun q => by cases q)
    | succ n4 ih4 =>
      intro x1 x2  H locs ls hl hP hD hS h
      rw [tw_X7_factorial_4] at h
      refine lv_iload_n hx hb dX7_factorial_4 rfl (lv_at hl 2 rfl) ?_
      refine lv_iload_n hx hb dX7_factorial_5 rfl (lv_at hl 0 rfl) ?_
      refine lv_icmp_gt (tgt := 19) hx hb dX7_factorial_6 (by decide) (fun c1 => ?_) (fun c1 => ?_)
      · have h := oit h c1
        refine lv_iload_n hx hb dX7_factorial_19 rfl (lv_at hl 1 rfl) ?_
        obtain rfl := Option.some.inj h
        rw [hQ]; exact ct_iret hx hb hr hlocks hP hS rfl dX7_factorial_20
      · have h := oif h c1
        refine lv_iload_n hx hb dX7_factorial_9 rfl (lv_at hl 1 rfl) ?_
        refine lv_iload_n hx hb dX7_factorial_10 rfl (lv_at hl 2 rfl) ?_
        refine lv_imul hx hb dX7_factorial_11 ?_
        refine lv_istore_n (lv' := [(1, .int (x1 * x2)), (0, .int p1), (2, .int x2)]) hx hb dX7_factorial_12 rfl hl (by decide) rfl (fun ls hl => ?_)
        refine lv_iinc (v := x2 + 1) (lv' := [(2, .int (x2 + 1)), (1, .int (x1 * x2)), (0, .int p1)]) hx hb dX7_factorial_13 hl (k := 2) rfl rfl (by decide) rfl (fun ls hl => ?_)
        refine lv_goto (tgt := 4) hx hb dX7_factorial_16 (by decide) ?_
        exact ih4 (x1 * x2) (x2 + 1) _ _ _ (lv_sub hl [2, 1, 0] rfl) hP hD hS h
  refine lv_iconst (v := 1) hx hb dX7_factorial_0 (by decide) ?_
  refine lv_istore_n (lv' := [(1, .int 1), (0, .int p1)]) hx hb dX7_factorial_1 rfl hl (by decide) rfl (fun ls hl => ?_)
  refine lv_iconst (v := 2) hx hb dX7_factorial_2 (by decide) ?_
  refine lv_istore_n (lv' := [(2, .int 2), (1, .int 1), (0, .int p1)]) hx hb dX7_factorial_3 rfl hl (by decide) rfl (fun ls hl => ?_)
  exact L4 7 1 2 _ _ _ (lv_sub hl [2, 1, 0] rfl) hP hD hS h

def tw_X7_common_13 (p1 : Int32) (p2 : Int32) : Nat → Int32 → Int32 → Option (Int32)
  | 0, _, _ => none
  | n + 1, x2, x3 =>
    if x3 = 0 then (some (x2)) else (if ¬ x3 = 0 then ((tw_X7_common_13 p1 p2 n) x3 (x2 - x2 / x3 * x3)) else none)
def tw_X7_common (p1 : Int32) (p2 : Int32) : Option (Int32) :=
  if 0 ≤ p1 then (tw_X7_common_13 p1 p2 70 p1 p2) else (tw_X7_common_13 p1 p2 70 (-p1) p2)
set_option maxHeartbeats 4000000 in
set_option maxRecDepth 100000 in
theorem c_X7_common (l : Launch) (D : va_G) (cy : Cy) (p1 : Int32) (p2 : Int32) (res : Int32) (h : tw_X7_common p1 p2 = some res) : Ct l yX7_common wsX7_common 0 0 D cy [.int p1, .int p2] ([]) ([]) (some (.int res)) := by
  refine Ct.ofW (cc := cX7_common) (maxL := 5) (ret := (some .int)) (by decide) rfl (Nat.le_of_ble_eq_true rfl) ?_
  intro p e R s m args below meth c A Q ls hRf hRl hQ hx hb hr hml hts hown hlocks hE hP hD hS hA hl
  have hl : lv_has ls 5 [(0, .int p1), (1, .int p2)] := hl
  rw [tw_X7_common] at h
  have L13 : ∀ (n : Nat) (x2 : Int32) (x3 : Int32)  (H : Heap) (locs : List Loc) (ls : Array Slot), lv_has ls 5 [(2, .int x2), (3, .int x3)] → va_P D vwCl ([]) H → va_D A ([]) → va_S A s.heap H locs → tw_X7_common_13 p1 p2 n x2 x3 = some res → W p l e R s m args below meth c H locs 0 0 Q (F0 m 13 ls []) := by
    intro n13
    induction n13 with
    | zero =>
      intro x2 x3  H locs ls hl hP hD hS h
      exact absurd h (by rw [tw_X7_common_13]; exact fun q => by cases q)
    | succ n13 ih13 =>
      intro x2 x3  H locs ls hl hP hD hS h
      rw [tw_X7_common_13] at h
      refine lv_iload_n hx hb dX7_common_13 rfl (lv_at hl 1 rfl) ?_
      refine lv_if_eq (tgt := 30) hx hb dX7_common_14 (by decide) (fun c1 => ?_) (fun c1 => ?_)
      · have h := oit h c1
        refine lv_iload_n hx hb dX7_common_30 rfl (lv_at hl 0 rfl) ?_
        obtain rfl := Option.some.inj h
        rw [hQ]; exact ct_iret hx hb hr hlocks hP hS rfl dX7_common_31
      · have h := oif h c1
        refine lv_iload_n hx hb dX7_common_17 rfl (lv_at hl 0 rfl) ?_
        refine lv_iload_n hx hb dX7_common_18 rfl (lv_at hl 1 rfl) ?_
        obtain ⟨g2, h⟩ := og h
        refine lv_irem hx hb dX7_common_19 g2 ?_
        refine lv_istore (lv' := [(4, .int (x2 - x2 / x3 * x3)), (2, .int x2), (3, .int x3)]) hx hb dX7_common_20 hl (by decide) rfl (fun ls hl => ?_)
        refine lv_iload_n hx hb dX7_common_22 rfl (lv_at hl 2 rfl) ?_
        refine lv_istore_n (lv' := [(2, .int x3), (4, .int (x2 - x2 / x3 * x3)), (3, .int x3)]) hx hb dX7_common_23 rfl hl (by decide) rfl (fun ls hl => ?_)
        refine lv_iload hx hb dX7_common_24 (lv_at hl 1 rfl) ?_
        refine lv_istore_n (lv' := [(3, .int (x2 - x2 / x3 * x3)), (2, .int x3), (4, .int (x2 - x2 / x3 * x3))]) hx hb dX7_common_26 rfl hl (by decide) rfl (fun ls hl => ?_)
        refine lv_goto (tgt := 13) hx hb dX7_common_27 (by decide) ?_
        exact ih13 x3 (x2 - x2 / x3 * x3) _ _ _ (lv_sub hl [1, 0] rfl) hP hD hS h
  refine lv_iload_n hx hb dX7_common_0 rfl (lv_at hl 0 rfl) ?_
  refine lv_if_ge (tgt := 9) hx hb dX7_common_1 (by decide) (fun c3 => ?_) (fun c3 => ?_)
  · have h := oit h c3
    refine lv_iload_n hx hb dX7_common_9 rfl (lv_at hl 0 rfl) ?_
    refine lv_istore_n (lv' := [(2, .int p1), (0, .int p1), (1, .int p2)]) hx hb dX7_common_10 rfl hl (by decide) rfl (fun ls hl => ?_)
    refine lv_iload_n hx hb dX7_common_11 rfl (lv_at hl 2 rfl) ?_
    refine lv_istore_n (lv' := [(3, .int p2), (2, .int p1), (0, .int p1), (1, .int p2)]) hx hb dX7_common_12 rfl hl (by decide) rfl (fun ls hl => ?_)
    exact L13 70 p1 p2 _ _ _ (lv_sub hl [1, 0] rfl) hP hD hS h
  · have h := oif h c3
    refine lv_iload_n hx hb dX7_common_4 rfl (lv_at hl 0 rfl) ?_
    refine lv_ineg hx hb dX7_common_5 ?_
    refine lv_goto (tgt := 10) hx hb dX7_common_6 (by decide) ?_
    refine lv_istore_n (lv' := [(2, .int (-p1)), (0, .int p1), (1, .int p2)]) hx hb dX7_common_10 rfl hl (by decide) rfl (fun ls hl => ?_)
    refine lv_iload_n hx hb dX7_common_11 rfl (lv_at hl 2 rfl) ?_
    refine lv_istore_n (lv' := [(3, .int p2), (2, .int (-p1)), (0, .int p1), (1, .int p2)]) hx hb dX7_common_12 rfl hl (by decide) rfl (fun ls hl => ?_)
    exact L13 70 (-p1) p2 _ _ _ (lv_sub hl [1, 0] rfl) hP hD hS h

def tw_X7_foursOf_7 (p1 : Int32) (p2 : Int32) : Nat → Int32 → Int32 → Int32 → Option (Int32)
  | 0, _, _, _ => none
  | n + 1, x2, x3, x4 =>
    if p1 ≤ x4 then (if x3 = 0 then (some (x2)) else (some ((-9)))) else ((tw_X7_in ((x3 - x3 / 10 * 10).toInt64) 1 4).bind (fun q3 => if q3 = 0 then (some ((-9))) else ((tw_X7_power 4 x4).bind (fun q5 => (tw_X7_foursOf_7 p1 p2 n) (x2 + (q5 * ((x3 - x3 / 10 * 10) - 1))) (x3 / 10) (x4 + 1)))))
def tw_X7_foursOf (p1 : Int32) (p2 : Int32) : Option (Int32) :=
  tw_X7_foursOf_7 p1 p2 7 0 p2 0
set_option maxHeartbeats 4000000 in
set_option maxRecDepth 100000 in
theorem c_X7_foursOf (l : Launch) (D : va_G) (cy : Cy) (p1 : Int32) (p2 : Int32) (res : Int32) (h : tw_X7_foursOf p1 p2 = some res) : Ct l yX7_foursOf wsX7_foursOf 1 25 D cy [.int p1, .int p2] ([]) ([]) (some (.int res)) := by
  refine Ct.ofW (cc := cX7_foursOf) (maxL := 6) (ret := (some .int)) (by decide) rfl (Nat.le_of_ble_eq_true rfl) ?_
  intro p e R s m args below meth c A Q ls hRf hRl hQ hx hb hr hml hts hown hlocks hE hP hD hS hA hl
  have hl : lv_has ls 6 [(0, .int p1), (1, .int p2)] := hl
  rw [tw_X7_foursOf] at h
  have L7 : ∀ (n : Nat) (x2 : Int32) (x3 : Int32) (x4 : Int32)  (H : Heap) (locs : List Loc) (ls : Array Slot), lv_has ls 6 [(0, .int p1), (2, .int x2), (3, .int x3), (4, .int x4)] → va_P D vwCl ([]) H → va_D A ([]) → va_S A s.heap H locs → tw_X7_foursOf_7 p1 p2 n x2 x3 x4 = some res → W p l e R s m args below meth c H locs 0 0 Q (F0 m 7 ls []) := by
    intro n7
    induction n7 with
    | zero =>
      intro x2 x3 x4  H locs ls hl hP hD hS h
      exact absurd h (by rw [tw_X7_foursOf_7]; exact fun q => by cases q)
    | succ n7 ih7 =>
      intro x2 x3 x4  H locs ls hl hP hD hS h
      rw [tw_X7_foursOf_7] at h
      refine lv_iload hx hb dX7_foursOf_7 (lv_at hl 3 rfl) ?_
      refine lv_iload_n hx hb dX7_foursOf_9 rfl (lv_at hl 0 rfl) ?_
      refine lv_icmp_ge (tgt := 60) hx hb dX7_foursOf_10 (by decide) (fun c1 => ?_) (fun c1 => ?_)
      · have h := oit h c1
        refine lv_iload_n hx hb dX7_foursOf_60 rfl (lv_at hl 2 rfl) ?_
        refine lv_if_ne (tgt := 68) hx hb dX7_foursOf_61 (by decide) (fun c2 => ?_) (fun c2 => ?_)
        · have h := oif h c2
          refine lv_bipush (v := (-9)) hx hb dX7_foursOf_68 (by decide) ?_
          obtain rfl := Option.some.inj h
          rw [hQ]; exact ct_iret hx hb hr hlocks hP hS rfl dX7_foursOf_70
        · have h := oit h c2
          refine lv_iload_n hx hb dX7_foursOf_64 rfl (lv_at hl 1 rfl) ?_
          refine lv_goto (tgt := 70) hx hb dX7_foursOf_65 (by decide) ?_
          obtain rfl := Option.some.inj h
          rw [hQ]; exact ct_iret hx hb hr hlocks hP hS rfl dX7_foursOf_70
      · have h := oif h c1
        refine lv_iload_n hx hb dX7_foursOf_13 rfl (lv_at hl 2 rfl) ?_
        refine lv_bipush (v := 10) hx hb dX7_foursOf_14 (by decide) ?_
        refine lv_irem hx hb dX7_foursOf_16 (by decide) ?_
        refine lv_istore (lv' := [(5, .int (x3 - x3 / 10 * 10)), (0, .int p1), (2, .int x2), (3, .int x3), (4, .int x4)]) hx hb dX7_foursOf_17 hl (by decide) rfl (fun ls hl => ?_)
        refine lv_iload hx hb dX7_foursOf_19 (lv_at hl 0 rfl) ?_
        refine lv_i2l hx hb dX7_foursOf_21 rfl ?_
        refine lv_lconst (v := 1) hx hb dX7_foursOf_22 (by decide) ?_
        refine lv_ldc2 (v := 4) hx hb hown (hts (.constantLong RX7 166 (4)) (by decide +kernel)) dX7_foursOf_23 ?_
        obtain ⟨q3, hq3, h⟩ := ob h
        refine kS (As := [.long ((x3 - x3 / 10 * 10).toInt64), .long 1, .long 4]) (rest := []) (w2 := []) (n := 3) ⟨hx, hb, hml, hown, hts⟩ (c_X7_in l D cy ((x3 - x3 / 10 * 10).toInt64) 1 4 q3 hq3) gX7_foursOf_X7_in rfl (by decide +kernel) ⟨by rw [hRf]; exact Nat.le_of_ble_eq_true rfl, by rw [hRl]; exact Nat.le_of_ble_eq_true rfl⟩ hE hP hD hS hA [] rfl rfl rfl rfl rfl hl.1 rfl (Nat.le_of_ble_eq_true rfl) dX7_foursOf_26 ⟨Nat.zero_le _, Nat.zero_le _⟩ (fun H locs hP hD hS => ?_)
        refine lv_if_ne (tgt := 35) hx hb dX7_foursOf_29 (by decide) (fun c4 => ?_) (fun c4 => ?_)
        · have h := oif h c4
          refine lv_iload_n hx hb dX7_foursOf_35 rfl (lv_at hl 2 rfl) ?_
          refine lv_iconst (v := 4) hx hb dX7_foursOf_36 (by decide) ?_
          refine lv_iload hx hb dX7_foursOf_37 (lv_at hl 4 rfl) ?_
          obtain ⟨q5, hq5, h⟩ := ob h
          refine kS (As := [.int 4, .int x4]) (rest := [.int x2]) (w2 := []) (n := 2) ⟨hx, hb, hml, hown, hts⟩ (c_X7_power l D cy 4 x4 q5 hq5) gX7_foursOf_X7_power rfl (by decide +kernel) ⟨by rw [hRf]; exact Nat.le_of_ble_eq_true rfl, by rw [hRl]; exact Nat.le_of_ble_eq_true rfl⟩ hE hP hD hS hA [] rfl rfl rfl rfl rfl hl.1 rfl (Nat.le_of_ble_eq_true rfl) dX7_foursOf_39 ⟨Nat.zero_le _, Nat.zero_le _⟩ (fun H locs hP hD hS => ?_)
          refine lv_iload hx hb dX7_foursOf_42 (lv_at hl 0 rfl) ?_
          refine lv_iconst (v := 1) hx hb dX7_foursOf_44 (by decide) ?_
          refine lv_isub hx hb dX7_foursOf_45 ?_
          refine lv_imul hx hb dX7_foursOf_46 ?_
          refine lv_iadd hx hb dX7_foursOf_47 ?_
          refine lv_istore_n (lv' := [(2, .int (x2 + (q5 * ((x3 - x3 / 10 * 10) - 1)))), (5, .int (x3 - x3 / 10 * 10)), (0, .int p1), (3, .int x3), (4, .int x4)]) hx hb dX7_foursOf_48 rfl hl (by decide) rfl (fun ls hl => ?_)
          refine lv_iload_n hx hb dX7_foursOf_49 rfl (lv_at hl 3 rfl) ?_
          refine lv_bipush (v := 10) hx hb dX7_foursOf_50 (by decide) ?_
          refine lv_idiv hx hb dX7_foursOf_52 (by decide) ?_
          refine lv_istore_n (lv' := [(3, .int (x3 / 10)), (2, .int (x2 + (q5 * ((x3 - x3 / 10 * 10) - 1)))), (5, .int (x3 - x3 / 10 * 10)), (0, .int p1), (4, .int x4)]) hx hb dX7_foursOf_53 rfl hl (by decide) rfl (fun ls hl => ?_)
          refine lv_iinc (v := x4 + 1) (lv' := [(4, .int (x4 + 1)), (3, .int (x3 / 10)), (2, .int (x2 + (q5 * ((x3 - x3 / 10 * 10) - 1)))), (5, .int (x3 - x3 / 10 * 10)), (0, .int p1)]) hx hb dX7_foursOf_54 hl (k := 4) rfl rfl (by decide) rfl (fun ls hl => ?_)
          refine lv_goto (tgt := 7) hx hb dX7_foursOf_57 (by decide) ?_
          exact ih7 (x2 + (q5 * ((x3 - x3 / 10 * 10) - 1))) (x3 / 10) (x4 + 1) _ _ _ (lv_sub hl [4, 2, 1, 0] rfl) hP hD hS h
        · have h := oit h c4
          refine lv_bipush (v := (-9)) hx hb dX7_foursOf_32 (by decide) ?_
          obtain rfl := Option.some.inj h
          rw [hQ]; exact ct_iret hx hb hr hlocks hP hS rfl dX7_foursOf_34
  refine lv_iconst (v := 0) hx hb dX7_foursOf_0 (by decide) ?_
  refine lv_istore_n (lv' := [(2, .int 0), (0, .int p1), (1, .int p2)]) hx hb dX7_foursOf_1 rfl hl (by decide) rfl (fun ls hl => ?_)
  refine lv_iload_n hx hb dX7_foursOf_2 rfl (lv_at hl 2 rfl) ?_
  refine lv_istore_n (lv' := [(3, .int p2), (2, .int 0), (0, .int p1), (1, .int p2)]) hx hb dX7_foursOf_3 rfl hl (by decide) rfl (fun ls hl => ?_)
  refine lv_iconst (v := 0) hx hb dX7_foursOf_4 (by decide) ?_
  refine lv_istore (lv' := [(4, .int 0), (3, .int p2), (2, .int 0), (0, .int p1), (1, .int p2)]) hx hb dX7_foursOf_5 hl (by decide) rfl (fun ls hl => ?_)
  exact L7 7 0 p2 0 _ _ _ (lv_sub hl [3, 2, 1, 0] rfl) hP hD hS h
