def tw_X4_isIn (sp : SpS) (p1 : Int32) : Option (Int32) :=
  if ix p1 4 = true then (if (sp.1 p1.toNatClampNeg) < 100 then (some (0)) else (some (1))) else none
set_option maxHeartbeats 4000000 in
set_option maxRecDepth 100000 in
theorem c_X4_isIn (l : Launch) (D : va_G) (cy : Cy) (sph : Nat) (spa : Nat) (sp : SpS) (p1 : Int32) (res : Int32) (h : tw_X4_isIn sp p1 = some res) : Ct l yX4_isIn wsX4_isIn 0 0 D cy [.ref sph, .int p1] (cSp sph spa cy.1 sp) (cSp sph spa cy.1 sp) (some (.int res)) := by
  refine Ct.ofW (cc := cX4_isIn) (maxL := 2) (ret := (some .boolean)) (by decide) rfl (Nat.le_of_ble_eq_true rfl) ?_
  intro p e R s m args below meth c A Q ls hRf hRl hQ hx hb hr hml hts hown hlocks hE hP hD hS hA hl
  have hiX4 : ∀ w ∈ u_ws RX4 TX4 5, w ∈ wsX4_isIn := by decide +kernel
  have hl : lv_has ls 2 [(0, .ref sph), (1, .int p1)] := hl
  rw [tw_X4_isIn] at h
  refine lv_aload_n hx hb dX4_isIn_0 rfl (lv_at hl 0 rfl) ?_
  refine va_get (D := D) (ci := 4) (v := .ref spa) (C := RX4) (T := TX4) (N := 5) hx hb hts hiX4 hown hE.1 hP 0 rfl rfl 0 (by decide) (hts (.fieldLink RX4 9 "TiltTray$Spot" "at" "[I") (by decide +kernel)) (fun _ h9 => h9) rfl dX4_isIn_1 ?_
  refine lv_iload_n hx hb dX4_isIn_4 rfl (lv_at hl 1 rfl) ?_
  obtain ⟨g1, h⟩ := og h
  refine va_iald hx hb hE.1 hP 1 0 rfl rfl (ix_in g1) dX4_isIn_5 ?_
  refine lv_bipush (v := 100) hx hb dX4_isIn_6 (by decide) ?_
  refine lv_icmp_lt (tgt := 15) hx hb dX4_isIn_8 (by decide) (fun c2 => ?_) (fun c2 => ?_)
  · have h := oit h c2
    refine lv_iconst (v := 0) hx hb dX4_isIn_15 (by decide) ?_
    obtain rfl := Option.some.inj h
    rw [hQ]; exact ct_zret hx hb hr hlocks rfl hP hS rfl dX4_isIn_16
  · have h := oif h c2
    refine lv_iconst (v := 1) hx hb dX4_isIn_11 (by decide) ?_
    refine lv_goto (tgt := 16) hx hb dX4_isIn_12 (by decide) ?_
    obtain rfl := Option.some.inj h
    rw [hQ]; exact ct_zret hx hb hr hlocks rfl hP hS rfl dX4_isIn_16

def tw_X4_marbleAt_2 (sp : SpS) (p1 : Int32) : Nat → Int32 → Option (Int32)
  | 0, _ => none
  | n + 1, x2 =>
    if 4 ≤ x2 then (some ((-9))) else (if ix x2 4 = true then (if (sp.1 x2.toNatClampNeg) = p1 then (some (x2)) else ((tw_X4_marbleAt_2 sp p1 n) (x2 + 1))) else none)
def tw_X4_marbleAt (sp : SpS) (p1 : Int32) : Option (Int32) :=
  tw_X4_marbleAt_2 sp p1 5 0
set_option maxHeartbeats 4000000 in
set_option maxRecDepth 100000 in
theorem c_X4_marbleAt (l : Launch) (D : va_G) (cy : Cy) (sph : Nat) (spa : Nat) (sp : SpS) (p1 : Int32) (res : Int32) (h : tw_X4_marbleAt sp p1 = some res) : Ct l yX4_marbleAt wsX4_marbleAt 0 0 D cy [.ref sph, .int p1] (cSp sph spa cy.1 sp) (cSp sph spa cy.1 sp) (some (.int res)) := by
  refine Ct.ofW (cc := cX4_marbleAt) (maxL := 3) (ret := (some .int)) (by decide) rfl (Nat.le_of_ble_eq_true rfl) ?_
  intro p e R s m args below meth c A Q ls hRf hRl hQ hx hb hr hml hts hown hlocks hE hP hD hS hA hl
  have hiX4 : ∀ w ∈ u_ws RX4 TX4 5, w ∈ wsX4_marbleAt := by decide +kernel
  have hl : lv_has ls 3 [(0, .ref sph), (1, .int p1)] := hl
  rw [tw_X4_marbleAt] at h
  have L2 : ∀ (n : Nat) (x2 : Int32)  (H : Heap) (locs : List Loc) (ls : Array Slot), lv_has ls 3 [(0, .ref sph), (1, .int p1), (2, .int x2)] → va_P D vwCl (cSp sph spa cy.1 sp) H → va_D A (cSp sph spa cy.1 sp) → va_S A s.heap H locs → tw_X4_marbleAt_2 sp p1 n x2 = some res → W p l e R s m args below meth c H locs 0 0 Q (F0 m 2 ls []) := by
    intro n2
    induction n2 with
    | zero =>
      intro x2  H locs ls hl hP hD hS h
      exact absurd h (by rw [tw_X4_marbleAt_2]; exact fun q => by cases q)
    | succ n2 ih2 =>
      intro x2  H locs ls hl hP hD hS h
      rw [tw_X4_marbleAt_2] at h
      refine lv_iload_n hx hb dX4_marbleAt_2 rfl (lv_at hl 2 rfl) ?_
      refine lv_iconst (v := 4) hx hb dX4_marbleAt_3 (by decide) ?_
      refine lv_icmp_ge (tgt := 25) hx hb dX4_marbleAt_4 (by decide) (fun c1 => ?_) (fun c1 => ?_)
      · have h := oit h c1
        refine lv_bipush (v := (-9)) hx hb dX4_marbleAt_25 (by decide) ?_
        obtain rfl := Option.some.inj h
        rw [hQ]; exact ct_iret hx hb hr hlocks hP hS rfl dX4_marbleAt_27
      · have h := oif h c1
        refine lv_aload_n hx hb dX4_marbleAt_7 rfl (lv_at hl 0 rfl) ?_
        refine va_get (D := D) (ci := 4) (v := .ref spa) (C := RX4) (T := TX4) (N := 5) hx hb hts hiX4 hown hE.1 hP 0 rfl rfl 0 (by decide) (hts (.fieldLink RX4 9 "TiltTray$Spot" "at" "[I") (by decide +kernel)) (fun _ h9 => h9) rfl dX4_marbleAt_8 ?_
        refine lv_iload_n hx hb dX4_marbleAt_11 rfl (lv_at hl 2 rfl) ?_
        obtain ⟨g2, h⟩ := og h
        refine va_iald hx hb hE.1 hP 1 0 rfl rfl (ix_in g2) dX4_marbleAt_12 ?_
        refine lv_iload_n hx hb dX4_marbleAt_13 rfl (lv_at hl 1 rfl) ?_
        refine lv_icmp_ne (tgt := 19) hx hb dX4_marbleAt_14 (by decide) (fun c3 => ?_) (fun c3 => ?_)
        · have h := oif h c3
          refine lv_iinc (v := x2 + 1) (lv' := [(2, .int (x2 + 1)), (0, .ref sph), (1, .int p1)]) hx hb dX4_marbleAt_19 hl (k := 2) rfl rfl (by decide) rfl (fun ls hl => ?_)
          refine lv_goto (tgt := 2) hx hb dX4_marbleAt_22 (by decide) ?_
          exact ih2 (x2 + 1) _ _ _ (lv_sub hl [1, 2, 0] rfl) hP hD hS h
        · have h := oit h c3
          refine lv_iload_n hx hb dX4_marbleAt_17 rfl (lv_at hl 2 rfl) ?_
          obtain rfl := Option.some.inj h
          rw [hQ]; exact ct_iret hx hb hr hlocks hP hS rfl dX4_marbleAt_18
  refine lv_iconst (v := 0) hx hb dX4_marbleAt_0 (by decide) ?_
  refine lv_istore_n (lv' := [(2, .int 0), (0, .ref sph), (1, .int p1)]) hx hb dX4_marbleAt_1 rfl hl (by decide) rfl (fun ls hl => ?_)
  exact L2 5 0 _ _ _ (lv_sub hl [1, 2, 0] rfl) hP hD hS h

def tw_X4_fallenOf_4 (sp : SpS) (p1 : Int32) : Nat → Int32 → Int32 → Option (Int32)
  | 0, _, _ => none
  | n + 1, x2, x3 =>
    if 4 ≤ x3 then (some (x2)) else ((tw_X4_isIn sp x3).bind (fun q2 => if q2 = 0 then ((tw_X4_fallenOf_4 sp p1 n) x2 (x3 + 2)) else ((tw_X4_fallenOf_4 sp p1 n) (x2 + 1) (x3 + 2))))
def tw_X4_fallenOf (sp : SpS) (p1 : Int32) : Option (Int32) :=
  tw_X4_fallenOf_4 sp p1 5 0 p1
set_option maxHeartbeats 4000000 in
set_option maxRecDepth 100000 in
theorem c_X4_fallenOf (l : Launch) (D : va_G) (cy : Cy) (sph : Nat) (spa : Nat) (sp : SpS) (p1 : Int32) (res : Int32) (h : tw_X4_fallenOf sp p1 = some res) : Ct l yX4_fallenOf wsX4_fallenOf 1 21 D cy [.ref sph, .int p1] (cSp sph spa cy.1 sp) (cSp sph spa cy.1 sp) (some (.int res)) := by
  refine Ct.ofW (cc := cX4_fallenOf) (maxL := 4) (ret := (some .int)) (by decide) rfl (Nat.le_of_ble_eq_true rfl) ?_
  intro p e R s m args below meth c A Q ls hRf hRl hQ hx hb hr hml hts hown hlocks hE hP hD hS hA hl
  have hl : lv_has ls 4 [(0, .ref sph), (1, .int p1)] := hl
  rw [tw_X4_fallenOf] at h
  have L4 : ∀ (n : Nat) (x2 : Int32) (x3 : Int32)  (H : Heap) (locs : List Loc) (ls : Array Slot), lv_has ls 4 [(0, .ref sph), (2, .int x2), (3, .int x3)] → va_P D vwCl (cSp sph spa cy.1 sp) H → va_D A (cSp sph spa cy.1 sp) → va_S A s.heap H locs → tw_X4_fallenOf_4 sp p1 n x2 x3 = some res → W p l e R s m args below meth c H locs 0 0 Q (F0 m 4 ls []) := by
    intro n4
    induction n4 with
    | zero =>
      intro x2 x3  H locs ls hl hP hD hS h
      exact absurd h (by rw [tw_X4_fallenOf_4]; exact fun q => by cases q)
    | succ n4 ih4 =>
      intro x2 x3  H locs ls hl hP hD hS h
      rw [tw_X4_fallenOf_4] at h
      refine lv_iload_n hx hb dX4_fallenOf_4 rfl (lv_at hl 2 rfl) ?_
      refine lv_iconst (v := 4) hx hb dX4_fallenOf_5 (by decide) ?_
      refine lv_icmp_ge (tgt := 26) hx hb dX4_fallenOf_6 (by decide) (fun c1 => ?_) (fun c1 => ?_)
      · have h := oit h c1
        refine lv_iload_n hx hb dX4_fallenOf_26 rfl (lv_at hl 1 rfl) ?_
        obtain rfl := Option.some.inj h
        rw [hQ]; exact ct_iret hx hb hr hlocks hP hS rfl dX4_fallenOf_27
      · have h := oif h c1
        refine lv_aload_n hx hb dX4_fallenOf_9 rfl (lv_at hl 0 rfl) ?_
        refine lv_iload_n hx hb dX4_fallenOf_10 rfl (lv_at hl 2 rfl) ?_
        obtain ⟨q2, hq2, h⟩ := ob h
        refine kV (As := [.int x3]) (rest := []) (w2 := cSp sph spa cy.1 sp) (n := 1) (q0 := 0) ⟨hx, hb, hml, hown, hts⟩ (c_X4_isIn l D cy sph spa sp x3 q2 hq2) gX4_fallenOf_X4_isIn rfl (by decide +kernel) ⟨by rw [hRf]; exact Nat.le_of_ble_eq_true rfl, by rw [hRl]; exact Nat.le_of_ble_eq_true rfl⟩ hE hP hD hS hA [0, 1] rfl rfl rfl rfl rfl rfl rfl hl.1 rfl (Nat.le_of_ble_eq_true rfl) dX4_fallenOf_11 ⟨Nat.zero_le _, Nat.zero_le _⟩ (fun H locs hP hD hS => ?_)
        refine lv_if_eq (tgt := 20) hx hb dX4_fallenOf_14 (by decide) (fun c3 => ?_) (fun c3 => ?_)
        · have h := oit h c3
          refine lv_iinc (v := x3 + 2) (lv' := [(3, .int (x3 + 2)), (0, .ref sph), (2, .int x2)]) hx hb dX4_fallenOf_20 hl (k := 2) rfl rfl (by decide) rfl (fun ls hl => ?_)
          refine lv_goto (tgt := 4) hx hb dX4_fallenOf_23 (by decide) ?_
          exact ih4 x2 (x3 + 2) _ _ _ (lv_sub hl [1, 2, 0] rfl) hP hD hS h
        · have h := oif h c3
          refine lv_iinc (v := x2 + 1) (lv' := [(2, .int (x2 + 1)), (0, .ref sph), (3, .int x3)]) hx hb dX4_fallenOf_17 hl (k := 1) rfl rfl (by decide) rfl (fun ls hl => ?_)
          refine lv_iinc (v := x3 + 2) (lv' := [(3, .int (x3 + 2)), (2, .int (x2 + 1)), (0, .ref sph)]) hx hb dX4_fallenOf_20 hl (k := 2) rfl rfl (by decide) rfl (fun ls hl => ?_)
          refine lv_goto (tgt := 4) hx hb dX4_fallenOf_23 (by decide) ?_
          exact ih4 (x2 + 1) (x3 + 2) _ _ _ (lv_sub hl [2, 1, 0] rfl) hP hD hS h
  refine lv_iconst (v := 0) hx hb dX4_fallenOf_0 (by decide) ?_
  refine lv_istore_n (lv' := [(2, .int 0), (0, .ref sph), (1, .int p1)]) hx hb dX4_fallenOf_1 rfl hl (by decide) rfl (fun ls hl => ?_)
  refine lv_iload_n hx hb dX4_fallenOf_2 rfl (lv_at hl 2 rfl) ?_
  refine lv_istore_n (lv' := [(3, .int p1), (2, .int 0), (0, .ref sph), (1, .int p1)]) hx hb dX4_fallenOf_3 rfl hl (by decide) rfl (fun ls hl => ?_)
  exact L4 5 0 p1 _ _ _ (lv_sub hl [2, 1, 0] rfl) hP hD hS h

def tw_X4_fallen (sp : SpS) : Option (Int32) :=
  (tw_X4_fallenOf sp 0).bind (fun q1 => (tw_X4_fallenOf sp 1).bind (fun q2 => some (q1 + q2)))
set_option maxHeartbeats 4000000 in
set_option maxRecDepth 100000 in
theorem c_X4_fallen (l : Launch) (D : va_G) (cy : Cy) (sph : Nat) (spa : Nat) (sp : SpS) (res : Int32) (h : tw_X4_fallen sp = some res) : Ct l yX4_fallen wsX4_fallen 2 44 D cy [.ref sph] (cSp sph spa cy.1 sp) (cSp sph spa cy.1 sp) (some (.int res)) := by
  refine Ct.ofW (cc := cX4_fallen) (maxL := 1) (ret := (some .int)) (by decide) rfl (Nat.le_of_ble_eq_true rfl) ?_
  intro p e R s m args below meth c A Q ls hRf hRl hQ hx hb hr hml hts hown hlocks hE hP hD hS hA hl
  have hl : lv_has ls 1 [(0, .ref sph)] := hl
  rw [tw_X4_fallen] at h
  refine lv_aload_n hx hb dX4_fallen_0 rfl (lv_at hl 0 rfl) ?_
  refine lv_iconst (v := 0) hx hb dX4_fallen_1 (by decide) ?_
  obtain ⟨q1, hq1, h⟩ := ob h
  refine kV (As := [.int 0]) (rest := []) (w2 := cSp sph spa cy.1 sp) (n := 1) (q0 := 0) ⟨hx, hb, hml, hown, hts⟩ (c_X4_fallenOf l D cy sph spa sp 0 q1 hq1) gX4_fallen_X4_fallenOf rfl (by decide +kernel) ⟨by rw [hRf]; exact Nat.le_of_ble_eq_true rfl, by rw [hRl]; exact Nat.le_of_ble_eq_true rfl⟩ hE hP hD hS hA [0, 1] rfl rfl rfl rfl rfl rfl rfl hl.1 rfl (Nat.le_of_ble_eq_true rfl) dX4_fallen_2 ⟨Nat.zero_le _, Nat.zero_le _⟩ (fun H locs hP hD hS => ?_)
  refine lv_aload_n hx hb dX4_fallen_5 rfl (lv_at hl 0 rfl) ?_
  refine lv_iconst (v := 1) hx hb dX4_fallen_6 (by decide) ?_
  obtain ⟨q2, hq2, h⟩ := ob h
  refine kV (As := [.int 1]) (rest := [.int q1]) (w2 := cSp sph spa cy.1 sp) (n := 1) (q0 := 0) ⟨hx, hb, hml, hown, hts⟩ (c_X4_fallenOf l D cy sph spa sp 1 q2 hq2) gX4_fallen_X4_fallenOf rfl (by decide +kernel) ⟨by rw [hRf]; exact Nat.le_of_ble_eq_true rfl, by rw [hRl]; exact Nat.le_of_ble_eq_true rfl⟩ hE hP hD hS hA [0, 1] rfl rfl rfl rfl rfl rfl rfl hl.1 rfl (Nat.le_of_ble_eq_true rfl) dX4_fallen_7 ⟨Nat.zero_le _, Nat.zero_le _⟩ (fun H locs hP hD hS => ?_)
  refine lv_iadd hx hb dX4_fallen_10 ?_
  obtain rfl := Option.some.inj h
  rw [hQ]; exact ct_iret hx hb hr hlocks hP hS rfl dX4_fallen_11

def tw_X4_put_55 (p1 : Int32) (p2 : Int32) (sp : SpS) : Option (SpS) :=
  if ix p1 4 = true then (some ((upd sp.1 p1.toNatClampNeg p2, sp.2.1 ||| (1 <<< (p2 &&& 31)), sp.2.2.1, sp.2.2.2.1, sp.2.2.2.2))) else none
def tw_X4_put (sp : SpS) (p1 : Int32) (p2 : Int32) : Option (SpS) :=
  if ix p1 4 = true then (if (sp.1 p1.toNatClampNeg) < 100 then (if ix p1 4 = true then (tw_X4_put_55 p1 p2 (sp.1, sp.2.1 &&& ((1 <<< ((sp.1 p1.toNatClampNeg) &&& 31)) ^^^ (-1)), sp.2.2.1, sp.2.2.2.1, sp.2.2.2.2)) else none) else (if ix p1 4 = true then (tw_X4_put_55 p1 p2 (sp.1, sp.2.1, sp.2.2.1 &&& ((1 <<< (((sp.1 p1.toNatClampNeg) - 100) &&& 31)) ^^^ (-1)), sp.2.2.2.1, sp.2.2.2.2)) else none)) else none
set_option maxHeartbeats 4000000 in
set_option maxRecDepth 100000 in
theorem c_X4_put (l : Launch) (D : va_G) (cy : Cy) (sph : Nat) (spa : Nat) (sp : SpS) (p1 : Int32) (p2 : Int32) (res : SpS) (h : tw_X4_put sp p1 p2 = some res) : Ct l yX4_put wsX4_put 0 0 D cy [.ref sph, .int p1, .int p2] (cSp sph spa cy.1 sp) (cSp sph spa cy.1 res) (none) := by
  refine Ct.ofW (cc := cX4_put) (maxL := 3) (ret := none) (by decide) rfl (Nat.le_of_ble_eq_true rfl) ?_
  intro p e R s m args below meth c A Q ls hRf hRl hQ hx hb hr hml hts hown hlocks hE hP hD hS hA hl
  have hiX4 : ∀ w ∈ u_ws RX4 TX4 5, w ∈ wsX4_put := by decide +kernel
  have hl : lv_has ls 3 [(0, .ref sph), (1, .int p1), (2, .int p2)] := hl
  rw [tw_X4_put] at h
  have L55 : ∀ (sp : SpS)  (H : Heap) (locs : List Loc) (ls : Array Slot), lv_has ls 3 [(0, .ref sph), (1, .int p1), (2, .int p2)] → va_P D vwCl (cSp sph spa cy.1 sp) H → va_D A (cSp sph spa cy.1 sp) → va_S A s.heap H locs → tw_X4_put_55 p1 p2 sp = some res → W p l e R s m args below meth c H locs 0 0 Q (F0 m 55 ls []) := by
    intro sp  H locs ls hl hP hD hS h
    rw [tw_X4_put_55] at h
    refine lv_aload_n hx hb dX4_put_55 rfl (lv_at hl 0 rfl) ?_
    refine va_get (D := D) (ci := 4) (v := .ref spa) (C := RX4) (T := TX4) (N := 5) hx hb hts hiX4 hown hE.1 hP 0 rfl rfl 0 (by decide) (hts (.fieldLink RX4 9 "TiltTray$Spot" "at" "[I") (by decide +kernel)) (fun _ h9 => h9) rfl dX4_put_56 ?_
    refine lv_iload_n hx hb dX4_put_59 rfl (lv_at hl 1 rfl) ?_
    refine lv_iload_n hx hb dX4_put_60 rfl (lv_at hl 2 rfl) ?_
    obtain ⟨g1, h⟩ := og h
    refine va_iast hx hb hE.1 hP hD hS 1 0 rfl rfl (ix_in g1) dX4_put_61 (fun H locs hP hD hS => ?_)
    have hP : va_P D vwCl (cSp sph spa cy.1 (upd sp.1 p1.toNatClampNeg p2, sp.2.1, sp.2.2.1, sp.2.2.2.1, sp.2.2.2.2)) H := hP
    have hD : va_D A (cSp sph spa cy.1 (upd sp.1 p1.toNatClampNeg p2, sp.2.1, sp.2.2.1, sp.2.2.2.1, sp.2.2.2.2)) := hD
    refine lv_aload_n hx hb dX4_put_62 rfl (lv_at hl 0 rfl) ?_
    refine lv_dup hx hb dX4_put_63 rfl ?_
    refine va_get (D := D) (ci := 4) (v := .int sp.2.1) (C := RX4) (T := TX4) (N := 5) hx hb hts hiX4 hown hE.1 hP 0 rfl rfl 1 (by decide) (hts (.fieldLink RX4 20 "TiltTray$Spot" "taken" "I") (by decide +kernel)) (fun _ h9 => h9) rfl dX4_put_64 ?_
    refine lv_iconst (v := 1) hx hb dX4_put_67 (by decide) ?_
    refine lv_iload_n hx hb dX4_put_68 rfl (lv_at hl 2 rfl) ?_
    refine lv_ishl hx hb dX4_put_69 ?_
    refine lv_ior hx hb dX4_put_70 ?_
    refine va_put (D := D) (ci := 4) (v := .int (sp.2.1 ||| (1 <<< (p2 &&& 31)))) (ty := .int) (C := RX4) (T := TX4) (N := 5) hx hb hts hiX4 tyX4 tyX4_ok nmX4 hown hE.1 hP hD hS 0 rfl rfl 1 (by decide) (hts (.fieldLink RX4 20 "TiltTray$Spot" "taken" "I") (by decide +kernel)) (fun _ h9 => h9) rfl (by decide +kernel) rfl rfl (Nat.le_of_ble_eq_true rfl) dX4_put_71 (fun H locs hP hD hS => ?_)
    have hP : va_P D vwCl (cSp sph spa cy.1 (upd sp.1 p1.toNatClampNeg p2, sp.2.1 ||| (1 <<< (p2 &&& 31)), sp.2.2.1, sp.2.2.2.1, sp.2.2.2.2)) H := hP
    have hD : va_D A (cSp sph spa cy.1 (upd sp.1 p1.toNatClampNeg p2, sp.2.1 ||| (1 <<< (p2 &&& 31)), sp.2.2.1, sp.2.2.2.1, sp.2.2.2.2)) := hD
    obtain rfl := Option.some.inj h
    rw [hQ]; exact ct_vret hx hb hr hlocks hP hS rfl dX4_put_74
  refine lv_aload_n hx hb dX4_put_0 rfl (lv_at hl 0 rfl) ?_
  refine va_get (D := D) (ci := 4) (v := .ref spa) (C := RX4) (T := TX4) (N := 5) hx hb hts hiX4 hown hE.1 hP 0 rfl rfl 0 (by decide) (hts (.fieldLink RX4 9 "TiltTray$Spot" "at" "[I") (by decide +kernel)) (fun _ h9 => h9) rfl dX4_put_1 ?_
  refine lv_iload_n hx hb dX4_put_4 rfl (lv_at hl 1 rfl) ?_
  obtain ⟨g2, h⟩ := og h
  refine va_iald hx hb hE.1 hP 1 0 rfl rfl (ix_in g2) dX4_put_5 ?_
  refine lv_bipush (v := 100) hx hb dX4_put_6 (by decide) ?_
  refine lv_icmp_lt (tgt := 36) hx hb dX4_put_8 (by decide) (fun c3 => ?_) (fun c3 => ?_)
  · have h := oit h c3
    refine lv_aload_n hx hb dX4_put_36 rfl (lv_at hl 0 rfl) ?_
    refine lv_dup hx hb dX4_put_37 rfl ?_
    refine va_get (D := D) (ci := 4) (v := .int sp.2.1) (C := RX4) (T := TX4) (N := 5) hx hb hts hiX4 hown hE.1 hP 0 rfl rfl 1 (by decide) (hts (.fieldLink RX4 20 "TiltTray$Spot" "taken" "I") (by decide +kernel)) (fun _ h9 => h9) rfl dX4_put_38 ?_
    refine lv_iconst (v := 1) hx hb dX4_put_41 (by decide) ?_
    refine lv_aload_n hx hb dX4_put_42 rfl (lv_at hl 0 rfl) ?_
    refine va_get (D := D) (ci := 4) (v := .ref spa) (C := RX4) (T := TX4) (N := 5) hx hb hts hiX4 hown hE.1 hP 0 rfl rfl 0 (by decide) (hts (.fieldLink RX4 9 "TiltTray$Spot" "at" "[I") (by decide +kernel)) (fun _ h9 => h9) rfl dX4_put_43 ?_
    refine lv_iload_n hx hb dX4_put_46 rfl (lv_at hl 1 rfl) ?_
    obtain ⟨g4, h⟩ := og h
    refine va_iald hx hb hE.1 hP 1 0 rfl rfl (ix_in g4) dX4_put_47 ?_
    refine lv_ishl hx hb dX4_put_48 ?_
    refine lv_iconst (v := (-1)) hx hb dX4_put_49 (by decide) ?_
    refine lv_ixor hx hb dX4_put_50 ?_
    refine lv_iand hx hb dX4_put_51 ?_
    refine va_put (D := D) (ci := 4) (v := .int (sp.2.1 &&& ((1 <<< ((sp.1 p1.toNatClampNeg) &&& 31)) ^^^ (-1)))) (ty := .int) (C := RX4) (T := TX4) (N := 5) hx hb hts hiX4 tyX4 tyX4_ok nmX4 hown hE.1 hP hD hS 0 rfl rfl 1 (by decide) (hts (.fieldLink RX4 20 "TiltTray$Spot" "taken" "I") (by decide +kernel)) (fun _ h9 => h9) rfl (by decide +kernel) rfl rfl (Nat.le_of_ble_eq_true rfl) dX4_put_52 (fun H locs hP hD hS => ?_)
    have hP : va_P D vwCl (cSp sph spa cy.1 (sp.1, sp.2.1 &&& ((1 <<< ((sp.1 p1.toNatClampNeg) &&& 31)) ^^^ (-1)), sp.2.2.1, sp.2.2.2.1, sp.2.2.2.2)) H := hP
    have hD : va_D A (cSp sph spa cy.1 (sp.1, sp.2.1 &&& ((1 <<< ((sp.1 p1.toNatClampNeg) &&& 31)) ^^^ (-1)), sp.2.2.1, sp.2.2.2.1, sp.2.2.2.2)) := hD
    exact L55 (sp.1, sp.2.1 &&& ((1 <<< ((sp.1 p1.toNatClampNeg) &&& 31)) ^^^ (-1)), sp.2.2.1, sp.2.2.2.1, sp.2.2.2.2) _ _ _ (lv_sub hl [0, 1, 2] rfl) hP hD hS h
  · have h := oif h c3
    refine lv_aload_n hx hb dX4_put_11 rfl (lv_at hl 0 rfl) ?_
    refine lv_dup hx hb dX4_put_12 rfl ?_
    refine va_get (D := D) (ci := 4) (v := .int sp.2.2.1) (C := RX4) (T := TX4) (N := 5) hx hb hts hiX4 hown hE.1 hP 0 rfl rfl 2 (by decide) (hts (.fieldLink RX4 24 "TiltTray$Spot" "full" "I") (by decide +kernel)) (fun _ h9 => h9) rfl dX4_put_13 ?_
    refine lv_iconst (v := 1) hx hb dX4_put_16 (by decide) ?_
    refine lv_aload_n hx hb dX4_put_17 rfl (lv_at hl 0 rfl) ?_
    refine va_get (D := D) (ci := 4) (v := .ref spa) (C := RX4) (T := TX4) (N := 5) hx hb hts hiX4 hown hE.1 hP 0 rfl rfl 0 (by decide) (hts (.fieldLink RX4 9 "TiltTray$Spot" "at" "[I") (by decide +kernel)) (fun _ h9 => h9) rfl dX4_put_18 ?_
    refine lv_iload_n hx hb dX4_put_21 rfl (lv_at hl 1 rfl) ?_
    obtain ⟨g5, h⟩ := og h
    refine va_iald hx hb hE.1 hP 1 0 rfl rfl (ix_in g5) dX4_put_22 ?_
    refine lv_bipush (v := 100) hx hb dX4_put_23 (by decide) ?_
    refine lv_isub hx hb dX4_put_25 ?_
    refine lv_ishl hx hb dX4_put_26 ?_
    refine lv_iconst (v := (-1)) hx hb dX4_put_27 (by decide) ?_
    refine lv_ixor hx hb dX4_put_28 ?_
    refine lv_iand hx hb dX4_put_29 ?_
    refine va_put (D := D) (ci := 4) (v := .int (sp.2.2.1 &&& ((1 <<< (((sp.1 p1.toNatClampNeg) - 100) &&& 31)) ^^^ (-1)))) (ty := .int) (C := RX4) (T := TX4) (N := 5) hx hb hts hiX4 tyX4 tyX4_ok nmX4 hown hE.1 hP hD hS 0 rfl rfl 2 (by decide) (hts (.fieldLink RX4 24 "TiltTray$Spot" "full" "I") (by decide +kernel)) (fun _ h9 => h9) rfl (by decide +kernel) rfl rfl (Nat.le_of_ble_eq_true rfl) dX4_put_30 (fun H locs hP hD hS => ?_)
    have hP : va_P D vwCl (cSp sph spa cy.1 (sp.1, sp.2.1, sp.2.2.1 &&& ((1 <<< (((sp.1 p1.toNatClampNeg) - 100) &&& 31)) ^^^ (-1)), sp.2.2.2.1, sp.2.2.2.2)) H := hP
    have hD : va_D A (cSp sph spa cy.1 (sp.1, sp.2.1, sp.2.2.1 &&& ((1 <<< (((sp.1 p1.toNatClampNeg) - 100) &&& 31)) ^^^ (-1)), sp.2.2.2.1, sp.2.2.2.2)) := hD
    refine lv_goto (tgt := 55) hx hb dX4_put_33 (by decide) ?_
    exact L55 (sp.1, sp.2.1, sp.2.2.1 &&& ((1 <<< (((sp.1 p1.toNatClampNeg) - 100) &&& 31)) ^^^ (-1)), sp.2.2.2.1, sp.2.2.2.2) _ _ _ (lv_sub hl [0, 1, 2] rfl) hP hD hS h

def tw_X4_drop (sp : SpS) (p1 : Int32) (p2 : Int32) : Option (SpS) :=
  if ix p1 4 = true then (if ix p1 4 = true then (some ((upd sp.1 p1.toNatClampNeg (100 + p2), sp.2.1 &&& ((1 <<< ((sp.1 p1.toNatClampNeg) &&& 31)) ^^^ (-1)), sp.2.2.1 ||| (1 <<< (p2 &&& 31)), sp.2.2.2.1, sp.2.2.2.2))) else none) else none
set_option maxHeartbeats 4000000 in
set_option maxRecDepth 100000 in
theorem c_X4_drop (l : Launch) (D : va_G) (cy : Cy) (sph : Nat) (spa : Nat) (sp : SpS) (p1 : Int32) (p2 : Int32) (res : SpS) (h : tw_X4_drop sp p1 p2 = some res) : Ct l yX4_drop wsX4_drop 0 0 D cy [.ref sph, .int p1, .int p2] (cSp sph spa cy.1 sp) (cSp sph spa cy.1 res) (none) := by
  refine Ct.ofW (cc := cX4_drop) (maxL := 3) (ret := none) (by decide) rfl (Nat.le_of_ble_eq_true rfl) ?_
  intro p e R s m args below meth c A Q ls hRf hRl hQ hx hb hr hml hts hown hlocks hE hP hD hS hA hl
  have hiX4 : ∀ w ∈ u_ws RX4 TX4 5, w ∈ wsX4_drop := by decide +kernel
  have hl : lv_has ls 3 [(0, .ref sph), (1, .int p1), (2, .int p2)] := hl
  rw [tw_X4_drop] at h
  refine lv_aload_n hx hb dX4_drop_0 rfl (lv_at hl 0 rfl) ?_
  refine lv_dup hx hb dX4_drop_1 rfl ?_
  refine va_get (D := D) (ci := 4) (v := .int sp.2.1) (C := RX4) (T := TX4) (N := 5) hx hb hts hiX4 hown hE.1 hP 0 rfl rfl 1 (by decide) (hts (.fieldLink RX4 20 "TiltTray$Spot" "taken" "I") (by decide +kernel)) (fun _ h9 => h9) rfl dX4_drop_2 ?_
  refine lv_iconst (v := 1) hx hb dX4_drop_5 (by decide) ?_
  refine lv_aload_n hx hb dX4_drop_6 rfl (lv_at hl 0 rfl) ?_
  refine va_get (D := D) (ci := 4) (v := .ref spa) (C := RX4) (T := TX4) (N := 5) hx hb hts hiX4 hown hE.1 hP 0 rfl rfl 0 (by decide) (hts (.fieldLink RX4 9 "TiltTray$Spot" "at" "[I") (by decide +kernel)) (fun _ h9 => h9) rfl dX4_drop_7 ?_
  refine lv_iload_n hx hb dX4_drop_10 rfl (lv_at hl 1 rfl) ?_
  obtain ⟨g1, h⟩ := og h
  refine va_iald hx hb hE.1 hP 1 0 rfl rfl (ix_in g1) dX4_drop_11 ?_
  refine lv_ishl hx hb dX4_drop_12 ?_
  refine lv_iconst (v := (-1)) hx hb dX4_drop_13 (by decide) ?_
  refine lv_ixor hx hb dX4_drop_14 ?_
  refine lv_iand hx hb dX4_drop_15 ?_
  refine va_put (D := D) (ci := 4) (v := .int (sp.2.1 &&& ((1 <<< ((sp.1 p1.toNatClampNeg) &&& 31)) ^^^ (-1)))) (ty := .int) (C := RX4) (T := TX4) (N := 5) hx hb hts hiX4 tyX4 tyX4_ok nmX4 hown hE.1 hP hD hS 0 rfl rfl 1 (by decide) (hts (.fieldLink RX4 20 "TiltTray$Spot" "taken" "I") (by decide +kernel)) (fun _ h9 => h9) rfl (by decide +kernel) rfl rfl (Nat.le_of_ble_eq_true rfl) dX4_drop_16 (fun H locs hP hD hS => ?_)
  have hP : va_P D vwCl (cSp sph spa cy.1 (sp.1, sp.2.1 &&& ((1 <<< ((sp.1 p1.toNatClampNeg) &&& 31)) ^^^ (-1)), sp.2.2.1, sp.2.2.2.1, sp.2.2.2.2)) H := hP
  have hD : va_D A (cSp sph spa cy.1 (sp.1, sp.2.1 &&& ((1 <<< ((sp.1 p1.toNatClampNeg) &&& 31)) ^^^ (-1)), sp.2.2.1, sp.2.2.2.1, sp.2.2.2.2)) := hD
  refine lv_aload_n hx hb dX4_drop_19 rfl (lv_at hl 0 rfl) ?_
  refine va_get (D := D) (ci := 4) (v := .ref spa) (C := RX4) (T := TX4) (N := 5) hx hb hts hiX4 hown hE.1 hP 0 rfl rfl 0 (by decide) (hts (.fieldLink RX4 9 "TiltTray$Spot" "at" "[I") (by decide +kernel)) (fun _ h9 => h9) rfl dX4_drop_20 ?_
  refine lv_iload_n hx hb dX4_drop_23 rfl (lv_at hl 1 rfl) ?_
  refine lv_bipush (v := 100) hx hb dX4_drop_24 (by decide) ?_
  refine lv_iload_n hx hb dX4_drop_26 rfl (lv_at hl 2 rfl) ?_
  refine lv_iadd hx hb dX4_drop_27 ?_
  obtain ⟨g2, h⟩ := og h
  refine va_iast hx hb hE.1 hP hD hS 1 0 rfl rfl (ix_in g2) dX4_drop_28 (fun H locs hP hD hS => ?_)
  have hP : va_P D vwCl (cSp sph spa cy.1 (upd sp.1 p1.toNatClampNeg (100 + p2), sp.2.1 &&& ((1 <<< ((sp.1 p1.toNatClampNeg) &&& 31)) ^^^ (-1)), sp.2.2.1, sp.2.2.2.1, sp.2.2.2.2)) H := hP
  have hD : va_D A (cSp sph spa cy.1 (upd sp.1 p1.toNatClampNeg (100 + p2), sp.2.1 &&& ((1 <<< ((sp.1 p1.toNatClampNeg) &&& 31)) ^^^ (-1)), sp.2.2.1, sp.2.2.2.1, sp.2.2.2.2)) := hD
  refine lv_aload_n hx hb dX4_drop_29 rfl (lv_at hl 0 rfl) ?_
  refine lv_dup hx hb dX4_drop_30 rfl ?_
  refine va_get (D := D) (ci := 4) (v := .int sp.2.2.1) (C := RX4) (T := TX4) (N := 5) hx hb hts hiX4 hown hE.1 hP 0 rfl rfl 2 (by decide) (hts (.fieldLink RX4 24 "TiltTray$Spot" "full" "I") (by decide +kernel)) (fun _ h9 => h9) rfl dX4_drop_31 ?_
  refine lv_iconst (v := 1) hx hb dX4_drop_34 (by decide) ?_
  refine lv_iload_n hx hb dX4_drop_35 rfl (lv_at hl 2 rfl) ?_
  refine lv_ishl hx hb dX4_drop_36 ?_
  refine lv_ior hx hb dX4_drop_37 ?_
  refine va_put (D := D) (ci := 4) (v := .int (sp.2.2.1 ||| (1 <<< (p2 &&& 31)))) (ty := .int) (C := RX4) (T := TX4) (N := 5) hx hb hts hiX4 tyX4 tyX4_ok nmX4 hown hE.1 hP hD hS 0 rfl rfl 2 (by decide) (hts (.fieldLink RX4 24 "TiltTray$Spot" "full" "I") (by decide +kernel)) (fun _ h9 => h9) rfl (by decide +kernel) rfl rfl (Nat.le_of_ble_eq_true rfl) dX4_drop_38 (fun H locs hP hD hS => ?_)
  have hP : va_P D vwCl (cSp sph spa cy.1 (upd sp.1 p1.toNatClampNeg (100 + p2), sp.2.1 &&& ((1 <<< ((sp.1 p1.toNatClampNeg) &&& 31)) ^^^ (-1)), sp.2.2.1 ||| (1 <<< (p2 &&& 31)), sp.2.2.2.1, sp.2.2.2.2)) H := hP
  have hD : va_D A (cSp sph spa cy.1 (upd sp.1 p1.toNatClampNeg (100 + p2), sp.2.1 &&& ((1 <<< ((sp.1 p1.toNatClampNeg) &&& 31)) ^^^ (-1)), sp.2.2.1 ||| (1 <<< (p2 &&& 31)), sp.2.2.2.1, sp.2.2.2.2)) := hD
  obtain rfl := Option.some.inj h
  rw [hQ]; exact ct_vret hx hb hr hlocks hP hS rfl dX4_drop_41

def tw_X4_leave_31 (p1 : Int32) (sp : SpS) : Option (SpS) :=
  if ix p1 4 = true then (some ((upd sp.1 p1.toNatClampNeg (-1), sp.2.1, sp.2.2.1, sp.2.2.2.1, sp.2.2.2.2))) else none
def tw_X4_leave (sp : SpS) (p1 : Int32) : Option (SpS) :=
  if ix p1 4 = true then ((tw_X6_isCell (sp.1 p1.toNatClampNeg)).bind (fun q3 => if q3 = 0 then (tw_X4_leave_31 p1 sp) else (if ix p1 4 = true then (tw_X4_leave_31 p1 (sp.1, sp.2.1 &&& ((1 <<< ((sp.1 p1.toNatClampNeg) &&& 31)) ^^^ (-1)), sp.2.2.1, sp.2.2.2.1, sp.2.2.2.2)) else none))) else none
set_option maxHeartbeats 4000000 in
set_option maxRecDepth 100000 in
theorem c_X4_leave (l : Launch) (D : va_G) (cy : Cy) (sph : Nat) (spa : Nat) (sp : SpS) (p1 : Int32) (res : SpS) (h : tw_X4_leave sp p1 = some res) : Ct l yX4_leave wsX4_leave 1 20 D cy [.ref sph, .int p1] (cSp sph spa cy.1 sp) (cSp sph spa cy.1 res) (none) := by
  refine Ct.ofW (cc := cX4_leave) (maxL := 2) (ret := none) (by decide) rfl (Nat.le_of_ble_eq_true rfl) ?_
  intro p e R s m args below meth c A Q ls hRf hRl hQ hx hb hr hml hts hown hlocks hE hP hD hS hA hl
  have hiX4 : ∀ w ∈ u_ws RX4 TX4 5, w ∈ wsX4_leave := by decide +kernel
  have hl : lv_has ls 2 [(0, .ref sph), (1, .int p1)] := hl
  rw [tw_X4_leave] at h
  have L31 : ∀ (sp : SpS)  (H : Heap) (locs : List Loc) (ls : Array Slot), lv_has ls 2 [(0, .ref sph), (1, .int p1)] → va_P D vwCl (cSp sph spa cy.1 sp) H → va_D A (cSp sph spa cy.1 sp) → va_S A s.heap H locs → tw_X4_leave_31 p1 sp = some res → W p l e R s m args below meth c H locs 0 0 Q (F0 m 31 ls []) := by
    intro sp  H locs ls hl hP hD hS h
    rw [tw_X4_leave_31] at h
    refine lv_aload_n hx hb dX4_leave_31 rfl (lv_at hl 0 rfl) ?_
    refine va_get (D := D) (ci := 4) (v := .ref spa) (C := RX4) (T := TX4) (N := 5) hx hb hts hiX4 hown hE.1 hP 0 rfl rfl 0 (by decide) (hts (.fieldLink RX4 9 "TiltTray$Spot" "at" "[I") (by decide +kernel)) (fun _ h9 => h9) rfl dX4_leave_32 ?_
    refine lv_iload_n hx hb dX4_leave_35 rfl (lv_at hl 1 rfl) ?_
    refine lv_iconst (v := (-1)) hx hb dX4_leave_36 (by decide) ?_
    obtain ⟨g1, h⟩ := og h
    refine va_iast hx hb hE.1 hP hD hS 1 0 rfl rfl (ix_in g1) dX4_leave_37 (fun H locs hP hD hS => ?_)
    have hP : va_P D vwCl (cSp sph spa cy.1 (upd sp.1 p1.toNatClampNeg (-1), sp.2.1, sp.2.2.1, sp.2.2.2.1, sp.2.2.2.2)) H := hP
    have hD : va_D A (cSp sph spa cy.1 (upd sp.1 p1.toNatClampNeg (-1), sp.2.1, sp.2.2.1, sp.2.2.2.1, sp.2.2.2.2)) := hD
    obtain rfl := Option.some.inj h
    rw [hQ]; exact ct_vret hx hb hr hlocks hP hS rfl dX4_leave_38
  refine lv_aload_n hx hb dX4_leave_0 rfl (lv_at hl 0 rfl) ?_
  refine va_get (D := D) (ci := 4) (v := .ref spa) (C := RX4) (T := TX4) (N := 5) hx hb hts hiX4 hown hE.1 hP 0 rfl rfl 0 (by decide) (hts (.fieldLink RX4 9 "TiltTray$Spot" "at" "[I") (by decide +kernel)) (fun _ h9 => h9) rfl dX4_leave_1 ?_
  refine lv_iload_n hx hb dX4_leave_4 rfl (lv_at hl 1 rfl) ?_
  obtain ⟨g2, h⟩ := og h
  refine va_iald hx hb hE.1 hP 1 0 rfl rfl (ix_in g2) dX4_leave_5 ?_
  obtain ⟨q3, hq3, h⟩ := ob h
  refine kSN (As := [.int (sp.1 p1.toNatClampNeg)]) (rest := []) (w2 := cSp sph spa cy.1 sp) (n := 1) (host := "TiltTray") ⟨hx, hb, hml, hown, hts⟩ (c_X6_isCell l D cy (sp.1 p1.toNatClampNeg) q3 hq3) ggX4_leave_X6_isCell rfl (hE.2.1 (.methodLinkNest RX4 47 yX6_isCell "TiltTray") (by decide +kernel)) (hts (.initialized RX6) (by decide +kernel)) (hts (.static yX6_isCell) (by decide +kernel)) (by decide +kernel) ⟨by rw [hRf]; exact Nat.le_of_ble_eq_true rfl, by rw [hRl]; exact Nat.le_of_ble_eq_true rfl⟩ hE hP hD hS hA [] rfl rfl rfl rfl rfl hl.1 rfl (Nat.le_of_ble_eq_true rfl) dX4_leave_6 ⟨Nat.zero_le _, Nat.zero_le _⟩ (fun H locs hP hD hS => ?_)
  refine lv_if_eq (tgt := 31) hx hb dX4_leave_9 (by decide) (fun c4 => ?_) (fun c4 => ?_)
  · have h := oit h c4
    exact L31 sp _ _ _ (lv_sub hl [0, 1] rfl) hP hD hS h
  · have h := oif h c4
    refine lv_aload_n hx hb dX4_leave_12 rfl (lv_at hl 0 rfl) ?_
    refine lv_dup hx hb dX4_leave_13 rfl ?_
    refine va_get (D := D) (ci := 4) (v := .int sp.2.1) (C := RX4) (T := TX4) (N := 5) hx hb hts hiX4 hown hE.1 hP 0 rfl rfl 1 (by decide) (hts (.fieldLink RX4 20 "TiltTray$Spot" "taken" "I") (by decide +kernel)) (fun _ h9 => h9) rfl dX4_leave_14 ?_
    refine lv_iconst (v := 1) hx hb dX4_leave_17 (by decide) ?_
    refine lv_aload_n hx hb dX4_leave_18 rfl (lv_at hl 0 rfl) ?_
    refine va_get (D := D) (ci := 4) (v := .ref spa) (C := RX4) (T := TX4) (N := 5) hx hb hts hiX4 hown hE.1 hP 0 rfl rfl 0 (by decide) (hts (.fieldLink RX4 9 "TiltTray$Spot" "at" "[I") (by decide +kernel)) (fun _ h9 => h9) rfl dX4_leave_19 ?_
    refine lv_iload_n hx hb dX4_leave_22 rfl (lv_at hl 1 rfl) ?_
    obtain ⟨g5, h⟩ := og h
    refine va_iald hx hb hE.1 hP 1 0 rfl rfl (ix_in g5) dX4_leave_23 ?_
    refine lv_ishl hx hb dX4_leave_24 ?_
    refine lv_iconst (v := (-1)) hx hb dX4_leave_25 (by decide) ?_
    refine lv_ixor hx hb dX4_leave_26 ?_
    refine lv_iand hx hb dX4_leave_27 ?_
    refine va_put (D := D) (ci := 4) (v := .int (sp.2.1 &&& ((1 <<< ((sp.1 p1.toNatClampNeg) &&& 31)) ^^^ (-1)))) (ty := .int) (C := RX4) (T := TX4) (N := 5) hx hb hts hiX4 tyX4 tyX4_ok nmX4 hown hE.1 hP hD hS 0 rfl rfl 1 (by decide) (hts (.fieldLink RX4 20 "TiltTray$Spot" "taken" "I") (by decide +kernel)) (fun _ h9 => h9) rfl (by decide +kernel) rfl rfl (Nat.le_of_ble_eq_true rfl) dX4_leave_28 (fun H locs hP hD hS => ?_)
    have hP : va_P D vwCl (cSp sph spa cy.1 (sp.1, sp.2.1 &&& ((1 <<< ((sp.1 p1.toNatClampNeg) &&& 31)) ^^^ (-1)), sp.2.2.1, sp.2.2.2.1, sp.2.2.2.2)) H := hP
    have hD : va_D A (cSp sph spa cy.1 (sp.1, sp.2.1 &&& ((1 <<< ((sp.1 p1.toNatClampNeg) &&& 31)) ^^^ (-1)), sp.2.2.1, sp.2.2.2.1, sp.2.2.2.2)) := hD
    exact L31 (sp.1, sp.2.1 &&& ((1 <<< ((sp.1 p1.toNatClampNeg) &&& 31)) ^^^ (-1)), sp.2.2.1, sp.2.2.2.1, sp.2.2.2.2) _ _ _ (lv_sub hl [0, 1] rfl) hP hD hS h

def tw_X4_take (sp : SpS) (sq : SpS) : Option (SpS) :=
  some ((upd (upd (upd (upd sp.1 (0 : Int32).toNatClampNeg (sq.1 (0 : Int32).toNatClampNeg)) (1 : Int32).toNatClampNeg (sq.1 (1 : Int32).toNatClampNeg)) (2 : Int32).toNatClampNeg (sq.1 (2 : Int32).toNatClampNeg)) (3 : Int32).toNatClampNeg (sq.1 (3 : Int32).toNatClampNeg), sq.2.1, sq.2.2.1, sq.2.2.2.1, sq.2.2.2.2))
set_option maxHeartbeats 4000000 in
set_option maxRecDepth 100000 in
theorem c_X4_take (l : Launch) (D : va_G) (cy : Cy) (sph : Nat) (spa : Nat) (sqh : Nat) (sqa : Nat) (sp : SpS) (sq : SpS) (res : SpS) (h : tw_X4_take sp sq = some res) : Ct l yX4_take wsX4_take 0 0 D cy [.ref sph, .ref sqh] (cSp sph spa cy.1 sp ++ (cSp sqh sqa cy.1 sq)) (cSp sph spa cy.1 res ++ (cSp sqh sqa cy.1 sq)) (none) := by
  refine Ct.ofW (cc := cX4_take) (maxL := 3) (ret := none) (by decide) rfl (Nat.le_of_ble_eq_true rfl) ?_
  intro p e R s m args below meth c A Q ls hRf hRl hQ hx hb hr hml hts hown hlocks hE hP hD hS hA hl
  have hiX4 : ∀ w ∈ u_ws RX4 TX4 5, w ∈ wsX4_take := by decide +kernel
  have hl : lv_has ls 3 [(0, .ref sph), (1, .ref sqh)] := hl
  rw [tw_X4_take] at h
  refine lv_iconst (v := 0) hx hb dX4_take_0 (by decide) ?_
  refine lv_istore_n (lv' := [(2, .int 0), (0, .ref sph), (1, .ref sqh)]) hx hb dX4_take_1 rfl hl (by decide) rfl (fun ls hl => ?_)
  refine lv_iload_n hx hb dX4_take_2 rfl (lv_at hl 0 rfl) ?_
  refine lv_iconst (v := 4) hx hb dX4_take_3 (by decide) ?_
  refine lv_icmp_ge (tgt := 25) hx hb dX4_take_4 (by decide) (fun c1 => absurd c1 (by decide)) (fun _ => ?_)
  refine lv_aload_n hx hb dX4_take_7 rfl (lv_at hl 1 rfl) ?_
  refine va_get (D := D) (ci := 4) (v := .ref spa) (C := RX4) (T := TX4) (N := 5) hx hb hts hiX4 hown hE.1 hP 0 rfl rfl 0 (by decide) (hts (.fieldLink RX4 9 "TiltTray$Spot" "at" "[I") (by decide +kernel)) (fun _ h9 => h9) rfl dX4_take_8 ?_
  refine lv_iload_n hx hb dX4_take_11 rfl (lv_at hl 0 rfl) ?_
  refine lv_aload_n hx hb dX4_take_12 rfl (lv_at hl 2 rfl) ?_
  refine va_get (D := D) (ci := 4) (v := .ref sqa) (C := RX4) (T := TX4) (N := 5) hx hb hts hiX4 hown hE.1 hP 2 rfl rfl 0 (by decide) (hts (.fieldLink RX4 9 "TiltTray$Spot" "at" "[I") (by decide +kernel)) (fun _ h9 => h9) rfl dX4_take_13 ?_
  refine lv_iload_n hx hb dX4_take_16 rfl (lv_at hl 0 rfl) ?_
  refine va_iald hx hb hE.1 hP 3 0 rfl rfl (ix_in (by decide)) dX4_take_17 ?_
  refine va_iast hx hb hE.1 hP hD hS 1 0 rfl rfl (ix_in (by decide)) dX4_take_18 (fun H locs hP hD hS => ?_)
  have hP : va_P D vwCl (cSp sph spa cy.1 (upd sp.1 (0 : Int32).toNatClampNeg (sq.1 (0 : Int32).toNatClampNeg), sp.2.1, sp.2.2.1, sp.2.2.2.1, sp.2.2.2.2) ++ (cSp sqh sqa cy.1 sq)) H := hP
  have hD : va_D A (cSp sph spa cy.1 (upd sp.1 (0 : Int32).toNatClampNeg (sq.1 (0 : Int32).toNatClampNeg), sp.2.1, sp.2.2.1, sp.2.2.2.1, sp.2.2.2.2) ++ (cSp sqh sqa cy.1 sq)) := hD
  refine lv_iinc (v := 1) (lv' := [(2, .int 1), (0, .ref sph), (1, .ref sqh)]) hx hb dX4_take_19 hl (k := 0) rfl (by decide) (by decide) rfl (fun ls hl => ?_)
  refine lv_goto (tgt := 2) hx hb dX4_take_22 (by decide) ?_
  refine lv_iload_n hx hb dX4_take_2 rfl (lv_at hl 0 rfl) ?_
  refine lv_iconst (v := 4) hx hb dX4_take_3 (by decide) ?_
  refine lv_icmp_ge (tgt := 25) hx hb dX4_take_4 (by decide) (fun c2 => absurd c2 (by decide)) (fun _ => ?_)
  refine lv_aload_n hx hb dX4_take_7 rfl (lv_at hl 1 rfl) ?_
  refine va_get (D := D) (ci := 4) (v := .ref spa) (C := RX4) (T := TX4) (N := 5) hx hb hts hiX4 hown hE.1 hP 0 rfl rfl 0 (by decide) (hts (.fieldLink RX4 9 "TiltTray$Spot" "at" "[I") (by decide +kernel)) (fun _ h9 => h9) rfl dX4_take_8 ?_
  refine lv_iload_n hx hb dX4_take_11 rfl (lv_at hl 0 rfl) ?_
  refine lv_aload_n hx hb dX4_take_12 rfl (lv_at hl 2 rfl) ?_
  refine va_get (D := D) (ci := 4) (v := .ref sqa) (C := RX4) (T := TX4) (N := 5) hx hb hts hiX4 hown hE.1 hP 2 rfl rfl 0 (by decide) (hts (.fieldLink RX4 9 "TiltTray$Spot" "at" "[I") (by decide +kernel)) (fun _ h9 => h9) rfl dX4_take_13 ?_
  refine lv_iload_n hx hb dX4_take_16 rfl (lv_at hl 0 rfl) ?_
  refine va_iald hx hb hE.1 hP 3 0 rfl rfl (ix_in (by decide)) dX4_take_17 ?_
  refine va_iast hx hb hE.1 hP hD hS 1 0 rfl rfl (ix_in (by decide)) dX4_take_18 (fun H locs hP hD hS => ?_)
  have hP : va_P D vwCl (cSp sph spa cy.1 (upd (upd sp.1 (0 : Int32).toNatClampNeg (sq.1 (0 : Int32).toNatClampNeg)) (1 : Int32).toNatClampNeg (sq.1 (1 : Int32).toNatClampNeg), sp.2.1, sp.2.2.1, sp.2.2.2.1, sp.2.2.2.2) ++ (cSp sqh sqa cy.1 sq)) H := hP
  have hD : va_D A (cSp sph spa cy.1 (upd (upd sp.1 (0 : Int32).toNatClampNeg (sq.1 (0 : Int32).toNatClampNeg)) (1 : Int32).toNatClampNeg (sq.1 (1 : Int32).toNatClampNeg), sp.2.1, sp.2.2.1, sp.2.2.2.1, sp.2.2.2.2) ++ (cSp sqh sqa cy.1 sq)) := hD
  refine lv_iinc (v := 2) (lv' := [(2, .int 2), (0, .ref sph), (1, .ref sqh)]) hx hb dX4_take_19 hl (k := 0) rfl (by decide) (by decide) rfl (fun ls hl => ?_)
  refine lv_goto (tgt := 2) hx hb dX4_take_22 (by decide) ?_
  refine lv_iload_n hx hb dX4_take_2 rfl (lv_at hl 0 rfl) ?_
  refine lv_iconst (v := 4) hx hb dX4_take_3 (by decide) ?_
  refine lv_icmp_ge (tgt := 25) hx hb dX4_take_4 (by decide) (fun c3 => absurd c3 (by decide)) (fun _ => ?_)
  refine lv_aload_n hx hb dX4_take_7 rfl (lv_at hl 1 rfl) ?_
  refine va_get (D := D) (ci := 4) (v := .ref spa) (C := RX4) (T := TX4) (N := 5) hx hb hts hiX4 hown hE.1 hP 0 rfl rfl 0 (by decide) (hts (.fieldLink RX4 9 "TiltTray$Spot" "at" "[I") (by decide +kernel)) (fun _ h9 => h9) rfl dX4_take_8 ?_
  refine lv_iload_n hx hb dX4_take_11 rfl (lv_at hl 0 rfl) ?_
  refine lv_aload_n hx hb dX4_take_12 rfl (lv_at hl 2 rfl) ?_
  refine va_get (D := D) (ci := 4) (v := .ref sqa) (C := RX4) (T := TX4) (N := 5) hx hb hts hiX4 hown hE.1 hP 2 rfl rfl 0 (by decide) (hts (.fieldLink RX4 9 "TiltTray$Spot" "at" "[I") (by decide +kernel)) (fun _ h9 => h9) rfl dX4_take_13 ?_
  refine lv_iload_n hx hb dX4_take_16 rfl (lv_at hl 0 rfl) ?_
  refine va_iald hx hb hE.1 hP 3 0 rfl rfl (ix_in (by decide)) dX4_take_17 ?_
  refine va_iast hx hb hE.1 hP hD hS 1 0 rfl rfl (ix_in (by decide)) dX4_take_18 (fun H locs hP hD hS => ?_)
  have hP : va_P D vwCl (cSp sph spa cy.1 (upd (upd (upd sp.1 (0 : Int32).toNatClampNeg (sq.1 (0 : Int32).toNatClampNeg)) (1 : Int32).toNatClampNeg (sq.1 (1 : Int32).toNatClampNeg)) (2 : Int32).toNatClampNeg (sq.1 (2 : Int32).toNatClampNeg), sp.2.1, sp.2.2.1, sp.2.2.2.1, sp.2.2.2.2) ++ (cSp sqh sqa cy.1 sq)) H := hP
  have hD : va_D A (cSp sph spa cy.1 (upd (upd (upd sp.1 (0 : Int32).toNatClampNeg (sq.1 (0 : Int32).toNatClampNeg)) (1 : Int32).toNatClampNeg (sq.1 (1 : Int32).toNatClampNeg)) (2 : Int32).toNatClampNeg (sq.1 (2 : Int32).toNatClampNeg), sp.2.1, sp.2.2.1, sp.2.2.2.1, sp.2.2.2.2) ++ (cSp sqh sqa cy.1 sq)) := hD
  refine lv_iinc (v := 3) (lv' := [(2, .int 3), (0, .ref sph), (1, .ref sqh)]) hx hb dX4_take_19 hl (k := 0) rfl (by decide) (by decide) rfl (fun ls hl => ?_)
  refine lv_goto (tgt := 2) hx hb dX4_take_22 (by decide) ?_
  refine lv_iload_n hx hb dX4_take_2 rfl (lv_at hl 0 rfl) ?_
  refine lv_iconst (v := 4) hx hb dX4_take_3 (by decide) ?_
  refine lv_icmp_ge (tgt := 25) hx hb dX4_take_4 (by decide) (fun c4 => absurd c4 (by decide)) (fun _ => ?_)
  refine lv_aload_n hx hb dX4_take_7 rfl (lv_at hl 1 rfl) ?_
  refine va_get (D := D) (ci := 4) (v := .ref spa) (C := RX4) (T := TX4) (N := 5) hx hb hts hiX4 hown hE.1 hP 0 rfl rfl 0 (by decide) (hts (.fieldLink RX4 9 "TiltTray$Spot" "at" "[I") (by decide +kernel)) (fun _ h9 => h9) rfl dX4_take_8 ?_
  refine lv_iload_n hx hb dX4_take_11 rfl (lv_at hl 0 rfl) ?_
  refine lv_aload_n hx hb dX4_take_12 rfl (lv_at hl 2 rfl) ?_
  refine va_get (D := D) (ci := 4) (v := .ref sqa) (C := RX4) (T := TX4) (N := 5) hx hb hts hiX4 hown hE.1 hP 2 rfl rfl 0 (by decide) (hts (.fieldLink RX4 9 "TiltTray$Spot" "at" "[I") (by decide +kernel)) (fun _ h9 => h9) rfl dX4_take_13 ?_
  refine lv_iload_n hx hb dX4_take_16 rfl (lv_at hl 0 rfl) ?_
  refine va_iald hx hb hE.1 hP 3 0 rfl rfl (ix_in (by decide)) dX4_take_17 ?_
  refine va_iast hx hb hE.1 hP hD hS 1 0 rfl rfl (ix_in (by decide)) dX4_take_18 (fun H locs hP hD hS => ?_)
  have hP : va_P D vwCl (cSp sph spa cy.1 (upd (upd (upd (upd sp.1 (0 : Int32).toNatClampNeg (sq.1 (0 : Int32).toNatClampNeg)) (1 : Int32).toNatClampNeg (sq.1 (1 : Int32).toNatClampNeg)) (2 : Int32).toNatClampNeg (sq.1 (2 : Int32).toNatClampNeg)) (3 : Int32).toNatClampNeg (sq.1 (3 : Int32).toNatClampNeg), sp.2.1, sp.2.2.1, sp.2.2.2.1, sp.2.2.2.2) ++ (cSp sqh sqa cy.1 sq)) H := hP
  have hD : va_D A (cSp sph spa cy.1 (upd (upd (upd (upd sp.1 (0 : Int32).toNatClampNeg (sq.1 (0 : Int32).toNatClampNeg)) (1 : Int32).toNatClampNeg (sq.1 (1 : Int32).toNatClampNeg)) (2 : Int32).toNatClampNeg (sq.1 (2 : Int32).toNatClampNeg)) (3 : Int32).toNatClampNeg (sq.1 (3 : Int32).toNatClampNeg), sp.2.1, sp.2.2.1, sp.2.2.2.1, sp.2.2.2.2) ++ (cSp sqh sqa cy.1 sq)) := hD
  refine lv_iinc (v := 4) (lv' := [(2, .int 4), (0, .ref sph), (1, .ref sqh)]) hx hb dX4_take_19 hl (k := 0) rfl (by decide) (by decide) rfl (fun ls hl => ?_)
  refine lv_goto (tgt := 2) hx hb dX4_take_22 (by decide) ?_
  refine lv_iload_n hx hb dX4_take_2 rfl (lv_at hl 0 rfl) ?_
  refine lv_iconst (v := 4) hx hb dX4_take_3 (by decide) ?_
  refine lv_icmp_ge (tgt := 25) hx hb dX4_take_4 (by decide) (fun _ => ?_) (fun c5 => absurd c5 (by decide))
  refine lv_aload_n hx hb dX4_take_25 rfl (lv_at hl 1 rfl) ?_
  refine lv_aload_n hx hb dX4_take_26 rfl (lv_at hl 2 rfl) ?_
  refine va_get (D := D) (ci := 4) (v := .int sq.2.1) (C := RX4) (T := TX4) (N := 5) hx hb hts hiX4 hown hE.1 hP 2 rfl rfl 1 (by decide) (hts (.fieldLink RX4 20 "TiltTray$Spot" "taken" "I") (by decide +kernel)) (fun _ h9 => h9) rfl dX4_take_27 ?_
  refine va_put (D := D) (ci := 4) (v := .int sq.2.1) (ty := .int) (C := RX4) (T := TX4) (N := 5) hx hb hts hiX4 tyX4 tyX4_ok nmX4 hown hE.1 hP hD hS 0 rfl rfl 1 (by decide) (hts (.fieldLink RX4 20 "TiltTray$Spot" "taken" "I") (by decide +kernel)) (fun _ h9 => h9) rfl (by decide +kernel) rfl rfl (Nat.le_of_ble_eq_true rfl) dX4_take_30 (fun H locs hP hD hS => ?_)
  have hP : va_P D vwCl (cSp sph spa cy.1 (upd (upd (upd (upd sp.1 (0 : Int32).toNatClampNeg (sq.1 (0 : Int32).toNatClampNeg)) (1 : Int32).toNatClampNeg (sq.1 (1 : Int32).toNatClampNeg)) (2 : Int32).toNatClampNeg (sq.1 (2 : Int32).toNatClampNeg)) (3 : Int32).toNatClampNeg (sq.1 (3 : Int32).toNatClampNeg), sq.2.1, sp.2.2.1, sp.2.2.2.1, sp.2.2.2.2) ++ (cSp sqh sqa cy.1 sq)) H := hP
  have hD : va_D A (cSp sph spa cy.1 (upd (upd (upd (upd sp.1 (0 : Int32).toNatClampNeg (sq.1 (0 : Int32).toNatClampNeg)) (1 : Int32).toNatClampNeg (sq.1 (1 : Int32).toNatClampNeg)) (2 : Int32).toNatClampNeg (sq.1 (2 : Int32).toNatClampNeg)) (3 : Int32).toNatClampNeg (sq.1 (3 : Int32).toNatClampNeg), sq.2.1, sp.2.2.1, sp.2.2.2.1, sp.2.2.2.2) ++ (cSp sqh sqa cy.1 sq)) := hD
  refine lv_aload_n hx hb dX4_take_33 rfl (lv_at hl 1 rfl) ?_
  refine lv_aload_n hx hb dX4_take_34 rfl (lv_at hl 2 rfl) ?_
  refine va_get (D := D) (ci := 4) (v := .int sq.2.2.1) (C := RX4) (T := TX4) (N := 5) hx hb hts hiX4 hown hE.1 hP 2 rfl rfl 2 (by decide) (hts (.fieldLink RX4 24 "TiltTray$Spot" "full" "I") (by decide +kernel)) (fun _ h9 => h9) rfl dX4_take_35 ?_
  refine va_put (D := D) (ci := 4) (v := .int sq.2.2.1) (ty := .int) (C := RX4) (T := TX4) (N := 5) hx hb hts hiX4 tyX4 tyX4_ok nmX4 hown hE.1 hP hD hS 0 rfl rfl 2 (by decide) (hts (.fieldLink RX4 24 "TiltTray$Spot" "full" "I") (by decide +kernel)) (fun _ h9 => h9) rfl (by decide +kernel) rfl rfl (Nat.le_of_ble_eq_true rfl) dX4_take_38 (fun H locs hP hD hS => ?_)
  have hP : va_P D vwCl (cSp sph spa cy.1 (upd (upd (upd (upd sp.1 (0 : Int32).toNatClampNeg (sq.1 (0 : Int32).toNatClampNeg)) (1 : Int32).toNatClampNeg (sq.1 (1 : Int32).toNatClampNeg)) (2 : Int32).toNatClampNeg (sq.1 (2 : Int32).toNatClampNeg)) (3 : Int32).toNatClampNeg (sq.1 (3 : Int32).toNatClampNeg), sq.2.1, sq.2.2.1, sp.2.2.2.1, sp.2.2.2.2) ++ (cSp sqh sqa cy.1 sq)) H := hP
  have hD : va_D A (cSp sph spa cy.1 (upd (upd (upd (upd sp.1 (0 : Int32).toNatClampNeg (sq.1 (0 : Int32).toNatClampNeg)) (1 : Int32).toNatClampNeg (sq.1 (1 : Int32).toNatClampNeg)) (2 : Int32).toNatClampNeg (sq.1 (2 : Int32).toNatClampNeg)) (3 : Int32).toNatClampNeg (sq.1 (3 : Int32).toNatClampNeg), sq.2.1, sq.2.2.1, sp.2.2.2.1, sp.2.2.2.2) ++ (cSp sqh sqa cy.1 sq)) := hD
  refine lv_aload_n hx hb dX4_take_41 rfl (lv_at hl 1 rfl) ?_
  refine lv_aload_n hx hb dX4_take_42 rfl (lv_at hl 2 rfl) ?_
  refine va_get (D := D) (ci := 4) (v := .int sq.2.2.2.1) (C := RX4) (T := TX4) (N := 5) hx hb hts hiX4 hown hE.1 hP 2 rfl rfl 3 (by decide) (hts (.fieldLink RX4 27 "TiltTray$Spot" "wedged" "I") (by decide +kernel)) (fun _ h9 => h9) rfl dX4_take_43 ?_
  refine va_put (D := D) (ci := 4) (v := .int sq.2.2.2.1) (ty := .int) (C := RX4) (T := TX4) (N := 5) hx hb hts hiX4 tyX4 tyX4_ok nmX4 hown hE.1 hP hD hS 0 rfl rfl 3 (by decide) (hts (.fieldLink RX4 27 "TiltTray$Spot" "wedged" "I") (by decide +kernel)) (fun _ h9 => h9) rfl (by decide +kernel) rfl rfl (Nat.le_of_ble_eq_true rfl) dX4_take_46 (fun H locs hP hD hS => ?_)
  have hP : va_P D vwCl (cSp sph spa cy.1 (upd (upd (upd (upd sp.1 (0 : Int32).toNatClampNeg (sq.1 (0 : Int32).toNatClampNeg)) (1 : Int32).toNatClampNeg (sq.1 (1 : Int32).toNatClampNeg)) (2 : Int32).toNatClampNeg (sq.1 (2 : Int32).toNatClampNeg)) (3 : Int32).toNatClampNeg (sq.1 (3 : Int32).toNatClampNeg), sq.2.1, sq.2.2.1, sq.2.2.2.1, sp.2.2.2.2) ++ (cSp sqh sqa cy.1 sq)) H := hP
  have hD : va_D A (cSp sph spa cy.1 (upd (upd (upd (upd sp.1 (0 : Int32).toNatClampNeg (sq.1 (0 : Int32).toNatClampNeg)) (1 : Int32).toNatClampNeg (sq.1 (1 : Int32).toNatClampNeg)) (2 : Int32).toNatClampNeg (sq.1 (2 : Int32).toNatClampNeg)) (3 : Int32).toNatClampNeg (sq.1 (3 : Int32).toNatClampNeg), sq.2.1, sq.2.2.1, sq.2.2.2.1, sp.2.2.2.2) ++ (cSp sqh sqa cy.1 sq)) := hD
  refine lv_aload_n hx hb dX4_take_49 rfl (lv_at hl 1 rfl) ?_
  refine lv_aload_n hx hb dX4_take_50 rfl (lv_at hl 2 rfl) ?_
  refine va_get (D := D) (ci := 4) (v := .int sq.2.2.2.2) (C := RX4) (T := TX4) (N := 5) hx hb hts hiX4 hown hE.1 hP 2 rfl rfl 4 (by decide) (hts (.fieldLink RX4 30 "TiltTray$Spot" "tilts" "I") (by decide +kernel)) (fun _ h9 => h9) rfl dX4_take_51 ?_
  refine va_put (D := D) (ci := 4) (v := .int sq.2.2.2.2) (ty := .int) (C := RX4) (T := TX4) (N := 5) hx hb hts hiX4 tyX4 tyX4_ok nmX4 hown hE.1 hP hD hS 0 rfl rfl 4 (by decide) (hts (.fieldLink RX4 30 "TiltTray$Spot" "tilts" "I") (by decide +kernel)) (fun _ h9 => h9) rfl (by decide +kernel) rfl rfl (Nat.le_of_ble_eq_true rfl) dX4_take_54 (fun H locs hP hD hS => ?_)
  have hP : va_P D vwCl (cSp sph spa cy.1 (upd (upd (upd (upd sp.1 (0 : Int32).toNatClampNeg (sq.1 (0 : Int32).toNatClampNeg)) (1 : Int32).toNatClampNeg (sq.1 (1 : Int32).toNatClampNeg)) (2 : Int32).toNatClampNeg (sq.1 (2 : Int32).toNatClampNeg)) (3 : Int32).toNatClampNeg (sq.1 (3 : Int32).toNatClampNeg), sq.2.1, sq.2.2.1, sq.2.2.2.1, sq.2.2.2.2) ++ (cSp sqh sqa cy.1 sq)) H := hP
  have hD : va_D A (cSp sph spa cy.1 (upd (upd (upd (upd sp.1 (0 : Int32).toNatClampNeg (sq.1 (0 : Int32).toNatClampNeg)) (1 : Int32).toNatClampNeg (sq.1 (1 : Int32).toNatClampNeg)) (2 : Int32).toNatClampNeg (sq.1 (2 : Int32).toNatClampNeg)) (3 : Int32).toNatClampNeg (sq.1 (3 : Int32).toNatClampNeg), sq.2.1, sq.2.2.1, sq.2.2.2.1, sq.2.2.2.2) ++ (cSp sqh sqa cy.1 sq)) := hD
  obtain rfl := Option.some.inj h
  rw [hQ]; exact ct_vret hx hb hr hlocks hP hS rfl dX4_take_57

def tw_X4_hasSamePlaces (sp : SpS) (sq : SpS) : Option (Int32) :=
  if (sp.1 (0 : Int32).toNatClampNeg) = (sq.1 (0 : Int32).toNatClampNeg) then (if (sp.1 (1 : Int32).toNatClampNeg) = (sq.1 (1 : Int32).toNatClampNeg) then (if (sp.1 (2 : Int32).toNatClampNeg) = (sq.1 (2 : Int32).toNatClampNeg) then (if (sp.1 (3 : Int32).toNatClampNeg) = (sq.1 (3 : Int32).toNatClampNeg) then (some (1)) else (some (0))) else (some (0))) else (some (0))) else (some (0))
set_option maxHeartbeats 4000000 in
set_option maxRecDepth 100000 in
theorem c_X4_hasSamePlaces (l : Launch) (D : va_G) (cy : Cy) (sph : Nat) (spa : Nat) (sqh : Nat) (sqa : Nat) (sp : SpS) (sq : SpS) (res : Int32) (h : tw_X4_hasSamePlaces sp sq = some res) : Ct l yX4_hasSamePlaces wsX4_hasSamePlaces 0 0 D cy [.ref sph, .ref sqh] (cSp sph spa cy.1 sp ++ (cSp sqh sqa cy.1 sq)) (cSp sph spa cy.1 sp ++ (cSp sqh sqa cy.1 sq)) (some (.int res)) := by
  refine Ct.ofW (cc := cX4_hasSamePlaces) (maxL := 2) (ret := (some .boolean)) (by decide) rfl (Nat.le_of_ble_eq_true rfl) ?_
  intro p e R s m args below meth c A Q ls hRf hRl hQ hx hb hr hml hts hown hlocks hE hP hD hS hA hl
  have hiX4 : ∀ w ∈ u_ws RX4 TX4 5, w ∈ wsX4_hasSamePlaces := by decide +kernel
  have hl : lv_has ls 2 [(0, .ref sph), (1, .ref sqh)] := hl
  rw [tw_X4_hasSamePlaces] at h
  refine lv_aload_n hx hb dX4_hasSamePlaces_0 rfl (lv_at hl 0 rfl) ?_
  refine va_get (D := D) (ci := 4) (v := .ref spa) (C := RX4) (T := TX4) (N := 5) hx hb hts hiX4 hown hE.1 hP 0 rfl rfl 0 (by decide) (hts (.fieldLink RX4 9 "TiltTray$Spot" "at" "[I") (by decide +kernel)) (fun _ h9 => h9) rfl dX4_hasSamePlaces_1 ?_
  refine lv_iconst (v := 0) hx hb dX4_hasSamePlaces_4 (by decide) ?_
  refine va_iald hx hb hE.1 hP 1 0 rfl rfl (ix_in (by decide)) dX4_hasSamePlaces_5 ?_
  refine lv_aload_n hx hb dX4_hasSamePlaces_6 rfl (lv_at hl 1 rfl) ?_
  refine va_get (D := D) (ci := 4) (v := .ref sqa) (C := RX4) (T := TX4) (N := 5) hx hb hts hiX4 hown hE.1 hP 2 rfl rfl 0 (by decide) (hts (.fieldLink RX4 9 "TiltTray$Spot" "at" "[I") (by decide +kernel)) (fun _ h9 => h9) rfl dX4_hasSamePlaces_7 ?_
  refine lv_iconst (v := 0) hx hb dX4_hasSamePlaces_10 (by decide) ?_
  refine va_iald hx hb hE.1 hP 3 0 rfl rfl (ix_in (by decide)) dX4_hasSamePlaces_11 ?_
  refine lv_icmp_ne (tgt := 64) hx hb dX4_hasSamePlaces_12 (by decide) (fun c1 => ?_) (fun c1 => ?_)
  · have h := oif h c1
    refine lv_iconst (v := 0) hx hb dX4_hasSamePlaces_64 (by decide) ?_
    obtain rfl := Option.some.inj h
    rw [hQ]; exact ct_zret hx hb hr hlocks rfl hP hS rfl dX4_hasSamePlaces_65
  · have h := oit h c1
    refine lv_aload_n hx hb dX4_hasSamePlaces_15 rfl (lv_at hl 0 rfl) ?_
    refine va_get (D := D) (ci := 4) (v := .ref spa) (C := RX4) (T := TX4) (N := 5) hx hb hts hiX4 hown hE.1 hP 0 rfl rfl 0 (by decide) (hts (.fieldLink RX4 9 "TiltTray$Spot" "at" "[I") (by decide +kernel)) (fun _ h9 => h9) rfl dX4_hasSamePlaces_16 ?_
    refine lv_iconst (v := 1) hx hb dX4_hasSamePlaces_19 (by decide) ?_
    refine va_iald hx hb hE.1 hP 1 0 rfl rfl (ix_in (by decide)) dX4_hasSamePlaces_20 ?_
    refine lv_aload_n hx hb dX4_hasSamePlaces_21 rfl (lv_at hl 1 rfl) ?_
    refine va_get (D := D) (ci := 4) (v := .ref sqa) (C := RX4) (T := TX4) (N := 5) hx hb hts hiX4 hown hE.1 hP 2 rfl rfl 0 (by decide) (hts (.fieldLink RX4 9 "TiltTray$Spot" "at" "[I") (by decide +kernel)) (fun _ h9 => h9) rfl dX4_hasSamePlaces_22 ?_
    refine lv_iconst (v := 1) hx hb dX4_hasSamePlaces_25 (by decide) ?_
    refine va_iald hx hb hE.1 hP 3 0 rfl rfl (ix_in (by decide)) dX4_hasSamePlaces_26 ?_
    refine lv_icmp_ne (tgt := 64) hx hb dX4_hasSamePlaces_27 (by decide) (fun c2 => ?_) (fun c2 => ?_)
    · have h := oif h c2
      refine lv_iconst (v := 0) hx hb dX4_hasSamePlaces_64 (by decide) ?_
      obtain rfl := Option.some.inj h
      rw [hQ]; exact ct_zret hx hb hr hlocks rfl hP hS rfl dX4_hasSamePlaces_65
    · have h := oit h c2
      refine lv_aload_n hx hb dX4_hasSamePlaces_30 rfl (lv_at hl 0 rfl) ?_
      refine va_get (D := D) (ci := 4) (v := .ref spa) (C := RX4) (T := TX4) (N := 5) hx hb hts hiX4 hown hE.1 hP 0 rfl rfl 0 (by decide) (hts (.fieldLink RX4 9 "TiltTray$Spot" "at" "[I") (by decide +kernel)) (fun _ h9 => h9) rfl dX4_hasSamePlaces_31 ?_
      refine lv_iconst (v := 2) hx hb dX4_hasSamePlaces_34 (by decide) ?_
      refine va_iald hx hb hE.1 hP 1 0 rfl rfl (ix_in (by decide)) dX4_hasSamePlaces_35 ?_
      refine lv_aload_n hx hb dX4_hasSamePlaces_36 rfl (lv_at hl 1 rfl) ?_
      refine va_get (D := D) (ci := 4) (v := .ref sqa) (C := RX4) (T := TX4) (N := 5) hx hb hts hiX4 hown hE.1 hP 2 rfl rfl 0 (by decide) (hts (.fieldLink RX4 9 "TiltTray$Spot" "at" "[I") (by decide +kernel)) (fun _ h9 => h9) rfl dX4_hasSamePlaces_37 ?_
      refine lv_iconst (v := 2) hx hb dX4_hasSamePlaces_40 (by decide) ?_
      refine va_iald hx hb hE.1 hP 3 0 rfl rfl (ix_in (by decide)) dX4_hasSamePlaces_41 ?_
      refine lv_icmp_ne (tgt := 64) hx hb dX4_hasSamePlaces_42 (by decide) (fun c3 => ?_) (fun c3 => ?_)
      · have h := oif h c3
        refine lv_iconst (v := 0) hx hb dX4_hasSamePlaces_64 (by decide) ?_
        obtain rfl := Option.some.inj h
        rw [hQ]; exact ct_zret hx hb hr hlocks rfl hP hS rfl dX4_hasSamePlaces_65
      · have h := oit h c3
        refine lv_aload_n hx hb dX4_hasSamePlaces_45 rfl (lv_at hl 0 rfl) ?_
        refine va_get (D := D) (ci := 4) (v := .ref spa) (C := RX4) (T := TX4) (N := 5) hx hb hts hiX4 hown hE.1 hP 0 rfl rfl 0 (by decide) (hts (.fieldLink RX4 9 "TiltTray$Spot" "at" "[I") (by decide +kernel)) (fun _ h9 => h9) rfl dX4_hasSamePlaces_46 ?_
        refine lv_iconst (v := 3) hx hb dX4_hasSamePlaces_49 (by decide) ?_
        refine va_iald hx hb hE.1 hP 1 0 rfl rfl (ix_in (by decide)) dX4_hasSamePlaces_50 ?_
        refine lv_aload_n hx hb dX4_hasSamePlaces_51 rfl (lv_at hl 1 rfl) ?_
        refine va_get (D := D) (ci := 4) (v := .ref sqa) (C := RX4) (T := TX4) (N := 5) hx hb hts hiX4 hown hE.1 hP 2 rfl rfl 0 (by decide) (hts (.fieldLink RX4 9 "TiltTray$Spot" "at" "[I") (by decide +kernel)) (fun _ h9 => h9) rfl dX4_hasSamePlaces_52 ?_
        refine lv_iconst (v := 3) hx hb dX4_hasSamePlaces_55 (by decide) ?_
        refine va_iald hx hb hE.1 hP 3 0 rfl rfl (ix_in (by decide)) dX4_hasSamePlaces_56 ?_
        refine lv_icmp_ne (tgt := 64) hx hb dX4_hasSamePlaces_57 (by decide) (fun c4 => ?_) (fun c4 => ?_)
        · have h := oif h c4
          refine lv_iconst (v := 0) hx hb dX4_hasSamePlaces_64 (by decide) ?_
          obtain rfl := Option.some.inj h
          rw [hQ]; exact ct_zret hx hb hr hlocks rfl hP hS rfl dX4_hasSamePlaces_65
        · have h := oit h c4
          refine lv_iconst (v := 1) hx hb dX4_hasSamePlaces_60 (by decide) ?_
          refine lv_goto (tgt := 65) hx hb dX4_hasSamePlaces_61 (by decide) ?_
          obtain rfl := Option.some.inj h
          rw [hQ]; exact ct_zret hx hb hr hlocks rfl hP hS rfl dX4_hasSamePlaces_65

def tw_X4_begin_55 (tr : TrS) (k27 : Int32 → SpS → Option (SpS)) (x2 : Int32) (z1 : Int32) (z2 : Int32) (sp : SpS) : Option (SpS) :=
  if ix z1 4 = true then (k27 (x2 + 1) (upd sp.1 z1.toNatClampNeg z2, sp.2.1, sp.2.2.1, sp.2.2.2.1, sp.2.2.2.2)) else none
def tw_X4_begin_27 (tr : TrS) : Nat → Int32 → SpS → Option (SpS)
  | 0, _, _ => none
  | n + 1, x2, sp =>
    if 4 ≤ x2 then (some (sp)) else (if tr.2.2.2.1 ≤ x2 then (tw_X4_begin_55 tr (tw_X4_begin_27 tr n) x2 x2 (-1) sp) else (if ix x2 4 = true then (tw_X4_begin_55 tr (tw_X4_begin_27 tr n) x2 x2 (tr.2.2.1 x2.toNatClampNeg) sp) else none))
def tw_X4_begin (sp : SpS) (tr : TrS) : Option (SpS) :=
  tw_X4_begin_27 tr 5 0 (sp.1, tr.1 (0 : Int32).toNatClampNeg, 0, 0, 0)
set_option maxHeartbeats 4000000 in
set_option maxRecDepth 100000 in
theorem c_X4_begin (l : Launch) (D : va_G) (cy : Cy) (sph : Nat) (spa : Nat) (trh : Nat) (tra : Nat) (trb : Nat) (trc : Nat) (sp : SpS) (tr : TrS) (res : SpS) (h : tw_X4_begin sp tr = some res) : Ct l yX4_begin wsX4_begin 0 0 D cy [.ref sph, .ref trh] (cSp sph spa cy.1 sp ++ (cTr trh tra trb trc cy.1 tr)) (cSp sph spa cy.1 res ++ (cTr trh tra trb trc cy.1 tr)) (none) := by
  refine Ct.ofW (cc := cX4_begin) (maxL := 3) (ret := none) (by decide) rfl (Nat.le_of_ble_eq_true rfl) ?_
  intro p e R s m args below meth c A Q ls hRf hRl hQ hx hb hr hml hts hown hlocks hE hP hD hS hA hl
  have hiX4 : ∀ w ∈ u_ws RX4 TX4 5, w ∈ wsX4_begin := by decide +kernel
  have hiX5 : ∀ w ∈ u_ws RX5 TX5 5, w ∈ wsX4_begin := by decide +kernel
  have hl : lv_has ls 3 [(0, .ref sph), (1, .ref trh)] := hl
  rw [tw_X4_begin] at h
  have L27 : ∀ (n : Nat) (x2 : Int32) (sp : SpS)  (H : Heap) (locs : List Loc) (ls : Array Slot), lv_has ls 3 [(0, .ref sph), (1, .ref trh), (2, .int x2)] → va_P D vwCl (cSp sph spa cy.1 sp ++ (cTr trh tra trb trc cy.1 tr)) H → va_D A (cSp sph spa cy.1 sp ++ (cTr trh tra trb trc cy.1 tr)) → va_S A s.heap H locs → tw_X4_begin_27 tr n x2 sp = some res → W p l e R s m args below meth c H locs 0 0 Q (F0 m 27 ls []) := by
    intro n27
    induction n27 with
    | zero =>
      intro x2 sp  H locs ls hl hP hD hS h
      exact absurd h (by rw [tw_X4_begin_27]; exact fun q => by cases q)
    | succ n27 ih27 =>
      intro x2 sp  H locs ls hl hP hD hS h
      rw [tw_X4_begin_27] at h
      have L55 : ∀ (x2 : Int32) (z1 : Int32) (z2 : Int32) (sp : SpS)  (H : Heap) (locs : List Loc) (ls : Array Slot), lv_has ls 3 [(0, .ref sph), (1, .ref trh), (2, .int x2)] → va_P D vwCl (cSp sph spa cy.1 sp ++ (cTr trh tra trb trc cy.1 tr)) H → va_D A (cSp sph spa cy.1 sp ++ (cTr trh tra trb trc cy.1 tr)) → va_S A s.heap H locs → tw_X4_begin_55 tr (tw_X4_begin_27 tr n27) x2 z1 z2 sp = some res → W p l e R s m args below meth c H locs 0 0 Q (F0 m 55 ls [.int z2, .int z1, .ref spa]) := by
        intro x2 z1 z2 sp  H locs ls hl hP hD hS h
        rw [tw_X4_begin_55] at h
        obtain ⟨g1, h⟩ := og h
        refine va_iast hx hb hE.1 hP hD hS 1 0 rfl rfl (ix_in g1) dX4_begin_55 (fun H locs hP hD hS => ?_)
        have hP : va_P D vwCl (cSp sph spa cy.1 (upd sp.1 z1.toNatClampNeg z2, sp.2.1, sp.2.2.1, sp.2.2.2.1, sp.2.2.2.2) ++ (cTr trh tra trb trc cy.1 tr)) H := hP
        have hD : va_D A (cSp sph spa cy.1 (upd sp.1 z1.toNatClampNeg z2, sp.2.1, sp.2.2.1, sp.2.2.2.1, sp.2.2.2.2) ++ (cTr trh tra trb trc cy.1 tr)) := hD
        refine lv_iinc (v := x2 + 1) (lv' := [(2, .int (x2 + 1)), (0, .ref sph), (1, .ref trh)]) hx hb dX4_begin_56 hl (k := 2) rfl rfl (by decide) rfl (fun ls hl => ?_)
        refine lv_goto (tgt := 27) hx hb dX4_begin_59 (by decide) ?_
        exact ih27 (x2 + 1) (upd sp.1 z1.toNatClampNeg z2, sp.2.1, sp.2.2.1, sp.2.2.2.1, sp.2.2.2.2) _ _ _ (lv_sub hl [1, 2, 0] rfl) hP hD hS h
      refine lv_iload_n hx hb dX4_begin_27 rfl (lv_at hl 2 rfl) ?_
      refine lv_iconst (v := 4) hx hb dX4_begin_28 (by decide) ?_
      refine lv_icmp_ge (tgt := 62) hx hb dX4_begin_29 (by decide) (fun c2 => ?_) (fun c2 => ?_)
      · have h := oit h c2
        obtain rfl := Option.some.inj h
        rw [hQ]; exact ct_vret hx hb hr hlocks hP hS rfl dX4_begin_62
      · have h := oif h c2
        refine lv_aload_n hx hb dX4_begin_32 rfl (lv_at hl 0 rfl) ?_
        refine va_get (D := D) (ci := 4) (v := .ref spa) (C := RX4) (T := TX4) (N := 5) hx hb hts hiX4 hown hE.1 hP 0 rfl rfl 0 (by decide) (hts (.fieldLink RX4 9 "TiltTray$Spot" "at" "[I") (by decide +kernel)) (fun _ h9 => h9) rfl dX4_begin_33 ?_
        refine lv_iload_n hx hb dX4_begin_36 rfl (lv_at hl 2 rfl) ?_
        refine lv_iload_n hx hb dX4_begin_37 rfl (lv_at hl 2 rfl) ?_
        refine lv_aload_n hx hb dX4_begin_38 rfl (lv_at hl 1 rfl) ?_
        refine va_get (D := D) (ci := 5) (v := .int tr.2.2.2.1) (C := RX5) (T := TX5) (N := 5) hx hb hts hiX5 hown hE.1 hP 2 rfl rfl 3 (by decide) (hts (.fieldLink RX4 33 "TiltTray$Tray" "marbles" "I") (by decide +kernel)) (fun _ h9 => h9) rfl dX4_begin_39 ?_
        refine lv_icmp_ge (tgt := 54) hx hb dX4_begin_42 (by decide) (fun c3 => ?_) (fun c3 => ?_)
        · have h := oit h c3
          refine lv_iconst (v := (-1)) hx hb dX4_begin_54 (by decide) ?_
          exact L55 x2 x2 (-1) sp _ _ _ (lv_sub hl [0, 1, 2] rfl) hP hD hS h
        · have h := oif h c3
          refine lv_aload_n hx hb dX4_begin_45 rfl (lv_at hl 1 rfl) ?_
          refine va_get (D := D) (ci := 5) (v := .ref trc) (C := RX5) (T := TX5) (N := 5) hx hb hts hiX5 hown hE.1 hP 2 rfl rfl 2 (by decide) (hts (.fieldLink RX4 36 "TiltTray$Tray" "start" "[I") (by decide +kernel)) (fun _ h9 => h9) rfl dX4_begin_46 ?_
          refine lv_iload_n hx hb dX4_begin_49 rfl (lv_at hl 2 rfl) ?_
          obtain ⟨g4, h⟩ := og h
          refine va_iald hx hb hE.1 hP 5 0 rfl rfl (ix_in g4) dX4_begin_50 ?_
          refine lv_goto (tgt := 55) hx hb dX4_begin_51 (by decide) ?_
          exact L55 x2 x2 (tr.2.2.1 x2.toNatClampNeg) sp _ _ _ (lv_sub hl [0, 1, 2] rfl) hP hD hS h
  refine lv_aload_n hx hb dX4_begin_0 rfl (lv_at hl 0 rfl) ?_
  refine lv_aload_n hx hb dX4_begin_1 rfl (lv_at hl 1 rfl) ?_
  refine va_get (D := D) (ci := 5) (v := .ref tra) (C := RX5) (T := TX5) (N := 5) hx hb hts hiX5 hown hE.1 hP 2 rfl rfl 0 (by decide) (hts (.fieldLink RX4 15 "TiltTray$Tray" "told" "[I") (by decide +kernel)) (fun _ h9 => h9) rfl dX4_begin_2 ?_
  refine lv_iconst (v := 0) hx hb dX4_begin_5 (by decide) ?_
  refine va_iald hx hb hE.1 hP 3 0 rfl rfl (ix_in (by decide)) dX4_begin_6 ?_
  refine va_put (D := D) (ci := 4) (v := .int (tr.1 (0 : Int32).toNatClampNeg)) (ty := .int) (C := RX4) (T := TX4) (N := 5) hx hb hts hiX4 tyX4 tyX4_ok nmX4 hown hE.1 hP hD hS 0 rfl rfl 1 (by decide) (hts (.fieldLink RX4 20 "TiltTray$Spot" "taken" "I") (by decide +kernel)) (fun _ h9 => h9) rfl (by decide +kernel) rfl rfl (Nat.le_of_ble_eq_true rfl) dX4_begin_7 (fun H locs hP hD hS => ?_)
  have hP : va_P D vwCl (cSp sph spa cy.1 (sp.1, tr.1 (0 : Int32).toNatClampNeg, sp.2.2.1, sp.2.2.2.1, sp.2.2.2.2) ++ (cTr trh tra trb trc cy.1 tr)) H := hP
  have hD : va_D A (cSp sph spa cy.1 (sp.1, tr.1 (0 : Int32).toNatClampNeg, sp.2.2.1, sp.2.2.2.1, sp.2.2.2.2) ++ (cTr trh tra trb trc cy.1 tr)) := hD
  refine lv_aload_n hx hb dX4_begin_10 rfl (lv_at hl 0 rfl) ?_
  refine lv_iconst (v := 0) hx hb dX4_begin_11 (by decide) ?_
  refine va_put (D := D) (ci := 4) (v := .int 0) (ty := .int) (C := RX4) (T := TX4) (N := 5) hx hb hts hiX4 tyX4 tyX4_ok nmX4 hown hE.1 hP hD hS 0 rfl rfl 2 (by decide) (hts (.fieldLink RX4 24 "TiltTray$Spot" "full" "I") (by decide +kernel)) (fun _ h9 => h9) rfl (by decide +kernel) rfl rfl (Nat.le_of_ble_eq_true rfl) dX4_begin_12 (fun H locs hP hD hS => ?_)
  have hP : va_P D vwCl (cSp sph spa cy.1 (sp.1, tr.1 (0 : Int32).toNatClampNeg, 0, sp.2.2.2.1, sp.2.2.2.2) ++ (cTr trh tra trb trc cy.1 tr)) H := hP
  have hD : va_D A (cSp sph spa cy.1 (sp.1, tr.1 (0 : Int32).toNatClampNeg, 0, sp.2.2.2.1, sp.2.2.2.2) ++ (cTr trh tra trb trc cy.1 tr)) := hD
  refine lv_aload_n hx hb dX4_begin_15 rfl (lv_at hl 0 rfl) ?_
  refine lv_iconst (v := 0) hx hb dX4_begin_16 (by decide) ?_
  refine va_put (D := D) (ci := 4) (v := .int 0) (ty := .int) (C := RX4) (T := TX4) (N := 5) hx hb hts hiX4 tyX4 tyX4_ok nmX4 hown hE.1 hP hD hS 0 rfl rfl 3 (by decide) (hts (.fieldLink RX4 27 "TiltTray$Spot" "wedged" "I") (by decide +kernel)) (fun _ h9 => h9) rfl (by decide +kernel) rfl rfl (Nat.le_of_ble_eq_true rfl) dX4_begin_17 (fun H locs hP hD hS => ?_)
  have hP : va_P D vwCl (cSp sph spa cy.1 (sp.1, tr.1 (0 : Int32).toNatClampNeg, 0, 0, sp.2.2.2.2) ++ (cTr trh tra trb trc cy.1 tr)) H := hP
  have hD : va_D A (cSp sph spa cy.1 (sp.1, tr.1 (0 : Int32).toNatClampNeg, 0, 0, sp.2.2.2.2) ++ (cTr trh tra trb trc cy.1 tr)) := hD
  refine lv_aload_n hx hb dX4_begin_20 rfl (lv_at hl 0 rfl) ?_
  refine lv_iconst (v := 0) hx hb dX4_begin_21 (by decide) ?_
  refine va_put (D := D) (ci := 4) (v := .int 0) (ty := .int) (C := RX4) (T := TX4) (N := 5) hx hb hts hiX4 tyX4 tyX4_ok nmX4 hown hE.1 hP hD hS 0 rfl rfl 4 (by decide) (hts (.fieldLink RX4 30 "TiltTray$Spot" "tilts" "I") (by decide +kernel)) (fun _ h9 => h9) rfl (by decide +kernel) rfl rfl (Nat.le_of_ble_eq_true rfl) dX4_begin_22 (fun H locs hP hD hS => ?_)
  have hP : va_P D vwCl (cSp sph spa cy.1 (sp.1, tr.1 (0 : Int32).toNatClampNeg, 0, 0, 0) ++ (cTr trh tra trb trc cy.1 tr)) H := hP
  have hD : va_D A (cSp sph spa cy.1 (sp.1, tr.1 (0 : Int32).toNatClampNeg, 0, 0, 0) ++ (cTr trh tra trb trc cy.1 tr)) := hD
  refine lv_iconst (v := 0) hx hb dX4_begin_25 (by decide) ?_
  refine lv_istore_n (lv' := [(2, .int 0), (0, .ref sph), (1, .ref trh)]) hx hb dX4_begin_26 rfl hl (by decide) rfl (fun ls hl => ?_)
  exact L27 5 0 (sp.1, tr.1 (0 : Int32).toNatClampNeg, 0, 0, 0) _ _ _ (lv_sub hl [1, 2, 0] rfl) hP hD hS h
