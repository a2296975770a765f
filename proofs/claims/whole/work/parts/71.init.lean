theorem arr_cong (cA : ClassId) {N : Nat} {z z' : Nat → Value} (h : ∀ j, j < N → z j = z' j) : arrV cA N z = arrV cA N z' := by
  have e : (fun j : Fin N => z j.val) = (fun j : Fin N => z' j.val) := funext (fun j => h j.val j.isLt)
  unfold arrV
  rw [e]
theorem at_ref {D : va_G} {cl : List vw_C} {r N : Nat} {cS : ClassId} {g g' : Nat → Option Nat} {H : Heap} (h : va_at D cl (r, .inl (cS, N, .inr (.inr (.inr (.inr g))))) H) (e : ∀ j, j < N → g j = g' j) : va_at D cl (r, .inl (cS, N, .inr (.inr (.inr (.inr g'))))) H := by
  have h1 : H[r]? = some (vp_cell cS (N, .inr (.inr (.inr (.inr g))))) := h
  show H[r]? = some (vp_cell cS (N, .inr (.inr (.inr (.inr g')))))
  rw [h1, vp_cell_q, vp_cell_q]
  exact congrArg some (arr_cong cS (fun j hj => by rw [e j hj]))
theorem P_ref {D : va_G} {cl : List vw_C} {o : Nat × va_E} {X : va_W} {r N : Nat} {cS : ClassId} {g g' : Nat → Option Nat} {H : Heap} (h : va_P D cl (o :: (r, .inl (cS, N, .inr (.inr (.inr (.inr g))))) :: X) H) (e : ∀ j, j < N → g j = g' j) : va_P D cl (o :: (r, .inl (cS, N, .inr (.inr (.inr (.inr g'))))) :: X) H := by
  refine PM.mpr (fun q hq => ?_)
  rcases List.mem_cons.mp hq with rfl | hq
  · exact PM.mp h _ List.mem_cons_self
  · rcases List.mem_cons.mp hq with rfl | hq
    · exact at_ref (PM.mp h _ (List.mem_cons_of_mem _ List.mem_cons_self)) e
    · exact PM.mp h _ (List.mem_cons_of_mem _ (List.mem_cons_of_mem _ hq))
theorem cSps_cong3 {ha hb ha' hb' : Nat → Nat} {cI : ClassId} {f f' : Nat → SpS} : ∀ n, (∀ j, j < n → ha j = ha' j ∧ hb j = hb' j ∧ f j = f' j) → cSps ha hb cI f n = cSps ha' hb' cI f' n
  | 0, _ => rfl
  | n + 1, h => by
    rw [cSps, cSps, cSps_cong3 n (fun j hj => h j (by omega)), (h n (by omega)).1, (h n (by omega)).2.1, (h n (by omega)).2.2]
theorem cSps_push (ha hb : Nat → Nat) (cI : ClassId) (f : Nat → SpS) (n q a : Nat) (x : SpS) : cSps ha hb cI f n ++ cSp q a cI x = cSps (va_up ha n q) (va_up hb n a) cI (va_up f n x) (n + 1) := by
  rw [cSps, up_s, up_s, up_s]
  congr 1
  refine cSps_cong3 n (fun j hj => ?_)
  rw [up_n (by omega), up_n (by omega), up_n (by omega)]
  exact ⟨rfl, rfl, rfl⟩
def gSp (cy : Cy) (h : Nat) (w : va_W) : Prop := ∃ (a : Nat) (f : Nat → Int32), (∀ j, j < 4 → f j = -1) ∧ w = cSp h a cy.1 (f, 0, 0, 0, 0)
def gTr (cy : Cy) (h : Nat) (w : va_W) : Prop := ∃ (a b c : Nat), w = cTr h a b c cy.1 (fun _ => 0, fun _ => 0, fun _ => 0, 0, 0)
def gPa (cy : Cy) (h : Nat) (w : va_W) : Prop := ∃ (a b : Nat), w = cPa h a b cy.1 (fun _ => 0) (fun _ => 0)
def gSi (cy : Cy) (h : Nat) (w : va_W) : Prop := ∃ (a b c : Nat), w = cSi h a b c cy.1 (fun _ => 0) (fun _ => 0) (fun _ => 0) 0
def gAc (cy : Cy) (h : Nat) (w : va_W) : Prop := ∃ (r : Nat) (ha hb : Nat → Nat) (f : Nat → SpS), w = cAc h r ha cy.2.2.2.1 0 0 ++ cSps ha hb cy.1 f 14
def gSe (cy : Cy) (h : Nat) (w : va_W) : Prop := ∃ (r : Nat) (ha hb : Nat → Nat) (f : Nat → SpS), w = cSe h r ha cy.2.2.2.1 0 0 0 ++ cSps ha hb cy.1 f 6
def gMd (cy : Cy) (h : Nat) (w : va_W) : Prop := ∃ (a0 a1 a2 a3 a4 a5 a6 a7 a8 a9 a10 a11 a12 : Nat), w = cMd h a0 a1 a2 a3 a4 a5 a6 a7 a8 a9 a10 a11 a12 cy.1 cy.2.2.1 0 (fun _ => 0) (fun _ => 0) (fun _ => 0) (fun _ => 0) (fun _ => 0) (fun _ => 0) (fun _ => 0) 0 0 0 15 0 0 0 (fun _ => 0) 0 0 (fun _ => 0) (fun _ => 0) (fun _ => 0) 0 (fun _ => 0) (fun _ => 0)

set_option maxHeartbeats 4000000 in
set_option maxRecDepth 100000 in
theorem n_X4 (l : Launch) (D : va_G) (cy : Cy) (h : Nat) : Cn l yX4_init wsX4_init 1 12 1 4 D cy h 4 [.null, .int 0, .int 0, .int 0, .int 0] (gSp cy h) := by
  refine Cn.ofW (cc := cX4_init) (maxL := 1) (by decide) rfl rfl (by decide) ?_
  intro p e s m args below meth c A ls hx hb hr hml hts hown hin hlocks hE hO hP hD hS hA hl
  have hiX4 : ∀ w ∈ u_ws RX4 TX4 5, w ∈ wsX4_init := by decide +kernel
  refine lv_aload_n hx hb dX4_init_0 rfl (lv_at hl 0 rfl) ?_
  refine W.objInit hx hb hown (hts (.methodLink RX4 3 objectInit) (by decide +kernel)) (hts (.instanceMethod objectInit) (by decide +kernel)) (hts _ (List.mem_cons_of_mem _ (List.mem_of_getElem? (i := 2) rfl))) rfl (by rw [hml]; exact hl.1) rfl dX4_init_1 (Nat.le_of_ble_eq_true rfl) (Nat.le_of_ble_eq_true rfl) ?_
  refine W.eq (g2 := F0 m 4 ls []) rfl ?_
  refine lv_aload_n hx hb dX4_init_4 rfl (lv_at hl 0 rfl) ?_
  refine lv_iconst (v := 4) hx hb dX4_init_5 (by decide) ?_
  refine nA (atype := .int) (tq := 0) (cA0 := cy.1) (N' := 4) (a0 := (4, .inl (fun _ => 0))) hx hb (hts (.arrayClass .int) (by decide +kernel)) rfl hE rfl (fun C z => by cases z) hP hD hS hA (fun _ => rfl) (by decide) (by decide) (by decide) (Nat.le_of_ble_eq_true rfl) (Nat.le_of_ble_eq_true rfl) dX4_init_6 (fun q0 H hP hD hS => ?_)
  refine W.widen (k := 1) (n := 4) (Nat.le_of_ble_eq_true rfl) (Nat.le_of_ble_eq_true rfl) ?_
  have hP : va_P D vwCl [(h, .inr (4, [.null, .int 0, .int 0, .int 0, .int 0])), (q0, .inl (cy.1, 4, .inl (fun _ => 0)))] H := hP
  have hD : va_D A [(h, .inr (4, [.null, .int 0, .int 0, .int 0, .int 0])), (q0, .inl (cy.1, 4, .inl (fun _ => 0)))] := hD
  refine lv_dup hx hb dX4_init_8 rfl ?_
  refine lv_iconst (v := 0) hx hb dX4_init_9 (by decide) ?_
  refine lv_iconst (v := -1) hx hb dX4_init_10 (by decide) ?_
  refine va_iast hx hb hE.1 hP hD hS 1 0 rfl rfl (ix_in (by decide)) dX4_init_11 (fun H locs hP hD hS => ?_)
  have hP : va_P D vwCl [(h, .inr (4, [.null, .int 0, .int 0, .int 0, .int 0])), (q0, .inl (cy.1, 4, .inl (upd (fun _ => 0) (0 : Int32).toNatClampNeg (-1))))] H := hP
  have hD : va_D A [(h, .inr (4, [.null, .int 0, .int 0, .int 0, .int 0])), (q0, .inl (cy.1, 4, .inl (upd (fun _ => 0) (0 : Int32).toNatClampNeg (-1))))] := hD
  refine lv_dup hx hb dX4_init_12 rfl ?_
  refine lv_iconst (v := 1) hx hb dX4_init_13 (by decide) ?_
  refine lv_iconst (v := -1) hx hb dX4_init_14 (by decide) ?_
  refine va_iast hx hb hE.1 hP hD hS 1 0 rfl rfl (ix_in (by decide)) dX4_init_15 (fun H locs hP hD hS => ?_)
  have hP : va_P D vwCl [(h, .inr (4, [.null, .int 0, .int 0, .int 0, .int 0])), (q0, .inl (cy.1, 4, .inl (upd (upd (fun _ => 0) (0 : Int32).toNatClampNeg (-1)) (1 : Int32).toNatClampNeg (-1))))] H := hP
  have hD : va_D A [(h, .inr (4, [.null, .int 0, .int 0, .int 0, .int 0])), (q0, .inl (cy.1, 4, .inl (upd (upd (fun _ => 0) (0 : Int32).toNatClampNeg (-1)) (1 : Int32).toNatClampNeg (-1))))] := hD
  refine lv_dup hx hb dX4_init_16 rfl ?_
  refine lv_iconst (v := 2) hx hb dX4_init_17 (by decide) ?_
  refine lv_iconst (v := -1) hx hb dX4_init_18 (by decide) ?_
  refine va_iast hx hb hE.1 hP hD hS 1 0 rfl rfl (ix_in (by decide)) dX4_init_19 (fun H locs hP hD hS => ?_)
  have hP : va_P D vwCl [(h, .inr (4, [.null, .int 0, .int 0, .int 0, .int 0])), (q0, .inl (cy.1, 4, .inl (upd (upd (upd (fun _ => 0) (0 : Int32).toNatClampNeg (-1)) (1 : Int32).toNatClampNeg (-1)) (2 : Int32).toNatClampNeg (-1))))] H := hP
  have hD : va_D A [(h, .inr (4, [.null, .int 0, .int 0, .int 0, .int 0])), (q0, .inl (cy.1, 4, .inl (upd (upd (upd (fun _ => 0) (0 : Int32).toNatClampNeg (-1)) (1 : Int32).toNatClampNeg (-1)) (2 : Int32).toNatClampNeg (-1))))] := hD
  refine lv_dup hx hb dX4_init_20 rfl ?_
  refine lv_iconst (v := 3) hx hb dX4_init_21 (by decide) ?_
  refine lv_iconst (v := -1) hx hb dX4_init_22 (by decide) ?_
  refine va_iast hx hb hE.1 hP hD hS 1 0 rfl rfl (ix_in (by decide)) dX4_init_23 (fun H locs hP hD hS => ?_)
  have hP : va_P D vwCl [(h, .inr (4, [.null, .int 0, .int 0, .int 0, .int 0])), (q0, .inl (cy.1, 4, .inl (upd (upd (upd (upd (fun _ => 0) (0 : Int32).toNatClampNeg (-1)) (1 : Int32).toNatClampNeg (-1)) (2 : Int32).toNatClampNeg (-1)) (3 : Int32).toNatClampNeg (-1))))] H := hP
  have hD : va_D A [(h, .inr (4, [.null, .int 0, .int 0, .int 0, .int 0])), (q0, .inl (cy.1, 4, .inl (upd (upd (upd (upd (fun _ => 0) (0 : Int32).toNatClampNeg (-1)) (1 : Int32).toNatClampNeg (-1)) (2 : Int32).toNatClampNeg (-1)) (3 : Int32).toNatClampNeg (-1))))] := hD
  refine va_putF (D := D) (ci := 4) (v := .ref q0) (ty := .array .int) (C := RX4) (T := TX4) (N := 5) hx hb hts hiX4 tyX4 tyX4_ok nmX4 hown hE.1 hP hD hS 0 rfl rfl 0 (by decide) (hts (.fieldLink RX4 9 "TiltTray$Spot" "at" "[I") (by decide +kernel)) (fun _ h9 => h9) rfl hin rfl (by decide +kernel) rfl rfl (Nat.le_of_ble_eq_true rfl) dX4_init_24 (fun H locs hP hD hS => ?_)
  have hP : va_P D vwCl [(h, .inr (4, [.ref q0, .int 0, .int 0, .int 0, .int 0])), (q0, .inl (cy.1, 4, .inl (upd (upd (upd (upd (fun _ => 0) (0 : Int32).toNatClampNeg (-1)) (1 : Int32).toNatClampNeg (-1)) (2 : Int32).toNatClampNeg (-1)) (3 : Int32).toNatClampNeg (-1))))] H := hP
  have hD : va_D A [(h, .inr (4, [.ref q0, .int 0, .int 0, .int 0, .int 0])), (q0, .inl (cy.1, 4, .inl (upd (upd (upd (upd (fun _ => 0) (0 : Int32).toNatClampNeg (-1)) (1 : Int32).toNatClampNeg (-1)) (2 : Int32).toNatClampNeg (-1)) (3 : Int32).toNatClampNeg (-1))))] := hD
  exact cn_ret hx hb hr hlocks ⟨q0, _, by decide +kernel, rfl⟩ hP hD hS dX4_init_27

set_option maxHeartbeats 4000000 in
set_option maxRecDepth 100000 in
theorem n_X5 (l : Launch) (D : va_G) (cy : Cy) (h : Nat) : Cn l yX5_init wsX5_init 1 12 3 13 D cy h 5 [.null, .null, .null, .int 0, .int 0] (gTr cy h) := by
  refine Cn.ofW (cc := cX5_init) (maxL := 1) (by decide) rfl rfl (by decide) ?_
  intro p e s m args below meth c A ls hx hb hr hml hts hown hin hlocks hE hO hP hD hS hA hl
  have hiX5 : ∀ w ∈ u_ws RX5 TX5 5, w ∈ wsX5_init := by decide +kernel
  refine lv_aload_n hx hb dX5_init_0 rfl (lv_at hl 0 rfl) ?_
  refine W.objInit hx hb hown (hts (.methodLink RX5 3 objectInit) (by decide +kernel)) (hts (.instanceMethod objectInit) (by decide +kernel)) (hts _ (List.mem_cons_of_mem _ (List.mem_of_getElem? (i := 2) rfl))) rfl (by rw [hml]; exact hl.1) rfl dX5_init_1 (Nat.le_of_ble_eq_true rfl) (Nat.le_of_ble_eq_true rfl) ?_
  refine W.eq (g2 := F0 m 4 ls []) rfl ?_
  refine lv_aload_n hx hb dX5_init_4 rfl (lv_at hl 0 rfl) ?_
  refine lv_iconst (v := 5) hx hb dX5_init_5 (by decide) ?_
  refine nA (atype := .int) (tq := 0) (cA0 := cy.1) (N' := 5) (a0 := (5, .inl (fun _ => 0))) hx hb (hts (.arrayClass .int) (by decide +kernel)) rfl hE rfl (fun C z => by cases z) hP hD hS hA (fun _ => rfl) (by decide) (by decide) (by decide) (Nat.le_of_ble_eq_true rfl) (Nat.le_of_ble_eq_true rfl) dX5_init_6 (fun q0 H hP hD hS => ?_)
  refine W.widen (k := 1) (n := 5) (Nat.le_of_ble_eq_true rfl) (Nat.le_of_ble_eq_true rfl) ?_
  have hP : va_P D vwCl [(h, .inr (5, [.null, .null, .null, .int 0, .int 0])), (q0, .inl (cy.1, 5, .inl (fun _ => 0)))] H := hP
  have hD : va_D A [(h, .inr (5, [.null, .null, .null, .int 0, .int 0])), (q0, .inl (cy.1, 5, .inl (fun _ => 0)))] := hD
  refine va_putF (D := D) (ci := 5) (v := .ref q0) (ty := .array .int) (C := RX5) (T := TX5) (N := 5) hx hb hts hiX5 tyX5 tyX5_ok nmX5 hown hE.1 hP hD hS 0 rfl rfl 0 (by decide) (hts (.fieldLink RX5 9 "TiltTray$Tray" "told" "[I") (by decide +kernel)) (fun _ h9 => h9) rfl hin rfl (by decide +kernel) rfl rfl (Nat.le_of_ble_eq_true rfl) dX5_init_8 (fun H locs hP hD hS => ?_)
  have hP : va_P D vwCl [(h, .inr (5, [.ref q0, .null, .null, .int 0, .int 0])), (q0, .inl (cy.1, 5, .inl (fun _ => 0)))] H := hP
  have hD : va_D A [(h, .inr (5, [.ref q0, .null, .null, .int 0, .int 0])), (q0, .inl (cy.1, 5, .inl (fun _ => 0)))] := hD
  refine lv_aload_n hx hb dX5_init_11 rfl (lv_at hl 0 rfl) ?_
  refine lv_iconst (v := 4) hx hb dX5_init_12 (by decide) ?_
  refine nA (atype := .int) (tq := 0) (cA0 := cy.1) (N' := 4) (a0 := (4, .inl (fun _ => 0))) hx hb (hts (.arrayClass .int) (by decide +kernel)) rfl hE rfl (fun C z => by cases z) hP hD hS hA (fun _ => rfl) (by decide) (by decide) (by decide) (Nat.le_of_ble_eq_true rfl) (Nat.le_of_ble_eq_true rfl) dX5_init_13 (fun q1 H hP hD hS => ?_)
  refine W.widen (k := 2) (n := 9) (Nat.le_of_ble_eq_true rfl) (Nat.le_of_ble_eq_true rfl) ?_
  have hP : va_P D vwCl [(h, .inr (5, [.ref q0, .null, .null, .int 0, .int 0])), (q0, .inl (cy.1, 5, .inl (fun _ => 0))), (q1, .inl (cy.1, 4, .inl (fun _ => 0)))] H := hP
  have hD : va_D A [(h, .inr (5, [.ref q0, .null, .null, .int 0, .int 0])), (q0, .inl (cy.1, 5, .inl (fun _ => 0))), (q1, .inl (cy.1, 4, .inl (fun _ => 0)))] := hD
  refine va_putF (D := D) (ci := 5) (v := .ref q1) (ty := .array .int) (C := RX5) (T := TX5) (N := 5) hx hb hts hiX5 tyX5 tyX5_ok nmX5 hown hE.1 hP hD hS 0 rfl rfl 1 (by decide) (hts (.fieldLink RX5 15 "TiltTray$Tray" "kind" "[I") (by decide +kernel)) (fun _ h9 => h9) rfl hin rfl (by decide +kernel) rfl rfl (Nat.le_of_ble_eq_true rfl) dX5_init_15 (fun H locs hP hD hS => ?_)
  have hP : va_P D vwCl [(h, .inr (5, [.ref q0, .ref q1, .null, .int 0, .int 0])), (q0, .inl (cy.1, 5, .inl (fun _ => 0))), (q1, .inl (cy.1, 4, .inl (fun _ => 0)))] H := hP
  have hD : va_D A [(h, .inr (5, [.ref q0, .ref q1, .null, .int 0, .int 0])), (q0, .inl (cy.1, 5, .inl (fun _ => 0))), (q1, .inl (cy.1, 4, .inl (fun _ => 0)))] := hD
  refine lv_aload_n hx hb dX5_init_18 rfl (lv_at hl 0 rfl) ?_
  refine lv_iconst (v := 4) hx hb dX5_init_19 (by decide) ?_
  refine nA (atype := .int) (tq := 0) (cA0 := cy.1) (N' := 4) (a0 := (4, .inl (fun _ => 0))) hx hb (hts (.arrayClass .int) (by decide +kernel)) rfl hE rfl (fun C z => by cases z) hP hD hS hA (fun _ => rfl) (by decide) (by decide) (by decide) (Nat.le_of_ble_eq_true rfl) (Nat.le_of_ble_eq_true rfl) dX5_init_20 (fun q2 H hP hD hS => ?_)
  refine W.widen (k := 3) (n := 13) (Nat.le_of_ble_eq_true rfl) (Nat.le_of_ble_eq_true rfl) ?_
  have hP : va_P D vwCl [(h, .inr (5, [.ref q0, .ref q1, .null, .int 0, .int 0])), (q0, .inl (cy.1, 5, .inl (fun _ => 0))), (q1, .inl (cy.1, 4, .inl (fun _ => 0))), (q2, .inl (cy.1, 4, .inl (fun _ => 0)))] H := hP
  have hD : va_D A [(h, .inr (5, [.ref q0, .ref q1, .null, .int 0, .int 0])), (q0, .inl (cy.1, 5, .inl (fun _ => 0))), (q1, .inl (cy.1, 4, .inl (fun _ => 0))), (q2, .inl (cy.1, 4, .inl (fun _ => 0)))] := hD
  refine va_putF (D := D) (ci := 5) (v := .ref q2) (ty := .array .int) (C := RX5) (T := TX5) (N := 5) hx hb hts hiX5 tyX5 tyX5_ok nmX5 hown hE.1 hP hD hS 0 rfl rfl 2 (by decide) (hts (.fieldLink RX5 18 "TiltTray$Tray" "start" "[I") (by decide +kernel)) (fun _ h9 => h9) rfl hin rfl (by decide +kernel) rfl rfl (Nat.le_of_ble_eq_true rfl) dX5_init_22 (fun H locs hP hD hS => ?_)
  have hP : va_P D vwCl [(h, .inr (5, [.ref q0, .ref q1, .ref q2, .int 0, .int 0])), (q0, .inl (cy.1, 5, .inl (fun _ => 0))), (q1, .inl (cy.1, 4, .inl (fun _ => 0))), (q2, .inl (cy.1, 4, .inl (fun _ => 0)))] H := hP
  have hD : va_D A [(h, .inr (5, [.ref q0, .ref q1, .ref q2, .int 0, .int 0])), (q0, .inl (cy.1, 5, .inl (fun _ => 0))), (q1, .inl (cy.1, 4, .inl (fun _ => 0))), (q2, .inl (cy.1, 4, .inl (fun _ => 0)))] := hD
  exact cn_ret hx hb hr hlocks ⟨q0, q1, q2, rfl⟩ hP hD hS dX5_init_25

set_option maxHeartbeats 4000000 in
set_option maxRecDepth 100000 in
theorem n_X1 (l : Launch) (D : va_G) (cy : Cy) (h : Nat) : Cn l yX1_init wsX1_init 1 12 2 32 D cy h 1 [.null, .null] (gPa cy h) := by
  refine Cn.ofW (cc := cX1_init) (maxL := 1) (by decide) rfl rfl (by decide) ?_
  intro p e s m args below meth c A ls hx hb hr hml hts hown hin hlocks hE hO hP hD hS hA hl
  have hiX1 : ∀ w ∈ u_ws RX1 TX1 2, w ∈ wsX1_init := by decide +kernel
  refine lv_aload_n hx hb dX1_init_0 rfl (lv_at hl 0 rfl) ?_
  refine W.objInit hx hb hown (hts (.methodLink RX1 3 objectInit) (by decide +kernel)) (hts (.instanceMethod objectInit) (by decide +kernel)) (hts _ (List.mem_cons_of_mem _ (List.mem_of_getElem? (i := 2) rfl))) rfl (by rw [hml]; exact hl.1) rfl dX1_init_1 (Nat.le_of_ble_eq_true rfl) (Nat.le_of_ble_eq_true rfl) ?_
  refine W.eq (g2 := F0 m 4 ls []) rfl ?_
  refine lv_aload_n hx hb dX1_init_4 rfl (lv_at hl 0 rfl) ?_
  refine lv_bipush (v := 16) hx hb dX1_init_5 (by decide) ?_
  refine nA (atype := .int) (tq := 0) (cA0 := cy.1) (N' := 16) (a0 := (16, .inl (fun _ => 0))) hx hb (hts (.arrayClass .int) (by decide +kernel)) rfl hE rfl (fun C z => by cases z) hP hD hS hA (fun _ => rfl) (by decide) (by decide) (by decide) (Nat.le_of_ble_eq_true rfl) (Nat.le_of_ble_eq_true rfl) dX1_init_7 (fun q0 H hP hD hS => ?_)
  refine W.widen (k := 1) (n := 16) (Nat.le_of_ble_eq_true rfl) (Nat.le_of_ble_eq_true rfl) ?_
  have hP : va_P D vwCl [(h, .inr (1, [.null, .null])), (q0, .inl (cy.1, 16, .inl (fun _ => 0)))] H := hP
  have hD : va_D A [(h, .inr (1, [.null, .null])), (q0, .inl (cy.1, 16, .inl (fun _ => 0)))] := hD
  refine va_putF (D := D) (ci := 1) (v := .ref q0) (ty := .array .int) (C := RX1) (T := TX1) (N := 2) hx hb hts hiX1 tyX1 tyX1_ok nmX1 hown hE.1 hP hD hS 0 rfl rfl 0 (by decide) (hts (.fieldLink RX1 9 "TiltTray$Pairs" "ofOne" "[I") (by decide +kernel)) (fun _ h9 => h9) rfl hin rfl (by decide +kernel) rfl rfl (Nat.le_of_ble_eq_true rfl) dX1_init_9 (fun H locs hP hD hS => ?_)
  have hP : va_P D vwCl [(h, .inr (1, [.ref q0, .null])), (q0, .inl (cy.1, 16, .inl (fun _ => 0)))] H := hP
  have hD : va_D A [(h, .inr (1, [.ref q0, .null])), (q0, .inl (cy.1, 16, .inl (fun _ => 0)))] := hD
  refine lv_aload_n hx hb dX1_init_12 rfl (lv_at hl 0 rfl) ?_
  refine lv_bipush (v := 16) hx hb dX1_init_13 (by decide) ?_
  refine nA (atype := .int) (tq := 0) (cA0 := cy.1) (N' := 16) (a0 := (16, .inl (fun _ => 0))) hx hb (hts (.arrayClass .int) (by decide +kernel)) rfl hE rfl (fun C z => by cases z) hP hD hS hA (fun _ => rfl) (by decide) (by decide) (by decide) (Nat.le_of_ble_eq_true rfl) (Nat.le_of_ble_eq_true rfl) dX1_init_15 (fun q1 H hP hD hS => ?_)
  refine W.widen (k := 2) (n := 32) (Nat.le_of_ble_eq_true rfl) (Nat.le_of_ble_eq_true rfl) ?_
  have hP : va_P D vwCl [(h, .inr (1, [.ref q0, .null])), (q0, .inl (cy.1, 16, .inl (fun _ => 0))), (q1, .inl (cy.1, 16, .inl (fun _ => 0)))] H := hP
  have hD : va_D A [(h, .inr (1, [.ref q0, .null])), (q0, .inl (cy.1, 16, .inl (fun _ => 0))), (q1, .inl (cy.1, 16, .inl (fun _ => 0)))] := hD
  refine va_putF (D := D) (ci := 1) (v := .ref q1) (ty := .array .int) (C := RX1) (T := TX1) (N := 2) hx hb hts hiX1 tyX1 tyX1_ok nmX1 hown hE.1 hP hD hS 0 rfl rfl 1 (by decide) (hts (.fieldLink RX1 15 "TiltTray$Pairs" "ofOther" "[I") (by decide +kernel)) (fun _ h9 => h9) rfl hin rfl (by decide +kernel) rfl rfl (Nat.le_of_ble_eq_true rfl) dX1_init_17 (fun H locs hP hD hS => ?_)
  have hP : va_P D vwCl [(h, .inr (1, [.ref q0, .ref q1])), (q0, .inl (cy.1, 16, .inl (fun _ => 0))), (q1, .inl (cy.1, 16, .inl (fun _ => 0)))] H := hP
  have hD : va_D A [(h, .inr (1, [.ref q0, .ref q1])), (q0, .inl (cy.1, 16, .inl (fun _ => 0))), (q1, .inl (cy.1, 16, .inl (fun _ => 0)))] := hD
  exact cn_ret hx hb hr hlocks ⟨q0, q1, rfl⟩ hP hD hS dX1_init_20

set_option maxHeartbeats 4000000 in
set_option maxRecDepth 100000 in
theorem n_X3 (l : Launch) (D : va_G) (cy : Cy) (h : Nat) : Cn l yX3_init wsX3_init 1 12 3 18 D cy h 3 [.null, .null, .null, .int 0] (gSi cy h) := by
  refine Cn.ofW (cc := cX3_init) (maxL := 1) (by decide) rfl rfl (by decide) ?_
  intro p e s m args below meth c A ls hx hb hr hml hts hown hin hlocks hE hO hP hD hS hA hl
  have hiX3 : ∀ w ∈ u_ws RX3 TX3 4, w ∈ wsX3_init := by decide +kernel
  refine lv_aload_n hx hb dX3_init_0 rfl (lv_at hl 0 rfl) ?_
  refine W.objInit hx hb hown (hts (.methodLink RX3 3 objectInit) (by decide +kernel)) (hts (.instanceMethod objectInit) (by decide +kernel)) (hts _ (List.mem_cons_of_mem _ (List.mem_of_getElem? (i := 2) rfl))) rfl (by rw [hml]; exact hl.1) rfl dX3_init_1 (Nat.le_of_ble_eq_true rfl) (Nat.le_of_ble_eq_true rfl) ?_
  refine W.eq (g2 := F0 m 4 ls []) rfl ?_
  refine lv_aload_n hx hb dX3_init_4 rfl (lv_at hl 0 rfl) ?_
  refine lv_bipush (v := 6) hx hb dX3_init_5 (by decide) ?_
  refine nA (atype := .int) (tq := 0) (cA0 := cy.1) (N' := 6) (a0 := (6, .inl (fun _ => 0))) hx hb (hts (.arrayClass .int) (by decide +kernel)) rfl hE rfl (fun C z => by cases z) hP hD hS hA (fun _ => rfl) (by decide) (by decide) (by decide) (Nat.le_of_ble_eq_true rfl) (Nat.le_of_ble_eq_true rfl) dX3_init_7 (fun q0 H hP hD hS => ?_)
  refine W.widen (k := 1) (n := 6) (Nat.le_of_ble_eq_true rfl) (Nat.le_of_ble_eq_true rfl) ?_
  have hP : va_P D vwCl [(h, .inr (3, [.null, .null, .null, .int 0])), (q0, .inl (cy.1, 6, .inl (fun _ => 0)))] H := hP
  have hD : va_D A [(h, .inr (3, [.null, .null, .null, .int 0])), (q0, .inl (cy.1, 6, .inl (fun _ => 0)))] := hD
  refine va_putF (D := D) (ci := 3) (v := .ref q0) (ty := .array .int) (C := RX3) (T := TX3) (N := 4) hx hb hts hiX3 tyX3 tyX3_ok nmX3 hown hE.1 hP hD hS 0 rfl rfl 0 (by decide) (hts (.fieldLink RX3 9 "TiltTray$Sights" "cell" "[I") (by decide +kernel)) (fun _ h9 => h9) rfl hin rfl (by decide +kernel) rfl rfl (Nat.le_of_ble_eq_true rfl) dX3_init_9 (fun H locs hP hD hS => ?_)
  have hP : va_P D vwCl [(h, .inr (3, [.ref q0, .null, .null, .int 0])), (q0, .inl (cy.1, 6, .inl (fun _ => 0)))] H := hP
  have hD : va_D A [(h, .inr (3, [.ref q0, .null, .null, .int 0])), (q0, .inl (cy.1, 6, .inl (fun _ => 0)))] := hD
  refine lv_aload_n hx hb dX3_init_12 rfl (lv_at hl 0 rfl) ?_
  refine lv_bipush (v := 6) hx hb dX3_init_13 (by decide) ?_
  refine nA (atype := .int) (tq := 0) (cA0 := cy.1) (N' := 6) (a0 := (6, .inl (fun _ => 0))) hx hb (hts (.arrayClass .int) (by decide +kernel)) rfl hE rfl (fun C z => by cases z) hP hD hS hA (fun _ => rfl) (by decide) (by decide) (by decide) (Nat.le_of_ble_eq_true rfl) (Nat.le_of_ble_eq_true rfl) dX3_init_15 (fun q1 H hP hD hS => ?_)
  refine W.widen (k := 2) (n := 12) (Nat.le_of_ble_eq_true rfl) (Nat.le_of_ble_eq_true rfl) ?_
  have hP : va_P D vwCl [(h, .inr (3, [.ref q0, .null, .null, .int 0])), (q0, .inl (cy.1, 6, .inl (fun _ => 0))), (q1, .inl (cy.1, 6, .inl (fun _ => 0)))] H := hP
  have hD : va_D A [(h, .inr (3, [.ref q0, .null, .null, .int 0])), (q0, .inl (cy.1, 6, .inl (fun _ => 0))), (q1, .inl (cy.1, 6, .inl (fun _ => 0)))] := hD
  refine va_putF (D := D) (ci := 3) (v := .ref q1) (ty := .array .int) (C := RX3) (T := TX3) (N := 4) hx hb hts hiX3 tyX3 tyX3_ok nmX3 hown hE.1 hP hD hS 0 rfl rfl 1 (by decide) (hts (.fieldLink RX3 15 "TiltTray$Sights" "way" "[I") (by decide +kernel)) (fun _ h9 => h9) rfl hin rfl (by decide +kernel) rfl rfl (Nat.le_of_ble_eq_true rfl) dX3_init_17 (fun H locs hP hD hS => ?_)
  have hP : va_P D vwCl [(h, .inr (3, [.ref q0, .ref q1, .null, .int 0])), (q0, .inl (cy.1, 6, .inl (fun _ => 0))), (q1, .inl (cy.1, 6, .inl (fun _ => 0)))] H := hP
  have hD : va_D A [(h, .inr (3, [.ref q0, .ref q1, .null, .int 0])), (q0, .inl (cy.1, 6, .inl (fun _ => 0))), (q1, .inl (cy.1, 6, .inl (fun _ => 0)))] := hD
  refine lv_aload_n hx hb dX3_init_20 rfl (lv_at hl 0 rfl) ?_
  refine lv_bipush (v := 6) hx hb dX3_init_21 (by decide) ?_
  refine nA (atype := .int) (tq := 0) (cA0 := cy.1) (N' := 6) (a0 := (6, .inl (fun _ => 0))) hx hb (hts (.arrayClass .int) (by decide +kernel)) rfl hE rfl (fun C z => by cases z) hP hD hS hA (fun _ => rfl) (by decide) (by decide) (by decide) (Nat.le_of_ble_eq_true rfl) (Nat.le_of_ble_eq_true rfl) dX3_init_23 (fun q2 H hP hD hS => ?_)
  refine W.widen (k := 3) (n := 18) (Nat.le_of_ble_eq_true rfl) (Nat.le_of_ble_eq_true rfl) ?_
  have hP : va_P D vwCl [(h, .inr (3, [.ref q0, .ref q1, .null, .int 0])), (q0, .inl (cy.1, 6, .inl (fun _ => 0))), (q1, .inl (cy.1, 6, .inl (fun _ => 0))), (q2, .inl (cy.1, 6, .inl (fun _ => 0)))] H := hP
  have hD : va_D A [(h, .inr (3, [.ref q0, .ref q1, .null, .int 0])), (q0, .inl (cy.1, 6, .inl (fun _ => 0))), (q1, .inl (cy.1, 6, .inl (fun _ => 0))), (q2, .inl (cy.1, 6, .inl (fun _ => 0)))] := hD
  refine va_putF (D := D) (ci := 3) (v := .ref q2) (ty := .array .int) (C := RX3) (T := TX3) (N := 4) hx hb hts hiX3 tyX3 tyX3_ok nmX3 hown hE.1 hP hD hS 0 rfl rfl 2 (by decide) (hts (.fieldLink RX3 18 "TiltTray$Sights" "came" "[I") (by decide +kernel)) (fun _ h9 => h9) rfl hin rfl (by decide +kernel) rfl rfl (Nat.le_of_ble_eq_true rfl) dX3_init_25 (fun H locs hP hD hS => ?_)
  have hP : va_P D vwCl [(h, .inr (3, [.ref q0, .ref q1, .ref q2, .int 0])), (q0, .inl (cy.1, 6, .inl (fun _ => 0))), (q1, .inl (cy.1, 6, .inl (fun _ => 0))), (q2, .inl (cy.1, 6, .inl (fun _ => 0)))] H := hP
  have hD : va_D A [(h, .inr (3, [.ref q0, .ref q1, .ref q2, .int 0])), (q0, .inl (cy.1, 6, .inl (fun _ => 0))), (q1, .inl (cy.1, 6, .inl (fun _ => 0))), (q2, .inl (cy.1, 6, .inl (fun _ => 0)))] := hD
  exact cn_ret hx hb hr hlocks ⟨q0, q1, q2, rfl⟩ hP hD hS dX3_init_28

set_option maxHeartbeats 4000000 in
set_option maxRecDepth 100000 in
theorem n_X7 (l : Launch) (D : va_G) (cy : Cy) (h : Nat) : Cn l yX7_init wsX7_init 1 12 13 216 D cy h 7 [.int 0, .null, .null, .null, .null, .null, .null, .null, .int 0, .int 0, .int 0, .int 0, .int 0, .int 0, .int 0, .null, .int 0, .int 0, .null, .null, .null, .long 0, .null, .null] (gMd cy h) := by
  refine Cn.ofW (cc := cX7_init) (maxL := 1) (by decide) rfl rfl (by decide) ?_
  intro p e s m args below meth c A ls hx hb hr hml hts hown hin hlocks hE hO hP hD hS hA hl
  have hiX7 : ∀ w ∈ u_ws RX7 TX7 24, w ∈ wsX7_init := by decide +kernel
  refine lv_aload_n hx hb dX7_init_0 rfl (lv_at hl 0 rfl) ?_
  refine W.objInit hx hb hown (hts (.methodLink RX7 1 objectInit) (by decide +kernel)) (hts (.instanceMethod objectInit) (by decide +kernel)) (hts _ (List.mem_cons_of_mem _ (List.mem_of_getElem? (i := 2) rfl))) rfl (by rw [hml]; exact hl.1) rfl dX7_init_1 (Nat.le_of_ble_eq_true rfl) (Nat.le_of_ble_eq_true rfl) ?_
  refine W.eq (g2 := F0 m 4 ls []) rfl ?_
  refine lv_aload_n hx hb dX7_init_4 rfl (lv_at hl 0 rfl) ?_
  refine lv_iconst (v := 4) hx hb dX7_init_5 (by decide) ?_
  refine nA (atype := .int) (tq := 0) (cA0 := cy.1) (N' := 4) (a0 := (4, .inl (fun _ => 0))) hx hb (hts (.arrayClass .int) (by decide +kernel)) rfl hE rfl (fun C z => by cases z) hP hD hS hA (fun _ => rfl) (by decide) (by decide) (by decide) (Nat.le_of_ble_eq_true rfl) (Nat.le_of_ble_eq_true rfl) dX7_init_6 (fun q0 H hP hD hS => ?_)
  refine W.widen (k := 1) (n := 4) (Nat.le_of_ble_eq_true rfl) (Nat.le_of_ble_eq_true rfl) ?_
  have hP : va_P D vwCl [(h, .inr (7, [.int 0, .null, .null, .null, .null, .null, .null, .null, .int 0, .int 0, .int 0, .int 0, .int 0, .int 0, .int 0, .null, .int 0, .int 0, .null, .null, .null, .long 0, .null, .null])), (q0, .inl (cy.1, 4, .inl (fun _ => 0)))] H := hP
  have hD : va_D A [(h, .inr (7, [.int 0, .null, .null, .null, .null, .null, .null, .null, .int 0, .int 0, .int 0, .int 0, .int 0, .int 0, .int 0, .null, .int 0, .int 0, .null, .null, .null, .long 0, .null, .null])), (q0, .inl (cy.1, 4, .inl (fun _ => 0)))] := hD
  refine va_putF (D := D) (ci := 7) (v := .ref q0) (ty := .array .int) (C := RX7) (T := TX7) (N := 24) hx hb hts hiX7 tyX7 tyX7_ok nmX7 hown hE.1 hP hD hS 0 rfl rfl 1 (by decide) (hts (.fieldLink RX7 7 "TiltTrayModel" "kind" "[I") (by decide +kernel)) (fun _ h9 => h9) rfl hin rfl (by decide +kernel) rfl rfl (Nat.le_of_ble_eq_true rfl) dX7_init_8 (fun H locs hP hD hS => ?_)
  have hP : va_P D vwCl [(h, .inr (7, [.int 0, .ref q0, .null, .null, .null, .null, .null, .null, .int 0, .int 0, .int 0, .int 0, .int 0, .int 0, .int 0, .null, .int 0, .int 0, .null, .null, .null, .long 0, .null, .null])), (q0, .inl (cy.1, 4, .inl (fun _ => 0)))] H := hP
  have hD : va_D A [(h, .inr (7, [.int 0, .ref q0, .null, .null, .null, .null, .null, .null, .int 0, .int 0, .int 0, .int 0, .int 0, .int 0, .int 0, .null, .int 0, .int 0, .null, .null, .null, .long 0, .null, .null])), (q0, .inl (cy.1, 4, .inl (fun _ => 0)))] := hD
  refine lv_aload_n hx hb dX7_init_11 rfl (lv_at hl 0 rfl) ?_
  refine lv_iconst (v := 5) hx hb dX7_init_12 (by decide) ?_
  refine nA (atype := .int) (tq := 0) (cA0 := cy.1) (N' := 5) (a0 := (5, .inl (fun _ => 0))) hx hb (hts (.arrayClass .int) (by decide +kernel)) rfl hE rfl (fun C z => by cases z) hP hD hS hA (fun _ => rfl) (by decide) (by decide) (by decide) (Nat.le_of_ble_eq_true rfl) (Nat.le_of_ble_eq_true rfl) dX7_init_13 (fun q1 H hP hD hS => ?_)
  refine W.widen (k := 2) (n := 9) (Nat.le_of_ble_eq_true rfl) (Nat.le_of_ble_eq_true rfl) ?_
  have hP : va_P D vwCl [(h, .inr (7, [.int 0, .ref q0, .null, .null, .null, .null, .null, .null, .int 0, .int 0, .int 0, .int 0, .int 0, .int 0, .int 0, .null, .int 0, .int 0, .null, .null, .null, .long 0, .null, .null])), (q0, .inl (cy.1, 4, .inl (fun _ => 0))), (q1, .inl (cy.1, 5, .inl (fun _ => 0)))] H := hP
  have hD : va_D A [(h, .inr (7, [.int 0, .ref q0, .null, .null, .null, .null, .null, .null, .int 0, .int 0, .int 0, .int 0, .int 0, .int 0, .int 0, .null, .int 0, .int 0, .null, .null, .null, .long 0, .null, .null])), (q0, .inl (cy.1, 4, .inl (fun _ => 0))), (q1, .inl (cy.1, 5, .inl (fun _ => 0)))] := hD
  refine va_putF (D := D) (ci := 7) (v := .ref q1) (ty := .array .int) (C := RX7) (T := TX7) (N := 24) hx hb hts hiX7 tyX7 tyX7_ok nmX7 hown hE.1 hP hD hS 0 rfl rfl 2 (by decide) (hts (.fieldLink RX7 13 "TiltTrayModel" "told" "[I") (by decide +kernel)) (fun _ h9 => h9) rfl hin rfl (by decide +kernel) rfl rfl (Nat.le_of_ble_eq_true rfl) dX7_init_15 (fun H locs hP hD hS => ?_)
  have hP : va_P D vwCl [(h, .inr (7, [.int 0, .ref q0, .ref q1, .null, .null, .null, .null, .null, .int 0, .int 0, .int 0, .int 0, .int 0, .int 0, .int 0, .null, .int 0, .int 0, .null, .null, .null, .long 0, .null, .null])), (q0, .inl (cy.1, 4, .inl (fun _ => 0))), (q1, .inl (cy.1, 5, .inl (fun _ => 0)))] H := hP
  have hD : va_D A [(h, .inr (7, [.int 0, .ref q0, .ref q1, .null, .null, .null, .null, .null, .int 0, .int 0, .int 0, .int 0, .int 0, .int 0, .int 0, .null, .int 0, .int 0, .null, .null, .null, .long 0, .null, .null])), (q0, .inl (cy.1, 4, .inl (fun _ => 0))), (q1, .inl (cy.1, 5, .inl (fun _ => 0)))] := hD
  refine lv_aload_n hx hb dX7_init_18 rfl (lv_at hl 0 rfl) ?_
  refine lv_bipush (v := 14) hx hb dX7_init_19 (by decide) ?_
  refine nA (atype := .int) (tq := 0) (cA0 := cy.1) (N' := 14) (a0 := (14, .inl (fun _ => 0))) hx hb (hts (.arrayClass .int) (by decide +kernel)) rfl hE rfl (fun C z => by cases z) hP hD hS hA (fun _ => rfl) (by decide) (by decide) (by decide) (Nat.le_of_ble_eq_true rfl) (Nat.le_of_ble_eq_true rfl) dX7_init_21 (fun q2 H hP hD hS => ?_)
  refine W.widen (k := 3) (n := 23) (Nat.le_of_ble_eq_true rfl) (Nat.le_of_ble_eq_true rfl) ?_
  have hP : va_P D vwCl [(h, .inr (7, [.int 0, .ref q0, .ref q1, .null, .null, .null, .null, .null, .int 0, .int 0, .int 0, .int 0, .int 0, .int 0, .int 0, .null, .int 0, .int 0, .null, .null, .null, .long 0, .null, .null])), (q0, .inl (cy.1, 4, .inl (fun _ => 0))), (q1, .inl (cy.1, 5, .inl (fun _ => 0))), (q2, .inl (cy.1, 14, .inl (fun _ => 0)))] H := hP
  have hD : va_D A [(h, .inr (7, [.int 0, .ref q0, .ref q1, .null, .null, .null, .null, .null, .int 0, .int 0, .int 0, .int 0, .int 0, .int 0, .int 0, .null, .int 0, .int 0, .null, .null, .null, .long 0, .null, .null])), (q0, .inl (cy.1, 4, .inl (fun _ => 0))), (q1, .inl (cy.1, 5, .inl (fun _ => 0))), (q2, .inl (cy.1, 14, .inl (fun _ => 0)))] := hD
  refine va_putF (D := D) (ci := 7) (v := .ref q2) (ty := .array .int) (C := RX7) (T := TX7) (N := 24) hx hb hts hiX7 tyX7 tyX7_ok nmX7 hown hE.1 hP hD hS 0 rfl rfl 3 (by decide) (hts (.fieldLink RX7 16 "TiltTrayModel" "now" "[I") (by decide +kernel)) (fun _ h9 => h9) rfl hin rfl (by decide +kernel) rfl rfl (Nat.le_of_ble_eq_true rfl) dX7_init_23 (fun H locs hP hD hS => ?_)
  have hP : va_P D vwCl [(h, .inr (7, [.int 0, .ref q0, .ref q1, .ref q2, .null, .null, .null, .null, .int 0, .int 0, .int 0, .int 0, .int 0, .int 0, .int 0, .null, .int 0, .int 0, .null, .null, .null, .long 0, .null, .null])), (q0, .inl (cy.1, 4, .inl (fun _ => 0))), (q1, .inl (cy.1, 5, .inl (fun _ => 0))), (q2, .inl (cy.1, 14, .inl (fun _ => 0)))] H := hP
  have hD : va_D A [(h, .inr (7, [.int 0, .ref q0, .ref q1, .ref q2, .null, .null, .null, .null, .int 0, .int 0, .int 0, .int 0, .int 0, .int 0, .int 0, .null, .int 0, .int 0, .null, .null, .null, .long 0, .null, .null])), (q0, .inl (cy.1, 4, .inl (fun _ => 0))), (q1, .inl (cy.1, 5, .inl (fun _ => 0))), (q2, .inl (cy.1, 14, .inl (fun _ => 0)))] := hD
  refine lv_aload_n hx hb dX7_init_26 rfl (lv_at hl 0 rfl) ?_
  refine lv_iconst (v := 5) hx hb dX7_init_27 (by decide) ?_
  refine nA (atype := .int) (tq := 0) (cA0 := cy.1) (N' := 5) (a0 := (5, .inl (fun _ => 0))) hx hb (hts (.arrayClass .int) (by decide +kernel)) rfl hE rfl (fun C z => by cases z) hP hD hS hA (fun _ => rfl) (by decide) (by decide) (by decide) (Nat.le_of_ble_eq_true rfl) (Nat.le_of_ble_eq_true rfl) dX7_init_28 (fun q3 H hP hD hS => ?_)
  refine W.widen (k := 4) (n := 28) (Nat.le_of_ble_eq_true rfl) (Nat.le_of_ble_eq_true rfl) ?_
  have hP : va_P D vwCl [(h, .inr (7, [.int 0, .ref q0, .ref q1, .ref q2, .null, .null, .null, .null, .int 0, .int 0, .int 0, .int 0, .int 0, .int 0, .int 0, .null, .int 0, .int 0, .null, .null, .null, .long 0, .null, .null])), (q0, .inl (cy.1, 4, .inl (fun _ => 0))), (q1, .inl (cy.1, 5, .inl (fun _ => 0))), (q2, .inl (cy.1, 14, .inl (fun _ => 0))), (q3, .inl (cy.1, 5, .inl (fun _ => 0)))] H := hP
  have hD : va_D A [(h, .inr (7, [.int 0, .ref q0, .ref q1, .ref q2, .null, .null, .null, .null, .int 0, .int 0, .int 0, .int 0, .int 0, .int 0, .int 0, .null, .int 0, .int 0, .null, .null, .null, .long 0, .null, .null])), (q0, .inl (cy.1, 4, .inl (fun _ => 0))), (q1, .inl (cy.1, 5, .inl (fun _ => 0))), (q2, .inl (cy.1, 14, .inl (fun _ => 0))), (q3, .inl (cy.1, 5, .inl (fun _ => 0)))] := hD
  refine va_putF (D := D) (ci := 7) (v := .ref q3) (ty := .array .int) (C := RX7) (T := TX7) (N := 24) hx hb hts hiX7 tyX7 tyX7_ok nmX7 hown hE.1 hP hD hS 0 rfl rfl 4 (by decide) (hts (.fieldLink RX7 19 "TiltTrayModel" "readTold" "[I") (by decide +kernel)) (fun _ h9 => h9) rfl hin rfl (by decide +kernel) rfl rfl (Nat.le_of_ble_eq_true rfl) dX7_init_30 (fun H locs hP hD hS => ?_)
  have hP : va_P D vwCl [(h, .inr (7, [.int 0, .ref q0, .ref q1, .ref q2, .ref q3, .null, .null, .null, .int 0, .int 0, .int 0, .int 0, .int 0, .int 0, .int 0, .null, .int 0, .int 0, .null, .null, .null, .long 0, .null, .null])), (q0, .inl (cy.1, 4, .inl (fun _ => 0))), (q1, .inl (cy.1, 5, .inl (fun _ => 0))), (q2, .inl (cy.1, 14, .inl (fun _ => 0))), (q3, .inl (cy.1, 5, .inl (fun _ => 0)))] H := hP
  have hD : va_D A [(h, .inr (7, [.int 0, .ref q0, .ref q1, .ref q2, .ref q3, .null, .null, .null, .int 0, .int 0, .int 0, .int 0, .int 0, .int 0, .int 0, .null, .int 0, .int 0, .null, .null, .null, .long 0, .null, .null])), (q0, .inl (cy.1, 4, .inl (fun _ => 0))), (q1, .inl (cy.1, 5, .inl (fun _ => 0))), (q2, .inl (cy.1, 14, .inl (fun _ => 0))), (q3, .inl (cy.1, 5, .inl (fun _ => 0)))] := hD
  refine lv_aload_n hx hb dX7_init_33 rfl (lv_at hl 0 rfl) ?_
  refine lv_iconst (v := 4) hx hb dX7_init_34 (by decide) ?_
  refine nA (atype := .int) (tq := 0) (cA0 := cy.1) (N' := 4) (a0 := (4, .inl (fun _ => 0))) hx hb (hts (.arrayClass .int) (by decide +kernel)) rfl hE rfl (fun C z => by cases z) hP hD hS hA (fun _ => rfl) (by decide) (by decide) (by decide) (Nat.le_of_ble_eq_true rfl) (Nat.le_of_ble_eq_true rfl) dX7_init_35 (fun q4 H hP hD hS => ?_)
  refine W.widen (k := 5) (n := 32) (Nat.le_of_ble_eq_true rfl) (Nat.le_of_ble_eq_true rfl) ?_
  have hP : va_P D vwCl [(h, .inr (7, [.int 0, .ref q0, .ref q1, .ref q2, .ref q3, .null, .null, .null, .int 0, .int 0, .int 0, .int 0, .int 0, .int 0, .int 0, .null, .int 0, .int 0, .null, .null, .null, .long 0, .null, .null])), (q0, .inl (cy.1, 4, .inl (fun _ => 0))), (q1, .inl (cy.1, 5, .inl (fun _ => 0))), (q2, .inl (cy.1, 14, .inl (fun _ => 0))), (q3, .inl (cy.1, 5, .inl (fun _ => 0))), (q4, .inl (cy.1, 4, .inl (fun _ => 0)))] H := hP
  have hD : va_D A [(h, .inr (7, [.int 0, .ref q0, .ref q1, .ref q2, .ref q3, .null, .null, .null, .int 0, .int 0, .int 0, .int 0, .int 0, .int 0, .int 0, .null, .int 0, .int 0, .null, .null, .null, .long 0, .null, .null])), (q0, .inl (cy.1, 4, .inl (fun _ => 0))), (q1, .inl (cy.1, 5, .inl (fun _ => 0))), (q2, .inl (cy.1, 14, .inl (fun _ => 0))), (q3, .inl (cy.1, 5, .inl (fun _ => 0))), (q4, .inl (cy.1, 4, .inl (fun _ => 0)))] := hD
  refine va_putF (D := D) (ci := 7) (v := .ref q4) (ty := .array .int) (C := RX7) (T := TX7) (N := 24) hx hb hts hiX7 tyX7 tyX7_ok nmX7 hown hE.1 hP hD hS 0 rfl rfl 5 (by decide) (hts (.fieldLink RX7 22 "TiltTrayModel" "readCell" "[I") (by decide +kernel)) (fun _ h9 => h9) rfl hin rfl (by decide +kernel) rfl rfl (Nat.le_of_ble_eq_true rfl) dX7_init_37 (fun H locs hP hD hS => ?_)
  have hP : va_P D vwCl [(h, .inr (7, [.int 0, .ref q0, .ref q1, .ref q2, .ref q3, .ref q4, .null, .null, .int 0, .int 0, .int 0, .int 0, .int 0, .int 0, .int 0, .null, .int 0, .int 0, .null, .null, .null, .long 0, .null, .null])), (q0, .inl (cy.1, 4, .inl (fun _ => 0))), (q1, .inl (cy.1, 5, .inl (fun _ => 0))), (q2, .inl (cy.1, 14, .inl (fun _ => 0))), (q3, .inl (cy.1, 5, .inl (fun _ => 0))), (q4, .inl (cy.1, 4, .inl (fun _ => 0)))] H := hP
  have hD : va_D A [(h, .inr (7, [.int 0, .ref q0, .ref q1, .ref q2, .ref q3, .ref q4, .null, .null, .int 0, .int 0, .int 0, .int 0, .int 0, .int 0, .int 0, .null, .int 0, .int 0, .null, .null, .null, .long 0, .null, .null])), (q0, .inl (cy.1, 4, .inl (fun _ => 0))), (q1, .inl (cy.1, 5, .inl (fun _ => 0))), (q2, .inl (cy.1, 14, .inl (fun _ => 0))), (q3, .inl (cy.1, 5, .inl (fun _ => 0))), (q4, .inl (cy.1, 4, .inl (fun _ => 0)))] := hD
  refine lv_aload_n hx hb dX7_init_40 rfl (lv_at hl 0 rfl) ?_
  refine lv_iconst (v := 4) hx hb dX7_init_41 (by decide) ?_
  refine nA (atype := .int) (tq := 0) (cA0 := cy.1) (N' := 4) (a0 := (4, .inl (fun _ => 0))) hx hb (hts (.arrayClass .int) (by decide +kernel)) rfl hE rfl (fun C z => by cases z) hP hD hS hA (fun _ => rfl) (by decide) (by decide) (by decide) (Nat.le_of_ble_eq_true rfl) (Nat.le_of_ble_eq_true rfl) dX7_init_42 (fun q5 H hP hD hS => ?_)
  refine W.widen (k := 6) (n := 36) (Nat.le_of_ble_eq_true rfl) (Nat.le_of_ble_eq_true rfl) ?_
  have hP : va_P D vwCl [(h, .inr (7, [.int 0, .ref q0, .ref q1, .ref q2, .ref q3, .ref q4, .null, .null, .int 0, .int 0, .int 0, .int 0, .int 0, .int 0, .int 0, .null, .int 0, .int 0, .null, .null, .null, .long 0, .null, .null])), (q0, .inl (cy.1, 4, .inl (fun _ => 0))), (q1, .inl (cy.1, 5, .inl (fun _ => 0))), (q2, .inl (cy.1, 14, .inl (fun _ => 0))), (q3, .inl (cy.1, 5, .inl (fun _ => 0))), (q4, .inl (cy.1, 4, .inl (fun _ => 0))), (q5, .inl (cy.1, 4, .inl (fun _ => 0)))] H := hP
  have hD : va_D A [(h, .inr (7, [.int 0, .ref q0, .ref q1, .ref q2, .ref q3, .ref q4, .null, .null, .int 0, .int 0, .int 0, .int 0, .int 0, .int 0, .int 0, .null, .int 0, .int 0, .null, .null, .null, .long 0, .null, .null])), (q0, .inl (cy.1, 4, .inl (fun _ => 0))), (q1, .inl (cy.1, 5, .inl (fun _ => 0))), (q2, .inl (cy.1, 14, .inl (fun _ => 0))), (q3, .inl (cy.1, 5, .inl (fun _ => 0))), (q4, .inl (cy.1, 4, .inl (fun _ => 0))), (q5, .inl (cy.1, 4, .inl (fun _ => 0)))] := hD
  refine va_putF (D := D) (ci := 7) (v := .ref q5) (ty := .array .int) (C := RX7) (T := TX7) (N := 24) hx hb hts hiX7 tyX7 tyX7_ok nmX7 hown hE.1 hP hD hS 0 rfl rfl 6 (by decide) (hts (.fieldLink RX7 25 "TiltTrayModel" "readKind" "[I") (by decide +kernel)) (fun _ h9 => h9) rfl hin rfl (by decide +kernel) rfl rfl (Nat.le_of_ble_eq_true rfl) dX7_init_44 (fun H locs hP hD hS => ?_)
  have hP : va_P D vwCl [(h, .inr (7, [.int 0, .ref q0, .ref q1, .ref q2, .ref q3, .ref q4, .ref q5, .null, .int 0, .int 0, .int 0, .int 0, .int 0, .int 0, .int 0, .null, .int 0, .int 0, .null, .null, .null, .long 0, .null, .null])), (q0, .inl (cy.1, 4, .inl (fun _ => 0))), (q1, .inl (cy.1, 5, .inl (fun _ => 0))), (q2, .inl (cy.1, 14, .inl (fun _ => 0))), (q3, .inl (cy.1, 5, .inl (fun _ => 0))), (q4, .inl (cy.1, 4, .inl (fun _ => 0))), (q5, .inl (cy.1, 4, .inl (fun _ => 0)))] H := hP
  have hD : va_D A [(h, .inr (7, [.int 0, .ref q0, .ref q1, .ref q2, .ref q3, .ref q4, .ref q5, .null, .int 0, .int 0, .int 0, .int 0, .int 0, .int 0, .int 0, .null, .int 0, .int 0, .null, .null, .null, .long 0, .null, .null])), (q0, .inl (cy.1, 4, .inl (fun _ => 0))), (q1, .inl (cy.1, 5, .inl (fun _ => 0))), (q2, .inl (cy.1, 14, .inl (fun _ => 0))), (q3, .inl (cy.1, 5, .inl (fun _ => 0))), (q4, .inl (cy.1, 4, .inl (fun _ => 0))), (q5, .inl (cy.1, 4, .inl (fun _ => 0)))] := hD
  refine lv_aload_n hx hb dX7_init_47 rfl (lv_at hl 0 rfl) ?_
  refine lv_bipush (v := 48) hx hb dX7_init_48 (by decide) ?_
  refine nA (atype := .int) (tq := 0) (cA0 := cy.1) (N' := 48) (a0 := (48, .inl (fun _ => 0))) hx hb (hts (.arrayClass .int) (by decide +kernel)) rfl hE rfl (fun C z => by cases z) hP hD hS hA (fun _ => rfl) (by decide) (by decide) (by decide) (Nat.le_of_ble_eq_true rfl) (Nat.le_of_ble_eq_true rfl) dX7_init_50 (fun q6 H hP hD hS => ?_)
  refine W.widen (k := 7) (n := 84) (Nat.le_of_ble_eq_true rfl) (Nat.le_of_ble_eq_true rfl) ?_
  have hP : va_P D vwCl [(h, .inr (7, [.int 0, .ref q0, .ref q1, .ref q2, .ref q3, .ref q4, .ref q5, .null, .int 0, .int 0, .int 0, .int 0, .int 0, .int 0, .int 0, .null, .int 0, .int 0, .null, .null, .null, .long 0, .null, .null])), (q0, .inl (cy.1, 4, .inl (fun _ => 0))), (q1, .inl (cy.1, 5, .inl (fun _ => 0))), (q2, .inl (cy.1, 14, .inl (fun _ => 0))), (q3, .inl (cy.1, 5, .inl (fun _ => 0))), (q4, .inl (cy.1, 4, .inl (fun _ => 0))), (q5, .inl (cy.1, 4, .inl (fun _ => 0))), (q6, .inl (cy.1, 48, .inl (fun _ => 0)))] H := hP
  have hD : va_D A [(h, .inr (7, [.int 0, .ref q0, .ref q1, .ref q2, .ref q3, .ref q4, .ref q5, .null, .int 0, .int 0, .int 0, .int 0, .int 0, .int 0, .int 0, .null, .int 0, .int 0, .null, .null, .null, .long 0, .null, .null])), (q0, .inl (cy.1, 4, .inl (fun _ => 0))), (q1, .inl (cy.1, 5, .inl (fun _ => 0))), (q2, .inl (cy.1, 14, .inl (fun _ => 0))), (q3, .inl (cy.1, 5, .inl (fun _ => 0))), (q4, .inl (cy.1, 4, .inl (fun _ => 0))), (q5, .inl (cy.1, 4, .inl (fun _ => 0))), (q6, .inl (cy.1, 48, .inl (fun _ => 0)))] := hD
  refine va_putF (D := D) (ci := 7) (v := .ref q6) (ty := .array .int) (C := RX7) (T := TX7) (N := 24) hx hb hts hiX7 tyX7 tyX7_ok nmX7 hown hE.1 hP hD hS 0 rfl rfl 7 (by decide) (hts (.fieldLink RX7 28 "TiltTrayModel" "text" "[I") (by decide +kernel)) (fun _ h9 => h9) rfl hin rfl (by decide +kernel) rfl rfl (Nat.le_of_ble_eq_true rfl) dX7_init_52 (fun H locs hP hD hS => ?_)
  have hP : va_P D vwCl [(h, .inr (7, [.int 0, .ref q0, .ref q1, .ref q2, .ref q3, .ref q4, .ref q5, .ref q6, .int 0, .int 0, .int 0, .int 0, .int 0, .int 0, .int 0, .null, .int 0, .int 0, .null, .null, .null, .long 0, .null, .null])), (q0, .inl (cy.1, 4, .inl (fun _ => 0))), (q1, .inl (cy.1, 5, .inl (fun _ => 0))), (q2, .inl (cy.1, 14, .inl (fun _ => 0))), (q3, .inl (cy.1, 5, .inl (fun _ => 0))), (q4, .inl (cy.1, 4, .inl (fun _ => 0))), (q5, .inl (cy.1, 4, .inl (fun _ => 0))), (q6, .inl (cy.1, 48, .inl (fun _ => 0)))] H := hP
  have hD : va_D A [(h, .inr (7, [.int 0, .ref q0, .ref q1, .ref q2, .ref q3, .ref q4, .ref q5, .ref q6, .int 0, .int 0, .int 0, .int 0, .int 0, .int 0, .int 0, .null, .int 0, .int 0, .null, .null, .null, .long 0, .null, .null])), (q0, .inl (cy.1, 4, .inl (fun _ => 0))), (q1, .inl (cy.1, 5, .inl (fun _ => 0))), (q2, .inl (cy.1, 14, .inl (fun _ => 0))), (q3, .inl (cy.1, 5, .inl (fun _ => 0))), (q4, .inl (cy.1, 4, .inl (fun _ => 0))), (q5, .inl (cy.1, 4, .inl (fun _ => 0))), (q6, .inl (cy.1, 48, .inl (fun _ => 0)))] := hD
  refine lv_aload_n hx hb dX7_init_55 rfl (lv_at hl 0 rfl) ?_
  refine lv_bipush (v := 15) hx hb dX7_init_56 (by decide) ?_
  refine va_put (D := D) (ci := 7) (v := .int 15) (ty := .int) (C := RX7) (T := TX7) (N := 24) hx hb hts hiX7 tyX7 tyX7_ok nmX7 hown hE.1 hP hD hS 0 rfl rfl 11 (by decide) (hts (.fieldLink RX7 31 "TiltTrayModel" "there" "I") (by decide +kernel)) (fun _ h9 => h9) rfl (by decide +kernel) rfl rfl (Nat.le_of_ble_eq_true rfl) dX7_init_58 (fun H locs hP hD hS => ?_)
  have hP : va_P D vwCl [(h, .inr (7, [.int 0, .ref q0, .ref q1, .ref q2, .ref q3, .ref q4, .ref q5, .ref q6, .int 0, .int 0, .int 0, .int 15, .int 0, .int 0, .int 0, .null, .int 0, .int 0, .null, .null, .null, .long 0, .null, .null])), (q0, .inl (cy.1, 4, .inl (fun _ => 0))), (q1, .inl (cy.1, 5, .inl (fun _ => 0))), (q2, .inl (cy.1, 14, .inl (fun _ => 0))), (q3, .inl (cy.1, 5, .inl (fun _ => 0))), (q4, .inl (cy.1, 4, .inl (fun _ => 0))), (q5, .inl (cy.1, 4, .inl (fun _ => 0))), (q6, .inl (cy.1, 48, .inl (fun _ => 0)))] H := hP
  have hD : va_D A [(h, .inr (7, [.int 0, .ref q0, .ref q1, .ref q2, .ref q3, .ref q4, .ref q5, .ref q6, .int 0, .int 0, .int 0, .int 15, .int 0, .int 0, .int 0, .null, .int 0, .int 0, .null, .null, .null, .long 0, .null, .null])), (q0, .inl (cy.1, 4, .inl (fun _ => 0))), (q1, .inl (cy.1, 5, .inl (fun _ => 0))), (q2, .inl (cy.1, 14, .inl (fun _ => 0))), (q3, .inl (cy.1, 5, .inl (fun _ => 0))), (q4, .inl (cy.1, 4, .inl (fun _ => 0))), (q5, .inl (cy.1, 4, .inl (fun _ => 0))), (q6, .inl (cy.1, 48, .inl (fun _ => 0)))] := hD
  refine lv_aload_n hx hb dX7_init_61 rfl (lv_at hl 0 rfl) ?_
  refine lv_bipush (v := 98) hx hb dX7_init_62 (by decide) ?_
  refine nA (atype := .int) (tq := 0) (cA0 := cy.1) (N' := 98) (a0 := (98, .inl (fun _ => 0))) hx hb (hts (.arrayClass .int) (by decide +kernel)) rfl hE rfl (fun C z => by cases z) hP hD hS hA (fun _ => rfl) (by decide) (by decide) (by decide) (Nat.le_of_ble_eq_true rfl) (Nat.le_of_ble_eq_true rfl) dX7_init_64 (fun q7 H hP hD hS => ?_)
  refine W.widen (k := 8) (n := 182) (Nat.le_of_ble_eq_true rfl) (Nat.le_of_ble_eq_true rfl) ?_
  have hP : va_P D vwCl [(h, .inr (7, [.int 0, .ref q0, .ref q1, .ref q2, .ref q3, .ref q4, .ref q5, .ref q6, .int 0, .int 0, .int 0, .int 15, .int 0, .int 0, .int 0, .null, .int 0, .int 0, .null, .null, .null, .long 0, .null, .null])), (q0, .inl (cy.1, 4, .inl (fun _ => 0))), (q1, .inl (cy.1, 5, .inl (fun _ => 0))), (q2, .inl (cy.1, 14, .inl (fun _ => 0))), (q3, .inl (cy.1, 5, .inl (fun _ => 0))), (q4, .inl (cy.1, 4, .inl (fun _ => 0))), (q5, .inl (cy.1, 4, .inl (fun _ => 0))), (q6, .inl (cy.1, 48, .inl (fun _ => 0))), (q7, .inl (cy.1, 98, .inl (fun _ => 0)))] H := hP
  have hD : va_D A [(h, .inr (7, [.int 0, .ref q0, .ref q1, .ref q2, .ref q3, .ref q4, .ref q5, .ref q6, .int 0, .int 0, .int 0, .int 15, .int 0, .int 0, .int 0, .null, .int 0, .int 0, .null, .null, .null, .long 0, .null, .null])), (q0, .inl (cy.1, 4, .inl (fun _ => 0))), (q1, .inl (cy.1, 5, .inl (fun _ => 0))), (q2, .inl (cy.1, 14, .inl (fun _ => 0))), (q3, .inl (cy.1, 5, .inl (fun _ => 0))), (q4, .inl (cy.1, 4, .inl (fun _ => 0))), (q5, .inl (cy.1, 4, .inl (fun _ => 0))), (q6, .inl (cy.1, 48, .inl (fun _ => 0))), (q7, .inl (cy.1, 98, .inl (fun _ => 0)))] := hD
  refine va_putF (D := D) (ci := 7) (v := .ref q7) (ty := .array .int) (C := RX7) (T := TX7) (N := 24) hx hb hts hiX7 tyX7 tyX7_ok nmX7 hown hE.1 hP hD hS 0 rfl rfl 15 (by decide) (hts (.fieldLink RX7 35 "TiltTrayModel" "row" "[I") (by decide +kernel)) (fun _ h9 => h9) rfl hin rfl (by decide +kernel) rfl rfl (Nat.le_of_ble_eq_true rfl) dX7_init_66 (fun H locs hP hD hS => ?_)
  have hP : va_P D vwCl [(h, .inr (7, [.int 0, .ref q0, .ref q1, .ref q2, .ref q3, .ref q4, .ref q5, .ref q6, .int 0, .int 0, .int 0, .int 15, .int 0, .int 0, .int 0, .ref q7, .int 0, .int 0, .null, .null, .null, .long 0, .null, .null])), (q0, .inl (cy.1, 4, .inl (fun _ => 0))), (q1, .inl (cy.1, 5, .inl (fun _ => 0))), (q2, .inl (cy.1, 14, .inl (fun _ => 0))), (q3, .inl (cy.1, 5, .inl (fun _ => 0))), (q4, .inl (cy.1, 4, .inl (fun _ => 0))), (q5, .inl (cy.1, 4, .inl (fun _ => 0))), (q6, .inl (cy.1, 48, .inl (fun _ => 0))), (q7, .inl (cy.1, 98, .inl (fun _ => 0)))] H := hP
  have hD : va_D A [(h, .inr (7, [.int 0, .ref q0, .ref q1, .ref q2, .ref q3, .ref q4, .ref q5, .ref q6, .int 0, .int 0, .int 0, .int 15, .int 0, .int 0, .int 0, .ref q7, .int 0, .int 0, .null, .null, .null, .long 0, .null, .null])), (q0, .inl (cy.1, 4, .inl (fun _ => 0))), (q1, .inl (cy.1, 5, .inl (fun _ => 0))), (q2, .inl (cy.1, 14, .inl (fun _ => 0))), (q3, .inl (cy.1, 5, .inl (fun _ => 0))), (q4, .inl (cy.1, 4, .inl (fun _ => 0))), (q5, .inl (cy.1, 4, .inl (fun _ => 0))), (q6, .inl (cy.1, 48, .inl (fun _ => 0))), (q7, .inl (cy.1, 98, .inl (fun _ => 0)))] := hD
  refine lv_aload_n hx hb dX7_init_69 rfl (lv_at hl 0 rfl) ?_
  refine lv_bipush (v := 6) hx hb dX7_init_70 (by decide) ?_
  refine nA (atype := .int) (tq := 0) (cA0 := cy.1) (N' := 6) (a0 := (6, .inl (fun _ => 0))) hx hb (hts (.arrayClass .int) (by decide +kernel)) rfl hE rfl (fun C z => by cases z) hP hD hS hA (fun _ => rfl) (by decide) (by decide) (by decide) (Nat.le_of_ble_eq_true rfl) (Nat.le_of_ble_eq_true rfl) dX7_init_72 (fun q8 H hP hD hS => ?_)
  refine W.widen (k := 9) (n := 188) (Nat.le_of_ble_eq_true rfl) (Nat.le_of_ble_eq_true rfl) ?_
  have hP : va_P D vwCl [(h, .inr (7, [.int 0, .ref q0, .ref q1, .ref q2, .ref q3, .ref q4, .ref q5, .ref q6, .int 0, .int 0, .int 0, .int 15, .int 0, .int 0, .int 0, .ref q7, .int 0, .int 0, .null, .null, .null, .long 0, .null, .null])), (q0, .inl (cy.1, 4, .inl (fun _ => 0))), (q1, .inl (cy.1, 5, .inl (fun _ => 0))), (q2, .inl (cy.1, 14, .inl (fun _ => 0))), (q3, .inl (cy.1, 5, .inl (fun _ => 0))), (q4, .inl (cy.1, 4, .inl (fun _ => 0))), (q5, .inl (cy.1, 4, .inl (fun _ => 0))), (q6, .inl (cy.1, 48, .inl (fun _ => 0))), (q7, .inl (cy.1, 98, .inl (fun _ => 0))), (q8, .inl (cy.1, 6, .inl (fun _ => 0)))] H := hP
  have hD : va_D A [(h, .inr (7, [.int 0, .ref q0, .ref q1, .ref q2, .ref q3, .ref q4, .ref q5, .ref q6, .int 0, .int 0, .int 0, .int 15, .int 0, .int 0, .int 0, .ref q7, .int 0, .int 0, .null, .null, .null, .long 0, .null, .null])), (q0, .inl (cy.1, 4, .inl (fun _ => 0))), (q1, .inl (cy.1, 5, .inl (fun _ => 0))), (q2, .inl (cy.1, 14, .inl (fun _ => 0))), (q3, .inl (cy.1, 5, .inl (fun _ => 0))), (q4, .inl (cy.1, 4, .inl (fun _ => 0))), (q5, .inl (cy.1, 4, .inl (fun _ => 0))), (q6, .inl (cy.1, 48, .inl (fun _ => 0))), (q7, .inl (cy.1, 98, .inl (fun _ => 0))), (q8, .inl (cy.1, 6, .inl (fun _ => 0)))] := hD
  refine va_putF (D := D) (ci := 7) (v := .ref q8) (ty := .array .int) (C := RX7) (T := TX7) (N := 24) hx hb hts hiX7 tyX7 tyX7_ok nmX7 hown hE.1 hP hD hS 0 rfl rfl 18 (by decide) (hts (.fieldLink RX7 38 "TiltTrayModel" "seenCell" "[I") (by decide +kernel)) (fun _ h9 => h9) rfl hin rfl (by decide +kernel) rfl rfl (Nat.le_of_ble_eq_true rfl) dX7_init_74 (fun H locs hP hD hS => ?_)
  have hP : va_P D vwCl [(h, .inr (7, [.int 0, .ref q0, .ref q1, .ref q2, .ref q3, .ref q4, .ref q5, .ref q6, .int 0, .int 0, .int 0, .int 15, .int 0, .int 0, .int 0, .ref q7, .int 0, .int 0, .ref q8, .null, .null, .long 0, .null, .null])), (q0, .inl (cy.1, 4, .inl (fun _ => 0))), (q1, .inl (cy.1, 5, .inl (fun _ => 0))), (q2, .inl (cy.1, 14, .inl (fun _ => 0))), (q3, .inl (cy.1, 5, .inl (fun _ => 0))), (q4, .inl (cy.1, 4, .inl (fun _ => 0))), (q5, .inl (cy.1, 4, .inl (fun _ => 0))), (q6, .inl (cy.1, 48, .inl (fun _ => 0))), (q7, .inl (cy.1, 98, .inl (fun _ => 0))), (q8, .inl (cy.1, 6, .inl (fun _ => 0)))] H := hP
  have hD : va_D A [(h, .inr (7, [.int 0, .ref q0, .ref q1, .ref q2, .ref q3, .ref q4, .ref q5, .ref q6, .int 0, .int 0, .int 0, .int 15, .int 0, .int 0, .int 0, .ref q7, .int 0, .int 0, .ref q8, .null, .null, .long 0, .null, .null])), (q0, .inl (cy.1, 4, .inl (fun _ => 0))), (q1, .inl (cy.1, 5, .inl (fun _ => 0))), (q2, .inl (cy.1, 14, .inl (fun _ => 0))), (q3, .inl (cy.1, 5, .inl (fun _ => 0))), (q4, .inl (cy.1, 4, .inl (fun _ => 0))), (q5, .inl (cy.1, 4, .inl (fun _ => 0))), (q6, .inl (cy.1, 48, .inl (fun _ => 0))), (q7, .inl (cy.1, 98, .inl (fun _ => 0))), (q8, .inl (cy.1, 6, .inl (fun _ => 0)))] := hD
  refine lv_aload_n hx hb dX7_init_77 rfl (lv_at hl 0 rfl) ?_
  refine lv_bipush (v := 6) hx hb dX7_init_78 (by decide) ?_
  refine nA (atype := .int) (tq := 0) (cA0 := cy.1) (N' := 6) (a0 := (6, .inl (fun _ => 0))) hx hb (hts (.arrayClass .int) (by decide +kernel)) rfl hE rfl (fun C z => by cases z) hP hD hS hA (fun _ => rfl) (by decide) (by decide) (by decide) (Nat.le_of_ble_eq_true rfl) (Nat.le_of_ble_eq_true rfl) dX7_init_80 (fun q9 H hP hD hS => ?_)
  refine W.widen (k := 10) (n := 194) (Nat.le_of_ble_eq_true rfl) (Nat.le_of_ble_eq_true rfl) ?_
  have hP : va_P D vwCl [(h, .inr (7, [.int 0, .ref q0, .ref q1, .ref q2, .ref q3, .ref q4, .ref q5, .ref q6, .int 0, .int 0, .int 0, .int 15, .int 0, .int 0, .int 0, .ref q7, .int 0, .int 0, .ref q8, .null, .null, .long 0, .null, .null])), (q0, .inl (cy.1, 4, .inl (fun _ => 0))), (q1, .inl (cy.1, 5, .inl (fun _ => 0))), (q2, .inl (cy.1, 14, .inl (fun _ => 0))), (q3, .inl (cy.1, 5, .inl (fun _ => 0))), (q4, .inl (cy.1, 4, .inl (fun _ => 0))), (q5, .inl (cy.1, 4, .inl (fun _ => 0))), (q6, .inl (cy.1, 48, .inl (fun _ => 0))), (q7, .inl (cy.1, 98, .inl (fun _ => 0))), (q8, .inl (cy.1, 6, .inl (fun _ => 0))), (q9, .inl (cy.1, 6, .inl (fun _ => 0)))] H := hP
  have hD : va_D A [(h, .inr (7, [.int 0, .ref q0, .ref q1, .ref q2, .ref q3, .ref q4, .ref q5, .ref q6, .int 0, .int 0, .int 0, .int 15, .int 0, .int 0, .int 0, .ref q7, .int 0, .int 0, .ref q8, .null, .null, .long 0, .null, .null])), (q0, .inl (cy.1, 4, .inl (fun _ => 0))), (q1, .inl (cy.1, 5, .inl (fun _ => 0))), (q2, .inl (cy.1, 14, .inl (fun _ => 0))), (q3, .inl (cy.1, 5, .inl (fun _ => 0))), (q4, .inl (cy.1, 4, .inl (fun _ => 0))), (q5, .inl (cy.1, 4, .inl (fun _ => 0))), (q6, .inl (cy.1, 48, .inl (fun _ => 0))), (q7, .inl (cy.1, 98, .inl (fun _ => 0))), (q8, .inl (cy.1, 6, .inl (fun _ => 0))), (q9, .inl (cy.1, 6, .inl (fun _ => 0)))] := hD
  refine va_putF (D := D) (ci := 7) (v := .ref q9) (ty := .array .int) (C := RX7) (T := TX7) (N := 24) hx hb hts hiX7 tyX7 tyX7_ok nmX7 hown hE.1 hP hD hS 0 rfl rfl 19 (by decide) (hts (.fieldLink RX7 41 "TiltTrayModel" "seenWay" "[I") (by decide +kernel)) (fun _ h9 => h9) rfl hin rfl (by decide +kernel) rfl rfl (Nat.le_of_ble_eq_true rfl) dX7_init_82 (fun H locs hP hD hS => ?_)
  have hP : va_P D vwCl [(h, .inr (7, [.int 0, .ref q0, .ref q1, .ref q2, .ref q3, .ref q4, .ref q5, .ref q6, .int 0, .int 0, .int 0, .int 15, .int 0, .int 0, .int 0, .ref q7, .int 0, .int 0, .ref q8, .ref q9, .null, .long 0, .null, .null])), (q0, .inl (cy.1, 4, .inl (fun _ => 0))), (q1, .inl (cy.1, 5, .inl (fun _ => 0))), (q2, .inl (cy.1, 14, .inl (fun _ => 0))), (q3, .inl (cy.1, 5, .inl (fun _ => 0))), (q4, .inl (cy.1, 4, .inl (fun _ => 0))), (q5, .inl (cy.1, 4, .inl (fun _ => 0))), (q6, .inl (cy.1, 48, .inl (fun _ => 0))), (q7, .inl (cy.1, 98, .inl (fun _ => 0))), (q8, .inl (cy.1, 6, .inl (fun _ => 0))), (q9, .inl (cy.1, 6, .inl (fun _ => 0)))] H := hP
  have hD : va_D A [(h, .inr (7, [.int 0, .ref q0, .ref q1, .ref q2, .ref q3, .ref q4, .ref q5, .ref q6, .int 0, .int 0, .int 0, .int 15, .int 0, .int 0, .int 0, .ref q7, .int 0, .int 0, .ref q8, .ref q9, .null, .long 0, .null, .null])), (q0, .inl (cy.1, 4, .inl (fun _ => 0))), (q1, .inl (cy.1, 5, .inl (fun _ => 0))), (q2, .inl (cy.1, 14, .inl (fun _ => 0))), (q3, .inl (cy.1, 5, .inl (fun _ => 0))), (q4, .inl (cy.1, 4, .inl (fun _ => 0))), (q5, .inl (cy.1, 4, .inl (fun _ => 0))), (q6, .inl (cy.1, 48, .inl (fun _ => 0))), (q7, .inl (cy.1, 98, .inl (fun _ => 0))), (q8, .inl (cy.1, 6, .inl (fun _ => 0))), (q9, .inl (cy.1, 6, .inl (fun _ => 0)))] := hD
  refine lv_aload_n hx hb dX7_init_85 rfl (lv_at hl 0 rfl) ?_
  refine lv_bipush (v := 6) hx hb dX7_init_86 (by decide) ?_
  refine nA (atype := .int) (tq := 0) (cA0 := cy.1) (N' := 6) (a0 := (6, .inl (fun _ => 0))) hx hb (hts (.arrayClass .int) (by decide +kernel)) rfl hE rfl (fun C z => by cases z) hP hD hS hA (fun _ => rfl) (by decide) (by decide) (by decide) (Nat.le_of_ble_eq_true rfl) (Nat.le_of_ble_eq_true rfl) dX7_init_88 (fun q10 H hP hD hS => ?_)
  refine W.widen (k := 11) (n := 200) (Nat.le_of_ble_eq_true rfl) (Nat.le_of_ble_eq_true rfl) ?_
  have hP : va_P D vwCl [(h, .inr (7, [.int 0, .ref q0, .ref q1, .ref q2, .ref q3, .ref q4, .ref q5, .ref q6, .int 0, .int 0, .int 0, .int 15, .int 0, .int 0, .int 0, .ref q7, .int 0, .int 0, .ref q8, .ref q9, .null, .long 0, .null, .null])), (q0, .inl (cy.1, 4, .inl (fun _ => 0))), (q1, .inl (cy.1, 5, .inl (fun _ => 0))), (q2, .inl (cy.1, 14, .inl (fun _ => 0))), (q3, .inl (cy.1, 5, .inl (fun _ => 0))), (q4, .inl (cy.1, 4, .inl (fun _ => 0))), (q5, .inl (cy.1, 4, .inl (fun _ => 0))), (q6, .inl (cy.1, 48, .inl (fun _ => 0))), (q7, .inl (cy.1, 98, .inl (fun _ => 0))), (q8, .inl (cy.1, 6, .inl (fun _ => 0))), (q9, .inl (cy.1, 6, .inl (fun _ => 0))), (q10, .inl (cy.1, 6, .inl (fun _ => 0)))] H := hP
  have hD : va_D A [(h, .inr (7, [.int 0, .ref q0, .ref q1, .ref q2, .ref q3, .ref q4, .ref q5, .ref q6, .int 0, .int 0, .int 0, .int 15, .int 0, .int 0, .int 0, .ref q7, .int 0, .int 0, .ref q8, .ref q9, .null, .long 0, .null, .null])), (q0, .inl (cy.1, 4, .inl (fun _ => 0))), (q1, .inl (cy.1, 5, .inl (fun _ => 0))), (q2, .inl (cy.1, 14, .inl (fun _ => 0))), (q3, .inl (cy.1, 5, .inl (fun _ => 0))), (q4, .inl (cy.1, 4, .inl (fun _ => 0))), (q5, .inl (cy.1, 4, .inl (fun _ => 0))), (q6, .inl (cy.1, 48, .inl (fun _ => 0))), (q7, .inl (cy.1, 98, .inl (fun _ => 0))), (q8, .inl (cy.1, 6, .inl (fun _ => 0))), (q9, .inl (cy.1, 6, .inl (fun _ => 0))), (q10, .inl (cy.1, 6, .inl (fun _ => 0)))] := hD
  refine va_putF (D := D) (ci := 7) (v := .ref q10) (ty := .array .int) (C := RX7) (T := TX7) (N := 24) hx hb hts hiX7 tyX7 tyX7_ok nmX7 hown hE.1 hP hD hS 0 rfl rfl 20 (by decide) (hts (.fieldLink RX7 44 "TiltTrayModel" "seenCame" "[I") (by decide +kernel)) (fun _ h9 => h9) rfl hin rfl (by decide +kernel) rfl rfl (Nat.le_of_ble_eq_true rfl) dX7_init_90 (fun H locs hP hD hS => ?_)
  have hP : va_P D vwCl [(h, .inr (7, [.int 0, .ref q0, .ref q1, .ref q2, .ref q3, .ref q4, .ref q5, .ref q6, .int 0, .int 0, .int 0, .int 15, .int 0, .int 0, .int 0, .ref q7, .int 0, .int 0, .ref q8, .ref q9, .ref q10, .long 0, .null, .null])), (q0, .inl (cy.1, 4, .inl (fun _ => 0))), (q1, .inl (cy.1, 5, .inl (fun _ => 0))), (q2, .inl (cy.1, 14, .inl (fun _ => 0))), (q3, .inl (cy.1, 5, .inl (fun _ => 0))), (q4, .inl (cy.1, 4, .inl (fun _ => 0))), (q5, .inl (cy.1, 4, .inl (fun _ => 0))), (q6, .inl (cy.1, 48, .inl (fun _ => 0))), (q7, .inl (cy.1, 98, .inl (fun _ => 0))), (q8, .inl (cy.1, 6, .inl (fun _ => 0))), (q9, .inl (cy.1, 6, .inl (fun _ => 0))), (q10, .inl (cy.1, 6, .inl (fun _ => 0)))] H := hP
  have hD : va_D A [(h, .inr (7, [.int 0, .ref q0, .ref q1, .ref q2, .ref q3, .ref q4, .ref q5, .ref q6, .int 0, .int 0, .int 0, .int 15, .int 0, .int 0, .int 0, .ref q7, .int 0, .int 0, .ref q8, .ref q9, .ref q10, .long 0, .null, .null])), (q0, .inl (cy.1, 4, .inl (fun _ => 0))), (q1, .inl (cy.1, 5, .inl (fun _ => 0))), (q2, .inl (cy.1, 14, .inl (fun _ => 0))), (q3, .inl (cy.1, 5, .inl (fun _ => 0))), (q4, .inl (cy.1, 4, .inl (fun _ => 0))), (q5, .inl (cy.1, 4, .inl (fun _ => 0))), (q6, .inl (cy.1, 48, .inl (fun _ => 0))), (q7, .inl (cy.1, 98, .inl (fun _ => 0))), (q8, .inl (cy.1, 6, .inl (fun _ => 0))), (q9, .inl (cy.1, 6, .inl (fun _ => 0))), (q10, .inl (cy.1, 6, .inl (fun _ => 0)))] := hD
  refine lv_aload_n hx hb dX7_init_93 rfl (lv_at hl 0 rfl) ?_
  refine lv_iconst (v := 2) hx hb dX7_init_94 (by decide) ?_
  refine nA (atype := .boolean) (tq := 2) (cA0 := cy.2.2.1) (N' := 2) (a0 := (2, .inl (fun _ => 0))) hx hb (hts (.arrayClass .boolean) (by decide +kernel)) rfl hE rfl (fun C z => by cases z) hP hD hS hA (fun _ => rfl) (by decide) (by decide) (by decide) (Nat.le_of_ble_eq_true rfl) (Nat.le_of_ble_eq_true rfl) dX7_init_95 (fun q11 H hP hD hS => ?_)
  refine W.widen (k := 12) (n := 202) (Nat.le_of_ble_eq_true rfl) (Nat.le_of_ble_eq_true rfl) ?_
  have hP : va_P D vwCl [(h, .inr (7, [.int 0, .ref q0, .ref q1, .ref q2, .ref q3, .ref q4, .ref q5, .ref q6, .int 0, .int 0, .int 0, .int 15, .int 0, .int 0, .int 0, .ref q7, .int 0, .int 0, .ref q8, .ref q9, .ref q10, .long 0, .null, .null])), (q0, .inl (cy.1, 4, .inl (fun _ => 0))), (q1, .inl (cy.1, 5, .inl (fun _ => 0))), (q2, .inl (cy.1, 14, .inl (fun _ => 0))), (q3, .inl (cy.1, 5, .inl (fun _ => 0))), (q4, .inl (cy.1, 4, .inl (fun _ => 0))), (q5, .inl (cy.1, 4, .inl (fun _ => 0))), (q6, .inl (cy.1, 48, .inl (fun _ => 0))), (q7, .inl (cy.1, 98, .inl (fun _ => 0))), (q8, .inl (cy.1, 6, .inl (fun _ => 0))), (q9, .inl (cy.1, 6, .inl (fun _ => 0))), (q10, .inl (cy.1, 6, .inl (fun _ => 0))), (q11, .inl (cy.2.2.1, 2, .inl (fun _ => 0)))] H := hP
  have hD : va_D A [(h, .inr (7, [.int 0, .ref q0, .ref q1, .ref q2, .ref q3, .ref q4, .ref q5, .ref q6, .int 0, .int 0, .int 0, .int 15, .int 0, .int 0, .int 0, .ref q7, .int 0, .int 0, .ref q8, .ref q9, .ref q10, .long 0, .null, .null])), (q0, .inl (cy.1, 4, .inl (fun _ => 0))), (q1, .inl (cy.1, 5, .inl (fun _ => 0))), (q2, .inl (cy.1, 14, .inl (fun _ => 0))), (q3, .inl (cy.1, 5, .inl (fun _ => 0))), (q4, .inl (cy.1, 4, .inl (fun _ => 0))), (q5, .inl (cy.1, 4, .inl (fun _ => 0))), (q6, .inl (cy.1, 48, .inl (fun _ => 0))), (q7, .inl (cy.1, 98, .inl (fun _ => 0))), (q8, .inl (cy.1, 6, .inl (fun _ => 0))), (q9, .inl (cy.1, 6, .inl (fun _ => 0))), (q10, .inl (cy.1, 6, .inl (fun _ => 0))), (q11, .inl (cy.2.2.1, 2, .inl (fun _ => 0)))] := hD
  refine va_putF (D := D) (ci := 7) (v := .ref q11) (ty := .array .boolean) (C := RX7) (T := TX7) (N := 24) hx hb hts hiX7 tyX7 tyX7_ok nmX7 hown hE.1 hP hD hS 0 rfl rfl 22 (by decide) (hts (.fieldLink RX7 47 "TiltTrayModel" "isKept" "[Z") (by decide +kernel)) (fun _ h9 => h9) rfl hin rfl (by decide +kernel) rfl rfl (Nat.le_of_ble_eq_true rfl) dX7_init_97 (fun H locs hP hD hS => ?_)
  have hP : va_P D vwCl [(h, .inr (7, [.int 0, .ref q0, .ref q1, .ref q2, .ref q3, .ref q4, .ref q5, .ref q6, .int 0, .int 0, .int 0, .int 15, .int 0, .int 0, .int 0, .ref q7, .int 0, .int 0, .ref q8, .ref q9, .ref q10, .long 0, .ref q11, .null])), (q0, .inl (cy.1, 4, .inl (fun _ => 0))), (q1, .inl (cy.1, 5, .inl (fun _ => 0))), (q2, .inl (cy.1, 14, .inl (fun _ => 0))), (q3, .inl (cy.1, 5, .inl (fun _ => 0))), (q4, .inl (cy.1, 4, .inl (fun _ => 0))), (q5, .inl (cy.1, 4, .inl (fun _ => 0))), (q6, .inl (cy.1, 48, .inl (fun _ => 0))), (q7, .inl (cy.1, 98, .inl (fun _ => 0))), (q8, .inl (cy.1, 6, .inl (fun _ => 0))), (q9, .inl (cy.1, 6, .inl (fun _ => 0))), (q10, .inl (cy.1, 6, .inl (fun _ => 0))), (q11, .inl (cy.2.2.1, 2, .inl (fun _ => 0)))] H := hP
  have hD : va_D A [(h, .inr (7, [.int 0, .ref q0, .ref q1, .ref q2, .ref q3, .ref q4, .ref q5, .ref q6, .int 0, .int 0, .int 0, .int 15, .int 0, .int 0, .int 0, .ref q7, .int 0, .int 0, .ref q8, .ref q9, .ref q10, .long 0, .ref q11, .null])), (q0, .inl (cy.1, 4, .inl (fun _ => 0))), (q1, .inl (cy.1, 5, .inl (fun _ => 0))), (q2, .inl (cy.1, 14, .inl (fun _ => 0))), (q3, .inl (cy.1, 5, .inl (fun _ => 0))), (q4, .inl (cy.1, 4, .inl (fun _ => 0))), (q5, .inl (cy.1, 4, .inl (fun _ => 0))), (q6, .inl (cy.1, 48, .inl (fun _ => 0))), (q7, .inl (cy.1, 98, .inl (fun _ => 0))), (q8, .inl (cy.1, 6, .inl (fun _ => 0))), (q9, .inl (cy.1, 6, .inl (fun _ => 0))), (q10, .inl (cy.1, 6, .inl (fun _ => 0))), (q11, .inl (cy.2.2.1, 2, .inl (fun _ => 0)))] := hD
  refine lv_aload_n hx hb dX7_init_100 rfl (lv_at hl 0 rfl) ?_
  refine lv_bipush (v := 14) hx hb dX7_init_101 (by decide) ?_
  refine nA (atype := .int) (tq := 0) (cA0 := cy.1) (N' := 14) (a0 := (14, .inl (fun _ => 0))) hx hb (hts (.arrayClass .int) (by decide +kernel)) rfl hE rfl (fun C z => by cases z) hP hD hS hA (fun _ => rfl) (by decide) (by decide) (by decide) (Nat.le_of_ble_eq_true rfl) (Nat.le_of_ble_eq_true rfl) dX7_init_103 (fun q12 H hP hD hS => ?_)
  refine W.widen (k := 13) (n := 216) (Nat.le_of_ble_eq_true rfl) (Nat.le_of_ble_eq_true rfl) ?_
  have hP : va_P D vwCl [(h, .inr (7, [.int 0, .ref q0, .ref q1, .ref q2, .ref q3, .ref q4, .ref q5, .ref q6, .int 0, .int 0, .int 0, .int 15, .int 0, .int 0, .int 0, .ref q7, .int 0, .int 0, .ref q8, .ref q9, .ref q10, .long 0, .ref q11, .null])), (q0, .inl (cy.1, 4, .inl (fun _ => 0))), (q1, .inl (cy.1, 5, .inl (fun _ => 0))), (q2, .inl (cy.1, 14, .inl (fun _ => 0))), (q3, .inl (cy.1, 5, .inl (fun _ => 0))), (q4, .inl (cy.1, 4, .inl (fun _ => 0))), (q5, .inl (cy.1, 4, .inl (fun _ => 0))), (q6, .inl (cy.1, 48, .inl (fun _ => 0))), (q7, .inl (cy.1, 98, .inl (fun _ => 0))), (q8, .inl (cy.1, 6, .inl (fun _ => 0))), (q9, .inl (cy.1, 6, .inl (fun _ => 0))), (q10, .inl (cy.1, 6, .inl (fun _ => 0))), (q11, .inl (cy.2.2.1, 2, .inl (fun _ => 0))), (q12, .inl (cy.1, 14, .inl (fun _ => 0)))] H := hP
  have hD : va_D A [(h, .inr (7, [.int 0, .ref q0, .ref q1, .ref q2, .ref q3, .ref q4, .ref q5, .ref q6, .int 0, .int 0, .int 0, .int 15, .int 0, .int 0, .int 0, .ref q7, .int 0, .int 0, .ref q8, .ref q9, .ref q10, .long 0, .ref q11, .null])), (q0, .inl (cy.1, 4, .inl (fun _ => 0))), (q1, .inl (cy.1, 5, .inl (fun _ => 0))), (q2, .inl (cy.1, 14, .inl (fun _ => 0))), (q3, .inl (cy.1, 5, .inl (fun _ => 0))), (q4, .inl (cy.1, 4, .inl (fun _ => 0))), (q5, .inl (cy.1, 4, .inl (fun _ => 0))), (q6, .inl (cy.1, 48, .inl (fun _ => 0))), (q7, .inl (cy.1, 98, .inl (fun _ => 0))), (q8, .inl (cy.1, 6, .inl (fun _ => 0))), (q9, .inl (cy.1, 6, .inl (fun _ => 0))), (q10, .inl (cy.1, 6, .inl (fun _ => 0))), (q11, .inl (cy.2.2.1, 2, .inl (fun _ => 0))), (q12, .inl (cy.1, 14, .inl (fun _ => 0)))] := hD
  refine va_putF (D := D) (ci := 7) (v := .ref q12) (ty := .array .int) (C := RX7) (T := TX7) (N := 24) hx hb hts hiX7 tyX7 tyX7_ok nmX7 hown hE.1 hP hD hS 0 rfl rfl 23 (by decide) (hts (.fieldLink RX7 51 "TiltTrayModel" "kept" "[I") (by decide +kernel)) (fun _ h9 => h9) rfl hin rfl (by decide +kernel) rfl rfl (Nat.le_of_ble_eq_true rfl) dX7_init_105 (fun H locs hP hD hS => ?_)
  have hP : va_P D vwCl [(h, .inr (7, [.int 0, .ref q0, .ref q1, .ref q2, .ref q3, .ref q4, .ref q5, .ref q6, .int 0, .int 0, .int 0, .int 15, .int 0, .int 0, .int 0, .ref q7, .int 0, .int 0, .ref q8, .ref q9, .ref q10, .long 0, .ref q11, .ref q12])), (q0, .inl (cy.1, 4, .inl (fun _ => 0))), (q1, .inl (cy.1, 5, .inl (fun _ => 0))), (q2, .inl (cy.1, 14, .inl (fun _ => 0))), (q3, .inl (cy.1, 5, .inl (fun _ => 0))), (q4, .inl (cy.1, 4, .inl (fun _ => 0))), (q5, .inl (cy.1, 4, .inl (fun _ => 0))), (q6, .inl (cy.1, 48, .inl (fun _ => 0))), (q7, .inl (cy.1, 98, .inl (fun _ => 0))), (q8, .inl (cy.1, 6, .inl (fun _ => 0))), (q9, .inl (cy.1, 6, .inl (fun _ => 0))), (q10, .inl (cy.1, 6, .inl (fun _ => 0))), (q11, .inl (cy.2.2.1, 2, .inl (fun _ => 0))), (q12, .inl (cy.1, 14, .inl (fun _ => 0)))] H := hP
  have hD : va_D A [(h, .inr (7, [.int 0, .ref q0, .ref q1, .ref q2, .ref q3, .ref q4, .ref q5, .ref q6, .int 0, .int 0, .int 0, .int 15, .int 0, .int 0, .int 0, .ref q7, .int 0, .int 0, .ref q8, .ref q9, .ref q10, .long 0, .ref q11, .ref q12])), (q0, .inl (cy.1, 4, .inl (fun _ => 0))), (q1, .inl (cy.1, 5, .inl (fun _ => 0))), (q2, .inl (cy.1, 14, .inl (fun _ => 0))), (q3, .inl (cy.1, 5, .inl (fun _ => 0))), (q4, .inl (cy.1, 4, .inl (fun _ => 0))), (q5, .inl (cy.1, 4, .inl (fun _ => 0))), (q6, .inl (cy.1, 48, .inl (fun _ => 0))), (q7, .inl (cy.1, 98, .inl (fun _ => 0))), (q8, .inl (cy.1, 6, .inl (fun _ => 0))), (q9, .inl (cy.1, 6, .inl (fun _ => 0))), (q10, .inl (cy.1, 6, .inl (fun _ => 0))), (q11, .inl (cy.2.2.1, 2, .inl (fun _ => 0))), (q12, .inl (cy.1, 14, .inl (fun _ => 0)))] := hD
  exact cn_ret hx hb hr hlocks ⟨q0, q1, q2, q3, q4, q5, q6, q7, q8, q9, q10, q11, q12, rfl⟩ hP hD hS dX7_init_108

set_option maxHeartbeats 4000000 in
set_option maxRecDepth 100000 in
theorem lp_X0 {p : Program} {l : Launch} {e : Env} {s : State} {m : MethodId} {args : Array Value} {below : List Frame} {meth : Method} {c : Code} {A : Nat → Prop} {D : va_G} {cy : Cy} {h r : Nat} (hx : p.tables.exec = Jvm.exec) (hb : c.code = cX0_init) (hr : meth.sig.returnType = none) (hml : c.maxLocals = 2) (hts : ∀ w ∈ wsX0_init, w.before args s = true) (hown : s.vm.findClass RX0 = some m.cls) (hlocks : meth.locks = false) (hE : EV D cy A s) (hO : va_AO "TiltTray$Spot" s) (hA : ∀ q, s.heap.size ≤ q → A q) :
    ∀ (k n : Nat), n + k = 14 → ∀ (ha hb2 : Nat → Nat) (f : Nat → SpS) (g : Nat → Option Nat) (H : Heap) (locs : List Loc) (ls : Array Slot), (∀ j, j < n → g j = some (ha j)) → va_P D vwCl ((h, .inr (0, [.ref r, .int 0, .int 0])) :: (r, .inl (cy.2.2.2.1, 14, .inr (.inr (.inr (.inr g))))) :: cSps ha hb2 cy.1 f n) H → va_D A ((h, .inr (0, [.ref r, .int 0, .int 0])) :: (r, .inl (cy.2.2.2.1, 14, .inr (.inr (.inr (.inr g))))) :: cSps ha hb2 cy.1 f n) → va_S A s.heap H locs → lv_has ls 2 [(1, .int (nI n)), (0, .ref h)] → W p l e ({ frames := 2, cells := 29, slots := 140, locals := 32 } : Room) s m args below meth c H locs (1 + 2 * n) (14 + 9 * n) (MQ below (CnQ D (gAc cy h) A) args s 29 140 A) (F0 m 15 ls []) := by
  have hiX0 : ∀ w ∈ u_ws RX0 TX0 3, w ∈ wsX0_init := by decide +kernel
  have hiX4 : ∀ w ∈ u_ws RX4 TX4 5, w ∈ wsX0_init := by decide +kernel
  intro k
  induction k with
  | zero =>
    intro n hn ha hb2 f g H locs ls hg hP hD hS hl
    have e : n = 14 := by omega
    subst e
    refine lv_iload_n hx hb dX0_init_15 rfl (lv_at hl 0 rfl) ?_
    refine lv_bipush (v := 14) hx hb dX0_init_16 (by decide) ?_
    refine lv_icmp_ge (tgt := 40) hx hb dX0_init_18 (by decide) (fun c1 => ?_) (fun c1 => absurd (by decide) c1)
    have hP := P_ref (g' := fun j => some (ha j)) hP (fun j hj => hg j hj)
    exact cn_ret hx hb hr hlocks ⟨r, ha, hb2, f, rfl⟩ hP (D_addr hD rfl) hS dX0_init_40
  | succ k ih =>
    intro n hn ha hb2 f g H locs ls hg hP hD hS hl
    refine lv_iload_n hx hb dX0_init_15 rfl (lv_at hl 0 rfl) ?_
    refine lv_bipush (v := 14) hx hb dX0_init_16 (by decide) ?_
    refine lv_icmp_ge (tgt := 40) hx hb dX0_init_18 (by decide) (fun c1 => absurd c1 (nI_ge (b := 14) (by omega) (by omega))) (fun c1 => ?_)
    refine lv_aload_n hx hb dX0_init_21 rfl (lv_at hl 1 rfl) ?_
    refine va_get (D := D) (ci := 0) (v := .ref r) (C := RX0) (T := TX0) (N := 3) hx hb hts hiX0 hown hE.1 hP 0 rfl rfl 0 (by decide) (hts (.fieldLink RX0 11 "TiltTray$Acts" "ahead" "[LTiltTray$Spot;") (by decide +kernel)) (fun _ h9 => h9) rfl dX0_init_22 ?_
    refine lv_iload_n hx hb dX0_init_25 rfl (lv_at hl 0 rfl) ?_
    refine va_new (ci := 4) (fs := [.null, .int 0, .int 0, .int 0, .int 0]) (C := RX4) (T := TX4) (N := 5) hx hb hts hiX4 tyX4 tyX4_ok hown (hts (.classLink RX0 9 RX4) (by decide +kernel)) (hts (.instantiable RX4 5) (by decide +kernel)) (hts (.initialized RX4) (by decide +kernel)) hE.1 hP hD hS hA rfl (fun j hj => by rcases (show j = 0 ∨ j = 1 ∨ j = 2 ∨ j = 3 ∨ j = 4 by omega) with rfl | rfl | rfl | rfl | rfl <;> rfl) (by show _ ≤ 29; omega) (by show _ ≤ 140; omega) dX0_init_26 (fun q1 H hP hD hS => ?_)
    refine lv_dup hx hb dX0_init_29 rfl ?_
    refine kIN (host := "TiltTray") ⟨hx, hb, hml, hown, hts⟩ (n_X4 l D cy q1) gX0_init_X4_init_n17 rfl (hts (.initialized RX4) (by decide +kernel)) (hE.2.1 (.methodLinkNest RX0 17 yX4_init "TiltTray") (by decide +kernel)) (hts (.instanceMethod yX4_init) (by decide +kernel)) rfl (by decide +kernel) ⟨(Nat.le_of_ble_eq_true rfl), (Nat.le_of_ble_eq_true rfl)⟩ hE hO hP hD hS hA hl.1 rfl (Nat.le_of_ble_eq_true rfl) dX0_init_30 ⟨by show _ ≤ 29; omega, by show _ ≤ 140; omega⟩ (fun w1 H locs hG hP hD hS => ?_)
    obtain ⟨a1, f1, -, rfl⟩ := hG
    refine va_astq (r := (RX4, TX4, 5)) hx hb hE.1 hP hD hS 1 3 (2 + 2 * n) 4 rfl rfl (vs := [.ref a1, .int 0, .int 0, .int 0, .int 0]) ?_ rfl (ix_in (ix_nI (n := 14) (by omega) (by omega))) dX0_init_33 (fun H locs hP hD hS => ?_)
    · have e0 : 2 + 2 * n = 2 * n + 1 + 1 := by omega
      rw [e0]
      show (cSps ha hb2 cy.1 f n ++ cSp q1 a1 cy.1 (f1, 0, 0, 0, 0))[2 * n]? = _
      rw [List.getElem?_append_right (by rw [cSps_len]; exact Nat.le_refl _), cSps_len, Nat.sub_self]
      rfl
    · have hP : va_P D vwCl ((h, .inr (0, [.ref r, .int 0, .int 0])) :: (r, .inl (cy.2.2.2.1, 14, .inr (.inr (.inr (.inr (va_up g (nI n).toNatClampNeg (some q1))))))) :: (cSps ha hb2 cy.1 f n ++ cSp q1 a1 cy.1 (f1, 0, 0, 0, 0))) H := hP
      have hD : va_D A ((h, .inr (0, [.ref r, .int 0, .int 0])) :: (r, .inl (cy.2.2.2.1, 14, .inr (.inr (.inr (.inr (va_up g (nI n).toNatClampNeg (some q1))))))) :: (cSps ha hb2 cy.1 f n ++ cSp q1 a1 cy.1 (f1, 0, 0, 0, 0))) := hD
      rw [cSps_push, nI_clamp (by omega)] at hP hD
      refine lv_iinc (v := nI (n + 1)) (lv' := [(1, .int (nI (n + 1))), (0, .ref h)]) hx hb dX0_init_34 hl (k := 0) rfl (nI_1 n) (by decide) rfl (fun ls hl => ?_)
      refine lv_goto (tgt := 15) hx hb dX0_init_37 (by decide) ?_
      refine W.widen (k := 1 + 2 * (n + 1)) (n := 14 + 9 * (n + 1)) (by omega) (by omega) ?_
      refine ih (n + 1) (by omega) (va_up ha n q1) (va_up hb2 n a1) (va_up f n (f1, 0, 0, 0, 0)) (va_up g n (some q1)) H locs ls (fun j hj => ?_) hP hD hS hl
      by_cases z : j = n
      · subst z; rw [up_s, up_s]
      · rw [up_n z, up_n z]; exact hg j (by omega)

set_option maxHeartbeats 4000000 in
set_option maxRecDepth 100000 in
theorem n_X0 (l : Launch) (D : va_G) (cy : Cy) (h : Nat) : Cn l yX0_init wsX0_init 2 32 29 140 D cy h 0 [.null, .int 0, .int 0] (gAc cy h) := by
  refine Cn.ofW (cc := cX0_init) (maxL := 2) (by decide) rfl rfl (by decide) ?_
  intro p e s m args below meth c A ls hx hb hr hml hts hown hin hlocks hE hO hP hD hS hA hl
  have hiX0 : ∀ w ∈ u_ws RX0 TX0 3, w ∈ wsX0_init := by decide +kernel
  refine lv_aload_n hx hb dX0_init_0 rfl (lv_at hl 0 rfl) ?_
  refine W.objInit hx hb hown (hts (.methodLink RX0 3 objectInit) (by decide +kernel)) (hts (.instanceMethod objectInit) (by decide +kernel)) (hts _ (List.mem_cons_of_mem _ (List.mem_of_getElem? (i := 2) rfl))) rfl (by rw [hml]; exact hl.1) rfl dX0_init_1 (Nat.le_of_ble_eq_true rfl) (Nat.le_of_ble_eq_true rfl) ?_
  refine W.eq (g2 := F0 m 4 ls []) rfl ?_
  refine lv_aload_n hx hb dX0_init_4 rfl (lv_at hl 0 rfl) ?_
  refine lv_bipush (v := 14) hx hb dX0_init_5 (by decide) ?_
  refine nQ (N' := 14) hx hb hown (hts (.classLink RX0 9 RX4) (by decide +kernel)) hO hE hP hD hS hA (by decide) (by decide) (by decide) (Nat.le_of_ble_eq_true rfl) (Nat.le_of_ble_eq_true rfl) dX0_init_7 (fun r H hP hD hS => ?_)
  refine W.widen (k := 1) (n := 14) (Nat.le_of_ble_eq_true rfl) (Nat.le_of_ble_eq_true rfl) ?_
  have hP : va_P D vwCl [(h, .inr (0, [.null, .int 0, .int 0])), (r, .inl (cy.2.2.2.1, 14, .inr (.inr (.inr (.inr (fun _ => none))))))] H := hP
  have hD : va_D A [(h, .inr (0, [.null, .int 0, .int 0])), (r, .inl (cy.2.2.2.1, 14, .inr (.inr (.inr (.inr (fun _ => none))))))] := hD
  refine va_putF (D := D) (ci := 0) (v := .ref r) (ty := .array (.object "TiltTray$Spot")) (C := RX0) (T := TX0) (N := 3) hx hb hts hiX0 tyX0 tyX0_ok nmX0 hown hE.1 hP hD hS 0 rfl rfl 0 (by decide) (hts (.fieldLink RX0 11 "TiltTray$Acts" "ahead" "[LTiltTray$Spot;") (by decide +kernel)) (fun _ h9 => h9) rfl hin rfl (by decide +kernel) rfl rfl (Nat.le_of_ble_eq_true rfl) dX0_init_10 (fun H locs hP hD hS => ?_)
  have hP : va_P D vwCl [(h, .inr (0, [.ref r, .int 0, .int 0])), (r, .inl (cy.2.2.2.1, 14, .inr (.inr (.inr (.inr (fun _ => none))))))] H := hP
  have hD : va_D A [(h, .inr (0, [.ref r, .int 0, .int 0])), (r, .inl (cy.2.2.2.1, 14, .inr (.inr (.inr (.inr (fun _ => none))))))] := hD
  refine lv_iconst (v := 0) hx hb dX0_init_13 (by decide) ?_
  refine lv_istore_n (lv' := [(1, .int 0), (0, .ref h)]) hx hb dX0_init_14 rfl hl (by decide) rfl (fun ls hl => ?_)
  exact lp_X0 hx hb hr hml hts hown hlocks hE hO hA 14 0 (by omega) (fun _ => 0) (fun _ => 0) (fun _ => (fun _ => 0, 0, 0, 0, 0)) (fun _ => none) H locs ls (fun j hj => by omega) hP hD hS hl

set_option maxHeartbeats 4000000 in
set_option maxRecDepth 100000 in
theorem lp_X2 {p : Program} {l : Launch} {e : Env} {s : State} {m : MethodId} {args : Array Value} {below : List Frame} {meth : Method} {c : Code} {A : Nat → Prop} {D : va_G} {cy : Cy} {h r : Nat} (hx : p.tables.exec = Jvm.exec) (hb : c.code = cX2_init) (hr : meth.sig.returnType = none) (hml : c.maxLocals = 2) (hts : ∀ w ∈ wsX2_init, w.before args s = true) (hown : s.vm.findClass RX2 = some m.cls) (hlocks : meth.locks = false) (hE : EV D cy A s) (hO : va_AO "TiltTray$Spot" s) (hA : ∀ q, s.heap.size ≤ q → A q) :
    ∀ (k n : Nat), n + k = 6 → ∀ (ha hb2 : Nat → Nat) (f : Nat → SpS) (g : Nat → Option Nat) (H : Heap) (locs : List Loc) (ls : Array Slot), (∀ j, j < n → g j = some (ha j)) → va_P D vwCl ((h, .inr (2, [.ref r, .int 0, .int 0, .int 0])) :: (r, .inl (cy.2.2.2.1, 6, .inr (.inr (.inr (.inr g))))) :: cSps ha hb2 cy.1 f n) H → va_D A ((h, .inr (2, [.ref r, .int 0, .int 0, .int 0])) :: (r, .inl (cy.2.2.2.1, 6, .inr (.inr (.inr (.inr g))))) :: cSps ha hb2 cy.1 f n) → va_S A s.heap H locs → lv_has ls 2 [(1, .int (nI n)), (0, .ref h)] → W p l e ({ frames := 2, cells := 13, slots := 60, locals := 32 } : Room) s m args below meth c H locs (1 + 2 * n) (6 + 9 * n) (MQ below (CnQ D (gSe cy h) A) args s 13 60 A) (F0 m 15 ls []) := by
  have hiX2 : ∀ w ∈ u_ws RX2 TX2 4, w ∈ wsX2_init := by decide +kernel
  have hiX4 : ∀ w ∈ u_ws RX4 TX4 5, w ∈ wsX2_init := by decide +kernel
  intro k
  induction k with
  | zero =>
    intro n hn ha hb2 f g H locs ls hg hP hD hS hl
    have e : n = 6 := by omega
    subst e
    refine lv_iload_n hx hb dX2_init_15 rfl (lv_at hl 0 rfl) ?_
    refine lv_iconst (v := 5) hx hb dX2_init_16 (by decide) ?_
    refine lv_icmp_gt (tgt := 39) hx hb dX2_init_17 (by decide) (fun c1 => ?_) (fun c1 => absurd (by decide) c1)
    have hP := P_ref (g' := fun j => some (ha j)) hP (fun j hj => hg j hj)
    exact cn_ret hx hb hr hlocks ⟨r, ha, hb2, f, rfl⟩ hP (D_addr hD rfl) hS dX2_init_39
  | succ k ih =>
    intro n hn ha hb2 f g H locs ls hg hP hD hS hl
    refine lv_iload_n hx hb dX2_init_15 rfl (lv_at hl 0 rfl) ?_
    refine lv_iconst (v := 5) hx hb dX2_init_16 (by decide) ?_
    refine lv_icmp_gt (tgt := 39) hx hb dX2_init_17 (by decide) (fun c1 => absurd c1 (nI_nlt (a := 5) (by omega) (by omega))) (fun c1 => ?_)
    refine lv_aload_n hx hb dX2_init_20 rfl (lv_at hl 1 rfl) ?_
    refine va_get (D := D) (ci := 2) (v := .ref r) (C := RX2) (T := TX2) (N := 4) hx hb hts hiX2 hown hE.1 hP 0 rfl rfl 0 (by decide) (hts (.fieldLink RX2 11 "TiltTray$Search" "level" "[LTiltTray$Spot;") (by decide +kernel)) (fun _ h9 => h9) rfl dX2_init_21 ?_
    refine lv_iload_n hx hb dX2_init_24 rfl (lv_at hl 0 rfl) ?_
    refine va_new (ci := 4) (fs := [.null, .int 0, .int 0, .int 0, .int 0]) (C := RX4) (T := TX4) (N := 5) hx hb hts hiX4 tyX4 tyX4_ok hown (hts (.classLink RX2 9 RX4) (by decide +kernel)) (hts (.instantiable RX4 5) (by decide +kernel)) (hts (.initialized RX4) (by decide +kernel)) hE.1 hP hD hS hA rfl (fun j hj => by rcases (show j = 0 ∨ j = 1 ∨ j = 2 ∨ j = 3 ∨ j = 4 by omega) with rfl | rfl | rfl | rfl | rfl <;> rfl) (by show _ ≤ 13; omega) (by show _ ≤ 60; omega) dX2_init_25 (fun q1 H hP hD hS => ?_)
    refine lv_dup hx hb dX2_init_28 rfl ?_
    refine kIN (host := "TiltTray") ⟨hx, hb, hml, hown, hts⟩ (n_X4 l D cy q1) gX2_init_X4_init_n17 rfl (hts (.initialized RX4) (by decide +kernel)) (hE.2.1 (.methodLinkNest RX2 17 yX4_init "TiltTray") (by decide +kernel)) (hts (.instanceMethod yX4_init) (by decide +kernel)) rfl (by decide +kernel) ⟨(Nat.le_of_ble_eq_true rfl), (Nat.le_of_ble_eq_true rfl)⟩ hE hO hP hD hS hA hl.1 rfl (Nat.le_of_ble_eq_true rfl) dX2_init_29 ⟨by show _ ≤ 13; omega, by show _ ≤ 60; omega⟩ (fun w1 H locs hG hP hD hS => ?_)
    obtain ⟨a1, f1, -, rfl⟩ := hG
    refine va_astq (r := (RX4, TX4, 5)) hx hb hE.1 hP hD hS 1 3 (2 + 2 * n) 4 rfl rfl (vs := [.ref a1, .int 0, .int 0, .int 0, .int 0]) ?_ rfl (ix_in (ix_nI (n := 6) (by omega) (by omega))) dX2_init_32 (fun H locs hP hD hS => ?_)
    · have e0 : 2 + 2 * n = 2 * n + 1 + 1 := by omega
      rw [e0]
      show (cSps ha hb2 cy.1 f n ++ cSp q1 a1 cy.1 (f1, 0, 0, 0, 0))[2 * n]? = _
      rw [List.getElem?_append_right (by rw [cSps_len]; exact Nat.le_refl _), cSps_len, Nat.sub_self]
      rfl
    · have hP : va_P D vwCl ((h, .inr (2, [.ref r, .int 0, .int 0, .int 0])) :: (r, .inl (cy.2.2.2.1, 6, .inr (.inr (.inr (.inr (va_up g (nI n).toNatClampNeg (some q1))))))) :: (cSps ha hb2 cy.1 f n ++ cSp q1 a1 cy.1 (f1, 0, 0, 0, 0))) H := hP
      have hD : va_D A ((h, .inr (2, [.ref r, .int 0, .int 0, .int 0])) :: (r, .inl (cy.2.2.2.1, 6, .inr (.inr (.inr (.inr (va_up g (nI n).toNatClampNeg (some q1))))))) :: (cSps ha hb2 cy.1 f n ++ cSp q1 a1 cy.1 (f1, 0, 0, 0, 0))) := hD
      rw [cSps_push, nI_clamp (by omega)] at hP hD
      refine lv_iinc (v := nI (n + 1)) (lv' := [(1, .int (nI (n + 1))), (0, .ref h)]) hx hb dX2_init_33 hl (k := 0) rfl (nI_1 n) (by decide) rfl (fun ls hl => ?_)
      refine lv_goto (tgt := 15) hx hb dX2_init_36 (by decide) ?_
      refine W.widen (k := 1 + 2 * (n + 1)) (n := 6 + 9 * (n + 1)) (by omega) (by omega) ?_
      refine ih (n + 1) (by omega) (va_up ha n q1) (va_up hb2 n a1) (va_up f n (f1, 0, 0, 0, 0)) (va_up g n (some q1)) H locs ls (fun j hj => ?_) hP hD hS hl
      by_cases z : j = n
      · subst z; rw [up_s, up_s]
      · rw [up_n z, up_n z]; exact hg j (by omega)

set_option maxHeartbeats 4000000 in
set_option maxRecDepth 100000 in
theorem n_X2 (l : Launch) (D : va_G) (cy : Cy) (h : Nat) : Cn l yX2_init wsX2_init 2 32 13 60 D cy h 2 [.null, .int 0, .int 0, .int 0] (gSe cy h) := by
  refine Cn.ofW (cc := cX2_init) (maxL := 2) (by decide) rfl rfl (by decide) ?_
  intro p e s m args below meth c A ls hx hb hr hml hts hown hin hlocks hE hO hP hD hS hA hl
  have hiX2 : ∀ w ∈ u_ws RX2 TX2 4, w ∈ wsX2_init := by decide +kernel
  refine lv_aload_n hx hb dX2_init_0 rfl (lv_at hl 0 rfl) ?_
  refine W.objInit hx hb hown (hts (.methodLink RX2 3 objectInit) (by decide +kernel)) (hts (.instanceMethod objectInit) (by decide +kernel)) (hts _ (List.mem_cons_of_mem _ (List.mem_of_getElem? (i := 2) rfl))) rfl (by rw [hml]; exact hl.1) rfl dX2_init_1 (Nat.le_of_ble_eq_true rfl) (Nat.le_of_ble_eq_true rfl) ?_
  refine W.eq (g2 := F0 m 4 ls []) rfl ?_
  refine lv_aload_n hx hb dX2_init_4 rfl (lv_at hl 0 rfl) ?_
  refine lv_bipush (v := 6) hx hb dX2_init_5 (by decide) ?_
  refine nQ (N' := 6) hx hb hown (hts (.classLink RX2 9 RX4) (by decide +kernel)) hO hE hP hD hS hA (by decide) (by decide) (by decide) (Nat.le_of_ble_eq_true rfl) (Nat.le_of_ble_eq_true rfl) dX2_init_7 (fun r H hP hD hS => ?_)
  refine W.widen (k := 1) (n := 6) (Nat.le_of_ble_eq_true rfl) (Nat.le_of_ble_eq_true rfl) ?_
  have hP : va_P D vwCl [(h, .inr (2, [.null, .int 0, .int 0, .int 0])), (r, .inl (cy.2.2.2.1, 6, .inr (.inr (.inr (.inr (fun _ => none))))))] H := hP
  have hD : va_D A [(h, .inr (2, [.null, .int 0, .int 0, .int 0])), (r, .inl (cy.2.2.2.1, 6, .inr (.inr (.inr (.inr (fun _ => none))))))] := hD
  refine va_putF (D := D) (ci := 2) (v := .ref r) (ty := .array (.object "TiltTray$Spot")) (C := RX2) (T := TX2) (N := 4) hx hb hts hiX2 tyX2 tyX2_ok nmX2 hown hE.1 hP hD hS 0 rfl rfl 0 (by decide) (hts (.fieldLink RX2 11 "TiltTray$Search" "level" "[LTiltTray$Spot;") (by decide +kernel)) (fun _ h9 => h9) rfl hin rfl (by decide +kernel) rfl rfl (Nat.le_of_ble_eq_true rfl) dX2_init_10 (fun H locs hP hD hS => ?_)
  have hP : va_P D vwCl [(h, .inr (2, [.ref r, .int 0, .int 0, .int 0])), (r, .inl (cy.2.2.2.1, 6, .inr (.inr (.inr (.inr (fun _ => none))))))] H := hP
  have hD : va_D A [(h, .inr (2, [.ref r, .int 0, .int 0, .int 0])), (r, .inl (cy.2.2.2.1, 6, .inr (.inr (.inr (.inr (fun _ => none))))))] := hD
  refine lv_iconst (v := 0) hx hb dX2_init_13 (by decide) ?_
  refine lv_istore_n (lv' := [(1, .int 0), (0, .ref h)]) hx hb dX2_init_14 rfl hl (by decide) rfl (fun ls hl => ?_)
  exact lp_X2 hx hb hr hml hts hown hlocks hE hO hA 6 0 (by omega) (fun _ => 0) (fun _ => 0) (fun _ => (fun _ => 0, 0, 0, 0, 0)) (fun _ => none) H locs ls (fun j hj => by omega) hP hD hS hl
