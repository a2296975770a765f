set_option maxRecDepth 20000 in
theorem nest_in : ∀ w ∈ nestW, w ∈ lw_tbl := fun w h => mem_r nestW [65, 96, 135, 149, 174, 192, 292, 307, 368, 488, 556, 560, 573, 279] (by decide +kernel) w h
theorem nest_on : ∀ w ∈ nestW, w.onTables = true := by decide +kernel
def startW : List Cond := [Cond.instantiable RX0 3, Cond.instantiable RX1 2, Cond.instantiable RX2 4, Cond.instantiable RX3 4, Cond.instantiable RX4 5, Cond.instantiable RX5 5, Cond.instantiable RX6 14, Cond.instantiable RX7 24, Cond.arrayClass .int, Cond.arrayClass .char, Cond.arrayClass .boolean, Cond.arrayOver (.object "TiltTray$Spot"), Cond.laysStatic "TiltTray" "MOST_TOLD" "[I", Cond.laysStatic "TiltTray" "ORDERS" "[I", Cond.laysStatic "TiltTray" "POWERS" "[I", Cond.initialized RX6, Cond.initialized RX7, Cond.classLink RL 7 RX6, Cond.classLink RL 10 RX7, Cond.methodLink RL 9 yX6_init, Cond.methodLink RL 12 yX7_init, Cond.instanceMethod yX6_init, Cond.instanceMethod yX7_init]
set_option maxRecDepth 20000 in
theorem start_in : ∀ w ∈ startW, w ∈ lw_tbl := fun w h => mem_r startW [128, 191, 168, 148, 95, 64, 56, 642, 93, 92, 720, 134, 280, 575, 607, 45, 52, 55, 641, 57, 643, 58, 644] (by decide +kernel) w h
theorem arr_of {args : Array Value} {s : State} {ty : FieldType} (h : (Cond.arrayClass ty).before args s = true) (hob : ∀ C, ty ≠ .object C) : ∃ cA, ArrOfT s cA ty ∧ va_RA s cA ty := by
  obtain ⟨cA, kA, comp, h1, h2, h3⟩ := Cond.arrayClass_spec h
  refine ⟨cA, fun n z => ⟨fun k q => by cases q, kA, h2, comp, h3⟩, ?_⟩
  cases ty with
  | object C => exact absurd rfl (hob C)
  | _ => exact h1
theorem sa1_of {args : Array Value} {s : State} {n : String} {f : Nat → Int32} {A : Nat → Prop} (hl : (Cond.laysStatic "TiltTray" n "[I").before args s = true) (hini : (Cond.initialized "TiltTray").before args s = true) (harr : (Cond.arrayOf (.static "TiltTray" n "[I") .int).before args s = true) (hlen : (Cond.eq (.length (.static "TiltTray" n "[I")) (.int 5)).before args s = true)
    (h0 : (Cond.eq (.elem (.static "TiltTray" n "[I") (.int 0)) (.int (f 0))).before args s = true) (h1 : (Cond.eq (.elem (.static "TiltTray" n "[I") (.int 1)) (.int (f 1))).before args s = true) (h2 : (Cond.eq (.elem (.static "TiltTray" n "[I") (.int 2)) (.int (f 2))).before args s = true) (h3 : (Cond.eq (.elem (.static "TiltTray" n "[I") (.int 3)) (.int (f 3))).before args s = true) (h4 : (Cond.eq (.elem (.static "TiltTray" n "[I") (.int 4)) (.int (f 4))).before args s = true) (hA : ∀ a : Nat, a < s.heap.size → ¬ A a) : ∃ t, SA1 n t f A s s.heap := by
  obtain ⟨t, ht, hT⟩ := va_Tof (N := 5) (f := fun j => .int (f j)) (A := A) (by decide) harr (va_eqt hlen) (fun j hj => by
    rcases (show j = 0 ∨ j = 1 ∨ j = 2 ∨ j = 3 ∨ j = 4 by omega) with rfl | rfl | rfl | rfl | rfl
    · exact va_eqt h0
    · exact va_eqt h1
    · exact va_eqt h2
    · exact va_eqt h3
    · exact va_eqt h4) hA
  exact ⟨t, va_Zof hl hini ht hA, hT⟩
theorem start_EV {args : Array Value} {s : State} (hts : ∀ w ∈ lw_tbl, w.before args s = true) (hgv : (Jvm.Cond.and given_1 narrow_1).before args s = true) : ∃ (D : va_G) (cy : Cy), EV D cy (fun q : Nat => s.heap.size ≤ q) s ∧ va_AO "TiltTray$Spot" s := by
  obtain ⟨c0, i0, h0⟩ := u_known (C := RX0) (T := TX0) (N := 3) (n := 3) hts i_wsX00 (hts (.instantiable RX0 3) (start_in _ (List.mem_of_getElem? (i := 0) rfl)))
  obtain ⟨c1, i1, h1⟩ := u_known (C := RX1) (T := TX1) (N := 2) (n := 2) hts i_wsX10 (hts (.instantiable RX1 2) (start_in _ (List.mem_of_getElem? (i := 1) rfl)))
  obtain ⟨c2, i2, h2⟩ := u_known (C := RX2) (T := TX2) (N := 4) (n := 4) hts i_wsX20 (hts (.instantiable RX2 4) (start_in _ (List.mem_of_getElem? (i := 2) rfl)))
  obtain ⟨c3, i3, h3⟩ := u_known (C := RX3) (T := TX3) (N := 4) (n := 4) hts i_wsX30 (hts (.instantiable RX3 4) (start_in _ (List.mem_of_getElem? (i := 3) rfl)))
  obtain ⟨c4, i4, h4⟩ := u_known (C := RX4) (T := TX4) (N := 5) (n := 5) hts i_wsX40 (hts (.instantiable RX4 5) (start_in _ (List.mem_of_getElem? (i := 4) rfl)))
  obtain ⟨c5, i5, h5⟩ := u_known (C := RX5) (T := TX5) (N := 5) (n := 5) hts i_wsX50 (hts (.instantiable RX5 5) (start_in _ (List.mem_of_getElem? (i := 5) rfl)))
  obtain ⟨c6, i6, h6⟩ := u_known (C := RX6) (T := TX6) (N := 14) (n := 14) hts i_wsX60 (hts (.instantiable RX6 14) (start_in _ (List.mem_of_getElem? (i := 6) rfl)))
  obtain ⟨c7, i7, h7⟩ := u_known (C := RX7) (T := TX7) (N := 24) (n := 24) hts i_wsX70 (hts (.instantiable RX7 24) (start_in _ (List.mem_of_getElem? (i := 7) rfl)))
  obtain ⟨cI, aI, rI⟩ := arr_of (hts (.arrayClass .int) (start_in _ (List.mem_of_getElem? (i := 8) rfl))) (fun C z => by cases z)
  obtain ⟨cC, aC, rC⟩ := arr_of (hts (.arrayClass .char) (start_in _ (List.mem_of_getElem? (i := 9) rfl))) (fun C z => by cases z)
  obtain ⟨cZ, aZ, rZ⟩ := arr_of (hts (.arrayClass .boolean) (start_in _ (List.mem_of_getElem? (i := 10) rfl))) (fun C z => by cases z)
  have hO : va_AO "TiltTray$Spot" s := va_AO.of (hts (.arrayOver (.object "TiltTray$Spot")) (start_in _ (List.mem_of_getElem? (i := 11) rfl)))
  obtain ⟨comp, cS, kS, o1, o2, o3, o4, o5⟩ := Cond.arrayOver_spec hO
  have hs := flat_of_before _ hgv
  have hA : ∀ a : Nat, a < s.heap.size → ¬ (fun q : Nat => s.heap.size ≤ q) a := fun a h => Nat.not_le.mpr h
  obtain ⟨t0, s0⟩ := sa1_of (n := "MOST_TOLD") (f := tMost) (A := fun q : Nat => s.heap.size ≤ q) (hts (.laysStatic "TiltTray" "MOST_TOLD" "[I") (start_in _ (List.mem_of_getElem? (i := 12) rfl))) (hts (.initialized RX6) (start_in _ (List.mem_of_getElem? (i := 15) rfl))) (hs (.arrayOf (.static "TiltTray" "MOST_TOLD" "[I") .int) (by decide +kernel)) (hs (.eq (.length (.static "TiltTray" "MOST_TOLD" "[I")) (.int 5)) (by decide +kernel)) (hs (.eq (.elem (.static "TiltTray" "MOST_TOLD" "[I") (.int 0)) (.int 4)) (by decide +kernel)) (hs (.eq (.elem (.static "TiltTray" "MOST_TOLD" "[I") (.int 1)) (.int 6)) (by decide +kernel)) (hs (.eq (.elem (.static "TiltTray" "MOST_TOLD" "[I") (.int 2)) (.int 3)) (by decide +kernel)) (hs (.eq (.elem (.static "TiltTray" "MOST_TOLD" "[I") (.int 3)) (.int 3)) (by decide +kernel)) (hs (.eq (.elem (.static "TiltTray" "MOST_TOLD" "[I") (.int 4)) (.int 2)) (by decide +kernel)) hA
  obtain ⟨t1, s1⟩ := sa1_of (n := "ORDERS") (f := tOrd) (A := fun q : Nat => s.heap.size ≤ q) (hts (.laysStatic "TiltTray" "ORDERS" "[I") (start_in _ (List.mem_of_getElem? (i := 13) rfl))) (hts (.initialized RX6) (start_in _ (List.mem_of_getElem? (i := 15) rfl))) (hs (.arrayOf (.static "TiltTray" "ORDERS" "[I") .int) (by decide +kernel)) (hs (.eq (.length (.static "TiltTray" "ORDERS" "[I")) (.int 5)) (by decide +kernel)) (hs (.eq (.elem (.static "TiltTray" "ORDERS" "[I") (.int 0)) (.int 1)) (by decide +kernel)) (hs (.eq (.elem (.static "TiltTray" "ORDERS" "[I") (.int 1)) (.int 1)) (by decide +kernel)) (hs (.eq (.elem (.static "TiltTray" "ORDERS" "[I") (.int 2)) (.int 2)) (by decide +kernel)) (hs (.eq (.elem (.static "TiltTray" "ORDERS" "[I") (.int 3)) (.int 6)) (by decide +kernel)) (hs (.eq (.elem (.static "TiltTray" "ORDERS" "[I") (.int 4)) (.int 24)) (by decide +kernel)) hA
  obtain ⟨t2, s2⟩ := sa1_of (n := "POWERS") (f := tPow) (A := fun q : Nat => s.heap.size ≤ q) (hts (.laysStatic "TiltTray" "POWERS" "[I") (start_in _ (List.mem_of_getElem? (i := 14) rfl))) (hts (.initialized RX6) (start_in _ (List.mem_of_getElem? (i := 15) rfl))) (hs (.arrayOf (.static "TiltTray" "POWERS" "[I") .int) (by decide +kernel)) (hs (.eq (.length (.static "TiltTray" "POWERS" "[I")) (.int 5)) (by decide +kernel)) (hs (.eq (.elem (.static "TiltTray" "POWERS" "[I") (.int 0)) (.int 1)) (by decide +kernel)) (hs (.eq (.elem (.static "TiltTray" "POWERS" "[I") (.int 1)) (.int 10)) (by decide +kernel)) (hs (.eq (.elem (.static "TiltTray" "POWERS" "[I") (.int 2)) (.int 100)) (by decide +kernel)) (hs (.eq (.elem (.static "TiltTray" "POWERS" "[I") (.int 3)) (.int 1000)) (by decide +kernel)) (hs (.eq (.elem (.static "TiltTray" "POWERS" "[I") (.int 4)) (.int 10000)) (by decide +kernel)) hA
  refine ⟨((fun k => match k with | 0 => c0 | 1 => c1 | 2 => c2 | 3 => c3 | 4 => c4 | 5 => c5 | 6 => c6 | _ => c7), (fun k => match k with | 0 => i0 | 1 => i1 | 2 => i2 | 3 => i3 | 4 => i4 | 5 => i5 | 6 => i6 | _ => i7)), (cI, cC, cZ, cS, t0, t1, t2), ⟨⟨?_, ?_⟩, fun w hw => va_Nw.of (nest_on w hw) (hts w (nest_in w hw)), s0, s1, s2⟩, hO⟩
  · intro k q hq
    match k, hq with
    | 0, hq => cases hq; exact h0
    | 1, hq => cases hq; exact h1
    | 2, hq => cases hq; exact h2
    | 3, hq => cases hq; exact h3
    | 4, hq => cases hq; exact h4
    | 5, hq => cases hq; exact h5
    | 6, hq => cases hq; exact h6
    | 7, hq => cases hq; exact h7
    | k + 8, hq => simp [vwCl] at hq
  · intro k q hq
    match k, hq with
    | 0, hq => cases hq; exact ⟨aI, rI⟩
    | 1, hq => cases hq; exact ⟨aC, rC⟩
    | 2, hq => cases hq; exact ⟨aZ, rZ⟩
    | 3, hq => cases hq; exact ⟨fun n z => ⟨fun k q => by cases q, kS, o3, comp, o4⟩, kS, comp, o3, o4, o1, o5⟩
    | k + 4, hq => simp at hq

/-- at the start both hold nothing -/
theorem lr0 {nf : Nat → Int32} (h : ∀ j, j < 4 → nf j = -1) (acf slf : Nat → SpS) : LR (fun _ => 0, fun _ => 0, fun _ => 0, 0, 0) (nf, 0, 0, 0, 0) acf 0 0 slf 0 (fun _ => 0) 0 (fun _ => 0) (fun _ => 0) (fun _ => 0) 0 0 (fun _ => 0) (fun _ => 0) (fun _ => 0) (fun _ => 0) 0 0 0 (fun _ => 0) 0 (fun _ => 0) (fun _ => 0) (fun _ => 0) (fun _ => 0) (fun _ => 0) := by
  refine ⟨0, (fun _ => -1, 0, 0), 0, 0, 0, 0, 0, ?_, ?_, ?_, ?_, ?_, ?_⟩
  · exact ⟨rfl, rfl, by omega, fun j hj => by omega, rfl, rfl, rfl, rfl, rfl, by decide +kernel, fun p _ c _ => b_0 c⟩
  · refine ⟨⟨h, rfl, rfl, (show ∀ c, c < 32 → bt (0 : Int32) c = (decide (c < 25) && occ (fun _ => -1) c) by decide +kernel)⟩, ⟨fun j _ => Or.inl rfl, fun i j _ _ _ c hc a => absurd a (m_ne_c c hc)⟩, ⟨fun c _ z => ?_, fun c _ => b_0 c, by decide +kernel⟩, ⟨fun j hj => ?_, rfl, rfl, fun j hj => by omega⟩, rfl⟩
    · rw [show bt (0 : Int32) c = false from b_0 c] at z
      cases z
    · exact (if_neg (fun z => Nat.not_lt_zero _ z.1)).symm
  · exact ⟨rfl, rfl, rfl, rfl, by omega, by omega, by omega, fun t ht => by omega⟩
  · exact SLR.zero (fun _ _ => rfl)
  · exact ⟨rfl, rfl, by omega, fun j hj => by omega⟩
  · exact ⟨rfl, rfl, by omega, fun j hj => by omega⟩
def R_law : String := "TiltTrayLaw"
def lw_P (b : Addr) (xs : List Int32) (args : Array Value) (s : State) : Prop := args = #[.ref b] ∧ s.IntsAt b xs ∧ xs.length ≤ 384 ∧ (Jvm.Cond.and given_1 narrow_1).before args s = true
def lw_Q (_ : Array Value) (s : State) (o : Outcome) (t : State) : Prop := o = .returned (some (.int 1)) ∧ Framed s o t [] 624735 7228043
def lw_Z (below : List Frame) (a : Array Value) (s : State) : State → Prop := fun t => ∃ o, t.status = .running ∧ Ended t below o ∧ lw_Q a s o t
/-- the law's own end, with 1 on the stack, nothing written that was there before, its room as the claim has it -/
theorem lw_ret {p : Program} {l : Launch} {e : Env} {s : State} {m : MethodId} {below : List Frame} {meth : Method} {c : Code} {b : Nat} (hx : p.tables.exec = Jvm.exec) (hb : c.code = code) (hr : meth.sig.returnType = ret) (hlocks : meth.locks = false) {pc : Nat} {H : Heap} {ls : Array Slot} (hdg : decode code pc = .ok (.ireturn, 1)) : W p l e room_1 s m #[Value.ref b] below meth c H [] 624735 7228043 (lw_Z below #[Value.ref b] s) (F0 m pc ls [.int 1]) := by
  intro T hT X
  obtain ⟨fs, hret, hrun, hended, hW, hframe⟩ := X.leave (v := some (.int 1)) (hlocks := hlocks) (fun h => by rw [hr] at h; cases h)
  have hmeth' : T.vm.method? m = some meth := X.method'
  refine ⟨T.setFrames fs, ?_, .returned (some (.int 1)), hrun, hended, rfl, ⟨_, rfl⟩, hW, hframe⟩
  jvm_step X.here [X.here.top, hx, hb, hdg, hmeth', hr, ret, narrow_b1]
  (try refine ⟨rfl, ?_⟩); (try refine ⟨rfl, ?_⟩)
  first | (intro acts; rw [hret _ acts rfl rfl rfl]) | rw [hret _ _ rfl rfl rfl]
  exact Steps.refl _
/-- what holds at the law's entry: the machine, the code, the tables' words (any of lw_tbl by 'hts w (by decide +kernel)'), the script of L ints xs at the cell b, what the Statement gives of the start (any of its parts by flat_of_before) -/
def lw_At (p : Program) (s : State) (m : MethodId) (meth : Method) (c : Code) (b L : Nat) (xs : Nat → Int32) : Prop :=
  p.tables.exec = Jvm.exec ∧ c.code = code ∧ meth.sig.returnType = ret ∧ c.maxLocals = 4 ∧ s.vm.findClass R_law = some m.cls ∧ (∀ w ∈ lw_tbl, w.before #[Value.ref b] s = true) ∧ va_X b L xs s s.heap ∧ b < s.heap.size ∧ meth.locks = false ∧ (Jvm.Cond.and given_1 narrow_1).before #[Value.ref b] s = true

theorem LI.S {D : va_G} {cy : Cy} {A : Nat → Prop} {s : State} {xh mh : Nat} {ad : Nat → Nat} {fa : Nat → Nat → Nat} {H : Heap} {locs : List Loc} (h : LI D cy A s xh mh ad fa H locs) : va_S A s.heap H locs := by
  obtain ⟨_, _, _, _, _, _, _, _, _, _, _, _, _, _, _, _, _, _, _, _, _, _, _, _, _, _, _, _, _, _, _, _, _, _, _, _, _, _, _, _, _, _, _, _, _, _, _, _, _, _, _, _, _, -, -, -, hS⟩ := h
  exact hS
set_option maxHeartbeats 4000000 in
set_option maxRecDepth 100000 in
theorem law_loop {p : Program} {l : Launch} {e : Env} {s : State} {m : MethodId} {below : List Frame} {meth : Method} {c : Code} {b L : Nat} {xs : Nat → Int32} {D : va_G} {cy : Cy} {A : Nat → Prop} {xh mh CE SL : Nat} {ad : Nat → Nat} {fa : Nat → Nat → Nat} (X : LX p s m meth c b L xs D cy A) (hr : meth.sig.returnType = ret) (hlocks : meth.locks = false) (hAe : ∀ q, A q → s.heap.size ≤ q) (hf : CE ≤ room_1.cells ∧ SL ≤ room_1.slots) :
    ∀ (n i : Nat), L < i + n → i ≤ 400 → ∀ (H : Heap) (locs : List Loc) (ls : Array Slot), LI D cy A s xh mh ad fa H locs → lv_has ls 4 [(3, .int (nI i)), (2, .ref mh), (1, .ref xh), (0, .ref b)] → W p l e room_1 s m #[Value.ref b] below meth c H locs CE SL (lw_Z below #[Value.ref b] s) (F0 m 18 ls []) := by
  have X0 := X
  obtain ⟨hx, hb, hml, hown, hts, hX, hbl, hbA, hE, hA, hL⟩ := X
  intro n
  induction n with
  | zero =>
    intro i h1 h2 H locs ls hI hl
    have hS := hI.S
    refine lv_iload_n hx hb dL_law_18 rfl (lv_at hl 0 rfl) ?_
    refine lv_aload_n hx hb dL_law_19 rfl (lv_at hl 3 rfl) ?_
    refine va_slen hx hb hX hbl hbA hS dL_law_20 ?_
    refine lv_bipush (v := 6) hx hb dL_law_21 (by decide) ?_
    refine lv_isub hx hb dL_law_23 ?_
    refine lv_icmp_gt (tgt := 1015) hx hb dL_law_24 (by decide) (fun c1 => ?_) (fun c1 => ?_)
    · refine lv_iconst (v := 1) hx hb dL_law_1015 (by decide) ?_
      refine va_forget (fun q hq => hAe _ (hS.2.2 q hq)) ?_
      refine W.widen (k := 624735) (n := 7228043) hf.1 hf.2 ?_
      exact lw_ret hx hb hr hlocks dL_law_1016
    · have e1 : (nI L - nI 6).toInt = (L : Int) - 6 := pk_sub_toInt (by omega) (by omega)
      have c2 : ¬ nI L - nI 6 < nI i := c1
      rw [Int32.lt_iff_toInt_lt, e1, nI_toInt (by omega)] at c2
      omega
  | succ n ih =>
    intro i h1 h2 H locs ls hI hl
    have hS := hI.S
    refine lv_iload_n hx hb dL_law_18 rfl (lv_at hl 0 rfl) ?_
    refine lv_aload_n hx hb dL_law_19 rfl (lv_at hl 3 rfl) ?_
    refine va_slen hx hb hX hbl hbA hS dL_law_20 ?_
    refine lv_bipush (v := 6) hx hb dL_law_21 (by decide) ?_
    refine lv_isub hx hb dL_law_23 ?_
    refine lv_icmp_gt (tgt := 1015) hx hb dL_law_24 (by decide) (fun c1 => ?_) (fun c1 => ?_)
    · refine lv_iconst (v := 1) hx hb dL_law_1015 (by decide) ?_
      refine va_forget (fun q hq => hAe _ (hS.2.2 q hq)) ?_
      refine W.widen (k := 624735) (n := 7228043) hf.1 hf.2 ?_
      exact lw_ret hx hb hr hlocks dL_law_1016
    · have hlt : i + 5 < L := by
        have e1 : (nI L - nI 6).toInt = (L : Int) - 6 := pk_sub_toInt (by omega) (by omega)
        have c2 : ¬ nI L - nI 6 < nI i := c1
        rw [Int32.lt_iff_toInt_lt, e1, nI_toInt (by omega)] at c2
        omega
      have K : ∀ (H : Heap) (locs : List Loc) (ls : Array Slot), LI D cy A s xh mh ad fa H locs → lv_has ls 4 [(3, .int (nI i)), (2, .ref mh), (1, .ref xh), (0, .ref b)] → W p l e room_1 s m #[Value.ref b] below meth c H locs CE SL (lw_Z below #[Value.ref b] s) (F0 m 1009 ls []) := by
        intro H locs ls hI hl
        refine lv_iinc (v := nI (i + 6)) (lv' := [(3, .int (nI (i + 6))), (2, .ref mh), (1, .ref xh), (0, .ref b)]) hx hb dL_law_1009 hl (k := 0) rfl (by rw [show Int32.ofInt 6 = nI 6 by decide]; exact nI_add i 6) (by decide) rfl (fun ls hl => ?_)
        refine lv_goto (tgt := 18) hx hb dL_law_1012 (by decide) ?_
        exact ih (i + 6) (by omega) (by omega) H locs ls hI hl
      refine lv_aload_n hx hb dL_law_27 rfl (lv_at hl 3 rfl) ?_
      refine lv_iload_n hx hb dL_law_28 rfl (lv_at hl 0 rfl) ?_
      refine va_sld hx hb hX hbl hbA hS (vp_in_nI (show i < L by omega) (by omega)) dL_law_29 ?_
      refine lv_bipush (v := 31) hx hb dL_law_30 (by decide) ?_
      refine lv_iand hx hb dL_law_32 ?_
      obtain ⟨j, hj, ej⟩ := pk_andE (xs (nI i).toNatClampNeg) (m := 31) 5 (by decide)
      refine lv_fold ej ?_
      rcases (show j = 0 ∨ j = 1 ∨ j = 2 ∨ j = 3 ∨ j = 4 ∨ j = 5 ∨ j = 6 ∨ j = 7 ∨ j = 8 ∨ j = 9 ∨ j = 10 ∨ j = 11 ∨ j = 12 ∨ j = 13 ∨ j = 14 ∨ j = 15 ∨ j = 16 ∨ j = 17 ∨ j = 18 ∨ j = 19 ∨ j = 20 ∨ j = 21 ∨ j = 22 ∨ j = 23 ∨ j = 24 ∨ j = 25 ∨ j = 26 ∨ j = 27 ∨ (28 ≤ j ∧ j < 32) by omega) with rfl | rfl | rfl | rfl | rfl | rfl | rfl | rfl | rfl | rfl | rfl | rfl | rfl | rfl | rfl | rfl | rfl | rfl | rfl | rfl | rfl | rfl | rfl | rfl | rfl | rfl | rfl | rfl | hj2
      · exact lv_tableIn (tgt := 160) (off := 127) hx hb dL_law_33 (by decide +kernel) (by decide +kernel) (by decide +kernel) (by decide) (k_write X0 hlt hf hI hl K)
      · exact lv_tableIn (tgt := 183) (off := 150) hx hb dL_law_33 (by decide +kernel) (by decide +kernel) (by decide +kernel) (by decide) (k_wipe X0 hlt hf hI hl K)
      · exact lv_tableIn (tgt := 196) (off := 163) hx hb dL_law_33 (by decide +kernel) (by decide +kernel) (by decide +kernel) (by decide) (k_fault X0 hlt hf hI hl K)
      · exact lv_tableIn (tgt := 209) (off := 176) hx hb dL_law_33 (by decide +kernel) (by decide +kernel) (by decide +kernel) (by decide) (k_table X0 hlt hf hI hl K)
      · exact lv_tableIn (tgt := 222) (off := 189) hx hb dL_law_33 (by decide +kernel) (by decide +kernel) (by decide +kernel) (by decide) (k_cell X0 hlt hf hI hl K)
      · exact lv_tableIn (tgt := 255) (off := 222) hx hb dL_law_33 (by decide +kernel) (by decide +kernel) (by decide +kernel) (by decide) (k_marble X0 hlt hf hI hl K)
      · exact lv_tableIn (tgt := 288) (off := 255) hx hb dL_law_33 (by decide +kernel) (by decide +kernel) (by decide +kernel) (by decide) (k_tilt X0 hlt hf hI hl K)
      · exact lv_tableIn (tgt := 311) (off := 278) hx hb dL_law_33 (by decide +kernel) (by decide +kernel) (by decide +kernel) (by decide) (k_lift X0 hlt hf hI hl K)
      · exact lv_tableIn (tgt := 344) (off := 311) hx hb dL_law_33 (by decide +kernel) (by decide +kernel) (by decide +kernel) (by decide) (k_wedge X0 hlt hf hI hl K)
      · exact lv_tableIn (tgt := 367) (off := 334) hx hb dL_law_33 (by decide +kernel) (by decide +kernel) (by decide +kernel) (by decide) (k_undo X0 hlt hf hI hl K)
      · exact lv_tableIn (tgt := 380) (off := 347) hx hb dL_law_33 (by decide +kernel) (by decide +kernel) (by decide +kernel) (by decide) (k_rolls X0 hlt hf hI hl K)
      · exact lv_tableIn (tgt := 413) (off := 380) hx hb dL_law_33 (by decide +kernel) (by decide +kernel) (by decide +kernel) (by decide) (k_safe X0 hlt hf hI hl K)
      · exact lv_tableIn (tgt := 426) (off := 393) hx hb dL_law_33 (by decide +kernel) (by decide +kernel) (by decide +kernel) (by decide) (k_fewest X0 hlt hf hI hl K)
      · exact lv_tableIn (tgt := 475) (off := 442) hx hb dL_law_33 (by decide +kernel) (by decide +kernel) (by decide +kernel) (by decide) (k_reach X0 hlt hf hI hl K)
      · exact lv_tableIn (tgt := 498) (off := 465) hx hb dL_law_33 (by decide +kernel) (by decide +kernel) (by decide +kernel) (by decide) (k_best X0 hlt hf hI hl K)
      · exact lv_tableIn (tgt := 547) (off := 514) hx hb dL_law_33 (by decide +kernel) (by decide +kernel) (by decide +kernel) (by decide) (k_saves X0 hlt hf hI hl K)
      · exact lv_tableIn (tgt := 580) (off := 547) hx hb dL_law_33 (by decide +kernel) (by decide +kernel) (by decide +kernel) (by decide) (k_judge X0 hlt hf hI hl K)
      · exact lv_tableIn (tgt := 643) (off := 610) hx hb dL_law_33 (by decide +kernel) (by decide +kernel) (by decide +kernel) (by decide) (k_see X0 hlt hf hI hl K)
      · exact lv_tableIn (tgt := 686) (off := 653) hx hb dL_law_33 (by decide +kernel) (by decide +kernel) (by decide +kernel) (by decide) (k_unsee X0 hlt hf hI hl K)
      · exact lv_tableIn (tgt := 699) (off := 666) hx hb dL_law_33 (by decide +kernel) (by decide +kernel) (by decide +kernel) (by decide) (k_hidden X0 hlt hf hI hl K)
      · exact lv_tableIn (tgt := 712) (off := 679) hx hb dL_law_33 (by decide +kernel) (by decide +kernel) (by decide +kernel) (by decide) (k_share X0 hlt hf hI hl K)
      · exact lv_tableIn (tgt := 761) (off := 728) hx hb dL_law_33 (by decide +kernel) (by decide +kernel) (by decide +kernel) (by decide) (k_rests X0 hlt hf hI hl K)
      · exact lv_tableIn (tgt := 784) (off := 751) hx hb dL_law_33 (by decide +kernel) (by decide +kernel) (by decide +kernel) (by decide) (k_fails X0 hlt hf hI hl K)
      · exact lv_tableIn (tgt := 863) (off := 830) hx hb dL_law_33 (by decide +kernel) (by decide +kernel) (by decide +kernel) (by decide) (k_seed X0 hlt hf hI hl K)
      · exact lv_tableIn (tgt := 917) (off := 884) hx hb dL_law_33 (by decide +kernel) (by decide +kernel) (by decide +kernel) (by decide) (k_days X0 hlt hf hI hl K)
      · exact lv_tableIn (tgt := 940) (off := 907) hx hb dL_law_33 (by decide +kernel) (by decide +kernel) (by decide +kernel) (by decide) (k_keep X0 hlt hf hI hl K)
      · exact lv_tableIn (tgt := 963) (off := 930) hx hb dL_law_33 (by decide +kernel) (by decide +kernel) (by decide +kernel) (by decide) (k_again X0 hlt hf hI hl K)
      · exact lv_tableIn (tgt := 986) (off := 953) hx hb dL_law_33 (by decide +kernel) (by decide +kernel) (by decide +kernel) (by decide) (k_count X0 hlt hf hI hl K)
      · exact lv_tableOut (tgt := 1009) hx hb dL_law_33 (Or.inr (by rw [nI_toInt (by omega)]; omega)) (by decide) (K H locs ls hI hl)

set_option maxHeartbeats 4000000 in
set_option maxRecDepth 100000 in
/-- THE LAW, from its entry -/
theorem whole_start {p : Program} {e : Env} {s : State} {m : MethodId} {below : List Frame} {meth : Method} {c : Code} (l : Launch) {b L : Nat} {xs : Nat → Int32} (hL : L ≤ 384) (C0 : lw_At p s m meth c b L xs) : W p l e room_1 s m #[Value.ref b] below meth c s.heap [] 0 0 (lw_Z below #[Value.ref b] s) (entryFrame m ([Value.ref b] : List Value).toArray 4) := by
  obtain ⟨hx, hb, hr, hml, hown, hts0, hX, hbl, hlocks, hgv⟩ := id C0
  have hown : s.vm.findClass RL = some m.cls := hown
  have hb : c.code = cL_law := hb
  have hts : ∀ w ∈ wsL_law, w.before #[Value.ref b] s = true := fun w h => hts0 w (wsL_law_in w h)
  obtain ⟨D, cy, hE, hO⟩ := start_EV hts0 hgv
  have hA : ∀ q : Nat, s.heap.size ≤ q → (fun q : Nat => s.heap.size ≤ q) q := fun _ h => h
  have hbA : ¬ (fun q : Nat => s.heap.size ≤ q) b := Nat.not_le.mpr hbl
  have hS : va_S (fun q : Nat => s.heap.size ≤ q) s.heap s.heap [] := va_S.rf
  have hP : va_P D vwCl [] s.heap := fun k q h => by simp at h
  have hD : va_D (fun q : Nat => s.heap.size ≤ q) [] := ⟨fun i j p q h => by simp at h, fun k q h => by simp at h⟩
  have hl := lv_entry ([.ref b]) (n := 4) (Nat.le_of_ble_eq_true rfl)
  rw [lg_entry_eq]
  generalize (lg_sl ([.ref b]) ++ List.replicate (4 - (lg_sl ([.ref b])).length) Slot.unset).toArray = ls at hl ⊢
  have hl : lv_has ls 4 [(0, .ref b)] := hl
  refine va_new (ci := 6) (fs := [.null, .int 0, .null, .null, .null, .null, .null, .null, .int 0, .null, .null, .null, .null, .long 0]) (C := RX6) (T := TX6) (N := 14) hx hb hts0 i_wsX60 tyX6 tyX6_ok hown (hts0 (.classLink RL 7 RX6) (start_in _ (List.mem_of_getElem? (i := 17) rfl))) (hts0 (.instantiable RX6 14) (start_in _ (List.mem_of_getElem? (i := 6) rfl))) (hts0 (.initialized RX6) (start_in _ (List.mem_of_getElem? (i := 15) rfl))) hE.1 hP hD hS hA rfl (fun j hj => by rcases (show j = 0 ∨ j = 1 ∨ j = 2 ∨ j = 3 ∨ j = 4 ∨ j = 5 ∨ j = 6 ∨ j = 7 ∨ j = 8 ∨ j = 9 ∨ j = 10 ∨ j = 11 ∨ j = 12 ∨ j = 13 by omega) with rfl | rfl | rfl | rfl | rfl | rfl | rfl | rfl | rfl | rfl | rfl | rfl | rfl | rfl <;> rfl) (Nat.le_of_ble_eq_true rfl) (Nat.le_of_ble_eq_true rfl) dL_law_0 (fun xh H hP hD hS => ?_)
  refine W.widen (k := 1) (n := 14) (Nat.le_of_ble_eq_true rfl) (Nat.le_of_ble_eq_true rfl) ?_
  refine lv_dup hx hb dL_law_3 rfl ?_
  refine kI ⟨hx, hb, hml, hown, hts⟩ (n_X6 l D cy xh) gL_law_X6_init rfl (hts0 (.initialized RX6) (start_in _ (List.mem_of_getElem? (i := 15) rfl))) (hts0 (.methodLink RL 9 yX6_init) (start_in _ (List.mem_of_getElem? (i := 19) rfl))) (hts0 (.instanceMethod yX6_init) (start_in _ (List.mem_of_getElem? (i := 21) rfl))) rfl (by decide +kernel) ⟨(Nat.le_of_ble_eq_true rfl), (Nat.le_of_ble_eq_true rfl)⟩ hE hO hP hD hS hA hl.1 rfl (Nat.le_of_ble_eq_true rfl) dL_law_4 ⟨(Nat.le_of_ble_eq_true rfl), (Nat.le_of_ble_eq_true rfl)⟩ (fun w1 H locs hG hP hD hS => ?_)
  obtain ⟨txr, noh, noa, srh, sra, ach, acr, slr, sih, sia, sib, sic, seh, ser, pah, paa, pab, wor, xt, ta, tb, tc, xd, da, db, dc, acH, acB, slH, slB, seH, seB, nf, sf, acf, slf, sef, hnf, rfl⟩ := hG
  rw [List.nil_append] at hP hD
  refine W.widen (k := 71) (n := 415) (Nat.le_of_ble_eq_true rfl) (Nat.le_of_ble_eq_true rfl) ?_
  refine lv_astore_n (lv' := [(1, .ref xh), (0, .ref b)]) hx hb dL_law_7 rfl hl (by decide) rfl (fun ls hl => ?_)
  refine va_new (ci := 7) (fs := [.int 0, .null, .null, .null, .null, .null, .null, .null, .int 0, .int 0, .int 0, .int 0, .int 0, .int 0, .int 0, .null, .int 0, .int 0, .null, .null, .null, .long 0, .null, .null]) (C := RX7) (T := TX7) (N := 24) hx hb hts0 i_wsX70 tyX7 tyX7_ok hown (hts0 (.classLink RL 10 RX7) (start_in _ (List.mem_of_getElem? (i := 18) rfl))) (hts0 (.instantiable RX7 24) (start_in _ (List.mem_of_getElem? (i := 7) rfl))) (hts0 (.initialized RX7) (start_in _ (List.mem_of_getElem? (i := 16) rfl))) hE.1 hP hD hS hA rfl (fun j hj => by rcases (show j = 0 ∨ j = 1 ∨ j = 2 ∨ j = 3 ∨ j = 4 ∨ j = 5 ∨ j = 6 ∨ j = 7 ∨ j = 8 ∨ j = 9 ∨ j = 10 ∨ j = 11 ∨ j = 12 ∨ j = 13 ∨ j = 14 ∨ j = 15 ∨ j = 16 ∨ j = 17 ∨ j = 18 ∨ j = 19 ∨ j = 20 ∨ j = 21 ∨ j = 22 ∨ j = 23 by omega) with rfl | rfl | rfl | rfl | rfl | rfl | rfl | rfl | rfl | rfl | rfl | rfl | rfl | rfl | rfl | rfl | rfl | rfl | rfl | rfl | rfl | rfl | rfl | rfl <;> rfl) (Nat.le_of_ble_eq_true rfl) (Nat.le_of_ble_eq_true rfl) dL_law_8 (fun mh H hP hD hS => ?_)
  refine W.widen (k := 72) (n := 439) (Nat.le_of_ble_eq_true rfl) (Nat.le_of_ble_eq_true rfl) ?_
  refine lv_dup hx hb dL_law_11 rfl ?_
  refine kI ⟨hx, hb, hml, hown, hts⟩ (n_X7 l D cy mh) gL_law_X7_init rfl (hts0 (.initialized RX7) (start_in _ (List.mem_of_getElem? (i := 16) rfl))) (hts0 (.methodLink RL 12 yX7_init) (start_in _ (List.mem_of_getElem? (i := 20) rfl))) (hts0 (.instanceMethod yX7_init) (start_in _ (List.mem_of_getElem? (i := 22) rfl))) rfl (by decide +kernel) ⟨(Nat.le_of_ble_eq_true rfl), (Nat.le_of_ble_eq_true rfl)⟩ hE hO hP hD hS hA hl.1 rfl (Nat.le_of_ble_eq_true rfl) dL_law_12 ⟨(Nat.le_of_ble_eq_true rfl), (Nat.le_of_ble_eq_true rfl)⟩ (fun w1 H locs hG hP hD hS => ?_)
  obtain ⟨q0, q1, q2, q3, q4, q5, q6, q7, q8, q9, q10, q11, q12, rfl⟩ := hG
  refine W.widen (k := 85) (n := 655) (Nat.le_of_ble_eq_true rfl) (Nat.le_of_ble_eq_true rfl) ?_
  refine lv_astore_n (lv' := [(2, .ref mh), (1, .ref xh), (0, .ref b)]) hx hb dL_law_15 rfl hl (by decide) rfl (fun ls hl => ?_)
  refine lv_iconst (v := 0) hx hb dL_law_16 (by decide) ?_
  refine lv_istore_n (lv' := [(3, .int 0), (2, .ref mh), (1, .ref xh), (0, .ref b)]) hx hb dL_law_17 rfl hl (by decide) rfl (fun ls hl => ?_)
  have hP : va_P D vwCl (wld (cTT xh txr noh srh ach slr sih seh pah wor xt xd 0 0 0) (cSl slr slH cy.2.2.2.1) [(txr, .inl (cy.2.1, 48, .inl (fun _ => 0)))] (cTr xt ta tb tc cy.1 (fun _ => 0, fun _ => 0, fun _ => 0, 0, 0)) (cTr xd da db dc cy.1 (fun _ => 0, fun _ => 0, fun _ => 0, 0, 0)) (cSp noh noa cy.1 (nf, 0, 0, 0, 0)) (cSp srh sra cy.1 (sf, 0, 0, 0, 0)) (cAc ach acr acH cy.2.2.2.1 0 0) (cSps acH acB cy.1 acf 14) (cSi sih sia sib sic cy.1 (fun _ => 0) (fun _ => 0) (fun _ => 0) 0) (cSe seh ser seH cy.2.2.2.1 0 0 0) (cSps seH seB cy.1 sef 6) (cPa pah paa pab cy.1 (fun _ => 0) (fun _ => 0)) [(wor, .inl (cy.1, 16, .inl (fun _ => 0)))] (cSps slH slB cy.1 slf 2) (cMd mh q0 q1 q2 q3 q4 q5 q6 q7 q8 q9 q10 q11 q12 cy.1 cy.2.2.1 0 (fun _ => 0) (fun _ => 0) (fun _ => 0) (fun _ => 0) (fun _ => 0) (fun _ => 0) (fun _ => 0) 0 0 0 15 0 0 0 (fun _ => 0) 0 0 (fun _ => 0) (fun _ => 0) (fun _ => 0) 0 (fun _ => 0) (fun _ => 0))) H := hP
  have hD : va_D (fun q : Nat => s.heap.size ≤ q) (wld (cTT xh txr noh srh ach slr sih seh pah wor xt xd 0 0 0) (cSl slr slH cy.2.2.2.1) [(txr, .inl (cy.2.1, 48, .inl (fun _ => 0)))] (cTr xt ta tb tc cy.1 (fun _ => 0, fun _ => 0, fun _ => 0, 0, 0)) (cTr xd da db dc cy.1 (fun _ => 0, fun _ => 0, fun _ => 0, 0, 0)) (cSp noh noa cy.1 (nf, 0, 0, 0, 0)) (cSp srh sra cy.1 (sf, 0, 0, 0, 0)) (cAc ach acr acH cy.2.2.2.1 0 0) (cSps acH acB cy.1 acf 14) (cSi sih sia sib sic cy.1 (fun _ => 0) (fun _ => 0) (fun _ => 0) 0) (cSe seh ser seH cy.2.2.2.1 0 0 0) (cSps seH seB cy.1 sef 6) (cPa pah paa pab cy.1 (fun _ => 0) (fun _ => 0)) [(wor, .inl (cy.1, 16, .inl (fun _ => 0)))] (cSps slH slB cy.1 slf 2) (cMd mh q0 q1 q2 q3 q4 q5 q6 q7 q8 q9 q10 q11 q12 cy.1 cy.2.2.1 0 (fun _ => 0) (fun _ => 0) (fun _ => 0) (fun _ => 0) (fun _ => 0) (fun _ => 0) (fun _ => 0) 0 0 0 15 0 0 0 (fun _ => 0) 0 0 (fun _ => 0) (fun _ => 0) (fun _ => 0) 0 (fun _ => 0) (fun _ => 0))) := hD
  have hI : LI D cy (fun q : Nat => s.heap.size ≤ q) s xh mh (fun n => (([txr, noh, noa, srh, sra, ach, acr, slr, sih, sia, sib, sic, seh, ser, pah, paa, pab, wor, 0, 0, q0, q1, q2, q3, q4, q5, q6, q7, q8, q9, q10, q11, q12] : List Nat)[n]?).getD 0) (fun n => (([acH, acB, slH, slB, seH, seB] : List (Nat → Nat))[n]?).getD (fun _ => 0)) H locs := ⟨xt, ta, tb, tc, xd, da, db, dc, (fun _ => 0), 0, (nf, 0, 0, 0, 0), (sf, 0, 0, 0, 0), acf, 0, 0, slf, 0, (fun _ => 0), (fun _ => 0), (fun _ => 0), 0, sef, 0, 0, 0, (fun _ => 0), (fun _ => 0), (fun _ => 0), (fun _ => 0, fun _ => 0, fun _ => 0, 0, 0), (fun _ => 0, fun _ => 0, fun _ => 0, 0, 0), 0, 0, (fun _ => 0), (fun _ => 0), (fun _ => 0), (fun _ => 0), (fun _ => 0), (fun _ => 0), (fun _ => 0), 0, 0, 0, 0, 0, 0, (fun _ => 0), 0, 0, (fun _ => 0), (fun _ => 0), (fun _ => 0), (fun _ => 0), (fun _ => 0), lr0 hnf acf slf, hP, hD, hS⟩
  exact law_loop ⟨hx, hb, hml, hown, hts, hX, hbl, hbA, hE, hA, hL⟩ hr hlocks (fun q h => h) ⟨(Nat.le_of_ble_eq_true rfl), (Nat.le_of_ble_eq_true rfl)⟩ (L + 1) 0 (by omega) (by omega) H locs ls hI hl

set_option maxHeartbeats 4000000 in
theorem lw_walk (l : Launch) (b : Addr) (xs : List Int32) : MetFree l x (headSpec (Jvm.Cond.code x code maxLocals ret :: tables_1) room_1) (lw_P b xs) (fun _ _ _ _ _ => True) lw_Q := by
  refine MetFree.of_bodyS (code := code) (maxLocals := maxLocals) (ret := ret) (by decide) ?_ ?_
  · intro args s m h hn
    obtain ⟨meth, c, h1, h2, h3, h4, h5, h6, -, -⟩ := Cond.code_spec hn (atoms_spec (ws := Jvm.Cond.code x code maxLocals ret :: tables_1) h _ List.mem_cons_self)
    exact ⟨meth, c, h1, h2, h3, h4, h5, h6⟩
  · intro p e s m args below meth c s₁ B hml0 hP _
    obtain ⟨rfl, hx, hbd, hgv⟩ := hP
    obtain ⟨scr, harrAt, hlist, hof, hsmall⟩ := hx
    obtain ⟨hcb, hkn, -, -⟩ := State.arrayAt?_spec harrAt
    have hown : s.vm.findClass R_law = some m.cls := findClass_of_methodNamed B.named
    have hts0 : ∀ c ∈ (Jvm.Cond.code x code maxLocals ret :: tables_1), c.before #[Value.ref b] s = true := atoms_spec (ws := Jvm.Cond.code x code maxLocals ret :: tables_1) B.pre
    have hts : ∀ w ∈ lw_tbl, w.before #[Value.ref b] s = true := k2_hts_sels lw_privs (fun w hw => hts0 w (List.mem_cons_of_mem _ hw)) lw_privs_ok
    have hml : c.maxLocals = 4 := B.maxLocals_eq (hts0 _ List.mem_cons_self)
    have X₀ : Stand p l e room_1 s m #[Value.ref b] below meth c s₁ [] 0 0 := Stand.of_body B
    have hh0 : s₁.heap = s.heap := by rw [B.state]; rfl
    have hsz : scr.slots.size = xs.length := by rw [← Array.length_toList, hlist, List.length_map]
    have hval : ∀ j : Nat, j < xs.length → scr.slots[j]? = some (.int (xs.getD j 0)) := fun j hj => by
      rw [← Array.getElem?_toList, hlist]
      simp [hj]
    have hbl : b < s.heap.size := (Array.getElem?_eq_some_iff.mp hcb).1
    have hX : va_X b xs.length (fun j => xs.getD j 0) s s.heap := ⟨scr, hcb, hof, hkn, hsz, hval⟩
    have K : W p l e room_1 s m #[Value.ref b] below meth c s₁.heap [] 0 0 (lw_Z below #[Value.ref b] s) (entryFrame m ([Value.ref b] : List Value).toArray 4) := by
      rw [hh0]
      exact whole_start l hbd ⟨B.exec, B.bytes, B.returns, hml, hown, hts, hX, hbl, B.notSynchronized, hgv⟩
    obtain ⟨t, a1, o, b1, b2, b3⟩ := K s₁ rfl X₀
    exact ⟨t, o, a1, b1, b2, b3⟩
theorem lw_pre_spec {args : Array Value} {s : State} (h : (Jvm.Cond.and given_1 narrow_1).before args s = true) (hr : rest_1_c.before args s = true) : ∃ (b : Addr) (xs : List Int32), lw_P b xs args s := by
  have hs := flat_of_before _ h
  have hq := flat_of_before _ hr
  have hc : (Cond.count 1).before args s = true := hs _ (by decide +kernel)
  have harr : (Cond.arrayOf (.arg 0) .int).before args s = true := hs _ (by decide +kernel)
  have hle : (Cond.le (.length (.arg 0)) (.int 384)).before args s = true := hs _ (by decide +kernel)
  have hlen : (Cond.isInt (.length (.arg 0))).before args s = true := hq _ (by decide +kernel)
  have hall : (Cond.all (.arg 0) (.isInt (.elem (.arg 0) (.index 0)))).before args s = true := hq _ (by decide +kernel)
  obtain ⟨b, xs, hb, hx⟩ := State.ints_of_pre rfl harr hlen hall
  have hsm : xs.length < 2 ^ 31 := hx.choose_spec.2.2.2
  have hev : (Term.length (.arg 0)).eval args s none [] s = some (.int xs.length.toInt32) := hx.length_eval hb
  have hv := Cond.le_ints hev (show (Term.int 384).eval args s none [] s = some (.int 384) from rfl)
  have hd : xs.length.toInt32 ≤ 384 := by
    simpa [Cond.before, Cond.holds, hv] using hle
  have hN : xs.length ≤ 384 := (Int32.ofNat_le_ofNat hsm (by decide)).mp (show Int32.ofNat xs.length ≤ Int32.ofNat 384 from hd)
  exact ⟨b, xs, Cond.one_arg hc (show args[0]? = some (.ref b) from hb), hx, hN, h⟩
theorem lw_comes (l : Launch) : Comes l x (Jvm.Cond.code x code maxLocals ret :: tables_1) room_1 (fun tb e args s => Calls_1 tb e args s ∧ rest_1 tb e args s ∧ Pre_1 tb e args s)
    (fun _ _ args s o t => lw_Q args s o t) := by
  intro p e ha hc hk s m args below hf hfit hheap happ hpre
  obtain ⟨b, xs, hP⟩ := lw_pre_spec hpre.2.2 hpre.2.1
  obtain ⟨k, o, h1, h2, h3, hQ⟩ := lw_walk l b xs p e ha hc hk s m args below hf ((Spec.applies_iff_loose hf).mp happ).1 hP trivial
  exact ⟨k, o, h1, h2, h3, hQ⟩
theorem lw_frame {s t : State} {o : Outcome} {args : Array Value} (h : Framed s o t [] 624735 7228043) :
    Framed s o t (fieldLocs frame_1_writes args s ++ arrayLocs frame_1_arrays args s ++ staticLocs frame_1_statics s) 624735 7228043 := h
theorem lw_limb (L : Cond) (hL : ∀ (args : Array Value) (s t : State), L.after args s (.returned (some (.int 1))) t = true) :
    ArmFor flags0 classFile x code maxLocals ret World_1 tables_1 room_1 Calls_1 rest_1 Pre_1
      (fun tb e a s o t => postC L tb e a s o t ∧ Framed s o t (fieldLocs frame_1_writes a s ++ arrayLocs frame_1_arrays a s ++ staticLocs frame_1_statics s) 624735 7228043) := by
  intro l _ _ _ p e ha hc hk s m args below hf hfit hheap happ hpre
  obtain ⟨k, o, h1, h2, h3, rfl, hF⟩ := lw_comes l p e ha hc hk s m args below hf hfit hheap happ hpre
  exact ⟨k, _, h1, h2, h3, hL args s _, lw_frame hF⟩
theorem i_vc : Claimed_1_1 ∧ Claimed_1_2 := ⟨lw_limb limb_1_1 (fun args s t => by simp [limb_1_1, Cond.after, Cond.holds, Cond.value]), lw_limb limb_1_2 (fun args s t => Cond.after_iff.mpr (by
  first | (rw [show limb_1_2 = Cond.eq .result (.int 1) from rfl, Cond.eq_ints (x := 1) (y := 1) rfl rfl]; simp; done) | (simp [limb_1_2, Cond.value, Term.eval]; done)))⟩

