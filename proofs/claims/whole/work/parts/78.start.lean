set_option maxRecDepth 20000 in
theorem nest_in : ∀ w ∈ nestW, w ∈ lw_tbl := fun w h => mem_r nestW [65, 96, 135, 149, 174, 192, 292, 307, 368, 488, 556, 560, 573, 279] (by decide +kernel) w h
theorem nest_on : ∀ w ∈ nestW, w.onTables = true := by decide +kernel
def startW : List Cond := [Cond.instantiable RX0 3, Cond.instantiable RX1 2, Cond.instantiable RX2 4, Cond.instantiable RX3 4, Cond.instantiable RX4 5, Cond.instantiable RX5 5, Cond.instantiable RX6 14, Cond.instantiable RX7 24, Cond.arrayClass .int, Cond.arrayClass .char, Cond.arrayClass .boolean, Cond.arrayOver (.object "TiltTray$Spot"), Cond.laysStatic "TiltTray" "MOST_TOLD" "[I", Cond.laysStatic "TiltTray" "ORDERS" "[I", Cond.laysStatic "TiltTray" "POWERS" "[I", Cond.initialized RX6, Cond.initialized RX7, Cond.classLink RL 7 RX6, Cond.classLink RL 10 RX7, Cond.methodLink RL 9 yX6_init, Cond.methodLink RL 12 yX7_init, Cond.instanceMethod yX6_init, Cond.instanceMethod yX7_init]
set_option maxRecDepth 20000 in
theorem start_in : ∀ w ∈ startW, w ∈ lw_tbl := fun w h => mem_r startW [128, 191, 168, 148, 95, 64, 56, 642, 93, 92, 720, 134, 280, 575, 607, 45, 52, 55, 641, 57, 643, 58, 644] (by decide +kernel) w h
theorem arr_of {args : Array Value} {s : State} {ty : FieldType} (h : (Cond.arrayClass ty).before args s = true) (hob : ∀ C, ty ≠ .object C) : ∃ cA, ArrOfT s cA ty ∧ va_RA s cA ty := by
  obtain ⟨cA, kA, comp, h1, h2, h3⟩ := Cond.arrayClass_spec h
  refine ⟨cA, fun n z => ⟨fun k q => (by cases q), kA, h2, comp, h3⟩, ?_⟩
  cases ty with
  | object C => exact absurd rfl (hob C)
  | _ => exact h1
theorem sa1_of {args : Array Value} {s : State} {n : String} {f : Nat → Int32} {A : Nat → Prop} (hl : (Cond.laysStatic "TiltTray" n "[I").before args s = true) (hini : (Cond.initialized "TiltTray").before args s = true) (harr : (Cond.arrayOf (.static "TiltTray" n "[I") .int).before args s = true) (hlen : (Cond.eq (.length (.static "TiltTray" n "[I")) (.int 5)).before args s = true)
    (h0 : (Cond.eq (.elem (.static "TiltTray" n "[I") (.int 0)) (.int (f 0))).before args s = true) (h1 : (Cond.eq (.elem (.static "TiltTray" n "[I") (.int 1)) (.int (f 1))).before args s = true) (h2 : (Cond.eq (.elem (.static "TiltTray" n "[I") (.int 2)) (.int (f 2))).before args s = true) (h3 : (Cond.eq (.elem (.static "TiltTray" n "[I") (.int 3)) (.int (f 3))).before args s = true) (h4 : (Cond.eq (.elem (.static "TiltTray" n "[I") (.int 4)) (.int (f 4))).before args s = true) (hA : ∀ a : Nat, a < s.heap.size → ¬ A a) : ∃ t, SA1 n t f A s s.heap := by
  obtain ⟨t, ht, hT⟩ := va_Tof (N := 5) (f := fun j => .int (f j)) (A := A) (by decide) harr (va_eqt hlen) (fun j hj => by
    rcases (show j = 0 ∨ j = 1 ∨ j = 2 ∨ j = 3 ∨ j = 4 by omega) with rfl | rfl | rfl | rfl | rfl
    · exact va_eqt h0
    · exact va_eqt h1
    · exact va_eqt h2
    · exact va_eqt h3
    · exact va_eqt h4) hA
  exact ⟨t, va_Zof hl hini ht hA, hT⟩
theorem start_EV {args : Array Value} {s : State} (hts : ∀ w ∈ lw_tbl, w.before args s = true) (hgv : (Jvm.Cond.and given_1 narrow_1).before args s = true) : ∃ (D : va_G) (cy : Cy), EV D cy (fun q : Nat => s.heap.size ≤ q) s ∧ va_AO "TiltTray$Spot" s := by
  obtain ⟨c0, i0, h0⟩ := u_known (C := RX0) (T := TX0) (N := 3) (n := 3) hts i_wsX00 (hts (.instantiable RX0 3) (start_in _ (List.mem_of_getElem? (i := 0) rfl)))
  obtain ⟨c1, i1, h1⟩ := u_known (C := RX1) (T := TX1) (N := 2) (n := 2) hts i_wsX10 (hts (.instantiable RX1 2) (start_in _ (List.mem_of_getElem? (i := 1) rfl)))
  obtain ⟨c2, i2, h2⟩ := u_known (C := RX2) (T := TX2) (N := 4) (n := 4) hts i_wsX20 (hts (.instantiable RX2 4) (start_in _ (List.mem_of_getElem? (i := 2) rfl)))
  obtain ⟨c3, i3, h3⟩ := u_known (C := RX3) (T := TX3) (N := 4) (n := 4) hts i_wsX30 (hts (.instantiable RX3 4) (start_in _ (List.mem_of_getElem? (i := 3) rfl)))
  obtain ⟨c4, i4, h4⟩ := u_known (C := RX4) (T := TX4) (N := 5) (n := 5) hts i_wsX40 (hts (.instantiable RX4 5) (start_in _ (List.mem_of_getElem? (i := 4) rfl)))
  obtain ⟨c5, i5, h5⟩ := u_known (C := RX5) (T := TX5) (N := 5) (n := 5) hts i_wsX50 (hts (.instantiable RX5 5) (start_in _ (List.mem_of_getElem? (i := 5) rfl)))
  obtain ⟨c6, i6, h6⟩ := u_known (C := RX6) (T := TX6) (N := 14) (n := 14) hts i_wsX60 (hts (.instantiable RX6 14) (start_in _ (List.mem_of_getElem? (i := 6) rfl)))
  obtain ⟨c7, i7, h7⟩ := u_known (C := RX7) (T := TX7) (N := 24) (n := 24) hts i_wsX70 (hts (.instantiable RX7 24) (start_in _ (List.mem_of_getElem? (i := 7) rfl)))
  obtain ⟨cI, aI, rI⟩ := arr_of (hts (.arrayClass .int) (start_in _ (List.mem_of_getElem? (i := 8) rfl))) (fun C z => by cases z)
  obtain ⟨cC, aC, rC⟩ := arr_of (hts (.arrayClass .char) (start_in _ (List.mem_of_getElem? (i := 9) rfl))) (fun C z => by cases z)
  obtain ⟨cZ, aZ, rZ⟩ := arr_of (hts (.arrayClass .boolean) (start_in _ (List.mem_of_getElem? (i := 10) rfl))) (fun C z => by cases z)
  have hO : va_AO "TiltTray$Spot" s := va_AO.of (hts (.arrayOver (.object "TiltTray$Spot")) (start_in _ (List.mem_of_getElem? (i := 11) rfl)))
  obtain ⟨comp, cS, kS, o1, o2, o3, o4, o5⟩ := Cond.arrayOver_spec hO
  have hs := flat_of_before _ hgv
  have hA : ∀ a : Nat, a < s.heap.size → ¬ (fun q : Nat => s.heap.size ≤ q) a := fun a h => Nat.not_le.mpr h
  obtain ⟨t0, s0⟩ := sa1_of (n := "MOST_TOLD") (f := tMost) (A := fun q : Nat => s.heap.size ≤ q) (hts (.laysStatic "TiltTray" "MOST_TOLD" "[I") (start_in _ (List.mem_of_getElem? (i := 12) rfl))) (hts (.initialized RX6) (start_in _ (List.mem_of_getElem? (i := 15) rfl))) (hs (.arrayOf (.static "TiltTray" "MOST_TOLD" "[I") .int) (by decide +kernel)) (hs (.eq (.length (.static "TiltTray" "MOST_TOLD" "[I")) (.int 5)) (by decide +kernel)) (hs (.eq (.elem (.static "TiltTray" "MOST_TOLD" "[I") (.int 0)) (.int 4)) (by decide +kernel)) (hs (.eq (.elem (.static "TiltTray" "MOST_TOLD" "[I") (.int 1)) (.int 6)) (by decide +kernel)) (hs (.eq (.elem (.static "TiltTray" "MOST_TOLD" "[I") (.int 2)) (.int 3)) (by decide +kernel)) (hs (.eq (.elem (.static "TiltTray" "MOST_TOLD" "[I") (.int 3)) (.int 3)) (by decide +kernel)) (hs (.eq (.elem (.static "TiltTray" "MOST_TOLD" "[I") (.int 4)) (.int 2)) (by decide +kernel)) hA
  obtain ⟨t1, s1⟩ := sa1_of (n := "ORDERS") (f := tOrd) (A := fun q : Nat => s.heap.size ≤ q) (hts (.laysStatic "TiltTray" "ORDERS" "[I") (start_in _ (List.mem_of_getElem? (i := 13) rfl))) (hts (.initialized RX6) (start_in _ (List.mem_of_getElem? (i := 15) rfl))) (hs (.arrayOf (.static "TiltTray" "ORDERS" "[I") .int) (by decide +kernel)) (hs (.eq (.length (.static "TiltTray" "ORDERS" "[I")) (.int 5)) (by decide +kernel)) (hs (.eq (.elem (.static "TiltTray" "ORDERS" "[I") (.int 0)) (.int 1)) (by decide +kernel)) (hs (.eq (.elem (.static "TiltTray" "ORDERS" "[I") (.int 1)) (.int 1)) (by decide +kernel)) (hs (.eq (.elem (.static "TiltTray" "ORDERS" "[I") (.int 2)) (.int 2)) (by decide +kernel)) (hs (.eq (.elem (.static "TiltTray" "ORDERS" "[I") (.int 3)) (.int 6)) (by decide +kernel)) (hs (.eq (.elem (.static "TiltTray" "ORDERS" "[I") (.int 4)) (.int 24)) (by decide +kernel)) hA
  obtain ⟨t2, s2⟩ := sa1_of (n := "POWERS") (f := tPow) (A := fun q : Nat => s.heap.size ≤ q) (hts (.laysStatic "TiltTray" "POWERS" "[I") (start_in _ (List.mem_of_getElem? (i := 14) rfl))) (hts (.initialized RX6) (start_in _ (List.mem_of_getElem? (i := 15) rfl))) (hs (.arrayOf (.static "TiltTray" "POWERS" "[I") .int) (by decide +kernel)) (hs (.eq (.length (.static "TiltTray" "POWERS" "[I")) (.int 5)) (by decide +kernel)) (hs (.eq (.elem (.static "TiltTray" "POWERS" "[I") (.int 0)) (.int 1)) (by decide +kernel)) (hs (.eq (.elem (.static "TiltTray" "POWERS" "[I") (.int 1)) (.int 10)) (by decide +kernel)) (hs (.eq (.elem (.static "TiltTray" "POWERS" "[I") (.int 2)) (.int 100)) (by decide +kernel)) (hs (.eq (.elem (.static "TiltTray" "POWERS" "[I") (.int 3)) (.int 1000)) (by decide +kernel)) (hs (.eq (.elem (.static "TiltTray" "POWERS" "[I") (.int 4)) (.int 10000)) (by decide +kernel)) hA
  refine ⟨((fun k => match k with | 0 => c0 | 1 => c1 | 2 => c2 | 3 => c3 | 4 => c4 | 5 => c5 | 6 => c6 | _ => c7), (fun k => match k with | 0 => i0 | 1 => i1 | 2 => i2 | 3 => i3 | 4 => i4 | 5 => i5 | 6 => i6 | _ => i7)), (cI, cC, cZ, cS, t0, t1, t2), ⟨⟨?_, ?_⟩, fun w hw => va_Nw.of (nest_on w hw) (hts w (nest_in w hw)), s0, s1, s2⟩, hO⟩
  · intro k q hq
    match k, hq with
    | 0, hq => cases hq; exact h0
    | 1, hq => cases hq; exact h1
    | 2, hq => cases hq; exact h2
    | 3, hq => cases hq; exact h3
    | 4, hq => cases hq; exact h4
    | 5, hq => cases hq; exact h5
    | 6, hq => cases hq; exact h6
    | 7, hq => cases hq; exact h7
    | k + 8, hq => simp [vwCl] at hq
  · intro k q hq
    match k, hq with
    | 0, hq => cases hq; exact ⟨aI, rI⟩
    | 1, hq => cases hq; exact ⟨aC, rC⟩
    | 2, hq => cases hq; exact ⟨aZ, rZ⟩
    | 3, hq => cases hq; exact ⟨fun n z => ⟨fun k q => (by cases q), kS, o3, comp, o4⟩, kS, comp, o3, o4, o1, o5⟩
    | k + 4, hq => simp at hq

/-- at the start both hold nothing -/
theorem lr0 {nf : Nat → Int32} (h : ∀ j, j < 4 → nf j = -1) (acf slf : Nat → SpS) : LR (fun _ => 0, fun _ => 0, fun _ => 0, 0, 0) (nf, 0, 0, 0, 0) acf 0 0 slf 0 (fun _ => 0) 0 (fun _ => 0) (fun _ => 0) (fun _ => 0) 0 0 (fun _ => 0) (fun _ => 0) (fun _ => 0) (fun _ => 0) 0 0 0 (fun _ => 0) 0 (fun _ => 0) (fun _ => 0) (fun _ => 0) (fun _ => 0) (fun _ => 0) := by
  refine ⟨0, (fun _ => -1, 0, 0), 0, 0, 0, 0, 0, ?_, ?_, ?_, ?_, ?_, ?_⟩
  · exact ⟨rfl, rfl, by omega, fun j hj => by omega, rfl, rfl, rfl, rfl, rfl, by decide +kernel, fun p _ c _ => b_0 c⟩
  · refine ⟨⟨h, rfl, rfl, (show ∀ c, c < 32 → bt (0 : Int32) c = (decide (c < 25) && occ (fun _ => -1) c) by decide +kernel)⟩, ⟨fun j _ => Or.inl rfl, fun i j _ _ _ c hc a => absurd a (m_ne_c c hc)⟩, ⟨fun c _ z => ?_, fun c _ => b_0 c, by decide +kernel⟩, ⟨fun j hj => ?_, rfl, rfl, fun j hj => by omega⟩, rfl⟩
    · rw [show bt (0 : Int32) c = false from b_0 c] at z
      cases z
    · exact (if_neg (fun z => Nat.not_lt_zero _ z.1)).symm
  · exact ⟨rfl, rfl, rfl, rfl, by omega, by omega, by omega, fun t ht => by omega⟩
  · exact SLR.zero (fun _ _ => rfl)
  · exact ⟨rfl, rfl, by omega, fun j hj => by omega⟩
  · exact ⟨rfl, rfl, by omega, fun j hj => by omega⟩
