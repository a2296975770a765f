def R_law : String := "TiltTrayLaw"
def lw_P (b : Addr) (xs : List Int32) (args : Array Value) (s : State) : Prop := args = #[.ref b] ∧ s.IntsAt b xs ∧ xs.length ≤ 384 ∧ (Jvm.Cond.and given_1 narrow_1).before args s = true
def lw_Q (_ : Array Value) (s : State) (o : Outcome) (t : State) : Prop := o = .returned (some (.int 1)) ∧ Framed s o t [] 624735 7228043
def lw_Z (below : List Frame) (a : Array Value) (s : State) : State → Prop := fun t => ∃ o, t.status = .running ∧ Ended t below o ∧ lw_Q a s o t
/-- the law's own end, with 1 on the stack, nothing written that was there before, its room as the claim has it -/
theorem lw_ret {p : Program} {l : Launch} {e : Env} {s : State} {m : MethodId} {below : List Frame} {meth : Method} {c : Code} {b : Nat} (hx : p.tables.exec = Jvm.exec) (hb : c.code = code) (hr : meth.sig.returnType = ret) (hlocks : meth.locks = false) {pc : Nat} {H : Heap} {ls : Array Slot} (hdg : decode code pc = .ok (.ireturn, 1)) : W p l e room_1 s m #[Value.ref b] below meth c H [] 624735 7228043 (lw_Z below #[Value.ref b] s) (F0 m pc ls [.int 1]) := by
  intro T hT X
  obtain ⟨fs, hret, hrun, hended, hW, hframe⟩ := X.leave (v := some (.int 1)) (hlocks := hlocks) (fun h => by rw [hr] at h; cases h)
  have hmeth' : T.vm.method? m = some meth := X.method'
  refine ⟨T.setFrames fs, ?_, .returned (some (.int 1)), hrun, hended, rfl, ⟨_, rfl⟩, hW, hframe⟩
  jvm_step X.here [X.here.top, hx, hb, hdg, hmeth', hr, ret, narrow_b1]
  (try refine ⟨rfl, ?_⟩); (try refine ⟨rfl, ?_⟩)
  first | (intro acts; rw [hret _ acts rfl rfl rfl]) | rw [hret _ _ rfl rfl rfl]
  exact Steps.refl _
/-- what holds at the law's entry: the machine, the code, the tables' words (any of lw_tbl by 'hts w (by decide +kernel)'), the script of L ints xs at the cell b, what the Statement gives of the start (any of its parts by flat_of_before) -/
def lw_At (p : Program) (s : State) (m : MethodId) (meth : Method) (c : Code) (b L : Nat) (xs : Nat → Int32) : Prop :=
  p.tables.exec = Jvm.exec ∧ c.code = code ∧ meth.sig.returnType = ret ∧ c.maxLocals = 4 ∧ s.vm.findClass R_law = some m.cls ∧ (∀ w ∈ lw_tbl, w.before #[Value.ref b] s = true) ∧ va_X b L xs s s.heap ∧ b < s.heap.size ∧ meth.locks = false ∧ (Jvm.Cond.and given_1 narrow_1).before #[Value.ref b] s = true

theorem LI.S {D : va_G} {cy : Cy} {A : Nat → Prop} {s : State} {xh mh : Nat} {ad : Nat → Nat} {fa : Nat → Nat → Nat} {H : Heap} {locs : List Loc} (h : LI D cy A s xh mh ad fa H locs) : va_S A s.heap H locs := by
  obtain ⟨_, _, _, _, _, _, _, _, _, _, _, _, _, _, _, _, _, _, _, _, _, _, _, _, _, _, _, _, _, _, _, _, _, _, _, _, _, _, _, _, _, _, _, _, _, _, _, _, _, _, _, _, _, -, -, -, hS⟩ := h
  exact hS
set_option maxHeartbeats 4000000 in
set_option maxRecDepth 100000 in
theorem law_loop {p : Program} {l : Launch} {e : Env} {s : State} {m : MethodId} {below : List Frame} {meth : Method} {c : Code} {b L : Nat} {xs : Nat → Int32} {D : va_G} {cy : Cy} {A : Nat → Prop} {xh mh CE SL : Nat} {ad : Nat → Nat} {fa : Nat → Nat → Nat} (X : LX p s m meth c b L xs D cy A) (hr : meth.sig.returnType = ret) (hlocks : meth.locks = false) (hAe : ∀ q, A q → s.heap.size ≤ q) (hf : CE ≤ room_1.cells ∧ SL ≤ room_1.slots) :
    ∀ (n i : Nat), L < i + n → i ≤ 400 → ∀ (H : Heap) (locs : List Loc) (ls : Array Slot), LI D cy A s xh mh ad fa H locs → lv_has ls 4 [(3, .int (nI i)), (2, .ref mh), (1, .ref xh), (0, .ref b)] → W p l e room_1 s m #[Value.ref b] below meth c H locs CE SL (lw_Z below #[Value.ref b] s) (F0 m 18 ls []) := by
  have X0 := X
  obtain ⟨hx, hb, hml, hown, hts, hX, hbl, hbA, hE, hA, hL⟩ := X
  intro n
  induction n with
  | zero =>
    intro i h1 h2 H locs ls hI hl
    have hS := hI.S
    refine lv_iload_n hx hb dL_law_18 rfl (lv_at hl 0 rfl) ?_
    refine lv_aload_n hx hb dL_law_19 rfl (lv_at hl 3 rfl) ?_
    refine va_slen hx hb hX hbl hbA hS dL_law_20 ?_
    refine lv_bipush (v := 6) hx hb dL_law_21 (by decide) ?_
    refine lv_isub hx hb dL_law_23 ?_
    refine lv_icmp_gt (tgt := 1015) hx hb dL_law_24 (by decide) (fun c1 => ?_) (fun c1 => ?_)
    · refine lv_iconst (v := 1) hx hb dL_law_1015 (by decide) ?_
      refine va_forget (fun q hq => hAe _ (hS.2.2 q hq)) ?_
      refine W.widen (k := 624735) (n := 7228043) hf.1 hf.2 ?_
      exact lw_ret hx hb hr hlocks dL_law_1016
    · have e1 : (nI L - nI 6).toInt = (L : Int) - 6 := pk_sub_toInt (by omega) (by omega)
      have c2 : ¬ nI L - nI 6 < nI i := c1
      rw [Int32.lt_iff_toInt_lt, e1, nI_toInt (by omega)] at c2
      omega
  | succ n ih =>
    intro i h1 h2 H locs ls hI hl
    have hS := hI.S
    refine lv_iload_n hx hb dL_law_18 rfl (lv_at hl 0 rfl) ?_
    refine lv_aload_n hx hb dL_law_19 rfl (lv_at hl 3 rfl) ?_
    refine va_slen hx hb hX hbl hbA hS dL_law_20 ?_
    refine lv_bipush (v := 6) hx hb dL_law_21 (by decide) ?_
    refine lv_isub hx hb dL_law_23 ?_
    refine lv_icmp_gt (tgt := 1015) hx hb dL_law_24 (by decide) (fun c1 => ?_) (fun c1 => ?_)
    · refine lv_iconst (v := 1) hx hb dL_law_1015 (by decide) ?_
      refine va_forget (fun q hq => hAe _ (hS.2.2 q hq)) ?_
      refine W.widen (k := 624735) (n := 7228043) hf.1 hf.2 ?_
      exact lw_ret hx hb hr hlocks dL_law_1016
    · have hlt : i + 5 < L := by
        have e1 : (nI L - nI 6).toInt = (L : Int) - 6 := pk_sub_toInt (by omega) (by omega)
        have c2 : ¬ nI L - nI 6 < nI i := c1
        rw [Int32.lt_iff_toInt_lt, e1, nI_toInt (by omega)] at c2
        omega
      have K : ∀ (H : Heap) (locs : List Loc) (ls : Array Slot), LI D cy A s xh mh ad fa H locs → lv_has ls 4 [(3, .int (nI i)), (2, .ref mh), (1, .ref xh), (0, .ref b)] → W p l e room_1 s m #[Value.ref b] below meth c H locs CE SL (lw_Z below #[Value.ref b] s) (F0 m 1009 ls []) := by
        intro H locs ls hI hl
        refine lv_iinc (v := nI (i + 6)) (lv' := [(3, .int (nI (i + 6))), (2, .ref mh), (1, .ref xh), (0, .ref b)]) hx hb dL_law_1009 hl (k := 0) rfl (by rw [show Int32.ofInt 6 = nI 6 by decide]; exact nI_add i 6) (by decide) rfl (fun ls hl => ?_)
        refine lv_goto (tgt := 18) hx hb dL_law_1012 (by decide) ?_
        exact ih (i + 6) (by omega) (by omega) H locs ls hI hl
      refine lv_aload_n hx hb dL_law_27 rfl (lv_at hl 3 rfl) ?_
      refine lv_iload_n hx hb dL_law_28 rfl (lv_at hl 0 rfl) ?_
      refine va_sld hx hb hX hbl hbA hS (vp_in_nI (show i < L by omega) (by omega)) dL_law_29 ?_
      refine lv_bipush (v := 31) hx hb dL_law_30 (by decide) ?_
      refine lv_iand hx hb dL_law_32 ?_
      obtain ⟨j, hj, ej⟩ := pk_andE (xs (nI i).toNatClampNeg) (m := 31) 5 (by decide)
      refine lv_fold ej ?_
      rcases (show j = 0 ∨ j = 1 ∨ j = 2 ∨ j = 3 ∨ j = 4 ∨ j = 5 ∨ j = 6 ∨ j = 7 ∨ j = 8 ∨ j = 9 ∨ j = 10 ∨ j = 11 ∨ j = 12 ∨ j = 13 ∨ j = 14 ∨ j = 15 ∨ j = 16 ∨ j = 17 ∨ j = 18 ∨ j = 19 ∨ j = 20 ∨ j = 21 ∨ j = 22 ∨ j = 23 ∨ j = 24 ∨ j = 25 ∨ j = 26 ∨ j = 27 ∨ (28 ≤ j ∧ j < 32) by omega) with rfl | rfl | rfl | rfl | rfl | rfl | rfl | rfl | rfl | rfl | rfl | rfl | rfl | rfl | rfl | rfl | rfl | rfl | rfl | rfl | rfl | rfl | rfl | rfl | rfl | rfl | rfl | rfl | hj2
      · exact lv_tableIn (tgt := 160) (off := 127) hx hb dL_law_33 (by decide +kernel) (by decide +kernel) (by decide +kernel) (by decide) (k_write X0 hlt hf hI hl K)
      · exact lv_tableIn (tgt := 183) (off := 150) hx hb dL_law_33 (by decide +kernel) (by decide +kernel) (by decide +kernel) (by decide) (k_wipe X0 hlt hf hI hl K)
      · exact lv_tableIn (tgt := 196) (off := 163) hx hb dL_law_33 (by decide +kernel) (by decide +kernel) (by decide +kernel) (by decide) (k_fault X0 hlt hf hI hl K)
      · exact lv_tableIn (tgt := 209) (off := 176) hx hb dL_law_33 (by decide +kernel) (by decide +kernel) (by decide +kernel) (by decide) (k_table X0 hlt hf hI hl K)
      · exact lv_tableIn (tgt := 222) (off := 189) hx hb dL_law_33 (by decide +kernel) (by decide +kernel) (by decide +kernel) (by decide) (k_cell X0 hlt hf hI hl K)
      · exact lv_tableIn (tgt := 255) (off := 222) hx hb dL_law_33 (by decide +kernel) (by decide +kernel) (by decide +kernel) (by decide) (k_marble X0 hlt hf hI hl K)
      · exact lv_tableIn (tgt := 288) (off := 255) hx hb dL_law_33 (by decide +kernel) (by decide +kernel) (by decide +kernel) (by decide) (k_tilt X0 hlt hf hI hl K)
      · exact lv_tableIn (tgt := 311) (off := 278) hx hb dL_law_33 (by decide +kernel) (by decide +kernel) (by decide +kernel) (by decide) (k_lift X0 hlt hf hI hl K)
      · exact lv_tableIn (tgt := 344) (off := 311) hx hb dL_law_33 (by decide +kernel) (by decide +kernel) (by decide +kernel) (by decide) (k_wedge X0 hlt hf hI hl K)
      · exact lv_tableIn (tgt := 367) (off := 334) hx hb dL_law_33 (by decide +kernel) (by decide +kernel) (by decide +kernel) (by decide) (k_undo X0 hlt hf hI hl K)
      · exact lv_tableIn (tgt := 380) (off := 347) hx hb dL_law_33 (by decide +kernel) (by decide +kernel) (by decide +kernel) (by decide) (k_rolls X0 hlt hf hI hl K)
      · exact lv_tableIn (tgt := 413) (off := 380) hx hb dL_law_33 (by decide +kernel) (by decide +kernel) (by decide +kernel) (by decide) (k_safe X0 hlt hf hI hl K)
      · exact lv_tableIn (tgt := 426) (off := 393) hx hb dL_law_33 (by decide +kernel) (by decide +kernel) (by decide +kernel) (by decide) (k_fewest X0 hlt hf hI hl K)
      · exact lv_tableIn (tgt := 475) (off := 442) hx hb dL_law_33 (by decide +kernel) (by decide +kernel) (by decide +kernel) (by decide) (k_reach X0 hlt hf hI hl K)
      · exact lv_tableIn (tgt := 498) (off := 465) hx hb dL_law_33 (by decide +kernel) (by decide +kernel) (by decide +kernel) (by decide) (k_best X0 hlt hf hI hl K)
      · exact lv_tableIn (tgt := 547) (off := 514) hx hb dL_law_33 (by decide +kernel) (by decide +kernel) (by decide +kernel) (by decide) (k_saves X0 hlt hf hI hl K)
      · exact lv_tableIn (tgt := 580) (off := 547) hx hb dL_law_33 (by decide +kernel) (by decide +kernel) (by decide +kernel) (by decide) (k_judge X0 hlt hf hI hl K)
      · exact lv_tableIn (tgt := 643) (off := 610) hx hb dL_law_33 (by decide +kernel) (by decide +kernel) (by decide +kernel) (by decide) (k_see X0 hlt hf hI hl K)
      · exact lv_tableIn (tgt := 686) (off := 653) hx hb dL_law_33 (by decide +kernel) (by decide +kernel) (by decide +kernel) (by decide) (k_unsee X0 hlt hf hI hl K)
      · exact lv_tableIn (tgt := 699) (off := 666) hx hb dL_law_33 (by decide +kernel) (by decide +kernel) (by decide +kernel) (by decide) (k_hidden X0 hlt hf hI hl K)
      · exact lv_tableIn (tgt := 712) (off := 679) hx hb dL_law_33 (by decide +kernel) (by decide +kernel) (by decide +kernel) (by decide) (k_share X0 hlt hf hI hl K)
      · exact lv_tableIn (tgt := 761) (off := 728) hx hb dL_law_33 (by decide +kernel) (by decide +kernel) (by decide +kernel) (by decide) (k_rests X0 hlt hf hI hl K)
      · exact lv_tableIn (tgt := 784) (off := 751) hx hb dL_law_33 (by decide +kernel) (by decide +kernel) (by decide +kernel) (by decide) (k_fails X0 hlt hf hI hl K)
      · exact lv_tableIn (tgt := 863) (off := 830) hx hb dL_law_33 (by decide +kernel) (by decide +kernel) (by decide +kernel) (by decide) (k_seed X0 hlt hf hI hl K)
      · exact lv_tableIn (tgt := 917) (off := 884) hx hb dL_law_33 (by decide +kernel) (by decide +kernel) (by decide +kernel) (by decide) (k_days X0 hlt hf hI hl K)
      · exact lv_tableIn (tgt := 940) (off := 907) hx hb dL_law_33 (by decide +kernel) (by decide +kernel) (by decide +kernel) (by decide) (k_keep X0 hlt hf hI hl K)
      · exact lv_tableIn (tgt := 963) (off := 930) hx hb dL_law_33 (by decide +kernel) (by decide +kernel) (by decide +kernel) (by decide) (k_again X0 hlt hf hI hl K)
      · exact lv_tableIn (tgt := 986) (off := 953) hx hb dL_law_33 (by decide +kernel) (by decide +kernel) (by decide +kernel) (by decide) (k_count X0 hlt hf hI hl K)
      · exact lv_tableOut (tgt := 1009) hx hb dL_law_33 (Or.inr (by rw [nI_toInt (by omega)]; omega)) (by decide) (K H locs ls hI hl)

