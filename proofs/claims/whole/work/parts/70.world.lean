/-! worlds as sets of cells: the order doesn't matter -/
theorem PM {D : va_G} {cl : List vw_C} {ws : va_W} {H : Heap} : va_P D cl ws H ↔ ∀ q ∈ ws, va_at D cl q H :=
  ⟨fun h q hq => by obtain ⟨i, hi⟩ := List.getElem?_of_mem hq; exact h i q hi, fun h k q hk => h q (List.mem_of_getElem? hk)⟩
theorem DM {A : Nat → Prop} {ws : va_W} : va_D A ws ↔ ws.Pairwise (fun p q => p.1 ≠ q.1) ∧ ∀ q ∈ ws, A q.1 := by
  constructor
  · intro h
    refine ⟨List.pairwise_iff_getElem.mpr (fun i j hi hj hij he => ?_), fun q hq => ?_⟩
    · have h1 := h.1 i j _ _ (List.getElem?_eq_getElem hi) (List.getElem?_eq_getElem hj) he
      omega
    · obtain ⟨i, hi⟩ := List.getElem?_of_mem hq
      exact h.2 i q hi
  · intro h
    refine ⟨fun i j x y hx hy hxy => ?_, fun k q hk => h.2 q (List.mem_of_getElem? hk)⟩
    obtain ⟨hi, rfl⟩ := List.getElem?_eq_some_iff.mp hx
    obtain ⟨hj, rfl⟩ := List.getElem?_eq_some_iff.mp hy
    have h1 := List.pairwise_iff_getElem.mp h.1
    rcases Nat.lt_trichotomy i j with z | z | z
    · exact absurd hxy (h1 i j hi hj z)
    · exact z
    · exact absurd hxy.symm (h1 j i hj hi z)
theorem P_perm {D : va_G} {cl : List vw_C} {ws ws' : va_W} {H : Heap} (h : ws.Perm ws') (hP : va_P D cl ws H) : va_P D cl ws' H := PM.mpr (fun q hq => PM.mp hP q (h.mem_iff.mpr hq))
theorem D_perm {A : Nat → Prop} {ws ws' : va_W} (h : ws.Perm ws') (hD : va_D A ws) : va_D A ws' := by
  have h1 := DM.mp hD
  exact DM.mpr ⟨(h.pairwise_iff (fun z => fun y => z y.symm)).mp h1.1, fun q hq => h1.2 q (h.mem_iff.mpr hq)⟩
theorem A_mem {ws : va_W} {sz q : Nat} : va_A ws sz q ↔ (∃ x ∈ ws, x.1 = q) ∨ sz ≤ q := by
  constructor
  · rintro (⟨k, e, h⟩ | h)
    · exact Or.inl ⟨_, List.mem_of_getElem? h, rfl⟩
    · exact Or.inr h
  · rintro (⟨x, hx, rfl⟩ | h)
    · obtain ⟨i, hi⟩ := List.getElem?_of_mem hx
      exact Or.inl ⟨i, x.2, hi⟩
    · exact Or.inr h
theorem freeM {A : Nat → Prop} {wr w0 : va_W} {H0 H : Heap} {locs : List Loc} (hD : va_D A (wr ++ w0)) (hS : va_S A H0 H locs) (hA : ∀ q, H0.size ≤ q → A q) : ∀ q, va_A w0 H.size q → A q := by
  intro q h
  rcases A_mem.mp h with ⟨x, hx, rfl⟩ | h
  · exact (DM.mp hD).2 x (List.mem_append_right _ hx)
  · exact hA q (Nat.le_trans hS.1 h)
theorem joinM {A : Nat → Prop} {D : va_G} {cl : List vw_C} {wr w0 w1 : va_W} {H H1 : Heap} (hP : va_P D cl (wr ++ w0) H) (hD : va_D A (wr ++ w0)) (hk : ∀ q : Nat, q < H.size → ¬ va_A w0 H.size q → H1[q]? = H[q]?) (hF : ∀ q, va_A w0 H.size q → A q) (hP1 : va_P D cl w1 H1) (hD1 : va_D (va_A w0 H.size) w1) : va_P D cl (wr ++ w1) H1 ∧ va_D A (wr ++ w1) := by
  have d := DM.mp hD
  have d1 := DM.mp hD1
  obtain ⟨a1, a2, a3⟩ := List.pairwise_append.mp d.1
  have apart : ∀ q ∈ wr, q.1 < H.size ∧ ¬ va_A w0 H.size q.1 := by
    intro q hq
    have hl := (PM.mp hP q (List.mem_append_left _ hq)).lt
    refine ⟨hl, fun z => ?_⟩
    rcases A_mem.mp z with ⟨x, hx, e⟩ | z
    · exact a3 q hq x hx e.symm
    · omega
  refine ⟨PM.mpr (fun q hq => ?_), DM.mpr ⟨List.pairwise_append.mpr ⟨a1, d1.1, fun x hx y hy e => ?_⟩, fun q hq => ?_⟩⟩
  · rcases List.mem_append.mp hq with hq | hq
    · obtain ⟨g1, g2⟩ := apart q hq
      exact (PM.mp hP q (List.mem_append_left _ hq)).kept (hk q.1 g1 g2)
    · exact PM.mp hP1 q hq
  · exact (apart x hx).2 (by rw [e]; exact d1.2 y hy)
  · rcases List.mem_append.mp hq with hq | hq
    · exact d.2 q (List.mem_append_left _ hq)
    · exact hF _ (d1.2 q hq)
theorem D_addr {A : Nat → Prop} {w0 w1 : va_W} (hD : va_D A w0) (h : w1.map Prod.fst = w0.map Prod.fst) : va_D A w1 := by
  have d := DM.mp hD
  refine DM.mpr ⟨?_, fun q hq => ?_⟩
  · have e : (w1.map Prod.fst).Pairwise (fun a b => a ≠ b) := by
      rw [h]
      exact List.pairwise_map.mpr d.1
    exact List.pairwise_map.mp e
  · have h1 : q.1 ∈ w0.map Prod.fst := by rw [← h]; exact List.mem_map_of_mem hq
    obtain ⟨x, hx, e⟩ := List.mem_map.mp h1
    rw [← e]
    exact d.2 x hx
section LCALL
variable {p : Program} {l : Launch} {e : Env} {R : Room} {s : State} {m : MethodId} {args : Array Value} {below : List Frame} {meth : Method} {c : Code} {H : Heap} {locs : List Loc} {cells slots : Nat} {Q : State → Prop} {D : va_G} {cy : Cy} {A : Nat → Prop} {cc : ByteArray} {pc nL : Nat} {ls : Array Slot} {W0 W1 wr w0 w1 : va_W} {r : Option Value} {st rest As : List Value} {Ts : List Cond} {own : String} {index maxL fr lo n : Nat} {y : MethodName} {bytes : ByteArray} {ret : Option FieldType} {wsy wsy' : List Cond} {b : Nat}
theorem kRG {a : Array Value} (hr : va_Run p l e R s m args below meth c H locs cells slots 0 0 (F0 m pc ls st) rest (CtQ D w1 r (va_A w0 H.size) a) (va_A w0 H.size)) (hP : va_P D vwCl W0 H) (hD : va_D A W0) (hS : va_S A s.heap H locs) (hA : ∀ q, s.heap.size ≤ q → A q) (hp : W0.Perm (wr ++ w0)) (hp1 : W1.Perm (wr ++ w1)) (ha : w1.map Prod.fst = w0.map Prod.fst)
    (kk : ∀ (H1 : Heap) (locs1 : List Loc), va_P D vwCl W1 H1 → va_D A W1 → va_S A s.heap H1 locs1 → W p l e R s m args below meth c H1 locs1 cells slots Q (F0 m (pc + 3) ls (r.toList ++ rest))) : W p l e R s m args below meth c H locs cells slots Q (F0 m pc ls st) := by
  have hP0 := P_perm hp hP
  have hD0 := D_perm hp hD
  have hF := freeM hD0 hS hA
  have hDw : va_D (va_A w0 H.size) w0 := by
    have d := DM.mp hD0
    exact DM.mpr ⟨(List.pairwise_append.mp d.1).2.1, fun q hq => A_mem.mpr (Or.inl ⟨q, hq, rfl⟩)⟩
  intro T hT X
  obtain ⟨v, st₀, t, T', L, h0, X', hL, e1, e2, ⟨hv, hP1, hz, hk⟩, st⟩ := hr T hT X
  cases hv
  rw [h0] at hz hk
  have hk2 : ∀ q : Nat, q < H.size → ¬ va_A w0 H.size q → T'.heap[q]? = H[q]? := fun q h1 h2 => by rw [e1]; exact hk q h1 h2
  obtain ⟨hP2, hD2⟩ := joinM (H1 := T'.heap) hP0 hD0 hk2 hF (by rw [e1]; exact hP1) (D_addr hDw ha)
  obtain ⟨t2, a1, b1⟩ := kk T'.heap (locs ++ L) (P_perm hp1.symm hP2) (D_perm hp1.symm hD2)
    ⟨Nat.le_trans hS.1 (by rw [e1]; exact hz), fun q h1 h2 => by rw [hk2 q (Nat.lt_of_lt_of_le h1 hS.1) (fun z => h2 (hF q z))]; exact hS.2.1 q h1 h2, fun q hq => by
      rcases List.mem_append.mp hq with h | h
      · exact hS.2.2 q h
      · exact hF _ (hL q h)⟩ T' rfl X'
  exact ⟨t2, st t2 a1, b1⟩
theorem preG {av : List Value} (hE : EV D cy A s) (hP : va_P D vwCl W0 H) (hD : va_D A W0) (hS : va_S A s.heap H locs) (hA : ∀ q, s.heap.size ≤ q → A q) (hp : W0.Perm (wr ++ w0)) : ∀ U : State, U.heap = H → s.WarmedH U.vm → CtP D cy av w0 H.size av.toArray U := by
  intro U hU hW
  have hP0 := P_perm hp hP
  have hD0 := D_perm hp hD
  refine ⟨rfl, by rw [hU], by rw [hU]; exact PM.mpr (fun q hq => PM.mp hP0 q (List.mem_append_right _ hq)), hE.go hS (freeM hD0 hS hA) hU hW, ?_⟩
  exact DM.mpr ⟨(List.pairwise_append.mp (DM.mp hD0).1).2.1, fun _ _ => trivial⟩
/-- a call, out of a world -/
theorem kG {Cn : String} {ci N : Nat} {T : u_T} {fs : List Value} (S : CallFix p m c cc nL s args Ts own) (hc : Ct l y wsy fr lo D cy (.ref b :: As) w0 w1 r) (hG : GoodIn Ts (wsV own index Cn y wsy)) (hw : wsy = Cond.code y bytes maxL ret :: wsy') (hd : y.cls = Cn ∧ y.cls ≠ "java/lang/invoke/MethodHandle" ∧ y.cls ≠ "java/lang/invoke/VarHandle" ∧ (parseMethodDescriptor y.desc).map (fun d => d.parameters.length) = some n) (hR : fr + 1 ≤ R.frames ∧ 8 + (maxL + 11) + lo ≤ R.locals)
    (hE : EV D cy A s) (hP : va_P D vwCl W0 H) (hD : va_D A W0) (hS : va_S A s.heap H locs) (hA : ∀ q, s.heap.size ≤ q → A q) (hp : W0.Perm (wr ++ w0)) (hp1 : W1.Perm (wr ++ w1)) (ha : w1.map Prod.fst = w0.map Prod.fst) (hq : w0[0]? = some (b, .inr (ci, fs))) (hcl : vwCl[ci]? = some (Cn, T, N)) (hn : As.length = n) (hsz : ls.size = nL) (hst : st = As.reverse ++ .ref b :: rest) (hW : (rest.map fun v => v.category).sum ≤ 8) (hdg : decode cc pc = .ok (.invokevirtual index, 3)) (hf : cells ≤ R.cells ∧ slots ≤ R.slots)
    (kk : ∀ (H1 : Heap) (locs1 : List Loc), va_P D vwCl W1 H1 → va_D A W1 → va_S A s.heap H1 locs1 → W p l e R s m args below meth c H1 locs1 cells slots Q (F0 m (pc + 3) ls (r.toList ++ rest))) : W p l e R s m args below meth c H locs cells slots Q (F0 m pc ls st) := by
  have hP2 : va_P D vwCl w0 H := PM.mpr (fun q hq => PM.mp (P_perm hp hP) q (List.mem_append_right _ hq))
  exact kRG (va_runV (As := As) (rest := rest) (b := b) S (hc H.size) (cwV n S.2.2.2.2 hG hw rfl rfl hd hR) ⟨CtP.blind, va_recv hE.1 hP2 hcl hq, preG hE hP hD hS hA hp⟩ rfl hn hsz hst (lv_room hW) hdg hf) hP hD hS hA hp hp1 ha kk
end LCALL
/-! constructors -/
def CnP (D : va_G) (cy : Cy) (h ci : Nat) (fs : List Value) (sz : Nat) : Array Value → State → Prop := va_Pc [.ref h] (fun U => U.heap.size = sz ∧ va_P D vwCl [(h, .inr (ci, fs))] U.heap ∧ EV D cy (va_A [(h, .inr (ci, fs))] sz) U ∧ va_AO "TiltTray$Spot" U)
def CnQ (D : va_G) (G : va_W → Prop) (A : Nat → Prop) : Array Value → State → Outcome → State → Prop := fun _ st oc t => oc = .returned none ∧ (∃ w1, G w1 ∧ va_P D vwCl w1 t.heap ∧ va_D A w1) ∧ va_F A st t
/-- a constructor's contract: of the new cell h (a class's, its fields fs) it makes cells w1 that are as G says -/
def Cn (l : Launch) (y : MethodName) (ws : List Cond) (fr lo mc ms : Nat) (D : va_G) (cy : Cy) (h ci : Nat) (fs : List Value) (G : va_W → Prop) : Prop :=
  ∀ sz : Nat, Met l y ws ({ frames := fr, cells := mc, slots := ms, locals := lo } : Room) (CnP D cy h ci fs sz) (CnQ D G (va_A [(h, .inr (ci, fs))] sz)) mc ms (va_A [(h, .inr (ci, fs))] sz)
theorem CnP.blind {D : va_G} {cy : Cy} {h ci : Nat} {fs : List Value} {sz : Nat} : FrameBlind (CnP D cy h ci fs sz) := by
  intro a U g mk q
  obtain ⟨h1, h2, h3, h4, h5⟩ := q
  exact ⟨h1, h2, h3, h4.calling, va_AO.moved (u := U) (U := U.calling g mk a) (Vm.Alike.refl U.vm) h5⟩
theorem D_one {A : Nat → Prop} {h : Nat} {e : va_E} (ha : A h) : va_D A [(h, e)] := DM.mpr ⟨List.pairwise_singleton _ _, fun q hq => by rw [List.mem_singleton.mp hq]; exact ha⟩
theorem Cn.ofW {l : Launch} {y : MethodName} {ws ws' : List Cond} {fr lo mc ms : Nat} {D : va_G} {cy : Cy} {h ci : Nat} {fs : List Value} {G : va_W → Prop} {cc : ByteArray} {maxL : Nat} (hy : plainName y.cls = true) (hn : y.name = "<init>") (hw : ws = Cond.code y cc maxL none :: ws') (hlen : 1 ≤ maxL)
    (body : ∀ (p : Program) (e : Env) (s : State) (m : MethodId) (args : Array Value) (below : List Frame) (meth : Method) (c : Code) (A : Nat → Prop) (ls : Array Slot), p.tables.exec = Jvm.exec → c.code = cc → meth.sig.returnType = none → c.maxLocals = maxL → (∀ w ∈ ws, w.before args s = true) → s.vm.findClass y.cls = some m.cls → meth.name = "<init>" → meth.locks = false → EV D cy A s → va_AO "TiltTray$Spot" s → va_P D vwCl [(h, .inr (ci, fs))] s.heap → va_D A [(h, .inr (ci, fs))] → va_S A s.heap s.heap [] → (∀ q, s.heap.size ≤ q → A q) → lv_has ls maxL [(0, .ref h)] →
      W p l e ({ frames := fr, cells := mc, slots := ms, locals := lo } : Room) s m args below meth c s.heap [] 0 0 (MQ below (CnQ D G A) args s mc ms A) (F0 m 0 ls [])) : Cn l y ws fr lo mc ms D cy h ci fs G := by
  intro sz
  refine Met.ofW (cc := cc) (maxL := maxL) (ret := none) hy hw ?_
  intro p e s m args below meth c s₁ B hml hv
  obtain ⟨rfl, hsz, hP, hE, hO⟩ := hv
  have hts := atoms_spec (ws := ws) B.pre
  have hown : s.vm.findClass y.cls = some m.cls := findClass_of_methodNamed B.named
  have hin : meth.name = "<init>" := (name_of_methodNamed B.named B.method).1.trans hn
  subst hsz
  have hl := lv_entry [.ref h] (n := maxL) hlen
  rw [lg_entry_eq]
  exact body p e s m _ below meth c (va_A [(h, .inr (ci, fs))] s.heap.size) _ B.exec B.bytes B.returns hml hts hown hin B.notSynchronized hE hO hP (D_one (A_mem.mpr (Or.inl ⟨_, List.mem_singleton.mpr rfl, rfl⟩))) va_S.rf (fun q h => Or.inr h) hl
section LNEW
variable {p : Program} {l : Launch} {e : Env} {R : Room} {s : State} {m : MethodId} {args : Array Value} {below : List Frame} {meth : Method} {c : Code} {H : Heap} {locs : List Loc} {cells slots : Nat} {Q : State → Prop} {D : va_G} {cy : Cy} {A : Nat → Prop} {cc : ByteArray} {pc nL : Nat} {ls : Array Slot} {wr : va_W} {G : va_W → Prop} {st rest : List Value} {Ts : List Cond} {own : String} {index maxL fr lo mc ms : Nat} {y : MethodName} {bytes : ByteArray} {wsy wsy' : List Cond} {h ci : Nat} {fs : List Value}
theorem cn_ret {w1 : va_W} {R' : Room} (hx : p.tables.exec = Jvm.exec) (hb : c.code = cc) (hr : meth.sig.returnType = none) (hlocks : meth.locks = false) (hG : G w1) (hP : va_P D vwCl w1 H) (hD : va_D A w1) (hS : va_S A s.heap H locs) (hdg : decode cc pc = .ok (.return_, 1)) : W p l e R' s m args below meth c H locs mc ms (MQ below (CnQ D G A) args s mc ms A) (F0 m pc ls []) :=
  W.vret hx hb hr (fun t ht _ => ⟨rfl, ⟨w1, hG, by rw [ht]; exact hP, hD⟩, hS.F ht⟩) hS.2.2 hdg hlocks
theorem kN0 {a : Array Value} (hr : va_Run p l e R s m args below meth c H locs cells slots mc ms (F0 m pc ls st) rest (CnQ D G (va_A [(h, .inr (ci, fs))] H.size) a) (va_A [(h, .inr (ci, fs))] H.size)) (hP : va_P D vwCl (wr ++ [(h, .inr (ci, fs))]) H) (hD : va_D A (wr ++ [(h, .inr (ci, fs))])) (hS : va_S A s.heap H locs) (hA : ∀ q, s.heap.size ≤ q → A q)
    (kk : ∀ (w1 : va_W) (H1 : Heap) (locs1 : List Loc), G w1 → va_P D vwCl (wr ++ w1) H1 → va_D A (wr ++ w1) → va_S A s.heap H1 locs1 → W p l e R s m args below meth c H1 locs1 (cells + mc) (slots + ms) Q (F0 m (pc + 3) ls rest)) : W p l e R s m args below meth c H locs cells slots Q (F0 m pc ls st) := by
  have hF := freeM hD hS hA
  intro T hT X
  obtain ⟨v, st₀, t, T', L, h0, X', hL, e1, e2, ⟨hv, ⟨w1, hG1, hP1, hD1⟩, hz, hk⟩, st⟩ := hr T hT X
  cases hv
  rw [h0] at hz hk
  have hk2 : ∀ q : Nat, q < H.size → ¬ va_A [(h, .inr (ci, fs))] H.size q → T'.heap[q]? = H[q]? := fun q h1 h2 => by rw [e1]; exact hk q h1 h2
  obtain ⟨hP2, hD2⟩ := joinM (H1 := T'.heap) hP hD hk2 hF (by rw [e1]; exact hP1) hD1
  obtain ⟨t2, a1, b1⟩ := kk w1 T'.heap (locs ++ L) hG1 hP2 hD2
    ⟨Nat.le_trans hS.1 (by rw [e1]; exact hz), fun q h1 h2 => by rw [hk2 q (Nat.lt_of_lt_of_le h1 hS.1) (fun z => h2 (hF q z))]; exact hS.2.1 q h1 h2, fun q hq => by
      rcases List.mem_append.mp hq with h | h
      · exact hS.2.2 q h
      · exact hF _ (hL q h)⟩ T' rfl X'
  exact ⟨t2, st t2 a1, b1⟩
theorem preN (hE : EV D cy A s) (hO : va_AO "TiltTray$Spot" s) (hP : va_P D vwCl (wr ++ [(h, .inr (ci, fs))]) H) (hD : va_D A (wr ++ [(h, .inr (ci, fs))])) (hS : va_S A s.heap H locs) (hA : ∀ q, s.heap.size ≤ q → A q) : PreS s H (CnP D cy h ci fs H.size) (.ref h :: []) :=
  ⟨CnP.blind, fun U hU hW => ⟨rfl, by rw [hU], by rw [hU]; exact PM.mpr (fun q hq => PM.mp hP q (List.mem_append_right _ hq)), hE.go hS (freeM hD hS hA) hU hW, va_AO.moved hW.alike hO⟩⟩
/-- a constructor called: one that everybody sees -/
theorem kI (S : CallFix p m c cc nL s args Ts own) (hc : Cn l y wsy fr lo mc ms D cy h ci fs G) (hG : GoodIn Ts wsy) (hw : wsy = Cond.code y bytes maxL none :: wsy') (hini : (Cond.initialized y.cls).before args s = true) (hl : (Cond.methodLink own index y).before args s = true) (hin : (Cond.instanceMethod y).before args s = true) (hy1 : y.name = "<init>") (hd : y.cls ≠ "java/lang/invoke/MethodHandle" ∧ y.cls ≠ "java/lang/invoke/VarHandle" ∧ (parseMethodDescriptor y.desc).map (fun d => d.parameters.length) = some 0) (hR : fr + 1 ≤ R.frames ∧ 8 + (maxL + 11) + lo ≤ R.locals)
    (hE : EV D cy A s) (hO : va_AO "TiltTray$Spot" s) (hP : va_P D vwCl (wr ++ [(h, .inr (ci, fs))]) H) (hD : va_D A (wr ++ [(h, .inr (ci, fs))])) (hS : va_S A s.heap H locs) (hA : ∀ q, s.heap.size ≤ q → A q) (hsz : ls.size = nL) (hst : st = .ref h :: rest) (hW : (rest.map fun v => v.category).sum ≤ 8) (hdg : decode cc pc = .ok (.invokespecial index, 3)) (hf : cells + mc ≤ R.cells ∧ slots + ms ≤ R.slots)
    (kk : ∀ (w1 : va_W) (H1 : Heap) (locs1 : List Loc), G w1 → va_P D vwCl (wr ++ w1) H1 → va_D A (wr ++ w1) → va_S A s.heap H1 locs1 → W p l e R s m args below meth c H1 locs1 (cells + mc) (slots + ms) Q (F0 m (pc + 3) ls rest)) : W p l e R s m args below meth c H locs cells slots Q (F0 m pc ls st) :=
  kN0 (va_runI (As := []) (rest := rest) (b := h) S (hc H.size) (cwI 0 S.2.2.2.2 hG hw rfl rfl hini hl hin hy1 hd hR) (preN hE hO hP hD hS hA) rfl rfl hsz hst (lv_room hW) hdg hf) hP hD hS hA kk
/-- a constructor called: a nest mate's -/
theorem kIN {host : String} (S : CallFix p m c cc nL s args Ts own) (hc : Cn l y wsy fr lo mc ms D cy h ci fs G) (hG : GoodIn Ts wsy) (hw : wsy = Cond.code y bytes maxL none :: wsy') (hini : (Cond.initialized y.cls).before args s = true) (hl : va_Nw (.methodLinkNest own index y host) s) (hin : (Cond.instanceMethod y).before args s = true) (hy1 : y.name = "<init>") (hd : y.cls ≠ "java/lang/invoke/MethodHandle" ∧ y.cls ≠ "java/lang/invoke/VarHandle" ∧ (parseMethodDescriptor y.desc).map (fun d => d.parameters.length) = some 0) (hR : fr + 1 ≤ R.frames ∧ 8 + (maxL + 11) + lo ≤ R.locals)
    (hE : EV D cy A s) (hO : va_AO "TiltTray$Spot" s) (hP : va_P D vwCl (wr ++ [(h, .inr (ci, fs))]) H) (hD : va_D A (wr ++ [(h, .inr (ci, fs))])) (hS : va_S A s.heap H locs) (hA : ∀ q, s.heap.size ≤ q → A q) (hsz : ls.size = nL) (hst : st = .ref h :: rest) (hW : (rest.map fun v => v.category).sum ≤ 8) (hdg : decode cc pc = .ok (.invokespecial index, 3)) (hf : cells + mc ≤ R.cells ∧ slots + ms ≤ R.slots)
    (kk : ∀ (w1 : va_W) (H1 : Heap) (locs1 : List Loc), G w1 → va_P D vwCl (wr ++ w1) H1 → va_D A (wr ++ w1) → va_S A s.heap H1 locs1 → W p l e R s m args below meth c H1 locs1 (cells + mc) (slots + ms) Q (F0 m (pc + 3) ls rest)) : W p l e R s m args below meth c H locs cells slots Q (F0 m pc ls st) :=
  kN0 (va_runIN (As := []) (rest := rest) (b := h) S (hc H.size) ⟨va_cnB 0 S.2.2.2.2 hG hw rfl rfl hl hini hd hR, hy1, hin⟩ (preN hE hO hP hD hS hA) rfl rfl hsz hst (lv_room hW) hdg hf) hP hD hS hA kk
/-- an array made: its class is the one that the world's arrays of that kind have -/
theorem nA {atype : ArrayType} {ty : FieldType} {tq : Nat} {cA0 : ClassId} {n : Int32} {N' : Nat} {a0 : vp_A} (hexec : p.tables.exec = Jvm.exec) (hb : c.code = cc) (harr : (Cond.arrayClass (newarray.typeOf atype)).before args s = true) (hty : newarray.typeOf atype = ty) (hE : EV D cy A s) (htq : (TYS cy)[tq]? = some (cA0, ty)) (hob : ∀ C, ty ≠ .object C) (hP : va_P D vwCl wr H) (hD : va_D A wr) (hS : va_S A s.heap H locs) (hA : ∀ q, s.heap.size ≤ q → A q)
    (ha : ∀ cA : ClassId, vp_cell cA a0 = arrV cA N' (fun _ => defaultValue ty)) (hn : ¬ n < 0) (hN : n.toNatClampNeg = N') (hbytes : N' * componentBytes ty ≤ 536870912) (hcells : cells + 1 ≤ R.cells) (hslots : slots + N' ≤ R.slots) (hdg : decode cc pc = .ok (.newarray atype, 2))
    (kk : ∀ (q : Nat) (H1 : Heap), va_P D vwCl (wr ++ [(q, .inl (cA0, a0))]) H1 → va_D A (wr ++ [(q, .inl (cA0, a0))]) → va_S A s.heap H1 locs →
      W p l e R s m args below meth c H1 locs (cells + 1) (slots + N') Q (F0 m (pc + 2) ls (.ref q :: rest))) : W p l e R s m args below meth c H locs cells slots Q (F0 m pc ls (.int n :: rest)) := by
  refine va_newa hexec hb harr hty hE.1 hP hD hS hA ha hn hN hbytes hcells hslots hdg (fun q cA H1 hK hP hD hS => ?_)
  have h1 := (hK.2 (TYS cy).length (cA, ty) (by rw [List.getElem?_append_right (Nat.le_refl _), Nat.sub_self]; rfl)).2
  have h2 := (hE.1.2 tq (cA0, ty) htq).2
  have e : cA = cA0 := by
    cases ty with
    | object C => exact absurd rfl (hob C)
    | _ => exact Option.some.inj (h1.symm.trans h2)
  subst e
  exact kk q H1 hP hD hS
/-- an array of spots made -/
theorem nQ {n : Int32} {N' : Nat} {own : String} {index : Nat} (hexec : p.tables.exec = Jvm.exec) (hb : c.code = cc) (hown : s.vm.findClass own = some m.cls) (hclink : (Cond.classLink own index "TiltTray$Spot").before args s = true) (hO : va_AO "TiltTray$Spot" s) (hE : EV D cy A s) (hP : va_P D vwCl wr H) (hD : va_D A wr) (hS : va_S A s.heap H locs) (hA : ∀ q, s.heap.size ≤ q → A q)
    (hn : ¬ n < 0) (hN : n.toNatClampNeg = N') (hbytes : N' * 4 ≤ 536870912) (hcells : cells + 1 ≤ R.cells) (hslots : slots + N' ≤ R.slots) (hdg : decode cc pc = .ok (.anewarray index, 3))
    (kk : ∀ (q : Nat) (H1 : Heap), va_P D vwCl (wr ++ [(q, .inl (cy.2.2.2.1, N', .inr (.inr (.inr (.inr (fun _ => none))))))]) H1 → va_D A (wr ++ [(q, .inl (cy.2.2.2.1, N', .inr (.inr (.inr (.inr (fun _ => none))))))]) → va_S A s.heap H1 locs →
      W p l e R s m args below meth c H1 locs (cells + 1) (slots + N') Q (F0 m (pc + 3) ls (.ref q :: rest))) : W p l e R s m args below meth c H locs cells slots Q (F0 m pc ls (.int n :: rest)) := by
  refine va_newq hexec hb hown hclink hO hE.1 hP hD hS hA hn hN hbytes hcells hslots hdg (fun q cA H1 hK hP hD hS => ?_)
  obtain ⟨k1, c1, a1, a2, a3, a4⟩ := (hK.2 (TYS cy).length (cA, .object "TiltTray$Spot") (by rw [List.getElem?_append_right (Nat.le_refl _), Nat.sub_self]; rfl)).2
  obtain ⟨k2, c2, b1, b2, b3, b4⟩ := (hE.1.2 3 (cy.2.2.2.1, .object "TiltTray$Spot") rfl).2
  have e : cA = cy.2.2.2.1 := Option.some.inj (a4.symm.trans b4)
  subst e
  exact kk q H1 hP hD hS
end LNEW
