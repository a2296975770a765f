/-! base: tests of indices, the environment of every contract, contracts, calls -/
def ix (i : Int32) (n : Nat) : Bool := !(decide (i < 0) || decide (n ≤ i.toNatClampNeg))
theorem ix_in {i : Int32} {n : Nat} (h : ix i n = true) : vp_in i n := by
  intro hh
  unfold ix at h
  rcases hh with h1 | h1
  · simp [h1] at h
  · simp [h1] at h
theorem og {α : Type} {c : Prop} [Decidable c] {A : Option α} {r : α} (h : (if c then A else none) = some r) : c ∧ A = some r := by
  by_cases hc : c
  · rw [if_pos hc] at h; exact ⟨hc, h⟩
  · rw [if_neg hc] at h; cases h
theorem ob {α β : Type} {x : Option α} {f : α → Option β} {r : β} (h : x.bind f = some r) : ∃ q, x = some q ∧ f q = some r := by
  cases x with
  | none => cases h
  | some q => exact ⟨q, rfl, h⟩
theorem oit {α : Type} {c : Prop} [Decidable c] {A B : Option α} {r : α} (h : (if c then A else B) = some r) (hc : c) : A = some r := by rw [if_pos hc] at h; exact h
theorem oif {α : Type} {c : Prop} [Decidable c] {A B : Option α} {r : α} (h : (if c then A else B) = some r) (hc : ¬ c) : B = some r := by rw [if_neg hc] at h; exact h
def nm {α β : Type} (a : α) (f : α → β) : β := f a
theorem nmh {α β : Type} {x y : α} {f : α → Option β} {r : β} (ev : y = x) (h : nm x f = some r) : f y = some r := by subst ev; exact h
abbrev SpS : Type := (Nat → Int32) × Int32 × Int32 × Int32 × Int32
abbrev TrS : Type := (Nat → Int32) × (Nat → Int32) × (Nat → Int32) × Int32 × Int32
abbrev Cy : Type := ClassId × ClassId × ClassId × ClassId × Nat × Nat × Nat
abbrev TYS (y : Cy) : List (ClassId × FieldType) := [(y.1, .int), (y.2.1, .char), (y.2.2.1, .boolean), (y.2.2.2.1, .object "TiltTray$Spot")]
abbrev nestW : List Cond := [.methodLinkNest "TiltTray" 15 yX5_init "TiltTray", .methodLinkNest "TiltTray" 25 yX4_init "TiltTray", .methodLinkNest "TiltTray$Acts" 17 yX4_init "TiltTray", .methodLinkNest "TiltTray" 46 yX3_init "TiltTray", .methodLinkNest "TiltTray$Search" 17 yX4_init "TiltTray", .methodLinkNest "TiltTray" 60 yX1_init "TiltTray", .methodLinkNest "TiltTray$Tray" 37 yX6_bitOf "TiltTray", .methodLinkNest "TiltTray$Tray" 49 yX6_nextCell "TiltTray", .methodLinkNest "TiltTray$Tray" 63 yX6_isCell "TiltTray", .methodLinkNest "TiltTray$Search" 59 yX6_isCell "TiltTray", .methodLinkNest "TiltTray$Sights" 30 yX6_bitOf "TiltTray", .methodLinkNest "TiltTray$Sights" 38 yX6_nextCell "TiltTray", .methodLinkNest "TiltTray$Spot" 47 yX6_isCell "TiltTray", .fieldLinkNest "TiltTray$Tray" 34 "TiltTray" "MOST_TOLD" "[I" "TiltTray"]
def NW (U : State) : Prop := ∀ w ∈ nestW, va_Nw w U
theorem NW.warm {s U : State} (hW : s.WarmedH U.vm) (h : NW s) : NW U := by
  intro w hw
  have h1 := h w hw
  simp only [nestW, List.mem_cons, List.not_mem_nil, or_false] at hw
  rcases hw with rfl | rfl | rfl | rfl | rfl | rfl | rfl | rfl | rfl | rfl | rfl | rfl | rfl | rfl
  all_goals first
    | exact va_Nw.warmM hW h1
    | exact va_Nw.warmF hW h1
theorem NW.same {s U : State} (hv : s.vm = U.vm) (h : NW s) : NW U := by
  intro w hw
  have h1 := h w hw
  simp only [nestW, List.mem_cons, List.not_mem_nil, or_false] at hw
  rcases hw with rfl | rfl | rfl | rfl | rfl | rfl | rfl | rfl | rfl | rfl | rfl | rfl | rfl | rfl
  all_goals exact va_Nw.same rfl hv h1
def tMost : Nat → Int32 := fun j => match j with
  | 0 => 4
  | 1 => 6
  | 2 => 3
  | 3 => 3
  | _ => 2
def tOrd : Nat → Int32 := fun j => match j with
  | 0 => 1
  | 1 => 1
  | 2 => 2
  | 3 => 6
  | _ => 24
def tPow : Nat → Int32 := fun j => match j with
  | 0 => 1
  | 1 => 10
  | 2 => 100
  | 3 => 1000
  | _ => 10000
def SA1 (n : String) (t : Nat) (f : Nat → Int32) (A : Nat → Prop) (U : State) (H : Heap) : Prop := va_Z "TiltTray" n "[I" (.ref t) A U H ∧ va_T .int t 5 (fun j => .int (f j)) A U H
theorem SA1.go {n : String} {t : Nat} {f : Nat → Int32} {A B : Nat → Prop} {s U : State} {H0 H : Heap} (hq : ∀ a : Nat, a < H0.size → ¬ A a → H[a]? = H0[a]?) (hB : ∀ q, B q → A q) (hvm : s.vm.Alike U.vm) (h : SA1 n t f A s H0) : SA1 n t f B U H :=
  ⟨((h.1.kept hq).narrow hB).moved hvm, ((h.2.kept hq).narrow hB).moved hvm⟩
def EV (D : va_G) (y : Cy) (A : Nat → Prop) (U : State) : Prop := va_K D vwCl (TYS y) U ∧ NW U ∧ SA1 "MOST_TOLD" y.2.2.2.2.1 tMost A U U.heap ∧ SA1 "ORDERS" y.2.2.2.2.2.1 tOrd A U U.heap ∧ SA1 "POWERS" y.2.2.2.2.2.2 tPow A U U.heap
theorem EV.go {D : va_G} {y : Cy} {A B : Nat → Prop} {s U : State} {H : Heap} {locs : List Loc} (h : EV D y A s) (hS : va_S A s.heap H locs) (hB : ∀ q, B q → A q) (hU : U.heap = H) (hW : s.WarmedH U.vm) : EV D y B U := by
  subst hU
  exact ⟨va_K.moved hW.alike h.1, h.2.1.warm hW, h.2.2.1.go hS.2.1 hB hW.alike, h.2.2.2.1.go hS.2.1 hB hW.alike, h.2.2.2.2.go hS.2.1 hB hW.alike⟩
theorem EV.calling {D : va_G} {y : Cy} {A : Nat → Prop} {U : State} {g : JFrame} {mk : MethodId} {a : Array Value} (h : EV D y A U) : EV D y A (U.calling g mk a) := by
  have hv : U.vm.Alike (U.calling g mk a).vm := Vm.Alike.refl U.vm
  exact ⟨va_K.moved hv h.1, NW.same (s := U) (U := U.calling g mk a) rfl h.2.1, h.2.2.1.go (fun _ _ _ => rfl) (fun _ q => q) hv, h.2.2.2.1.go (fun _ _ _ => rfl) (fun _ q => q) hv, h.2.2.2.2.go (fun _ _ _ => rfl) (fun _ q => q) hv⟩
/-- cells put in their places -/
def ups : va_W → List Nat → va_W → va_W
  | ws, i :: is, e :: es => ups (ws.set i e) is es
  | ws, _, _ => ws
theorem ups_get : ∀ (is : List Nat) (es ws : va_W) (k : Nat) (q : Nat × va_E), is.length = es.length → (ups ws is es)[k]? = some q → (∃ j : Nat, is[j]? = some k ∧ es[j]? = some q) ∨ (k ∉ is ∧ ws[k]? = some q)
  | [], [], ws, k, q, _, h => Or.inr ⟨List.not_mem_nil, h⟩
  | i :: is, e :: es, ws, k, q, hl, h => by
    have hl' : is.length = es.length := by simpa using hl
    rcases ups_get is es (ws.set i e) k q hl' h with ⟨j, h1, h2⟩ | ⟨h1, h2⟩
    · exact Or.inl ⟨j + 1, by simpa using h1, by simpa using h2⟩
    · by_cases hk : k = i
      · subst hk
        have hlt : k < (ws.set k e).length := (List.getElem?_eq_some_iff.mp h2).1
        rw [List.getElem?_set_self (by simpa using hlt)] at h2
        exact Or.inl ⟨0, rfl, h2⟩
      · rw [List.getElem?_set_ne (fun z => hk z.symm)] at h2
        exact Or.inr ⟨fun z => by rcases List.mem_cons.mp z with z | z; exact hk z; exact h1 z, h2⟩
  | [], _ :: _, _, _, _, hl, _ => by simp at hl
  | _ :: _, [], _, _, _, hl, _ => by simp at hl
theorem vj {A0 : Nat → Prop} {D : va_G} {cl : List vw_C} {ws wc w1 : va_W} {H H1 : Heap} (hP : va_P D cl ws H) (hD : va_D A0 ws) (isC : List Nat) (hC : isC.map (fun i => ws[i]?) = wc.map some) (ha : w1.map Prod.fst = wc.map Prod.fst)
    (hk : ∀ q : Nat, q < H.size → ¬ va_A wc H.size q → H1[q]? = H[q]?) (hP1 : va_P D cl w1 H1) : va_P D cl (ups ws isC w1) H1 ∧ va_D A0 (ups ws isC w1) := by
  have hl1 : isC.length = wc.length := by simpa using congrArg List.length hC
  have hl2 : w1.length = wc.length := by simpa using congrArg List.length ha
  have hl : isC.length = w1.length := by omega
  have at' : ∀ (j : Nat) (q : Nat × va_E), wc[j]? = some q → ∃ i, isC[j]? = some i ∧ ws[i]? = some q := by
    intro j q hq
    have h1 : (isC.map (fun i => ws[i]?))[j]? = some (some q) := by rw [hC, List.getElem?_map, hq]; rfl
    rw [List.getElem?_map] at h1
    cases hi : isC[j]? with
    | none => rw [hi] at h1; cases h1
    | some i => rw [hi] at h1; exact ⟨i, rfl, Option.some.inj h1⟩
  have old : ∀ (k : Nat) (q : Nat × va_E), (ups ws isC w1)[k]? = some q → ∃ q0, ws[k]? = some q0 ∧ q0.1 = q.1 := by
    intro k q h
    rcases ups_get isC w1 ws k q hl h with ⟨j, h1, h2⟩ | ⟨-, h2⟩
    · have hj : j < wc.length := by rw [← hl2]; exact (List.getElem?_eq_some_iff.mp h2).1
      have h3 : wc[j]? = some wc[j] := List.getElem?_eq_getElem hj
      obtain ⟨i, h4, h5⟩ := at' j _ h3
      rw [h1] at h4
      cases h4
      refine ⟨_, h5, ?_⟩
      have h6 : (w1.map Prod.fst)[j]? = (wc.map Prod.fst)[j]? := by rw [ha]
      rw [List.getElem?_map, List.getElem?_map, h2, h3] at h6
      exact (Option.some.inj h6).symm
    · exact ⟨q, h2, rfl⟩
  refine ⟨fun k q h => ?_, fun i j x y hi hj hxy => ?_, fun k q h => ?_⟩
  · rcases ups_get isC w1 ws k q hl h with ⟨j, h1, h2⟩ | ⟨h1, h2⟩
    · exact hP1 j q h2
    · have hlt := (hP k q h2).lt
      refine (hP k q h2).kept (hk q.1 hlt (fun z => ?_))
      rcases z with ⟨j, e, z⟩ | z
      · obtain ⟨i, h3, h4⟩ := at' j _ z
        have hij := hD.1 k i q (q.1, e) h2 h4 rfl
        subst hij
        exact h1 (List.mem_of_getElem? h3)
      · omega
  · obtain ⟨x0, a1, a2⟩ := old i x hi
    obtain ⟨y0, b1, b2⟩ := old j y hj
    exact hD.1 i j x0 y0 a1 b1 (by rw [a2, b2, hxy])
  · obtain ⟨q0, a1, a2⟩ := old k q h
    rw [← a2]
    exact hD.2 k q0 a1
theorem psub {D : va_G} {cl : List vw_C} {ws wc : va_W} {H : Heap} (hP : va_P D cl ws H) {isC : List Nat} (hC : isC.map (fun i => ws[i]?) = wc.map some) : va_P D cl wc H := by
  intro j q hq
  have h1 : (isC.map (fun i => ws[i]?))[j]? = some (some q) := by rw [hC, List.getElem?_map, hq]; rfl
  rw [List.getElem?_map] at h1
  cases hi : isC[j]? with
  | none => rw [hi] at h1; cases h1
  | some i => rw [hi] at h1; exact hP i q (Option.some.inj h1)
def CtP (D : va_G) (cy : Cy) (av : List Value) (w0 : va_W) (sz : Nat) : Array Value → State → Prop := va_Pc av (fun U => U.heap.size = sz ∧ va_P D vwCl w0 U.heap ∧ EV D cy (va_A w0 sz) U ∧ va_D (fun _ => True) w0)
def CtQ (D : va_G) (w1 : va_W) (r : Option Value) (A : Nat → Prop) : Array Value → State → Outcome → State → Prop := fun _ st oc t => oc = .returned r ∧ va_P D vwCl w1 t.heap ∧ va_F A st t
/-- a contract: from the cells w0 the method comes back with r, and the same cells hold w1 -/
def Ct (l : Launch) (y : MethodName) (ws : List Cond) (fr lo : Nat) (D : va_G) (cy : Cy) (av : List Value) (w0 w1 : va_W) (r : Option Value) : Prop :=
  ∀ sz : Nat, Met l y ws ({ frames := fr, cells := 0, slots := 0, locals := lo } : Room) (CtP D cy av w0 sz) (CtQ D w1 r (va_A w0 sz)) 0 0 (va_A w0 sz)
theorem CtP.blind {D : va_G} {cy : Cy} {av : List Value} {w0 : va_W} {sz : Nat} : FrameBlind (CtP D cy av w0 sz) := by
  intro a U g mk h
  obtain ⟨h1, h2, h3, h4, h5⟩ := h
  exact ⟨h1, h2, h3, h4.calling, h5⟩
def CQ (D : va_G) (w1 : va_W) (r : Option Value) (A : Nat → Prop) (below : List Frame) (args : Array Value) (s : State) : State → Prop := MQ below (CtQ D w1 r A) args s 0 0 A
theorem Ct.ofW {l : Launch} {y : MethodName} {ws ws' : List Cond} {fr lo : Nat} {D : va_G} {cy : Cy} {av : List Value} {w0 w1 : va_W} {r : Option Value} {cc : ByteArray} {maxL : Nat} {ret : Option FieldType} (hy : plainName y.cls = true) (hw : ws = Cond.code y cc maxL ret :: ws') (hlen : (lg_sl av).length ≤ maxL)
    (body : ∀ (p : Program) (e : Env) (R : Room) (s : State) (m : MethodId) (args : Array Value) (below : List Frame) (meth : Method) (c : Code) (A : Nat → Prop) (Q : State → Prop) (ls : Array Slot), R.frames = fr → R.locals = lo → Q = CQ D w1 r A below args s → p.tables.exec = Jvm.exec → c.code = cc → meth.sig.returnType = ret → c.maxLocals = maxL → (∀ w ∈ ws, w.before args s = true) → s.vm.findClass y.cls = some m.cls → meth.locks = false → EV D cy A s → va_P D vwCl w0 s.heap → va_D A w0 → va_S A s.heap s.heap [] → (∀ q, s.heap.size ≤ q → A q) → lv_has ls maxL (lv_args 0 av) →
      W p l e R s m args below meth c s.heap [] 0 0 Q (F0 m 0 ls [])) : Ct l y ws fr lo D cy av w0 w1 r := by
  intro sz
  refine Met.ofW (cc := cc) (maxL := maxL) (ret := ret) hy hw ?_
  intro p e s m args below meth c s₁ B hml hv
  obtain ⟨rfl, hsz, hP, hE, hD0⟩ := hv
  have hts := atoms_spec (ws := ws) B.pre
  have hown : s.vm.findClass y.cls = some m.cls := findClass_of_methodNamed B.named
  subst hsz
  have hl := lv_entry av (n := maxL) hlen
  rw [lg_entry_eq]
  exact body p e _ s m _ below meth c (va_A w0 s.heap.size) _ _ rfl rfl rfl B.exec B.bytes B.returns hml hts hown B.notSynchronized hE hP hD0.self va_S.rf (fun q h => Or.inr h) hl
section CTR
variable {p : Program} {l : Launch} {e : Env} {R : Room} {s : State} {m : MethodId} {args : Array Value} {below : List Frame} {meth : Method} {c : Code} {H : Heap} {locs : List Loc} {D : va_G} {w1 : va_W} {A : Nat → Prop} {cc : ByteArray} {pc : Nat} {ls : Array Slot}
theorem ct_iret {v : Int32} {r : Option Value} (hx : p.tables.exec = Jvm.exec) (hb : c.code = cc) (hr : meth.sig.returnType = some .int) (hlocks : meth.locks = false) (hP : va_P D vwCl w1 H) (hS : va_S A s.heap H locs) (hv : some (.int v) = r) (hdg : decode cc pc = .ok (.ireturn, 1)) : W p l e R s m args below meth c H locs 0 0 (CQ D w1 r A below args s) (F0 m pc ls [.int v]) := by
  subst hv
  exact W.iret (v := v) hx hb hr (fun t ht _ => ⟨rfl, by rw [ht]; exact hP, hS.F ht⟩) hS.2.2 hdg hlocks
theorem ct_zret {v : Int32} {r : Option Value} (hx : p.tables.exec = Jvm.exec) (hb : c.code = cc) (hr : meth.sig.returnType = some .boolean) (hlocks : meth.locks = false) (hn : narrow .boolean (.int v) = .int v) (hP : va_P D vwCl w1 H) (hS : va_S A s.heap H locs) (hv : some (.int v) = r) (hdg : decode cc pc = .ok (.ireturn, 1)) : W p l e R s m args below meth c H locs 0 0 (CQ D w1 r A below args s) (F0 m pc ls [.int v]) := by
  subst hv
  exact W.zret (v := v) hx hb hr hn (fun t ht _ => ⟨rfl, by rw [ht]; exact hP, hS.F ht⟩) hS.2.2 hdg hlocks
theorem ct_lret {v : Int64} {r : Option Value} (hx : p.tables.exec = Jvm.exec) (hb : c.code = cc) (hr : meth.sig.returnType = some .long) (hlocks : meth.locks = false) (hP : va_P D vwCl w1 H) (hS : va_S A s.heap H locs) (hv : some (.long v) = r) (hdg : decode cc pc = .ok (.lreturn, 1)) : W p l e R s m args below meth c H locs 0 0 (CQ D w1 r A below args s) (F0 m pc ls [.long v]) := by
  subst hv
  exact W.lret (v := v) hx hb hr (fun t ht _ => ⟨rfl, by rw [ht]; exact hP, hS.F ht⟩) hS.2.2 hdg hlocks
theorem ct_vret {r : Option Value} (hx : p.tables.exec = Jvm.exec) (hb : c.code = cc) (hr : meth.sig.returnType = none) (hlocks : meth.locks = false) (hP : va_P D vwCl w1 H) (hS : va_S A s.heap H locs) (hv : none = r) (hdg : decode cc pc = .ok (.return_, 1)) : W p l e R s m args below meth c H locs 0 0 (CQ D w1 r A below args s) (F0 m pc ls []) := by
  subst hv
  exact W.vret hx hb hr (fun t ht _ => ⟨rfl, by rw [ht]; exact hP, hS.F ht⟩) hS.2.2 hdg hlocks
end CTR
section CTK
variable {p : Program} {l : Launch} {e : Env} {R : Room} {s : State} {m : MethodId} {args : Array Value} {below : List Frame} {meth : Method} {c : Code} {H : Heap} {locs : List Loc} {cells slots : Nat} {Q : State → Prop} {D : va_G} {cy : Cy} {A : Nat → Prop} {cc : ByteArray} {pc nL : Nat} {ls : Array Slot} {ws w0 w1 w2 : va_W} {r : Option Value} {st rest As : List Value} {Ts : List Cond} {own : String} {index maxL fr lo n : Nat} {y : MethodName} {bytes : ByteArray} {ret : Option FieldType} {wsy wsy' : List Cond} {b : Nat}
theorem kR {a : Array Value} (hr : va_Run p l e R s m args below meth c H locs cells slots 0 0 (F0 m pc ls st) rest (CtQ D w1 r (va_A w0 H.size) a) (va_A w0 H.size)) (hP : va_P D vwCl ws H) (hD : va_D A ws) (hS : va_S A s.heap H locs) (hA : ∀ q, s.heap.size ≤ q → A q) (isC : List Nat) (hC : isC.map (fun i => ws[i]?) = w0.map some) (ha : w1.map Prod.fst = w0.map Prod.fst) (h2 : ups ws isC w1 = w2)
    (kk : ∀ (H1 : Heap) (locs1 : List Loc), va_P D vwCl w2 H1 → va_D A w2 → va_S A s.heap H1 locs1 → W p l e R s m args below meth c H1 locs1 cells slots Q (F0 m (pc + 3) ls (r.toList ++ rest))) : W p l e R s m args below meth c H locs cells slots Q (F0 m pc ls st) := by
  have hF := va_free (wc := w0) hD hS hA isC hC
  subst h2
  intro T hT X
  obtain ⟨v, st₀, t, T', L, h0, X', hL, e1, e2, ⟨hv, hP1, hz, hk⟩, st⟩ := hr T hT X
  cases hv
  rw [h0] at hz hk
  have hk2 : ∀ q : Nat, q < H.size → ¬ va_A w0 H.size q → T'.heap[q]? = H[q]? := fun q h1 h2 => by rw [e1]; exact hk q h1 h2
  obtain ⟨hP2, hD2⟩ := vj (H1 := T'.heap) hP hD isC hC ha hk2 (by rw [e1]; exact hP1)
  obtain ⟨t2, a1, b1⟩ := kk T'.heap (locs ++ L) hP2 hD2
    ⟨Nat.le_trans hS.1 (by rw [e1]; exact hz), fun q h1 h2 => by rw [hk2 q (Nat.lt_of_lt_of_le h1 hS.1) (fun z => h2 (hF q z))]; exact hS.2.1 q h1 h2, fun q hq => by
      rcases List.mem_append.mp hq with h | h
      · exact hS.2.2 q h
      · exact hF _ (hL q h)⟩ T' rfl X'
  exact ⟨t2, st t2 a1, b1⟩
theorem kPre {av : List Value} (hE : EV D cy A s) (hP : va_P D vwCl ws H) (hD : va_D A ws) (hS : va_S A s.heap H locs) (hA : ∀ q, s.heap.size ≤ q → A q) (isC : List Nat) (hnd : va_nd isC = true) (hC : isC.map (fun i => ws[i]?) = w0.map some) : ∀ U : State, U.heap = H → s.WarmedH U.vm → CtP D cy av w0 H.size av.toArray U := by
  intro U hU hW
  exact ⟨rfl, by rw [hU], by rw [hU]; exact psub hP hC, hE.go hS (va_free (wc := w0) hD hS hA isC hC) hU hW, (hD.sub isC hnd hC).weaken (fun _ _ _ _ => trivial)⟩
theorem kV {Cn : String} {ci q0 N : Nat} {T : u_T} {fs : List Value} (S : CallFix p m c cc nL s args Ts own) (hc : Ct l y wsy fr lo D cy (.ref b :: As) w0 w1 r) (hG : GoodIn Ts (wsV own index Cn y wsy)) (hw : wsy = Cond.code y bytes maxL ret :: wsy') (hd : y.cls = Cn ∧ y.cls ≠ "java/lang/invoke/MethodHandle" ∧ y.cls ≠ "java/lang/invoke/VarHandle" ∧ (parseMethodDescriptor y.desc).map (fun d => d.parameters.length) = some n) (hR : fr + 1 ≤ R.frames ∧ 8 + (maxL + 11) + lo ≤ R.locals)
    (hE : EV D cy A s) (hP : va_P D vwCl ws H) (hD : va_D A ws) (hS : va_S A s.heap H locs) (hA : ∀ q, s.heap.size ≤ q → A q) (isC : List Nat) (hnd : va_nd isC = true) (hC : isC.map (fun i => ws[i]?) = w0.map some) (ha : w1.map Prod.fst = w0.map Prod.fst) (h2 : ups ws isC w1 = w2) (hq : ws[q0]? = some (b, .inr (ci, fs))) (hcl : vwCl[ci]? = some (Cn, T, N)) (hn : As.length = n) (hsz : ls.size = nL) (hst : st = As.reverse ++ .ref b :: rest) (hW : (rest.map fun v => v.category).sum ≤ 8) (hdg : decode cc pc = .ok (.invokevirtual index, 3)) (hf : cells ≤ R.cells ∧ slots ≤ R.slots)
    (kk : ∀ (H1 : Heap) (locs1 : List Loc), va_P D vwCl w2 H1 → va_D A w2 → va_S A s.heap H1 locs1 → W p l e R s m args below meth c H1 locs1 cells slots Q (F0 m (pc + 3) ls (r.toList ++ rest))) : W p l e R s m args below meth c H locs cells slots Q (F0 m pc ls st) :=
  kR (va_runV (As := As) (rest := rest) (b := b) S (hc H.size) (cwV n S.2.2.2.2 hG hw rfl rfl hd hR) ⟨CtP.blind, va_recv hE.1 hP hcl hq, kPre hE hP hD hS hA isC hnd hC⟩ rfl hn hsz hst (lv_room hW) hdg hf) hP hD hS hA isC hC ha h2 kk
theorem kS (S : CallFix p m c cc nL s args Ts own) (hc : Ct l y wsy fr lo D cy As w0 w1 r) (hG : GoodIn Ts (va_wsS own index y wsy)) (hw : wsy = Cond.code y bytes maxL ret :: wsy') (hd : y.cls ≠ "java/lang/invoke/MethodHandle" ∧ y.cls ≠ "java/lang/invoke/VarHandle" ∧ (parseMethodDescriptor y.desc).map (fun d => d.parameters.length) = some n) (hR : fr + 1 ≤ R.frames ∧ 8 + (maxL + 11) + lo ≤ R.locals)
    (hE : EV D cy A s) (hP : va_P D vwCl ws H) (hD : va_D A ws) (hS : va_S A s.heap H locs) (hA : ∀ q, s.heap.size ≤ q → A q) (isC : List Nat) (hnd : va_nd isC = true) (hC : isC.map (fun i => ws[i]?) = w0.map some) (ha : w1.map Prod.fst = w0.map Prod.fst) (h2 : ups ws isC w1 = w2) (hn : As.length = n) (hsz : ls.size = nL) (hst : st = As.reverse ++ rest) (hW : (rest.map fun v => v.category).sum ≤ 8) (hdg : decode cc pc = .ok (.invokestatic index, 3)) (hf : cells ≤ R.cells ∧ slots ≤ R.slots)
    (kk : ∀ (H1 : Heap) (locs1 : List Loc), va_P D vwCl w2 H1 → va_D A w2 → va_S A s.heap H1 locs1 → W p l e R s m args below meth c H1 locs1 cells slots Q (F0 m (pc + 3) ls (r.toList ++ rest))) : W p l e R s m args below meth c H locs cells slots Q (F0 m pc ls st) :=
  kR (va_runS (As := As) (rest := rest) S (hc H.size) (va_cwS n S.2.2.2.2 hG hw rfl rfl hd hR) ⟨CtP.blind, kPre hE hP hD hS hA isC hnd hC⟩ rfl hn hsz hst (lv_room hW) hdg hf) hP hD hS hA isC hC ha h2 kk
theorem kSN {host : String} (S : CallFix p m c cc nL s args Ts own) (hc : Ct l y wsy fr lo D cy As w0 w1 r) (hG : GoodIn Ts wsy) (hw : wsy = Cond.code y bytes maxL ret :: wsy') (hl : va_Nw (.methodLinkNest own index y host) s) (hini : (Cond.initialized y.cls).before args s = true) (hstat : (Cond.static y).before args s = true) (hd : y.cls ≠ "java/lang/invoke/MethodHandle" ∧ y.cls ≠ "java/lang/invoke/VarHandle" ∧ (parseMethodDescriptor y.desc).map (fun d => d.parameters.length) = some n) (hR : fr + 1 ≤ R.frames ∧ 8 + (maxL + 11) + lo ≤ R.locals)
    (hE : EV D cy A s) (hP : va_P D vwCl ws H) (hD : va_D A ws) (hS : va_S A s.heap H locs) (hA : ∀ q, s.heap.size ≤ q → A q) (isC : List Nat) (hnd : va_nd isC = true) (hC : isC.map (fun i => ws[i]?) = w0.map some) (ha : w1.map Prod.fst = w0.map Prod.fst) (h2 : ups ws isC w1 = w2) (hn : As.length = n) (hsz : ls.size = nL) (hst : st = As.reverse ++ rest) (hW : (rest.map fun v => v.category).sum ≤ 8) (hdg : decode cc pc = .ok (.invokestatic index, 3)) (hf : cells ≤ R.cells ∧ slots ≤ R.slots)
    (kk : ∀ (H1 : Heap) (locs1 : List Loc), va_P D vwCl w2 H1 → va_D A w2 → va_S A s.heap H1 locs1 → W p l e R s m args below meth c H1 locs1 cells slots Q (F0 m (pc + 3) ls (r.toList ++ rest))) : W p l e R s m args below meth c H locs cells slots Q (F0 m pc ls st) :=
  kR (va_runSN (As := As) (rest := rest) S (hc H.size) ⟨va_cnB n S.2.2.2.2 hG hw rfl rfl hl hini hd hR, hstat, trivial⟩ ⟨CtP.blind, kPre hE hP hD hS hA isC hnd hC⟩ rfl hn hsz hst (lv_room hW) hdg hf) hP hD hS hA isC hC ha h2 kk
end CTK
theorem sw_out {x : Int32} (n : Nat) (hn : n < 2000) (h : ∀ k : Nat, k < n + 1 → ¬ x = nI k) : x.toInt < 0 ∨ (n : Int) < x.toInt := by
  rcases (show x.toInt < 0 ∨ 0 ≤ x.toInt by omega) with h1 | h1
  · exact Or.inl h1
  · rcases (show (n : Int) < x.toInt ∨ x.toInt ≤ (n : Int) by omega) with h2 | h2
    · exact Or.inr h2
    · refine absurd ?_ (h x.toInt.toNat (by omega))
      apply Int32.toInt_inj.mp
      rw [nI_toInt (by omega)]
      omega
theorem ne_int {x k : Int32} (z : Int) (h : ¬ x = k) (hz : k.toInt = z) : ¬ z = x.toInt := fun q => h (Int32.toInt_inj.mp (by rw [hz, q]))
theorem nar_z {v : Int32} (h : v &&& 1 = v) : narrow .boolean (.int v) = .int v := by
  show Value.int (v &&& 1) = Value.int v
  rw [h]
theorem lv_ldcw9 {p : Program} {l : Launch} {e : Env} {R : Room} {s : State} {m : MethodId} {args : Array Value} {below : List Frame} {meth : Method} {c : Code} {H : Heap} {locs : List Loc} {cells slots : Nat} {Q : State → Prop} {cc : ByteArray} {pc : Nat} {ls : Array Slot} {rest : List Value} (hexec : p.tables.exec = Jvm.exec) (hb : c.code = cc) {own : String} {index : Nat} {v : Int32} (hown : s.vm.findClass own = some m.cls) (hconst : (Cond.constant own index v).before args s = true) (hdg : decode cc pc = .ok (.ldc_w index, 3)) (k : W p l e R s m args below meth c H locs cells slots Q (F0 m (pc + 3) ls (.int v :: rest))) : W p l e R s m args below meth c H locs cells slots Q (F0 m pc ls rest) := by
  intro T hT X
  obtain ⟨t, a, b⟩ := k T hT X
  exact ⟨t, va_ldcwI X hexec hown hconst rfl (by rw [hb]; exact hdg) t a, b⟩
/-! the cells of the objects -/
def cSp (h a : Nat) (cI : ClassId) (x : SpS) : va_W := [(h, .inr (4, [.ref a, .int x.2.1, .int x.2.2.1, .int x.2.2.2.1, .int x.2.2.2.2])), (a, .inl (cI, 4, .inl x.1))]
def cTr (h a b c : Nat) (cI : ClassId) (x : TrS) : va_W := [(h, .inr (5, [.ref a, .ref b, .ref c, .int x.2.2.2.1, .int x.2.2.2.2])), (a, .inl (cI, 5, .inl x.1)), (b, .inl (cI, 4, .inl x.2.1)), (c, .inl (cI, 4, .inl x.2.2.1))]
def cPa (h a b : Nat) (cI : ClassId) (u v : Nat → Int32) : va_W := [(h, .inr (1, [.ref a, .ref b])), (a, .inl (cI, 16, .inl u)), (b, .inl (cI, 16, .inl v))]
def cSi (h a b c : Nat) (cI : ClassId) (u v w : Nat → Int32) (n : Int32) : va_W := [(h, .inr (3, [.ref a, .ref b, .ref c, .int n])), (a, .inl (cI, 6, .inl u)), (b, .inl (cI, 6, .inl v)), (c, .inl (cI, 6, .inl w))]
def cMo (h kind told now readTold readCell readKind text row seenCell seenWay seenCame isKept kept : Nat) (marbles length at_ faultAt there stopped acts next bestRow seen : Int32) (seed : Int64) : va_W := [(h, .inr (7, [.int marbles, .ref kind, .ref told, .ref now, .ref readTold, .ref readCell, .ref readKind, .ref text, .int length, .int at_, .int faultAt, .int there, .int stopped, .int acts, .int next, .ref row, .int bestRow, .int seen, .ref seenCell, .ref seenWay, .ref seenCame, .long seed, .ref isKept, .ref kept]))]
