/-! the tilt, as mathematics -/
theorem t0 : (0 : Int32).toNatClampNeg = 0 := by decide
theorem t1 : (1 : Int32).toNatClampNeg = 1 := by decide
theorem t2 : (2 : Int32).toNatClampNeg = 2 := by decide
theorem t3 : (3 : Int32).toNatClampNeg = 3 := by decide
theorem t4 : (4 : Int32).toNatClampNeg = 4 := by decide
theorem t5 : (5 : Int32).toNatClampNeg = 5 := by decide
theorem t6 : (6 : Int32).toNatClampNeg = 6 := by decide
theorem ix_nI {m n : Nat} (h : m < n) (hn : n < 2 ^ 31) : ix (nI m) n = true := by
  unfold ix
  rw [nI_clamp (by omega)]
  have h1 : ¬ nI m < 0 := nI_pos (by omega)
  have h2 : ¬ n ≤ m := by omega
  simp [h1, h2]
/-- where each marble is (its cell; 100 and the hole's cell; -1: not there), which holes are full, what is wedged -/
abbrev KS : Type := (Nat → Int32) × Int32 × Int32
def nxt (c w : Nat) : Option Nat := match w with
  | 0 => if c % 5 = 0 then none else some (c - 1)
  | 1 => if c % 5 = 4 then none else some (c + 1)
  | 2 => if c < 5 then none else some (c - 5)
  | _ => if 19 < c then none else some (c + 5)
def opp (w : Nat) : Nat := match w with
  | 0 => 1
  | 1 => 0
  | 2 => 3
  | _ => 2
def o1 (o : Option Nat) : Int32 := match o with
  | none => -1
  | some d => nI d
def o9 (o : Option Nat) : Int32 := match o with
  | none => -9
  | some d => nI d
theorem nxt_all : ∀ c, c < 25 → ∀ w, w < 4 → ((nxt c w).all (fun d => decide (d < 25))) = true := by decide +kernel
theorem nxt_lt {c w d : Nat} (hc : c < 25) (hw : w < 4) (h : nxt c w = some d) : d < 25 := by
  have h1 := nxt_all c hc w hw
  rw [h] at h1
  exact of_decide_eq_true h1
theorem opp_lt {w : Nat} (h : w < 4) : opp w < 4 := (by decide +kernel : ∀ w, w < 4 → opp w < 4) w h
theorem tw_nextCell : ∀ c, c < 25 → ∀ w, w < 4 → tw_X6_nextCell (nI c) (nI w) = some (o1 (nxt c w)) := by decide +kernel
theorem tw_onward : ∀ c, c < 25 → ∀ w, w < 4 → tw_X7_onward (nI c) (nI w) = some (o9 (nxt c w)) := by decide +kernel
theorem xor1 : ∀ w, w < 4 → nI w ^^^ 1 = nI (opp w) := by decide +kernel
theorem isCell_c : ∀ c, c < 25 → tw_X6_isCell (nI c) = some 1 := by decide +kernel
theorem isCell_h : ∀ c, c < 25 → tw_X6_isCell (nI (100 + c)) = some 0 := by decide +kernel
theorem isCell_m : tw_X6_isCell (-1) = some 0 := by decide +kernel
theorem lt100 : ∀ c, c < 25 → nI c < 100 := by decide +kernel
theorem nlt100 : ∀ c, c < 25 → ¬ nI (100 + c) < 100 := by decide +kernel
theorem m1lt100 : (-1 : Int32) < 100 := by decide +kernel
theorem o1_m : ∀ c, c < 25 → ¬ nI c = -1 := by decide +kernel
theorem o9_m : ∀ c, c < 25 → ¬ nI c = -9 := by decide +kernel
theorem h_ne_c : ∀ c, c < 25 → ∀ d, d < 25 → ¬ nI (100 + c) = nI d := by decide +kernel
theorem m_ne_c : ∀ d, d < 25 → ¬ (-1 : Int32) = nI d := by decide +kernel
theorem m_ne_h : ∀ d, d < 25 → ¬ (-1 : Int32) = nI (100 + d) := by decide +kernel
theorem add100 (d : Nat) : (100 : Int32) + nI d = nI (100 + d) := nI_add 100 d
def occ (f : Nat → Int32) (d : Nat) : Bool := decide (f 0 = nI d) || (decide (f 1 = nI d) || (decide (f 2 = nI d) || decide (f 3 = nI d)))
theorem occ_iff {f : Nat → Int32} {d : Nat} : occ f d = true ↔ ∃ j, j < 4 ∧ f j = nI d := by
  unfold occ
  simp only [Bool.or_eq_true, decide_eq_true_eq]
  constructor
  · rintro (h | h | h | h)
    · exact ⟨0, by omega, h⟩
    · exact ⟨1, by omega, h⟩
    · exact ⟨2, by omega, h⟩
    · exact ⟨3, by omega, h⟩
  · rintro ⟨j, hj, h⟩
    rcases (show j = 0 ∨ j = 1 ∨ j = 2 ∨ j = 3 by omega) with rfl | rfl | rfl | rfl
    · exact Or.inl h
    · exact Or.inr (Or.inl h)
    · exact Or.inr (Or.inr (Or.inl h))
    · exact Or.inr (Or.inr (Or.inr h))
theorem occ_cong {f g : Nat → Int32} (h : ∀ j, j < 4 → f j = g j) (d : Nat) : occ f d = occ g d := by
  unfold occ
  rw [h 0 (by omega), h 1 (by omega), h 2 (by omega), h 3 (by omega)]
def dirK (tr : TrS) (m w : Nat) : Nat := if tr.2.1 m = 3 then opp w else w
theorem dirK_lt {tr : TrS} {m w : Nat} (h : w < 4) : dirK tr m w < 4 := by
  unfold dirK
  split
  · exact opp_lt h
  · exact h
def blk (tr : TrS) (k : KS) (d : Nat) : Bool := bt (tr.1 1) d || (bt (tr.1 4) d || (occ k.1 d || bt k.2.2 d))
def opn (tr : TrS) (k : KS) (d : Nat) : Bool := bt (tr.1 2) d && !bt k.2.1 d
def stp (tr : TrS) (m d : Nat) : Bool := if tr.2.1 m = 0 then false else if tr.2.1 m = 1 then (bt (tr.1 3) d || bt tr.2.2.2.2 d) else if tr.2.1 m = 2 then true else bt (tr.1 3) d
def bs (c : Nat) : Int32 := (1 : Int32) <<< (nI c &&& 31)
def posOk (x : Int32) : Prop := x = -1 ∨ (∃ c, c < 25 ∧ x = nI c) ∨ ∃ c, c < 25 ∧ x = nI (100 + c)
/-- every marble is somewhere, no two on one cell -/
def VK (k : KS) : Prop := (∀ j, j < 4 → posOk (k.1 j)) ∧ ∀ i j, i < 4 → j < 4 → i ≠ j → ∀ c, c < 25 → k.1 i = nI c → ¬ k.1 j = nI c
/-- the component's spot holds k -/
def CR (sp : SpS) (k : KS) : Prop := (∀ j, j < 4 → sp.1 j = k.1 j) ∧ sp.2.2.1 = k.2.1 ∧ sp.2.2.2.1 = k.2.2 ∧ ∀ c, c < 32 → bt sp.2.1 c = (decide (c < 25) && occ k.1 c)
def mvK (k : KS) (m d : Nat) : KS := (upd k.1 m (nI d), k.2.1, k.2.2)
def faK (k : KS) (m d : Nat) : KS := (upd k.1 m (nI (100 + d)), k.2.1 ||| bs d, k.2.2)
theorem nI_inj {a b : Nat} (ha : a < 25) (hb : b < 25) : nI a = nI b ↔ a = b := nI_eq (by omega) (by omega)
theorem occ_upd {f : Nat → Int32} {m c : Nat} {x : Int32} (hm : m < 4) (hd : ∀ j, j < 4 → j ≠ m → ¬ f j = nI c) (h : f m = nI c) (e : Nat) : occ (upd f m x) e = (decide (x = nI e) || (occ f e && !decide (nI c = nI e))) := by
  apply Bool.eq_iff_iff.mpr
  rw [occ_iff]
  simp only [Bool.or_eq_true, Bool.and_eq_true, decide_eq_true_eq, Bool.not_eq_true', decide_eq_false_iff_not, occ_iff]
  constructor
  · rintro ⟨j, hj, h1⟩
    by_cases hjm : j = m
    · subst hjm
      rw [pk_us] at h1
      exact Or.inl h1
    · rw [pk_un hjm] at h1
      exact Or.inr ⟨⟨j, hj, h1⟩, fun q => hd j hj hjm (h1.trans q.symm)⟩
  · rintro (h1 | ⟨⟨j, hj, h1⟩, h2⟩)
    · exact ⟨m, hm, by rw [pk_us]; exact h1⟩
    · refine ⟨j, hj, ?_⟩
      by_cases hjm : j = m
      · subst hjm
        exact absurd (h.symm.trans h1) h2
      · rw [pk_un hjm]; exact h1
theorem upd_cong {f g : Nat → Int32} (h : ∀ j, j < 4 → f j = g j) (m : Nat) (x : Int32) : ∀ j, j < 4 → upd f m x j = upd g m x j := by
  intro j hj
  by_cases hjm : j = m
  · subst hjm; rw [pk_us, pk_us]
  · rw [pk_un hjm, pk_un hjm]; exact h j hj
theorem CR.move {sp : SpS} {k : KS} {m c d : Nat} (hR : CR sp k) (hV : VK k) (hm : m < 4) (hc : c < 25) (hd : d < 25) (hp : k.1 m = nI c) : CR (upd sp.1 m (nI d), (sp.2.1 &&& (bs c ^^^ (-1))) ||| bs d, sp.2.2.1, sp.2.2.2.1, sp.2.2.2.2) (mvK k m d) := by
  refine ⟨upd_cong hR.1 m _, hR.2.1, hR.2.2.1, fun e he => ?_⟩
  show bt ((sp.2.1 &&& (bs c ^^^ (-1))) ||| bs d) e = (decide (e < 25) && occ (upd k.1 m (nI d)) e)
  rw [occ_upd hm (fun j hj hjm => hV.2 m j hm hj (Ne.symm hjm) c hc hp) hp]
  unfold bs
  rw [b_set _ d (by omega) he, b_clr _ c (by omega) he, hR.2.2.2 e he]
  by_cases he5 : e < 25
  · have e1 : decide (nI d = nI e) = decide (e = d) := decide_eq_decide.mpr (by rw [nI_inj hd he5]; exact eq_comm)
    have e2 : decide (nI c = nI e) = decide (e = c) := decide_eq_decide.mpr (by rw [nI_inj hc he5]; exact eq_comm)
    rw [e1, e2]
    simp [he5, Bool.or_comm]
  · have e1 : ¬ e = d := by omega
    simp [he5, e1]
theorem CR.fall {sp : SpS} {k : KS} {m c d : Nat} (hR : CR sp k) (hV : VK k) (hm : m < 4) (hc : c < 25) (hd : d < 25) (hp : k.1 m = nI c) : CR (upd sp.1 m (100 + nI d), sp.2.1 &&& (bs c ^^^ (-1)), sp.2.2.1 ||| bs d, sp.2.2.2.1, sp.2.2.2.2) (faK k m d) := by
  refine ⟨fun j hj => by show upd sp.1 m (100 + nI d) j = upd k.1 m (nI (100 + d)) j; rw [add100]; exact upd_cong hR.1 m _ j hj, by show sp.2.2.1 ||| bs d = k.2.1 ||| bs d; rw [hR.2.1], hR.2.2.1, fun e he => ?_⟩
  show bt (sp.2.1 &&& (bs c ^^^ (-1))) e = (decide (e < 25) && occ (upd k.1 m (nI (100 + d))) e)
  rw [occ_upd hm (fun j hj hjm => hV.2 m j hm hj (Ne.symm hjm) c hc hp) hp]
  unfold bs
  rw [b_clr _ c (by omega) he, hR.2.2.2 e he]
  by_cases he5 : e < 25
  · have e1 : decide (nI (100 + d) = nI e) = false := decide_eq_false (h_ne_c d hd e he5)
    have e2 : decide (nI c = nI e) = decide (e = c) := decide_eq_decide.mpr (by rw [nI_inj hc he5]; exact eq_comm)
    rw [e1, e2]
    simp [he5]
  · simp [he5]
theorem VK.move {k : KS} {m d : Nat} (hV : VK k) (hd : d < 25) (ho : occ k.1 d = false) : VK (mvK k m d) := by
  refine ⟨fun j hj => ?_, fun i j hi hj hij c hc a1 a2 => ?_⟩
  · show posOk (upd k.1 m (nI d) j)
    by_cases hjm : j = m
    · subst hjm; rw [pk_us]; exact Or.inr (Or.inl ⟨d, hd, rfl⟩)
    · rw [pk_un hjm]; exact hV.1 j hj
  · have no : ∀ j, j < 4 → ¬ k.1 j = nI d := fun j hj q => by rw [occ_iff.mpr ⟨j, hj, q⟩] at ho; cases ho
    have h1 : upd k.1 m (nI d) i = nI c := a1
    have h2 : upd k.1 m (nI d) j = nI c := a2
    clear a1 a2
    by_cases him : i = m
    · subst him
      rw [pk_us] at h1
      rw [pk_un (Ne.symm hij)] at h2
      exact no j hj (h2.trans h1.symm)
    · rw [pk_un him] at h1
      by_cases hjm : j = m
      · subst hjm
        rw [pk_us] at h2
        exact no i hi (h1.trans h2.symm)
      · rw [pk_un hjm] at h2
        exact hV.2 i j hi hj hij c hc h1 h2
theorem VK.fall {k : KS} {m d : Nat} (hV : VK k) (hd : d < 25) : VK (faK k m d) := by
  refine ⟨fun j hj => ?_, fun i j hi hj hij c hc a1 a2 => ?_⟩
  · show posOk (upd k.1 m (nI (100 + d)) j)
    by_cases hjm : j = m
    · subst hjm; rw [pk_us]; exact Or.inr (Or.inr ⟨d, hd, rfl⟩)
    · rw [pk_un hjm]; exact hV.1 j hj
  · have h1 : upd k.1 m (nI (100 + d)) i = nI c := a1
    have h2 : upd k.1 m (nI (100 + d)) j = nI c := a2
    clear a1 a2
    by_cases him : i = m
    · subst him
      rw [pk_us] at h1
      exact h_ne_c d hd c hc h1
    · rw [pk_un him] at h1
      by_cases hjm : j = m
      · subst hjm
        rw [pk_us] at h2
        exact h_ne_c d hd c hc h2
      · rw [pk_un hjm] at h2
        exact hV.2 i j hi hj hij c hc h1 h2
