/-! best -/
def upB (s : Int32 × Int32) (v : Nat) (g : Int32) : Int32 × Int32 := if nI v ≤ s.1 then s else (nI v, g)
def lpB (f g : Nat → Nat) : Nat → Nat → Int32 × Int32 → Int32 × Int32
  | 0, _, s => s
  | n + 1, F, s => lpB f g n (F + 1) (upB s (f F) (nI (g F)))
theorem lp_add (f g : Nat → Nat) : ∀ (a b F : Nat) (s : Int32 × Int32), lpB f g (a + b) F s = lpB f g b (F + a) (lpB f g a F s)
  | 0, b, F, s => by rw [Nat.zero_add, lpB, Nat.add_zero]
  | a + 1, b, F, s => by
    rw [show a + 1 + b = (a + b) + 1 by omega, lpB, lpB, lp_add f g a b (F + 1), show F + 1 + a = F + (a + 1) by omega]
theorem lp_shift (f g f2 g2 : Nat → Nat) : ∀ (n a b : Nat) (s : Int32 × Int32), (∀ i, i < n → f (a + i) = f2 (b + i) ∧ g (a + i) = g2 (b + i)) → lpB f g n a s = lpB f2 g2 n b s
  | 0, _, _, _, _ => rfl
  | n + 1, a, b, s, h => by
    have h0 := h 0 (by omega)
    rw [Nat.add_zero, Nat.add_zero] at h0
    rw [lpB, lpB, h0.1, h0.2]
    exact lp_shift f g f2 g2 n (a + 1) (b + 1) _ (fun i hi => by
      have h1 := h (i + 1) (by omega)
      rw [show a + 1 + i = a + (i + 1) by omega, show b + 1 + i = b + (i + 1) by omega]
      exact h1)
theorem lp_stuck {f g : Nat → Nat} {B : Nat} (hB : B < 1000) (hf : ∀ F, f F ≤ B) : ∀ (n F : Nat) (s : Int32 × Int32), nI B ≤ s.1 → lpB f g n F s = s
  | 0, _, _, _ => rfl
  | n + 1, F, s, h => by
    have e : upB s (f F) (nI (g F)) = s := if_pos (Int32.le_trans (nI_le (hf F) (by omega)) h)
    rw [lpB, e]
    exact lp_stuck hB hf n (F + 1) s h
theorem nneg {v : Nat} {x : Int32} (hv : v < 1000) (hx : x.toInt < 0) : ¬ nI v ≤ x := by
  rw [Int32.le_iff_toInt_le, nI_toInt (by omega)]
  omega
theorem fall_sum (k : KS) : fallK k = (if inH (k.1 0) = true then 1 else 0) + (if inH (k.1 1) = true then 1 else 0) + (if inH (k.1 2) = true then 1 else 0) + (if inH (k.1 3) = true then 1 else 0) := by
  show (if inH (k.1 0) = true then 1 else 0) + ((if inH (k.1 1) = true then 1 else 0) + ((if inH (k.1 2) = true then 1 else 0) + ((if inH (k.1 3) = true then 1 else 0) + 0))) = _
  omega
theorem inH_c : ∀ c, c < 25 → inH (nI c) = false := by decide +kernel
theorem inH_h : ∀ c, c < 25 → inH (nI (100 + c)) = true := by decide +kernel
theorem inH_m : inH (-1) = false := by decide +kernel
theorem fall_upd {k k' : KS} {m : Nat} (hm : m < 4) {x : Int32} (e : k'.1 = upd k.1 m x) (h : inH (k.1 m) = false) : fallK k' = fallK k + (if inH x = true then 1 else 0) := by
  rw [fall_sum, fall_sum, e]
  rcases (show m = 0 ∨ m = 1 ∨ m = 2 ∨ m = 3 by omega) with rfl | rfl | rfl | rfl
  · simp only [upd, h]; simp; omega
  · simp only [upd, h]; simp; omega
  · simp only [upd, h]; simp; omega
  · simp only [upd, h]; simp
theorem pop_clr {x : Int32} {c : Nat} (hc : c < 25) (h : bt x c = true) : pop x = pop (x ^^^ bs c) + 1 := by
  have e : bt (x ^^^ bs c) c = false := by
    unfold bs
    rw [b_flip x c (by omega) (by omega), h]; simp
  have e2 : (x ^^^ bs c) ^^^ bs c = x := by
    apply b_ext
    intro i hi
    rw [b_xor, b_xor]
    cases bt x i <;> cases bt (bs c) i <;> rfl
  have e3 := pop_flip (x := x ^^^ bs c) hc
  rw [e2, e] at e3
  exact e3
theorem pop_not {x : Int32} {c : Nat} (hc : c < 25) (h : bt x c = false) : pop (x ^^^ bs c) = pop x + 1 := by
  rw [pop_flip hc, h]; rfl
/-- how many holes are open -/
def opc (tr : TrS) (k : KS) : Nat := pop (tr.1 2 &&& (k.2.1 ^^^ (-1)))
theorem opc_fall {tr : TrS} {k : KS} {m d : Nat} (hd : d < 25) (h : opn tr k d = true) : opc tr k = opc tr (faK k m d) + 1 := by
  unfold opn at h
  have h1 : bt (tr.1 2) d = true := by
    cases q : bt (tr.1 2) d with
    | true => rfl
    | false => rw [q] at h; cases h
  have h2 : bt k.2.1 d = false := by
    cases q : bt k.2.1 d with
    | false => rfl
    | true => rw [q, h1] at h; cases h
  have e : tr.1 2 &&& ((k.2.1 ||| bs d) ^^^ (-1)) = (tr.1 2 &&& (k.2.1 ^^^ (-1))) ^^^ bs d := by
    apply b_ext
    intro i hi
    rw [b_and, b_not _ hi, b_or, b_xor, b_and, b_not _ hi]
    unfold bs
    rw [s_bit d (by omega) hi]
    by_cases q : i = d
    · subst q; rw [h1, h2]; simp
    · rw [decide_eq_false q]; simp
  have e2 : bt (tr.1 2 &&& (k.2.1 ^^^ (-1))) d = true := by
    rw [b_and, b_not _ (by omega), h1, h2]; rfl
  unfold opc
  rw [show (faK k m d).2.1 = k.2.1 ||| bs d from rfl, e]
  exact pop_clr hd e2
def QB (tr : TrS) (C1 C2 : Nat) (k : KS) : Prop := fallK k + opc tr k = C1 ∧ ∃ sp, CR sp k ∧ fallK k + pop sp.2.1 = C2
theorem QB.tilt {tr : TrS} {C1 C2 mb w : Nat} {k : KS} (h4 : mb ≤ 4) (hw : w < 4) (hV : VK k) (h : QB tr C1 C2 k) : QB tr C1 C2 (tiltK tr mb w k) := by
  refine tilt_ind (P := QB tr C1 C2) h4 hw (fun k1 k2 st st' m hm hV1 hP hs => ?_) hV h
  obtain ⟨c, d, hc, hd, hp, hb, q⟩ := step_is hm hw hV1 hs
  obtain ⟨h1, sp, h2, h3⟩ := hP
  have hni : inH (k1.1 m) = false := by rw [hp]; exact inH_c c hc
  have htc : bt sp.2.1 c = true := by
    rw [h2.2.2.2 c (by omega), decide_eq_true hc, occ_iff.mpr ⟨m, hm, hp⟩]; rfl
  have ecl : sp.2.1 &&& (bs c ^^^ (-1)) = sp.2.1 ^^^ bs c := by
    apply b_ext
    intro i hi
    unfold bs
    rw [b_clr _ c (by omega) hi, b_flip _ c (by omega) hi]
    by_cases z : i = c
    · subst z; rw [htc]; simp
    · rw [decide_eq_false z]; simp
  have hpc := pop_clr hc htc
  rcases q with ⟨ho, rfl⟩ | ⟨ho, rfl⟩
  · have hf : fallK (faK k1 m d) = fallK k1 + 1 := by
      have e := fall_upd (k := k1) (k' := faK k1 m d) hm rfl hni
      rw [inH_h d hd] at e
      exact e
    have hop := opc_fall (m := m) hd ho
    refine ⟨by omega, _, h2.fall hV1 hm hc hd hp, ?_⟩
    show fallK (faK k1 m d) + pop (sp.2.1 &&& (bs c ^^^ (-1))) = C2
    rw [ecl]
    omega
  · have hf : fallK (mvK k1 m d) = fallK k1 := by
      have e := fall_upd (k := k1) (k' := mvK k1 m d) hm rfl hni
      rw [inH_c d hd] at e
      exact e
    have hod : occ k1.1 d = false := by
      cases z : occ k1.1 d with
      | false => rfl
      | true => unfold blk at hb; rw [z] at hb; simp at hb
    have htd : bt sp.2.1 d = false := by
      rw [h2.2.2.2 d (by omega), hod]; simp
    have hcd : ¬ d = c := fun z => by subst z; rw [htc] at htd; cases htd
    have e2 : (sp.2.1 &&& (bs c ^^^ (-1))) ||| bs d = (sp.2.1 ^^^ bs c) ^^^ bs d := by
      rw [ecl]
      apply or_xor (by omega)
      unfold bs
      rw [b_flip _ c (by omega) (by omega), htd, decide_eq_false hcd]; rfl
    have htd2 : bt (sp.2.1 ^^^ bs c) d = false := by
      unfold bs
      rw [b_flip _ c (by omega) (by omega), htd, decide_eq_false hcd]; rfl
    refine ⟨?_, _, h2.move hV1 hm hc hd hp, ?_⟩
    · show fallK (mvK k1 m d) + opc tr k1 = C1
      omega
    · show fallK (mvK k1 m d) + pop ((sp.2.1 &&& (bs c ^^^ (-1))) ||| bs d) = C2
      rw [e2, pop_not hd htd2]
      omega
theorem QB.run {tr : TrS} {C1 C2 mb : Nat} (h4 : mb ≤ 4) : ∀ (r F : Nat) (k : KS), VK k → QB tr C1 C2 k → QB tr C1 C2 (runK tr mb r F k)
  | 0, _, _, _, h => h
  | r + 1, F, k, hV, h => by
    have hw : F / 4 ^ r % 4 < 4 := Nat.mod_lt _ (by omega)
    rw [runK]
    exact QB.run h4 r F _ (hV.tilt h4 hw) (h.tilt h4 hw hV)
theorem QB.le {tr : TrS} {C1 C2 : Nat} {k : KS} (h : QB tr C1 C2 k) {B : Nat} (hB : B = if C2 < C1 then C2 else C1) : fallK k ≤ B := by
  obtain ⟨h1, sp, h2, h3⟩ := h
  rw [hB]
  split <;> omega
/-- a level of the search more -/
theorem lv {tr : TrS} {mb w d : Nat} {sef : Nat → SpS} {k : KS} (hmb : tr.2.2.2.1 = nI mb) (h4 : mb ≤ 4) (hw : w < 4) (hR : CR (sef d) k) (hV : VK k) : ∃ q6 q7, tw_X4_take (sef (d + 1)) (sef d) = some q6 ∧ tw_X5_roll tr (va_up sef (d + 1) q6 (d + 1)) (nI w) = some q7 ∧ CR (va_up (va_up sef (d + 1) q6) (d + 1) q7 (d + 1)) (tiltK tr mb w k) ∧ ∀ j, j ≤ d → va_up (va_up sef (d + 1) q6) (d + 1) q7 j = sef j := by
  obtain ⟨s1, e1, e2, e3⟩ := tw_take (sef (d + 1)) (sef d)
  obtain ⟨s2, f1, f2, f3, f4⟩ := c_roll hmb h4 hw (hR.take e2 e3) hV
  refine ⟨s1, s2, e1, by rw [up_s]; exact f1, by rw [up_s]; exact f2, fun j hj => ?_⟩
  rw [up_n (by omega), up_n (by omega)]
