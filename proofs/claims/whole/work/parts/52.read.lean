/-! reading the text -/
def qi (p : Nat) : Nat := match p with
  | 0 => 4
  | 1 => 0
  | 2 => 1
  | 3 => 2
  | _ => 3
def tM (p : Nat) : Nat := match p with
  | 0 => 4
  | 1 => 6
  | 2 => 3
  | 3 => 3
  | _ => 2
def pt (x : Int32) : Option Nat := if x = 70 then some 3 else if x = 77 then some 0 else if x = 78 then some 4 else if x = 79 then some 2 else if x = 87 then some 1 else none
theorem tMost_tM : ∀ p, p < 5 → tMost p = nI (tM p) := by decide +kernel
theorem tM_le : ∀ p, p < 5 → tM p ≤ 6 := by decide +kernel
theorem qi_lt : ∀ p, p < 5 → qi p < 5 := by decide +kernel
theorem qi_inj : ∀ p, p < 5 → ∀ q, q < 5 → qi p = qi q → p = q := by decide +kernel
theorem qi_4 : ∀ p, p < 5 → p ≠ 0 → ¬ nI (qi p) = 4 := by decide +kernel
theorem qi_9 : ∀ p, p < 5 → ¬ nI (qi p) = -9 := by decide +kernel
theorem pt_lt {x : Int32} {p : Nat} (h : pt x = some p) : p < 5 := by
  unfold pt at h
  split at h
  · cases h; omega
  · split at h
    · cases h; omega
    · split at h
      · cases h; omega
      · split at h
        · cases h; omega
        · split at h
          · cases h; omega
          · cases h
def o9p (o : Option Nat) : Int32 := match o with
  | none => -9
  | some p => nI p
theorem tw_pT (x : Int32) : tw_X6_partTold x = some (o9p (pt x)) := by
  rw [tw_X6_partTold]
  unfold pt
  by_cases h1 : x = 70
  · rw [if_pos h1, if_pos h1]; rfl
  · rw [if_neg h1, if_neg h1]
    by_cases h2 : x = 77
    · rw [if_pos h2, if_pos h2]; rfl
    · rw [if_neg h2, if_neg h2]
      by_cases h3 : x = 78
      · rw [if_pos h3, if_pos h3]; rfl
      · rw [if_neg h3, if_neg h3]
        by_cases h4 : x = 79
        · rw [if_pos h4, if_pos h4]; rfl
        · rw [if_neg h4, if_neg h4]
          by_cases h5 : x = 87
          · rw [if_pos h5, if_pos h5]; rfl
          · rw [if_neg h5, if_neg h5]; rfl
def oM (rt : Nat → Int32) (o : Option Nat) : Int32 := match o with
  | none => -9
  | some p => if tM p ≤ pop (rt (qi p)) then -9 else nI (qi p)
theorem pO1 (a : Nat) (ha : a < 100) (x y : Int32) : (tw_X7_ones x).bind (fun q => if nI a ≤ q then some (-9) else some y) = some (if a ≤ pop x then -9 else y) := by
  rw [tw_ones, Option.bind_some]
  have hp := pop_le x
  by_cases h : a ≤ pop x
  · rw [if_pos h, if_pos (nI_le h (by omega))]
  · rw [if_neg h, if_neg (nI_ge (by omega) (by omega))]
theorem tw_pO (rt : Nat → Int32) (x : Int32) : tw_X7_partOf rt x = some (oM rt (pt x)) := by
  rw [tw_X7_partOf]
  unfold pt
  by_cases h1 : x = 70
  · rw [if_pos h1, if_pos h1]; exact pO1 3 (by omega) _ 2
  · rw [if_neg h1, if_neg h1]
    by_cases h2 : x = 77
    · rw [if_pos h2, if_pos h2]; exact pO1 4 (by omega) _ 4
    · rw [if_neg h2, if_neg h2]
      by_cases h3 : x = 78
      · rw [if_pos h3, if_pos h3]; exact pO1 2 (by omega) _ 3
      · rw [if_neg h3, if_neg h3]
        by_cases h4 : x = 79
        · rw [if_pos h4, if_pos h4]; exact pO1 3 (by omega) _ 1
        · rw [if_neg h4, if_neg h4]
          by_cases h5 : x = 87
          · rw [if_pos h5, if_pos h5]; exact pO1 6 (by omega) _ 0
          · rw [if_neg h5, if_neg h5]; rfl
/-- draft and what the reference has read are alike -/
def DR (df : TrS) (rt rc rk : Nat → Int32) (mb : Nat) : Prop := df.2.2.2.1 = nI mb ∧ mb ≤ 4 ∧ pop (df.1 0) = mb ∧ (∀ p, p < 5 → rt (qi p) = df.1 p) ∧ (∀ p, p < 5 → ∀ c, 25 ≤ c → bt (df.1 p) c = false) ∧ (∀ c, c < 25 → bt df.2.2.2.2 c = nearB (df.1 4) c) ∧ (∀ j, j < mb → rc j = df.2.2.1 j ∧ rk j = df.2.1 j) ∧ (∀ c, c < 25 → (bt (df.1 0) c = true ↔ ∃ j, j < mb ∧ df.2.2.1 j = nI c)) ∧ (∀ j, j < mb → ∃ c, c < 25 ∧ df.2.2.1 j = nI c) ∧ ∀ i j, i < mb → j < mb → i ≠ j → ¬ df.2.2.1 i = df.2.2.1 j
def unt (df : TrS) (c : Nat) : Bool := !bt (df.1 0) c && plB df c
theorem tw_unt {df : TrS} {c : Nat} (hc : c < 25) : tw_X5_isUntold df (nI c) = some (b1 (unt df c)) := by
  rw [tw_X5_isUntold, t0, tw_bitOf _ c (by omega), Option.bind_some, tw_plain hc, Option.bind_some]
  unfold unt
  cases bt (df.1 0) c <;> cases plB df c <;> rfl
theorem tw_room {df : TrS} {p : Nat} (hp : p < 5) (h : ∀ c, 25 ≤ c → bt (df.1 p) c = false) : tw_X5_hasRoom df (nI p) = some (b1 (decide (pop (df.1 p) < tM p))) := by
  have hq := pop_le (df.1 p)
  have ht := tM_le p hp
  rw [tw_X5_hasRoom, if_pos (ix_nI hp (by omega)), nI_clamp (by omega), tw_bitCount h, Option.bind_some, if_pos (ix_nI hp (by omega)), tMost_tM p hp]
  by_cases hl : pop (df.1 p) < tM p
  · rw [if_neg (nI_ge hl (by omega)), decide_eq_true hl]; rfl
  · rw [if_pos (nI_le (by omega) (by omega)), decide_eq_false hl]; rfl
theorem m_all {df : TrS} {rt rc rk : Nat → Int32} {mb c : Nat} (h : DR df rt rc rk mb) : bt ((((rt 0 ||| rt 1) ||| rt 2) ||| rt 3) ||| rt 4) c = !unt df c := by
  have e := h.2.2.2.1
  rw [show rt 0 = df.1 1 from e 1 (by omega), show rt 1 = df.1 2 from e 2 (by omega), show rt 2 = df.1 3 from e 3 (by omega), show rt 3 = df.1 4 from e 4 (by omega), show rt 4 = df.1 0 from e 0 (by omega), b_or, b_or, b_or, b_or]
  unfold unt plB
  cases bt (df.1 0) c <;> cases bt (df.1 1) c <;> cases bt (df.1 2) c <;> cases bt (df.1 3) c <;> cases bt (df.1 4) c <;> rfl
/-! drawAround -/
def dr1 (c w : Nat) (x : Int32) : Int32 := match nxt c w with
  | none => x
  | some d => x ||| bs d
theorem dr1_bit {c w e : Nat} (x : Int32) (hc : c < 25) (hw : w < 4) (he : e < 25) : bt (dr1 c w x) e = (bt x e || decide (nxt c w = some e)) := by
  unfold dr1
  cases h : nxt c w with
  | none => simp
  | some d =>
    have hd := nxt_lt hc hw h
    show bt (x ||| bs d) e = _
    unfold bs
    rw [b_set x d (by omega) (by omega)]
    congr 1
    apply decide_eq_decide.mpr
    constructor
    · intro q; rw [q]
    · intro q; cases q; rfl
theorem dr_sym : ∀ c, c < 25 → ∀ e, e < 25 → (decide (nxt c 0 = some e) || decide (nxt c 1 = some e) || decide (nxt c 2 = some e) || decide (nxt c 3 = some e)) = (decide (nxt e 0 = some c) || decide (nxt e 1 = some c) || decide (nxt e 2 = some c) || decide (nxt e 3 = some c)) := by decide +kernel
def nb1 (x : Int32) (o : Option Nat) : Bool := match o with
  | none => false
  | some d => bt x d
theorem near_eq (x : Int32) (e : Nat) : nearB x e = ((((false || nb1 x (nxt e 0)) || nb1 x (nxt e 1)) || nb1 x (nxt e 2)) || nb1 x (nxt e 3)) := rfl
theorem near_bit {x : Int32} {c e : Nat} (hc : c < 25) (he : e < 25) : nearB (x ||| bs c) e = (nearB x e || (decide (nxt e 0 = some c) || decide (nxt e 1 = some c) || decide (nxt e 2 = some c) || decide (nxt e 3 = some c))) := by
  have st : ∀ w, w < 4 → nb1 (x ||| bs c) (nxt e w) = (nb1 x (nxt e w) || decide (nxt e w = some c)) := by
    intro w hw
    cases h : nxt e w with
    | none => simp [nb1]
    | some d =>
      have hd := nxt_lt he hw h
      show bt (x ||| bs c) d = (bt x d || _)
      unfold bs
      rw [b_set x c (by omega) (by omega)]
      congr 1
      apply decide_eq_decide.mpr
      constructor
      · intro q; rw [q]
      · intro q; cases q; rfl
  rw [near_eq, near_eq, st 0 (by omega), st 1 (by omega), st 2 (by omega), st 3 (by omega)]
  generalize nb1 x (nxt e 0) = a0
  generalize nb1 x (nxt e 1) = a1
  generalize nb1 x (nxt e 2) = a2
  generalize nb1 x (nxt e 3) = a3
  generalize decide (nxt e 0 = some c) = d0
  generalize decide (nxt e 1 = some c) = d1
  generalize decide (nxt e 2 = some c) = d2
  generalize decide (nxt e 3 = some c) = d3
  revert a0 a1 a2 a3 d0 d1 d2 d3
  decide
theorem da_step {c w : Nat} (hc : c < 25) (hw : w < 4) (n : Nat) (tr : TrS) : tw_X5_drawAround_2 (nI c) (n + 1) (nI w) tr = tw_X5_drawAround_2 (nI c) n (nI (w + 1)) (tr.1, tr.2.1, tr.2.2.1, tr.2.2.2.1, dr1 c w tr.2.2.2.2) := by
  rw [tw_X5_drawAround_2, if_neg (show ¬ (4 : Int32) ≤ nI w from nI_ge (b := 4) hw (by omega)), tw_nextCell c hc w hw, Option.bind_some, nI_1]
  unfold dr1
  cases h : nxt c w with
  | none => rw [if_pos (show o1 none = -1 from rfl)]
  | some d =>
    have hd := nxt_lt hc hw h
    rw [if_neg (show ¬ o1 (some d) = -1 from o1_m d hd)]
    rfl
theorem tw_drawAround {c : Nat} (hc : c < 25) (tr : TrS) : tw_X5_drawAround tr (nI c) = some (tr.1, tr.2.1, tr.2.2.1, tr.2.2.2.1, dr1 c 3 (dr1 c 2 (dr1 c 1 (dr1 c 0 tr.2.2.2.2)))) := by
  show tw_X5_drawAround_2 (nI c) 5 (nI 0) tr = _
  rw [da_step hc (by omega), da_step hc (by omega), da_step hc (by omega), da_step hc (by omega), tw_X5_drawAround_2, if_pos (by decide)]
theorem da_near {c e : Nat} {x y : Int32} (hc : c < 25) (he : e < 25) (h : bt y e = nearB x e) : bt (dr1 c 3 (dr1 c 2 (dr1 c 1 (dr1 c 0 y)))) e = nearB (x ||| bs c) e := by
  rw [dr1_bit _ hc (by omega) he, dr1_bit _ hc (by omega) he, dr1_bit _ hc (by omega) he, dr1_bit _ hc (by omega) he, near_bit hc he, ← dr_sym c hc e he, h]
  cases nearB x e <;> simp
theorem told_u {f g : Nat → Int32} {p c : Nat} (hp : p < 5) (h : ∀ q, q < 5 → f (qi q) = g q) : ∀ q, q < 5 → upd f (qi p) (f (qi p) ||| bs c) (qi q) = upd g p (g p ||| bs c) q := by
  intro q hq
  by_cases e : q = p
  · subst e; rw [pk_us, pk_us, h q hq]
  · rw [pk_un (fun z => e (qi_inj q hq p hp z)), pk_un e, h q hq]
theorem told_b {g : Nat → Int32} {p c : Nat} (hc : c < 25) (h : ∀ q, q < 5 → ∀ e, 25 ≤ e → bt (g q) e = false) : ∀ q, q < 5 → ∀ e, 25 ≤ e → bt (upd g p (g p ||| bs c) q) e = false := by
  intro q hq e he
  by_cases z : q = p
  · subst z
    rw [pk_us]
    rcases Nat.lt_or_ge e 32 with h1 | h1
    · unfold bs
      rw [b_set _ c (by omega) h1, h q hq e he, decide_eq_false (by omega)]; rfl
    · exact b_big h1
  · rw [pk_un z]; exact h q hq e he
theorem pop_set {x : Int32} {c : Nat} (hc : c < 25) (h : bt x c = false) : pop (x ||| bs c) = pop x + 1 := by
  rw [or_xor (by omega) h, pop_flip hc, h]; rfl
theorem unt_0 {df : TrS} {c : Nat} (h : unt df c = true) : bt (df.1 0) c = false := by
  unfold unt at h
  cases q : bt (df.1 0) c with
  | false => rfl
  | true => rw [q] at h; cases h
theorem DR.tell {df : TrS} {rt rc rk : Nat → Int32} {mb p c : Nat} (h : DR df rt rc rk mb) (hp : p < 5) (hp0 : p ≠ 0) (hc : c < 25) (kd : Int32) : ∃ df', tw_X5_tell df (nI p) (nI c) kd = some df' ∧ DR df' (upd rt (qi p) (rt (qi p) ||| bs c)) rc rk mb := by
  obtain ⟨h1, h2, h3, h4, h5, h6, h7, h8, h9, h10⟩ := h
  have e0 : upd df.1 p (df.1 p ||| bs c) 0 = df.1 0 := pk_un (Ne.symm hp0)
  rw [tw_X5_tell, if_pos (ix_nI hp (by omega)), if_pos (ix_nI hp (by omega)), if_neg (nI_ne0 (by omega) (by omega)), nI_clamp (by omega), tw_X5_tell_54]
  by_cases h44 : p = 4
  · subst h44
    rw [if_pos (show nI 4 = 4 from rfl), tw_drawAround hc, Option.bind_some]
    refine ⟨_, rfl, h1, h2, ?_, told_u hp h4, told_b hc h5, fun e he => ?_, h7, fun e he => ?_, h9, h10⟩
    · show pop (upd df.1 4 (df.1 4 ||| bs c) 0) = mb
      rw [e0]; exact h3
    · show bt (dr1 c 3 (dr1 c 2 (dr1 c 1 (dr1 c 0 df.2.2.2.2)))) e = nearB (upd df.1 4 (df.1 4 ||| bs c) 4) e
      rw [pk_us]
      exact da_near hc he (h6 e he)
    · show bt (upd df.1 4 (df.1 4 ||| bs c) 0) e = true ↔ _
      rw [e0]; exact h8 e he
  · rw [if_neg (show ¬ nI p = 4 from fun q => h44 ((nI_eq (a := p) (b := 4) (by omega) (by omega)).mp q))]
    refine ⟨_, rfl, h1, h2, ?_, told_u hp h4, told_b hc h5, fun e he => ?_, h7, fun e he => ?_, h9, h10⟩
    · show pop (upd df.1 p (df.1 p ||| bs c) 0) = mb
      rw [e0]; exact h3
    · show bt df.2.2.2.2 e = nearB (upd df.1 p (df.1 p ||| bs c) 4) e
      rw [pk_un (Ne.symm h44)]
      exact h6 e he
    · show bt (upd df.1 p (df.1 p ||| bs c) 0) e = true ↔ _
      rw [e0]; exact h8 e he
theorem DR.tell0 {df : TrS} {rt rc rk : Nat → Int32} {mb c : Nat} (h : DR df rt rc rk mb) (hm : mb < 4) (hc : c < 25) (hu : bt (df.1 0) c = false) (kd : Int32) : ∃ df', tw_X5_tell df (nI 0) (nI c) kd = some df' ∧ DR df' (upd rt 4 (rt 4 ||| bs c)) (upd rc mb (nI c)) (upd rk mb kd) (mb + 1) := by
  obtain ⟨h1, h2, h3, h4, h5, h6, h7, h8, h9, h10⟩ := h
  have hn : ∀ j, j < mb → ¬ df.2.2.1 j = nI c := fun j hj q => by
    rw [(h8 c hc).mpr ⟨j, hj, q⟩] at hu; cases hu
  rw [tw_X5_tell, if_pos (by decide), if_pos (by decide), if_pos (show nI 0 = 0 from rfl), h1, if_neg (show ¬ (4 : Int32) ≤ nI mb from nI_ge (b := 4) hm (by omega)), if_pos (ix_nI hm (by omega)), if_pos (ix_nI hm (by omega)), tw_X5_tell_54, if_neg (by decide), nI_clamp (by omega), nI_clamp (by omega), nI_1]
  refine ⟨_, rfl, rfl, by omega, ?_, told_u (p := 0) (by omega) h4, told_b hc h5, fun e he => ?_, fun j hj => ?_, fun e he => ?_, fun j hj => ?_, fun i j hi hj hij => ?_⟩
  · show pop (upd df.1 0 (df.1 0 ||| bs c) 0) = mb + 1
    rw [pk_us, pop_set hc hu, h3]
  · show bt df.2.2.2.2 e = nearB (upd df.1 0 (df.1 0 ||| bs c) 4) e
    rw [pk_un (by omega)]
    exact h6 e he
  · show upd rc mb (nI c) j = upd df.2.2.1 mb (nI c) j ∧ upd rk mb kd j = upd df.2.1 mb kd j
    by_cases q : j = mb
    · subst q; rw [pk_us, pk_us, pk_us, pk_us]; exact ⟨rfl, rfl⟩
    · rw [pk_un q, pk_un q, pk_un q, pk_un q]; exact h7 j (by omega)
  · show bt (upd df.1 0 (df.1 0 ||| bs c) 0) e = true ↔ ∃ j, j < mb + 1 ∧ upd df.2.2.1 mb (nI c) j = nI e
    rw [pk_us]
    unfold bs
    rw [b_set _ c (by omega) (by omega), Bool.or_eq_true, decide_eq_true_eq, h8 e he]
    constructor
    · rintro (⟨j, hj, q⟩ | q)
      · exact ⟨j, by omega, by rw [pk_un (by omega)]; exact q⟩
      · subst q; exact ⟨mb, by omega, pk_us⟩
    · rintro ⟨j, hj, q⟩
      by_cases z : j = mb
      · subst z
        rw [pk_us, nI_inj hc he] at q
        exact Or.inr q.symm
      · rw [pk_un z] at q
        exact Or.inl ⟨j, by omega, q⟩
  · show ∃ e, e < 25 ∧ upd df.2.2.1 mb (nI c) j = nI e
    by_cases z : j = mb
    · subst z; exact ⟨c, hc, pk_us⟩
    · rw [pk_un z]; exact h9 j (by omega)
  · show ¬ upd df.2.2.1 mb (nI c) i = upd df.2.2.1 mb (nI c) j
    by_cases z : i = mb
    · subst z
      rw [pk_us, pk_un (Ne.symm hij)]
      exact fun q => hn j (by omega) q.symm
    · rw [pk_un z]
      by_cases y : j = mb
      · subst y
        rw [pk_us]
        exact hn i (by omega)
      · rw [pk_un y]
        exact h10 i j (by omega) (by omega) hij
/-! what stands behind a part's letter -/
def rpO (g : Nat → Int32) (n v : Nat) (u : Nat → Bool) (p : Nat) : Sum Nat (Nat × Int32) :=
  if v + 1 < n then (match cel (g (v + 1) - 97) with
    | none => Sum.inl (v + 1)
    | some c => if u c = true then (if p = 0 then (if v + 2 < n then (if ix (g (v + 2) - 48) 4 = true then Sum.inr (c, g (v + 2) - 48) else Sum.inl (v + 2)) else Sum.inl (v + 2)) else Sum.inr (c, 0)) else Sum.inl (v + 1))
  else Sum.inl (v + 1)
theorem rg_lt {α : Type} (x : Int32) (A B : α) : (if x < 0 then A else if x < 4 then B else A) = if ix x 4 = true then B else A := by
  rw [← rg_if x 4 (by omega) A B]
  by_cases h : x < 0
  · rw [if_pos h, if_pos h]
  · rw [if_neg h, if_neg h]
    by_cases h2 : x < 4
    · rw [if_pos h2, if_neg (show ¬ nI 4 ≤ x from Int32.not_le.mpr h2)]
    · rw [if_neg h2, if_pos (show nI 4 ≤ x from Int32.not_lt.mp h2)]
theorem c_rp {tx : Nat → Int32} {df : TrS} {n v p : Nat} (hn : n ≤ 48) (hv : v < n) (hp : p < 5) (L : Int32) (hL : L = nI (if p = 0 then v + 2 else v + 1)) : tw_X6_readPart tx df (nI n) (nI p) (nI (v + 1)) L = match rpO tx n v (unt df) p with
    | Sum.inl r => some (nI r, df)
    | Sum.inr q => (tw_X5_tell df (nI p) (nI q.1) q.2).bind (fun d => some (-9, d)) := by
  rw [tw_X6_readPart]
  unfold rpO
  by_cases h1 : v + 1 < n
  · rw [if_pos (nI_lt h1 (by omega)), if_pos (ix_nI (by omega) (by omega)), nI_clamp (by omega), tw_isCell, Option.bind_some, if_pos h1]
    unfold cel
    by_cases hc : ix (tx (v + 1) - 97) 25 = true
    · obtain ⟨c, hc5, e⟩ := ix_of hc (by omega)
      rw [if_pos hc, hc, if_neg (b1_ne rfl), e, tw_unt hc5, Option.bind_some, nI_clamp (n := c) (by omega)]
      dsimp only
      cases hu : unt df c with
      | false => rfl
      | true =>
        rw [if_neg (b1_ne rfl), if_pos rfl]
        by_cases h0 : p = 0
        · rw [show L = nI (v + 2) by rw [hL, if_pos h0], if_pos h0, if_neg (show ¬ nI (v + 2) ≤ nI (v + 1) from nI_ge (by omega) (by omega))]
          by_cases h2 : v + 2 < n
          · rw [if_pos (nI_lt h2 (by omega)), if_pos (ix_nI (by omega) (by omega)), nI_clamp (by omega), if_pos h2, rg_lt]
            by_cases h3 : ix (tx (v + 2) - 48) 4 = true
            · rw [if_pos h3, if_pos h3]; rfl
            · rw [if_neg h3, if_neg h3]
          · rw [if_neg (nI_nlt (by omega) (by omega)), if_neg h2]
            have : n = v + 2 := by omega
            rw [this]
        · rw [show L = nI (v + 1) by rw [hL, if_neg h0], if_neg h0, if_pos (nI_le (by omega) (by omega))]
          rfl
    · rw [if_neg hc, ix_f hc]
      rfl
  · rw [if_neg (nI_nlt (by omega) (by omega)), if_neg h1]
    have : n = v + 1 := by omega
    rw [this]
theorem m_rp {df : TrS} {mx rt rc rk : Nat → Int32} {n v p mb : Nat} (hD : DR df rt rc rk mb) (hn : n ≤ 48) (hv : v < n) (hp : p < 5) (hr : p = 0 → mb < 4) (f : Int32) : tw_X7_readPart rt rc rk mx (nI n) (nI v) f (nI (qi p)) = match rpO mx n v (unt df) p with
    | Sum.inl r => some (rt, rc, rk, nI v, nI r)
    | Sum.inr q => if p = 0 then some (upd rt 4 (rt 4 ||| bs q.1), upd rc mb (nI q.1), upd rk mb q.2, nI (v + 3), f) else some (upd rt (qi p) (rt (qi p) ||| bs q.1), rc, rk, nI (v + 2), f) := by
  have h82 : ∀ x2, tw_X7_readPart_82 mx (nI n) (nI (qi p)) x2 (-9) rt rc rk (nI v) f = some (rt, rc, rk, nI v, nI v + 1) := by
    intro x2
    rw [tw_X7_readPart_82, show tw_X7_in (-9 : Int32).toInt64 0 24 = some 0 from by decide +kernel, Option.bind_some, if_pos rfl, tw_X7_readPart_103]
  rw [tw_X7_readPart, if_neg (qi_9 p hp)]
  simp only [nm]
  rw [h82, nI_1]
  unfold rpO
  by_cases h1 : v + 1 < n
  · rw [if_neg (nI_ge h1 (by omega)), if_pos (ix_nI (by omega) (by omega)), nI_clamp (by omega), if_pos h1, tw_X7_readPart_82, tw_in _ 25 24 (by decide), Option.bind_some, tw_X7_readPart_103, nI_1]
    unfold cel
    by_cases hc : ix (mx (v + 1) - 97) 25 = true
    · obtain ⟨c, hc5, e⟩ := ix_of hc (by omega)
      rw [if_pos hc, hc, if_neg (b1_ne rfl), e, t0, t1, t2, t3, t4, tw_has _ c (by omega), Option.bind_some, m_all hD, nI_clamp (by omega)]
      dsimp only
      cases hu : unt df c with
      | false => rfl
      | true =>
        rw [if_pos (show b1 (!true) = 0 from rfl), if_pos rfl]
        by_cases h0 : p = 0
        · subst h0
          have hmb : pop (rt 4) = mb := by rw [show rt 4 = df.1 0 from hD.2.2.2.1 0 (by omega)]; exact hD.2.2.1
          rw [if_pos (show nI (qi 0) = 4 from rfl), if_pos rfl, show nI v + 2 = nI (v + 2) from nI_add v 2]
          have e215 : ∀ (rc1 rk1 : Nat → Int32), tw_X7_readPart_215 mx (nI n) (nI (qi 0)) (nI c) rt rc1 rk1 (nI (v + 1)) f = some (upd rt 4 (rt 4 ||| bs c), rc1, rk1, nI (v + 3), f) := by
            intro rc1 rk1
            rw [tw_X7_readPart_215, if_pos (by decide), if_pos (by decide), show nI (v + 1) + 2 = nI (v + 3) from nI_add (v + 1) 2]
            rfl
          by_cases h2 : v + 2 < n
          · rw [if_neg (nI_ge h2 (by omega)), if_pos (ix_nI (by omega) (by omega)), nI_clamp (by omega), if_pos h2, tw_X7_readPart_151, tw_in _ 4 3 (by decide), Option.bind_some, t4, tw_ones, Option.bind_some, hmb, if_pos (ix_nI (hr rfl) (by omega)), if_pos (ix_nI (hr rfl) (by omega)), nI_clamp (by omega), nI_1, e215, show nI v + 2 = nI (v + 2) from nI_add v 2]
            by_cases h3 : ix (mx (v + 2) - 48) 4 = true
            · rw [if_pos h3, h3]; rfl
            · rw [if_neg h3, ix_f h3]; rfl
          · rw [if_pos (nI_le (by omega) (by omega)), if_neg h2, tw_X7_readPart_151, show tw_X7_in (-9 : Int32).toInt64 0 3 = some 0 from by decide +kernel, Option.bind_some, if_pos rfl, show nI v + 2 = nI (v + 2) from nI_add v 2]
        · rw [if_neg (qi_4 p hp h0), if_neg h0, tw_X7_readPart_215, if_pos (ix_nI (qi_lt p hp) (by omega)), if_pos (ix_nI (qi_lt p hp) (by omega)), nI_clamp (by have := qi_lt p hp; omega), show nI v + 2 = nI (v + 2) from nI_add v 2]
          dsimp only
          rw [if_neg h0]
          rfl
    · rw [if_neg hc, ix_f hc]
      rfl
  · rw [if_pos (nI_le (by omega) (by omega)), if_neg h1]
theorem rpO_cong {g h : Nat → Int32} {n v p : Nat} {u : Nat → Bool} (e : ∀ j, j < n → g j = h j) : rpO g n v u p = rpO h n v u p := by
  unfold rpO
  by_cases h1 : v + 1 < n
  · rw [if_pos h1, if_pos h1, e (v + 1) h1]
    by_cases h2 : v + 2 < n
    · rw [e (v + 2) h2]
    · simp only [if_neg h2]
  · rw [if_neg h1, if_neg h1]
theorem rpO_l {g : Nat → Int32} {n v p r : Nat} {u : Nat → Bool} (h : rpO g n v u p = Sum.inl r) : r ≤ v + 2 := by
  unfold rpO at h
  split at h
  · split at h
    · cases h; omega
    · split at h
      · split at h
        · split at h
          · split at h
            · cases h
            · cases h; omega
          · cases h; omega
        · cases h
      · cases h; omega
  · cases h; omega
theorem rpO_r {g : Nat → Int32} {n v p c : Nat} {kd : Int32} {u : Nat → Bool} (h : rpO g n v u p = Sum.inr (c, kd)) : c < 25 ∧ u c = true ∧ (if p = 0 then v + 2 else v + 1) < n := by
  unfold rpO at h
  by_cases h1 : v + 1 < n
  · rw [if_pos h1] at h
    unfold cel at h
    by_cases h2 : ix (g (v + 1) - 97) 25 = true
    · obtain ⟨d, hd, e⟩ := ix_of h2 (by omega)
      rw [if_pos h2, e, nI_clamp (by omega)] at h
      dsimp only at h
      cases hu : u d with
      | false => rw [hu, if_neg (by decide)] at h; cases h
      | true =>
        rw [hu, if_pos rfl] at h
        by_cases h0 : p = 0
        · rw [if_pos h0] at h
          by_cases h3 : v + 2 < n
          · rw [if_pos h3] at h
            by_cases h4 : ix (g (v + 2) - 48) 4 = true
            · rw [if_pos h4] at h
              cases h
              rw [if_pos h0]
              exact ⟨hd, hu, h3⟩
            · rw [if_neg h4] at h; cases h
          · rw [if_neg h3] at h; cases h
        · rw [if_neg h0] at h
          cases h
          rw [if_neg h0]
          exact ⟨hd, hu, h1⟩
    · rw [if_neg h2] at h; cases h
  · rw [if_neg h1] at h; cases h
theorem nI_9 {r : Nat} (h : r < 1000) : ¬ nI r = -9 := fun q => by
  have h1 := congrArg Int32.toInt q
  rw [nI_toInt (by omega)] at h1
  have h2 : (-9 : Int32).toInt = -9 := by decide
  omega
theorem rd_loop {tx mx : Nat → Int32} {n : Nat} (hn : n ≤ 48) (hx : ∀ j, j < n → tx j = mx j) : ∀ (f v mb : Nat) (df : TrS) (rt rc rk : Nat → Int32), v ≤ n → n - v < f → DR df rt rc rk mb → ∃ (r : Int32) (df' : TrS) (rt' rc' rk' : Nat → Int32) (a' : Int32), tw_X6_readText_29 tx (nI n) f (nI v) df = some (r, df') ∧ tw_X7_readText_56 mx (nI n) f rt rc rk (nI v) (-9) = some (r, rt', rc', rk', a', r) ∧ (r = -9 → ∃ mb', DR df' rt' rc' rk' mb') := by
  intro f
  induction f with
  | zero => intro v mb df rt rc rk h1 h2; omega
  | succ f ih =>
    intro v mb df rt rc rk h1 h2 hD
    rw [tw_X6_readText_29, tw_X7_readText_56, if_pos (show (-9 : Int32) = -9 from rfl)]
    by_cases hv : v = n
    · subst hv
      rw [if_pos (nI_le (Nat.le_refl _) (by omega)), if_pos (nI_le (Nat.le_refl _) (by omega))]
      exact ⟨_, _, _, _, _, _, rfl, rfl, fun _ => ⟨mb, hD⟩⟩
    · have hvn : v < n := by omega
      have flt : ∀ (r : Nat), r < 1000 → ∀ (rt rc rk : Nat → Int32) (a : Int32), tw_X7_readText_56 mx (nI n) f rt rc rk a (nI r) = some (nI r, rt, rc, rk, a, nI r) := by
        intro r hr rt rc rk a
        obtain ⟨g, rfl⟩ : ∃ g, f = g + 1 := ⟨f - 1, by omega⟩
        rw [tw_X7_readText_56, if_neg (nI_9 hr)]
      rw [if_neg (nI_ge hvn (by omega)), if_neg (nI_ge hvn (by omega)), if_pos (ix_nI (by omega) (by omega)), if_pos (ix_nI (by omega) (by omega)), nI_clamp (by omega), hx v hvn, tw_pT, Option.bind_some, tw_pO, Option.bind_some]
      cases hq : pt (mx v) with
      | none =>
        rw [if_pos (show o9p none < 0 by decide), show oM rt none = -9 from rfl, tw_X7_readPart, if_pos rfl, Option.bind_some, flt v (by omega)]
        exact ⟨_, _, _, _, _, _, rfl, rfl, fun q => absurd q (nI_9 (by omega))⟩
      | some p =>
        have hp := pt_lt hq
        have h5 := hD.2.2.2.2.1 p hp
        rw [if_neg (show ¬ o9p (some p) < 0 from nI_pos (by omega)), show o9p (some p) = nI p from rfl, tw_room hp h5, Option.bind_some]
        have e4 := hD.2.2.2.1 p hp
        by_cases hr : pop (df.1 p) < tM p
        · rw [decide_eq_true hr, if_neg (b1_ne rfl), show oM rt (some p) = nI (qi p) from if_neg (by rw [e4]; omega)]
          have hcl : (if nI p = 0 then tw_X6_readText_77 tx (nI n) (tw_X6_readText_29 tx (nI n) f) (nI v) (nI p) (nI v + 2) df else tw_X6_readText_77 tx (nI n) (tw_X6_readText_29 tx (nI n) f) (nI v) (nI p) (nI v + 1) df) = (tw_X6_readPart tx df (nI n) (nI p) (nI (v + 1)) (nI (if p = 0 then v + 2 else v + 1))).bind (fun q1 => if q1.1 = (-9) then (tw_X6_readText_29 tx (nI n) f (nI ((if p = 0 then v + 2 else v + 1) + 1)) q1.2) else (some (q1.1, q1.2))) := by
            by_cases h0 : p = 0
            · rw [if_pos h0, if_pos (by rw [h0]; rfl), tw_X6_readText_77, nI_1, show nI v + 2 = nI (v + 2) from nI_add v 2, nI_1]
            · rw [if_neg h0, if_neg (nI_ne0 (by omega) (by omega)), tw_X6_readText_77, nI_1, nI_1]
          have hr0 : p = 0 → mb < 4 := fun q => by
            subst q
            have := hD.2.2.1
            have h9 : tM 0 = 4 := rfl
            omega
          rw [hcl, c_rp hn hvn hp _ rfl, m_rp hD hn hvn hp hr0, rpO_cong hx]
          cases ho : rpO mx n v (unt df) p with
          | inl r =>
            have hr2 := rpO_l ho
            dsimp only
            rw [Option.bind_some, Option.bind_some, if_neg (nI_9 (by omega)), flt r (by omega)]
            exact ⟨_, _, _, _, _, _, rfl, rfl, fun q => absurd q (nI_9 (by omega))⟩
          | inr q =>
            obtain ⟨c, kd⟩ := q
            obtain ⟨hc, hu, hl⟩ := rpO_r ho
            dsimp only
            by_cases h0 : p = 0
            · subst h0
              obtain ⟨df', d1, d2⟩ := hD.tell0 (hr0 rfl) hc (unt_0 hu) kd
              rw [d1, Option.bind_some, Option.bind_some, if_pos rfl, if_pos rfl, if_pos rfl, Option.bind_some]
              rw [if_pos rfl] at hl
              exact ih (v + 3) (mb + 1) df' _ _ _ (by omega) (by omega) d2
            · obtain ⟨df', d1, d2⟩ := hD.tell hp h0 hc kd
              rw [d1, Option.bind_some, Option.bind_some, if_pos rfl, if_neg h0, if_neg h0, Option.bind_some]
              rw [if_neg h0] at hl
              exact ih (v + 2) mb df' _ _ _ (by omega) (by omega) d2
        · rw [decide_eq_false hr, if_pos (show b1 false = 0 by decide), show oM rt (some p) = -9 from if_pos (by rw [e4]; omega), tw_X7_readPart, if_pos rfl, Option.bind_some, flt v (by omega)]
          exact ⟨_, _, _, _, _, _, rfl, rfl, fun q => absurd q (nI_9 (by omega))⟩
def clr (f : Nat → Int32) : Nat → Int32 := upd (upd (upd (upd (upd f 0 0) 1 0) 2 0) 3 0) 4 0
theorem clr_0 (f : Nat → Int32) : ∀ p, p < 5 → clr f p = 0 := by
  intro p hp
  unfold clr
  simp only [upd]
  rcases (show p = 0 ∨ p = 1 ∨ p = 2 ∨ p = 3 ∨ p = 4 by omega) with rfl | rfl | rfl | rfl | rfl <;> simp
theorem pop_0 : pop 0 = 0 := by decide +kernel
theorem near_0 : ∀ c, c < 25 → nearB 0 c = false := by decide +kernel
theorem DR.start (f k s rt rc rk : Nat → Int32) : DR (clr f, k, s, 0, 0) (clr rt) rc rk 0 := by
  refine ⟨rfl, by omega, ?_, fun p hp => ?_, fun p hp c hc => ?_, fun c hc => ?_, fun j hj => by omega, fun c hc => ?_, fun j hj => by omega, fun i j hi => by omega⟩
  · show pop (clr f 0) = 0
    rw [clr_0 f 0 (by omega), pop_0]
  · show clr rt (qi p) = clr f p
    rw [clr_0 f p hp, clr_0 rt _ (qi_lt p hp)]
  · show bt (clr f p) c = false
    rw [clr_0 f p hp, b_0]
  · show bt 0 c = nearB (clr f 4) c
    rw [clr_0 f 4 (by omega), b_0, near_0 c hc]
  · show bt (clr f 0) c = true ↔ _
    rw [clr_0 f 0 (by omega), b_0]
    constructor
    · intro q; cases q
    · rintro ⟨j, hj, _⟩; omega
theorem s_read {tx mx : Nat → Int32} {le ml : Int32} {n : Nat} (hX : TXR tx le mx ml n) (df : TrS) (rt rc rk : Nat → Int32) (a0 f0 : Int32) : ∃ (r : Int32) (df' : TrS) (rt' rc' rk' : Nat → Int32) (a' f' : Int32), tw_X6_readText tx df le = some (r, df') ∧ tw_X7_readText rt rc rk mx ml a0 f0 = some (r, rt', rc', rk', a', f') ∧ (r = -9 → ∃ mb', DR df' rt' rc' rk' mb') := by
  obtain ⟨h1, h2, h3, h4⟩ := hX
  rw [tw_X6_readText, tw_X5_clear, Option.bind_some, tw_X7_readText, h1, h2, t0, t1, t2, t3, t4]
  by_cases h0 : n = 0
  · subst h0
    rw [if_pos (show nI 0 = 0 from rfl), if_pos (show nI 0 = 0 from rfl)]
    exact ⟨_, _, _, _, _, _, _, rfl, rfl, fun q => absurd q (by decide)⟩
  · rw [if_neg (nI_ne0 (by omega) (by omega)), if_neg (nI_ne0 (by omega) (by omega)), h4 0 (by omega)]
    by_cases hT : mx 0 = 84
    · rw [if_pos hT, if_pos hT]
      obtain ⟨r, df', rt', rc', rk', a', e1, e2, e3⟩ := rd_loop h3 h4 60 1 0 (clr df.1, df.2.1, df.2.2.1, 0, 0) (clr rt) rc rk (by omega) (by omega) (DR.start _ _ _ _ _ _)
      exact ⟨r, df', rt', rc', rk', a', r, e1, e2, e3⟩
    · rw [if_neg hT, if_neg hT]
      exact ⟨_, _, _, _, _, _, _, rfl, rfl, fun q => absurd q (by decide)⟩
theorem s_fault {tx mx : Nat → Int32} {le ml : Int32} {n : Nat} (hX : TXR tx le mx ml n) (df : TrS) (rt rc rk : Nat → Int32) (a0 f0 : Int32) : ∃ (r : Int32) (df' : TrS) (rt' rc' rk' : Nat → Int32) (a' f' : Int32), tw_X6_fault tx df le = some (r, df') ∧ tw_X7_fault rt rc rk mx ml a0 f0 = some (r, rt', rc', rk', a', f') := by
  obtain ⟨r, df', rt', rc', rk', a', f', e1, e2, _⟩ := s_read hX df rt rc rk a0 f0
  exact ⟨r, df', rt', rc', rk', a', f', by rw [tw_X6_fault, e1]; rfl, by rw [tw_X7_fault, e2]; rfl⟩
