/-! fractions -/
theorem rem_half {y r j : Nat} (h0 : 0 < r) (h1 : r < y) (hy : y < 2 ^ (j + 1)) : y % r < 2 ^ j := by
  have a1 := Nat.mod_lt y h0
  have a2 := Nat.mod_add_div y r
  have a3 : 1 ≤ y / r := (Nat.one_le_div_iff h0).mpr (by omega)
  have a4 : r * 1 ≤ r * (y / r) := Nat.mul_le_mul_left r a3
  rw [Nat.pow_succ] at hy
  omega
theorem c_gcd (p1 p2 p3 : Int32) : ∀ (j x y t f : Nat), x < 2 ^ 31 → y < 2 ^ 31 → y < 2 ^ j → t + 2 * j ≤ 64 → 2 * j < f → tw_X6_tellFraction_11 p1 p2 p3 f (nI x) (nI y) (nI t) = tw_X6_tellFraction_42 p1 p2 p3 (nI (Nat.gcd y x)) := by
  have z0 : ∀ (x t f : Nat), 0 < f → tw_X6_tellFraction_11 p1 p2 p3 f (nI x) (nI 0) (nI t) = tw_X6_tellFraction_42 p1 p2 p3 (nI (Nat.gcd 0 x)) := by
    intro x t f hf
    obtain ⟨f, rfl⟩ : ∃ g, f = g + 1 := ⟨f - 1, by omega⟩
    rw [tw_X6_tellFraction_11, Nat.gcd_zero_left, show nI 0 = 0 from nI_0, if_pos rfl]
    by_cases q : (64 : Int32) ≤ nI t
    · rw [if_pos q]
    · rw [if_neg q]
  have st : ∀ (x y t f : Nat), x < 2 ^ 31 → 0 < y → y < 2 ^ 31 → t < 64 → tw_X6_tellFraction_11 p1 p2 p3 (f + 1) (nI x) (nI y) (nI t) = tw_X6_tellFraction_11 p1 p2 p3 f (nI y) (nI (x % y)) (nI (t + 1)) := by
    intro x y t f hx h0 hy ht
    rw [tw_X6_tellFraction_11, if_neg (show ¬ (64 : Int32) ≤ nI t from nI_ge (b := 64) (by omega) (by omega)), if_neg (nI_ne0 h0 hy), if_pos (nI_ne0 h0 hy), pk_rem hx h0 hy, nI_1]
  intro j
  induction j with
  | zero =>
    intro x y t f hx hy h1 h2 h3
    have e : y = 0 := by omega
    subst e
    exact z0 x t f (by omega)
  | succ j ih =>
    intro x y t f hx hy h1 h2 h3
    by_cases y0 : y = 0
    · subst y0
      exact z0 x t f (by omega)
    · obtain ⟨f, rfl⟩ : ∃ g, f = g + 2 := ⟨f - 2, by omega⟩
      have m1 := Nat.mod_lt x (show 0 < y by omega)
      rw [st x y t (f + 1) hx (by omega) hy (by omega), Nat.gcd_rec y x]
      by_cases r0 : x % y = 0
      · rw [r0]
        exact z0 y (t + 1) (f + 1) (by omega)
      · rw [st y (x % y) (t + 1) f hy (by omega) (by omega) (by omega), Nat.gcd_rec (x % y) y]
        have m2 := Nat.mod_lt y (show 0 < x % y by omega)
        exact ih (x % y) (y % (x % y)) (t + 2) f (by omega) (by omega) (rem_half (by omega) m1 h1) (by omega) (by omega)
theorem m_gcd (p1 p2 : Int32) : ∀ (j x y f : Nat), x < 2 ^ 31 → y < 2 ^ 31 → y < 2 ^ j → 2 * j < f → tw_X7_common_13 p1 p2 f (nI x) (nI y) = some (nI (Nat.gcd y x)) := by
  have z0 : ∀ (x f : Nat), 0 < f → tw_X7_common_13 p1 p2 f (nI x) (nI 0) = some (nI (Nat.gcd 0 x)) := by
    intro x f hf
    obtain ⟨f, rfl⟩ : ∃ g, f = g + 1 := ⟨f - 1, by omega⟩
    rw [tw_X7_common_13, Nat.gcd_zero_left, show nI 0 = 0 from nI_0, if_pos rfl]
  have st : ∀ (x y f : Nat), x < 2 ^ 31 → 0 < y → y < 2 ^ 31 → tw_X7_common_13 p1 p2 (f + 1) (nI x) (nI y) = tw_X7_common_13 p1 p2 f (nI y) (nI (x % y)) := by
    intro x y f hx h0 hy
    rw [tw_X7_common_13, if_neg (nI_ne0 h0 hy), if_pos (nI_ne0 h0 hy), pk_rem hx h0 hy]
  intro j
  induction j with
  | zero =>
    intro x y f hx hy h1 h3
    have e : y = 0 := by omega
    subst e
    exact z0 x f (by omega)
  | succ j ih =>
    intro x y f hx hy h1 h3
    by_cases y0 : y = 0
    · subst y0
      exact z0 x f (by omega)
    · obtain ⟨f, rfl⟩ : ∃ g, f = g + 2 := ⟨f - 2, by omega⟩
      have m1 := Nat.mod_lt x (show 0 < y by omega)
      rw [st x y (f + 1) hx (by omega) hy, Nat.gcd_rec y x]
      by_cases r0 : x % y = 0
      · rw [r0]
        exact z0 y (f + 1) (by omega)
      · rw [st y (x % y) f hy (by omega) (by omega), Nat.gcd_rec (x % y) y]
        have m2 := Nat.mod_lt y (show 0 < x % y by omega)
        exact ih (x % y) (y % (x % y)) f (by omega) (by omega) (rem_half (by omega) m1 h1) (by omega)
theorem abs_of {x : Int32} (h : -(2 ^ 31) < x.toInt) : ∃ a, a < 2 ^ 31 ∧ (if 0 ≤ x then x else 0 - x) = nI a ∧ (if 0 ≤ x then x else -x) = nI a := by
  by_cases q : 0 ≤ x
  · obtain ⟨j, h1, h2⟩ := nI_of (x := x) (fun z => by
      rw [Int32.le_iff_toInt_le] at q
      rw [Int32.lt_iff_toInt_lt] at z
      omega)
    exact ⟨j, h1, by rw [if_pos q, h2], by rw [if_pos q, h2]⟩
  · have h2 : x.toInt < 0 := by
      rw [Int32.le_iff_toInt_le] at q
      have e : (0 : Int32).toInt = 0 := by decide
      omega
    have e : -x = nI (-x.toInt).toNat := by
      apply Int32.toInt_inj.mp
      rw [nI_toInt (by omega), Int32.toInt_neg, Int.bmod_eq_of_le (by omega) (by omega)]
      omega
    exact ⟨(-x.toInt).toNat, by omega, by rw [if_neg q, Int32.zero_sub, e], by rw [if_neg q, e]⟩
theorem frac {x : Int32} {d : Nat} (h : -(2 ^ 31) < x.toInt) (h0 : 0 < d) (hd : d < 2 ^ 31) (p : Int32) : ∃ g, 0 < g ∧ g < 2 ^ 31 ∧ tw_X6_tellFraction x (nI d) p = some (if p = 0 then nI d / nI g else x / nI g) ∧ tw_X7_common x (nI d) = some (nI g) := by
  obtain ⟨a, ha, e1, e2⟩ := abs_of h
  have hg : 0 < Nat.gcd d a := Nat.gcd_pos_of_pos_left _ h0
  have hl := Nat.gcd_le_left a h0
  refine ⟨Nat.gcd d a, hg, by omega, ?_, ?_⟩
  · rw [tw_X6_tellFraction, e1, show (0 : Int32) = nI 0 from nI_0.symm, c_gcd x (nI d) p 31 d a 0 66 hd ha ha (by omega) (by omega), Nat.gcd_comm a d, tw_X6_tellFraction_42, if_neg (nI_ne0 hg (by omega)), if_pos (nI_ne0 hg (by omega)), if_pos (nI_ne0 hg (by omega)), show nI 0 = 0 from nI_0]
    by_cases q : p = 0
    · rw [if_pos q, if_pos q]
    · rw [if_neg q, if_neg q]
  · rw [tw_X7_common]
    by_cases q : 0 ≤ x
    · rw [if_pos q] at e2
      rw [if_pos q]
      conv => lhs; rw [show tw_X7_common_13 x (nI d) 70 x (nI d) = tw_X7_common_13 x (nI d) 70 (nI a) (nI d) by rw [← e2]]
      exact m_gcd x (nI d) 31 a d 70 ha hd hd (by omega)
    · rw [if_neg q] at e2
      rw [if_neg q, e2]
      exact m_gcd x (nI d) 31 a d 70 ha hd hd (by omega)
/-! told rows -/
def dgOk : Nat → Nat → Bool
  | 0, _ => true
  | n + 1, r => decide (1 ≤ r % 10 ∧ r % 10 ≤ 4) && dgOk n (r / 10)
def fF : Nat → Nat → Nat
  | 0, _ => 0
  | n + 1, r => (r % 10 - 1) + 4 * fF n (r / 10)
theorem fF_dg : ∀ (n r s : Nat), dgOk n r = true → s < n → fF n r / 4 ^ s % 4 = r / 10 ^ s % 10 - 1 := by
  intro n
  induction n with
  | zero => intro r s h1 h2; omega
  | succ n ih =>
    intro r s h1 h2
    rw [dgOk, Bool.and_eq_true, decide_eq_true_eq] at h1
    rw [fF]
    cases s with
    | zero =>
      simp only [Nat.pow_zero, Nat.div_one]
      omega
    | succ s =>
      rw [Nat.pow_succ', Nat.pow_succ', ← Nat.div_div_eq_div_mul, ← Nat.div_div_eq_div_mul, show (r % 10 - 1 + 4 * fF n (r / 10)) / 4 = fF n (r / 10) by omega]
      exact ih (r / 10) s h1.2 (by omega)
theorem fF_lt : ∀ (n r : Nat), dgOk n r = true → fF n r < 4 ^ n := by
  intro n
  induction n with
  | zero => intro r _; rw [fF]; decide
  | succ n ih =>
    intro r h1
    rw [dgOk, Bool.and_eq_true, decide_eq_true_eq] at h1
    have h2 := ih (r / 10) h1.2
    rw [fF, Nat.pow_succ]
    omega
theorem isWay_d : ∀ d, d < 10 → tw_X6_isWay (nI d - 1) = some (b1 (decide (1 ≤ d ∧ d ≤ 4))) := by decide +kernel
theorem tpow_is : ∀ v, v < 5 → tPow v = nI (10 ^ v) ∧ 10 ^ v < 10001 ∧ 0 < 10 ^ v := by decide +kernel
theorem dig10 {r v : Nat} (hr : r < 2 ^ 31) (hv : v < 5) : nI r / tPow v - nI r / tPow v / 10 * 10 = nI (r / 10 ^ v % 10) := by
  obtain ⟨e1, e2, e3⟩ := tpow_is v hv
  rw [e1, pk_div hr e3 (by omega)]
  exact pk_rem (d := 10) (Nat.lt_of_le_of_lt (Nat.div_le_self _ _) hr) (by omega) (by omega)
theorem c_row17 {n r : Nat} (hn : n ≤ 4) (hr : r < 2 ^ 31) : ∀ (f v : Nat), v ≤ n → n - v < f → tw_X6_isRow_17 (nI n) (nI r) f (nI v) = some (b1 (dgOk (n - v) (r / 10 ^ v))) := by
  intro f
  induction f with
  | zero => intro v h1 h2; omega
  | succ f ih =>
    intro v h1 h2
    rw [tw_X6_isRow_17]
    by_cases hv : v = n
    · subst hv
      rw [if_pos (nI_le (Nat.le_refl _) (by omega)), Nat.sub_self]
      rfl
    · obtain ⟨e1, e2, e3⟩ := tpow_is v (by omega)
      rw [if_neg (nI_ge (by omega) (by omega)), if_pos (ix_nI (by omega) (by omega)), nI_clamp (by omega), if_pos (by rw [e1]; exact nI_ne0 e3 (by omega)), dig10 hr (by omega), isWay_d _ (Nat.mod_lt _ (by omega)), Option.bind_some, nI_1, ih (v + 1) (by omega) (by omega), show n - v = (n - (v + 1)) + 1 by omega, dgOk, Nat.div_div_eq_div_mul, ← Nat.pow_succ]
      cases decide (1 ≤ r / 10 ^ v % 10 ∧ r / 10 ^ v % 10 ≤ 4) with
      | true => rw [if_neg (b1_ne rfl), Bool.true_and]
      | false => rw [if_pos (by decide), Bool.false_and]; rfl
theorem c_row {n r : Nat} (hn : n ≤ 4) (hr : r < 2 ^ 31) : tw_X6_isRow (nI n) (nI r) = some (b1 (decide (r < 10 ^ n) && dgOk n r)) := by
  obtain ⟨e1, e2, e3⟩ := tpow_is n (by omega)
  rw [tw_X6_isRow, if_neg (nI_pos hr), if_pos (ix_nI (by omega) (by omega)), nI_clamp (by omega), e1]
  by_cases q : r < 10 ^ n
  · have g := c_row17 hn hr 6 0 (Nat.zero_le _) (by omega)
    rw [Nat.pow_zero, Nat.div_one, Nat.sub_zero] at g
    rw [if_pos (nI_lt q (by omega)), decide_eq_true q, Bool.true_and]
    exact g
  · rw [if_neg (nI_nlt (by omega) hr), decide_eq_false q, Bool.false_and]
    rfl
theorem m_fours {n : Nat} (hn : n ≤ 4) (p2 : Int32) : ∀ (f v a r : Nat), v ≤ n → n - v < f → r < 2 ^ 31 → tw_X7_foursOf_7 (nI n) p2 f (nI a) (nI r) (nI v) = some (if (dgOk (n - v) r && decide (r / 10 ^ (n - v) = 0)) = true then nI (a + 4 ^ v * fF (n - v) r) else -9) := by
  intro f
  induction f with
  | zero => intro v a r h1 h2; omega
  | succ f ih =>
    intro v a r h1 h2 hr
    rw [tw_X7_foursOf_7]
    by_cases hv : v = n
    · subst hv
      rw [if_pos (nI_le (Nat.le_refl _) (by omega)), Nat.sub_self, dgOk, fF, Nat.mul_zero, Nat.add_zero, Nat.pow_zero, Nat.div_one, Bool.true_and]
      by_cases q : r = 0
      · subst q
        rw [if_pos nI_0, decide_eq_true rfl, if_pos rfl]
      · rw [if_neg (nI_ne0 (by omega) hr), decide_eq_false q, if_neg (by decide)]
    · have e2 : nI r - nI r / 10 * 10 = nI (r % 10) := pk_rem (d := 10) hr (by omega) (by omega)
      have e3 : nI r / 10 = nI (r / 10) := pk_div (d := 10) hr (by omega) (by omega)
      have hm := Nat.mod_lt r (show 0 < 10 by omega)
      obtain ⟨m, hm2⟩ : ∃ m, n - v = m + 1 := ⟨n - v - 1, by omega⟩
      rw [if_neg (nI_ge (by omega) (by omega)), e2, e3, in1 (nI (r % 10)) 4 4 (by decide), Option.bind_some, nI_toInt (by omega), tw_pow4 v (by omega), Option.bind_some, nI_1, hm2, dgOk, fF]
      have ed : decide ((1 : Int) ≤ ((r % 10 : Nat) : Int) ∧ ((r % 10 : Nat) : Int) ≤ ((4 : Nat) : Int)) = decide (1 ≤ r % 10 ∧ r % 10 ≤ 4) := decide_eq_decide.mpr (by omega)
      rw [ed]
      by_cases q : 1 ≤ r % 10 ∧ r % 10 ≤ 4
      · rw [decide_eq_true q, if_neg (b1_ne rfl), Bool.true_and, show nI (r % 10) - 1 = nI (r % 10 - 1) from pk_sub (b := 1) (by omega), pk_mul, nI_add, ih (v + 1) _ (r / 10) (by omega) (by omega) (by omega), show n - (v + 1) = m by omega, Nat.div_div_eq_div_mul, ← Nat.pow_succ', Nat.mul_add, Nat.pow_succ 4 v, Nat.mul_assoc, Nat.add_assoc]
      · rw [decide_eq_false q, if_pos (by decide), Bool.false_and, Bool.false_and, if_neg (by decide)]
/-! weights -/
def popN (s : Nat) : Nat := s % 2 + s / 2 % 2 + s / 4 % 2 + s / 8 % 2
def wtN (n s X : Nat) : Nat := X ^ popN s * (10 - X) ^ (n - popN s)
theorem wt_c : ∀ n, n < 5 → ∀ s, s < 2 ^ n → ∀ X, X < 11 → tw_X6_weightOf (nI n) (nI s) (nI X) = some (nI (wtN n s X)) := by decide +kernel
theorem wt_p : ∀ s, s < 16 → pop (nI s) = popN s := by decide +kernel
theorem wt_le : ∀ n, n < 5 → ∀ s, s < 2 ^ n → popN s ≤ n ∧ s < 16 := by decide +kernel
theorem wt_w : ∀ X, X < 11 → ∀ q, q < 5 → tw_X7_power (nI X) (nI q) = some (nI (X ^ q)) := by decide +kernel
theorem wt_b : ∀ n, n < 5 → ∀ s, s < 2 ^ n → ∀ X, X < 11 → wtN n s X < 10001 := by decide +kernel
theorem pw2 : ∀ n, n < 5 → (1 : Int32) <<< (nI n &&& 31) = nI (2 ^ n) ∧ 2 ^ n < 17 := by decide +kernel
def sWt (n X : Nat) : Nat → Nat → Nat
  | 0, _ => 0
  | q + 1, s => wtN n s X + sWt n X q (s + 1)
theorem wt_all : ∀ n, n < 5 → ∀ X, X < 11 → sWt n X (2 ^ n) 0 = 10 ^ n := by decide +kernel
def sIn (n X : Nat) (P : Nat → Bool) : Nat → Nat → Nat
  | 0, _ => 0
  | q + 1, s => (if P s = true then wtN n s X else 0) + sIn n X P q (s + 1)
theorem sIn_le (n X : Nat) (P : Nat → Bool) : ∀ q s, sIn n X P q s ≤ sWt n X q s
  | 0, _ => Nat.le_refl 0
  | q + 1, s => by
    have h := sIn_le n X P q (s + 1)
    rw [sIn, sWt]
    split <;> omega
/-! fails -/
def inF (tr : TrS) (mb n F m : Nat) (k : KS) (s : Nat) : Bool := inH ((rnK tr mb n F (nI s) n k).1 m)
theorem c_beh {tr : TrS} {mb n r m s : Nat} {no : SpS} (hmb : tr.2.2.2.1 = nI mb) (h4 : mb ≤ 4) (hn : n ≤ 4) (hr : r < 2 ^ 31) (hm : m < 4) (hs : s < 16) (hdg : dgOk n r = true) : ∀ (f v : Nat) (k : KS) (sr : SpS), v ≤ n → n - v < f → CR sr k → VK k → ∃ sr', tw_X6_isInBehind_14 no tr (nI m) (nI n) (nI r) (nI s) f (nI v) sr = some (b1 (inH ((rnK tr mb n (fF n r) (nI s) (n - v) k).1 m)), sr') := by
  intro f
  induction f with
  | zero => intro v k sr h1 h2; omega
  | succ f ih =>
    intro v k sr h1 h2 hR hV
    rw [tw_X6_isInBehind_14]
    by_cases hv : v = n
    · subst hv
      rw [if_pos (nI_le (Nat.le_refl _) (by omega)), tw_isIn hm, Option.bind_some, if_pos (b1_and _), Nat.sub_self, rnK, hR.1 m hm]
      exact ⟨_, rfl⟩
    · obtain ⟨q, hq⟩ : ∃ q, n - v = q + 1 := ⟨n - v - 1, by omega⟩
      have e1 : (nI n - 1) - nI v = nI q := by
        rw [show nI n - 1 = nI (n - 1) from pk_sub (b := 1) (by omega), pk_sub (by omega)]
        congr 1
        omega
      obtain ⟨g1, g2, g3⟩ := tpow_is q (by omega)
      rw [if_neg (nI_ge (by omega) (by omega)), tw_bitOf (nI s) v (by omega), Option.bind_some, nI_1, hq, rnK, show n - (q + 1) = v by omega]
      cases hb : bt (nI s) v with
      | true =>
        rw [if_neg (b1_ne rfl), if_pos rfl]
        have g := ih (v + 1) k sr (by omega) (by omega) hR hV
        rw [show n - (v + 1) = q by omega] at g
        exact g
      | false =>
        have hd := fF_dg n r q hdg (by omega)
        have hw : fF n r / 4 ^ q % 4 < 4 := Nat.mod_lt _ (by omega)
        obtain ⟨s2, f1, f2, f3, f4⟩ := c_roll hmb h4 hw hR hV
        have ge1 : 1 ≤ r / 10 ^ q % 10 := by
          have aux : ∀ (n r s : Nat), dgOk n r = true → s < n → 1 ≤ r / 10 ^ s % 10 := by
            intro n
            induction n with
            | zero => intro r s h1 h2; omega
            | succ n ihn =>
              intro r s h1 h2
              rw [dgOk, Bool.and_eq_true, decide_eq_true_eq] at h1
              cases s with
              | zero => rw [Nat.pow_zero, Nat.div_one]; exact h1.1.1
              | succ s =>
                rw [Nat.pow_succ', ← Nat.div_div_eq_div_mul]
                exact ihn (r / 10) s h1.2 (by omega)
          exact aux n r q hdg (by omega)
        rw [if_pos (show b1 false = 0 by decide), if_neg (show ¬ false = true by decide), e1, if_pos (ix_nI (by omega) (by omega)), nI_clamp (by omega), if_pos (by rw [g1]; exact nI_ne0 g3 (by omega)), dig10 hr (by omega), show nI (r / 10 ^ q % 10) - 1 = nI (r / 10 ^ q % 10 - 1) from pk_sub (b := 1) ge1, ← hd, f1, Option.bind_some]
        have g := ih (v + 1) _ s2 (by omega) (by omega) f2 f3
        rw [show n - (v + 1) = q by omega] at g
        exact g
theorem c_f52 {tr : TrS} {mb n r m X : Nat} {no : SpS} {k : KS} (hmb : tr.2.2.2.1 = nI mb) (h4 : mb ≤ 4) (hn : n ≤ 4) (hr : r < 2 ^ 31) (hm : m < 4) (hX : X < 11) (hdg : dgOk n r = true) (hR : CR no k) (hV : VK k) (p5 : Int32) : ∀ (f s a : Nat) (sr : SpS), s ≤ 2 ^ n → 2 ^ n - s < f → ∃ sr', tw_X6_fails_52 no tr (nI m) (nI n) (nI r) (nI X) p5 f (nI a) (nI s) sr = (tw_X6_tellFraction (nI (a + sIn n X (inF tr mb n (fF n r) m k) (2 ^ n - s) s)) (nI (10 ^ n)) p5).bind (fun q3 => some (q3, sr')) := by
  obtain ⟨w1, w2⟩ := pw2 n (by omega)
  obtain ⟨t1, t2, t3⟩ := tpow_is n (by omega)
  intro f
  induction f with
  | zero => intro s a sr h1 h2; omega
  | succ f ih =>
    intro s a sr h1 h2
    rw [tw_X6_fails_52, w1]
    by_cases hs : s = 2 ^ n
    · rw [hs, if_pos (nI_le (Nat.le_refl _) (by omega)), if_pos (ix_nI (by omega) (by omega)), nI_clamp (by omega), t1, Nat.sub_self, sIn, Nat.add_zero]
      exact ⟨sr, rfl⟩
    · obtain ⟨l1, l2⟩ := wt_le n (by omega) s (by omega)
      have hb := wt_b n (by omega) s (by omega) X hX
      rw [if_neg (nI_ge (by omega) (by omega)), wt_c n (by omega) s (by omega) X hX, Option.bind_some, nI_1, show 2 ^ n - s = (2 ^ n - (s + 1)) + 1 by omega, sIn]
      by_cases q : wtN n s X = 0
      · rw [q, if_pos (show nI 0 ≤ 0 by decide), show (if inF tr mb n (fF n r) m k s = true then 0 else 0) = 0 by split <;> rfl, Nat.zero_add]
        exact ih (s + 1) a sr (by omega) (by omega)
      · rw [if_neg (nI_nle (by omega) (by omega))]
        obtain ⟨s1, e1, e2, e3⟩ := tw_take sr no
        obtain ⟨s2, g⟩ := c_beh (no := no) hmb h4 hn hr hm l2 hdg 6 0 k s1 (Nat.zero_le _) (by omega) (hR.take e2 e3) hV
        rw [Nat.sub_zero] at g
        rw [tw_X6_isInBehind, e1, Option.bind_some, show tw_X6_isInBehind_14 no tr (nI m) (nI n) (nI r) (nI s) 6 0 s1 = _ from g, Option.bind_some]
        dsimp only
        show ∃ sr', (if b1 (inF tr mb n (fF n r) m k s) = 0 then _ else _) = _
        cases hq : inF tr mb n (fF n r) m k s with
        | false =>
          rw [if_pos (by decide), if_neg (by decide), Nat.zero_add]
          exact ih (s + 1) a s2 (by omega) (by omega)
        | true =>
          rw [if_neg (b1_ne rfl), if_pos rfl, nI_add, ← Nat.add_assoc]
          exact ih (s + 1) (a + wtN n s X) s2 (by omega) (by omega)
theorem m_f70 {tr : TrS} {mm : Int32} {mk mt : Nat → Int32} {mb n F m X : Nat} {k : KS} (hT : RT tr mb mm mk mt) (hn : n ≤ 4) (hF : F < 2 ^ 31) (hm : m < mb) (hX : X < 11) (hV : VK k) (p3 p5 : Int32) : ∀ (f s a b : Nat) (now : Nat → Int32) (sm : Int32), s ≤ 2 ^ n → 2 ^ n - s < f → MR mb 15 now 0 k → ∃ now' sm', tw_X7_fails_70 mm mk mt 15 (nI m) (nI n) p3 (nI X) p5 f (nI F) (nI a) (nI b) (nI s) now sm = ((tw_X7_common (nI (a + sIn n X (inF tr mb n F m k) (2 ^ n - s) s)) (nI (b + sWt n X (2 ^ n - s) s))).bind (fun q2 => if p5 = 0 then (if ¬ q2 = 0 then (some (nI (b + sWt n X (2 ^ n - s) s) / q2, now', sm')) else none) else (if ¬ q2 = 0 then (some (nI (a + sIn n X (inF tr mb n F m k) (2 ^ n - s) s) / q2, now', sm')) else none))) ∧ ∀ i, i < 7 → now' i = now i := by
  obtain ⟨w1, w2⟩ := pw2 n (by omega)
  have h4 := hT.2.2.1
  intro f
  induction f with
  | zero => intro s a b now sm h1 h2; omega
  | succ f ih =>
    intro s a b now sm h1 h2 hM
    rw [tw_X7_fails_70, w1]
    by_cases hs : s = 2 ^ n
    · rw [hs, if_pos (nI_le (Nat.le_refl _) (by omega)), Nat.sub_self, sIn, sWt, Nat.add_zero, Nat.add_zero]
      exact ⟨now, sm, rfl, fun _ _ => rfl⟩
    · obtain ⟨l1, l2⟩ := wt_le n (by omega) s (by omega)
      have hb := wt_b n (by omega) s (by omega) X hX
      obtain ⟨now1, sm1, e1, e2, e3, e4⟩ := m_row (fl := nI s) hT (show n ≤ 5 by omega) hF hV hM sm
      have e5 : now1 (7 + m) = (rnK tr mb n F (nI s) n k).1 m := e2.now hm h4
      rw [if_neg (nI_ge (by omega) (by omega)), tw_ones, wt_p s l2, Option.bind_some, wt_w X hX _ (by omega), Option.bind_some, Option.bind_some, show (10 : Int32) - nI X = nI (10 - X) from pk_sub (a := 10) (by omega), pk_sub l1, wt_w _ (by omega) _ (by omega), Option.bind_some, e1, Option.bind_some, add7, if_pos (ix_nI (by omega) (by omega)), nI_clamp (by omega), pk_mul, show X ^ popN s * (10 - X) ^ (n - popN s) = wtN n s X from rfl, nI_1, add_0, nI_add, nI_add, show 2 ^ n - s = (2 ^ n - (s + 1)) + 1 by omega, sIn, sWt, ← Nat.add_assoc b]
      dsimp only
      have hM1 := hM.down e4
      unfold inF inH
      by_cases q : (rnK tr mb n F (nI s) n k).1 m < 100
      · rw [if_pos (show now1 (7 + m) < 100 by rw [e5]; exact q), decide_eq_false (fun z => z q), if_neg (by decide), Nat.zero_add]
        obtain ⟨now', sm', g1, g2⟩ := ih (s + 1) a (b + wtN n s X) now1 sm1 (by omega) (by omega) hM1
        exact ⟨now', sm', g1, fun i hi => (g2 i hi).trans (e4 i hi)⟩
      · rw [if_neg (show ¬ now1 (7 + m) < 100 by rw [e5]; exact q), decide_eq_true q, if_pos rfl, ← Nat.add_assoc a]
        obtain ⟨now', sm', g1, g2⟩ := ih (s + 1) (a + wtN n s X) (b + wtN n s X) now1 sm1 (by omega) (by omega) hM1
        exact ⟨now', sm', g1, fun i hi => (g2 i hi).trans (e4 i hi)⟩
theorem tw_in11 (x : Int32) : tw_X7_in x.toInt64 0 10 = some (b1 (ix x 11)) := tw_in x 11 10 (by decide)
/-- fails -/
theorem s_fails {tr : TrS} {mb : Nat} {mm : Int32} {mk mt : Nat → Int32} {no : SpS} {now : Nat → Int32} {k : KS} (hT : RT tr mb mm mk mt) (hC : Co tr mb no now 0 k) (sr : SpS) (sm y n0 r0 x0 z : Int32) : ∃ (r : Int32) (sr' : SpS) (now' : Nat → Int32) (sm' : Int32), tw_X6_fails no sr tr y n0 r0 x0 z = some (r, sr') ∧ tw_X7_fails mm mk mt now 15 sm y n0 r0 x0 z = some (r, now', sm') ∧ ∀ i, i < 7 → now' i = now i := by
  have h4 := hT.2.2.1
  have ed : tw_X6_fails no sr tr y n0 r0 x0 z = (tw_X5_has tr y).bind (fun q8 => if q8 = 0 then (some ((-1), sr)) else (if (1 ≤ n0.toInt ∧ n0.toInt ≤ (4 : Nat)) then ((tw_X6_isRow n0 r0).bind (fun q12 => if q12 = 0 then (some ((-2), sr)) else (if ix x0 11 = true then (tw_X6_fails_52 no tr y n0 r0 x0 z 17 0 0 sr) else (some ((-2), sr))))) else some ((-2), sr))) := by
    rw [tw_X6_fails]
    congr 1
    funext q8
    have e1 : ∀ B : Option (Int32 × SpS), (if n0 < 1 then some ((-2 : Int32), sr) else if 4 < n0 then some ((-2), sr) else B) = if (1 ≤ n0.toInt ∧ n0.toInt ≤ (4 : Nat)) then B else some ((-2), sr) := by
      intro B
      rw [← rg1 n0 4 (by omega)]
      by_cases q : n0 < 1
      · rw [if_pos q, if_pos q]
      · rw [if_neg q, if_neg q]
        by_cases q2 : 4 < n0
        · rw [if_pos q2, if_neg (show ¬ n0 ≤ nI 4 from fun z => Int32.not_le.mpr q2 z)]
        · rw [if_neg q2, if_pos (show n0 ≤ nI 4 from Int32.not_lt.mp q2)]
    have e2 : ∀ B : Option (Int32 × SpS), (if x0 < 0 then some ((-2 : Int32), sr) else if x0 ≤ 10 then B else some ((-2), sr)) = if ix x0 11 = true then B else some ((-2), sr) := fun B => rg_le x0 10 (by omega) _ _
    rw [e1, e2]
  rw [ed, tw_X7_fails, tw_hasM hT.1 h4, Option.bind_some, tw_mMarble hT.2.1 h4, Option.bind_some, in1 n0 4 4 (by decide), Option.bind_some]
  have no34 : tw_X7_fails_34 mm mk mt 15 y n0 r0 x0 z now sm = some (-2, now, sm) := by
    rw [tw_X7_fails_34, tw_X7_fails_36, if_pos rfl]
  rw [no34]
  cases hy : ix y mb with
  | false => exact ⟨_, _, _, _, rfl, rfl, fun _ _ => rfl⟩
  | true =>
    obtain ⟨m, hm, rfl⟩ := ix_of hy (by omega)
    rw [if_neg (b1_ne rfl), if_neg (b1_ne rfl)]
    by_cases hn : 1 ≤ n0.toInt ∧ n0.toInt ≤ (4 : Nat)
    · rw [if_pos hn, decide_eq_true hn, if_neg (b1_ne rfl)]
      obtain ⟨n, hn1, hn2, rfl⟩ := of1 hn (by omega)
      have hneg : r0 < 0 → tw_X6_isRow (nI n) r0 = some 0 := fun q => by rw [tw_X6_isRow, if_pos q]
      by_cases hr0 : r0 ≤ 0
      · have e : tw_X6_isRow (nI n) r0 = some 0 := by
          by_cases q : r0 < 0
          · exact hneg q
          · have e0 : r0 = nI 0 := by
              apply Int32.toInt_inj.mp
              rw [Int32.le_iff_toInt_le] at hr0
              rw [Int32.lt_iff_toInt_lt] at q
              rw [nI_0]
              omega
            rw [e0, c_row hn2 (by omega)]
            obtain ⟨j, rfl⟩ : ∃ j, n = j + 1 := ⟨n - 1, by omega⟩
            rw [dgOk, decide_eq_false (show ¬ (1 ≤ 0 % 10 ∧ 0 % 10 ≤ 4) by omega), Bool.false_and, Bool.and_false]
            rfl
        rw [e, Option.bind_some, if_pos rfl, if_pos hr0]
        exact ⟨_, _, _, _, rfl, rfl, fun _ _ => rfl⟩
      · obtain ⟨r, hr, rfl⟩ := nI_of (x := r0) (fun q => hr0 (by
          rw [Int32.lt_iff_toInt_lt] at q
          rw [Int32.le_iff_toInt_le]
          omega))
        rw [if_neg hr0, c_row hn2 hr, Option.bind_some]
        have ef := m_fours hn2 (nI r) 7 0 0 r (Nat.zero_le _) (by omega) hr
        rw [Nat.sub_zero, Nat.pow_zero, Nat.one_mul, Nat.zero_add] at ef
        rw [tw_X7_foursOf, show tw_X7_foursOf_7 (nI n) (nI r) 7 0 (nI r) 0 = _ from ef, Option.bind_some, tw_X7_fails_36, tw_in11, Option.bind_some]
        have hz : decide (r / 10 ^ n = 0) = decide (r < 10 ^ n) := decide_eq_decide.mpr (Nat.div_eq_zero_iff_lt (tpow_is n (by omega)).2.2)
        rw [hz, Bool.and_comm]
        cases hd : (dgOk n r && decide (r < 10 ^ n)) with
        | false =>
          rw [if_pos (show b1 false = 0 by decide), if_neg (show ¬ false = true by decide), if_pos rfl]
          exact ⟨_, _, _, _, rfl, rfl, fun _ _ => rfl⟩
        | true =>
          rw [Bool.and_eq_true] at hd
          have hF := fF_lt n r hd.1
          have hF2 := pw4 n (by omega)
          rw [if_neg (b1_ne rfl), if_pos rfl, if_neg (show ¬ nI (fF n r) = -9 from fun q => by
            have e := congrArg Int32.toInt q
            rw [nI_toInt (by omega), show (-9 : Int32).toInt = -9 by decide] at e
            omega)]
          cases hx : ix x0 11 with
          | false =>
            rw [if_neg (by decide), if_pos (by decide)]
            exact ⟨_, _, _, _, rfl, rfl, fun _ _ => rfl⟩
          | true =>
            obtain ⟨X, hX, rfl⟩ := ix_of hx (by omega)
            have hp := pw2 n (by omega)
            obtain ⟨sr', c1⟩ := c_f52 hT.1 h4 hn2 hr (show m < 4 by omega) hX hd.1 hC.1 hC.2.1 z 17 0 0 sr (Nat.zero_le _) (by omega)
            obtain ⟨now', sm', m1, m2⟩ := m_f70 hT hn2 (show fF n r < 2 ^ 31 by omega) hm hX hC.2.1 (nI r) z 17 0 0 0 now sm (Nat.zero_le _) (by omega) hC.2.2.2.1
            rw [Nat.zero_add, Nat.sub_zero] at c1
            rw [Nat.zero_add, Nat.zero_add, Nat.sub_zero, wt_all n (by omega) X hX] at m1
            have hle := sIn_le n X (inF tr mb n (fF n r) m k) (2 ^ n) 0
            rw [wt_all n (by omega) X hX] at hle
            obtain ⟨t1, t2, t3⟩ := tpow_is n (by omega)
            obtain ⟨g, g1, g2, g3, g4⟩ := frac (x := nI (sIn n X (inF tr mb n (fF n r) m k) (2 ^ n) 0)) (d := 10 ^ n) (by rw [nI_toInt (by omega)]; omega) t3 (by omega) z
            rw [g3, Option.bind_some] at c1
            rw [g4, Option.bind_some, if_pos (nI_ne0 g1 g2), if_pos (nI_ne0 g1 g2)] at m1
            rw [if_pos rfl, if_neg (b1_ne rfl), show tw_X6_fails_52 no tr (nI m) (nI n) (nI r) (nI X) z 17 0 0 sr = _ from c1, show tw_X7_fails_70 mm mk mt 15 (nI m) (nI n) (nI r) (nI X) z 17 (nI (fF n r)) 0 0 0 now sm = _ from m1]
            by_cases hz0 : z = 0
            · rw [if_pos hz0, if_pos hz0]
              exact ⟨_, _, _, _, rfl, rfl, m2⟩
            · rw [if_neg hz0, if_neg hz0]
              exact ⟨_, _, _, _, rfl, rfl, m2⟩
    · rw [if_neg hn, decide_eq_false hn, if_pos (by decide)]
      exact ⟨_, _, _, _, rfl, rfl, fun _ _ => rfl⟩
