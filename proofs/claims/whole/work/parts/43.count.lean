/-! how many bits -/
theorem and_sh (a b m M k : Nat) (ha : a < 2 ^ 8) (hm : m < 2 ^ (8 - k)) (hk : k ≤ 8) : ((2 ^ 8 * b + a) / 2 ^ k) &&& (2 ^ 8 * M + m) = 2 ^ 8 * ((b / 2 ^ k) &&& M) + ((a / 2 ^ k) &&& m) := by
  have hm8 : m < 2 ^ 8 := Nat.lt_of_lt_of_le hm (Nat.pow_le_pow_right (by omega) (by omega))
  have hr : ((a / 2 ^ k) &&& m) < 2 ^ 8 := Nat.lt_of_le_of_lt Nat.and_le_right hm8
  apply Nat.eq_of_testBit_eq
  intro j
  rw [Nat.testBit_and, Nat.testBit_div_two_pow, Nat.testBit_two_pow_mul_add _ ha, Nat.testBit_two_pow_mul_add _ hm8, Nat.testBit_two_pow_mul_add _ hr, Nat.testBit_and, Nat.testBit_and, Nat.testBit_div_two_pow, Nat.testBit_div_two_pow]
  by_cases hj : j < 8
  · rw [if_pos hj, if_pos hj]
    by_cases hjk : j + k < 8
    · rw [if_pos hjk]
    · have hz : m.testBit j = false := Nat.testBit_lt_two_pow (Nat.lt_of_lt_of_le hm (Nat.pow_le_pow_right (by omega) (by omega)))
      rw [hz, Bool.and_false, Bool.and_false]
  · rw [if_neg hj, if_neg hj, if_neg (show ¬ j + k < 8 by omega), show j + k - 8 = j - 8 + k by omega]
def s1 (a : Nat) : Nat := a - ((a / 2) &&& 85)
def s2 (a : Nat) : Nat := (a &&& 51) + ((a / 4) &&& 51)
def s8 (a : Nat) : Nat := s2 (s1 a)
theorem s1_lt : ∀ a, a < 256 → s1 a < 256 := by decide +kernel
theorem s8_ok : ∀ a, a < 256 → s8 a < 256 ∧ s8 a / 16 ≤ 4 ∧ s8 a % 16 ≤ 4 := by decide +kernel
theorem and85 {a : Nat} : ((a / 2) &&& 85) ≤ a := Nat.le_trans Nat.and_le_left (Nat.div_le_self a 2)
theorem f1 (a b M : Nat) (ha : a < 256) : (256 * b + a) - (((256 * b + a) / 2) &&& (256 * M + 85)) = 256 * (b - ((b / 2) &&& M)) + s1 a := by
  have h := and_sh a b 85 M 1 ha (by decide) (by omega)
  have h1 : ((256 * b + a) / 2) &&& (256 * M + 85) = 256 * ((b / 2) &&& M) + ((a / 2) &&& 85) := h
  have h2 : ((b / 2) &&& M) ≤ b := Nat.le_trans Nat.and_le_left (Nat.div_le_self b 2)
  have h3 := and85 (a := a)
  rw [h1]
  unfold s1
  omega
theorem f2 (a b M : Nat) (ha : a < 256) : ((256 * b + a) &&& (256 * M + 51)) + (((256 * b + a) / 4) &&& (256 * M + 51)) = 256 * ((b &&& M) + ((b / 4) &&& M)) + s2 a := by
  have h := and_sh a b 51 M 2 ha (by decide) (by omega)
  have h1 : ((256 * b + a) / 4) &&& (256 * M + 51) = 256 * ((b / 4) &&& M) + ((a / 4) &&& 51) := h
  have g := and_sh a b 51 M 0 ha (by decide) (by omega)
  have g1 : (256 * b + a) &&& (256 * M + 51) = 256 * (b &&& M) + (a &&& 51) := by
    have g2 : ((256 * b + a) / 1) &&& (256 * M + 51) = 256 * ((b / 1) &&& M) + ((a / 1) &&& 51) := g
    rw [Nat.div_one, Nat.div_one, Nat.div_one] at g2
    exact g2
  rw [h1, g1]
  unfold s2
  omega
theorem f3 (a b M : Nat) (ha : a < 256) : (256 * b + a) &&& (256 * M + 15) = 256 * (b &&& M) + a % 16 := by
  have g := and_sh a b 15 M 0 ha (by decide) (by omega)
  have g2 : ((256 * b + a) / 1) &&& (256 * M + 15) = 256 * ((b / 1) &&& M) + ((a / 1) &&& 15) := g
  rw [Nat.div_one, Nat.div_one, Nat.div_one] at g2
  rw [g2, show (15 : Nat) = 2 ^ 4 - 1 from rfl, Nat.and_two_pow_sub_one_eq_mod]
def FN (N : Nat) : Nat :=
  let v1 := N - ((N / 2) &&& 1431655765)
  let v2 := (v1 &&& 858993459) + ((v1 / 4) &&& 858993459)
  let v3 := (v2 + v2 / 16) &&& 252645135
  let v4 := v3 + v3 / 256
  let v5 := v4 + v4 / 65536
  v5 &&& 63
theorem w1 (a b c d : Nat) (ha : a < 256) (hb : b < 256) (hc : c < 256) (hd : d < 256) : (256 * (256 * (256 * d + c) + b) + a) - (((256 * (256 * (256 * d + c) + b) + a) / 2) &&& 1431655765) = 256 * (256 * (256 * s1 d + s1 c) + s1 b) + s1 a := by
  have e := f1 a (256 * (256 * d + c) + b) 5592405 ha
  have e2 := f1 b (256 * d + c) 21845 hb
  have e3 := f1 c d 85 hc
  have e : (256 * (256 * (256 * d + c) + b) + a) - (((256 * (256 * (256 * d + c) + b) + a) / 2) &&& 1431655765) = _ := e
  have e2 : (256 * (256 * d + c) + b) - (((256 * (256 * d + c) + b) / 2) &&& 5592405) = _ := e2
  have e3 : (256 * d + c) - (((256 * d + c) / 2) &&& 21845) = 256 * s1 d + s1 c := e3
  rw [e, e2, e3]
theorem w2 (a b c d : Nat) (ha : a < 256) (hb : b < 256) (hc : c < 256) (hd : d < 256) : ((256 * (256 * (256 * d + c) + b) + a) &&& 858993459) + (((256 * (256 * (256 * d + c) + b) + a) / 4) &&& 858993459) = 256 * (256 * (256 * s2 d + s2 c) + s2 b) + s2 a := by
  have e := f2 a (256 * (256 * d + c) + b) 3355443 ha
  have e2 := f2 b (256 * d + c) 13107 hb
  have e3 := f2 c d 51 hc
  have e : ((256 * (256 * (256 * d + c) + b) + a) &&& 858993459) + (((256 * (256 * (256 * d + c) + b) + a) / 4) &&& 858993459) = _ := e
  have e2 : ((256 * (256 * d + c) + b) &&& 3355443) + (((256 * (256 * d + c) + b) / 4) &&& 3355443) = _ := e2
  have e3 : ((256 * d + c) &&& 13107) + (((256 * d + c) / 4) &&& 13107) = 256 * s2 d + s2 c := e3
  rw [e, e2, e3]
theorem w3 (a b c d : Nat) (ha : a < 256) (hb : b < 256) (hc : c < 256) (hd : d < 256) : (256 * (256 * (256 * d + c) + b) + a) &&& 252645135 = 256 * (256 * (256 * (d % 16) + c % 16) + b % 16) + a % 16 := by
  have e := f3 a (256 * (256 * d + c) + b) 986895 ha
  have e2 := f3 b (256 * d + c) 3855 hb
  have e3 := f3 c d 15 hc
  have e : (256 * (256 * (256 * d + c) + b) + a) &&& 252645135 = _ := e
  have e2 : (256 * (256 * d + c) + b) &&& 986895 = _ := e2
  have e3 : (256 * d + c) &&& 3855 = 256 * (d &&& 15) + c % 16 := e3
  rw [e, e2, e3, show (15 : Nat) = 2 ^ 4 - 1 from rfl, Nat.and_two_pow_sub_one_eq_mod]
theorem g1 (X l : Nat) (h : l < 16) : (16 * X + l) / 16 = X := by omega
theorem g2 (a b c d : Nat) : 256 * (256 * (256 * d + c) + b) + a = 16 * (16 * (256 * (256 * d + c) + b) + a / 16) + a % 16 := by omega
theorem g3 (a b c d : Nat) : (256 * (256 * (256 * d + c) + b) + a) / 16 = 16 * (256 * (256 * d + c) + b) + a / 16 := by
  rw [g2 a b c d]
  exact g1 _ _ (by omega)
theorem g4 (ah al bh bl ch cl dh dl : Nat) : (256 * (256 * (256 * (16 * dh + dl) + (16 * ch + cl)) + (16 * bh + bl)) + (16 * ah + al)) + (16 * (256 * (256 * (16 * dh + dl) + (16 * ch + cl)) + (16 * bh + bl)) + ah) = 256 * (256 * (256 * (16 * dh + (dl + dh)) + (16 * (ch + dl) + (cl + ch))) + (16 * (bh + cl) + (bl + bh))) + (16 * (ah + bl) + (al + ah)) := by omega
theorem g5 (x y : Nat) (h : y < 16) : (16 * x + y) % 16 = y := by omega
theorem g6 (a b c d : Nat) (ha : a < 256) : (256 * (256 * (256 * d + c) + b) + a) / 256 = 256 * (256 * d + c) + b := by omega
theorem g7 (a b c d : Nat) (ha : a ≤ 8) (hb : b ≤ 8) (hc : c ≤ 8) : ((256 * (256 * (256 * d + c) + b) + a) + (256 * (256 * d + c) + b)) / 65536 = 256 * d + c + d := by omega
theorem g8 (a b c d : Nat) (ha : a ≤ 8) (hb : b ≤ 8) (hc : c ≤ 8) (hd : d ≤ 8) : ((256 * (256 * (256 * d + c) + b) + a) + (256 * (256 * d + c) + b) + (256 * d + c + d)) % 64 = a + b + c + d := by omega
theorem FN_bytes (a b c d : Nat) (ha : a < 256) (hb : b < 256) (hc : c < 256) (hd : d < 256) : FN (256 * (256 * (256 * d + c) + b) + a) = (s8 a % 16 + s8 a / 16) + (s8 b % 16 + s8 b / 16) + (s8 c % 16 + s8 c / 16) + (s8 d % 16 + s8 d / 16) := by
  have ea := s8_ok a ha
  have eb := s8_ok b hb
  have ec := s8_ok c hc
  have ed := s8_ok d hd
  have k1 := w1 a b c d ha hb hc hd
  have k2 := w2 _ _ _ _ (s1_lt a ha) (s1_lt b hb) (s1_lt c hc) (s1_lt d hd)
  have k2 : _ = 256 * (256 * (256 * s8 d + s8 c) + s8 b) + s8 a := k2
  unfold FN
  rw [k1]
  dsimp only
  rw [k2]
  generalize s8 a = a1 at ea ⊢
  generalize s8 b = b1 at eb ⊢
  generalize s8 c = c1 at ec ⊢
  generalize s8 d = d1 at ed ⊢
  obtain ⟨a2, a3, rfl, h1, h2⟩ : ∃ h l, a1 = 16 * h + l ∧ h ≤ 4 ∧ l ≤ 4 := ⟨a1 / 16, a1 % 16, by omega, ea.2.1, ea.2.2⟩
  obtain ⟨b2, b3, rfl, h3, h4⟩ : ∃ h l, b1 = 16 * h + l ∧ h ≤ 4 ∧ l ≤ 4 := ⟨b1 / 16, b1 % 16, by omega, eb.2.1, eb.2.2⟩
  obtain ⟨c2, c3, rfl, h5, h6⟩ : ∃ h l, c1 = 16 * h + l ∧ h ≤ 4 ∧ l ≤ 4 := ⟨c1 / 16, c1 % 16, by omega, ec.2.1, ec.2.2⟩
  obtain ⟨d2, d3, rfl, h7, h8⟩ : ∃ h l, d1 = 16 * h + l ∧ h ≤ 4 ∧ l ≤ 4 := ⟨d1 / 16, d1 % 16, by omega, ed.2.1, ed.2.2⟩
  rw [g3, g1 a2 a3 (by omega), g1 b2 b3 (by omega), g1 c2 c3 (by omega), g1 d2 d3 (by omega), g5 a2 a3 (by omega), g5 b2 b3 (by omega), g5 c2 c3 (by omega), g5 d2 d3 (by omega), g4, w3 _ _ _ _ (by omega) (by omega) (by omega) (by omega), g5 _ _ (by omega), g5 _ _ (by omega), g5 _ _ (by omega), g5 _ _ (by omega), g6 _ _ _ _ (by omega), g7 _ _ _ _ (by omega) (by omega) (by omega), show (63 : Nat) = 2 ^ 6 - 1 from rfl, Nat.and_two_pow_sub_one_eq_mod, show (2 : Nat) ^ 6 = 64 from rfl, g8 _ _ _ _ (by omega) (by omega) (by omega) (by omega)]
