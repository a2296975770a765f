def pn (N : Nat) : Nat → Nat
  | 0 => 0
  | n + 1 => pn N n + (if N.testBit n = true then 1 else 0)
theorem pn_add (N m : Nat) : ∀ n, pn N (m + n) = pn N m + pn (N / 2 ^ m) n
  | 0 => rfl
  | n + 1 => by
    rw [← Nat.add_assoc, pn, pn_add N m n, pn, Nat.testBit_div_two_pow, Nat.add_comm n m, Nat.add_assoc]
theorem pn_mod (N k : Nat) : ∀ n, n ≤ k → pn N n = pn (N % 2 ^ k) n
  | 0, _ => rfl
  | n + 1, h => by
    rw [pn, pn, pn_mod N k n (by omega), Nat.testBit_mod_two_pow]
    simp [show n < k by omega]
theorem pn8 : ∀ a, a < 256 → pn a 8 = s8 a % 16 + s8 a / 16 := by decide +kernel
theorem FN_pn (N : Nat) (h : N < 2 ^ 32) : FN N = pn N 32 := by
  have e : N = 256 * (256 * (256 * (N / 16777216) + N / 65536 % 256) + N / 256 % 256) + N % 256 := by omega
  have e1 : FN N = _ := (congrArg FN e).trans (FN_bytes _ _ _ _ (by omega) (by omega) (by omega) (by omega))
  rw [e1, ← pn8 _ (by omega), ← pn8 _ (by omega), ← pn8 _ (by omega), ← pn8 _ (by omega)]
  have p1 := pn_add N 8 24
  have p2 := pn_add (N / 2 ^ 8) 8 16
  have p3 := pn_add (N / 2 ^ 8 / 2 ^ 8) 8 8
  have q1 := pn_mod N 8 8 (by omega)
  have q2 := pn_mod (N / 2 ^ 8) 8 8 (by omega)
  have q3 := pn_mod (N / 2 ^ 8 / 2 ^ 8) 8 8 (by omega)
  rw [show 8 + 24 = 32 from rfl] at p1
  rw [show 8 + 16 = 24 from rfl] at p2
  rw [show 8 + 8 = 16 from rfl] at p3
  rw [p1, p2, p3, q1, q2, q3, show N % 2 ^ 8 = N % 256 from rfl, show N / 2 ^ 8 % 2 ^ 8 = N / 256 % 256 from rfl, show N / 2 ^ 8 / 2 ^ 8 % 2 ^ 8 = N / 65536 % 256 by omega, show N / 2 ^ 8 / 2 ^ 8 / 2 ^ 8 = N / 16777216 by omega]
  omega
theorem nI_and (a b : Nat) : nI a &&& nI b = nI (a &&& b) := by
  apply Int32.toBitVec_inj.1
  show BitVec.ofNat 32 a &&& BitVec.ofNat 32 b = BitVec.ofNat 32 (a &&& b)
  apply BitVec.eq_of_getLsbD_eq
  intro i hi
  simp [hi]
theorem nI_all (x : Int32) : ∃ N, N < 2 ^ 32 ∧ x = nI N := by
  refine ⟨x.toBitVec.toNat, x.toBitVec.isLt, ?_⟩
  apply Int32.toBitVec_inj.1
  show x.toBitVec = BitVec.ofNat 32 x.toBitVec.toNat
  simp
theorem bt_nI {N i : Nat} (hi : i < 32) : bt (nI N) i = N.testBit i := by
  show (BitVec.ofNat 32 N).getLsbD i = _
  rw [BitVec.getLsbD_ofNat, decide_eq_true hi, Bool.true_and]
theorem popF_pn (N : Nat) : ∀ n, n ≤ 32 → popF (nI N) n = pn N n
  | 0, _ => rfl
  | n + 1, h => by rw [popF, pn, popF_pn N n (by omega), bt_nI (by omega)]
theorem FN_tw (N : Nat) (h : N < 2 ^ 32) : tw_J6_bitCount_0f7a4 (nI N) = some (nI (FN N)) := by
  have u := fun (n : Nat) (hn : n < 2 ^ 32) (s : Int32) (k : Nat) hs => pk_ushrN (n := n) hn s k hs
  have a1 : ((N / 2) &&& 1431655765) ≤ N := Nat.le_trans Nat.and_le_left (Nat.div_le_self N 2)
  rw [tw_J6_bitCount_0f7a4]
  unfold nm
  rw [u N h 1 1 (by decide), show (1431655765 : Int32) = nI 1431655765 from rfl, nI_and, Nat.pow_one, pk_sub a1]
  generalize e1 : N - ((N / 2) &&& 1431655765) = v1
  have h1 : v1 < 2 ^ 32 := by omega
  show (fun v2 : Int32 => (fun v3 : Int32 => (fun v4 : Int32 => (fun v5 : Int32 => some (v5 &&& 63)) (v4 + ((v4).toUInt32 >>> ((16 : Int32).toUInt32 &&& Int32.toUInt32 31)).toInt32)) (v3 + ((v3).toUInt32 >>> ((8 : Int32).toUInt32 &&& Int32.toUInt32 31)).toInt32)) ((v2 + ((v2).toUInt32 >>> ((4 : Int32).toUInt32 &&& Int32.toUInt32 31)).toInt32) &&& 252645135)) ((nI v1 &&& 858993459) + (((nI v1).toUInt32 >>> ((2 : Int32).toUInt32 &&& Int32.toUInt32 31)).toInt32 &&& 858993459)) = _
  rw [u v1 h1 2 2 (by decide), show (858993459 : Int32) = nI 858993459 from rfl, nI_and, nI_and, nI_add]
  generalize e2 : (v1 &&& 858993459) + ((v1 / 2 ^ 2) &&& 858993459) = v2
  have h2 : v2 < 2 ^ 32 := by
    have x1 : (v1 &&& 858993459) ≤ 858993459 := Nat.and_le_right
    have x2 : ((v1 / 2 ^ 2) &&& 858993459) ≤ 858993459 := Nat.and_le_right
    omega
  show (fun v3 : Int32 => (fun v4 : Int32 => (fun v5 : Int32 => some (v5 &&& 63)) (v4 + ((v4).toUInt32 >>> ((16 : Int32).toUInt32 &&& Int32.toUInt32 31)).toInt32)) (v3 + ((v3).toUInt32 >>> ((8 : Int32).toUInt32 &&& Int32.toUInt32 31)).toInt32)) ((nI v2 + ((nI v2).toUInt32 >>> ((4 : Int32).toUInt32 &&& Int32.toUInt32 31)).toInt32) &&& 252645135) = _
  rw [u v2 h2 4 4 (by decide), show (252645135 : Int32) = nI 252645135 from rfl, nI_add, nI_and]
  generalize e3 : (v2 + v2 / 2 ^ 4) &&& 252645135 = v3
  have h3 : v3 ≤ 252645135 := by rw [← e3]; exact Nat.and_le_right
  show (fun v4 : Int32 => (fun v5 : Int32 => some (v5 &&& 63)) (v4 + ((v4).toUInt32 >>> ((16 : Int32).toUInt32 &&& Int32.toUInt32 31)).toInt32)) (nI v3 + ((nI v3).toUInt32 >>> ((8 : Int32).toUInt32 &&& Int32.toUInt32 31)).toInt32) = _
  rw [u v3 (by omega) 8 8 (by decide), nI_add]
  generalize e4 : v3 + v3 / 2 ^ 8 = v4
  show some ((nI v4 + ((nI v4).toUInt32 >>> ((16 : Int32).toUInt32 &&& Int32.toUInt32 31)).toInt32) &&& 63) = _
  rw [u v4 (by omega) 16 16 (by decide), nI_add, show (63 : Int32) = nI 63 from rfl, nI_and]
  unfold FN
  dsimp only
  rw [e1, show v1 / 4 = v1 / 2 ^ 2 from rfl, e2, show v2 / 16 = v2 / 2 ^ 4 from rfl, e3, show v3 / 256 = v3 / 2 ^ 8 from rfl, e4]
theorem popF_end {x : Int32} (h : ∀ c, 25 ≤ c → bt x c = false) : popF x 32 = pop x := by
  unfold pop
  simp only [popF, h 25 (by omega), h 26 (by omega), h 27 (by omega), h 28 (by omega), h 29 (by omega), h 30 (by omega), h 31 (by omega)]
  simp
theorem tw_bitCount {x : Int32} (h : ∀ c, 25 ≤ c → bt x c = false) : tw_J6_bitCount_0f7a4 x = some (nI (pop x)) := by
  obtain ⟨N, hN, rfl⟩ := nI_all x
  rw [FN_tw N hN, FN_pn N hN, ← popF_end h, popF_pn N 32 (by omega)]
theorem tw_ones4 (x : Int32) : ∀ (n m : Nat), m ≤ 25 → 25 - m < n → tw_X7_ones_4 x n (nI (popF x m)) (nI m) = some (nI (pop x)) := by
  intro n
  induction n with
  | zero => intro m h1 h2; omega
  | succ n ih =>
    intro m h1 h2
    rw [tw_X7_ones_4]
    by_cases hm : m = 25
    · subst hm
      rw [if_pos (by decide)]
      rfl
    · rw [if_neg (show ¬ (25 : Int32) ≤ nI m from nI_ge (b := 25) (by omega) (by omega)), bit1 x m (by omega), nI_1]
      have e := ih (m + 1) (by omega) (by omega)
      have e2 : nI (popF x m) + b1 (bt x m) = nI (popF x (m + 1)) := by
        rw [popF]
        cases bt x m with
        | true => exact nI_1 _
        | false => rw [show b1 false = 0 from rfl, add_0]; rfl
      rw [e2]
      exact e
theorem tw_ones (x : Int32) : tw_X7_ones x = some (nI (pop x)) := tw_ones4 x 26 0 (by omega) (by omega)
theorem popF_le (x : Int32) : ∀ n, popF x n ≤ n
  | 0 => Nat.le_refl 0
  | n + 1 => by
    have h := popF_le x n
    rw [popF]
    split <;> omega
theorem pop_le (x : Int32) : pop x ≤ 25 := popF_le x 25
