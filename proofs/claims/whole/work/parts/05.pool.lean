/-! spots in a row: cells 2 j and 2 j + 1 are those of spot j -/
theorem ix_lt {i : Int32} {n : Nat} (h : ix i n = true) : i.toNatClampNeg < n := Nat.not_le.mp fun q => ix_in h (Or.inr q)
theorem ix_succ {i : Int32} {n k : Nat} (h : ix i n = true) (h2 : ix (i + 1) k = true) (hn : n < 1000) : (i + 1).toNatClampNeg = i.toNatClampNeg + 1 := by
  obtain ⟨j, hj, rfl⟩ := vp_in_of (ix_in h) (by omega)
  rw [nI_1, nI_clamp (by omega), nI_clamp (by omega)]
theorem up_s {α : Type} {f : Nat → α} {k : Nat} {v : α} : va_up f k v k = v := if_pos rfl
theorem up_n {α : Type} {f : Nat → α} {k j : Nat} {v : α} (h : j ≠ k) : va_up f k v j = f j := if_neg h
def cSps (ha hb : Nat → Nat) (cI : ClassId) (f : Nat → SpS) : Nat → va_W
  | 0 => []
  | n + 1 => cSps ha hb cI f n ++ cSp (ha n) (hb n) cI (f n)
theorem cSps_len (ha hb : Nat → Nat) (cI : ClassId) (f : Nat → SpS) : ∀ n, (cSps ha hb cI f n).length = 2 * n
  | 0 => rfl
  | n + 1 => by rw [cSps, List.length_append, cSps_len ha hb cI f n]; rfl
theorem cSps_get0 (ha hb : Nat → Nat) (cI : ClassId) (f : Nat → SpS) {j : Nat} : ∀ n, j < n → (cSps ha hb cI f n)[2 * j]? = some (ha j, .inr (4, [.ref (hb j), .int (f j).2.1, .int (f j).2.2.1, .int (f j).2.2.2.1, .int (f j).2.2.2.2]))
  | 0, h => absurd h (Nat.not_lt_zero j)
  | n + 1, h => by
    have hl := cSps_len ha hb cI f n
    rw [cSps]
    rcases Nat.lt_or_ge j n with q | q
    · rw [List.getElem?_append_left (by omega)]
      exact cSps_get0 ha hb cI f n q
    · have e : j = n := by omega
      subst e
      rw [List.getElem?_append_right (by omega), hl, Nat.sub_self]
      rfl
theorem cSps_get1 (ha hb : Nat → Nat) (cI : ClassId) (f : Nat → SpS) {j : Nat} : ∀ n, j < n → (cSps ha hb cI f n)[2 * j + 1]? = some (hb j, .inl (cI, 4, .inl (f j).1))
  | 0, h => absurd h (Nat.not_lt_zero j)
  | n + 1, h => by
    have hl := cSps_len ha hb cI f n
    rw [cSps]
    rcases Nat.lt_or_ge j n with q | q
    · rw [List.getElem?_append_left (by omega)]
      exact cSps_get1 ha hb cI f n q
    · have e : j = n := by omega
      subst e
      rw [List.getElem?_append_right (by omega), hl, show 2 * j + 1 - 2 * j = 1 by omega]
      rfl
theorem cSps_congr (ha hb : Nat → Nat) (cI : ClassId) {f g : Nat → SpS} : ∀ n, (∀ j, j < n → f j = g j) → cSps ha hb cI f n = cSps ha hb cI g n
  | 0, _ => rfl
  | n + 1, h => by rw [cSps, cSps, cSps_congr ha hb cI n (fun j hj => h j (by omega)), h n (by omega)]
theorem cSps_set (ha hb : Nat → Nat) (cI : ClassId) (f : Nat → SpS) (x : SpS) {j : Nat} : ∀ n, j < n → ((cSps ha hb cI f n).set (2 * j) (ha j, .inr (4, [.ref (hb j), .int x.2.1, .int x.2.2.1, .int x.2.2.2.1, .int x.2.2.2.2]))).set (2 * j + 1) (hb j, .inl (cI, 4, .inl x.1)) = cSps ha hb cI (va_up f j x) n
  | 0, h => absurd h (Nat.not_lt_zero j)
  | n + 1, h => by
    have hl := cSps_len ha hb cI f n
    rw [cSps, cSps]
    rcases Nat.lt_or_ge j n with q | q
    · rw [List.set_append_left _ _ (by omega), List.set_append_left _ _ (by rw [List.length_set]; omega), cSps_set ha hb cI f x n q, up_n (by omega)]
    · have e : j = n := by omega
      subst e
      rw [List.set_append_right _ _ (by omega), List.set_append_right _ _ (by omega), hl, Nat.sub_self, show 2 * j + 1 - 2 * j = 1 by omega, up_s, cSps_congr ha hb cI j (g := va_up f j x) (fun k hk => by rw [up_n (by omega)])]
      rfl
theorem pl0 {ha hb : Nat → Nat} {cI : ClassId} {f : Nat → SpS} {n j B : Nat} {pre : va_W} (hB : pre.length = B) (h : j < n) : (pre ++ cSps ha hb cI f n)[B + 2 * j]? = some (ha j, .inr (4, [.ref (hb j), .int (f j).2.1, .int (f j).2.2.1, .int (f j).2.2.2.1, .int (f j).2.2.2.2])) := by
  rw [List.getElem?_append_right (by omega), hB, Nat.add_sub_cancel_left]
  exact cSps_get0 ha hb cI f n h
theorem pl1 {ha hb : Nat → Nat} {cI : ClassId} {f : Nat → SpS} {n j B : Nat} {pre : va_W} (hB : pre.length = B) (h : j < n) : (pre ++ cSps ha hb cI f n)[B + 2 * j + 1]? = some (hb j, .inl (cI, 4, .inl (f j).1)) := by
  rw [List.getElem?_append_right (by omega), hB, show B + 2 * j + 1 - B = 2 * j + 1 by omega]
  exact cSps_get1 ha hb cI f n h
theorem ups_pool {ha hb : Nat → Nat} {cI : ClassId} {f : Nat → SpS} {n j B : Nat} {pre es : va_W} {is : List Nat} {x : SpS} (hB : pre.length = B) (h : j < n) : ups (pre ++ cSps ha hb cI f n) ((B + 2 * j) :: (B + 2 * j + 1) :: is) (cSp (ha j) (hb j) cI x ++ es) = ups (pre ++ cSps ha hb cI (va_up f j x) n) is es := by
  show ups (((pre ++ cSps ha hb cI f n).set (B + 2 * j) _).set (B + 2 * j + 1) _) is es = _
  rw [List.set_append_right _ _ (by omega), List.set_append_right _ _ (by omega), hB, Nat.add_sub_cancel_left, show B + 2 * j + 1 - B = 2 * j + 1 by omega]
  congr 2
  exact cSps_set ha hb cI f x n h
theorem va_up_same {α : Type} (f : Nat → α) (j : Nat) : va_up f j (f j) = f := by
  funext k
  by_cases hk : k = j
  · subst hk; exact up_s
  · exact up_n hk
theorem ups_poolS {ha hb : Nat → Nat} {cI : ClassId} {f : Nat → SpS} {n j B : Nat} {pre es : va_W} {is : List Nat} (hB : pre.length = B) (h : j < n) : ups (pre ++ cSps ha hb cI f n) ((B + 2 * j) :: (B + 2 * j + 1) :: is) (cSp (ha j) (hb j) cI (f j) ++ es) = ups (pre ++ cSps ha hb cI f n) is es := by
  rw [ups_pool hB h, va_up_same]
theorem ups_poolN {ha hb : Nat → Nat} {cI : ClassId} {f : Nat → SpS} {n j j' B : Nat} {pre es : va_W} {is : List Nat} {x : SpS} (hB : pre.length = B) (h : j < n) (hne : j ≠ j') : ups (pre ++ cSps ha hb cI (va_up f j' x) n) ((B + 2 * j) :: (B + 2 * j + 1) :: is) (cSp (ha j) (hb j) cI (f j) ++ es) = ups (pre ++ cSps ha hb cI (va_up f j' x) n) is es := by
  rw [ups_pool hB h]
  have e : va_up (va_up f j' x) j (f j) = va_up f j' x := by
    have h1 := va_up_same (va_up f j' x) j
    rw [up_n hne] at h1
    exact h1
  rw [e]
/-- places B, B + 1, .. -/
def rng (B : Nat) : Nat → List Nat
  | 0 => []
  | n + 1 => B :: rng (B + 1) n
theorem rng_len (B : Nat) : ∀ n, (rng B n).length = n
  | 0 => rfl
  | n + 1 => by rw [rng, List.length_cons, rng_len (B + 1) n]
theorem rng_map (pre : va_W) : ∀ (pool : va_W), (rng pre.length pool.length).map (fun i => (pre ++ pool)[i]?) = pool.map some
  | [] => rfl
  | e :: pool => by
    have h := rng_map (pre ++ [e]) pool
    rw [List.length_append, List.append_assoc] at h
    show (pre ++ e :: pool)[pre.length]? :: (rng (pre.length + 1) pool.length).map (fun i => (pre ++ e :: pool)[i]?) = some e :: pool.map some
    rw [List.getElem?_append_right (Nat.le_refl _), Nat.sub_self]
    exact congrArg (fun z => some e :: z) h
theorem rng_ups : ∀ (pool pool' pre : va_W), pool.length = pool'.length → ups (pre ++ pool) (rng pre.length pool.length) pool' = pre ++ pool'
  | [], [], pre, _ => rfl
  | e :: pool, e' :: pool', pre, h => by
    show ups ((pre ++ e :: pool).set pre.length e') (rng (pre.length + 1) pool.length) pool' = pre ++ e' :: pool'
    rw [List.set_append_right _ _ (Nat.le_refl _), Nat.sub_self]
    have h1 := rng_ups pool pool' (pre ++ [e']) (by simpa using h)
    rw [List.length_append, List.append_assoc, List.append_assoc] at h1
    exact h1
  | [], _ :: _, _, h => by simp at h
  | _ :: _, [], _, h => by simp at h
theorem ups_app : ∀ (i1 : List Nat) (e1 : va_W) (i2 : List Nat) (e2 ws : va_W), i1.length = e1.length → ups ws (i1 ++ i2) (e1 ++ e2) = ups (ups ws i1 e1) i2 e2
  | [], [], i2, e2, ws, _ => by simp [ups]
  | i :: i1, e :: e1, i2, e2, ws, h => by
    show ups (ws.set i e) (i1 ++ i2) (e1 ++ e2) = ups (ups (ws.set i e) i1 e1) i2 e2
    exact ups_app i1 e1 i2 e2 _ (by simpa using h)
  | [], _ :: _, _, _, _, h => by simp at h
  | _ :: _, [], _, _, _, h => by simp at h
theorem blkC {pre wp : va_W} {ha hb : Nat → Nat} {cI : ClassId} {f : Nat → SpS} {n B : Nat} {is : List Nat} (hB : pre.length = B) (h : is.map (fun i => (pre ++ cSps ha hb cI f n)[i]?) = wp.map some) : (is ++ rng B (2 * n)).map (fun i => (pre ++ cSps ha hb cI f n)[i]?) = (wp ++ cSps ha hb cI f n).map some := by
  rw [List.map_append, List.map_append, h]
  have h1 := rng_map pre (cSps ha hb cI f n)
  rw [hB, cSps_len] at h1
  rw [h1]
theorem blkU {pre pre' wp' : va_W} {ha hb : Nat → Nat} {cI : ClassId} {f g : Nat → SpS} {n B : Nat} {is : List Nat} (hB : pre'.length = B) (hl : is.length = wp'.length) (h : ups (pre ++ cSps ha hb cI f n) is wp' = pre' ++ cSps ha hb cI f n) : ups (pre ++ cSps ha hb cI f n) (is ++ rng B (2 * n)) (wp' ++ cSps ha hb cI g n) = pre' ++ cSps ha hb cI g n := by
  rw [ups_app _ _ _ _ _ hl, h]
  have h1 := rng_ups (cSps ha hb cI f n) (cSps ha hb cI g n) pre' (by rw [cSps_len, cSps_len])
  rw [hB, cSps_len] at h1
  exact h1
theorem cSps_fst (ha hb : Nat → Nat) (cI : ClassId) (f g : Nat → SpS) : ∀ n, (cSps ha hb cI f n).map Prod.fst = (cSps ha hb cI g n).map Prod.fst
  | 0 => rfl
  | n + 1 => by rw [cSps, cSps, List.map_append, List.map_append, cSps_fst ha hb cI f g n]; rfl
theorem blkA {wp wp' : va_W} {ha hb : Nat → Nat} {cI : ClassId} {f g : Nat → SpS} {n : Nat} (h : wp'.map Prod.fst = wp.map Prod.fst) : (wp' ++ cSps ha hb cI g n).map Prod.fst = (wp ++ cSps ha hb cI f n).map Prod.fst := by
  rw [List.map_append, List.map_append, h, cSps_fst ha hb cI g f n]
theorem cC {ws w0 : va_W} {i : Nat} {is : List Nat} {e : Nat × va_E} (h1 : ws[i]? = some e) (h2 : is.map (fun i => ws[i]?) = w0.map some) : (i :: is).map (fun i => ws[i]?) = (e :: w0).map some := by rw [List.map_cons, List.map_cons, h1, h2]
def cAc (h r : Nat) (ha : Nat → Nat) (cS : ClassId) (fi mn : Int32) : va_W := [(h, .inr (0, [.ref r, .int fi, .int mn])), (r, .inl (cS, 14, .inr (.inr (.inr (.inr (fun j => some (ha j)))))))]
def cSe (h r : Nat) (ha : Nat → Nat) (cS : ClassId) (bo fo ro : Int32) : va_W := [(h, .inr (2, [.ref r, .int bo, .int fo, .int ro])), (r, .inl (cS, 6, .inr (.inr (.inr (.inr (fun j => some (ha j)))))))]
def cSl (r : Nat) (ha : Nat → Nat) (cS : ClassId) : va_W := [(r, .inl (cS, 2, .inr (.inr (.inr (.inr (fun j => some (ha j)))))))]
def cTT (h text now spare acts slots sights search pairs worth : Nat) (tray draft : Nat) (letters kept : Int32) (seed : Int64) : va_W := [(h, .inr (6, [.ref text, .int letters, .ref tray, .ref draft, .ref now, .ref spare, .ref acts, .ref slots, .int kept, .ref sights, .ref search, .ref pairs, .ref worth, .long seed]))]
