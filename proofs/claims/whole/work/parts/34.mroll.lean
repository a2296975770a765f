/-! the reference's tilt is tiltK -/
def nrF (x : Int32) (c : Nat) : Nat → Nat → Bool → Bool
  | 0, _, a => a
  | n + 1, v, a => nrF x c n (v + 1) (a || (match nxt c v with
    | none => false
    | some d => bt x d))
def nearB (x : Int32) (c : Nat) : Bool := nrF x c 4 0 false
/-- the reference's block b of now holds k; th: who is there -/
def MR (mb : Nat) (th : Int32) (now : Nat → Int32) (b : Nat) (k : KS) : Prop := (∀ j, j < 4 → k.1 j = if j < mb ∧ bt th j = true then now (7 * b + j) else -1) ∧ k.2.1 = now (7 * b + 4) ∧ k.2.2 = now (7 * b + 5) ∧ ∀ j, j < mb → bt th j = true → ¬ k.1 j = -1
/-- both trays are alike -/
def RT (tr : TrS) (mb : Nat) (mm : Int32) (mk mt : Nat → Int32) : Prop := tr.2.2.2.1 = nI mb ∧ mm = nI mb ∧ mb ≤ 4 ∧ (∀ j, j < mb → mk j = tr.2.1 j) ∧ mt 0 = tr.1 1 ∧ mt 1 = tr.1 2 ∧ mt 2 = tr.1 3 ∧ mt 3 = tr.1 4 ∧ mt 4 = tr.1 0 ∧ (∀ c, c < 25 → bt tr.2.2.2.2 c = nearB (tr.1 4) c) ∧ ∀ p, p < 5 → ∀ c, 25 ≤ c → bt (tr.1 p) c = false
theorem ixm (b j : Nat) : (7 * nI b) + nI j = nI (7 * b + j) := by
  rw [show (7 : Int32) = nI 7 from rfl, pk_mul, nI_add]
theorem b1_and (b : Bool) : b1 b &&& 1 = b1 b := by cases b <;> decide
theorem tw_near4 {mt : Nat → Int32} {c : Nat} (hc : c < 25) : ∀ (n v : Nat) (a : Bool), v ≤ 4 → 4 - v < n → tw_X7_nearMagnet_4 mt (nI c) n (b1 a) (nI v) = some (b1 (nrF (mt 3) c (4 - v) v a)) := by
  intro n
  induction n with
  | zero => intro v a h1 h2; omega
  | succ n ih =>
    intro v a h1 h2
    rw [tw_X7_nearMagnet_4]
    by_cases hv : v = 4
    · subst hv
      rw [if_pos (by decide), if_pos (b1_and a), Nat.sub_self, nrF]
    · have hv4 : v < 4 := by omega
      rw [if_neg (show ¬ (4 : Int32) ≤ nI v from nI_ge (b := 4) hv4 (by omega)), tw_onward c hc v hv4, Option.bind_some, t3, show 4 - v = (4 - (v + 1)) + 1 by omega, nrF]
      have e := fun a => ih (v + 1) a (by omega) (by omega)
      simp only [← nI_1] at e
      cases a with
      | true =>
        rw [if_neg (b1_ne rfl)]
        have e1 := e true
        rw [Bool.true_or]
        exact e1
      | false =>
        rw [if_pos (by decide), Bool.false_or]
        cases hn : nxt c v with
        | none =>
          rw [if_pos (show o9 none = -9 from rfl)]
          exact e false
        | some d =>
          have hd := nxt_lt hc hv4 hn
          rw [if_neg (show ¬ o9 (some d) = -9 from o9_m d hd), show o9 (some d) = nI d from rfl, tw_has _ d (by omega), Option.bind_some]
          cases hb : bt (mt 3) d with
          | true =>
            rw [if_neg (b1_ne rfl)]
            show _ = some (b1 (nrF (mt 3) c (4 - (v + 1)) (v + 1) (bt (mt 3) d)))
            rw [hb]
            exact e true
          | false =>
            rw [if_pos (by decide)]
            show _ = some (b1 (nrF (mt 3) c (4 - (v + 1)) (v + 1) (bt (mt 3) d)))
            rw [hb]
            exact e false
theorem tw_near {mt : Nat → Int32} {c : Nat} (hc : c < 25) : tw_X7_nearMagnet mt (nI c) = some (b1 (nearB (mt 3) c)) := tw_near4 hc 5 0 false (by omega) (by omega)
theorem tw_isThere {now : Nat → Int32} {th : Int32} {b j : Nat} (hb : b < 2) (hj : j < 4) : tw_X7_isThere now th (nI b) (nI j) = some (b1 (bt th j && decide (now (7 * b + j) < 100))) := by
  rw [tw_X7_isThere, tw_has _ j (by omega), Option.bind_some, ixm, nI_clamp (by omega), if_pos (ix_nI (by omega) (by omega))]
  cases bt th j with
  | false => rfl
  | true =>
    rw [if_neg (b1_ne rfl), Bool.true_and]
    by_cases h : now (7 * b + j) < 100
    · rw [if_neg (fun q => by exact absurd h (Int32.not_lt.mpr q)), decide_eq_true h]; rfl
    · rw [if_pos (Int32.not_lt.mp h), decide_eq_false h]; rfl
def faF (f : Nat → Int32) (x : Int32) : Nat → Nat → Int32
  | 0, _ => -9
  | n + 1, m => if f m = x then nI m else faF f x n (m + 1)
theorem faF_no {f : Nat → Int32} {x : Int32} : ∀ (n m : Nat), m + n ≤ 25 → (faF f x n m = -9 ↔ ∀ j, m ≤ j → j < m + n → ¬ f j = x)
  | 0, m, _ => ⟨fun _ j h1 h2 => by omega, fun _ => rfl⟩
  | n + 1, m, h => by
    rw [faF]
    by_cases hx : f m = x
    · rw [if_pos hx]
      exact ⟨fun q => absurd q (o9_m m (by omega)), fun q => absurd hx (q m (Nat.le_refl _) (by omega))⟩
    · rw [if_neg hx, faF_no n (m + 1) (by omega)]
      constructor
      · intro q j h1 h2
        by_cases hj : j = m
        · subst hj; exact hx
        · exact q j (by omega) (by omega)
      · intro q j h1 h2
        exact q j (by omega) (by omega)
theorem faF_end {f : Nat → Int32} {x : Int32} : ∀ (n m e : Nat), (∀ j, m + n ≤ j → j < m + n + e → ¬ f j = x) → faF f x (n + e) m = faF f x n m
  | 0, m, 0, _ => rfl
  | 0, m, e + 1, h => by
    rw [Nat.zero_add, show faF f x (e + 1) m = (if f m = x then nI m else faF f x e (m + 1)) from rfl, if_neg (h m (by omega) (by omega))]
    have h1 := faF_end (f := f) (x := x) 0 (m + 1) e (fun j a b => h j (by omega) (by omega))
    rw [Nat.zero_add] at h1
    rw [h1]
    rfl
  | n + 1, m, e, h => by
    rw [show n + 1 + e = (n + e) + 1 by omega, faF, faF, faF_end n (m + 1) e (fun j a b => h j (by omega) (by omega))]
theorem MR.at {mb : Nat} {th : Int32} {now : Nat → Int32} {b : Nat} {k : KS} (h : MR mb th now b k) {j d : Nat} (hj : j < mb) (h4 : mb ≤ 4) (hd : d < 25) : (bt th j && decide (now (7 * b + j) < 100)) = true ∧ now (7 * b + j) = nI d ↔ k.1 j = nI d := by
  rw [h.1 j (by omega)]
  cases ht : bt th j with
  | false =>
    rw [if_neg (fun q => by cases q.2)]
    simp only [Bool.false_and]
    exact ⟨fun q => (by cases q.1), fun q => absurd q (m_ne_c d hd)⟩
  | true =>
    rw [if_pos ⟨hj, rfl⟩]
    simp only [Bool.true_and, decide_eq_true_eq]
    exact ⟨fun q => q.2, fun q => ⟨by rw [q]; exact lt100 d hd, q⟩⟩
theorem tw_marbleAt2 {mm : Int32} {mb : Nat} {th : Int32} {now : Nat → Int32} {b d : Nat} {k : KS} (hmm : mm = nI mb) (h4 : mb ≤ 4) (hb : b < 2) (hd : d < 25) (hR : MR mb th now b k) : ∀ (n m : Nat), m ≤ mb → mb - m < n → tw_X7_marbleAt_2 mm now th (nI b) (nI d) n (nI m) = some (faF k.1 (nI d) (mb - m) m) := by
  intro n
  induction n with
  | zero => intro m h1 h2; omega
  | succ n ih =>
    intro m h1 h2
    rw [tw_X7_marbleAt_2, hmm]
    by_cases hm : m < mb
    · rw [if_neg (nI_ge hm (by omega)), tw_isThere hb (by omega), Option.bind_some, ixm, nI_clamp (by omega), if_pos (ix_nI (by omega) (by omega)), show mb - m = (mb - (m + 1)) + 1 by omega, faF]
      have e := ih (m + 1) (by omega) (by omega)
      rw [← nI_1, hmm] at e
      have ha := hR.at hm h4 hd
      cases hq : (bt th m && decide (now (7 * b + m) < 100)) with
      | false =>
        rw [hq] at ha
        rw [if_pos (by decide), if_neg (fun q => by cases (ha.mpr q).1), e]
      | true =>
        rw [hq] at ha
        rw [if_neg (b1_ne rfl)]
        by_cases hz : now (7 * b + m) = nI d
        · rw [if_pos hz, if_pos (ha.mp ⟨rfl, hz⟩)]
        · rw [if_neg hz, if_neg (fun q => hz (ha.mpr q).2), e]
    · have e : m = mb := by omega
      subst e
      rw [if_pos (nI_le (Nat.le_refl m) (by omega)), Nat.sub_self, faF]
theorem MR.away {mb : Nat} {th : Int32} {now : Nat → Int32} {b : Nat} {k : KS} (h : MR mb th now b k) {j : Nat} (hj : mb ≤ j) (h4 : j < 4) : k.1 j = -1 := by
  rw [h.1 j h4, if_neg (fun q => by omega)]
theorem tw_mAt {mm : Int32} {mb : Nat} {th : Int32} {now : Nat → Int32} {b d : Nat} {k : KS} (hmm : mm = nI mb) (h4 : mb ≤ 4) (hb : b < 2) (hd : d < 25) (hR : MR mb th now b k) : tw_X7_marbleAt mm now th (nI b) (nI d) = some (faF k.1 (nI d) 4 0) := by
  have e := tw_marbleAt2 hmm h4 hb hd hR 6 0 (Nat.zero_le _) (by omega)
  rw [Nat.sub_zero] at e
  have e2 := faF_end (f := k.1) (x := nI d) mb 0 (4 - mb) (fun j a c => by rw [hR.away (by omega) (by omega)]; exact m_ne_c d hd)
  rw [show mb + (4 - mb) = 4 by omega] at e2
  rw [e2]
  exact e
theorem fa_occ {f : Nat → Int32} {d : Nat} : faF f (nI d) 4 0 = -9 ↔ occ f d = false := by
  rw [faF_no 4 0 (by omega)]
  constructor
  · intro h
    cases hq : occ f d with
    | false => rfl
    | true =>
      obtain ⟨j, hj, e⟩ := occ_iff.mp hq
      exact absurd e (h j (by omega) (by omega))
  · intro h j _ hj q
    rw [occ_iff.mpr ⟨j, by omega, q⟩] at h
    cases h
theorem tw_mcanBe {tr : TrS} {mm : Int32} {mk mt : Nat → Int32} {mb : Nat} {th : Int32} {now : Nat → Int32} {b d : Nat} {k : KS} (hT : RT tr mb mm mk mt) (hb : b < 2) (hd : d < 25) (hR : MR mb th now b k) : tw_X7_canBe mm mt now th (nI b) (nI d) = some (b1 (!blk tr k d)) := by
  obtain ⟨h1, h2, h3, h4, h5, h6, h7, h8, h9, h10, h11⟩ := hT
  rw [tw_X7_canBe, if_neg (o9_m d hd), show (7 * nI b + 5 : Int32) = nI (7 * b + 5) from ixm b 5, nI_clamp (by omega), if_pos (ix_nI (by omega) (by omega)), tw_has _ d (by omega), Option.bind_some, t0, t3, b_or, b_or, h5, h8, tw_mAt h2 h3 hb hd hR, Option.bind_some, ← hR.2.2.1]
  unfold blk
  cases ho : occ k.1 d with
  | false =>
    rw [if_pos (fa_occ.mpr ho)]
    cases bt (tr.1 1) d <;> cases bt (tr.1 4) d <;> cases bt k.2.2 d <;> rfl
  | true =>
    rw [if_neg (show ¬ faF k.1 (nI d) 4 0 = -9 from fun q => by rw [fa_occ.mp q] at ho; cases ho)]
    cases bt (tr.1 1) d <;> cases bt (tr.1 4) d <;> cases bt k.2.2 d <;> rfl
theorem tw_mOpen {tr : TrS} {mm : Int32} {mk mt : Nat → Int32} {mb : Nat} {th : Int32} {now : Nat → Int32} {b d : Nat} {k : KS} (hT : RT tr mb mm mk mt) (hb : b < 2) (hd : d < 25) (hR : MR mb th now b k) : tw_X7_isOpen mt now (nI b) (nI d) = some (b1 (opn tr k d)) := by
  obtain ⟨h1, h2, h3, h4, h5, h6, h7, h8, h9, h10, h11⟩ := hT
  rw [tw_X7_isOpen, t1, tw_has _ d (by omega), Option.bind_some, show (7 * nI b + 4 : Int32) = nI (7 * b + 4) from ixm b 4, nI_clamp (by omega), if_pos (ix_nI (by omega) (by omega)), tw_has _ d (by omega), Option.bind_some, h6, ← hR.2.1]
  unfold opn
  cases bt (tr.1 2) d <;> cases bt k.2.1 d <;> rfl
/-- the reference's 'stopped', and the class's -/
def SR (mb : Nat) (k : KS) (st sm : Int32) : Prop := ∀ j, j < mb → bt st j = (bt sm j || (cel (k.1 j)).isNone)
