def inH (x : Int32) : Bool := decide (¬ x < 100)
def fcF (f : Nat → Int32) : Nat → Nat → Nat
  | 0, _ => 0
  | n + 1, m => (if inH (f m) = true then 1 else 0) + fcF f n (m + 1)
/-- how many are in holes -/
def fallK (k : KS) : Nat := fcF k.1 4 0
theorem fcF_end {f : Nat → Int32} : ∀ (n m e : Nat), (∀ j, m + n ≤ j → j < m + n + e → inH (f j) = false) → fcF f (n + e) m = fcF f n m
  | 0, m, 0, _ => rfl
  | 0, m, e + 1, h => by
    have h1 := fcF_end (f := f) 0 (m + 1) e (fun j a b => h j (by omega) (by omega))
    rw [Nat.zero_add] at h1
    rw [Nat.zero_add, show fcF f (e + 1) m = (if inH (f m) = true then 1 else 0) + fcF f e (m + 1) from rfl, h1, h m (by omega) (by omega)]
    rfl
  | n + 1, m, e, h => by
    rw [show n + 1 + e = (n + e) + 1 by omega, fcF, fcF, fcF_end n (m + 1) e (fun j a b => h j (by omega) (by omega))]
theorem add_0 (x : Int32) : x + 0 = x := Int32.add_zero x
theorem MR.cong {mb : Nat} {th : Int32} {now now' : Nat → Int32} {b : Nat} {k : KS} (h : MR mb th now b k) (e : ∀ i, 7 * b ≤ i → i < 7 * b + 6 → now' i = now i) : MR mb th now' b k := by
  refine ⟨fun j hj => ?_, ?_, ?_, h.2.2.2⟩
  · rw [e (7 * b + j) (by omega) (by omega)]; exact h.1 j hj
  · rw [e (7 * b + 4) (by omega) (by omega)]; exact h.2.1
  · rw [e (7 * b + 5) (by omega) (by omega)]; exact h.2.2.1
theorem tw_mfallen4 {mm : Int32} {mb : Nat} {th : Int32} {now : Nat → Int32} {b : Nat} {k : KS} (hmm : mm = nI mb) (h4 : mb ≤ 4) (hb : b < 2) (hR : MR mb th now b k) : ∀ (n m a : Nat), m ≤ mb → mb - m < n → tw_X7_fallen_4 mm now th (nI b) n (nI a) (nI m) = some (nI (a + fcF k.1 (mb - m) m)) := by
  intro n
  induction n with
  | zero => intro m a h1 h2; omega
  | succ n ih =>
    intro m a h1 h2
    rw [tw_X7_fallen_4, hmm]
    by_cases hm : m < mb
    · rw [if_neg (nI_ge hm (by omega)), tw_has _ m (by omega), Option.bind_some, ixm, nI_clamp (by omega), if_pos (ix_nI (by omega) (by omega)), show mb - m = (mb - (m + 1)) + 1 by omega, fcF, add_0]
      have e1 := ih (m + 1) a (by omega) (by omega)
      have e2 := ih (m + 1) (a + 1) (by omega) (by omega)
      rw [← nI_1 m, hmm] at e1 e2
      have hk := hR.1 m (by omega)
      cases ht : bt th m with
      | false =>
        rw [ht, if_neg (fun q => by cases q.2)] at hk
        rw [if_pos (by decide), e1, hk, show inH (-1) = false by decide]
        simp
      | true =>
        rw [ht, if_pos ⟨hm, rfl⟩] at hk
        rw [if_neg (b1_ne rfl), ← hk]
        unfold inH
        by_cases hz : k.1 m < 100
        · rw [if_pos hz, e1]
          simp [hz]
        · rw [if_neg hz, nI_1 a, e2]
          simp only [hz, not_false_eq_true, decide_true, if_true]
          rw [Nat.add_assoc]
    · have e : m = mb := by omega
      subst e
      rw [if_pos (nI_le (Nat.le_refl m) (by omega)), Nat.sub_self, fcF, Nat.add_zero]
theorem tw_mfallen {mm : Int32} {mb : Nat} {th : Int32} {now : Nat → Int32} {b : Nat} {k : KS} (hmm : mm = nI mb) (h4 : mb ≤ 4) (hb : b < 2) (hR : MR mb th now b k) : tw_X7_fallen mm now th (nI b) = some (nI (fallK k)) := by
  have e := tw_mfallen4 hmm h4 hb hR 6 0 0 (Nat.zero_le _) (by omega)
  rw [Nat.sub_zero, Nat.zero_add] at e
  have e2 := fcF_end (f := k.1) mb 0 (4 - mb) (fun j a c => by rw [hR.away (by omega) (by omega)]; decide)
  rw [show mb + (4 - mb) = 4 by omega] at e2
  unfold fallK
  rw [e2]
  exact e
theorem tw_isIn {sp : SpS} {j : Nat} (hj : j < 4) : tw_X4_isIn sp (nI j) = some (b1 (inH (sp.1 j))) := by
  rw [tw_X4_isIn, if_pos (ix_nI hj (by omega)), nI_clamp (by omega)]
  unfold inH
  by_cases h : sp.1 j < 100
  · rw [if_pos h]; simp [h, b1]
  · rw [if_neg h]; simp [h, b1]
theorem fo_step (sp : SpS) (p x : Int32) (n : Nat) {m : Nat} (hm : m < 4) : tw_X4_fallenOf_4 sp p (n + 1) x (nI m) = tw_X4_fallenOf_4 sp p n (if inH (sp.1 m) = true then x + 1 else x) (nI (m + 2)) := by
  rw [tw_X4_fallenOf_4, if_neg (show ¬ (4 : Int32) ≤ nI m from nI_ge (b := 4) hm (by omega)), tw_isIn hm, Option.bind_some, show nI m + 2 = nI (m + 2) from nI_add m 2]
  cases inH (sp.1 m) <;> rfl
theorem fo_end (sp : SpS) (p x : Int32) (n : Nat) {m : Nat} (hm : 4 ≤ m) (h : m < 100) : tw_X4_fallenOf_4 sp p (n + 1) x (nI m) = some x := by
  rw [tw_X4_fallenOf_4, if_pos (show (4 : Int32) ≤ nI m from nI_le (a := 4) hm (by omega))]
theorem tw_fallenOf0 (sp : SpS) : tw_X4_fallenOf sp 0 = some (nI ((if inH (sp.1 0) = true then 1 else 0) + (if inH (sp.1 2) = true then 1 else 0))) := by
  show tw_X4_fallenOf_4 sp 0 5 (nI 0) (nI 0) = _
  rw [fo_step sp 0 _ 4 (show 0 < 4 by omega), fo_step sp 0 _ 3 (show 0 + 2 < 4 by omega), fo_end sp 0 _ 2 (by omega) (by omega)]
  cases inH (sp.1 0) <;> cases h : inH (sp.1 2) <;> simp [h] <;> rfl
theorem tw_fallenOf1 (sp : SpS) : tw_X4_fallenOf sp 1 = some (nI ((if inH (sp.1 1) = true then 1 else 0) + (if inH (sp.1 3) = true then 1 else 0))) := by
  show tw_X4_fallenOf_4 sp 1 5 (nI 0) (nI 1) = _
  rw [fo_step sp 1 _ 4 (show 1 < 4 by omega), fo_step sp 1 _ 3 (show 1 + 2 < 4 by omega), fo_end sp 1 _ 2 (by omega) (by omega)]
  cases inH (sp.1 1) <;> cases h : inH (sp.1 3) <;> simp [h] <;> rfl
theorem tw_fallen {sp : SpS} {k : KS} (hR : CR sp k) : tw_X4_fallen sp = some (nI (fallK k)) := by
  rw [tw_X4_fallen, tw_fallenOf0, Option.bind_some, tw_fallenOf1, Option.bind_some, nI_add, hR.1 0 (by omega), hR.1 1 (by omega), hR.1 2 (by omega), hR.1 3 (by omega)]
  show _ = some (nI ((if inH (k.1 0) = true then 1 else 0) + ((if inH (k.1 1) = true then 1 else 0) + ((if inH (k.1 2) = true then 1 else 0) + ((if inH (k.1 3) = true then 1 else 0) + 0)))))
  congr 2
  omega
theorem m_round {tr : TrS} {mm : Int32} {mk mt : Nat → Int32} {mb : Nat} {th : Int32} {b w : Nat} (hT : RT tr mb mm mk mt) (hb : b < 2) (hw : w < 4) (K : Int32 → Int32 → Int32 → (Nat → Int32) → Int32 → Option (Int32 × (Nat → Int32) × Int32)) (ba had : Int32) :
    ∀ (n m : Nat) (wt : Bool) (k : KS) (st : Int32) (now : Nat → Int32) (sm : Int32), m ≤ mb → mb - m < n → VK k → MR mb th now b k → SR mb k st sm →
      ∃ now' sm', tw_X7_tiltOn_103 mm mk mt th (nI b) (nI w) K n ba had (b1 wt) (nI m) now sm = K ba had (b1 (rdK tr w (mb - m) m k st wt).2.2) now' sm' ∧ MR mb th now' b (rdK tr w (mb - m) m k st wt).1 ∧ SR mb (rdK tr w (mb - m) m k st wt).1 (rdK tr w (mb - m) m k st wt).2.1 sm' ∧ ∀ i, (i < 7 * b ∨ 7 * b + 6 ≤ i) → now' i = now i := by
  intro n
  induction n with
  | zero => intro m wt k st now sm h1 h2; omega
  | succ n ih =>
    intro m wt k st now sm h1 h2 hV hR hS
    rw [tw_X7_tiltOn_103, hT.2.1]
    by_cases hm : m < mb
    · rw [if_neg (nI_ge hm (by have := hT.2.2.1; omega)), show mb - m = (mb - (m + 1)) + 1 by omega, rdK, ← hT.2.1]
      obtain ⟨g1, g2⟩ := m_step hT hb hm hw hV hR hS
      cases hs : stepK tr w m k st with
      | none =>
        rw [g1 hs, Option.bind_some]
        obtain ⟨now', sm', e1, e2⟩ := ih (m + 1) wt k st now sm (by omega) (by omega) hV hR hS
        rw [← nI_1] at e1
        refine ⟨now', sm', ?_, e2⟩
        rw [← e1]
        cases wt <;> rfl
      | some q =>
        obtain ⟨k', st'⟩ := q
        obtain ⟨now1, sm1, e1, e2, e3, e4⟩ := g2 k' st' hs
        rw [e1, Option.bind_some]
        obtain ⟨now', sm', f1, f2, f3, f4⟩ := ih (m + 1) true k' st' now1 sm1 (by omega) (by omega) (hV.step (by have := hT.2.2.1; omega) hw hs) e2 e3
        rw [← nI_1] at f1
        refine ⟨now', sm', ?_, f2, f3, fun i hi => (f4 i hi).trans (e4 i hi)⟩
        rw [← f1]
        rfl
    · have e : m = mb := by omega
      subst e
      rw [if_pos (nI_le (Nat.le_refl m) (by have := hT.2.2.1; omega)), Nat.sub_self, rdK]
      exact ⟨now, sm, rfl, hR, hS, fun _ _ => rfl⟩
theorem m_while {tr : TrS} {mm : Int32} {mk mt : Nat → Int32} {mb : Nat} {th : Int32} {b w : Nat} (hT : RT tr mb mm mk mt) (hb : b < 2) (hw : w < 4) (had : Int32) :
    ∀ (n : Nat) (wt : Bool) (k : KS) (st : Int32) (now : Nat → Int32) (sm : Int32), VK k → SK mb k st → MR mb th now b k → SR mb k st sm → (wt = true → mu tr w k < n) →
      ∃ now' sm', tw_X7_tiltOn_92 mm mk mt th (nI b) (nI w) (n + 1) (7 * nI b) had (b1 wt) now sm = some (nI (fallK (itK tr w mb n k st wt)) - had, now', sm') ∧ MR mb th now' b (itK tr w mb n k st wt) ∧ VK (itK tr w mb n k st wt) ∧ now' (7 * b + 6) = now (7 * b + 6) + 1 ∧ ∀ i, (i < 7 * b ∨ 7 * b + 7 ≤ i) → now' i = now i := by
  have ex : ∀ (n : Nat) (k : KS) (now : Nat → Int32) (sm : Int32), MR mb th now b k → VK k → ∃ now' sm', tw_X7_tiltOn_92 mm mk mt th (nI b) (nI w) (n + 1) (7 * nI b) had 0 now sm = some (nI (fallK k) - had, now', sm') ∧ MR mb th now' b k ∧ VK k ∧ now' (7 * b + 6) = now (7 * b + 6) + 1 ∧ ∀ i, (i < 7 * b ∨ 7 * b + 7 ≤ i) → now' i = now i := by
    intro n k now sm hR hV
    have hR' : MR mb th (upd now (7 * b + 6) (now (7 * b + 6) + 1)) b k := hR.cong (fun i h1 h2 => pk_un (by omega))
    refine ⟨upd now (7 * b + 6) (now (7 * b + 6) + 1), sm, ?_, hR', hV, pk_us, fun i hi => pk_un (by omega)⟩
    rw [tw_X7_tiltOn_92, if_pos rfl, show (7 * nI b + 6 : Int32) = nI (7 * b + 6) from ixm b 6, nI_clamp (by omega), if_pos (ix_nI (by omega) (by omega)), if_pos (ix_nI (by omega) (by omega)), tw_mfallen hT.2.1 hT.2.2.1 hb hR']
    rfl
  intro n
  induction n with
  | zero =>
    intro wt k st now sm hV hK hR hS h
    cases wt with
    | true => exact absurd (h rfl) (by omega)
    | false => exact ex 0 k now sm hR hV
  | succ n ih =>
    intro wt k st now sm hV hK hR hS h
    cases wt with
    | false => exact ex (n + 1) k now sm hR hV
    | true =>
      rw [tw_X7_tiltOn_92, if_neg (b1_ne rfl), itK, if_pos rfl]
      obtain ⟨now1, sm1, e1, e2, e3, e4⟩ := m_round hT hb hw (tw_X7_tiltOn_92 mm mk mt th (nI b) (nI w) (n + 1)) (7 * nI b) had 6 0 false k st now sm (Nat.zero_le _) (by have := hT.2.2.1; omega) hV hR hS
      rw [Nat.sub_zero] at e1 e2 e3
      obtain ⟨a1, a2, a3, a4, a5⟩ := rd_ok (tr := tr) hT.2.2.1 hw mb 0 k st false (by omega) hV hK
      obtain ⟨now', sm', f1, f2, f3, f4, f5⟩ := ih (rdK tr w mb 0 k st false).2.2 (rdK tr w mb 0 k st false).1 (rdK tr w mb 0 k st false).2.1 now1 sm1 a1 a2 e2 e3 (fun q => by
        have h1 := h rfl
        rcases a5 q with z | z
        · cases z
        · omega)
      refine ⟨now', sm', ?_, f2, f3, ?_, fun i hi => (f5 i hi).trans (e4 i (by omega))⟩
      · rw [← f1, ← e1]
        rfl
      · rw [f4, e4 (7 * b + 6) (by omega)]
def smB (tr : TrS) (k : KS) (m : Nat) : Bool := match cel (k.1 m) with
  | none => false
  | some c => decide (tr.2.1 m = 1) && bt tr.2.2.2.2 c
def smK (tr : TrS) (k : KS) : Nat → Nat → Int32 → Int32
  | 0, _, st => st
  | n + 1, m, st => smK tr k n (m + 1) (if smB tr k m = true then st ||| bs m else st)
theorem sm_bits {tr : TrS} {k : KS} : ∀ (n m : Nat) (st : Int32) (j : Nat), m + n ≤ 4 → j < 4 → bt (smK tr k n m st) j = (bt st j || (decide (m ≤ j) && (decide (j < m + n) && smB tr k j)))
  | 0, m, st, j, _, _ => by
    rw [smK]
    by_cases h : m ≤ j
    · have h2 : ¬ j < m := by omega
      simp [h2]
    · simp [h]
  | n + 1, m, st, j, h, hj => by
    rw [smK, sm_bits n (m + 1) _ j (by omega) hj]
    have e : bt (if smB tr k m = true then st ||| bs m else st) j = (bt st j || (decide (j = m) && smB tr k m)) := by
      cases smB tr k m with
      | true => rw [if_pos rfl, bt_set (by omega) hj]; simp
      | false => rw [if_neg (by decide)]; simp
    rw [e]
    by_cases hjm : j = m
    · subst hjm
      have h1 : ¬ j + 1 ≤ j := by omega
      have h2 : j < j + (n + 1) := by omega
      simp [h1, h2]
    · by_cases h1 : m ≤ j
      · have h2 : m + 1 ≤ j := by omega
        have h3 : (decide (j < m + 1 + n)) = (decide (j < m + (n + 1))) := decide_eq_decide.mpr (by omega)
        simp [hjm, h1, h2, h3]
      · have h2 : ¬ m + 1 ≤ j := by omega
        simp [hjm, h1, h2]
theorem sm_SR {tr : TrS} {k : KS} {mb : Nat} (h4 : mb ≤ 4) : SR mb k (saK tr k mb 0 0) (smK tr k mb 0 0) := by
  intro j hj
  rw [sa_bits mb 0 0 j (by omega) (by omega), sm_bits mb 0 0 j (by omega) (by omega)]
  unfold shK smB
  cases cel (k.1 j) with
  | none => simp [hj]
  | some c => simp
theorem m_st {tr : TrS} {mm : Int32} {mk mt : Nat → Int32} {mb : Nat} {th : Int32} {now : Nat → Int32} {b w : Nat} {k : KS} (hT : RT tr mb mm mk mt) (hb : b < 2) (hV : VK k) (hR : MR mb th now b k) (had : Int32) :
    ∀ (n m : Nat) (sm : Int32), m ≤ mb → mb - m < n → tw_X7_tiltOn_20 mm mk mt th (nI b) (nI w) n (7 * nI b) had (nI m) now sm = tw_X7_tiltOn_92 mm mk mt th (nI b) (nI w) 20 (7 * nI b) had 1 now (smK tr k (mb - m) m sm) := by
  intro n
  induction n with
  | zero => intro m sm h1 h2; omega
  | succ n ih =>
    intro m sm h1 h2
    have h4 := hT.2.2.1
    rw [tw_X7_tiltOn_20, hT.2.1]
    by_cases hm : m < mb
    · have hkm : mk m = tr.2.1 m := hT.2.2.2.1 m hm
      have e1 := ih (m + 1) sm (by omega) (by omega)
      have e2 := ih (m + 1) (sm ||| bs m) (by omega) (by omega)
      rw [← nI_1, hT.2.1] at e1 e2
      have e78 : tw_X7_tiltOn_78 (nI mb) mk mt th (nI b) (nI w) (tw_X7_tiltOn_20 (nI mb) mk mt th (nI b) (nI w) n) (7 * nI b) had (nI m) sm now sm = tw_X7_tiltOn_92 (nI mb) mk mt th (nI b) (nI w) 20 (7 * nI b) had 1 now (smK tr k (mb - (m + 1)) (m + 1) sm) := by
        rw [tw_X7_tiltOn_78, tw_X7_tiltOn_79, or_0]
        exact e1
      have e79 : tw_X7_tiltOn_79 (nI mb) mk mt th (nI b) (nI w) (tw_X7_tiltOn_20 (nI mb) mk mt th (nI b) (nI w) n) (7 * nI b) had (nI m) sm (1 <<< (nI m &&& 31)) now sm = tw_X7_tiltOn_92 (nI mb) mk mt th (nI b) (nI w) 20 (7 * nI b) had 1 now (smK tr k (mb - (m + 1)) (m + 1) (sm ||| bs m)) := by
        rw [tw_X7_tiltOn_79]
        exact e2
      rw [if_neg (nI_ge hm (by omega)), tw_isThere hb (by omega), Option.bind_some, ixm, nI_clamp (by omega), nI_clamp (by omega), if_pos (ix_nI (by omega) (by omega)), if_pos (ix_nI (by omega) (by omega)), show mb - m = (mb - (m + 1)) + 1 by omega, smK, hkm, e78, e79]
      unfold smB
      cases hc : cel (k.1 m) with
      | none =>
        have ha : (bt th m && decide (now (7 * b + m) < 100)) = false := by
          cases ht : bt th m with
          | false => rfl
          | true =>
            have e := hR.1 m (by omega)
            rw [if_pos ⟨hm, ht⟩] at e
            rcases hV.1 m (by omega) with q | ⟨c, hc5, q⟩ | ⟨c, hc5, q⟩
            · exact absurd q (hR.2.2.2 m hm ht)
            · rw [q, cel_c c hc5] at hc; cases hc
            · rw [← e, q, Bool.true_and]
              exact decide_eq_false (nlt100 c hc5)
        rw [ha, if_pos (by decide)]
        simp
      | some c =>
        obtain ⟨hc5, hp⟩ := cel_some hV (by omega) hc
        obtain ⟨hth, hnow⟩ := (hR.at hm h4 hc5).mpr hp
        have hnr : nearB (mt 3) c = bt tr.2.2.2.2 c := by
          rw [hT.2.2.2.2.2.2.2.1, hT.2.2.2.2.2.2.2.2.2.1 c hc5]
        rw [hth, if_neg (b1_ne rfl), hnow, tw_near hc5, Option.bind_some, hnr]
        by_cases h1 : tr.2.1 m = 1
        · rw [if_pos h1]
          simp only [h1, decide_true, Bool.true_and]
          cases bt tr.2.2.2.2 c <;> rfl
        · rw [if_neg h1]
          simp [h1]
    · have e : m = mb := by omega
      subst e
      rw [if_pos (nI_le (Nat.le_refl m) (by omega)), Nat.sub_self, smK]
/-- the reference's tilt -/
theorem m_tilt {tr : TrS} {mm : Int32} {mk mt : Nat → Int32} {mb : Nat} {th : Int32} {now : Nat → Int32} {b w : Nat} {k : KS} (hT : RT tr mb mm mk mt) (hb : b < 2) (hw : w < 4) (hV : VK k) (hR : MR mb th now b k) (sm0 : Int32) :
    ∃ now' sm', tw_X7_tiltOn mm mk mt now th sm0 (nI b) (nI w) = some (nI (fallK (tiltK tr mb w k)) - nI (fallK k), now', sm') ∧ MR mb th now' b (tiltK tr mb w k) ∧ VK (tiltK tr mb w k) ∧ now' (7 * b + 6) = now (7 * b + 6) + 1 ∧ ∀ i, (i < 7 * b ∨ 7 * b + 7 ≤ i) → now' i = now i := by
  have h4 := hT.2.2.1
  have hmu := mu_le (tr := tr) hV hw
  obtain ⟨now', sm', e1, e2⟩ := m_while hT hb hw (nI (fallK k)) 19 true k (saK tr k mb 0 0) now (smK tr k mb 0 0) hV (sa_SK h4) hR (sm_SR h4) (fun _ => by omega)
  have e17 : itK tr w mb 17 k (saK tr k mb 0 0) true = itK tr w mb 19 k (saK tr k mb 0 0) true :=
    (it_more h4 hw 17 k _ true hV (sa_SK h4) (fun _ => by omega)).trans (it_more h4 hw 18 k _ true hV (sa_SK h4) (fun _ => by omega))
  rw [← e17] at e1 e2
  refine ⟨now', sm', ?_, e2⟩
  have e3 := m_st (w := w) hT hb hV hR (nI (fallK k)) 6 0 0 (Nat.zero_le _) (by omega)
  rw [tw_X7_tiltOn, tw_mfallen hT.2.1 h4 hb hR, Option.bind_some, show (0 : Int32) = nI 0 from rfl] at *
  rw [show tw_X7_tiltOn_20 mm mk mt th (nI b) (nI w) 6 (7 * nI b) (nI (fallK k)) (nI 0) now (nI 0) = _ from e3]
  exact e1
