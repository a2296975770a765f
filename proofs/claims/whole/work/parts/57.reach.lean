/-! reach -/
/-- a marble can come to a cell by at most D tilts -/
def RcP (tr : TrS) (mb m : Nat) (k : KS) (D c : Nat) : Prop := ∃ l F, l ≤ D ∧ F < 4 ^ l ∧ (runK tr mb l F k).1 m = nI c
theorem F_split {r F : Nat} (h : F < 4 ^ (r + 1)) : ∃ w b, w < 4 ∧ b < 4 ^ r ∧ F = w * 4 ^ r + b := by
  have hp : 0 < 4 ^ r := Nat.pow_pos (by omega)
  refine ⟨F / 4 ^ r, F % 4 ^ r, ?_, Nat.mod_lt _ hp, ?_⟩
  · rw [Nat.div_lt_iff_lt_mul hp, Nat.mul_comm]
    rw [Nat.pow_succ] at h
    exact h
  · rw [Nat.mul_comm]
    exact (Nat.div_add_mod F (4 ^ r)).symm
theorem F_join {r w b : Nat} (hw : w < 4) (hb : b < 4 ^ r) : w * 4 ^ r + b < 4 ^ (r + 1) := by
  have h : w * 4 ^ r + 4 ^ r ≤ 4 * 4 ^ r := by
    rw [← Nat.succ_mul]
    exact Nat.mul_le_mul_right _ (by omega)
  rw [Nat.pow_succ, Nat.mul_comm (4 ^ r) 4]
  omega
theorem Rc_0 {tr : TrS} {mb m c : Nat} {k : KS} : RcP tr mb m k 0 c ↔ k.1 m = nI c := by
  constructor
  · rintro ⟨l, F, hl, hF, h⟩
    obtain rfl : l = 0 := by omega
    exact h
  · intro h
    exact ⟨0, 0, by omega, by decide, h⟩
theorem Rc_s {tr : TrS} {mb m c D : Nat} {k : KS} : RcP tr mb m k (D + 1) c ↔ k.1 m = nI c ∨ ∃ w, w < 4 ∧ RcP tr mb m (tiltK tr mb w k) D c := by
  constructor
  · rintro ⟨l, F, hl, hF, h⟩
    cases l with
    | zero => exact Or.inl h
    | succ l =>
      obtain ⟨w, b, hw, hb, rfl⟩ := F_split hF
      rw [run_cons tr mb l w b k hw hb] at h
      exact Or.inr ⟨w, hw, l, b, by omega, hb, h⟩
  · rintro (h | ⟨w, hw, l, b, hl, hb, h⟩)
    · exact ⟨0, 0, by omega, by (rw [Nat.pow_zero]; omega), h⟩
    · exact ⟨l + 1, w * 4 ^ l + b, by omega, F_join hw hb, by rw [run_cons tr mb l w b k hw hb]; exact h⟩
theorem Rc_m {tr : TrS} {mb m c D E : Nat} {k : KS} (h : D ≤ E) : RcP tr mb m k D c → RcP tr mb m k E c := by
  rintro ⟨l, F, hl, hF, q⟩
  exact ⟨l, F, by omega, hF, q⟩
/-- rows that begin with an idle tilt bring nothing more -/
theorem Rc_skip {tr : TrS} {mb m c : Nat} {k : KS} : ∀ D, RcP tr mb m k (D + 1) c → k.1 m = nI c ∨ ∃ w, w < 4 ∧ ¬ tiltK tr mb w k = k ∧ RcP tr mb m (tiltK tr mb w k) D c
  | 0, h => by
    rcases Rc_s.mp h with h | ⟨w, hw, h⟩
    · exact Or.inl h
    · by_cases q : tiltK tr mb w k = k
      · rw [q] at h; exact Or.inl (Rc_0.mp h)
      · exact Or.inr ⟨w, hw, q, h⟩
  | D + 1, h => by
    rcases Rc_s.mp h with h | ⟨w, hw, h⟩
    · exact Or.inl h
    · by_cases q : tiltK tr mb w k = k
      · rw [q] at h
        rcases Rc_skip D h with z | ⟨w', hw', q', z⟩
        · exact Or.inl z
        · exact Or.inr ⟨w', hw', q', Rc_m (by omega) z⟩
      · exact Or.inr ⟨w, hw, q, h⟩
theorem Rc_off {tr : TrS} {mb m c D : Nat} {k : KS} (h4 : mb ≤ 4) (hm : m < 4) (hc : c < 25) (hV : VK k) (h : cel (k.1 m) = none) : ¬ RcP tr mb m k D c := by
  rintro ⟨l, F, hl, hF, q⟩
  rw [run_off h4 hm l F k hV h] at q
  rw [q, cel_c c hc] at h
  cases h
theorem c_gather {tr : TrS} {mb m : Nat} (hmb : tr.2.2.2.1 = nI mb) (h4 : mb ≤ 4) (hm : m < 4) (seb seo sew : Int32) : ∀ (nr d : Nat) (k : KS) (sef : Nat → SpS), d ≤ 4 → 4 - d < nr → CR (sef d) k → VK k →
    ∃ x sef', tw_X2_gatherCells nr sef seb seo sew tr (nI m) (nI d) = some (x, sef') ∧ (∀ j, j ≤ d → sef' j = sef j) ∧ (∀ c, c < 25 → (bt x c = true ↔ RcP tr mb m k (4 - d) c)) ∧ ∀ c, 25 ≤ c → bt x c = false := by
  intro nr
  induction nr with
  | zero => intro d k sef h1 h2; omega
  | succ nr ih =>
    intro d k sef h1 h2 hR hV
    rw [tw_X2_gatherCells, if_pos (ix_nI (by omega) (by omega)), if_pos (ix_nI hm (by omega)), nI_clamp (by omega), nI_clamp (by omega), hR.1 m hm, tw_isCell, Option.bind_some]
    by_cases hx : ix (k.1 m) 25 = true
    · obtain ⟨c0, hc0, e0⟩ := ix_of hx (by omega)
      rw [hx, if_neg (b1_ne rfl), e0]
      have b0 : ∀ c, c < 32 → bt (1 <<< (nI c0 &&& 31)) c = decide (c = c0) := fun c hc => s_bit c0 (by omega) hc
      have b9 : ∀ c, 25 ≤ c → bt (1 <<< (nI c0 &&& 31)) c = false := by
        intro c hc
        rcases Nat.lt_or_ge c 32 with q | q
        · rw [b0 c q, decide_eq_false (by omega)]
        · exact b_big q
      have hc0' : ∀ c, c < 25 → (k.1 m = nI c ↔ c = c0) := fun c hc => by
        rw [e0, nI_inj hc0 hc]; exact eq_comm
      by_cases hd : d = 4
      · subst hd
        rw [if_neg (by decide)]
        refine ⟨_, _, rfl, fun _ _ => rfl, fun c hc => ?_, b9⟩
        rw [b0 c (by omega), decide_eq_true_eq, Nat.sub_self, Rc_0, hc0' c hc]
      · rw [if_pos (show nI d < 4 from nI_lt (b := 4) (by omega) (by omega)), nI_1, if_pos (ix_nI (by omega) (by omega))]
        have loop : ∀ (f w : Nat) (x : Int32) (sef1 : Nat → SpS), w ≤ 4 → 4 - w < f → (∀ j, j ≤ d → sef1 j = sef j) → (∀ c, c < 25 → (bt x c = true ↔ (c = c0 ∨ ∃ w', w' < w ∧ ¬ tiltK tr mb w' k = k ∧ RcP tr mb m (tiltK tr mb w' k) (4 - (d + 1)) c))) → (∀ c, 25 ≤ c → bt x c = false) →
            ∃ x' sef', tw_X2_gatherCells_50 (tw_X2_gatherCells nr) seb seo sew tr (nI m) (nI d) f x (nI w) sef1 = some (x', sef') ∧ (∀ j, j ≤ d → sef' j = sef j) ∧ (∀ c, c < 25 → (bt x' c = true ↔ (c = c0 ∨ ∃ w', w' < 4 ∧ ¬ tiltK tr mb w' k = k ∧ RcP tr mb m (tiltK tr mb w' k) (4 - (d + 1)) c))) ∧ ∀ c, 25 ≤ c → bt x' c = false := by
          intro f
          induction f with
          | zero => intro w x sef1 h1 h2; omega
          | succ f ihf =>
            intro w x sef1 g1 g2 g3 g4 g5
            rw [tw_X2_gatherCells_50]
            by_cases hw : w = 4
            · subst hw
              rw [if_pos (by decide)]
              exact ⟨x, sef1, rfl, g3, g4, g5⟩
            · have hw4 : w < 4 := by omega
              have hR1 : CR (sef1 d) k := by rw [g3 d (Nat.le_refl _)]; exact hR
              obtain ⟨q6, q7, l1, l2, l3, l4⟩ := lv (sef := sef1) hmb h4 hw4 hR1 hV
              have hR2 : CR (va_up (va_up sef1 (d + 1) q6) (d + 1) q7 d) k := by rw [l4 d (Nat.le_refl _)]; exact hR1
              obtain ⟨bb, s1, s2, s3⟩ := tw_same l3 hR2
              rw [if_neg (show ¬ (4 : Int32) ≤ nI w from nI_ge (b := 4) (by omega) (by omega)), if_pos (ix_nI (by omega) (by omega)), nI_1, nI_clamp (by omega), nI_clamp (by omega), l1, Option.bind_some, l2, Option.bind_some, if_pos (ix_nI (by omega) (by omega)), s1, Option.bind_some, nI_1]
              have g3' : ∀ j, j ≤ d → va_up (va_up sef1 (d + 1) q6) (d + 1) q7 j = sef j := fun j hj => (l4 j hj).trans (g3 j hj)
              cases bb with
              | true =>
                have hk := tilt_same h4 hw4 hV (s2 rfl)
                rw [if_neg (b1_ne rfl)]
                refine ihf (w + 1) x _ (by omega) (by omega) g3' (fun c hc => ?_) g5
                rw [g4 c hc]
                constructor
                · rintro (z | ⟨w', z1, z2, z3⟩)
                  · exact Or.inl z
                  · exact Or.inr ⟨w', by omega, z2, z3⟩
                · rintro (z | ⟨w', z1, z2, z3⟩)
                  · exact Or.inl z
                  · by_cases y : w' = w
                    · subst y; exact absurd hk z2
                    · exact Or.inr ⟨w', by omega, z2, z3⟩
              | false =>
                have hk : ¬ tiltK tr mb w k = k := fun z => by
                  have := s3 (fun j _ => by rw [z])
                  cases this
                obtain ⟨x2, sef2, i1, i2, i3, i4⟩ := ih (d + 1) (tiltK tr mb w k) _ (by omega) (by omega) l3 (hV.tilt h4 hw4)
                rw [if_pos (show b1 false = 0 by decide), i1, Option.bind_some]
                refine ihf (w + 1) (x ||| x2) sef2 (by omega) (by omega) (fun j hj => (i2 j (by omega)).trans (g3' j hj)) (fun c hc => ?_) (fun c hc => by rw [b_or, g5 c hc, i4 c hc]; rfl)
                rw [b_or, Bool.or_eq_true, g4 c hc, i3 c hc]
                constructor
                · rintro ((z | ⟨w', z1, z2, z3⟩) | z)
                  · exact Or.inl z
                  · exact Or.inr ⟨w', by omega, z2, z3⟩
                  · exact Or.inr ⟨w, by omega, hk, z⟩
                · rintro (z | ⟨w', z1, z2, z3⟩)
                  · exact Or.inl (Or.inl z)
                  · by_cases y : w' = w
                    · subst y; exact Or.inr z3
                    · exact Or.inl (Or.inr ⟨w', by omega, z2, z3⟩)
        obtain ⟨x', sef', e1, e2, e3, e4⟩ := loop 5 0 (1 <<< (nI c0 &&& 31)) sef (by omega) (by omega) (fun _ _ => rfl) (fun c hc => by
          rw [b0 c (by omega), decide_eq_true_eq]
          constructor
          · exact Or.inl
          · rintro (z | ⟨w', z1, _⟩)
            · exact z
            · omega) b9
        refine ⟨x', sef', e1, e2, fun c hc => ?_, e4⟩
        rw [e3 c hc, ← hc0' c hc, show 4 - d = (4 - (d + 1)) + 1 by omega]
        constructor
        · rintro (z | ⟨w', z1, z2, z3⟩)
          · exact Rc_s.mpr (Or.inl z)
          · exact Rc_s.mpr (Or.inr ⟨w', z1, z3⟩)
        · intro z
          exact Rc_skip _ z
    · rw [ix_f hx, if_pos (show b1 false = 0 by decide)]
      have hcel : cel (k.1 m) = none := by unfold cel; rw [if_neg hx]
      refine ⟨_, _, rfl, fun _ _ => rfl, fun c hc => ?_, fun c _ => b_0 c⟩
      rw [b_0]
      constructor
      · intro q; cases q
      · intro q; exact absurd q (Rc_off h4 hm hc hV hcel)
/-! the reference: all rows -/
theorem m_re22 {tr : TrS} {mm : Int32} {mk mt : Nat → Int32} {mb m n : Nat} {k : KS} (hT : RT tr mb mm mk mt) (hm : m < mb) (hn : n ≤ 4) (hV : VK k) (kk : Int32 → Int32 → (Nat → Int32) → Int32 → Option (Int32 × (Nat → Int32) × Int32)) : ∀ (f F : Nat) (x : Int32) (now : Nat → Int32) (sm : Int32), F ≤ 4 ^ n → 4 ^ n - F < f → MR mb 15 now 0 k → (∀ c, 25 ≤ c → bt x c = false) → ∃ x' now' sm', tw_X7_reach_22 mm mk mt 15 (nI m) kk f x (nI n) (nI F) now sm = kk x' (nI (n + 1)) now' sm' ∧ (∀ i, i < 7 → now' i = now i) ∧ (∀ c, 25 ≤ c → bt x' c = false) ∧ ∀ c, c < 25 → (bt x' c = true ↔ (bt x c = true ∨ ∃ G, F ≤ G ∧ G < 4 ^ n ∧ (runK tr mb n G k).1 m = nI c)) := by
  have hp := pw4 n (by omega)
  have h4 := hT.2.2.1
  intro f
  induction f with
  | zero => intro F x now sm h1 h2; omega
  | succ f ih =>
    intro F x now sm h1 h2 hM hx
    rw [tw_X7_reach_22, tw_pow4 n (by omega), Option.bind_some]
    by_cases hF : F = 4 ^ n
    · rw [hF, if_pos (nI_le (Nat.le_refl _) (by omega)), nI_1]
      refine ⟨_, _, _, rfl, fun _ _ => rfl, hx, fun c hc => ?_⟩
      constructor
      · exact Or.inl
      · rintro (z | ⟨G, z1, z2, _⟩)
        · exact z
        · omega
    · obtain ⟨now1, sm1, e1, e2, e3, e4⟩ := m_run hT (show n ≤ 5 by omega) (show F < 2 ^ 31 by omega) hV hM sm
      have hM1 := hM.down e4
      have en : now1 (7 + m) = (runK tr mb n F k).1 m := e2.now hm h4
      rw [if_neg (nI_ge (by omega) (by omega)), e1, Option.bind_some, add7, if_pos (ix_nI (by omega) (by omega)), if_pos (ix_nI (by omega) (by omega)), nI_clamp (by omega), nI_1, or_0]
      simp only [en]
      rcases e3.1 m (by omega) with q | ⟨d, hd, q⟩ | ⟨d, hd, q⟩
      · exact absurd q (e2.2.2.2 m hm (b15 m (by omega)))
      · rw [q, if_neg (show ¬ (100 : Int32) ≤ nI d from nI_ge (b := 100) (by omega) (by omega))]
        obtain ⟨x', now', sm', g1, g2, g3, g4⟩ := ih (F + 1) (x ||| (1 <<< (nI d &&& 31))) now1 sm1 (by omega) (by omega) hM1 (fun c hc => by
          rcases Nat.lt_or_ge c 32 with y | y
          · rw [b_set x d (by omega) y, hx c hc, decide_eq_false (by omega)]; rfl
          · exact b_big y)
        refine ⟨x', now', sm', g1, fun i hi => (g2 i hi).trans (e4 i hi), g3, fun c hc => ?_⟩
        rw [g4 c hc, b_set x d (by omega) (by omega), Bool.or_eq_true, decide_eq_true_eq]
        constructor
        · rintro ((z | z) | ⟨G, z1, z2, z3⟩)
          · exact Or.inl z
          · exact Or.inr ⟨F, Nat.le_refl _, by omega, by rw [q, z]⟩
          · exact Or.inr ⟨G, by omega, z2, z3⟩
        · rintro (z | ⟨G, z1, z2, z3⟩)
          · exact Or.inl (Or.inl z)
          · by_cases y : G = F
            · subst y
              rw [q, nI_inj hd hc] at z3
              exact Or.inl (Or.inr z3.symm)
            · exact Or.inr ⟨G, by omega, z2, z3⟩
      · rw [q, if_pos (show (100 : Int32) ≤ nI (100 + d) from nI_le (a := 100) (by omega) (by omega))]
        obtain ⟨x', now', sm', g1, g2, g3, g4⟩ := ih (F + 1) x now1 sm1 (by omega) (by omega) hM1 hx
        refine ⟨x', now', sm', g1, fun i hi => (g2 i hi).trans (e4 i hi), g3, fun c hc => ?_⟩
        rw [g4 c hc]
        constructor
        · rintro (z | ⟨G, z1, z2, z3⟩)
          · exact Or.inl z
          · exact Or.inr ⟨G, by omega, z2, z3⟩
        · rintro (z | ⟨G, z1, z2, z3⟩)
          · exact Or.inl z
          · by_cases y : G = F
            · subst y
              rw [q] at z3
              exact absurd z3 (h_ne_c d hd c hc)
            · exact Or.inr ⟨G, by omega, z2, z3⟩
theorem m_re14 {tr : TrS} {mm : Int32} {mk mt : Nat → Int32} {mb m : Nat} {k : KS} (hT : RT tr mb mm mk mt) (hm : m < mb) (hV : VK k) : ∀ (f n : Nat) (x : Int32) (now : Nat → Int32) (sm : Int32), n ≤ 5 → 5 - n < f → MR mb 15 now 0 k → (∀ c, 25 ≤ c → bt x c = false) → ∃ x' now' sm', tw_X7_reach_14 mm mk mt 15 (nI m) f x (nI n) now sm = some (x', now', sm') ∧ (∀ i, i < 7 → now' i = now i) ∧ (∀ c, 25 ≤ c → bt x' c = false) ∧ ∀ c, c < 25 → (bt x' c = true ↔ (bt x c = true ∨ ∃ l G, n ≤ l ∧ l ≤ 4 ∧ G < 4 ^ l ∧ (runK tr mb l G k).1 m = nI c)) := by
  intro f
  induction f with
  | zero => intro n x now sm h1 h2; omega
  | succ f ih =>
    intro n x now sm h1 h2 hM hx
    rw [tw_X7_reach_14]
    by_cases hn : n = 5
    · subst hn
      rw [if_pos (by decide)]
      refine ⟨_, _, _, rfl, fun _ _ => rfl, hx, fun c hc => ?_⟩
      constructor
      · exact Or.inl
      · rintro (z | ⟨l, G, z1, z2, _⟩)
        · exact z
        · omega
    · have hp := (by decide +kernel : ∀ n, n ≤ 4 → 4 ^ n < 257) n (by omega)
      obtain ⟨x1, now1, sm1, e1, e2, e3, e4⟩ := m_re22 hT hm (show n ≤ 4 by omega) hV (tw_X7_reach_14 mm mk mt 15 (nI m) f) 257 0 x now sm (Nat.zero_le _) (by omega) hM hx
      rw [if_neg (show ¬ (5 : Int32) ≤ nI n from nI_ge (b := 5) (by omega) (by omega)), show (0 : Int32) = nI 0 from rfl, e1]
      obtain ⟨x', now', sm', g1, g2, g3, g4⟩ := ih (n + 1) x1 now1 sm1 (by omega) (by omega) (hM.down e2) e3
      refine ⟨x', now', sm', g1, fun i hi => (g2 i hi).trans (e2 i hi), g3, fun c hc => ?_⟩
      rw [g4 c hc, e4 c hc]
      constructor
      · rintro ((z | ⟨G, z1, z2, z3⟩) | ⟨l, G, z1, z2, z3, z4⟩)
        · exact Or.inl z
        · exact Or.inr ⟨n, G, Nat.le_refl _, by omega, z2, z3⟩
        · exact Or.inr ⟨l, G, by omega, z2, z3, z4⟩
      · rintro (z | ⟨l, G, z1, z2, z3, z4⟩)
        · exact Or.inl (Or.inl z)
        · by_cases y : l = n
          · subst y; exact Or.inl (Or.inr ⟨G, Nat.zero_le _, z3, z4⟩)
          · exact Or.inr ⟨l, G, by omega, z2, z3, z4⟩
/-- reach -/
theorem s_reach {tr : TrS} {mb : Nat} {mm : Int32} {mk mt : Nat → Int32} {no : SpS} {now : Nat → Int32} {k : KS} (hT : RT tr mb mm mk mt) (hC : Co tr mb no now 0 k) (sef : Nat → SpS) (seb seo sew sm y : Int32) : ∃ (r : Int32) (sef' : Nat → SpS) (now' : Nat → Int32) (sm' : Int32), tw_X6_reach no sef seb seo sew tr y = some (r, sef') ∧ tw_X7_reach mm mk mt now 15 sm y = some (r, now', sm') ∧ ∀ i, i < 7 → now' i = now i := by
  have h4 := hT.2.2.1
  rw [tw_X6_reach, tw_X7_reach, tw_hasM hT.1 h4, Option.bind_some, tw_mMarble hT.2.1 h4, Option.bind_some]
  cases hy : ix y mb with
  | false => exact ⟨_, _, _, _, rfl, rfl, fun _ _ => rfl⟩
  | true =>
    obtain ⟨m, hm, rfl⟩ := ix_of hy (by omega)
    obtain ⟨s1, e1, e2, e3⟩ := tw_take (sef 0) no
    obtain ⟨x, sef', f1, f2, f3, f4⟩ := c_gather hT.1 h4 (show m < 4 by omega) seb seo sew 6 0 k (va_up sef 0 s1) (by omega) (by omega) (by rw [up_s]; exact hC.1.take e2 e3) hC.2.1
    obtain ⟨x', now', sm', g1, g2, g3, g4⟩ := m_re14 hT hm hC.2.1 6 0 0 now sm (by omega) (by omega) hC.2.2.2.1 (fun c _ => b_0 c)
    have ex : x = x' := by
      apply b_ext
      intro c _
      rcases Nat.lt_or_ge c 25 with q | q
      · apply Bool.eq_iff_iff.mpr
        rw [f3 c q, g4 c q, b_0]
        constructor
        · rintro ⟨l, F, z1, z2, z3⟩
          exact Or.inr ⟨l, F, Nat.zero_le _, by omega, z2, z3⟩
        · rintro (z | ⟨l, F, z1, z2, z3, z4⟩)
          · cases z
          · exact ⟨l, F, by omega, z3, z4⟩
      · rw [f4 c q, g3 c q]
    subst ex
    rw [if_neg (b1_ne rfl), if_neg (b1_ne rfl), tw_X2_findReach, t0, e1, Option.bind_some, show tw_X2_gatherCells 6 (va_up sef 0 s1) seb seo sew tr (nI m) 0 = _ from f1, Option.bind_some, Option.bind_some, show tw_X7_reach_14 mm mk mt 15 (nI m) 6 0 0 now sm = _ from g1]
    exact ⟨_, _, _, _, rfl, rfl, g2⟩
