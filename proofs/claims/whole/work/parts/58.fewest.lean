/-! fewest -/
def HitP (tr : TrS) (mb m : Nat) (k : KS) (l F : Nat) : Prop := F < 4 ^ l ∧ inH ((runK tr mb l F k).1 m) = true
/-- the shortest row, of these the least -/
def Lst (tr : TrS) (mb m : Nat) (k : KS) (l F : Nat) : Prop := HitP tr mb m k l F ∧ (∀ l' F', l' < l → ¬ HitP tr mb m k l' F') ∧ ∀ F', F' < F → ¬ HitP tr mb m k l F'
theorem hit_cons {tr : TrS} {mb m : Nat} {k : KS} {l w b : Nat} (hw : w < 4) (hb : b < 4 ^ l) : HitP tr mb m k (l + 1) (w * 4 ^ l + b) ↔ HitP tr mb m (tiltK tr mb w k) l b := by
  unfold HitP
  rw [run_cons tr mb l w b k hw hb]
  exact ⟨fun h => ⟨hb, h.2⟩, fun h => ⟨F_join hw hb, h.2⟩⟩
theorem lst_or (tr : TrS) (mb m : Nat) (k : KS) (B : Nat) : (∀ l F, l < B → ¬ HitP tr mb m k l F) ∨ ∃ l F, l < B ∧ Lst tr mb m k l F := by
  by_cases h : ∃ l, ∃ F, l < B ∧ HitP tr mb m k l F
  · obtain ⟨l0, F0, h1, h2⟩ := h
    obtain ⟨l, ⟨F1, h3⟩, h4⟩ := pk_least (fun l => ∃ F, HitP tr mb m k l F) ⟨l0, F0, h2⟩
    obtain ⟨F, h5, h6⟩ := pk_least (fun F => HitP tr mb m k l F) ⟨F1, h3⟩
    refine Or.inr ⟨l, F, ?_, h5, fun l' F' hl q => h4 l' hl ⟨F', q⟩, h6⟩
    rcases Nat.lt_or_ge l0 l with q | q
    · exact absurd ⟨F0, h2⟩ (h4 l0 q)
    · omega
  · exact Or.inl (fun l F hl q => h ⟨l, F, hl, q⟩)
theorem tilt_nof {tr : TrS} {mb m w : Nat} {k : KS} (h4 : mb ≤ 4) (hw : w < 4) (hV : VK k) (h0 : opc tr k = 0) (h : inH (k.1 m) = false) : opc tr (tiltK tr mb w k) = 0 ∧ inH ((tiltK tr mb w k).1 m) = false := by
  refine tilt_ind (P := fun q => opc tr q = 0 ∧ inH (q.1 m) = false) h4 hw (fun k1 k2 st st' j hj hV1 hP hs => ?_) hV ⟨h0, h⟩
  obtain ⟨c, d, hc, hd, hp, hb, q⟩ := step_is hj hw hV1 hs
  rcases q with ⟨ho, rfl⟩ | ⟨ho, rfl⟩
  · have := opc_fall (m := j) hd ho
    have h1 := hP.1
    omega
  · refine ⟨hP.1, ?_⟩
    show inH (upd k1.1 j (nI d) m) = false
    by_cases z : m = j
    · subst z; rw [pk_us]; exact inH_c d hd
    · rw [pk_un z]; exact hP.2
theorem run_nof {tr : TrS} {mb m : Nat} (h4 : mb ≤ 4) : ∀ (r F : Nat) (k : KS), VK k → opc tr k = 0 → inH (k.1 m) = false → inH ((runK tr mb r F k).1 m) = false
  | 0, _, _, _, _, h => h
  | r + 1, F, k, hV, h0, h => by
    have hw : F / 4 ^ r % 4 < 4 := Nat.mod_lt _ (by omega)
    obtain ⟨a, b⟩ := tilt_nof h4 hw hV h0 h
    rw [runK]
    exact run_nof h4 r F _ (hV.tilt h4 hw) a b
theorem c_fall {tr : TrS} {mb m : Nat} (hmb : tr.2.2.2.1 = nI mb) (h4 : mb ≤ 4) (hbt : ∀ c, 25 ≤ c → bt (tr.1 2) c = false) (hm : m < 4) (seb : Int32) : ∀ (nr d : Nat) (k : KS) (sef : Nat → SpS) (fo : Nat) (ro : Int32) (rs : Nat), d ≤ 5 → 6 ≤ d + nr → CR (sef d) k → VK k → d < fo → fo ≤ 6 →
    ∃ sef' fo' ro', tw_X2_seekFall nr sef seb (nI fo) ro tr (nI m) (nI d) (nI rs) = some (sef', nI fo', ro') ∧ fo' ≤ 6 ∧ (∀ j, j ≤ d → sef' j = sef j) ∧ ((∀ l F, d + l < fo → ¬ HitP tr mb m k l F) → fo' = fo ∧ ro' = ro) ∧ ∀ l F, d + l < fo → Lst tr mb m k l F → fo' = d + l ∧ ro' = nI (fgA l F rs) := by
  intro nr
  induction nr with
  | zero => intro d k sef fo ro rs h1 h2; omega
  | succ nr ih =>
    intro d k sef fo ro rs h1 h2 hR hV hfo hfo6
    rw [tw_X2_seekFall, if_pos (ix_nI (by omega) (by omega)), nI_clamp (by omega), tw_isIn hm, Option.bind_some, hR.1 m hm]
    cases hin : inH (k.1 m) with
    | true =>
      have h00 : HitP tr mb m k 0 0 := ⟨by decide, hin⟩
      rw [if_neg (b1_ne rfl)]
      refine ⟨_, d, nI rs, rfl, by omega, fun _ _ => rfl, fun q => absurd h00 (q 0 0 (by omega)), fun l F _ hL => ?_⟩
      have hl : l = 0 := by
        rcases Nat.eq_zero_or_pos l with z | z
        · exact z
        · exact absurd h00 (hL.2.1 0 0 z)
      subst hl
      exact ⟨rfl, rfl⟩
    | false =>
      have no0 : ∀ F, ¬ HitP tr mb m k 0 F := fun F q => by
        have := q.2
        rw [show (runK tr mb 0 F k).1 m = k.1 m from rfl, hin] at this
        cases this
      rw [if_pos (show b1 false = 0 by decide)]
      by_cases hd5 : d = 5
      · subst hd5
        rw [if_pos (by decide)]
        have hf6 : fo = 6 := by omega
        subst hf6
        refine ⟨_, 6, ro, rfl, by omega, fun _ _ => rfl, fun _ => ⟨rfl, rfl⟩, fun l F hl hL => ?_⟩
        have hl0 : l = 0 := by omega
        subst hl0
        exact absurd hL.1 (no0 F)
      · rw [if_neg (show ¬ (5 : Int32) ≤ nI d from nI_ge (b := 5) (by omega) (by omega)), if_pos (ix_nI (by omega) (by omega)), tw_open hR hbt, Option.bind_some]
        have hop : opc tr k ≤ 25 := pop_le _
        by_cases ho : opc tr k = 0
        · rw [ho, if_pos (show nI 0 = 0 from rfl)]
          refine ⟨_, fo, ro, rfl, hfo6, fun _ _ => rfl, fun _ => ⟨rfl, rfl⟩, fun l F hl hL => ?_⟩
          have z := hL.1.2
          rw [run_nof h4 l F k hV ho hin] at z
          cases z
        · rw [if_neg (nI_ne0 (by omega) (by omega)), nI_1, if_pos (ix_nI (by omega) (by omega))]
          have loop : ∀ (f w : Nat) (sef1 : Nat → SpS) (fo1 : Nat) (ro1 : Int32), w ≤ 4 → 4 - w < f → (∀ j, j ≤ d → sef1 j = sef j) → fo1 ≤ fo →
              ((fo1 = fo ∧ ro1 = ro) ∨ ∃ l F, HitP tr mb m k (l + 1) F ∧ F < w * 4 ^ l ∧ d + (l + 1) = fo1 ∧ fo1 < fo) →
              (∀ l F, Lst tr mb m k (l + 1) F → d + (l + 1) < fo → F < w * 4 ^ l → fo1 = d + (l + 1) ∧ ro1 = nI (fgA (l + 1) F rs)) →
              ∃ sef' fo' ro', tw_X2_seekFall_57 (tw_X2_seekFall nr) seb tr (nI m) (nI d) (nI rs) f (nI w) sef1 (nI fo1) ro1 = some (sef', nI fo', ro') ∧ fo' ≤ 6 ∧ (∀ j, j ≤ d → sef' j = sef j) ∧ ((∀ l F, d + l < fo → ¬ HitP tr mb m k l F) → fo' = fo ∧ ro' = ro) ∧ ∀ l F, d + l < fo → Lst tr mb m k l F → fo' = d + l ∧ ro' = nI (fgA l F rs) := by
            intro f
            induction f with
            | zero => intro w sef1 fo1 ro1 h1 h2; omega
            | succ f ihf =>
              intro w sef1 fo1 ro1 g1 g2 g3 g4 g5 g6
              have non : (∀ l F, d + l < fo → ¬ HitP tr mb m k l F) → fo1 = fo ∧ ro1 = ro := by
                intro q
                rcases g5 with z | ⟨l, F, z1, z2, z3, z4⟩
                · exact z
                · exact absurd z1 (q (l + 1) F (by omega))
              rw [tw_X2_seekFall_57]
              by_cases hw : w = 4
              · subst hw
                rw [if_pos (by decide)]
                refine ⟨sef1, fo1, ro1, rfl, by omega, g3, non, fun l F hl hL => ?_⟩
                cases l with
                | zero => exact absurd hL.1 (no0 F)
                | succ l =>
                  refine g6 l F hL hl ?_
                  have := hL.1.1
                  rw [Nat.pow_succ, Nat.mul_comm] at this
                  exact this
              · have hw4 : w < 4 := by omega
                rw [if_neg (show ¬ (4 : Int32) ≤ nI w from nI_ge (b := 4) (by omega) (by omega)), nI_1]
                by_cases hex : fo1 ≤ d + 1
                · rw [if_pos (nI_le hex (by omega))]
                  refine ⟨sef1, fo1, ro1, rfl, by omega, g3, non, fun l F hl hL => ?_⟩
                  cases l with
                  | zero => exact absurd hL.1 (no0 F)
                  | succ l =>
                    rcases g5 with ⟨z, _⟩ | ⟨l0, F0, z1, z2, z3, z4⟩
                    · omega
                    · have hl0 : l0 = 0 := by omega
                      subst hl0
                      have hll : l = 0 := by
                        rcases Nat.eq_zero_or_pos l with y | y
                        · exact y
                        · exact absurd z1 (hL.2.1 1 F0 (by omega))
                      subst hll
                      refine g6 0 F hL hl ?_
                      rcases Nat.lt_or_ge F0 F with y | y
                      · exact absurd z1 (hL.2.2 F0 y)
                      · omega
                · have hR1 : CR (sef1 d) k := by rw [g3 d (Nat.le_refl _)]; exact hR
                  obtain ⟨q6, q7, l1, l2, l3, l4⟩ := lv (sef := sef1) hmb h4 hw4 hR1 hV
                  have hR2 : CR (va_up (va_up sef1 (d + 1) q6) (d + 1) q7 d) k := by rw [l4 d (Nat.le_refl _)]; exact hR1
                  obtain ⟨bb, s1, s2, s3⟩ := tw_same l3 hR2
                  rw [if_neg (nI_ge (by omega) (by omega)), if_pos (ix_nI (by omega) (by omega)), nI_clamp (by omega), nI_clamp (by omega), l1, Option.bind_some, l2, Option.bind_some, if_pos (ix_nI (by omega) (by omega)), s1, Option.bind_some, nI_1, show nI rs * 10 = nI (rs * 10) from pk_mul rs 10, nI_add, nI_1]
                  have g3' : ∀ j, j ≤ d → va_up (va_up sef1 (d + 1) q6) (d + 1) q7 j = sef j := fun j hj => (l4 j hj).trans (g3 j hj)
                  have up : ∀ l F, F < w * 4 ^ l → F < (w + 1) * 4 ^ l := fun l F q => Nat.lt_of_lt_of_le q (Nat.mul_le_mul_right _ (by omega))
                  have sp : ∀ l F, ¬ F < w * 4 ^ l → F < (w + 1) * 4 ^ l → ∃ b, b < 4 ^ l ∧ F = w * 4 ^ l + b := fun l F q1 q2 => by
                    rw [Nat.add_mul, Nat.one_mul] at q2
                    exact ⟨F - w * 4 ^ l, by omega, by omega⟩
                  cases bb with
                  | true =>
                    have hk := tilt_same h4 hw4 hV (s2 rfl)
                    rw [if_neg (b1_ne rfl)]
                    refine ihf (w + 1) _ fo1 ro1 (by omega) (by omega) g3' g4 ?_ (fun l F hL hl hF => ?_)
                    · rcases g5 with z | ⟨l, F, z1, z2, z3, z4⟩
                      · exact Or.inl z
                      · exact Or.inr ⟨l, F, z1, up l F z2, z3, z4⟩
                    · by_cases y : F < w * 4 ^ l
                      · exact g6 l F hL hl y
                      · obtain ⟨b, hb, rfl⟩ := sp l F y hF
                        have z := (hit_cons hw4 hb).mp hL.1
                        rw [hk] at z
                        exact absurd z (hL.2.1 l b (by omega))
                  | false =>
                    rw [if_pos (show b1 false = 0 by decide)]
                    obtain ⟨sef2, fo2, ro2, i1, i2, i3, i4, i5⟩ := ih (d + 1) (tiltK tr mb w k) _ fo1 ro1 (rs * 10 + w + 1) (by omega) (by omega) l3 (hV.tilt h4 hw4) (by omega) (by omega)
                    rw [i1, Option.bind_some]
                    have g3'' : ∀ j, j ≤ d → sef2 j = sef j := fun j hj => (i3 j (by omega)).trans (g3' j hj)
                    rcases lst_or tr mb m (tiltK tr mb w k) (fo1 - (d + 1)) with hN | ⟨lc, b, hlc, hLc⟩
                    · obtain ⟨rfl, rfl⟩ := i4 (fun l F hl => hN l F (by omega))
                      refine ihf (w + 1) _ fo2 ro2 (by omega) (by omega) g3'' g4 ?_ (fun l F hL hl hF => ?_)
                      · rcases g5 with z | ⟨l, F, z1, z2, z3, z4⟩
                        · exact Or.inl z
                        · exact Or.inr ⟨l, F, z1, up l F z2, z3, z4⟩
                      · by_cases y : F < w * 4 ^ l
                        · exact g6 l F hL hl y
                        · exfalso
                          obtain ⟨b, hb, rfl⟩ := sp l F y hF
                          have z := (hit_cons hw4 hb).mp hL.1
                          have hge : ¬ l < fo2 - (d + 1) := fun q => hN l b q z
                          rcases g5 with ⟨x, _⟩ | ⟨l0, F0, z1, z2, z3, z4⟩
                          · omega
                          · have e0 : l0 = l := by
                              rcases Nat.lt_or_ge l0 l with v | v
                              · exact absurd z1 (hL.2.1 (l0 + 1) F0 (by omega))
                              · omega
                            subst e0
                            exact hL.2.2 F0 (by omega) z1
                    · obtain ⟨rfl, rfl⟩ := i5 lc b (by omega) hLc
                      have hb := hLc.1.1
                      have hit : HitP tr mb m k (lc + 1) (w * 4 ^ lc + b) := (hit_cons hw4 hb).mpr hLc.1
                      refine ihf (w + 1) _ (d + 1 + lc) _ (by omega) (by omega) g3'' (by omega) (Or.inr ⟨lc, w * 4 ^ lc + b, hit, ?_, by omega, by omega⟩) (fun l F hL hl hF => ?_)
                      · rw [Nat.add_mul, Nat.one_mul]; omega
                      · have hle : l ≤ lc := by
                          rcases Nat.lt_or_ge lc l with v | v
                          · exact absurd hit (hL.2.1 (lc + 1) _ (by omega))
                          · exact v
                        by_cases y : F < w * 4 ^ l
                        · obtain ⟨x1, x2⟩ := g6 l F hL hl y
                          omega
                        · obtain ⟨c0, hc0, rfl⟩ := sp l F y hF
                          have z := (hit_cons hw4 hc0).mp hL.1
                          have hle2 : lc ≤ l := by
                            rcases Nat.lt_or_ge l lc with v | v
                            · exact absurd z (hLc.2.1 l c0 v)
                            · exact v
                          have el : l = lc := by omega
                          subst el
                          have ec : c0 = b := by
                            rcases Nat.lt_trichotomy c0 b with v | v | v
                            · exact absurd z (hLc.2.2 c0 v)
                            · exact v
                            · exact absurd hit (hL.2.2 (w * 4 ^ l + b) (by omega))
                          subst ec
                          refine ⟨by omega, ?_⟩
                          rw [fg_cons l w c0 rs hw4 hb, Nat.mul_comm 10 rs]
          exact loop 5 0 sef fo ro (by omega) (by omega) (fun _ _ => rfl) (Nat.le_refl _) (Or.inl ⟨rfl, rfl⟩) (fun l F _ _ hF => by
            rw [Nat.zero_mul] at hF
            omega)
/-! the reference -/
def anF (z : Int32) (n F : Nat) : Int32 := if z = 0 then nI n else nI (fgA n F 0)
theorem m_f21 {tr : TrS} {mm : Int32} {mk mt : Nat → Int32} {mb m n : Nat} {k : KS} (hT : RT tr mb mm mk mt) (hm : m < mb) (hn : n ≤ 5) (hV : VK k) (z : Int32) (kk : Int32 → (Nat → Int32) → Int32 → Option (Int32 × (Nat → Int32) × Int32)) : ∀ (f F : Nat) (now : Nat → Int32) (sm : Int32), F ≤ 4 ^ n → 4 ^ n - F < f → MR mb 15 now 0 k → (∀ G, G < F → ¬ HitP tr mb m k n G) → ∃ now' sm', (∀ i, i < 7 → now' i = now i) ∧ ((∃ G, HitP tr mb m k n G ∧ (∀ G', G' < G → ¬ HitP tr mb m k n G') ∧ tw_X7_fewest_21 mm mk mt 15 (nI m) z kk f (nI n) (nI F) now sm = some (anF z n G, now', sm')) ∨ ((∀ G, ¬ HitP tr mb m k n G) ∧ tw_X7_fewest_21 mm mk mt 15 (nI m) z kk f (nI n) (nI F) now sm = kk (nI (n + 1)) now' sm')) := by
  have hp := pw4 n (by omega)
  have h4 := hT.2.2.1
  intro f
  induction f with
  | zero => intro F now sm h1 h2; omega
  | succ f ih =>
    intro F now sm h1 h2 hM hno
    rw [tw_X7_fewest_21, tw_pow4 n (by omega), Option.bind_some]
    by_cases hF : F = 4 ^ n
    · rw [hF, if_pos (nI_le (Nat.le_refl _) (by omega)), nI_1]
      refine ⟨_, _, fun _ _ => rfl, Or.inr ⟨fun G q => ?_, rfl⟩⟩
      have := q.1
      exact hno G (by omega) q
    · obtain ⟨now1, sm1, e1, e2, e3, e4⟩ := m_run hT (show n ≤ 5 by omega) (show F < 2 ^ 31 by omega) hV hM sm
      have hM1 := hM.down e4
      have en : now1 (7 + m) = (runK tr mb n F k).1 m := e2.now hm h4
      rw [if_neg (nI_ge (by omega) (by omega)), e1, Option.bind_some, add7, if_pos (ix_nI (by omega) (by omega)), nI_clamp (by omega), nI_1, tw_fig (by omega) (by omega), Option.bind_some]
      simp only [en]
      by_cases hx : (runK tr mb n F k).1 m < 100
      · rw [if_pos hx]
        have hn1 : ∀ G, G < F + 1 → ¬ HitP tr mb m k n G := fun G hG q => by
          by_cases y : G = F
          · subst y
            have z1 := q.2
            unfold inH at z1
            rw [decide_eq_false (fun z2 => z2 hx)] at z1
            cases z1
          · exact hno G (by omega) q
        obtain ⟨now', sm', g1, g2⟩ := ih (F + 1) now1 sm1 (by omega) (by omega) hM1 hn1
        exact ⟨now', sm', fun i hi => (g1 i hi).trans (e4 i hi), g2⟩
      · rw [if_neg hx]
        have hh : HitP tr mb m k n F := ⟨by omega, by unfold inH; exact decide_eq_true hx⟩
        refine ⟨now1, sm1, e4, Or.inl ⟨F, hh, hno, ?_⟩⟩
        unfold anF
        by_cases hz : z = 0
        · rw [if_pos hz, if_pos hz]
        · rw [if_neg hz, if_neg hz]
theorem m_f12 {tr : TrS} {mm : Int32} {mk mt : Nat → Int32} {mb m : Nat} {k : KS} (hT : RT tr mb mm mk mt) (hm : m < mb) (hV : VK k) (z : Int32) : ∀ (f n : Nat) (now : Nat → Int32) (sm : Int32), n ≤ 6 → 6 - n < f → MR mb 15 now 0 k → (∀ l G, l < n → ¬ HitP tr mb m k l G) → ∃ now' sm', (∀ i, i < 7 → now' i = now i) ∧ ((∃ l G, l ≤ 5 ∧ Lst tr mb m k l G ∧ tw_X7_fewest_12 mm mk mt 15 (nI m) z f (nI n) now sm = some (anF z l G, now', sm')) ∨ ((∀ l G, l < 6 → ¬ HitP tr mb m k l G) ∧ tw_X7_fewest_12 mm mk mt 15 (nI m) z f (nI n) now sm = some (-9, now', sm'))) := by
  intro f
  induction f with
  | zero => intro n now sm h1 h2; omega
  | succ f ih =>
    intro n now sm h1 h2 hM hno
    rw [tw_X7_fewest_12]
    by_cases hn : n = 6
    · subst hn
      rw [if_pos (by decide)]
      exact ⟨_, _, fun _ _ => rfl, Or.inr ⟨hno, rfl⟩⟩
    · have hp := (by decide +kernel : ∀ n, n ≤ 5 → 4 ^ n < 1025) n (by omega)
      rw [if_neg (show ¬ (6 : Int32) ≤ nI n from nI_ge (b := 6) (by omega) (by omega)), show (0 : Int32) = nI 0 from rfl]
      obtain ⟨now1, sm1, e1, e2⟩ := m_f21 hT hm (show n ≤ 5 by omega) hV z (tw_X7_fewest_12 mm mk mt 15 (nI m) z f) 1025 0 now sm (Nat.zero_le _) (by omega) hM (fun G hG => by omega)
      rcases e2 with ⟨G, q1, q2, q3⟩ | ⟨q1, q2⟩
      · rw [q3]
        exact ⟨now1, sm1, e1, Or.inl ⟨n, G, by omega, ⟨q1, fun l' F' hl => hno l' F' hl, q2⟩, rfl⟩⟩
      · rw [q2]
        obtain ⟨now', sm', g1, g2⟩ := ih (n + 1) now1 sm1 (by omega) (by omega) (hM.down e1) (fun l G hl => by
          by_cases y : l = n
          · subst y; exact q1 G
          · exact hno l G (by omega))
        exact ⟨now', sm', fun i hi => (g1 i hi).trans (e1 i hi), g2⟩
/-- fewest -/
theorem s_fewest {tr : TrS} {mb : Nat} {mm : Int32} {mk mt : Nat → Int32} {no : SpS} {now : Nat → Int32} {k : KS} (hT : RT tr mb mm mk mt) (hC : Co tr mb no now 0 k) (sef : Nat → SpS) (seb seo sew sm y z : Int32) : ∃ (r : Int32) (sef' : Nat → SpS) (seo' sew' : Int32) (now' : Nat → Int32) (sm' : Int32), tw_X6_fewest no sef seb seo sew tr y z = some (r, sef', seo', sew') ∧ tw_X7_fewest mm mk mt now 15 sm y z = some (r, now', sm') ∧ ∀ i, i < 7 → now' i = now i := by
  have h4 := hT.2.2.1
  rw [tw_X6_fewest, tw_X7_fewest, tw_hasM hT.1 h4, Option.bind_some, tw_mMarble hT.2.1 h4, Option.bind_some]
  cases hy : ix y mb with
  | false => exact ⟨_, _, _, _, _, _, rfl, rfl, fun _ _ => rfl⟩
  | true =>
    obtain ⟨m, hm, rfl⟩ := ix_of hy (by omega)
    obtain ⟨s1, e1, e2, e3⟩ := tw_take (sef 0) no
    obtain ⟨sef', fo', ro', f1, f2, f3, f4, f5⟩ := c_fall hT.1 h4 (hT.2.2.2.2.2.2.2.2.2.2 2 (by omega)) (show m < 4 by omega) seb 7 0 k (va_up sef 0 s1) 6 0 0 (by omega) (by omega) (by rw [up_s]; exact hC.1.take e2 e3) hC.2.1 (by omega) (by omega)
    obtain ⟨now', sm', g1, g2⟩ := m_f12 hT hm hC.2.1 z 7 0 now sm (by omega) (by omega) hC.2.2.2.1 (fun l G hl => by omega)
    rw [if_neg (b1_ne rfl), if_neg (b1_ne rfl), tw_X2_findFewest, t0, e1, Option.bind_some, show tw_X2_seekFall 7 (va_up sef 0 s1) seb 6 0 tr (nI m) 0 0 = _ from f1, Option.bind_some]
    dsimp only
    rcases g2 with ⟨l, G, q1, q2, q3⟩ | ⟨q1, q2⟩
    · obtain ⟨rfl, rfl⟩ := f5 l G (by omega) q2
      rw [if_neg (show ¬ (5 : Int32) < nI (0 + l) from nI_nlt (a := 5) (by omega) (by omega)), Option.bind_some, if_neg (show ¬ (1 : Int32) = 0 by decide), show tw_X7_fewest_12 mm mk mt 15 (nI m) z 7 0 now sm = _ from q3, Nat.zero_add]
      unfold anF
      by_cases hz : z = 0
      · rw [if_pos hz, if_pos hz]
        exact ⟨_, _, _, _, _, _, rfl, rfl, g1⟩
      · rw [if_neg hz, if_neg hz]
        exact ⟨_, _, _, _, _, _, rfl, rfl, g1⟩
    · obtain ⟨rfl, rfl⟩ := f4 (fun l F hl => q1 l F (by omega))
      rw [if_pos (show (5 : Int32) < nI 6 by decide), Option.bind_some, if_pos rfl, show tw_X7_fewest_12 mm mk mt 15 (nI m) z 7 0 now sm = _ from q2]
      exact ⟨_, _, _, _, _, _, rfl, rfl, g1⟩
