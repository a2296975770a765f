theorem run_mod (tr : TrS) (mb r a b : Nat) (k : KS) : runK tr mb r (a * 4 ^ r + b) k = runK tr mb r b k := run_cong tr mb r _ _ k (fun s hs => dg_lo hs a b)
theorem c_most {tr : TrS} {mb n B C1 C2 : Nat} (hmb : tr.2.2.2.1 = nI mb) (h4 : mb ≤ 4) (hn : n ≤ 4) (hB : B < 1000) (hBe : B = if C2 < C1 then C2 else C1) : ∀ (nr d : Nat) (k : KS) (sef : Nat → SpS) (s : Int32 × Int32) (rs : Nat), d ≤ n → n - d < nr → CR (sef d) k → VK k → QB tr C1 C2 k →
    ∃ sef', tw_X2_seekMost nr sef (nI B) s.1 s.2 tr (nI n) (nI d) (nI rs) = some (sef', lpB (fun F => fallK (runK tr mb (n - d) F k)) (fun F => fgA (n - d) F rs) (4 ^ (n - d)) 0 s) ∧ ∀ j, j ≤ d → sef' j = sef j := by
  intro nr
  induction nr with
  | zero => intro d k sef s rs h1 h2; omega
  | succ nr ih =>
    intro d k sef s rs h1 h2 hR hV hQ
    rw [tw_X2_seekMost]
    by_cases hd : d = n
    · subst hd
      rw [if_pos (nI_le (Nat.le_refl _) (by omega)), tw_X2_seekMost_10, if_pos (ix_nI (by omega) (by omega)), nI_clamp (by omega), tw_fallen hR, Option.bind_some, Nat.sub_self]
      refine ⟨sef, ?_, fun _ _ => rfl⟩
      show _ = some (sef, upB s (fallK k) (nI rs))
      unfold upB
      by_cases q : nI (fallK k) ≤ s.1
      · rw [if_pos q, if_pos q]
      · rw [if_neg q, if_neg q]
    · obtain ⟨r, hr⟩ : ∃ r, n - d = r + 1 := ⟨n - d - 1, by omega⟩
      have hp := pw4 r (by omega)
      rw [if_neg (nI_ge (by omega) (by omega)), if_pos (show nI d < 4 from nI_lt (b := 4) (by omega) (by omega)), nI_1, if_pos (ix_nI (by omega) (by omega)), hr]
      have loop : ∀ (f w : Nat) (sef1 : Nat → SpS) (s1 : Int32 × Int32), w ≤ 4 → 4 - w < f → (∀ j, j ≤ d → sef1 j = sef j) →
          ∃ sef', tw_X2_seekMost_56 (tw_X2_seekMost nr) (nI B) tr (nI n) (nI d) (nI rs) f (nI w) sef1 s1.1 s1.2 = some (sef', lpB (fun F => fallK (runK tr mb (r + 1) F k)) (fun F => fgA (r + 1) F rs) ((4 - w) * 4 ^ r) (w * 4 ^ r) s1) ∧ ∀ j, j ≤ d → sef' j = sef j := by
        intro f
        induction f with
        | zero => intro w sef1 s1 h1 h2; omega
        | succ f ihf =>
          intro w sef1 s1 g1 g2 g3
          rw [tw_X2_seekMost_56]
          by_cases hw : w = 4
          · subst hw
            rw [if_pos (by decide), Nat.sub_self, Nat.zero_mul]
            exact ⟨sef1, rfl, g3⟩
          · rw [if_neg (show ¬ (4 : Int32) ≤ nI w from nI_ge (b := 4) (by omega) (by omega))]
            by_cases hb : nI B ≤ s1.1
            · rw [if_pos hb, lp_stuck hB (fun F => (QB.run h4 (r + 1) F k hV hQ).le hBe) _ _ _ hb]
              exact ⟨sef1, rfl, g3⟩
            · have hw4 : w < 4 := by omega
              have hR1 : CR (sef1 d) k := by rw [g3 d (Nat.le_refl _)]; exact hR
              obtain ⟨q6, q7, l1, l2, l3, l4⟩ := lv (sef := sef1) hmb h4 hw4 hR1 hV
              rw [if_neg hb, if_pos (ix_nI (by omega) (by omega)), nI_1, nI_clamp (by omega), nI_clamp (by omega), l1, Option.bind_some, l2, Option.bind_some, show nI rs * 10 = nI (rs * 10) from pk_mul rs 10, nI_add, nI_1, nI_1]
              obtain ⟨sef2, i1, i2⟩ := ih (d + 1) (tiltK tr mb w k) _ s1 (rs * 10 + w + 1) (by omega) (by omega) l3 (hV.tilt h4 hw4) (hQ.tilt h4 hw4 hV)
              rw [i1, Option.bind_some, show n - (d + 1) = r by omega]
              have e : lpB (fun F => fallK (runK tr mb r F (tiltK tr mb w k))) (fun F => fgA r F (rs * 10 + w + 1)) (4 ^ r) 0 s1 = lpB (fun F => fallK (runK tr mb (r + 1) F k)) (fun F => fgA (r + 1) F rs) (4 ^ r) (w * 4 ^ r) s1 := by
                refine lp_shift _ _ _ _ _ _ _ _ (fun i hi => ?_)
                rw [Nat.zero_add]
                refine ⟨?_, ?_⟩
                · show fallK (runK tr mb r i (tiltK tr mb w k)) = fallK (runK tr mb (r + 1) (w * 4 ^ r + i) k)
                  rw [run_cons tr mb r w i k hw4 hi]
                · show fgA r i (rs * 10 + w + 1) = fgA (r + 1) (w * 4 ^ r + i) rs
                  rw [fg_cons r w i rs hw4 hi, Nat.mul_comm]
              rw [e]
              obtain ⟨sef3, j1, j2⟩ := ihf (w + 1) sef2 (lpB (fun F => fallK (runK tr mb (r + 1) F k)) (fun F => fgA (r + 1) F rs) (4 ^ r) (w * 4 ^ r) s1) (by omega) (by omega) (fun j hj => ((i2 j (by omega)).trans (l4 j hj)).trans (g3 j hj))
              refine ⟨sef3, ?_, j2⟩
              rw [j1, show (4 - w) * 4 ^ r = 4 ^ r + (4 - (w + 1)) * 4 ^ r by
                rw [show 4 - w = 1 + (4 - (w + 1)) by omega, Nat.add_mul, Nat.one_mul], lp_add, show w * 4 ^ r + 4 ^ r = (w + 1) * 4 ^ r by rw [Nat.add_mul, Nat.one_mul]]
      obtain ⟨sef', e1, e2⟩ := loop 5 0 sef s (by omega) (by omega) (fun _ _ => rfl)
      refine ⟨sef', ?_, e2⟩
      rw [show (0 : Int32) = nI 0 from rfl, e1, Nat.zero_mul, show (4 - 0) * 4 ^ r = 4 ^ (r + 1) by rw [Nat.pow_succ]; omega]
theorem tw_open {tr : TrS} {sp : SpS} {k : KS} (hR : CR sp k) (h : ∀ c, 25 ≤ c → bt (tr.1 2) c = false) : tw_X5_openHoles tr sp = some (nI (opc tr k)) := by
  have hb : ∀ c, 25 ≤ c → bt (tr.1 2 &&& (k.2.1 ^^^ (-1))) c = false := fun c hc => by rw [b_and, h c hc]; rfl
  rw [tw_X5_openHoles, t2, hR.2.1, tw_bitCount hb]
  rfl
theorem CR.tk {sp : SpS} {k : KS} (hR : CR sp k) : ∀ c, 25 ≤ c → bt sp.2.1 c = false := by
  intro c hc
  rcases Nat.lt_or_ge c 32 with h | h
  · rw [hR.2.2.2 c h, decide_eq_false (by omega)]; rfl
  · exact b_big h
def bsS (tr : TrS) (mb n : Nat) (k : KS) (s : Int32 × Int32) : Int32 × Int32 := lpB (fun F => fallK (runK tr mb n F k)) (fun F => fgA n F 0) (4 ^ n) 0 s
theorem c_best {tr : TrS} {mb n : Nat} {sp : SpS} {k : KS} (hmb : tr.2.2.2.1 = nI mb) (h4 : mb ≤ 4) (hb : ∀ c, 25 ≤ c → bt (tr.1 2) c = false) (hn : n ≤ 4) (hR : CR sp k) (hV : VK k) (sef : Nat → SpS) (seb seo sew : Int32) : ∃ sef' seb', tw_X2_findBest sef seb seo sew tr sp (nI n) = some (sef', seb', bsS tr mb n k (-1, 0)) := by
  obtain ⟨s1, e1, e2, e3⟩ := tw_take (sef 0) sp
  have h1 := fallK_le k
  have h2 := pop_le sp.2.1
  have h3 : opc tr k ≤ 25 := pop_le _
  obtain ⟨sef', f1, f2⟩ := c_most (B := if fallK k + pop sp.2.1 < fallK k + opc tr k then fallK k + pop sp.2.1 else fallK k + opc tr k) hmb h4 hn (by split <;> omega) rfl 6 0 k (va_up sef 0 s1) (-1, 0) 0 (by omega) (by omega) (by rw [up_s]; exact hR.take e2 e3) hV ⟨rfl, sp, hR, rfl⟩
  refine ⟨sef', nI (if fallK k + pop sp.2.1 < fallK k + opc tr k then fallK k + pop sp.2.1 else fallK k + opc tr k), ?_⟩
  have em : tw_X2_mostThatFall tr sp = some (nI (if fallK k + pop sp.2.1 < fallK k + opc tr k then fallK k + pop sp.2.1 else fallK k + opc tr k)) := by
    rw [tw_X2_mostThatFall, tw_fallen hR, Option.bind_some, tw_open hR hb, Option.bind_some, tw_bitCount hR.tk, Option.bind_some]
    by_cases q : pop sp.2.1 < opc tr k
    · rw [if_pos (nI_lt q (by omega)), if_pos (by omega), nI_add]
    · rw [if_neg (nI_nlt (by omega) (by omega)), if_neg (by omega), nI_add]
  rw [tw_X2_findBest, t0, e1, Option.bind_some, em, Option.bind_some, show tw_X2_seekMost 6 (va_up sef 0 s1) (nI (if fallK k + pop sp.2.1 < fallK k + opc tr k then fallK k + pop sp.2.1 else fallK k + opc tr k)) (-1) 0 tr (nI n) 0 0 = _ from f1, Option.bind_some, Nat.sub_zero]
  rfl
theorem m_best5 {tr : TrS} {mm : Int32} {mk mt : Nat → Int32} {mb : Nat} {th : Int32} {n : Nat} {k : KS} (hT : RT tr mb mm mk mt) (hn : n ≤ 4) (hV : VK k) : ∀ (f F : Nat) (s : Int32 × Int32) (now : Nat → Int32) (sm : Int32), F ≤ 4 ^ n → 4 ^ n - F < f → MR mb th now 0 k → ∃ now' sm', tw_X7_bestOf_5 mm mk mt th (nI n) f s.1 (nI F) now sm s.2 = some ((lpB (fun F => fallK (runK tr mb n F k)) (fun F => fgA n F 0) (4 ^ n - F) F s).1, now', sm', (lpB (fun F => fallK (runK tr mb n F k)) (fun F => fgA n F 0) (4 ^ n - F) F s).2) ∧ ∀ i, i < 7 → now' i = now i := by
  have hp := pw4 n (by omega)
  intro f
  induction f with
  | zero => intro F s now sm h1 h2; omega
  | succ f ih =>
    intro F s now sm h1 h2 hM
    rw [tw_X7_bestOf_5, tw_pow4 n (by omega), Option.bind_some]
    by_cases hF : F = 4 ^ n
    · rw [hF, if_pos (nI_le (Nat.le_refl _) (by omega)), Nat.sub_self]
      exact ⟨_, _, rfl, fun _ _ => rfl⟩
    · obtain ⟨now1, sm1, e1, e2, e3, e4⟩ := m_run hT (show n ≤ 5 by omega) (show F < 2 ^ 31 by omega) hV hM sm
      rw [if_neg (nI_ge (by omega) (by omega)), e1, Option.bind_some, show tw_X7_fallen mm now1 th 1 = _ from tw_mfallen (b := 1) hT.2.1 hT.2.2.1 (by omega) e2, Option.bind_some, tw_fig (by omega) (by omega), Option.bind_some, show 4 ^ n - F = (4 ^ n - (F + 1)) + 1 by omega, lpB, tw_X7_bestOf_47, tw_X7_bestOf_47, nI_1]
      have hM1 := hM.down e4
      unfold upB
      by_cases q : nI (fallK (runK tr mb n F k)) ≤ s.1
      · rw [if_pos q, if_pos q, if_pos q]
        obtain ⟨now', sm', g1, g2⟩ := ih (F + 1) s now1 sm1 (by omega) (by omega) hM1
        exact ⟨now', sm', g1, fun i hi => (g2 i hi).trans (e4 i hi)⟩
      · rw [if_neg q, if_neg q, if_neg q]
        obtain ⟨now', sm', g1, g2⟩ := ih (F + 1) (nI (fallK (runK tr mb n F k)), nI (fgA n F 0)) now1 sm1 (by omega) (by omega) hM1
        exact ⟨now', sm', g1, fun i hi => (g2 i hi).trans (e4 i hi)⟩
theorem bs_start {tr : TrS} {mb n : Nat} {k : KS} (hn : n ≤ 4) (s : Int32 × Int32) (hs : s.1.toInt < 0) : bsS tr mb n k s = lpB (fun F => fallK (runK tr mb n F k)) (fun F => fgA n F 0) (4 ^ n - 1) 1 (nI (fallK (runK tr mb n 0 k)), nI (fgA n 0 0)) := by
  have hp := pw4 n (by omega)
  unfold bsS
  rw [show 4 ^ n = (4 ^ n - 1) + 1 by omega, lpB]
  unfold upB
  have h1 := fallK_le (runK tr mb n 0 k)
  rw [if_neg (nneg (by omega) hs)]
  rfl
theorem m_best {tr : TrS} {mm : Int32} {mk mt : Nat → Int32} {mb : Nat} {th : Int32} {n : Nat} {k : KS} {now : Nat → Int32} (hT : RT tr mb mm mk mt) (hn : n ≤ 4) (hV : VK k) (hM : MR mb th now 0 k) (sm br : Int32) : ∃ now' sm', tw_X7_bestOf mm mk mt now th sm br (nI n) = some ((bsS tr mb n k (-1, 0)).1, now', sm', (bsS tr mb n k (-1, 0)).2) ∧ ∀ i, i < 7 → now' i = now i := by
  have hp := (by decide +kernel : ∀ n, n ≤ 4 → 4 ^ n < 257) n hn
  obtain ⟨now', sm', e1, e2⟩ := m_best5 (th := th) hT hn hV 257 0 (-9, br) now sm (Nat.zero_le _) (by omega) hM
  refine ⟨now', sm', ?_, e2⟩
  rw [bs_start hn (-1, 0) (by decide), ← bs_start hn (-9, br) (by show (-9 : Int32).toInt < 0; decide)]
  exact e1
/-- best -/
theorem s_best {tr : TrS} {mb : Nat} {mm : Int32} {mk mt : Nat → Int32} {no : SpS} {now : Nat → Int32} {k : KS} (hT : RT tr mb mm mk mt) (hC : Co tr mb no now 0 k) (sef : Nat → SpS) (seb seo sew sm br y z : Int32) : ∃ (r : Int32) (sef' : Nat → SpS) (seb' seo' sew' : Int32) (now' : Nat → Int32) (sm' br' : Int32), tw_X6_best no sef seb seo sew tr y z = some (r, sef', seb', seo', sew') ∧ tw_X7_best mm mk mt now 15 sm br y z = some (r, now', sm', br') ∧ ∀ i, i < 7 → now' i = now i := by
  have ed : tw_X6_best no sef seb seo sew tr y z = if (1 ≤ y.toInt ∧ y.toInt ≤ (4 : Nat)) then ((tw_X2_findBest sef seb seo sew tr no y).bind (fun q3 => if z = 0 then (some (q3.2.2.1, q3.1, q3.2.1, q3.2.2.1, q3.2.2.2)) else (some (q3.2.2.2, q3.1, q3.2.1, q3.2.2.1, q3.2.2.2)))) else some ((-2), sef, seb, seo, sew) := by
    rw [tw_X6_best]
    exact rg1 y 4 (by omega) _ _
  rw [ed, tw_X7_best, in1 y 4 4 (by decide), Option.bind_some]
  by_cases h : 1 ≤ y.toInt ∧ y.toInt ≤ (4 : Nat)
  · obtain ⟨n, hn1, hn2, rfl⟩ := of1 h (by omega)
    obtain ⟨sef', seb', e1⟩ := c_best hT.1 hT.2.2.1 (hT.2.2.2.2.2.2.2.2.2.2 2 (by omega)) hn2 hC.1 hC.2.1 sef seb seo sew
    obtain ⟨now', sm', f1, f2⟩ := m_best hT hn2 hC.2.1 hC.2.2.2.1 sm br
    rw [if_pos h, decide_eq_true h, if_neg (b1_ne rfl), e1, f1, Option.bind_some, Option.bind_some]
    by_cases hz : z = 0
    · rw [if_pos hz, if_pos hz]
      exact ⟨_, _, _, _, _, _, _, _, rfl, rfl, f2⟩
    · rw [if_neg hz, if_neg hz]
      exact ⟨_, _, _, _, _, _, _, _, rfl, rfl, f2⟩
  · rw [if_neg h, decide_eq_false h, if_pos (by decide)]
    exact ⟨_, _, _, _, _, _, _, _, rfl, rfl, fun _ _ => rfl⟩
