theorem or_0 (x : Int32) : x ||| 0 = x := by
  apply b_ext
  intro i _
  rw [b_or, b_0, Bool.or_false]
theorem MR.mv {mb : Nat} {th : Int32} {now : Nat → Int32} {b : Nat} {k : KS} (h : MR mb th now b k) {m d : Nat} (hm : m < mb) (h4 : mb ≤ 4) (ht : bt th m = true) (hd : d < 25) : MR mb th (upd now (7 * b + m) (nI d)) b (mvK k m d) := by
  refine ⟨fun j hj => ?_, ?_, ?_, fun j hj hb => ?_⟩
  · show upd k.1 m (nI d) j = _
    by_cases hjm : j = m
    · subst hjm
      rw [pk_us, if_pos ⟨hm, ht⟩, pk_us]
    · rw [pk_un hjm, pk_un (by omega)]
      exact h.1 j hj
  · show k.2.1 = _
    rw [pk_un (by omega)]
    exact h.2.1
  · show k.2.2 = _
    rw [pk_un (by omega)]
    exact h.2.2.1
  · show ¬ upd k.1 m (nI d) j = -1
    by_cases hjm : j = m
    · subst hjm
      rw [pk_us]
      exact o1_m d hd
    · rw [pk_un hjm]
      exact h.2.2.2 j hj hb
theorem MR.fa {mb : Nat} {th : Int32} {now : Nat → Int32} {b : Nat} {k : KS} (h : MR mb th now b k) {m d : Nat} (hm : m < mb) (h4 : mb ≤ 4) (ht : bt th m = true) (hd : d < 25) : MR mb th (upd (upd now (7 * b + m) (100 + nI d)) (7 * b + 4) (((upd now (7 * b + m) (100 + nI d)) (7 * b + 4)) ||| (1 <<< (nI d &&& 31)))) b (faK k m d) := by
  refine ⟨fun j hj => ?_, ?_, ?_, fun j hj hb => ?_⟩
  · show upd k.1 m (nI (100 + d)) j = _
    rw [pk_un (show 7 * b + j ≠ 7 * b + 4 by omega)]
    by_cases hjm : j = m
    · subst hjm
      rw [pk_us, if_pos ⟨hm, ht⟩, pk_us, add100]
    · rw [pk_un hjm, pk_un (by omega)]
      exact h.1 j hj
  · show k.2.1 ||| bs d = _
    rw [pk_us, pk_un (by omega), h.2.1]
    rfl
  · show k.2.2 = _
    rw [pk_un (by omega), pk_un (by omega)]
    exact h.2.2.1
  · show ¬ upd k.1 m (nI (100 + d)) j = -1
    by_cases hjm : j = m
    · subst hjm
      rw [pk_us]
      exact fun q => m_ne_h d hd q.symm
    · rw [pk_un hjm]
      exact h.2.2.2 j hj hb
theorem tw_m200 {mm : Int32} {mk mt : Nat → Int32} {th p1 p3 sm : Int32} {m : Nat} {now : Nat → Int32} (z : Bool) : tw_X7_roll_181 mm mk mt th p1 (nI m) p3 (b1 z) now sm = some (1, now, if z = true then sm ||| bs m else sm) := by
  rw [tw_X7_roll_181]
  cases z with
  | true => rfl
  | false =>
    rw [if_pos (by decide), tw_X7_roll_200, or_0]
    rfl
theorem m_step {tr : TrS} {mm : Int32} {mk mt : Nat → Int32} {mb : Nat} {th sm st : Int32} {now : Nat → Int32} {b m w : Nat} {k : KS} (hT : RT tr mb mm mk mt) (hb : b < 2) (hm : m < mb) (hw : w < 4) (hV : VK k) (hR : MR mb th now b k) (hS : SR mb k st sm) :
    (stepK tr w m k st = none → tw_X7_roll mm mk mt now th sm (nI b) (nI m) (nI w) = some (0, now, sm)) ∧
    (∀ k' st', stepK tr w m k st = some (k', st') → ∃ now' sm', tw_X7_roll mm mk mt now th sm (nI b) (nI m) (nI w) = some (1, now', sm') ∧ MR mb th now' b k' ∧ SR mb k' st' sm' ∧ ∀ i, (i < 7 * b ∨ 7 * b + 6 ≤ i) → now' i = now i) := by
  have h4 : mb ≤ 4 := hT.2.2.1
  have hm4 : m < 4 := by omega
  have hkm : mk m = tr.2.1 m := hT.2.2.2.1 m hm
  have away : cel (k.1 m) = none → (bt th m && decide (now (7 * b + m) < 100)) = false := by
    intro hc
    cases ht : bt th m with
    | false => rfl
    | true =>
      have e := hR.1 m hm4
      rw [if_pos ⟨hm, ht⟩] at e
      rcases hV.1 m hm4 with q | ⟨c, hc5, q⟩ | ⟨c, hc5, q⟩
      · exact absurd q (hR.2.2.2 m hm ht)
      · rw [q, cel_c c hc5] at hc; cases hc
      · rw [← e, q, Bool.true_and]
        exact decide_eq_false (nlt100 c hc5)
  have hst := hS m hm
  rw [tw_X7_roll, tw_isThere hb hm4, Option.bind_some]
  cases hc : cel (k.1 m) with
  | none =>
    have e : stepK tr w m k st = none := by
      unfold stepK
      rw [hc]
      split <;> rfl
    refine ⟨fun _ => ?_, fun k' st' q => by rw [e] at q; cases q⟩
    rw [away hc]
    rfl
  | some c =>
    obtain ⟨hc5, hp⟩ := cel_some hV hm4 hc
    obtain ⟨hth, hnow⟩ := (hR.at hm h4 hc5).mpr hp
    rw [hth, if_neg (b1_ne rfl), tw_has _ m (by omega), Option.bind_some, ixm, nI_clamp (by omega), nI_clamp (by omega), if_pos (ix_nI (by omega) (by omega)), if_pos (ix_nI (by omega) (by omega)), hnow, hkm]
    have ht : bt th m = true := by
      cases q : bt th m with
      | true => rfl
      | false => rw [q] at hth; cases hth
    rw [hc, Option.isNone_some, Bool.or_false] at hst
    cases hs : bt sm m with
    | true =>
      have e : stepK tr w m k st = none := by
        unfold stepK
        rw [if_pos (hst.trans hs)]
      refine ⟨fun _ => rfl, fun k' st' q => by rw [e] at q; cases q⟩
    | false =>
      rw [if_pos (by decide)]
      have hst0 : ¬ bt st m = true := by rw [hst, hs]; decide
      have e0 : stepK tr w m k st = (match nxt c (dirK tr m w) with
          | none => none
          | some d => if blk tr k d = true then none
            else if opn tr k d = true then some (faK k m d, st ||| bs m)
            else some (mvK k m d, if stp tr m d = true then st ||| bs m else st)) := by
        unfold stepK
        rw [if_neg hst0, hc]
        rfl
      have key : ∀ v, v < 4 → (match nxt c v with
          | none => tw_X7_roll_54 mm mk mt th (nI b) (nI m) (nI w) (7 * nI b) (nI c) (nI v) now sm = some (0, now, sm)
          | some d => if blk tr k d = true then tw_X7_roll_54 mm mk mt th (nI b) (nI m) (nI w) (7 * nI b) (nI c) (nI v) now sm = some (0, now, sm)
            else if opn tr k d = true then tw_X7_roll_54 mm mk mt th (nI b) (nI m) (nI w) (7 * nI b) (nI c) (nI v) now sm = some ((1 : Int32), upd (upd now (7 * b + m) (100 + nI d)) (7 * b + 4) (((upd now (7 * b + m) (100 + nI d)) (7 * b + 4)) ||| (1 <<< (nI d &&& 31))), sm)
            else tw_X7_roll_54 mm mk mt th (nI b) (nI m) (nI w) (7 * nI b) (nI c) (nI v) now sm = some ((1 : Int32), upd now (7 * b + m) (nI d), if stp tr m d = true then sm ||| bs m else sm)) := by
        intro v hv
        rw [tw_X7_roll_54, tw_onward c hc5 v hv, Option.bind_some]
        cases hn : nxt c v with
        | none =>
          show ((tw_X7_canBe mm mt now th (nI b) (-9)).bind _) = _
          rw [tw_X7_canBe, if_pos rfl]
          rfl
        | some d =>
          have hd := nxt_lt hc5 hv hn
          simp only [show o9 (some d) = nI d from rfl]
          rw [tw_mcanBe hT hb hd hR, Option.bind_some, tw_mOpen hT hb hd hR, Option.bind_some, ixm, show (7 * nI b + 4 : Int32) = nI (7 * b + 4) from ixm b 4, nI_clamp (show 7 * b + m < 2 ^ 31 by omega), nI_clamp (show m < 2 ^ 31 by omega), nI_clamp (show 7 * b + 4 < 2 ^ 31 by omega)]
          simp only [if_pos (ix_nI (show 7 * b + m < 14 by omega) (by omega)), if_pos (ix_nI (show 7 * b + 4 < 14 by omega) (by omega)), if_pos (ix_nI hm4 (show 4 < 2 ^ 31 by omega))]
          by_cases hbk : blk tr k d = true
          · rw [if_pos hbk, hbk]
            rfl
          · have hbf : blk tr k d = false := by cases q : blk tr k d <;> simp_all
            rw [if_neg hbk, hbf, if_neg (show ¬ b1 (!false) = 0 by decide)]
            by_cases ho : opn tr k d = true
            · rw [if_pos ho, ho, if_neg (b1_ne rfl)]
            · have hof : opn tr k d = false := by cases q : opn tr k d <;> simp_all
              rw [if_neg ho, hof, if_pos (show b1 false = 0 by decide)]
              have hmt : mt 2 = tr.1 3 := hT.2.2.2.2.2.2.1
              have hnr : nearB (mt 3) d = bt tr.2.2.2.2 d := by
                rw [hT.2.2.2.2.2.2.2.1, hT.2.2.2.2.2.2.2.2.2.1 d hd]
              rw [t2, tw_has _ d (by omega), Option.bind_some, hkm, hmt]
              have e176 : ∀ nw, tw_X7_roll_176 mm mk mt th (nI b) (nI m) (nI w) nw sm = some (1, nw, sm ||| bs m) := fun nw => tw_m200 true
              have e180 : ∀ nw, tw_X7_roll_180 mm mk mt th (nI b) (nI m) (nI w) nw sm = some (1, nw, sm) := fun nw => tw_m200 false
              have e157 : ∀ nw, tw_X7_roll_157 mm mk mt th (nI b) (nI m) (nI w) (nI d) nw sm = some (1, nw, if (decide (tr.2.1 m = 1) && bt tr.2.2.2.2 d) = true then sm ||| bs m else sm) := by
                intro nw
                rw [tw_X7_roll_157, if_pos (ix_nI hm4 (by omega)), nI_clamp (by omega), hkm]
                by_cases h1 : tr.2.1 m = 1
                · rw [if_pos h1, tw_near hd, Option.bind_some, hnr, e176, e180]
                  simp only [h1, decide_true, Bool.true_and]
                  cases bt tr.2.2.2.2 d <;> rfl
                · rw [if_neg h1, e180]
                  simp [h1]
              rw [e176, e157]
              unfold stp
              by_cases k0 : tr.2.1 m = 0
              · simp [k0]
              · by_cases k1 : tr.2.1 m = 1
                · simp only [k1]
                  cases bt (tr.1 3) d <;> cases bt tr.2.2.2.2 d <;> rfl
                · by_cases k2 : tr.2.1 m = 2
                  · simp [k2]
                  · simp only [k0, k1, k2, if_false, decide_false, Bool.false_and]
                    cases bt (tr.1 3) d <;> rfl
      have go : (if tr.2.1 m = 3 then tw_X7_roll_54 mm mk mt th (nI b) (nI m) (nI w) (7 * nI b) (nI c) (nI w ^^^ 1) now sm else tw_X7_roll_54 mm mk mt th (nI b) (nI m) (nI w) (7 * nI b) (nI c) (nI w) now sm) = tw_X7_roll_54 mm mk mt th (nI b) (nI m) (nI w) (7 * nI b) (nI c) (nI (dirK tr m w)) now sm := by
        unfold dirK
        by_cases hk : tr.2.1 m = 3
        · rw [if_pos hk, if_pos hk, xor1 w hw]
        · rw [if_neg hk, if_neg hk]
      rw [go, e0]
      have kk := key (dirK tr m w) (dirK_lt hw)
      cases hn : nxt c (dirK tr m w) with
      | none =>
        rw [hn] at kk
        exact ⟨fun _ => kk, fun k' st' q => by cases q⟩
      | some d =>
        rw [hn] at kk
        have hd := nxt_lt hc5 (dirK_lt hw) hn
        simp only at kk ⊢
        by_cases hbk : blk tr k d = true
        · rw [if_pos hbk] at kk
          rw [if_pos hbk]
          exact ⟨fun _ => kk, fun k' st' q => by cases q⟩
        · rw [if_neg hbk] at kk
          rw [if_neg hbk]
          by_cases ho : opn tr k d = true
          · rw [if_pos ho] at kk
            rw [if_pos ho]
            refine ⟨fun q => (by cases q), fun k' st' q => ?_⟩
            cases q
            refine ⟨_, _, kk, hR.fa hm h4 ht hd, fun j hj => ?_, fun i hi => ?_⟩
            · rw [bt_set hm4 (by omega)]
              by_cases hjm : j = m
              · subst hjm
                rw [show (faK k j d).1 j = nI (100 + d) from pk_us, cel_h d hd]
                simp
              · rw [show (faK k m d).1 j = k.1 j from pk_un hjm, hS j hj]
                simp [hjm]
            · rw [pk_un (by omega), pk_un (by omega)]
          · rw [if_neg ho] at kk
            rw [if_neg ho]
            refine ⟨fun q => (by cases q), fun k' st' q => ?_⟩
            cases q
            refine ⟨_, _, kk, hR.mv hm h4 ht hd, fun j hj => ?_, fun i hi => ?_⟩
            · have hj4 : j < 4 := by omega
              have hz := hS j hj
              by_cases hjm : j = m
              · subst hjm
                rw [show (mvK k j d).1 j = nI d from pk_us, cel_c d hd, Option.isNone_some, Bool.or_false]
                cases stp tr j d with
                | true => simp only [if_true, bt_set hj4 hj4]; simp
                | false => simp only [Bool.false_eq_true, if_false]; exact hst
              · rw [show (mvK k m d).1 j = k.1 j from pk_un hjm]
                cases stp tr m d with
                | true =>
                  simp only [if_true, bt_set hm4 hj4, hz]
                  simp [hjm]
                | false => simp only [Bool.false_eq_true, if_false]; exact hz
            · rw [pk_un (by omega)]
