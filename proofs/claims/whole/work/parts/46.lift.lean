theorem and_m1 (x : Int32) : x &&& (-1) = x := by
  apply b_ext
  intro i hi
  rw [b_and, b_m1 i hi, Bool.and_true]
def liK (k : KS) (m c : Nat) (f : Int32) : KS := (upd k.1 m (nI c), f, k.2.2)
theorem MR.lift {mb : Nat} {now : Nat → Int32} {k : KS} (h : MR mb 15 now 0 k) {m c : Nat} (hm : m < mb) (h4 : mb ≤ 4) (hc : c < 25) (f : Int32) : MR mb 15 (upd (upd now 4 f) m (nI c)) 0 (liK k m c f) := by
  refine ⟨fun j hj => ?_, ?_, ?_, fun j hj hb => ?_⟩
  · show upd k.1 m (nI c) j = _
    rw [show 7 * 0 + j = j by omega]
    by_cases hjm : j = m
    · subst hjm
      rw [pk_us, pk_us, if_pos ⟨hm, b15 j hj⟩]
    · rw [pk_un hjm, pk_un hjm, pk_un (by omega)]
      have h1 := h.1 j hj
      rw [show 7 * 0 + j = j by omega] at h1
      exact h1
  · show f = upd (upd now 4 f) m (nI c) 4
    rw [pk_un (by omega), pk_us]
  · show k.2.2 = upd (upd now 4 f) m (nI c) 5
    rw [pk_un (by omega), pk_un (by omega)]
    exact h.2.2.1
  · show ¬ upd k.1 m (nI c) j = -1
    by_cases hjm : j = m
    · subst hjm
      rw [pk_us]
      exact o1_m c hc
    · rw [pk_un hjm]
      exact h.2.2.2 j hj hb
theorem occ_updH {f : Nat → Int32} {m d c : Nat} (hm : m < 4) (hd : d < 25) (h : f m = nI (100 + d)) {e : Nat} (he : e < 25) : occ (upd f m (nI c)) e = (decide (nI c = nI e) || occ f e) := by
  apply Bool.eq_iff_iff.mpr
  rw [occ_iff]
  simp only [Bool.or_eq_true, decide_eq_true_eq, occ_iff]
  constructor
  · rintro ⟨j, hj, h1⟩
    by_cases hjm : j = m
    · subst hjm
      rw [pk_us] at h1
      exact Or.inl h1
    · rw [pk_un hjm] at h1
      exact Or.inr ⟨j, hj, h1⟩
  · rintro (h1 | ⟨j, hj, h1⟩)
    · exact ⟨m, hm, by rw [pk_us]; exact h1⟩
    · refine ⟨j, hj, ?_⟩
      by_cases hjm : j = m
      · subst hjm
        rw [h] at h1
        exact absurd h1 (h_ne_c d hd e he)
      · rw [pk_un hjm]; exact h1
theorem CR.liftH {sp : SpS} {k : KS} {m d c : Nat} (hR : CR sp k) (hm : m < 4) (hd : d < 25) (hc : c < 25) (hp : k.1 m = nI (100 + d)) (f : Int32) : CR (upd sp.1 m (nI c), sp.2.1 ||| bs c, f, sp.2.2.2.1, sp.2.2.2.2) (liK k m c f) := by
  refine ⟨upd_cong hR.1 m _, rfl, hR.2.2.1, fun e he => ?_⟩
  show bt (sp.2.1 ||| bs c) e = (decide (e < 25) && occ (upd k.1 m (nI c)) e)
  unfold bs
  rw [b_set _ c (by omega) he, hR.2.2.2 e he]
  by_cases he5 : e < 25
  · have e1 : decide (nI c = nI e) = decide (e = c) := decide_eq_decide.mpr (by rw [nI_inj hc he5]; exact eq_comm)
    rw [occ_updH hm hd hp he5, e1]
    simp [he5, Bool.or_comm]
  · simp [he5, show ¬ e = c by omega]
theorem WK.lift {tr : TrS} {k : KS} {m c : Nat} (f : Int32) (hW : WK tr k) (hV : VK k) (hm : m < 4) (hc : c < 25) (hwc : bt k.2.2 c = false) : WK tr (liK k m c f) := by
  refine ⟨fun e he hb => ⟨(hW.1 e he hb).1, ?_⟩, hW.2.1, hW.2.2⟩
  have ho := (hW.1 e he hb).2
  cases hq : occ (liK k m c f).1 e with
  | false => rfl
  | true =>
    obtain ⟨j, hj, h1⟩ := occ_iff.mp hq
    have h1 : upd k.1 m (nI c) j = nI e := h1
    by_cases hjm : j = m
    · subst hjm
      rw [pk_us, nI_inj hc he] at h1
      subst h1
      have hb : bt k.2.2 c = true := hb
      rw [hwc] at hb
      cases hb
    · rw [pk_un hjm] at h1
      rw [occ_iff.mpr ⟨j, hj, h1⟩] at ho
      cases ho
theorem VK.lift {k : KS} {m c : Nat} (f : Int32) (hV : VK k) (hc : c < 25) (ho : occ k.1 c = false) : VK (liK k m c f) := by
  have h := hV.move (m := m) hc ho
  exact ⟨h.1, h.2⟩
/-- lift -/
theorem s_lift {tr : TrS} {mb : Nat} {mm : Int32} {mk mt : Nat → Int32} {no : SpS} {now : Nat → Int32} {k : KS} {acf : Nat → SpS} {aci acn : Int32} {row : Nat → Int32} {ma mx : Int32} {n i x : Nat} (hT : RT tr mb mm mk mt) (hC : Co tr mb no now 0 k) (hA : ACR tr mb acf aci acn row ma mx n i x) (y z : Int32) :
    ∃ (r : Int32) (no' : SpS) (acf' : Nat → SpS) (aci' acn' : Int32) (now' : Nat → Int32) (ma' mx' : Int32) (row' : Nat → Int32) (k' : KS) (n' i' x' : Nat), tw_X6_lift no acf aci acn tr y z = some (r, no', acf', aci', acn') ∧ tw_X7_lift mm mt now 15 ma mx row y z = some (r, now', ma', mx', row') ∧ Co tr mb no' now' 0 k' ∧ ACR tr mb acf' aci' acn' row' ma' mx' n' i' x' := by
  have hC0 := hC
  obtain ⟨c1, c2, c3, c4, c5⟩ := hC
  have h4 := hT.2.2.1
  rw [tw_X6_lift, tw_X7_lift, tw_hasM hT.1 h4, Option.bind_some, tw_mMarble hT.2.1 h4, Option.bind_some, tw_isCell, Option.bind_some, tw_mCell, Option.bind_some]
  cases hy : ix y mb with
  | false => exact ⟨_, _, _, _, _, _, _, _, _, k, n, i, x, rfl, rfl, hC0, hA⟩
  | true =>
    rw [if_neg (b1_ne rfl), if_neg (b1_ne rfl)]
    cases hz : ix z 25 with
    | false => exact ⟨_, _, _, _, _, _, _, _, _, k, n, i, x, rfl, rfl, hC0, hA⟩
    | true =>
      obtain ⟨m, hm, rfl⟩ := ix_of hy (by omega)
      obtain ⟨c, hc, rfl⟩ := ix_of hz (by omega)
      have hm4 : m < 4 := by omega
      have en : now m = k.1 m := by
        have h1 := c4.1 m hm4
        rw [show 7 * 0 + m = m by omega, if_pos ⟨hm, b15 m hm4⟩] at h1
        exact h1.symm
      rw [if_neg (b1_ne rfl), if_neg (b1_ne rfl), if_pos (ix_nI hm4 (by omega)), if_pos (ix_nI (show m < 14 by omega) (by omega)), nI_clamp (by omega), c1.1 m hm4, en, tw_canBe c1 hc, Option.bind_some, tw_isOpenHole c1 hc, Option.bind_some, show (0 : Int32) = nI 0 from rfl, tw_mcanBe hT (show 0 < 2 by omega) hc c4, Option.bind_some, tw_mOpen hT (show 0 < 2 by omega) hc c4, Option.bind_some, add100, show nI 0 = (0 : Int32) from rfl]
      by_cases ha : k.1 m = nI c
      · have ho : occ k.1 c = true := occ_iff.mpr ⟨m, hm4, ha⟩
        have hb : blk tr k c = true := by unfold blk; rw [ho]; simp
        rw [if_pos ha, hb]
        exact ⟨_, _, _, _, _, _, _, _, _, k, n, i, x, rfl, rfl, hC0, hA⟩
      · rw [if_neg ha]
        cases hb : blk tr k c with
        | true =>
          by_cases hh : k.1 m = nI (100 + c)
          · rw [if_pos hh]
            exact ⟨_, _, _, _, _, _, _, _, _, k, n, i, x, rfl, rfl, hC0, hA⟩
          · rw [if_neg hh]
            exact ⟨_, _, _, _, _, _, _, _, _, k, n, i, x, rfl, rfl, hC0, hA⟩
        | false =>
          rw [if_neg (show ¬ b1 (!false) = 0 by decide), if_neg (show ¬ b1 (!false) = 0 by decide)]
          cases ho : opn tr k c with
          | true =>
            by_cases hh : k.1 m = nI (100 + c)
            · rw [if_pos hh]
              exact ⟨_, _, _, _, _, _, _, _, _, k, n, i, x, rfl, rfl, hC0, hA⟩
            · rw [if_neg hh]
              exact ⟨_, _, _, _, _, _, _, _, _, k, n, i, x, rfl, rfl, hC0, hA⟩
          | false =>
            rw [if_pos (show b1 false = 0 by decide), if_pos (show b1 false = 0 by decide)]
            by_cases hh : k.1 m = nI (100 + c)
            · rw [if_pos hh, if_pos hh]
              exact ⟨_, _, _, _, _, _, _, _, _, k, n, i, x, rfl, rfl, hC0, hA⟩
            · rw [if_neg hh, if_neg hh]
              obtain ⟨acf', aci', acn', row', ma', mx', n', i', x', e1, e2, e3⟩ := ac_keep hA hC0
              have hoc : occ k.1 c = false := by
                cases q : occ k.1 c with
                | false => rfl
                | true => unfold blk at hb; rw [q] at hb; simp at hb
              have hwc : bt k.2.2 c = false := by
                cases q : bt k.2.2 c with
                | false => rfl
                | true => unfold blk at hb; rw [q] at hb; simp at hb
              have e82 : ∀ z3, tw_X7_lift_82 mm mt 15 (nI m) (nI c) (k.1 m) 4 (now (4 : Int32).toNatClampNeg) z3 now ma' mx' row' = some (k.1 m, upd (upd now 4 (now 4 &&& z3)) m (nI c), ma', mx', row') := by
                intro z3
                rw [tw_X7_lift_82, if_pos (by decide), if_pos (ix_nI (by omega) (by omega)), nI_clamp (by omega), t4]
              have h4n : now 4 = k.2.1 := c4.2.1.symm
              have tl : ∀ f, no.2.2.2.2 = upd (upd now 4 f) m (nI c) (7 * 0 + 6) := by
                intro f
                rw [pk_un (by omega), pk_un (by omega)]
                exact c5
              rw [e1, Option.bind_some, e2, Option.bind_some, e82, e82, tw_X4_put, if_pos (ix_nI hm4 (by omega)), nI_clamp (by omega), c1.1 m hm4, if_pos (ix_nI hm4 (by omega)), tw_X4_put_55, tw_X4_put_55, if_pos (ix_nI hm4 (by omega)), if_pos (ix_nI hm4 (by omega)), nI_clamp (by omega)]
              rcases c2.1 m hm4 with q | ⟨d, hd, q⟩ | ⟨d, hd, q⟩
              · exact absurd q (c4.2.2.2 m hm (b15 m hm4))
              · rw [q, if_pos (lt100 d hd), if_pos (lt100 d hd), and_m1, h4n, Option.bind_some]
                have hmv := c1.move c2 hm4 hd hc q
                refine ⟨_, _, _, _, _, _, _, _, _, liK k m c k.2.1, n', i', x', rfl, rfl, ⟨hmv, c2.lift _ hc hoc, c3.lift _ c2 hm4 hc hwc, c4.lift hm h4 hc _, tl _⟩, e3⟩
              · have es : nI (100 + d) - 100 = nI d := by
                  have h9 := pk_sub (a := 100 + d) (b := 100) (by omega)
                  rw [show 100 + d - 100 = d by omega] at h9
                  exact h9
                rw [q, if_neg (nlt100 d hd), if_neg (nlt100 d hd), es, h4n, if_pos (ix_nI hm4 (by omega)), Option.bind_some, c1.2.1]
                exact ⟨_, _, _, _, _, _, _, _, _, liK k m c (k.2.1 &&& (bs d ^^^ (-1))), n', i', x', rfl, rfl, ⟨c1.liftH hm4 hd hc q _, c2.lift _ hc hoc, c3.lift _ c2 hm4 hc hwc, c4.lift hm h4 hc _, tl _⟩, e3⟩
/-! cell, keep, again, count -/
theorem tw_mAtC {sp : SpS} {k : KS} (hR : CR sp k) (x : Int32) : ∀ (n m : Nat), m ≤ 4 → 4 - m < n → tw_X4_marbleAt_2 sp x n (nI m) = some (faF k.1 x (4 - m) m) := by
  intro n
  induction n with
  | zero => intro m h1 h2; omega
  | succ n ih =>
    intro m h1 h2
    rw [tw_X4_marbleAt_2]
    by_cases hm : m = 4
    · subst hm
      rw [if_pos (by decide), Nat.sub_self, faF]
    · rw [if_neg (show ¬ (4 : Int32) ≤ nI m from nI_ge (b := 4) (by omega) (by omega)), if_pos (ix_nI (by omega) (by omega)), nI_clamp (by omega), hR.1 m (by omega), show 4 - m = (4 - (m + 1)) + 1 by omega, faF]
      have e := ih (m + 1) (by omega) (by omega)
      rw [← nI_1] at e
      by_cases h : k.1 m = x
      · rw [if_pos h, if_pos h]
      · rw [if_neg h, if_neg h, e]
theorem tw_part {tr : TrS} {c : Nat} (hc : c < 25) : tw_X5_partAt tr (nI c) = some (if bt (tr.1 1) c = true then 1 else if bt (tr.1 2) c = true then 2 else if bt (tr.1 3) c = true then 3 else if bt (tr.1 4) c = true then 4 else 0) := by
  have st : ∀ (n j : Nat), j < 5 → tw_X5_partAt_2 tr (nI c) (n + 1) (nI j) = if bt (tr.1 j) c = true then some (nI j) else tw_X5_partAt_2 tr (nI c) n (nI (j + 1)) := by
    intro n j hj
    rw [tw_X5_partAt_2, if_neg (show ¬ (5 : Int32) ≤ nI j from nI_ge (b := 5) hj (by omega)), if_pos (ix_nI hj (by omega)), nI_clamp (by omega), tw_bitOf _ c (by omega), Option.bind_some, nI_1]
    cases bt (tr.1 j) c <;> rfl
  show tw_X5_partAt_2 tr (nI c) 5 (nI 1) = _
  rw [st 4 1 (by omega), st 3 2 (by omega), st 2 3 (by omega), st 1 4 (by omega)]
  cases bt (tr.1 1) c <;> cases bt (tr.1 2) c <;> cases bt (tr.1 3) c <;> cases bt (tr.1 4) c <;> rfl
theorem s_cell {tr : TrS} {mb : Nat} {mm : Int32} {mk mt : Nat → Int32} {no : SpS} {now : Nat → Int32} {k : KS} (hT : RT tr mb mm mk mt) (hC : Co tr mb no now 0 k) (y z : Int32) : ∃ r, tw_X6_cell no tr y z = some r ∧ tw_X7_cell mm mt now 15 y z = some r := by
  obtain ⟨c1, c2, c3, c4, c5⟩ := hC
  rw [tw_X6_cell, tw_X7_cell, tw_isCell, Option.bind_some, tw_mCell, Option.bind_some]
  cases hy : ix y 25 with
  | false => exact ⟨_, rfl, rfl⟩
  | true =>
    obtain ⟨c, hc, rfl⟩ := ix_of hy (by omega)
    have e0 : tw_X4_marbleAt no (nI c) = some (faF k.1 (nI c) 4 0) := tw_mAtC c1 (nI c) 5 0 (by omega) (by omega)
    rw [if_neg (b1_ne rfl), if_neg (b1_ne rfl), tw_part hc, Option.bind_some, e0, Option.bind_some, tw_bitOf _ c (by omega), Option.bind_some, tw_bitOf _ c (by omega), Option.bind_some, show tw_X7_marbleAt mm now 15 0 (nI c) = _ from tw_mAt hT.2.1 hT.2.2.1 (show 0 < 2 by omega) hc c4, Option.bind_some, t0, t1, t2, t3, t4, t5, tw_has _ c (by omega), tw_has _ c (by omega), tw_has _ c (by omega), tw_has _ c (by omega), Option.bind_some, Option.bind_some, Option.bind_some, Option.bind_some, bit1 _ c (by omega), bit1 _ c (by omega), hT.2.2.2.2.1, hT.2.2.2.2.2.1, hT.2.2.2.2.2.2.1, hT.2.2.2.2.2.2.2.1, c1.2.1, c1.2.2.1, show now 4 = k.2.1 from c4.2.1.symm, show now 5 = k.2.2 from c4.2.2.1.symm]
    by_cases z0 : z = 0
    · rw [if_pos z0, if_pos z0]
      refine ⟨_, rfl, ?_⟩
      cases bt (tr.1 1) c <;> cases bt (tr.1 2) c <;> cases bt (tr.1 3) c <;> cases bt (tr.1 4) c <;> rfl
    · rw [if_neg z0, if_neg z0]
      by_cases z1 : z = 1
      · rw [if_pos z1]; exact ⟨_, rfl, rfl⟩
      · rw [if_neg z1]
        by_cases z2 : z = 2
        · rw [if_pos z2]; exact ⟨_, rfl, rfl⟩
        · rw [if_neg z2]
          by_cases z3 : z = 3
          · rw [if_pos z3]; exact ⟨_, rfl, rfl⟩
          · rw [if_neg z3]; exact ⟨_, rfl, rfl⟩
def SLR (tr : TrS) (mb : Nat) (slf : Nat → SpS) (kp : Int32) (mkp isK : Nat → Int32) : Prop := ∀ j, j < 2 → isK j = b1 (bt kp j) ∧ (bt kp j = true → ∃ k, Co tr mb (slf j) mkp j k)
theorem s_keep {tr : TrS} {mb : Nat} {no : SpS} {now : Nat → Int32} {k : KS} {slf : Nat → SpS} {kp : Int32} {mkp isK : Nat → Int32} (hC : Co tr mb no now 0 k) (hL : SLR tr mb slf kp mkp isK) (y : Int32) :
    ∃ (r : Int32) (slf' : Nat → SpS) (kp' : Int32) (isK' mkp' : Nat → Int32), tw_X6_keep no slf kp y = some (r, slf', kp') ∧ tw_X7_keep now isK mkp y = some (r, isK', mkp') ∧ SLR tr mb slf' kp' mkp' isK' := by
  rw [tw_X6_keep, tw_X7_keep, tw_isSlot, Option.bind_some, tw_in y 2 1 (by decide), Option.bind_some]
  cases hy : ix y 2 with
  | false => exact ⟨_, _, _, _, _, rfl, rfl, hL⟩
  | true =>
    obtain ⟨x, hx, rfl⟩ := ix_of hy (by omega)
    obtain ⟨s', s1, s2, s3⟩ := tw_take (slf x) no
    rw [if_neg (b1_ne rfl), if_neg (b1_ne rfl), if_pos rfl, if_pos rfl, nI_clamp (by omega), s1, Option.bind_some, show (7 * nI x + 0 : Int32) = nI (7 * x + 0) from ixm x 0, show (7 * nI x + 1 : Int32) = nI (7 * x + 1) from ixm x 1, show (7 * nI x + 2 : Int32) = nI (7 * x + 2) from ixm x 2, show (7 * nI x + 3 : Int32) = nI (7 * x + 3) from ixm x 3, show (7 * nI x + 4 : Int32) = nI (7 * x + 4) from ixm x 4, show (7 * nI x + 5 : Int32) = nI (7 * x + 5) from ixm x 5, show (7 * nI x + 6 : Int32) = nI (7 * x + 6) from ixm x 6]
    rw [if_pos (ix_nI (by omega) (by omega)), if_pos (ix_nI (by omega) (by omega)), if_pos (ix_nI (by omega) (by omega)), if_pos (ix_nI (by omega) (by omega)), if_pos (ix_nI (by omega) (by omega)), if_pos (ix_nI (by omega) (by omega)), if_pos (ix_nI (by omega) (by omega))]
    rw [nI_clamp (show 7 * x + 0 < 2 ^ 31 by omega), nI_clamp (show 7 * x + 1 < 2 ^ 31 by omega), nI_clamp (show 7 * x + 2 < 2 ^ 31 by omega), nI_clamp (show 7 * x + 3 < 2 ^ 31 by omega), nI_clamp (show 7 * x + 4 < 2 ^ 31 by omega), nI_clamp (show 7 * x + 5 < 2 ^ 31 by omega), nI_clamp (show 7 * x + 6 < 2 ^ 31 by omega)]
    simp only [t0, t1, t2, t3, t4, t5, t6]
    rw [show now 6 = no.2.2.2.2 from hC.2.2.2.2.symm]
    refine ⟨_, _, _, _, _, rfl, rfl, fun j hj => ?_⟩
    · have hb : bt (kp ||| (1 <<< (nI x &&& 31))) j = (bt kp j || decide (j = x)) := b_set kp x (by omega) (by omega)
      by_cases hjx : j = x
      · subst hjx
        rw [hb, pk_us, up_s]
        simp only [decide_true, Bool.or_true]
        refine ⟨by decide, fun _ => ⟨k, hC.blk s2 s3 (fun i hi => ?_)⟩⟩
        rw [show 7 * 0 + i = i by omega]
        simp only [upd]
        rcases (show i = 0 ∨ i = 1 ∨ i = 2 ∨ i = 3 ∨ i = 4 ∨ i = 5 ∨ i = 6 by omega) with rfl | rfl | rfl | rfl | rfl | rfl | rfl <;> first | (simp; done) | (simp; exact hC.2.2.2.2)
      · rw [hb, pk_un hjx, up_n hjx]
        simp only [hjx, decide_false, Bool.or_false]
        refine ⟨(hL j hj).1, fun q => ?_⟩
        obtain ⟨k1, h1⟩ := (hL j hj).2 q
        refine ⟨k1, h1.blk (fun _ _ => rfl) rfl (fun i hi => ?_)⟩
        simp only [upd]
        rw [if_neg (by omega), if_neg (by omega), if_neg (by omega), if_neg (by omega), if_neg (by omega), if_neg (by omega), if_neg (by omega)]
theorem s_again {tr : TrS} {mb : Nat} {no : SpS} {now : Nat → Int32} {k : KS} {slf : Nat → SpS} {kp : Int32} {mkp isK : Nat → Int32} (hC : Co tr mb no now 0 k) (hL : SLR tr mb slf kp mkp isK) (aci acn ma y : Int32) :
    ∃ (r : Int32) (no' : SpS) (aci' acn' : Int32) (now' : Nat → Int32) (ma' : Int32) (k' : KS), tw_X6_again no aci acn slf kp y = some (r, no', aci', acn') ∧ tw_X7_again now ma isK mkp y = some (r, now', ma') ∧ Co tr mb no' now' 0 k' ∧ ((aci' = aci ∧ acn' = acn ∧ ma' = ma) ∨ (aci' = 0 ∧ acn' = 0 ∧ ma' = 0)) := by
  rw [tw_X6_again, tw_X7_again, tw_isSlot, Option.bind_some, tw_in y 2 1 (by decide), Option.bind_some]
  cases hy : ix y 2 with
  | false => exact ⟨_, _, _, _, _, _, k, rfl, rfl, hC, Or.inl ⟨rfl, rfl, rfl⟩⟩
  | true =>
    obtain ⟨x, hx, rfl⟩ := ix_of hy (by omega)
    obtain ⟨s', s1, s2, s3⟩ := tw_take no (slf x)
    rw [if_neg (b1_ne rfl), if_neg (b1_ne rfl), if_pos rfl, if_pos rfl, nI_clamp (by omega), s1, Option.bind_some, tw_bitOf _ x (by omega), Option.bind_some, (hL x hx).1]
    cases hb : bt kp x with
    | false => exact ⟨_, _, _, _, _, _, k, rfl, rfl, hC, Or.inl ⟨rfl, rfl, rfl⟩⟩
    | true =>
      obtain ⟨k1, h1⟩ := (hL x hx).2 hb
      rw [if_neg (b1_ne rfl), if_neg (b1_ne rfl), show (7 * nI x + 0 : Int32) = nI (7 * x + 0) from ixm x 0, show (7 * nI x + 1 : Int32) = nI (7 * x + 1) from ixm x 1, show (7 * nI x + 2 : Int32) = nI (7 * x + 2) from ixm x 2, show (7 * nI x + 3 : Int32) = nI (7 * x + 3) from ixm x 3, show (7 * nI x + 4 : Int32) = nI (7 * x + 4) from ixm x 4, show (7 * nI x + 5 : Int32) = nI (7 * x + 5) from ixm x 5, show (7 * nI x + 6 : Int32) = nI (7 * x + 6) from ixm x 6]
      rw [if_pos (ix_nI (by omega) (by omega)), if_pos (ix_nI (by omega) (by omega)), if_pos (ix_nI (by omega) (by omega)), if_pos (ix_nI (by omega) (by omega)), if_pos (ix_nI (by omega) (by omega)), if_pos (ix_nI (by omega) (by omega)), if_pos (ix_nI (by omega) (by omega))]
      rw [nI_clamp (show 7 * x + 0 < 2 ^ 31 by omega), nI_clamp (show 7 * x + 1 < 2 ^ 31 by omega), nI_clamp (show 7 * x + 2 < 2 ^ 31 by omega), nI_clamp (show 7 * x + 3 < 2 ^ 31 by omega), nI_clamp (show 7 * x + 4 < 2 ^ 31 by omega), nI_clamp (show 7 * x + 5 < 2 ^ 31 by omega), nI_clamp (show 7 * x + 6 < 2 ^ 31 by omega)]
      simp only [t0, t1, t2, t3, t4, t5, t6]
      rw [tw_X0_forget, Option.bind_some]
      have hc' : Co tr mb s' (upd (upd (upd (upd (upd (upd (upd now 0 (mkp (7 * x + 0))) 1 (mkp (7 * x + 1))) 2 (mkp (7 * x + 2))) 3 (mkp (7 * x + 3))) 4 (mkp (7 * x + 4))) 5 (mkp (7 * x + 5))) 6 (mkp (7 * x + 6))) 0 k1 := by
        refine h1.blk s2 s3 (fun i hi => ?_)
        rw [show 7 * 0 + i = i by omega]
        simp only [upd]
        rcases (show i = 0 ∨ i = 1 ∨ i = 2 ∨ i = 3 ∨ i = 4 ∨ i = 5 ∨ i = 6 by omega) with rfl | rfl | rfl | rfl | rfl | rfl | rfl <;> simp
      have h6 := hc'.2.2.2.2
      refine ⟨_, _, _, _, _, _, k1, rfl, ?_, hc', Or.inr ⟨rfl, rfl, rfl⟩⟩
      rw [h6]
