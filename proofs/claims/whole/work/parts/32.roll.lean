/-! the class's tilt is tiltK -/
def cel (x : Int32) : Option Nat := if ix x 25 = true then some x.toNatClampNeg else none
theorem cel_c : ∀ c, c < 25 → cel (nI c) = some c := by decide +kernel
theorem cel_h : ∀ c, c < 25 → cel (nI (100 + c)) = none := by decide +kernel
theorem cel_m : cel (-1) = none := by decide +kernel
theorem cel_some {k : KS} (hV : VK k) {m c : Nat} (hm : m < 4) (h : cel (k.1 m) = some c) : c < 25 ∧ k.1 m = nI c := by
  rcases hV.1 m hm with e | ⟨d, hd, e⟩ | ⟨d, hd, e⟩
  · rw [e, cel_m] at h; cases h
  · rw [e, cel_c d hd] at h
    cases h
    exact ⟨hd, e⟩
  · rw [e, cel_h d hd] at h; cases h
def stepK (tr : TrS) (w m : Nat) (k : KS) (st : Int32) : Option (KS × Int32) :=
  if bt st m = true then none
  else match cel (k.1 m) with
    | none => none
    | some c => match nxt c (dirK tr m w) with
      | none => none
      | some d => if blk tr k d = true then none
        else if opn tr k d = true then some (faK k m d, st ||| bs m)
        else some (mvK k m d, if stp tr m d = true then st ||| bs m else st)
def rdK (tr : TrS) (w : Nat) : Nat → Nat → KS → Int32 → Bool → KS × Int32 × Bool
  | 0, _, k, st, wt => (k, st, wt)
  | n + 1, m, k, st, wt => match stepK tr w m k st with
    | none => rdK tr w n (m + 1) k st wt
    | some q => rdK tr w n (m + 1) q.1 q.2 true
def itK (tr : TrS) (w mb : Nat) : Nat → KS → Int32 → Bool → KS
  | 0, k, _, _ => k
  | n + 1, k, st, wt => if wt = true then itK tr w mb n (rdK tr w mb 0 k st false).1 (rdK tr w mb 0 k st false).2.1 (rdK tr w mb 0 k st false).2.2 else k
def shK (tr : TrS) (k : KS) (m : Nat) : Bool := match cel (k.1 m) with
  | none => true
  | some c => decide (tr.2.1 m = 1) && bt tr.2.2.2.2 c
def saK (tr : TrS) (k : KS) : Nat → Nat → Int32 → Int32
  | 0, _, st => st
  | n + 1, m, st => saK tr k n (m + 1) (if shK tr k m = true then st ||| bs m else st)
def tiltK (tr : TrS) (mb w : Nat) (k : KS) : KS := itK tr w mb 17 k (saK tr k mb 0 0) true
theorem tw_canBe {tr : TrS} {sp : SpS} {k : KS} {d : Nat} (hR : CR sp k) (hd : d < 25) : tw_X5_canBe tr sp (nI d) = some (b1 (!blk tr k d)) := by
  rw [tw_X5_canBe, tw_bitOf _ d (by omega), t1, t4]
  rw [b_or, b_or, b_or, hR.2.2.2 d (by omega), hR.2.2.1]
  have e : (((bt (tr.1 1) d || bt (tr.1 4) d) || (decide (d < 25) && occ k.1 d)) || bt k.2.2 d) = blk tr k d := by
    unfold blk
    simp [hd, Bool.or_assoc]
  rw [e]
  cases blk tr k d <;> rfl
theorem tw_isOpenHole {tr : TrS} {sp : SpS} {k : KS} {d : Nat} (hR : CR sp k) (hd : d < 25) : tw_X5_isOpenHole tr sp (nI d) = some (b1 (opn tr k d)) := by
  rw [tw_X5_isOpenHole, tw_bitOf _ d (by omega), t2, b_and, b_not _ (by omega), hR.2.1]
  show (some (b1 (opn tr k d))).bind _ = _
  cases opn tr k d <;> rfl
theorem tw_goOn {tr : TrS} {sp : SpS} {k : KS} {m c w : Nat} (hR : CR sp k) (hm : m < 4) (hc : c < 25) (hw : w < 4) (hp : k.1 m = nI c) :
    tw_X5_goOn tr sp (nI m) (nI w) = (match nxt c (dirK tr m w) with
      | none => some (0, sp)
      | some d => if blk tr k d = true then some (0, sp) else if opn tr k d = true then some (1, (upd sp.1 m (100 + nI d), sp.2.1 &&& (bs c ^^^ (-1)), sp.2.2.1 ||| bs d, sp.2.2.2.1, sp.2.2.2.2)) else some (1, (upd sp.1 m (nI d), (sp.2.1 &&& (bs c ^^^ (-1))) ||| bs d, sp.2.2.1, sp.2.2.2.1, sp.2.2.2.2))) := by
  have hi : ix (nI m) 4 = true := ix_nI hm (by omega)
  have e : sp.1 m = nI c := (hR.1 m hm).trans hp
  have key : ∀ v, v < 4 → tw_X5_goOn_23 tr (nI m) (nI w) (nI c) (nI v) sp = (match nxt c v with
      | none => some (0, sp)
      | some d => if blk tr k d = true then some (0, sp) else if opn tr k d = true then some (1, (upd sp.1 m (100 + nI d), sp.2.1 &&& (bs c ^^^ (-1)), sp.2.2.1 ||| bs d, sp.2.2.2.1, sp.2.2.2.2)) else some (1, (upd sp.1 m (nI d), (sp.2.1 &&& (bs c ^^^ (-1))) ||| bs d, sp.2.2.1, sp.2.2.2.1, sp.2.2.2.2))) := by
    intro v hv
    rw [tw_X5_goOn_23, tw_nextCell c hc v hv]
    cases hn : nxt c v with
    | none => rfl
    | some d =>
      have hd := nxt_lt hc hv hn
      change (if nI d = (-1) then some (0, sp) else ((tw_X5_canBe tr sp (nI d)).bind fun q3 => if q3 = 0 then some (0, sp) else (tw_X5_isOpenHole tr sp (nI d)).bind fun q5 => if q5 = 0 then (tw_X4_put sp (nI m) (nI d)).bind fun q7 => some (1, q7) else (tw_X4_drop sp (nI m) (nI d)).bind fun q8 => some (1, q8))) = (if blk tr k d = true then some (0, sp) else if opn tr k d = true then some (1, (upd sp.1 m (100 + nI d), sp.2.1 &&& (bs c ^^^ (-1)), sp.2.2.1 ||| bs d, sp.2.2.2.1, sp.2.2.2.2)) else some (1, (upd sp.1 m (nI d), (sp.2.1 &&& (bs c ^^^ (-1))) ||| bs d, sp.2.2.1, sp.2.2.2.1, sp.2.2.2.2)))
      rw [if_neg (o1_m d hd), tw_canBe hR hd, tw_isOpenHole hR hd]
      cases hb : blk tr k d with
      | true => rfl
      | false =>
        cases ho : opn tr k d with
        | true =>
          show (tw_X4_drop sp (nI m) (nI d)).bind _ = _
          rw [tw_X4_drop, if_pos hi, if_pos hi, nI_clamp (by omega), e]
          rfl
        | false =>
          show (tw_X4_put sp (nI m) (nI d)).bind _ = _
          rw [tw_X4_put, if_pos hi, nI_clamp (by omega), e, if_pos (lt100 c hc), if_pos hi, tw_X4_put_55, if_pos hi, nI_clamp (by omega)]
          rfl
  rw [tw_X5_goOn, if_pos hi, if_pos hi, nI_clamp (by omega), e]
  unfold dirK
  by_cases hk : tr.2.1 m = 3
  · rw [if_pos hk, if_pos hk, xor1 w hw, key _ (opp_lt hw)]
  · rw [if_neg hk, if_neg hk, key w hw]
theorem tw_stopsAt {tr : TrS} {m d : Nat} (hm : m < 4) (hd : d < 25) : tw_X5_stopsAt tr (nI m) (nI d) = some (b1 (stp tr m d)) := by
  rw [tw_X5_stopsAt, isCell_c d hd]
  show (if ix (nI m) 4 = true then _ else none) = _
  rw [if_pos (ix_nI hm (by omega)), nI_clamp (by omega), t3, tw_bitOf _ d (by omega), tw_bitOf _ d (by omega), b_or]
  unfold stp
  by_cases h0 : tr.2.1 m = 0
  · rw [if_pos h0, if_pos h0]; rfl
  · rw [if_neg h0, if_neg h0]
    by_cases h1 : tr.2.1 m = 1
    · rw [if_pos h1, if_pos h1]
      cases (bt (tr.1 3) d || bt tr.2.2.2.2 d) <;> rfl
    · rw [if_neg h1, if_neg h1]
      by_cases h2 : tr.2.1 m = 2
      · rw [if_pos h2, if_pos h2]; rfl
      · rw [if_neg h2, if_neg h2]
        cases bt (tr.1 3) d <;> rfl
theorem tw_stopsAtH {tr : TrS} {m d : Nat} (hd : d < 25) : tw_X5_stopsAt tr (nI m) (nI (100 + d)) = some 1 := by
  rw [tw_X5_stopsAt, isCell_h d hd]
  rfl
/-- who isn't on the tray is stopped -/
def SK (mb : Nat) (k : KS) (st : Int32) : Prop := ∀ j, j < mb → cel (k.1 j) = none → bt st j = true
theorem bt_set {st : Int32} {m j : Nat} (hm : m < 4) (hj : j < 4) : bt (st ||| bs m) j = (bt st j || decide (j = m)) := by
  unfold bs
  exact b_set st m (by omega) (by omega)
theorem SK.step {tr : TrS} {w m mb : Nat} {k k' : KS} {st st' : Int32} (h4 : mb ≤ 4) (hm : m < mb) (hw : w < 4) (hV : VK k) (hS : SK mb k st) (h : stepK tr w m k st = some (k', st')) : SK mb k' st' := by
  unfold stepK at h
  by_cases h0 : bt st m = true
  · rw [if_pos h0] at h; cases h
  · rw [if_neg h0] at h
    cases hc : cel (k.1 m) with
    | none => rw [hc] at h; cases h
    | some c =>
      rw [hc] at h
      obtain ⟨hc5, hp⟩ := cel_some hV (by omega) hc
      cases hn : nxt c (dirK tr m w) with
      | none => simp only [hn] at h; cases h
      | some d =>
        simp only [hn] at h
        have hd := nxt_lt hc5 (dirK_lt hw) hn
        by_cases hb : blk tr k d = true
        · rw [if_pos hb] at h; cases h
        · rw [if_neg hb] at h
          by_cases ho : opn tr k d = true
          · rw [if_pos ho] at h
            cases h
            intro j hj hz
            rw [bt_set (by omega) (by omega)]
            by_cases hjm : j = m
            · simp [hjm]
            · have e : (faK k m d).1 j = k.1 j := pk_un hjm
              rw [e] at hz
              rw [hS j hj hz]; rfl
          · rw [if_neg ho] at h
            cases h
            intro j hj hz
            by_cases hjm : j = m
            · subst hjm
              have e : (mvK k j d).1 j = nI d := pk_us
              rw [e, cel_c d hd] at hz
              cases hz
            · have e : (mvK k m d).1 j = k.1 j := pk_un hjm
              rw [e] at hz
              have h1 := hS j hj hz
              split
              · rw [bt_set (by omega) (by omega), h1]; rfl
              · exact h1
theorem VK.step {tr : TrS} {w m : Nat} {k k' : KS} {st st' : Int32} (hm : m < 4) (hw : w < 4) (hV : VK k) (h : stepK tr w m k st = some (k', st')) : VK k' := by
  unfold stepK at h
  by_cases h0 : bt st m = true
  · rw [if_pos h0] at h; cases h
  · rw [if_neg h0] at h
    cases hc : cel (k.1 m) with
    | none => rw [hc] at h; cases h
    | some c =>
      rw [hc] at h
      obtain ⟨hc5, hp⟩ := cel_some hV hm hc
      cases hn : nxt c (dirK tr m w) with
      | none => simp only [hn] at h; cases h
      | some d =>
        simp only [hn] at h
        have hd := nxt_lt hc5 (dirK_lt hw) hn
        by_cases hb : blk tr k d = true
        · rw [if_pos hb] at h; cases h
        · rw [if_neg hb] at h
          by_cases ho : opn tr k d = true
          · rw [if_pos ho] at h
            cases h
            exact hV.fall hd
          · rw [if_neg ho] at h
            cases h
            refine hV.move hd ?_
            cases hq : occ k.1 d with
            | false => rfl
            | true => exact absurd (by unfold blk; rw [hq]; simp) hb
theorem c_round {tr : TrS} {mb w : Nat} (hmb : tr.2.2.2.1 = nI mb) (h4 : mb ≤ 4) (hw : w < 4) (K : Int32 → Int32 → Int32 → SpS → Option SpS) (r : Int32) :
    ∀ (n m : Nat) (st : Int32) (wt : Bool) (k : KS) (sp : SpS), m ≤ mb → mb - m < n → CR sp k → VK k → SK mb k st →
      ∃ sp', tw_X5_roll_30 tr (nI w) K n st (b1 wt) r (nI m) sp = K (rdK tr w (mb - m) m k st wt).2.1 (b1 (rdK tr w (mb - m) m k st wt).2.2) (r + 1) sp' ∧ CR sp' (rdK tr w (mb - m) m k st wt).1 ∧ VK (rdK tr w (mb - m) m k st wt).1 ∧ SK mb (rdK tr w (mb - m) m k st wt).1 (rdK tr w (mb - m) m k st wt).2.1 ∧ sp'.2.2.2.2 = sp.2.2.2.2 := by
  intro n
  induction n with
  | zero => intro m st wt k sp h1 h2; omega
  | succ n ih =>
    intro m st wt k sp h1 h2 hR hV hS
    rw [tw_X5_roll_30, hmb]
    by_cases hm : m < mb
    · rw [if_neg (nI_ge hm (by omega)), tw_bitOf st m (by omega), show mb - m = (mb - (m + 1)) + 1 by omega, rdK]
      by_cases h0 : bt st m = true
      · have e : stepK tr w m k st = none := by unfold stepK; rw [if_pos h0]
        rw [e, h0]
        obtain ⟨sp', e1, e2⟩ := ih (m + 1) st wt k sp (by omega) (by omega) hR hV hS
        rw [← nI_1] at e1
        exact ⟨sp', e1, e2⟩
      · have hf : bt st m = false := by cases hq : bt st m <;> simp_all
        cases hc : cel (k.1 m) with
        | none => exact absurd (hS m hm hc) h0
        | some c =>
          obtain ⟨hc5, hp⟩ := cel_some hV (by omega) hc
          have hgo := tw_goOn (tr := tr) hR (show m < 4 by omega) hc5 hw hp
          have hst : stepK tr w m k st = (match nxt c (dirK tr m w) with
              | none => none
              | some d => if blk tr k d = true then none
                else if opn tr k d = true then some (faK k m d, st ||| bs m)
                else some (mvK k m d, if stp tr m d = true then st ||| bs m else st)) := by
            unfold stepK
            rw [if_neg h0, hc]
          have stay : stepK tr w m k st = none → tw_X5_goOn tr sp (nI m) (nI w) = some (0, sp) → ∃ sp', ((some (b1 (bt st m))).bind fun q2 => if q2 = 0 then ((tw_X5_goOn tr sp (nI m) (nI w)).bind (fun q4 => if q4.1 = 0 then ((tw_X5_roll_30 tr (nI w) K n) st (b1 wt) r (nI m + 1) q4.2) else (if ix (nI m) 4 = true then ((tw_X5_stopsAt tr (nI m) (q4.2.1 (nI m).toNatClampNeg)).bind (fun q7 => if q7 = 0 then ((tw_X5_roll_30 tr (nI w) K n) st 1 r (nI m + 1) q4.2) else ((tw_X5_roll_30 tr (nI w) K n) (st ||| (1 <<< (nI m &&& 31))) 1 r (nI m + 1) q4.2))) else none))) else ((tw_X5_roll_30 tr (nI w) K n) st (b1 wt) r (nI m + 1) sp)) = K (rdK tr w (mb - (m + 1)) (m + 1) k st wt).2.1 (b1 (rdK tr w (mb - (m + 1)) (m + 1) k st wt).2.2) (r + 1) sp' ∧ CR sp' (rdK tr w (mb - (m + 1)) (m + 1) k st wt).1 ∧ VK (rdK tr w (mb - (m + 1)) (m + 1) k st wt).1 ∧ SK mb (rdK tr w (mb - (m + 1)) (m + 1) k st wt).1 (rdK tr w (mb - (m + 1)) (m + 1) k st wt).2.1 ∧ sp'.2.2.2.2 = sp.2.2.2.2 := by
            intro _ e2
            obtain ⟨sp', e3, e4⟩ := ih (m + 1) st wt k sp (by omega) (by omega) hR hV hS
            rw [← nI_1] at e3
            refine ⟨sp', ?_, e4⟩
            rw [hf, e2, ← e3]
            rfl
          cases hn : nxt c (dirK tr m w) with
          | none =>
            rw [hn] at hgo hst
            rw [hst]
            exact stay hst hgo
          | some d =>
            rw [hn] at hgo hst
            simp only at hgo hst
            have hd := nxt_lt hc5 (dirK_lt hw) hn
            by_cases hb : blk tr k d = true
            · rw [if_pos hb] at hgo hst
              rw [hst]
              exact stay hst hgo
            · rw [if_neg hb] at hgo hst
              have hSm := fun k' st' e => SK.step (tr := tr) (k' := k') (st' := st') h4 hm hw hV hS e
              have hVm := fun k' st' e => VK.step (tr := tr) (st := st) (k' := k') (st' := st') (show m < 4 by omega) hw hV e
              by_cases ho : opn tr k d = true
              · rw [if_pos ho] at hgo hst
                obtain ⟨sp', e3, e4, e5, e6, e7⟩ := ih (m + 1) (st ||| bs m) true (faK k m d) _ (by omega) (by omega) (hR.fall hV (show m < 4 by omega) hc5 hd hp) (hVm _ _ hst) (hSm _ _ hst)
                rw [← nI_1] at e3
                rw [hst]
                refine ⟨sp', ?_, e4, e5, e6, e7⟩
                rw [hf, hgo]
                show (if ix (nI m) 4 = true then _ else none) = _
                rw [if_pos (ix_nI (by omega) (by omega)), nI_clamp (by omega)]
                show ((tw_X5_stopsAt tr (nI m) (upd sp.1 m (100 + nI d) m)).bind _) = _
                rw [pk_us, add100, tw_stopsAtH hd, ← e3]
                rw [add100]
                rfl
              · rw [if_neg ho] at hgo hst
                obtain ⟨sp', e3, e4, e5, e6, e7⟩ := ih (m + 1) (if stp tr m d = true then st ||| bs m else st) true (mvK k m d) _ (by omega) (by omega) (hR.move hV (show m < 4 by omega) hc5 hd hp) (hVm _ _ hst) (hSm _ _ hst)
                rw [← nI_1] at e3
                rw [hst]
                refine ⟨sp', ?_, e4, e5, e6, e7⟩
                rw [hf, hgo]
                show (if ix (nI m) 4 = true then _ else none) = _
                rw [if_pos (ix_nI (by omega) (by omega)), nI_clamp (by omega)]
                show ((tw_X5_stopsAt tr (nI m) (upd sp.1 m (nI d) m)).bind _) = _
                rw [pk_us, tw_stopsAt (by omega) hd, ← e3]
                cases stp tr m d <;> rfl
    · have e : m = mb := by omega
      subst e
      rw [if_pos (nI_le (Nat.le_refl m) (by omega)), Nat.sub_self, rdK]
      exact ⟨sp, rfl, hR, hV, hS, rfl⟩
