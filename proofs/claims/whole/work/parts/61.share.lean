/-! share -/
/-- marbles below v that are not in the group g are not there -/
def grK (k : KS) (v : Nat) (g : Int32) : KS := (fun j => if j < v ∧ bt g j = false then -1 else k.1 j, k.2.1, k.2.2)
theorem grK_VK {k : KS} (hV : VK k) (v : Nat) (g : Int32) : VK (grK k v g) := by
  refine ⟨fun j hj => ?_, fun i j hi hj hij c hc a1 a2 => ?_⟩
  · show posOk (if j < v ∧ bt g j = false then -1 else k.1 j)
    split
    · exact Or.inl rfl
    · exact hV.1 j hj
  · have h1 : (if i < v ∧ bt g i = false then -1 else k.1 i) = nI c := a1
    have h2 : (if j < v ∧ bt g j = false then -1 else k.1 j) = nI c := a2
    by_cases q1 : i < v ∧ bt g i = false
    · rw [if_pos q1] at h1; exact m_ne_c c hc h1
    · by_cases q2 : j < v ∧ bt g j = false
      · rw [if_pos q2] at h2; exact m_ne_c c hc h2
      · rw [if_neg q1] at h1
        rw [if_neg q2] at h2
        exact hV.2 i j hi hj hij c hc h1 h2
theorem CR.to {sp : SpS} {k k' : KS} (h : CR sp k) (e1 : ∀ j, j < 4 → k'.1 j = k.1 j) (e2 : k'.2 = k.2) : CR sp k' := by
  refine ⟨fun j hj => (h.1 j hj).trans (e1 j hj).symm, by rw [e2]; exact h.2.1, by rw [e2]; exact h.2.2.1, fun c hc => ?_⟩
  rw [h.2.2.2 c hc, occ_cong (f := k'.1) (g := k.1) e1]
theorem c_leave {sp : SpS} {k : KS} {m : Nat} (hR : CR sp k) (hV : VK k) (hm : m < 4) : ∃ sp', tw_X4_leave sp (nI m) = some sp' ∧ CR sp' (upd k.1 m (-1), k.2.1, k.2.2) := by
  rw [tw_X4_leave, if_pos (ix_nI hm (by omega)), nI_clamp (by omega), hR.1 m hm]
  have u1 : ∀ j, j < 4 → upd sp.1 m (-1) j = upd k.1 m (-1) j := upd_cong hR.1 m (-1)
  rcases hV.1 m hm with e | ⟨c, hc, e⟩ | ⟨c, hc, e⟩
  · rw [e, isCell_m, Option.bind_some, if_pos rfl, tw_X4_leave_31, if_pos (ix_nI hm (by omega)), nI_clamp (by omega)]
    refine ⟨_, rfl, u1, hR.2.1, hR.2.2.1, fun c hc => ?_⟩
    show bt sp.2.1 c = _
    rw [hR.2.2.2 c hc]
    congr 1
    refine occ_cong (fun j hj => ?_) c
    show k.1 j = upd k.1 m (-1) j
    by_cases q : j = m
    · subst q; rw [pk_us]; exact e
    · rw [pk_un q]
  · rw [e, isCell_c c hc, Option.bind_some, if_neg (by decide), if_pos (ix_nI hm (by omega)), tw_X4_leave_31, if_pos (ix_nI hm (by omega)), nI_clamp (by omega)]
    refine ⟨_, rfl, u1, hR.2.1, hR.2.2.1, fun d hd => ?_⟩
    show bt (sp.2.1 &&& ((1 <<< (nI c &&& 31)) ^^^ (-1))) d = (decide (d < 25) && occ (upd k.1 m (-1)) d)
    rw [occ_upd hm (fun j hj hjm => hV.2 m j hm hj (Ne.symm hjm) c hc e) e, b_clr _ c (by omega) hd, hR.2.2.2 d hd]
    by_cases hd5 : d < 25
    · have e1 : decide ((-1 : Int32) = nI d) = false := decide_eq_false (m_ne_c d hd5)
      have e2 : decide (nI c = nI d) = decide (d = c) := decide_eq_decide.mpr (by rw [nI_inj hc hd5]; exact eq_comm)
      rw [e1, e2]
      simp [hd5]
    · simp [hd5]
  · rw [e, isCell_h c hc, Option.bind_some, if_pos rfl, tw_X4_leave_31, if_pos (ix_nI hm (by omega)), nI_clamp (by omega)]
    refine ⟨_, rfl, u1, hR.2.1, hR.2.2.1, fun d hd => ?_⟩
    show bt sp.2.1 d = (decide (d < 25) && occ (upd k.1 m (-1)) d)
    rw [hR.2.2.2 d hd]
    by_cases hd5 : d < 25
    · congr 1
      apply Bool.eq_iff_iff.mpr
      rw [occ_iff, occ_iff]
      constructor
      · rintro ⟨j, hj, h1⟩
        refine ⟨j, hj, ?_⟩
        by_cases q : j = m
        · subst q
          rw [e] at h1
          exact absurd h1 (h_ne_c c hc d hd5)
        · rw [pk_un q]; exact h1
      · rintro ⟨j, hj, h1⟩
        refine ⟨j, hj, ?_⟩
        by_cases q : j = m
        · subst q
          rw [pk_us] at h1
          exact absurd h1 (m_ne_c d hd5)
        · rw [pk_un q] at h1; exact h1
    · simp [hd5]
/-- how many fall by best of 2 tilts, of a group -/
def wrth (tr : TrS) (mb : Nat) (k : KS) (g : Nat) : Int32 := (bsS tr mb 2 (grK k mb (nI g)) (-1, 0)).1
theorem lp_small {f g : Nat → Nat} (hf : ∀ F, f F ≤ 4) : ∀ (n F : Nat) (s : Int32 × Int32), (∃ u, u ≤ 4 ∧ s.1 = nI u) → ∃ u, u ≤ 4 ∧ (lpB f g n F s).1 = nI u
  | 0, _, _, h => h
  | n + 1, F, s, h => by
    rw [lpB]
    refine lp_small hf n (F + 1) _ ?_
    unfold upB
    split
    · exact h
    · exact ⟨f F, hf F, rfl⟩
theorem wrth_is (tr : TrS) (mb : Nat) (k : KS) (g : Nat) : ∃ u, u ≤ 4 ∧ wrth tr mb k g = nI u := by
  unfold wrth
  rw [bs_start (by omega) (-1, 0) (by decide)]
  exact lp_small (fun F => fallK_le _) _ _ _ ⟨_, fallK_le _, rfl⟩
theorem c_wg28 {tr : TrS} {mb g : Nat} {no : SpS} {k : KS} (hmb : tr.2.2.2.1 = nI mb) (h4 : mb ≤ 4) (hb : ∀ c, 25 ≤ c → bt (tr.1 2) c = false) (hg : g < 16) (hV : VK k) (K : Int32 → SpS → (Nat → SpS) → Int32 → Int32 → Int32 → (Nat → Int32) → Option (SpS × (Nat → SpS) × Int32 × Int32 × Int32 × (Nat → Int32))) (sef : Nat → SpS) (seb seo sew : Int32) (wo : Nat → Int32) : ∀ (f v : Nat) (sr : SpS), v ≤ mb → mb - v < f → CR sr (grK k v (nI g)) → ∃ sr' sef' seb' seo' sew', tw_X6_weighGroups_28 no tr K f (nI g) (nI v) sr sef seb seo sew wo = K (nI (g + 1)) sr' sef' seb' seo' sew' (upd wo g (wrth tr mb k g)) := by
  intro f
  induction f with
  | zero => intro v sr h1 h2; omega
  | succ f ih =>
    intro v sr h1 h2 hR
    rw [tw_X6_weighGroups_28, hmb]
    by_cases hv : v = mb
    · rw [hv] at hR ⊢
      obtain ⟨sef', seb', e1⟩ := c_best (n := 2) hmb h4 hb (by omega) hR (grK_VK hV mb (nI g)) sef seb seo sew
      rw [if_pos (nI_le (Nat.le_refl _) (by omega)), show tw_X2_findBest sef seb seo sew tr sr 2 = _ from e1, Option.bind_some, if_pos (ix_nI hg (by omega)), nI_1, nI_clamp (by omega)]
      exact ⟨_, _, _, _, _, rfl⟩
    · rw [if_neg (nI_ge (by omega) (by omega)), tw_bitOf (nI g) v (by omega), Option.bind_some, nI_1]
      cases q : bt (nI g) v with
      | true =>
        rw [if_neg (b1_ne rfl)]
        refine ih (v + 1) sr (by omega) (by omega) (hR.to (fun j hj => ?_) rfl)
        show (if j < v + 1 ∧ bt (nI g) j = false then -1 else k.1 j) = (if j < v ∧ bt (nI g) j = false then -1 else k.1 j)
        by_cases z : j = v
        · subst z
          rw [if_neg (fun y => by rw [q] at y; cases y.2), if_neg (fun y => by rw [q] at y; cases y.2)]
        · by_cases z2 : j < v ∧ bt (nI g) j = false
          · rw [if_pos z2, if_pos ⟨by omega, z2.2⟩]
          · rw [if_neg z2, if_neg (fun y => z2 ⟨by omega, y.2⟩)]
      | false =>
        rw [if_pos (by decide)]
        obtain ⟨s1, e1, e2⟩ := c_leave hR (grK_VK hV v (nI g)) (show v < 4 by omega)
        rw [e1, Option.bind_some]
        refine ih (v + 1) s1 (by omega) (by omega) (e2.to (fun j hj => ?_) rfl)
        show (if j < v + 1 ∧ bt (nI g) j = false then -1 else k.1 j) = upd (fun j => if j < v ∧ bt (nI g) j = false then -1 else k.1 j) v (-1) j
        by_cases z : j = v
        · subst z
          rw [pk_us, if_pos ⟨by omega, q⟩]
        · rw [pk_un z]
          by_cases z2 : j < v ∧ bt (nI g) j = false
          · rw [if_pos z2, if_pos ⟨by omega, z2.2⟩]
          · rw [if_neg z2, if_neg (fun y => z2 ⟨by omega, y.2⟩)]
theorem c_wg2 {tr : TrS} {mb : Nat} {no : SpS} {k : KS} (hmb : tr.2.2.2.1 = nI mb) (h4 : mb ≤ 4) (hb : ∀ c, 25 ≤ c → bt (tr.1 2) c = false) (hR : CR no k) (hV : VK k) : ∀ (f g : Nat) (sr : SpS) (sef : Nat → SpS) (seb seo sew : Int32) (wo : Nat → Int32), g ≤ 2 ^ mb → 2 ^ mb - g < f → (∀ i, i < g → wo i = wrth tr mb k i) → ∃ sr' sef' seb' seo' sew' wo', tw_X6_weighGroups_2 no tr f (nI g) sr sef seb seo sew wo = some (sr', sef', seb', seo', sew', wo') ∧ ∀ i, i < 2 ^ mb → wo' i = wrth tr mb k i := by
  obtain ⟨w1, w2⟩ := pw2 mb (by omega)
  intro f
  induction f with
  | zero => intro g sr sef seb seo sew wo h1 h2; omega
  | succ f ih =>
    intro g sr sef seb seo sew wo h1 h2 hI
    rw [tw_X6_weighGroups_2, hmb, w1]
    by_cases hg : g = 2 ^ mb
    · rw [hg, if_pos (nI_le (Nat.le_refl _) (by omega))]
      exact ⟨_, _, _, _, _, _, rfl, fun i hi => hI i (by omega)⟩
    · obtain ⟨s1, e1, e2, e3⟩ := tw_take sr no
      have hR1 : CR s1 (grK k 0 (nI g)) := (hR.take e2 e3).to (fun j _ => show (if j < 0 ∧ bt (nI g) j = false then -1 else k.1 j) = k.1 j from if_neg (fun y => Nat.not_lt_zero _ y.1)) rfl
      obtain ⟨sr', sef', seb', seo', sew', g1⟩ := c_wg28 (no := no) hmb h4 hb (show g < 16 by omega) hV (tw_X6_weighGroups_2 no tr f) sef seb seo sew wo 5 0 s1 (Nat.zero_le _) (by omega) hR1
      rw [if_neg (nI_ge (by omega) (by omega)), e1, Option.bind_some, show tw_X6_weighGroups_28 no tr (tw_X6_weighGroups_2 no tr f) 5 (nI g) 0 s1 sef seb seo sew wo = _ from g1]
      refine ih (g + 1) _ _ _ _ _ _ (by omega) (by omega) (fun i hi => ?_)
      by_cases q : i = g
      · subst q; rw [pk_us]
      · rw [pk_un q]; exact hI i (by omega)
/-! the sum -/
def facN (n : Nat) : Nat := match n with
  | 0 => 1
  | 1 => 1
  | 2 => 2
  | 3 => 6
  | _ => 24
theorem tord_is : ∀ v, v < 5 → tOrd v = nI (facN v) ∧ tw_X7_factorial (nI v) = some (nI (facN v)) ∧ 0 < facN v ∧ facN v < 25 := by decide +kernel
theorem sh_or0 : ∀ mb, mb < 5 → ∀ m, m < 4 → ∀ s, s < 16 → (!(decide (m < mb) && (decide (s < 2 ^ mb) && !(bt (nI s) m))) || (decide (nI s ||| (1 <<< (nI m &&& 31)) = nI (s + 2 ^ m)) && (decide (s + 2 ^ m < 2 ^ mb) && decide (popN s + 1 ≤ mb)))) = true := by decide +kernel
theorem sh_or (mb : Nat) (h0 : mb < 5) (m : Nat) (h1 : m < mb) (s : Nat) (h2 : s < 2 ^ mb) (h3 : bt (nI s) m = false) : nI s ||| (1 <<< (nI m &&& 31)) = nI (s + 2 ^ m) ∧ s + 2 ^ m < 2 ^ mb ∧ popN s + 1 ≤ mb := by
  have hp := pw2 mb h0
  have h := sh_or0 mb h0 m (by omega) s (by omega)
  rw [decide_eq_true h1, decide_eq_true h2, h3] at h
  simp only [Bool.true_and, Bool.not_false, Bool.not_true, Bool.false_or, Bool.and_eq_true, decide_eq_true_eq] at h
  exact h
theorem sh_hi (s : Nat) (hs : s < 16) : ∀ c, 25 ≤ c → bt (nI s) c = false := by
  intro c hc
  rcases Nat.lt_or_ge c 32 with h | h
  · exact (by decide +kernel : ∀ s, s < 16 → ∀ c, c < 32 → 25 ≤ c → bt (nI s) c = false) s hs c h hc
  · exact b_big h
def shT (tr : TrS) (mb m : Nat) (k : KS) (s : Nat) : Int32 := nI (facN (popN s)) * nI (facN (mb - popN s - 1)) * (wrth tr mb k (s + 2 ^ m) - wrth tr mb k s)
def shS (tr : TrS) (mb m : Nat) (k : KS) : Nat → Nat → Int32 → Int32
  | 0, _, x => x
  | n + 1, s, x => shS tr mb m k n (s + 1) (if bt (nI s) m = true then x else x + shT tr mb m k s)
theorem sh_alg (A B o u v : Nat) : nI A - nI B + nI o * (nI u - nI v) = nI (A + o * u) - nI (B + o * v) := by
  rw [← nI_add, ← nI_add, ← pk_mul, ← pk_mul]
  generalize nI A = a
  generalize nI B = b
  generalize nI o = c
  generalize nI u = d
  generalize nI v = e
  grind
theorem sh_bound {tr : TrS} {mb m : Nat} {k : KS} (h4 : mb ≤ 4) : ∀ (n s A B : Nat), s + n ≤ 16 → A ≤ 4000 * s → B ≤ 4000 * s → ∃ A' B', A' ≤ 64000 ∧ B' ≤ 64000 ∧ shS tr mb m k n s (nI A - nI B) = nI A' - nI B' := by
  intro n
  induction n with
  | zero => intro s A B h1 h2 h3; exact ⟨A, B, by omega, by omega, rfl⟩
  | succ n ih =>
    intro s A B h1 h2 h3
    rw [shS]
    by_cases q : bt (nI s) m = true
    · rw [if_pos q]
      exact ih (s + 1) A B (by omega) (by omega) (by omega)
    · obtain ⟨u, hu, eu⟩ := wrth_is tr mb k (s + 2 ^ m)
      obtain ⟨v, hv, ev⟩ := wrth_is tr mb k s
      have f1 : ∀ n, facN n ≤ 24 := by
        intro n
        unfold facN
        split <;> omega
      have ho : facN (popN s) * facN (mb - popN s - 1) ≤ 24 * 24 := Nat.mul_le_mul (f1 _) (f1 _)
      have o1 : facN (popN s) * facN (mb - popN s - 1) * u ≤ 24 * 24 * 4 := Nat.mul_le_mul ho hu
      have o2 : facN (popN s) * facN (mb - popN s - 1) * v ≤ 24 * 24 * 4 := Nat.mul_le_mul ho hv
      rw [if_neg q]
      unfold shT
      rw [eu, ev, pk_mul, sh_alg]
      exact ih (s + 1) _ _ (by omega) (by omega) (by omega)
theorem c_s22 {tr : TrS} {mb m : Nat} {no : SpS} {k : KS} (hmb : tr.2.2.2.1 = nI mb) (h4 : mb ≤ 4) (hm : m < mb) (p2 : Int32) (sr : SpS) (sef : Nat → SpS) (seb seo sew : Int32) (wo : Nat → Int32) (hI : ∀ i, i < 2 ^ mb → wo i = wrth tr mb k i) : ∀ (f s : Nat) (x : Int32), s ≤ 2 ^ mb → 2 ^ mb - s < f → tw_X6_share_22 no tr (nI m) p2 f x (nI s) sr sef seb seo sew wo = (tw_X6_tellFraction (shS tr mb m k (2 ^ mb - s) s x) (nI (facN mb)) p2).bind (fun q3 => some (q3, sr, sef, seb, seo, sew, wo)) := by
  obtain ⟨w1, w2⟩ := pw2 mb (by omega)
  intro f
  induction f with
  | zero => intro s x h1 h2; omega
  | succ f ih =>
    intro s x h1 h2
    rw [tw_X6_share_22, hmb, w1]
    by_cases hs : s = 2 ^ mb
    · rw [hs, if_pos (nI_le (Nat.le_refl _) (by omega)), if_pos (ix_nI (by omega) (by omega)), nI_clamp (by omega), (tord_is mb (by omega)).1, Nat.sub_self, shS]
    · rw [if_neg (nI_ge (by omega) (by omega)), tw_bitOf (nI s) m (by omega), Option.bind_some, nI_1, show 2 ^ mb - s = (2 ^ mb - (s + 1)) + 1 by omega, shS]
      cases q : bt (nI s) m with
      | true =>
        rw [if_neg (b1_ne rfl), if_pos rfl]
        exact ih (s + 1) x (by omega) (by omega)
      | false =>
        obtain ⟨o1, o2, o3⟩ := sh_or mb (by omega) m hm s (by omega) q
        have l2 : s < 16 := by omega
        rw [if_pos (by decide), if_neg (by decide), tw_bitCount (sh_hi s l2), wt_p s l2, Option.bind_some, if_pos (ix_nI (by omega) (by omega)), pk_sub (show popN s ≤ mb by omega), show nI (mb - popN s) - 1 = nI (mb - popN s - 1) from pk_sub (b := 1) (by omega), if_pos (ix_nI (by omega) (by omega)), o1, if_pos (ix_nI (by omega) (by omega)), if_pos (ix_nI (by omega) (by omega)), nI_clamp (by omega), nI_clamp (by omega), nI_clamp (by omega), nI_clamp (by omega), (tord_is _ (show popN s < 5 by omega)).1, (tord_is _ (show mb - popN s - 1 < 5 by omega)).1, hI _ o2, hI _ (by omega)]
        exact ih (s + 1) _ (by omega) (by omega)
theorem m_by {tr : TrS} {mm : Int32} {mk mt : Nat → Int32} {mb g : Nat} {k : KS} {now : Nat → Int32} (hT : RT tr mb mm mk mt) (hg : g < 16) (hV : VK k) (hM : MR mb 15 now 0 k) (th sm br : Int32) : ∃ now' sm' br', tw_X7_bestBy mm mk mt now th sm br (nI g) = some (wrth tr mb k g, now', 15, sm', br') ∧ ∀ i, i < 7 → now' i = now i := by
  have h4 := hT.2.2.1
  have hM2 : MR mb (nI g) now 0 (grK k mb (nI g)) := by
    refine ⟨fun j hj => ?_, hM.2.1, hM.2.2.1, fun j hj hb => ?_⟩
    · show (if j < mb ∧ bt (nI g) j = false then -1 else k.1 j) = _
      rw [hM.1 j hj]
      by_cases q : j < mb
      · cases q2 : bt (nI g) j with
        | true => rw [if_neg (fun z => by cases z.2), if_pos ⟨q, b15 j hj⟩, if_pos ⟨q, rfl⟩]
        | false => rw [if_pos ⟨q, rfl⟩, if_neg (fun z => by cases z.2)]
      · rw [if_neg (fun z => q z.1), if_neg (fun z => q z.1), if_neg (fun z => q z.1)]
    · show ¬ (if j < mb ∧ bt (nI g) j = false then -1 else k.1 j) = -1
      rw [if_neg (fun z => by rw [hb] at z; cases z.2)]
      exact hM.2.2.2 j hj (b15 j (by omega))
  obtain ⟨now', sm', e1, e2⟩ := m_best hT (show 2 ≤ 4 by omega) (grK_VK hV mb (nI g)) hM2 sm br
  rw [tw_X7_bestBy, show tw_X7_bestOf mm mk mt now (nI g) sm br 2 = _ from e1, Option.bind_some]
  dsimp only
  unfold wrth
  generalize bsS tr mb 2 (grK k mb (nI g)) (-1, 0) = z
  exact ⟨now', sm', z.2, rfl, e2⟩
theorem m_s15 {tr : TrS} {mm : Int32} {mk mt : Nat → Int32} {mb m : Nat} {k : KS} (hT : RT tr mb mm mk mt) (hm : m < mb) (hV : VK k) (p2 : Int32) : ∀ (f s : Nat) (x : Int32) (now : Nat → Int32) (sm br : Int32), s ≤ 2 ^ mb → 2 ^ mb - s < f → MR mb 15 now 0 k → ∃ now' sm' br', tw_X7_share_15 mm mk mt (nI m) p2 f x (nI s) now 15 sm br = ((tw_X7_common (shS tr mb m k (2 ^ mb - s) s x) (nI (facN mb))).bind (fun q3 => if p2 = 0 then (if ¬ q3 = 0 then (some (nI (facN mb) / q3, now', 15, sm', br')) else none) else (if ¬ q3 = 0 then (some (shS tr mb m k (2 ^ mb - s) s x / q3, now', 15, sm', br')) else none))) ∧ ∀ i, i < 7 → now' i = now i := by
  have h4 := hT.2.2.1
  obtain ⟨w1, w2⟩ := pw2 mb (by omega)
  intro f
  induction f with
  | zero => intro s x now sm br h1 h2; omega
  | succ f ih =>
    intro s x now sm br h1 h2 hM
    rw [tw_X7_share_15, hT.2.1, w1]
    by_cases hs : s = 2 ^ mb
    · rw [hs, if_pos (nI_le (Nat.le_refl _) (by omega)), (tord_is mb (by omega)).2.1]
      simp only [Option.bind_some, Nat.sub_self, shS]
      exact ⟨now, sm, br, rfl, fun _ _ => rfl⟩
    · rw [if_neg (nI_ge (by omega) (by omega)), tw_has (nI s) m (by omega), Option.bind_some, nI_1, show 2 ^ mb - s = (2 ^ mb - (s + 1)) + 1 by omega, shS]
      have ihm := ih
      rw [hT.2.1] at ihm
      cases q : bt (nI s) m with
      | true =>
        rw [if_neg (b1_ne rfl), if_pos rfl]
        exact ihm (s + 1) x now sm br (by omega) (by omega) hM
      | false =>
        obtain ⟨o1, o2, o3⟩ := sh_or mb (by omega) m hm s (by omega) q
        have l2 : s < 16 := by omega
        obtain ⟨n1, s1, b1', e1, e2⟩ := m_by hT (show s + 2 ^ m < 16 by omega) hV hM 15 sm br
        have hM1 := hM.down e2
        obtain ⟨n2, s2, b2', f1, f2⟩ := m_by hT l2 hV hM1 15 s1 b1'
        rw [hT.2.1] at e1 f1
        rw [if_pos (by decide), if_neg (by decide), tw_ones, wt_p s l2, Option.bind_some, (tord_is _ (show popN s < 5 by omega)).2.1, Option.bind_some, Option.bind_some, show nI mb - 1 = nI (mb - 1) from pk_sub (b := 1) (by omega), pk_sub (show popN s ≤ mb - 1 by omega), show mb - 1 - popN s = mb - popN s - 1 by omega, (tord_is _ (show mb - popN s - 1 < 5 by omega)).2.1, Option.bind_some, o1, e1, Option.bind_some]
        dsimp only
        rw [f1, Option.bind_some]
        dsimp only
        obtain ⟨now', sm', br', g1, g2⟩ := ihm (s + 1) (x + shT tr mb m k s) n2 s2 b2' (by omega) (by omega) (hM1.down f2)
        exact ⟨now', sm', br', g1, fun i hi => (g2 i hi).trans ((f2 i hi).trans (e2 i hi))⟩
/-- share -/
theorem s_share {tr : TrS} {mb : Nat} {mm : Int32} {mk mt : Nat → Int32} {no : SpS} {now : Nat → Int32} {k : KS} (hT : RT tr mb mm mk mt) (hC : Co tr mb no now 0 k) (sr : SpS) (sef : Nat → SpS) (seb seo sew : Int32) (wo : Nat → Int32) (sm br y z : Int32) : ∃ (r : Int32) (sr' : SpS) (sef' : Nat → SpS) (seb' seo' sew' : Int32) (wo' : Nat → Int32) (now' : Nat → Int32) (sm' br' : Int32), tw_X6_share no sr sef seb seo sew wo tr y z = some (r, sr', sef', seb', seo', sew', wo') ∧ tw_X7_share mm mk mt now 15 sm br y z = some (r, now', 15, sm', br') ∧ ∀ i, i < 7 → now' i = now i := by
  have h4 := hT.2.2.1
  rw [tw_X6_share, tw_X7_share, tw_hasM hT.1 h4, Option.bind_some, tw_mMarble hT.2.1 h4, Option.bind_some]
  cases hy : ix y mb with
  | false => exact ⟨_, _, _, _, _, _, _, _, _, _, rfl, rfl, fun _ _ => rfl⟩
  | true =>
    obtain ⟨m, hm, rfl⟩ := ix_of hy (by omega)
    have hp := pw2 mb (by omega)
    obtain ⟨sr', sef', seb', seo', sew', wo', e1, e2⟩ := c_wg2 hT.1 h4 (hT.2.2.2.2.2.2.2.2.2.2 2 (by omega)) hC.1 hC.2.1 17 0 sr sef seb seo sew wo (Nat.zero_le _) (by omega) (fun i hi => by omega)
    have c1 := c_s22 (no := no) hT.1 h4 hm z sr' sef' seb' seo' sew' wo' e2 17 0 0 (Nat.zero_le _) (by omega)
    obtain ⟨now', sm', br', m1, m2⟩ := m_s15 hT hm hC.2.1 z 17 0 0 now sm br (Nat.zero_le _) (by omega) hC.2.2.2.1
    rw [Nat.sub_zero] at c1 m1
    obtain ⟨A, B, hA, hB, eS⟩ := sh_bound (tr := tr) (m := m) (k := k) h4 (2 ^ mb) 0 0 0 (by omega) (by omega) (by omega)
    have e0 : nI 0 - nI 0 = 0 := by decide
    rw [e0] at eS
    obtain ⟨t1, t2, t3, t4⟩ := tord_is mb (by omega)
    obtain ⟨g, g1, g2, g3, g4⟩ := frac (x := shS tr mb m k (2 ^ mb) 0 0) (d := facN mb) (by rw [eS, pk_sub_toInt (by omega) (by omega)]; omega) t3 (by omega) z
    rw [g3, Option.bind_some] at c1
    rw [g4, Option.bind_some, if_pos (nI_ne0 g1 g2), if_pos (nI_ne0 g1 g2)] at m1
    rw [if_neg (b1_ne rfl), if_neg (b1_ne rfl), tw_X6_weighGroups, show tw_X6_weighGroups_2 no tr 17 0 sr sef seb seo sew wo = _ from e1, Option.bind_some, show tw_X6_share_22 no tr (nI m) z 17 0 0 sr' sef' seb' seo' sew' wo' = _ from c1, show tw_X7_share_15 mm mk mt (nI m) z 17 0 0 now 15 sm br = _ from m1]
    by_cases hz0 : z = 0
    · rw [if_pos hz0, if_pos hz0]
      exact ⟨_, _, _, _, _, _, _, _, _, _, rfl, rfl, m2⟩
    · rw [if_neg hz0, if_neg hz0]
      exact ⟨_, _, _, _, _, _, _, _, _, _, rfl, rfl, m2⟩
