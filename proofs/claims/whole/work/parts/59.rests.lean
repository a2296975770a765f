/-! rests -/
def inN (x : Int32) : Nat := if inH x = true then 1 else 0
theorem inN_le (x : Int32) : inN x ≤ 1 := by unfold inN; split <;> omega
def gn (tr : TrS) (mb : Nat) (k : KS) (o a b : Nat) : Int32 := nI (inN ((tiltK tr mb b (tiltK tr mb a k)).1 o) + inN ((tiltK tr mb b (tiltK tr mb a k)).1 (o + 2))) - (if a = b then 1 else 0)
theorem sub_z (x : Int32) : x - 0 = x := Int32.sub_zero x
theorem mul4 (a b : Nat) : nI a * 4 + nI b = nI (4 * a + b) := by
  rw [show nI a * 4 = nI (a * 4) from pk_mul a 4, nI_add, Nat.mul_comm]
theorem c_wp41 {tr : TrS} {mb a b : Nat} {no sp : SpS} {k : KS} (ha : a < 4) (hb : b < 4) (hR : CR sp (tiltK tr mb b (tiltK tr mb a k))) (K2 : Int32 → SpS → (Nat → Int32) → (Nat → Int32) → Option (SpS × (Nat → Int32) × (Nat → Int32))) (K : Int32 → Int32 → SpS → (Nat → Int32) → (Nat → Int32) → Option (SpS × (Nat → Int32) × (Nat → Int32))) (pau pav : Nat → Int32) :
    tw_X6_weighPairs_41 no tr K2 K (nI a) (nI b) (if a = b then 1 else 0) sp pau pav = K (nI a) (nI (b + 1)) sp (upd pau (4 * a + b) (gn tr mb k 0 a b)) (upd pav (4 * a + b) (gn tr mb k 1 a b)) := by
  rw [tw_X6_weighPairs_41, tw_fallenOf0, Option.bind_some, tw_fallenOf1, Option.bind_some, tw_X1_tell, mul4, if_pos (ix_nI (by omega) (by omega)), if_pos (ix_nI (by omega) (by omega)), nI_clamp (by omega), Option.bind_some, nI_1, hR.1 0 (by omega), hR.1 1 (by omega), hR.1 2 (by omega), hR.1 3 (by omega)]
  rfl
theorem c_wp9 {tr : TrS} {mb a : Nat} {no : SpS} {k : KS} (hmb : tr.2.2.2.1 = nI mb) (h4 : mb ≤ 4) (ha : a < 4) (hR : CR no k) (hV : VK k) (K : Int32 → SpS → (Nat → Int32) → (Nat → Int32) → Option (SpS × (Nat → Int32) × (Nat → Int32))) : ∀ (f b : Nat) (sr : SpS) (pau pav : Nat → Int32), b ≤ 4 → 4 - b < f → (∀ i, i < 4 * a + b → pau i = gn tr mb k 0 (i / 4) (i % 4) ∧ pav i = gn tr mb k 1 (i / 4) (i % 4)) → ∃ sr' pau' pav', tw_X6_weighPairs_9 no tr K f (nI a) (nI b) sr pau pav = K (nI (a + 1)) sr' pau' pav' ∧ ∀ i, i < 4 * (a + 1) → pau' i = gn tr mb k 0 (i / 4) (i % 4) ∧ pav' i = gn tr mb k 1 (i / 4) (i % 4) := by
  intro f
  induction f with
  | zero => intro b sr pau pav h1 h2; omega
  | succ f ih =>
    intro b sr pau pav h1 h2 hI
    rw [tw_X6_weighPairs_9]
    by_cases hb : b = 4
    · subst hb
      rw [if_pos (by decide), nI_1]
      exact ⟨_, _, _, rfl, fun i hi => hI i (by omega)⟩
    · have hb4 : b < 4 := by omega
      obtain ⟨s1, e1, e2⟩ := c_try sr hmb h4 ha hR hV
      obtain ⟨s2, f1, f2, f3, f4⟩ := c_roll hmb h4 hb4 e2 (hV.tilt h4 ha)
      rw [if_neg (show ¬ (4 : Int32) ≤ nI b from nI_ge (b := 4) (by omega) (by omega)), e1, Option.bind_some, f1, Option.bind_some]
      have hn : ∀ i, i < 4 * a + (b + 1) → upd pau (4 * a + b) (gn tr mb k 0 a b) i = gn tr mb k 0 (i / 4) (i % 4) ∧ upd pav (4 * a + b) (gn tr mb k 1 a b) i = gn tr mb k 1 (i / 4) (i % 4) := by
        intro i hi
        by_cases q : i = 4 * a + b
        · subst q
          rw [pk_us, pk_us, show (4 * a + b) / 4 = a by omega, show (4 * a + b) % 4 = b by omega]
          exact ⟨rfl, rfl⟩
        · rw [pk_un q, pk_un q]
          exact hI i (by omega)
      have e : ∀ (z : Int32), z = (if a = b then 1 else 0) → ∃ sr' pau' pav', tw_X6_weighPairs_41 no tr K (tw_X6_weighPairs_9 no tr K f) (nI a) (nI b) z s2 pau pav = K (nI (a + 1)) sr' pau' pav' ∧ ∀ i, i < 4 * (a + 1) → pau' i = gn tr mb k 0 (i / 4) (i % 4) ∧ pav' i = gn tr mb k 1 (i / 4) (i % 4) := by
        intro z hz
        rw [hz, c_wp41 ha hb4 f2]
        exact ih (b + 1) s2 _ _ (by omega) (by omega) hn
      by_cases q : a = b
      · rw [if_pos (by rw [q])]
        exact e 1 (by rw [if_pos q])
      · rw [if_neg (fun z => q ((nI_eq (by omega) (by omega)).mp z))]
        exact e 0 (by rw [if_neg q])
theorem c_wp2 {tr : TrS} {mb : Nat} {no : SpS} {k : KS} (hmb : tr.2.2.2.1 = nI mb) (h4 : mb ≤ 4) (hR : CR no k) (hV : VK k) : ∀ (f a : Nat) (sr : SpS) (pau pav : Nat → Int32), a ≤ 4 → 4 - a < f → (∀ i, i < 4 * a → pau i = gn tr mb k 0 (i / 4) (i % 4) ∧ pav i = gn tr mb k 1 (i / 4) (i % 4)) → ∃ sr' pau' pav', tw_X6_weighPairs_2 no tr f (nI a) sr pau pav = some (sr', pau', pav') ∧ ∀ i, i < 16 → pau' i = gn tr mb k 0 (i / 4) (i % 4) ∧ pav' i = gn tr mb k 1 (i / 4) (i % 4) := by
  intro f
  induction f with
  | zero => intro a sr pau pav h1 h2; omega
  | succ f ih =>
    intro a sr pau pav h1 h2 hI
    rw [tw_X6_weighPairs_2]
    by_cases ha : a = 4
    · subst ha
      rw [if_pos (by decide)]
      exact ⟨_, _, _, rfl, fun i hi => hI i (by omega)⟩
    · rw [if_neg (show ¬ (4 : Int32) ≤ nI a from nI_ge (b := 4) (by omega) (by omega))]
      obtain ⟨sr', pau', pav', e1, e2⟩ := c_wp9 hmb h4 (show a < 4 by omega) hR hV (tw_X6_weighPairs_2 no tr f) 5 0 sr pau pav (by omega) (by omega) (fun i hi => hI i (by omega))
      rw [show tw_X6_weighPairs_9 no tr (tw_X6_weighPairs_2 no tr f) 5 (nI a) 0 sr pau pav = _ from e1]
      exact ih (a + 1) sr' pau' pav' (by omega) (by omega) e2
/-- whether neither has more by another way alone -/
def rsB (tr : TrS) (mb : Nat) (k : KS) (a b : Nat) : Nat → Nat → Bool
  | 0, _ => true
  | n + 1, v => (decide (¬ gn tr mb k 0 a b < gn tr mb k 0 v b) && decide (¬ gn tr mb k 1 a b < gn tr mb k 1 a v)) && rsB tr mb k a b n (v + 1)
theorem c_atRest {tr : TrS} {mb a b : Nat} {k : KS} {pau pav : Nat → Int32} (ha : a < 4) (hb : b < 4) (hI : ∀ i, i < 16 → pau i = gn tr mb k 0 (i / 4) (i % 4) ∧ pav i = gn tr mb k 1 (i / 4) (i % 4)) : ∀ (f v : Nat), v ≤ 4 → 4 - v < f → tw_X1_isAtRest_2 pau pav (nI a) (nI b) f (nI v) = some (b1 (rsB tr mb k a b (4 - v) v)) := by
  have g : ∀ x y, x < 4 → y < 4 → pau (4 * x + y) = gn tr mb k 0 x y ∧ pav (4 * x + y) = gn tr mb k 1 x y := by
    intro x y hx hy
    have h := hI (4 * x + y) (by omega)
    rw [show (4 * x + y) / 4 = x by omega, show (4 * x + y) % 4 = y by omega] at h
    exact h
  intro f
  induction f with
  | zero => intro v h1 h2; omega
  | succ f ih =>
    intro v h1 h2
    rw [tw_X1_isAtRest_2]
    by_cases hv : v = 4
    · subst hv
      rw [if_pos (by decide), Nat.sub_self]
      rfl
    · have hv4 : v < 4 := by omega
      rw [if_neg (show ¬ (4 : Int32) ≤ nI v from nI_ge (b := 4) (by omega) (by omega)), mul4, mul4, mul4, if_pos (ix_nI (by omega) (by omega)), if_pos (ix_nI (by omega) (by omega)), if_pos (ix_nI (by omega) (by omega)), if_pos (ix_nI (by omega) (by omega)), nI_clamp (by omega), nI_clamp (by omega), nI_clamp (by omega), (g a b ha hb).1, (g a b ha hb).2, (g v b hv4 hb).1, (g a v ha hv4).2, show 4 - v = (4 - (v + 1)) + 1 by omega, rsB, nI_1]
      by_cases q1 : gn tr mb k 0 a b < gn tr mb k 0 v b
      · rw [if_pos q1, decide_eq_false (fun z => z q1)]
        rfl
      · rw [if_neg q1, decide_eq_true q1]
        by_cases q2 : gn tr mb k 1 a b < gn tr mb k 1 a v
        · rw [if_neg (fun z => Int32.not_lt.mpr z q2), decide_eq_false (fun z => z q2)]
          rfl
        · rw [if_pos (Int32.not_lt.mp q2), decide_eq_true q2, ih (v + 1) (by omega) (by omega)]
          rfl
theorem run2 {tr : TrS} {mb a b : Nat} {k : KS} (ha : a < 4) (hb : b < 4) : runK tr mb 2 (4 * a + b) k = tiltK tr mb b (tiltK tr mb a k) := by
  rw [show 4 * a + b = a * 4 ^ 1 + b by omega, run_cons tr mb 1 a b k ha (by omega), show b = b * 4 ^ 0 + 0 by omega, run_cons tr mb 0 b 0 _ hb (by omega)]
  rw [show b * 4 ^ 0 + 0 = b by omega]
  rfl
theorem m_g17 {mm : Int32} {mk mt : Nat → Int32} {mb : Nat} {now : Nat → Int32} {k : KS} (hmm : mm = nI mb) (h4 : mb ≤ 4) (hM : MR mb 15 now 1 k) (p1 p2 p3 sm : Int32) (f a m : Nat) (hm : m < 4) (ha : a < 100) : tw_X7_gain_17 mm mk mt 15 p1 p2 p3 (f + 2) (nI a) (nI m) now sm = tw_X7_gain_17 mm mk mt 15 p1 p2 p3 (if m < mb then f + 1 else f + 2) (nI (a + inN (k.1 m))) (nI (if m < mb then m + 2 else m)) now sm := by
  by_cases q : m < mb
  · rw [if_pos q, if_pos q]
    conv => lhs; rw [tw_X7_gain_17]
    rw [hmm, if_neg (nI_ge q (by omega)), add7, if_pos (ix_nI (by omega) (by omega)), nI_clamp (by omega), show now (7 + m) = k.1 m from hM.now q h4, show nI m + 2 = nI (m + 2) from nI_add m 2, nI_1, add_0]
    unfold inN inH
    by_cases z : k.1 m < 100
    · rw [if_pos z, decide_eq_false (fun y => y z)]
      rfl
    · rw [if_neg z, decide_eq_true z]
      rfl
  · rw [if_neg q, if_neg q]
    have e : k.1 m = -1 := hM.away (by omega) hm
    rw [e, show inN (-1) = 0 by decide, Nat.add_zero a]
theorem m_g17e {mm : Int32} {mk mt : Nat → Int32} {mb : Nat} {now : Nat → Int32} (hmm : mm = nI mb) (h4 : mb ≤ 4) (p1 p2 p3 sm x : Int32) (f m : Nat) (hm : mb ≤ m) (hm2 : m < 100) : tw_X7_gain_17 mm mk mt 15 p1 p2 p3 (f + 1) x (nI m) now sm = some (if p1 = p2 then x - 1 else x, now, sm) := by
  rw [tw_X7_gain_17, hmm, if_pos (nI_le hm (by omega))]
  by_cases q : p1 = p2
  · rw [if_pos q, if_pos q]
  · rw [if_neg q, if_neg q]
theorem m_gain {tr : TrS} {mm : Int32} {mk mt : Nat → Int32} {mb o a b : Nat} {k : KS} {now : Nat → Int32} (hT : RT tr mb mm mk mt) (ho : o < 2) (ha : a < 4) (hb : b < 4) (hV : VK k) (hM : MR mb 15 now 0 k) (sm : Int32) : ∃ now' sm', tw_X7_gain mm mk mt now 15 sm (nI a) (nI b) (nI o) = some (gn tr mb k o a b, now', sm') ∧ ∀ i, i < 7 → now' i = now i := by
  have h4 := hT.2.2.1
  obtain ⟨now', sm', e1, e2, e3, e4⟩ := m_run hT (show 2 ≤ 5 by omega) (show 4 * a + b < 2 ^ 31 by omega) hV hM sm
  refine ⟨now', sm', ?_, e4⟩
  rw [run2 ha hb] at e2
  rw [tw_X7_gain, show (4 : Int32) * nI a = nI (4 * a) from pk_mul 4 a, nI_add, show tw_X7_tiltRow mm mk mt now 15 sm 2 (nI (4 * a + b)) 0 = _ from e1, Option.bind_some]
  unfold gn
  generalize tiltK tr mb b (tiltK tr mb a k) = q at e2
  have fin : ∀ x : Int32, (if nI a = nI b then x - 1 else x) = x - (if a = b then 1 else 0) := by
    intro x
    by_cases z : a = b
    · rw [if_pos (by rw [z]), if_pos z]
    · rw [if_neg (fun y => z ((nI_eq (by omega) (by omega)).mp y)), if_neg z, sub_z]
  show tw_X7_gain_17 mm mk mt 15 (nI a) (nI b) (nI o) (4 + 2) (nI 0) (nI o) now' sm' = _
  rw [m_g17 hT.2.1 h4 e2 _ _ _ _ 4 0 o (by omega) (by omega), Nat.zero_add]
  have h1 := inN_le (q.1 o)
  by_cases z : o < mb
  · rw [if_pos z, if_pos z]
    show tw_X7_gain_17 mm mk mt 15 (nI a) (nI b) (nI o) (3 + 2) (nI (inN (q.1 o))) (nI (o + 2)) now' sm' = _
    rw [m_g17 hT.2.1 h4 e2 _ _ _ _ 3 (inN (q.1 o)) (o + 2) (by omega) (by omega)]
    by_cases z2 : o + 2 < mb
    · rw [if_pos z2, if_pos z2, m_g17e hT.2.1 h4 _ _ _ _ _ _ _ (by omega) (by omega), fin]
    · rw [if_neg z2, if_neg z2, m_g17e hT.2.1 h4 _ _ _ _ _ _ _ (by omega) (by omega), fin]
  · rw [if_neg z, if_neg z, m_g17e hT.2.1 h4 _ _ _ _ _ _ _ (by omega) (by omega), fin, show q.1 (o + 2) = -1 from e2.away (by omega) (by omega), show inN (-1) = 0 by decide, Nat.add_zero]
theorem m_rest5 {tr : TrS} {mm : Int32} {mk mt : Nat → Int32} {mb a b : Nat} {k : KS} (hT : RT tr mb mm mk mt) (ha : a < 4) (hb : b < 4) (hV : VK k) : ∀ (f v : Nat) (z : Bool) (now : Nat → Int32) (sm : Int32), v ≤ 4 → 4 - v < f → MR mb 15 now 0 k → ∃ now' sm', tw_X7_isRest_5 mm mk mt 15 (nI a) (nI b) f (b1 z) (nI v) now sm = some (b1 (z && rsB tr mb k a b (4 - v) v), now', sm') ∧ ∀ i, i < 7 → now' i = now i := by
  intro f
  induction f with
  | zero => intro v z now sm h1 h2; omega
  | succ f ih =>
    intro v z now sm h1 h2 hM
    rw [tw_X7_isRest_5]
    by_cases hv : v = 4
    · subst hv
      rw [if_pos (by decide), if_pos (b1_and z), Nat.sub_self, rsB, Bool.and_true]
      exact ⟨_, _, rfl, fun _ _ => rfl⟩
    · have hv4 : v < 4 := by omega
      rw [if_neg (show ¬ (4 : Int32) ≤ nI v from nI_ge (b := 4) (by omega) (by omega)), nI_1, show 4 - v = (4 - (v + 1)) + 1 by omega, rsB]
      have no : ∀ (now1 : Nat → Int32) (sm1 : Int32), (∀ i, i < 7 → now1 i = now i) → ∃ now' sm', tw_X7_isRest_5 mm mk mt 15 (nI a) (nI b) f 0 (nI (v + 1)) now1 sm1 = some (b1 false, now', sm') ∧ ∀ i, i < 7 → now' i = now i := by
        intro now1 sm1 e
        obtain ⟨now', sm', g1, g2⟩ := ih (v + 1) false now1 sm1 (by omega) (by omega) (hM.down e)
        rw [Bool.false_and] at g1
        exact ⟨now', sm', g1, fun i hi => (g2 i hi).trans (e i hi)⟩
      cases z with
      | false =>
        rw [if_pos (show b1 false = 0 by decide), Bool.false_and]
        exact no now sm (fun _ _ => rfl)
      | true =>
        obtain ⟨n1, s1, a1, a2⟩ := m_gain hT (o := 0) (by omega) hv4 hb hV hM sm
        have hM1 := hM.down a2
        obtain ⟨n2, s2, b1', b2⟩ := m_gain hT (o := 0) (by omega) ha hb hV hM1 s1
        have hM2 := hM1.down b2
        rw [if_neg (b1_ne rfl), show tw_X7_gain mm mk mt now 15 sm (nI v) (nI b) 0 = _ from a1, Option.bind_some, show tw_X7_gain mm mk mt n1 15 s1 (nI a) (nI b) 0 = _ from b1', Option.bind_some, Bool.true_and]
        dsimp only
        by_cases q1 : gn tr mb k 0 a b < gn tr mb k 0 v b
        · rw [if_pos q1, decide_eq_false (fun z => z q1), Bool.false_and, Bool.false_and]
          exact no n2 s2 (fun i hi => (b2 i hi).trans (a2 i hi))
        · obtain ⟨n3, s3, c1, c2⟩ := m_gain hT (o := 1) (by omega) ha hv4 hV hM2 s2
          have hM3 := hM2.down c2
          obtain ⟨n4, s4, d1, d2⟩ := m_gain hT (o := 1) (by omega) ha hb hV hM3 s3
          have e4 : ∀ i, i < 7 → n4 i = now i := fun i hi => (d2 i hi).trans ((c2 i hi).trans ((b2 i hi).trans (a2 i hi)))
          rw [if_neg q1, show tw_X7_gain mm mk mt n2 15 s2 (nI a) (nI v) 1 = _ from c1, Option.bind_some, show tw_X7_gain mm mk mt n3 15 s3 (nI a) (nI b) 1 = _ from d1, Option.bind_some, decide_eq_true q1, Bool.true_and]
          dsimp only
          by_cases q2 : gn tr mb k 1 a b < gn tr mb k 1 a v
          · rw [if_pos q2, decide_eq_false (fun z => z q2), Bool.false_and]
            exact no n4 s4 e4
          · rw [if_neg q2, decide_eq_true q2, Bool.true_and]
            obtain ⟨now', sm', g1, g2⟩ := ih (v + 1) true n4 s4 (by omega) (by omega) (hM.down e4)
            rw [Bool.true_and] at g1
            exact ⟨now', sm', g1, fun i hi => (g2 i hi).trans (e4 i hi)⟩
def rsS (tr : TrS) (mb : Nat) (k : KS) (i : Nat) (s : Int32 × Int32) : Int32 × Int32 := if rsB tr mb k (i / 4) (i % 4) 4 0 = true then (s.1 + 1, if s.1 = 0 then nI (10 * (i / 4) + i % 4) else s.2) else s
def rsL (tr : TrS) (mb : Nat) (k : KS) : Nat → Nat → Int32 × Int32 → Int32 × Int32
  | 0, _, s => s
  | n + 1, i, s => rsL tr mb k n (i + 1) (rsS tr mb k i s)
theorem rsL_add (tr : TrS) (mb : Nat) (k : KS) : ∀ (a b i : Nat) (s : Int32 × Int32), rsL tr mb k (a + b) i s = rsL tr mb k b (i + a) (rsL tr mb k a i s)
  | 0, b, i, s => by rw [Nat.zero_add, rsL, Nat.add_zero]
  | a + 1, b, i, s => by
    rw [show a + 1 + b = (a + b) + 1 by omega, rsL, rsL, rsL_add tr mb k a b (i + 1), show i + 1 + a = i + (a + 1) by omega]
theorem c_r33 {tr : TrS} {mb a : Nat} {k : KS} {no sr : SpS} {pau pav : Nat → Int32} (ha : a < 4) (hI : ∀ i, i < 16 → pau i = gn tr mb k 0 (i / 4) (i % 4) ∧ pav i = gn tr mb k 1 (i / 4) (i % 4)) (p1 : Int32) (K : Int32 → Int32 → Int32 → SpS → (Nat → Int32) → (Nat → Int32) → Option (Int32 × SpS × (Nat → Int32) × (Nat → Int32))) : ∀ (f b : Nat) (s : Int32 × Int32), b ≤ 4 → 4 - b < f → tw_X6_rests_33 no tr p1 K f s.1 s.2 (nI a) (nI b) sr pau pav = K (rsL tr mb k (4 - b) (4 * a + b) s).1 (rsL tr mb k (4 - b) (4 * a + b) s).2 (nI (a + 1)) sr pau pav := by
  intro f
  induction f with
  | zero => intro b s h1 h2; omega
  | succ f ih =>
    intro b s h1 h2
    rw [tw_X6_rests_33]
    by_cases hb : b = 4
    · subst hb
      rw [if_pos (by decide), nI_1, Nat.sub_self, rsL]
    · have hb4 : b < 4 := by omega
      rw [if_neg (show ¬ (4 : Int32) ≤ nI b from nI_ge (b := 4) (by omega) (by omega)), tw_X1_isAtRest, show tw_X1_isAtRest_2 pau pav (nI a) (nI b) 5 0 = _ from c_atRest ha hb4 hI 5 0 (by omega) (by omega), Option.bind_some, show 4 - b = (4 - (b + 1)) + 1 by omega, rsL]
      unfold rsS
      rw [show (4 * a + b) / 4 = a by omega, show (4 * a + b) % 4 = b by omega, nI_1, show (10 : Int32) * nI a = nI (10 * a) from pk_mul 10 a, nI_add, Nat.sub_zero]
      cases hq : rsB tr mb k a b 4 0 with
      | false =>
        rw [if_pos (show b1 false = 0 by decide), if_neg (by decide), show 4 * a + b + 1 = 4 * a + (b + 1) by omega]
        exact ih (b + 1) s (by omega) (by omega)
      | true =>
        rw [if_neg (b1_ne rfl), if_pos rfl, show 4 * a + b + 1 = 4 * a + (b + 1) by omega]
        by_cases hs : s.1 = 0
        · rw [if_pos hs, if_pos hs]
          exact ih (b + 1) (s.1 + 1, nI (10 * a + b)) (by omega) (by omega)
        · rw [if_neg hs, if_neg hs]
          exact ih (b + 1) (s.1 + 1, s.2) (by omega) (by omega)
theorem c_r24 {tr : TrS} {mb : Nat} {k : KS} {no sr : SpS} {pau pav : Nat → Int32} (hI : ∀ i, i < 16 → pau i = gn tr mb k 0 (i / 4) (i % 4) ∧ pav i = gn tr mb k 1 (i / 4) (i % 4)) (p1 : Int32) : ∀ (f a : Nat) (s : Int32 × Int32), a ≤ 4 → 4 - a < f → tw_X6_rests_24 no tr p1 f s.1 s.2 (nI a) sr pau pav = some (if p1 = 0 then (rsL tr mb k (16 - 4 * a) (4 * a) s).1 else (rsL tr mb k (16 - 4 * a) (4 * a) s).2, sr, pau, pav) := by
  intro f
  induction f with
  | zero => intro a s h1 h2; omega
  | succ f ih =>
    intro a s h1 h2
    rw [tw_X6_rests_24]
    by_cases ha : a = 4
    · subst ha
      rw [if_pos (by decide), show 16 - 4 * 4 = 0 by omega, rsL]
      by_cases q : p1 = 0
      · rw [if_pos q, if_pos q]
      · rw [if_neg q, if_neg q]
    · rw [if_neg (show ¬ (4 : Int32) ≤ nI a from nI_ge (b := 4) (by omega) (by omega)), show tw_X6_rests_33 no tr p1 (tw_X6_rests_24 no tr p1 f) 5 s.1 s.2 (nI a) 0 sr pau pav = _ from c_r33 (k := k) (mb := mb) (show a < 4 by omega) hI p1 _ 5 0 s (by omega) (by omega), ih (a + 1) _ (by omega) (by omega), show 16 - 4 * a = (4 - 0) + (16 - 4 * (a + 1)) by omega, rsL_add, show 4 * a + (4 - 0) = 4 * (a + 1) by omega, Nat.add_zero (4 * a)]
theorem m_r21 {tr : TrS} {mm : Int32} {mk mt : Nat → Int32} {mb : Nat} {k : KS} (hT : RT tr mb mm mk mt) (hV : VK k) (p1 : Int32) : ∀ (f i : Nat) (s : Int32 × Int32) (now : Nat → Int32) (sm : Int32), i ≤ 16 → 16 - i < f → MR mb 15 now 0 k → ∃ now' sm', tw_X7_rests_21 mm mk mt 15 p1 f s.1 s.2 (nI i) now sm = some (if p1 = 0 then (rsL tr mb k (16 - i) i s).1 else (rsL tr mb k (16 - i) i s).2, now', sm') ∧ ∀ i, i < 7 → now' i = now i := by
  intro f
  induction f with
  | zero => intro i s now sm h1 h2; omega
  | succ f ih =>
    intro i s now sm h1 h2 hM
    rw [tw_X7_rests_21]
    by_cases hi : i = 16
    · subst hi
      rw [if_pos (by decide), Nat.sub_self, rsL]
      refine ⟨now, sm, ?_, fun _ _ => rfl⟩
      by_cases q : p1 = 0
      · rw [if_pos q, if_pos q]
      · rw [if_neg q, if_neg q]
    · have e1 : nI i / 4 = nI (i / 4) := pk_div (d := 4) (by omega) (by omega) (by omega)
      have e2 : nI i - nI (i / 4) * 4 = nI (i % 4) := by rw [← e1]; exact pk_rem (d := 4) (by omega) (by omega) (by omega)
      obtain ⟨now1, sm1, g1, g2⟩ := m_rest5 hT (show i / 4 < 4 by omega) (show i % 4 < 4 by omega) hV 5 0 true now sm (by omega) (by omega) hM
      rw [if_neg (show ¬ (16 : Int32) ≤ nI i from nI_ge (b := 16) (by omega) (by omega)), e1, e2, tw_X7_isRest, show tw_X7_isRest_5 mm mk mt 15 (nI (i / 4)) (nI (i % 4)) 5 1 0 now sm = _ from g1, Option.bind_some, Bool.true_and, show 16 - i = (16 - (i + 1)) + 1 by omega, rsL, nI_1]
      unfold rsS
      rw [show (10 : Int32) * nI (i / 4) = nI (10 * (i / 4)) from pk_mul 10 _, nI_add, Nat.sub_zero]
      dsimp only
      have hM1 := hM.down g2
      have go : ∀ s1 : Int32 × Int32, ∃ now' sm', tw_X7_rests_21 mm mk mt 15 p1 f s1.1 s1.2 (nI (i + 1)) now1 sm1 = some (if p1 = 0 then (rsL tr mb k (16 - (i + 1)) (i + 1) s1).1 else (rsL tr mb k (16 - (i + 1)) (i + 1) s1).2, now', sm') ∧ ∀ i, i < 7 → now' i = now i := by
        intro s1
        obtain ⟨now', sm', a1, a2⟩ := ih (i + 1) s1 now1 sm1 (by omega) (by omega) hM1
        exact ⟨now', sm', a1, fun j hj => (a2 j hj).trans (g2 j hj)⟩
      cases hq : rsB tr mb k (i / 4) (i % 4) 4 0 with
      | false =>
        rw [if_pos (show b1 false = 0 by decide), if_neg (show ¬ false = true by decide)]
        exact go s
      | true =>
        rw [if_neg (show ¬ b1 true = 0 by decide), if_pos (show true = true from rfl)]
        by_cases hs : s.1 = 0
        · rw [if_pos hs, if_pos hs]
          exact go (s.1 + 1, nI (10 * (i / 4) + i % 4))
        · rw [if_neg hs, if_neg hs]
          exact go (s.1 + 1, s.2)
/-- rests -/
theorem s_rests {tr : TrS} {mb : Nat} {mm : Int32} {mk mt : Nat → Int32} {no : SpS} {now : Nat → Int32} {k : KS} (hT : RT tr mb mm mk mt) (hC : Co tr mb no now 0 k) (sr : SpS) (pau pav : Nat → Int32) (sm y : Int32) : ∃ (r : Int32) (sr' : SpS) (pau' pav' : Nat → Int32) (now' : Nat → Int32) (sm' : Int32), tw_X6_rests no sr pau pav tr y = some (r, sr', pau', pav') ∧ tw_X7_rests mm mk mt now 15 sm y = some (r, now', sm') ∧ ∀ i, i < 7 → now' i = now i := by
  have ed : tw_X6_rests no sr pau pav tr y = if ix y 2 = true then ((tw_X6_weighPairs no sr pau pav tr).bind (fun q9 => tw_X6_rests_24 no tr y 5 0 (-9) 0 q9.1 q9.2.1 q9.2.2)) else some ((-2), sr, pau, pav) := by
    rw [tw_X6_rests]
    exact rg_le y 1 (by omega) _ _
  rw [ed, tw_X7_rests, tw_in y 2 1 (by decide), Option.bind_some]
  cases hy : ix y 2 with
  | false =>
    rw [if_neg (by decide), if_pos (by decide)]
    exact ⟨_, _, _, _, _, _, rfl, rfl, fun _ _ => rfl⟩
  | true =>
    obtain ⟨sr', pau', pav', e1, e2⟩ := c_wp2 hT.1 hT.2.2.1 hC.1 hC.2.1 5 0 sr pau pav (by omega) (by omega) (fun i hi => by omega)
    obtain ⟨now', sm', f1, f2⟩ := m_r21 hT hC.2.1 y 17 0 (0, -9) now sm (by omega) (by omega) hC.2.2.2.1
    rw [if_pos rfl, if_neg (b1_ne rfl), tw_X6_weighPairs, show tw_X6_weighPairs_2 no tr 5 0 sr pau pav = _ from e1, Option.bind_some, show tw_X6_rests_24 no tr y 5 0 (-9) 0 sr' pau' pav' = _ from c_r24 (k := k) (mb := mb) e2 y 5 0 (0, -9) (by omega) (by omega), show tw_X7_rests_21 mm mk mt 15 y 17 0 (-9) 0 now sm = _ from f1]
    exact ⟨_, _, _, _, _, _, rfl, rfl, f2⟩
