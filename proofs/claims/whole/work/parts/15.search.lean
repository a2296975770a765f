def tw_X2_mostThatFall (tr : TrS) (sp : SpS) : Option (Int32) :=
  (tw_X4_fallen sp).bind (fun q1 => (tw_X5_openHoles tr sp).bind (fun q2 => (tw_J6_bitCount_0f7a4 sp.2.1).bind (fun q3 => some (q1 + (if q3 < q2 then q3 else q2)))))
set_option maxHeartbeats 4000000 in
set_option maxRecDepth 100000 in
theorem c_X2_mostThatFall (l : Launch) (D : va_G) (cy : Cy) (trh : Nat) (tra : Nat) (trb : Nat) (trc : Nat) (sph : Nat) (spa : Nat) (tr : TrS) (sp : SpS) (res : Int32) (h : tw_X2_mostThatFall tr sp = some res) : Ct l yX2_mostThatFall wsX2_mostThatFall 3 64 D cy [.ref trh, .ref sph] (cTr trh tra trb trc cy.1 tr ++ (cSp sph spa cy.1 sp)) (cTr trh tra trb trc cy.1 tr ++ (cSp sph spa cy.1 sp)) (some (.int res)) := by
  refine Ct.ofW (cc := cX2_mostThatFall) (maxL := 2) (ret := (some .int)) (by decide) rfl (Nat.le_of_ble_eq_true rfl) ?_
  intro p e R s m args below meth c A Q ls hRf hRl hQ hx hb hr hml hts hown hlocks hE hP hD hS hA hl
  have hiX4 : ∀ w ∈ u_ws RX4 TX4 5, w ∈ wsX2_mostThatFall := by decide +kernel
  have hl : lv_has ls 2 [(0, .ref trh), (1, .ref sph)] := hl
  rw [tw_X2_mostThatFall] at h
  refine lv_aload_n hx hb dX2_mostThatFall_0 rfl (lv_at hl 1 rfl) ?_
  obtain ⟨q1, hq1, h⟩ := ob h
  refine kV (As := []) (rest := []) (w2 := cTr trh tra trb trc cy.1 tr ++ (cSp sph spa cy.1 sp)) (n := 0) (q0 := 4) ⟨hx, hb, hml, hown, hts⟩ (c_X4_fallen l D cy sph spa sp q1 hq1) gX2_mostThatFall_X4_fallen rfl (by decide +kernel) ⟨by rw [hRf]; exact Nat.le_of_ble_eq_true rfl, by rw [hRl]; exact Nat.le_of_ble_eq_true rfl⟩ hE hP hD hS hA [4, 5] rfl rfl rfl rfl rfl rfl rfl hl.1 rfl (Nat.le_of_ble_eq_true rfl) dX2_mostThatFall_1 ⟨Nat.zero_le _, Nat.zero_le _⟩ (fun H locs hP hD hS => ?_)
  refine lv_aload_n hx hb dX2_mostThatFall_4 rfl (lv_at hl 0 rfl) ?_
  refine lv_aload_n hx hb dX2_mostThatFall_5 rfl (lv_at hl 1 rfl) ?_
  obtain ⟨q2, hq2, h⟩ := ob h
  refine kV (As := [.ref sph]) (rest := [.int q1]) (w2 := cTr trh tra trb trc cy.1 tr ++ (cSp sph spa cy.1 sp)) (n := 1) (q0 := 0) ⟨hx, hb, hml, hown, hts⟩ (c_X5_openHoles l D cy trh tra trb trc sph spa tr sp q2 hq2) gX2_mostThatFall_X5_openHoles rfl (by decide +kernel) ⟨by rw [hRf]; exact Nat.le_of_ble_eq_true rfl, by rw [hRl]; exact Nat.le_of_ble_eq_true rfl⟩ hE hP hD hS hA [0, 1, 2, 3, 4, 5] rfl rfl rfl rfl rfl rfl rfl hl.1 rfl (Nat.le_of_ble_eq_true rfl) dX2_mostThatFall_6 ⟨Nat.zero_le _, Nat.zero_le _⟩ (fun H locs hP hD hS => ?_)
  refine lv_aload_n hx hb dX2_mostThatFall_9 rfl (lv_at hl 1 rfl) ?_
  refine va_get (D := D) (ci := 4) (v := .int sp.2.1) (C := RX4) (T := TX4) (N := 5) hx hb hts hiX4 hown hE.1 hP 4 rfl rfl 1 (by decide) (hts (.fieldLink RX2 76 "TiltTray$Spot" "taken" "I") (by decide +kernel)) (fun _ h9 => h9) rfl dX2_mostThatFall_10 ?_
  obtain ⟨q3, hq3, h⟩ := ob h
  refine kS (As := [.int sp.2.1]) (rest := [.int q2, .int q1]) (w2 := cTr trh tra trb trc cy.1 tr ++ (cSp sph spa cy.1 sp)) (n := 1) ⟨hx, hb, hml, hown, hts⟩ (c_J6_bitCount_0f7a4 l D cy sp.2.1 q3 hq3) gX2_mostThatFall_J6_bitCount_0f7a4 rfl (by decide +kernel) ⟨by rw [hRf]; exact Nat.le_of_ble_eq_true rfl, by rw [hRl]; exact Nat.le_of_ble_eq_true rfl⟩ hE hP hD hS hA [] rfl rfl rfl rfl rfl hl.1 rfl (Nat.le_of_ble_eq_true rfl) dX2_mostThatFall_13 ⟨Nat.zero_le _, Nat.zero_le _⟩ (fun H locs hP hD hS => ?_)
  refine va_mmin hx hb (hml.trans hl.1.symm) hown (hts (.methodLink RX2 85 Lib.Math.min.name) (by decide +kernel)) (hts (.static Lib.Math.min.name) (by decide +kernel)) (hts (.initialized "java/lang/Math") (by decide +kernel)) (hts (.code Lib.Math.min.name Lib.Math.min.code 2 (some .int)) (by decide +kernel)) (by rw [hRf]; exact Nat.le_of_ble_eq_true rfl) (by rw [hRl]; exact Nat.le_of_ble_eq_true rfl) (Nat.zero_le _) (Nat.zero_le _) dX2_mostThatFall_16 ?_
  refine lv_iadd hx hb dX2_mostThatFall_19 ?_
  obtain rfl := Option.some.inj h
  rw [hQ]; exact ct_iret hx hb hr hlocks hP hS rfl dX2_mostThatFall_20

def tw_X2_seekFall_57 (rc : (Nat → SpS) → Int32 → Int32 → Int32 → TrS → Int32 → Int32 → Int32 → Option ((Nat → SpS) × Int32 × Int32)) (seb : Int32) (tr : TrS) (p1 : Int32) (p2 : Int32) (p3 : Int32) : Nat → Int32 → (Nat → SpS) → Int32 → Int32 → Option ((Nat → SpS) × Int32 × Int32)
  | 0, _, _, _, _ => none
  | n + 1, x6, sef, seo, sew =>
    if 4 ≤ x6 then (some (sef, seo, sew)) else (if seo ≤ (p2 + 1) then (some (sef, seo, sew)) else (if ix p2 6 = true then ((tw_X4_take (sef ((p2 + 1).toNatClampNeg)) (sef p2.toNatClampNeg)).bind (fun q6 => (tw_X5_roll tr ((va_up sef ((p2 + 1).toNatClampNeg) q6) ((p2 + 1).toNatClampNeg)) x6).bind (fun q7 => if ix p2 6 = true then ((tw_X4_hasSamePlaces ((va_up (va_up sef ((p2 + 1).toNatClampNeg) q6) ((p2 + 1).toNatClampNeg) q7) ((p2 + 1).toNatClampNeg)) ((va_up (va_up sef ((p2 + 1).toNatClampNeg) q6) ((p2 + 1).toNatClampNeg) q7) p2.toNatClampNeg)).bind (fun q11 => if q11 = 0 then ((rc (va_up (va_up sef ((p2 + 1).toNatClampNeg) q6) ((p2 + 1).toNatClampNeg) q7) seb seo sew tr p1 (p2 + 1) (((p3 * 10) + x6) + 1)).bind (fun q13 => (tw_X2_seekFall_57 rc seb tr p1 p2 p3 n) (x6 + 1) q13.1 q13.2.1 q13.2.2)) else ((tw_X2_seekFall_57 rc seb tr p1 p2 p3 n) (x6 + 1) (va_up (va_up sef ((p2 + 1).toNatClampNeg) q6) ((p2 + 1).toNatClampNeg) q7) seo sew))) else none))) else none))
def tw_X2_seekFall : Nat → (Nat → SpS) → Int32 → Int32 → Int32 → TrS → Int32 → Int32 → Int32 → Option ((Nat → SpS) × Int32 × Int32)
  | 0, _, _, _, _, _, _, _, _ => none
  | nr + 1, sef, seb, seo, sew, tr, p1, p2, p3 =>
    if ix p2 6 = true then ((tw_X4_isIn (sef p2.toNatClampNeg) p1).bind (fun q16 => if q16 = 0 then (if 5 ≤ p2 then (some (sef, seo, sew)) else (if ix p2 6 = true then ((tw_X5_openHoles tr (sef p2.toNatClampNeg)).bind (fun q21 => if q21 = 0 then (some (sef, seo, sew)) else (if ix (p2 + 1) 6 = true then (tw_X2_seekFall_57 (tw_X2_seekFall nr) seb tr p1 p2 p3 5 0 sef seo sew) else none))) else none)) else (some (sef, p2, p3)))) else none
set_option maxHeartbeats 4000000 in
set_option maxRecDepth 100000 in
theorem c_X2_seekFall (l : Launch) (D : va_G) (cy : Cy) (sefH : Nat → Nat) (sefB : Nat → Nat) (seh : Nat) (ser : Nat) (trh : Nat) (tra : Nat) (trb : Nat) (trc : Nat) : ∀ (nr : Nat) (sef : Nat → SpS) (seb : Int32) (seo : Int32) (sew : Int32) (tr : TrS) (p1 : Int32) (p2 : Int32) (p3 : Int32) (res : (Nat → SpS) × Int32 × Int32) (h : tw_X2_seekFall nr sef seb seo sew tr p1 p2 p3 = some res), Ct l yX2_seekFall wsX2_seekFall (4 + nr) (93 + 26 * nr) D cy [.ref seh, .ref trh, .int p1, .int p2, .int p3] ((cSe seh ser sefH cy.2.2.2.1 seb seo sew ++ (cTr trh tra trb trc cy.1 tr)) ++ cSps sefH sefB cy.1 sef 6) ((cSe seh ser sefH cy.2.2.2.1 seb res.2.1 res.2.2 ++ (cTr trh tra trb trc cy.1 tr)) ++ cSps sefH sefB cy.1 res.1 6) (none) := by
  intro nr
  induction nr with
  | zero =>
    intro sef seb seo sew tr p1 p2 p3 res h
    exact absurd h (by rw [tw_X2_seekFall]; exact fun q => by cases q)
  | succ nr ih =>
    intro sef seb seo sew tr p1 p2 p3 res h
    refine Ct.ofW (cc := cX2_seekFall) (maxL := 7) (ret := none) (by decide) rfl (Nat.le_of_ble_eq_true rfl) ?_
    intro p e R s m args below meth c A Q ls hRf hRl hQ hx hb hr hml hts hown hlocks hE hP hD hS hA hl
    have hiX2 : ∀ w ∈ u_ws RX2 TX2 4, w ∈ wsX2_seekFall := by decide +kernel
    have hl : lv_has ls 7 [(0, .ref seh), (1, .ref trh), (2, .int p1), (3, .int p2), (4, .int p3)] := hl
    rw [tw_X2_seekFall] at h
    have L57 : ∀ (n : Nat) (x6 : Int32) (sef : Nat → SpS) (seo : Int32) (sew : Int32) (j47 : (p2 + 1).toNatClampNeg < 6) (g46 : ix (p2 + 1) 6 = true) (j48 : (p2 + 1).toNatClampNeg = p2.toNatClampNeg + 1) (H : Heap) (locs : List Loc) (ls : Array Slot), lv_has ls 7 [(0, .ref seh), (1, .ref trh), (2, .int p1), (3, .int p2), (4, .int p3), (5, .ref (sefH ((p2 + 1).toNatClampNeg))), (6, .int x6)] → va_P D vwCl ((cSe seh ser sefH cy.2.2.2.1 seb seo sew ++ (cTr trh tra trb trc cy.1 tr)) ++ cSps sefH sefB cy.1 sef 6) H → va_D A ((cSe seh ser sefH cy.2.2.2.1 seb seo sew ++ (cTr trh tra trb trc cy.1 tr)) ++ cSps sefH sefB cy.1 sef 6) → va_S A s.heap H locs → tw_X2_seekFall_57 (tw_X2_seekFall nr) seb tr p1 p2 p3 n x6 sef seo sew = some res → W p l e R s m args below meth c H locs 0 0 Q (F0 m 57 ls []) := by
      intro n57
      induction n57 with
      | zero =>
        intro x6 sef seo sew j47 g46 j48 H locs ls hl hP hD hS h
        exact absurd h (by rw [tw_X2_seekFall_57]; exact fun q => by cases q)
      | succ n57 ih57 =>
        intro x6 sef seo sew j47 g46 j48 H locs ls hl hP hD hS h
        rw [tw_X2_seekFall_57] at h
        refine lv_iload hx hb dX2_seekFall_57 (lv_at hl 6 rfl) ?_
        refine lv_iconst (v := 4) hx hb dX2_seekFall_59 (by decide) ?_
        refine lv_icmp_ge (tgt := 131) hx hb dX2_seekFall_60 (by decide) (fun c1 => ?_) (fun c1 => ?_)
        · have h := oit h c1
          obtain rfl := Option.some.inj h
          rw [hQ]; exact ct_vret hx hb hr hlocks hP hS rfl dX2_seekFall_131
        · have h := oif h c1
          refine lv_iload_n hx hb dX2_seekFall_63 rfl (lv_at hl 3 rfl) ?_
          refine lv_iconst (v := 1) hx hb dX2_seekFall_64 (by decide) ?_
          refine lv_iadd hx hb dX2_seekFall_65 ?_
          refine lv_aload_n hx hb dX2_seekFall_66 rfl (lv_at hl 0 rfl) ?_
          refine va_get (D := D) (ci := 2) (v := .int seo) (C := RX2) (T := TX2) (N := 4) hx hb hts hiX2 hown hE.1 hP 0 rfl rfl 2 (by decide) (hts (.fieldLink RX2 22 "TiltTray$Search" "found" "I") (by decide +kernel)) (fun _ h9 => h9) rfl dX2_seekFall_67 ?_
          refine lv_icmp_ge (tgt := 131) hx hb dX2_seekFall_70 (by decide) (fun c2 => ?_) (fun c2 => ?_)
          · have h := oit h c2
            obtain rfl := Option.some.inj h
            rw [hQ]; exact ct_vret hx hb hr hlocks hP hS rfl dX2_seekFall_131
          · have h := oif h c2
            refine lv_aload hx hb dX2_seekFall_73 (lv_at hl 5 rfl) ?_
            refine lv_aload_n hx hb dX2_seekFall_75 rfl (lv_at hl 0 rfl) ?_
            refine va_get (D := D) (ci := 2) (v := .ref ser) (C := RX2) (T := TX2) (N := 4) hx hb hts hiX2 hown hE.1 hP 0 rfl rfl 0 (by decide) (hts (.fieldLink RX2 11 "TiltTray$Search" "level" "[LTiltTray$Spot;") (by decide +kernel)) (fun _ h9 => h9) rfl dX2_seekFall_76 ?_
            refine lv_iload_n hx hb dX2_seekFall_79 rfl (lv_at hl 3 rfl) ?_
            obtain ⟨g3, h⟩ := og h
            refine va_aldq hx hb hE.1 hP 1 3 rfl rfl (ix_in g3) dX2_seekFall_80 ?_
            have j4 : p2.toNatClampNeg < 6 := ix_lt g3
            have j5 : (p2 + 1).toNatClampNeg = p2.toNatClampNeg + 1 := ix_succ g3 g46 (by decide)
            refine W.eq (g2 := F0 m 81 ls [.ref (sefH p2.toNatClampNeg), .ref (sefH ((p2 + 1).toNatClampNeg))]) rfl ?_
            obtain ⟨q6, hq6, h⟩ := ob h
            refine kV (As := [.ref (sefH p2.toNatClampNeg)]) (rest := []) (w2 := (cSe seh ser sefH cy.2.2.2.1 seb seo sew ++ (cTr trh tra trb trc cy.1 tr)) ++ cSps sefH sefB cy.1 (va_up sef ((p2 + 1).toNatClampNeg) q6) 6) (n := 1) (q0 := (6 + 2 * ((p2 + 1).toNatClampNeg))) ⟨hx, hb, hml, hown, hts⟩ (c_X4_take l D cy (sefH ((p2 + 1).toNatClampNeg)) (sefB ((p2 + 1).toNatClampNeg)) (sefH p2.toNatClampNeg) (sefB p2.toNatClampNeg) (sef ((p2 + 1).toNatClampNeg)) (sef p2.toNatClampNeg) q6 hq6) gX2_seekFall_X4_take rfl (by decide +kernel) ⟨by rw [hRf]; omega, by rw [hRl]; omega⟩ hE hP hD hS hA [6 + 2 * ((p2 + 1).toNatClampNeg), 6 + 2 * ((p2 + 1).toNatClampNeg) + 1, 6 + 2 * p2.toNatClampNeg, 6 + 2 * p2.toNatClampNeg + 1] (by simp [va_nd]; try omega) (cC (pl0 rfl j47) (cC (pl1 rfl j47) (cC (pl0 rfl j4) (cC (pl1 rfl j4) rfl)))) rfl (Eq.trans (b := ups ((cSe seh ser sefH cy.2.2.2.1 seb seo sew ++ (cTr trh tra trb trc cy.1 tr)) ++ cSps sefH sefB cy.1 (va_up sef ((p2 + 1).toNatClampNeg) q6) 6) ([6 + 2 * p2.toNatClampNeg, 6 + 2 * p2.toNatClampNeg + 1]) (cSp (sefH p2.toNatClampNeg) (sefB p2.toNatClampNeg) cy.1 (sef p2.toNatClampNeg) ++ (([] : va_W)))) (ups_pool rfl j47) (Eq.trans (b := ups ((cSe seh ser sefH cy.2.2.2.1 seb seo sew ++ (cTr trh tra trb trc cy.1 tr)) ++ cSps sefH sefB cy.1 (va_up sef ((p2 + 1).toNatClampNeg) q6) 6) ([]) (([] : va_W))) (ups_poolN rfl j4 (by omega)) rfl)) (pl0 rfl j47) rfl rfl hl.1 rfl (Nat.le_of_ble_eq_true rfl) dX2_seekFall_81 ⟨Nat.zero_le _, Nat.zero_le _⟩ (fun H locs hP hD hS => ?_)
            refine lv_aload_n hx hb dX2_seekFall_84 rfl (lv_at hl 1 rfl) ?_
            refine lv_aload hx hb dX2_seekFall_85 (lv_at hl 5 rfl) ?_
            refine lv_iload hx hb dX2_seekFall_87 (lv_at hl 6 rfl) ?_
            obtain ⟨q7, hq7, h⟩ := ob h
            refine kV (As := [.ref (sefH ((p2 + 1).toNatClampNeg)), .int x6]) (rest := []) (w2 := (cSe seh ser sefH cy.2.2.2.1 seb seo sew ++ (cTr trh tra trb trc cy.1 tr)) ++ cSps sefH sefB cy.1 (va_up (va_up sef ((p2 + 1).toNatClampNeg) q6) ((p2 + 1).toNatClampNeg) q7) 6) (n := 2) (q0 := 2) ⟨hx, hb, hml, hown, hts⟩ (c_X5_roll l D cy trh tra trb trc (sefH ((p2 + 1).toNatClampNeg)) (sefB ((p2 + 1).toNatClampNeg)) tr ((va_up sef ((p2 + 1).toNatClampNeg) q6) ((p2 + 1).toNatClampNeg)) x6 q7 hq7) gX2_seekFall_X5_roll rfl (by decide +kernel) ⟨by rw [hRf]; omega, by rw [hRl]; omega⟩ hE hP hD hS hA [2, 3, 4, 5, 6 + 2 * ((p2 + 1).toNatClampNeg), 6 + 2 * ((p2 + 1).toNatClampNeg) + 1] (by simp [va_nd]; try omega) (cC rfl (cC rfl (cC rfl (cC rfl (cC (pl0 rfl j47) (cC (pl1 rfl j47) rfl)))))) rfl (Eq.trans (b := ups ((cSe seh ser sefH cy.2.2.2.1 seb seo sew ++ (cTr trh tra trb trc cy.1 tr)) ++ cSps sefH sefB cy.1 (va_up sef ((p2 + 1).toNatClampNeg) q6) 6) ([6 + 2 * ((p2 + 1).toNatClampNeg), 6 + 2 * ((p2 + 1).toNatClampNeg) + 1]) (cSp (sefH ((p2 + 1).toNatClampNeg)) (sefB ((p2 + 1).toNatClampNeg)) cy.1 q7 ++ (([] : va_W)))) rfl (Eq.trans (b := ups ((cSe seh ser sefH cy.2.2.2.1 seb seo sew ++ (cTr trh tra trb trc cy.1 tr)) ++ cSps sefH sefB cy.1 (va_up (va_up sef ((p2 + 1).toNatClampNeg) q6) ((p2 + 1).toNatClampNeg) q7) 6) ([]) (([] : va_W))) (ups_pool rfl j47) rfl)) rfl rfl rfl hl.1 rfl (Nat.le_of_ble_eq_true rfl) dX2_seekFall_89 ⟨Nat.zero_le _, Nat.zero_le _⟩ (fun H locs hP hD hS => ?_)
            refine lv_aload hx hb dX2_seekFall_92 (lv_at hl 5 rfl) ?_
            refine lv_aload_n hx hb dX2_seekFall_94 rfl (lv_at hl 0 rfl) ?_
            refine va_get (D := D) (ci := 2) (v := .ref ser) (C := RX2) (T := TX2) (N := 4) hx hb hts hiX2 hown hE.1 hP 0 rfl rfl 0 (by decide) (hts (.fieldLink RX2 11 "TiltTray$Search" "level" "[LTiltTray$Spot;") (by decide +kernel)) (fun _ h9 => h9) rfl dX2_seekFall_95 ?_
            refine lv_iload_n hx hb dX2_seekFall_98 rfl (lv_at hl 3 rfl) ?_
            obtain ⟨g8, h⟩ := og h
            refine va_aldq hx hb hE.1 hP 1 3 rfl rfl (ix_in g8) dX2_seekFall_99 ?_
            have j9 : p2.toNatClampNeg < 6 := ix_lt g8
            have j10 : (p2 + 1).toNatClampNeg = p2.toNatClampNeg + 1 := ix_succ g8 g46 (by decide)
            refine W.eq (g2 := F0 m 100 ls [.ref (sefH p2.toNatClampNeg), .ref (sefH ((p2 + 1).toNatClampNeg))]) rfl ?_
            obtain ⟨q11, hq11, h⟩ := ob h
            refine kV (As := [.ref (sefH p2.toNatClampNeg)]) (rest := []) (w2 := (cSe seh ser sefH cy.2.2.2.1 seb seo sew ++ (cTr trh tra trb trc cy.1 tr)) ++ cSps sefH sefB cy.1 (va_up (va_up sef ((p2 + 1).toNatClampNeg) q6) ((p2 + 1).toNatClampNeg) q7) 6) (n := 1) (q0 := (6 + 2 * ((p2 + 1).toNatClampNeg))) ⟨hx, hb, hml, hown, hts⟩ (c_X4_hasSamePlaces l D cy (sefH ((p2 + 1).toNatClampNeg)) (sefB ((p2 + 1).toNatClampNeg)) (sefH p2.toNatClampNeg) (sefB p2.toNatClampNeg) ((va_up (va_up sef ((p2 + 1).toNatClampNeg) q6) ((p2 + 1).toNatClampNeg) q7) ((p2 + 1).toNatClampNeg)) ((va_up (va_up sef ((p2 + 1).toNatClampNeg) q6) ((p2 + 1).toNatClampNeg) q7) p2.toNatClampNeg) q11 hq11) gX2_seekFall_X4_hasSamePlaces rfl (by decide +kernel) ⟨by rw [hRf]; omega, by rw [hRl]; omega⟩ hE hP hD hS hA [6 + 2 * ((p2 + 1).toNatClampNeg), 6 + 2 * ((p2 + 1).toNatClampNeg) + 1, 6 + 2 * p2.toNatClampNeg, 6 + 2 * p2.toNatClampNeg + 1] (by simp [va_nd]; try omega) (cC (pl0 rfl j47) (cC (pl1 rfl j47) (cC (pl0 rfl j9) (cC (pl1 rfl j9) rfl)))) rfl (Eq.trans (b := ups ((cSe seh ser sefH cy.2.2.2.1 seb seo sew ++ (cTr trh tra trb trc cy.1 tr)) ++ cSps sefH sefB cy.1 (va_up (va_up sef ((p2 + 1).toNatClampNeg) q6) ((p2 + 1).toNatClampNeg) q7) 6) ([6 + 2 * p2.toNatClampNeg, 6 + 2 * p2.toNatClampNeg + 1]) (cSp (sefH p2.toNatClampNeg) (sefB p2.toNatClampNeg) cy.1 ((va_up (va_up sef ((p2 + 1).toNatClampNeg) q6) ((p2 + 1).toNatClampNeg) q7) p2.toNatClampNeg) ++ (([] : va_W)))) (ups_poolS rfl j47) (Eq.trans (b := ups ((cSe seh ser sefH cy.2.2.2.1 seb seo sew ++ (cTr trh tra trb trc cy.1 tr)) ++ cSps sefH sefB cy.1 (va_up (va_up sef ((p2 + 1).toNatClampNeg) q6) ((p2 + 1).toNatClampNeg) q7) 6) ([]) (([] : va_W))) (ups_poolS rfl j9) rfl)) (pl0 rfl j47) rfl rfl hl.1 rfl (Nat.le_of_ble_eq_true rfl) dX2_seekFall_100 ⟨Nat.zero_le _, Nat.zero_le _⟩ (fun H locs hP hD hS => ?_)
            refine lv_if_ne (tgt := 125) hx hb dX2_seekFall_103 (by decide) (fun c12 => ?_) (fun c12 => ?_)
            · have h := oif h c12
              refine lv_iinc (v := x6 + 1) (lv' := [(6, .int (x6 + 1)), (0, .ref seh), (1, .ref trh), (2, .int p1), (3, .int p2), (4, .int p3), (5, .ref (sefH ((p2 + 1).toNatClampNeg)))]) hx hb dX2_seekFall_125 hl (k := 6) rfl rfl (by decide) rfl (fun ls hl => ?_)
              refine lv_goto (tgt := 57) hx hb dX2_seekFall_128 (by decide) ?_
              exact ih57 (x6 + 1) (va_up (va_up sef ((p2 + 1).toNatClampNeg) q6) ((p2 + 1).toNatClampNeg) q7) seo sew j47 g46 j48 _ _ _ (lv_sub hl [1, 2, 3, 4, 5, 6, 0] rfl) hP hD hS h
            · have h := oit h c12
              refine lv_aload_n hx hb dX2_seekFall_106 rfl (lv_at hl 0 rfl) ?_
              refine lv_aload_n hx hb dX2_seekFall_107 rfl (lv_at hl 1 rfl) ?_
              refine lv_iload_n hx hb dX2_seekFall_108 rfl (lv_at hl 2 rfl) ?_
              refine lv_iload_n hx hb dX2_seekFall_109 rfl (lv_at hl 3 rfl) ?_
              refine lv_iconst (v := 1) hx hb dX2_seekFall_110 (by decide) ?_
              refine lv_iadd hx hb dX2_seekFall_111 ?_
              refine lv_iload hx hb dX2_seekFall_112 (lv_at hl 4 rfl) ?_
              refine lv_bipush (v := 10) hx hb dX2_seekFall_114 (by decide) ?_
              refine lv_imul hx hb dX2_seekFall_116 ?_
              refine lv_iload hx hb dX2_seekFall_117 (lv_at hl 6 rfl) ?_
              refine lv_iadd hx hb dX2_seekFall_119 ?_
              refine lv_iconst (v := 1) hx hb dX2_seekFall_120 (by decide) ?_
              refine lv_iadd hx hb dX2_seekFall_121 ?_
              obtain ⟨q13, hq13, h⟩ := ob h
              refine kV (As := [.ref trh, .int p1, .int (p2 + 1), .int (((p3 * 10) + x6) + 1)]) (rest := []) (w2 := (cSe seh ser sefH cy.2.2.2.1 seb q13.2.1 q13.2.2 ++ (cTr trh tra trb trc cy.1 tr)) ++ cSps sefH sefB cy.1 q13.1 6) (n := 4) (q0 := 0) ⟨hx, hb, hml, hown, hts⟩ (ih (va_up (va_up sef ((p2 + 1).toNatClampNeg) q6) ((p2 + 1).toNatClampNeg) q7) seb seo sew tr p1 (p2 + 1) (((p3 * 10) + x6) + 1) q13 hq13) gX2_seekFall_X2_seekFall rfl (by decide +kernel) ⟨by rw [hRf]; omega, by rw [hRl]; omega⟩ hE hP hD hS hA ([0, 1, 2, 3, 4, 5] ++ rng 6 12) (by decide +kernel) (blkC rfl rfl) (blkA rfl) (blkU rfl rfl rfl) rfl rfl rfl hl.1 rfl (Nat.le_of_ble_eq_true rfl) dX2_seekFall_122 ⟨Nat.zero_le _, Nat.zero_le _⟩ (fun H locs hP hD hS => ?_)
              refine lv_iinc (v := x6 + 1) (lv' := [(6, .int (x6 + 1)), (0, .ref seh), (1, .ref trh), (2, .int p1), (3, .int p2), (4, .int p3), (5, .ref (sefH ((p2 + 1).toNatClampNeg)))]) hx hb dX2_seekFall_125 hl (k := 6) rfl rfl (by decide) rfl (fun ls hl => ?_)
              refine lv_goto (tgt := 57) hx hb dX2_seekFall_128 (by decide) ?_
              exact ih57 (x6 + 1) q13.1 q13.2.1 q13.2.2 j47 g46 j48 _ _ _ (lv_sub hl [1, 2, 3, 4, 5, 6, 0] rfl) hP hD hS h
    refine lv_aload_n hx hb dX2_seekFall_0 rfl (lv_at hl 0 rfl) ?_
    refine va_get (D := D) (ci := 2) (v := .ref ser) (C := RX2) (T := TX2) (N := 4) hx hb hts hiX2 hown hE.1 hP 0 rfl rfl 0 (by decide) (hts (.fieldLink RX2 11 "TiltTray$Search" "level" "[LTiltTray$Spot;") (by decide +kernel)) (fun _ h9 => h9) rfl dX2_seekFall_1 ?_
    refine lv_iload_n hx hb dX2_seekFall_4 rfl (lv_at hl 3 rfl) ?_
    obtain ⟨g14, h⟩ := og h
    refine va_aldq hx hb hE.1 hP 1 3 rfl rfl (ix_in g14) dX2_seekFall_5 ?_
    have j15 : p2.toNatClampNeg < 6 := ix_lt g14
    refine W.eq (g2 := F0 m 6 ls [.ref (sefH p2.toNatClampNeg)]) rfl ?_
    refine lv_iload_n hx hb dX2_seekFall_6 rfl (lv_at hl 2 rfl) ?_
    obtain ⟨q16, hq16, h⟩ := ob h
    refine kV (As := [.int p1]) (rest := []) (w2 := (cSe seh ser sefH cy.2.2.2.1 seb seo sew ++ (cTr trh tra trb trc cy.1 tr)) ++ cSps sefH sefB cy.1 sef 6) (n := 1) (q0 := (6 + 2 * p2.toNatClampNeg)) ⟨hx, hb, hml, hown, hts⟩ (c_X4_isIn l D cy (sefH p2.toNatClampNeg) (sefB p2.toNatClampNeg) (sef p2.toNatClampNeg) p1 q16 hq16) gX2_seekFall_X4_isIn rfl (by decide +kernel) ⟨by rw [hRf]; omega, by rw [hRl]; omega⟩ hE hP hD hS hA [6 + 2 * p2.toNatClampNeg, 6 + 2 * p2.toNatClampNeg + 1] (by simp [va_nd]; try omega) (cC (pl0 rfl j15) (cC (pl1 rfl j15) rfl)) rfl (Eq.trans (b := ups ((cSe seh ser sefH cy.2.2.2.1 seb seo sew ++ (cTr trh tra trb trc cy.1 tr)) ++ cSps sefH sefB cy.1 sef 6) ([]) (([] : va_W))) (ups_poolS rfl j15) rfl) (pl0 rfl j15) rfl rfl hl.1 rfl (Nat.le_of_ble_eq_true rfl) dX2_seekFall_7 ⟨Nat.zero_le _, Nat.zero_le _⟩ (fun H locs hP hD hS => ?_)
    refine lv_if_eq (tgt := 25) hx hb dX2_seekFall_10 (by decide) (fun c17 => ?_) (fun c17 => ?_)
    · have h := oit h c17
      refine lv_iload_n hx hb dX2_seekFall_25 rfl (lv_at hl 3 rfl) ?_
      refine lv_iconst (v := 5) hx hb dX2_seekFall_26 (by decide) ?_
      refine lv_icmp_ge (tgt := 43) hx hb dX2_seekFall_27 (by decide) (fun c18 => ?_) (fun c18 => ?_)
      · have h := oit h c18
        obtain rfl := Option.some.inj h
        rw [hQ]; exact ct_vret hx hb hr hlocks hP hS rfl dX2_seekFall_43
      · have h := oif h c18
        refine lv_aload_n hx hb dX2_seekFall_30 rfl (lv_at hl 1 rfl) ?_
        refine lv_aload_n hx hb dX2_seekFall_31 rfl (lv_at hl 0 rfl) ?_
        refine va_get (D := D) (ci := 2) (v := .ref ser) (C := RX2) (T := TX2) (N := 4) hx hb hts hiX2 hown hE.1 hP 0 rfl rfl 0 (by decide) (hts (.fieldLink RX2 11 "TiltTray$Search" "level" "[LTiltTray$Spot;") (by decide +kernel)) (fun _ h9 => h9) rfl dX2_seekFall_32 ?_
        refine lv_iload_n hx hb dX2_seekFall_35 rfl (lv_at hl 3 rfl) ?_
        obtain ⟨g19, h⟩ := og h
        refine va_aldq hx hb hE.1 hP 1 3 rfl rfl (ix_in g19) dX2_seekFall_36 ?_
        have j20 : p2.toNatClampNeg < 6 := ix_lt g19
        refine W.eq (g2 := F0 m 37 ls [.ref (sefH p2.toNatClampNeg), .ref trh]) rfl ?_
        obtain ⟨q21, hq21, h⟩ := ob h
        refine kV (As := [.ref (sefH p2.toNatClampNeg)]) (rest := []) (w2 := (cSe seh ser sefH cy.2.2.2.1 seb seo sew ++ (cTr trh tra trb trc cy.1 tr)) ++ cSps sefH sefB cy.1 sef 6) (n := 1) (q0 := 2) ⟨hx, hb, hml, hown, hts⟩ (c_X5_openHoles l D cy trh tra trb trc (sefH p2.toNatClampNeg) (sefB p2.toNatClampNeg) tr (sef p2.toNatClampNeg) q21 hq21) gX2_seekFall_X5_openHoles rfl (by decide +kernel) ⟨by rw [hRf]; omega, by rw [hRl]; omega⟩ hE hP hD hS hA [2, 3, 4, 5, 6 + 2 * p2.toNatClampNeg, 6 + 2 * p2.toNatClampNeg + 1] (by simp [va_nd]; try omega) (cC rfl (cC rfl (cC rfl (cC rfl (cC (pl0 rfl j20) (cC (pl1 rfl j20) rfl)))))) rfl (Eq.trans (b := ups ((cSe seh ser sefH cy.2.2.2.1 seb seo sew ++ (cTr trh tra trb trc cy.1 tr)) ++ cSps sefH sefB cy.1 sef 6) ([6 + 2 * p2.toNatClampNeg, 6 + 2 * p2.toNatClampNeg + 1]) (cSp (sefH p2.toNatClampNeg) (sefB p2.toNatClampNeg) cy.1 (sef p2.toNatClampNeg) ++ (([] : va_W)))) rfl (Eq.trans (b := ups ((cSe seh ser sefH cy.2.2.2.1 seb seo sew ++ (cTr trh tra trb trc cy.1 tr)) ++ cSps sefH sefB cy.1 sef 6) ([]) (([] : va_W))) (ups_poolS rfl j20) rfl)) rfl rfl rfl hl.1 rfl (Nat.le_of_ble_eq_true rfl) dX2_seekFall_37 ⟨Nat.zero_le _, Nat.zero_le _⟩ (fun H locs hP hD hS => ?_)
        refine lv_if_ne (tgt := 44) hx hb dX2_seekFall_40 (by decide) (fun c22 => ?_) (fun c22 => ?_)
        · have h := oif h c22
          refine lv_aload_n hx hb dX2_seekFall_44 rfl (lv_at hl 0 rfl) ?_
          refine va_get (D := D) (ci := 2) (v := .ref ser) (C := RX2) (T := TX2) (N := 4) hx hb hts hiX2 hown hE.1 hP 0 rfl rfl 0 (by decide) (hts (.fieldLink RX2 11 "TiltTray$Search" "level" "[LTiltTray$Spot;") (by decide +kernel)) (fun _ h9 => h9) rfl dX2_seekFall_45 ?_
          refine lv_iload_n hx hb dX2_seekFall_48 rfl (lv_at hl 3 rfl) ?_
          refine lv_iconst (v := 1) hx hb dX2_seekFall_49 (by decide) ?_
          refine lv_iadd hx hb dX2_seekFall_50 ?_
          obtain ⟨g23, h⟩ := og h
          refine va_aldq hx hb hE.1 hP 1 3 rfl rfl (ix_in g23) dX2_seekFall_51 ?_
          have j24 : (p2 + 1).toNatClampNeg < 6 := ix_lt g23
          have j25 : (p2 + 1).toNatClampNeg = p2.toNatClampNeg + 1 := ix_succ g19 g23 (by decide)
          refine W.eq (g2 := F0 m 52 ls [.ref (sefH ((p2 + 1).toNatClampNeg))]) rfl ?_
          refine lv_astore (lv' := [(5, .ref (sefH ((p2 + 1).toNatClampNeg))), (0, .ref seh), (1, .ref trh), (2, .int p1), (3, .int p2), (4, .int p3)]) hx hb dX2_seekFall_52 hl (by decide) rfl (fun ls hl => ?_)
          refine lv_iconst (v := 0) hx hb dX2_seekFall_54 (by decide) ?_
          refine lv_istore (lv' := [(6, .int 0), (5, .ref (sefH ((p2 + 1).toNatClampNeg))), (0, .ref seh), (1, .ref trh), (2, .int p1), (3, .int p2), (4, .int p3)]) hx hb dX2_seekFall_55 hl (by decide) rfl (fun ls hl => ?_)
          exact L57 5 0 sef seo sew j24 g23 j25 _ _ _ (lv_sub hl [2, 3, 4, 5, 6, 1, 0] rfl) hP hD hS h
        · have h := oit h c22
          obtain rfl := Option.some.inj h
          rw [hQ]; exact ct_vret hx hb hr hlocks hP hS rfl dX2_seekFall_43
    · have h := oif h c17
      refine lv_aload_n hx hb dX2_seekFall_13 rfl (lv_at hl 0 rfl) ?_
      refine lv_iload_n hx hb dX2_seekFall_14 rfl (lv_at hl 3 rfl) ?_
      refine va_put (D := D) (ci := 2) (v := .int p2) (ty := .int) (C := RX2) (T := TX2) (N := 4) hx hb hts hiX2 tyX2 tyX2_ok nmX2 hown hE.1 hP hD hS 0 rfl rfl 2 (by decide) (hts (.fieldLink RX2 22 "TiltTray$Search" "found" "I") (by decide +kernel)) (fun _ h9 => h9) rfl (by decide +kernel) rfl rfl (Nat.le_of_ble_eq_true rfl) dX2_seekFall_15 (fun H locs hP hD hS => ?_)
      have hP : va_P D vwCl ((cSe seh ser sefH cy.2.2.2.1 seb p2 sew ++ (cTr trh tra trb trc cy.1 tr)) ++ cSps sefH sefB cy.1 sef 6) H := hP
      have hD : va_D A ((cSe seh ser sefH cy.2.2.2.1 seb p2 sew ++ (cTr trh tra trb trc cy.1 tr)) ++ cSps sefH sefB cy.1 sef 6) := hD
      refine lv_aload_n hx hb dX2_seekFall_18 rfl (lv_at hl 0 rfl) ?_
      refine lv_iload hx hb dX2_seekFall_19 (lv_at hl 4 rfl) ?_
      refine va_put (D := D) (ci := 2) (v := .int p3) (ty := .int) (C := RX2) (T := TX2) (N := 4) hx hb hts hiX2 tyX2 tyX2_ok nmX2 hown hE.1 hP hD hS 0 rfl rfl 3 (by decide) (hts (.fieldLink RX2 26 "TiltTray$Search" "row" "I") (by decide +kernel)) (fun _ h9 => h9) rfl (by decide +kernel) rfl rfl (Nat.le_of_ble_eq_true rfl) dX2_seekFall_21 (fun H locs hP hD hS => ?_)
      have hP : va_P D vwCl ((cSe seh ser sefH cy.2.2.2.1 seb p2 p3 ++ (cTr trh tra trb trc cy.1 tr)) ++ cSps sefH sefB cy.1 sef 6) H := hP
      have hD : va_D A ((cSe seh ser sefH cy.2.2.2.1 seb p2 p3 ++ (cTr trh tra trb trc cy.1 tr)) ++ cSps sefH sefB cy.1 sef 6) := hD
      obtain rfl := Option.some.inj h
      rw [hQ]; exact ct_vret hx hb hr hlocks hP hS rfl dX2_seekFall_24

def tw_X2_findFewest (sef : Nat → SpS) (seb : Int32) (seo : Int32) (sew : Int32) (tr : TrS) (sp : SpS) (p1 : Int32) : Option (Int32 × (Nat → SpS) × Int32 × Int32) :=
  (tw_X4_take (sef ((0 : Int32).toNatClampNeg)) sp).bind (fun q2 => (tw_X2_seekFall 7 (va_up sef ((0 : Int32).toNatClampNeg) q2) seb 6 0 tr p1 0 0).bind (fun q3 => if 5 < q3.2.1 then (some (0, q3.1, q3.2.1, q3.2.2)) else (some (1, q3.1, q3.2.1, q3.2.2))))
set_option maxHeartbeats 4000000 in
set_option maxRecDepth 100000 in
theorem c_X2_findFewest (l : Launch) (D : va_G) (cy : Cy) (sefH : Nat → Nat) (sefB : Nat → Nat) (seh : Nat) (ser : Nat) (trh : Nat) (tra : Nat) (trb : Nat) (trc : Nat) (sph : Nat) (spa : Nat) (sef : Nat → SpS) (seb : Int32) (seo : Int32) (sew : Int32) (tr : TrS) (sp : SpS) (p1 : Int32) (res : Int32 × (Nat → SpS) × Int32 × Int32) (h : tw_X2_findFewest sef seb seo sew tr sp p1 = some res) : Ct l yX2_findFewest wsX2_findFewest 12 301 D cy [.ref seh, .ref trh, .ref sph, .int p1] ((cSe seh ser sefH cy.2.2.2.1 seb seo sew ++ (cTr trh tra trb trc cy.1 tr ++ (cSp sph spa cy.1 sp))) ++ cSps sefH sefB cy.1 sef 6) ((cSe seh ser sefH cy.2.2.2.1 seb res.2.2.1 res.2.2.2 ++ (cTr trh tra trb trc cy.1 tr ++ (cSp sph spa cy.1 sp))) ++ cSps sefH sefB cy.1 res.2.1 6) (some (.int res.1)) := by
  refine Ct.ofW (cc := cX2_findFewest) (maxL := 4) (ret := (some .boolean)) (by decide) rfl (Nat.le_of_ble_eq_true rfl) ?_
  intro p e R s m args below meth c A Q ls hRf hRl hQ hx hb hr hml hts hown hlocks hE hP hD hS hA hl
  have hiX2 : ∀ w ∈ u_ws RX2 TX2 4, w ∈ wsX2_findFewest := by decide +kernel
  have hl : lv_has ls 4 [(0, .ref seh), (1, .ref trh), (2, .ref sph), (3, .int p1)] := hl
  rw [tw_X2_findFewest] at h
  refine lv_aload_n hx hb dX2_findFewest_0 rfl (lv_at hl 0 rfl) ?_
  refine va_get (D := D) (ci := 2) (v := .ref ser) (C := RX2) (T := TX2) (N := 4) hx hb hts hiX2 hown hE.1 hP 0 rfl rfl 0 (by decide) (hts (.fieldLink RX2 11 "TiltTray$Search" "level" "[LTiltTray$Spot;") (by decide +kernel)) (fun _ h9 => h9) rfl dX2_findFewest_1 ?_
  refine lv_iconst (v := 0) hx hb dX2_findFewest_4 (by decide) ?_
  refine va_aldq hx hb hE.1 hP 1 3 rfl rfl (ix_in (by decide)) dX2_findFewest_5 ?_
  have j1 : (0 : Int32).toNatClampNeg < 6 := by decide
  refine W.eq (g2 := F0 m 6 ls [.ref (sefH ((0 : Int32).toNatClampNeg))]) rfl ?_
  refine lv_aload_n hx hb dX2_findFewest_6 rfl (lv_at hl 2 rfl) ?_
  obtain ⟨q2, hq2, h⟩ := ob h
  refine kV (As := [.ref sph]) (rest := []) (w2 := (cSe seh ser sefH cy.2.2.2.1 seb seo sew ++ (cTr trh tra trb trc cy.1 tr ++ (cSp sph spa cy.1 sp))) ++ cSps sefH sefB cy.1 (va_up sef ((0 : Int32).toNatClampNeg) q2) 6) (n := 1) (q0 := (8 + 2 * ((0 : Int32).toNatClampNeg))) ⟨hx, hb, hml, hown, hts⟩ (c_X4_take l D cy (sefH ((0 : Int32).toNatClampNeg)) (sefB ((0 : Int32).toNatClampNeg)) sph spa (sef ((0 : Int32).toNatClampNeg)) sp q2 hq2) gX2_findFewest_X4_take rfl (by decide +kernel) ⟨by rw [hRf]; exact Nat.le_of_ble_eq_true rfl, by rw [hRl]; exact Nat.le_of_ble_eq_true rfl⟩ hE hP hD hS hA [8 + 2 * ((0 : Int32).toNatClampNeg), 8 + 2 * ((0 : Int32).toNatClampNeg) + 1, 6, 7] (by simp [va_nd]; try omega) (cC (pl0 rfl j1) (cC (pl1 rfl j1) (cC rfl (cC rfl rfl)))) rfl (Eq.trans (b := ups ((cSe seh ser sefH cy.2.2.2.1 seb seo sew ++ (cTr trh tra trb trc cy.1 tr ++ (cSp sph spa cy.1 sp))) ++ cSps sefH sefB cy.1 (va_up sef ((0 : Int32).toNatClampNeg) q2) 6) ([6, 7]) (cSp sph spa cy.1 sp ++ (([] : va_W)))) (ups_pool rfl j1) (Eq.trans (b := ups ((cSe seh ser sefH cy.2.2.2.1 seb seo sew ++ (cTr trh tra trb trc cy.1 tr ++ (cSp sph spa cy.1 sp))) ++ cSps sefH sefB cy.1 (va_up sef ((0 : Int32).toNatClampNeg) q2) 6) ([]) (([] : va_W))) rfl rfl)) (pl0 rfl j1) rfl rfl hl.1 rfl (Nat.le_of_ble_eq_true rfl) dX2_findFewest_7 ⟨Nat.zero_le _, Nat.zero_le _⟩ (fun H locs hP hD hS => ?_)
  refine lv_aload_n hx hb dX2_findFewest_10 rfl (lv_at hl 0 rfl) ?_
  refine lv_bipush (v := 6) hx hb dX2_findFewest_11 (by decide) ?_
  refine va_put (D := D) (ci := 2) (v := .int 6) (ty := .int) (C := RX2) (T := TX2) (N := 4) hx hb hts hiX2 tyX2 tyX2_ok nmX2 hown hE.1 hP hD hS 0 rfl rfl 2 (by decide) (hts (.fieldLink RX2 22 "TiltTray$Search" "found" "I") (by decide +kernel)) (fun _ h9 => h9) rfl (by decide +kernel) rfl rfl (Nat.le_of_ble_eq_true rfl) dX2_findFewest_13 (fun H locs hP hD hS => ?_)
  have hP : va_P D vwCl ((cSe seh ser sefH cy.2.2.2.1 seb 6 sew ++ (cTr trh tra trb trc cy.1 tr ++ (cSp sph spa cy.1 sp))) ++ cSps sefH sefB cy.1 (va_up sef ((0 : Int32).toNatClampNeg) q2) 6) H := hP
  have hD : va_D A ((cSe seh ser sefH cy.2.2.2.1 seb 6 sew ++ (cTr trh tra trb trc cy.1 tr ++ (cSp sph spa cy.1 sp))) ++ cSps sefH sefB cy.1 (va_up sef ((0 : Int32).toNatClampNeg) q2) 6) := hD
  refine lv_aload_n hx hb dX2_findFewest_16 rfl (lv_at hl 0 rfl) ?_
  refine lv_iconst (v := 0) hx hb dX2_findFewest_17 (by decide) ?_
  refine va_put (D := D) (ci := 2) (v := .int 0) (ty := .int) (C := RX2) (T := TX2) (N := 4) hx hb hts hiX2 tyX2 tyX2_ok nmX2 hown hE.1 hP hD hS 0 rfl rfl 3 (by decide) (hts (.fieldLink RX2 26 "TiltTray$Search" "row" "I") (by decide +kernel)) (fun _ h9 => h9) rfl (by decide +kernel) rfl rfl (Nat.le_of_ble_eq_true rfl) dX2_findFewest_18 (fun H locs hP hD hS => ?_)
  have hP : va_P D vwCl ((cSe seh ser sefH cy.2.2.2.1 seb 6 0 ++ (cTr trh tra trb trc cy.1 tr ++ (cSp sph spa cy.1 sp))) ++ cSps sefH sefB cy.1 (va_up sef ((0 : Int32).toNatClampNeg) q2) 6) H := hP
  have hD : va_D A ((cSe seh ser sefH cy.2.2.2.1 seb 6 0 ++ (cTr trh tra trb trc cy.1 tr ++ (cSp sph spa cy.1 sp))) ++ cSps sefH sefB cy.1 (va_up sef ((0 : Int32).toNatClampNeg) q2) 6) := hD
  refine lv_aload_n hx hb dX2_findFewest_21 rfl (lv_at hl 0 rfl) ?_
  refine lv_aload_n hx hb dX2_findFewest_22 rfl (lv_at hl 1 rfl) ?_
  refine lv_iload_n hx hb dX2_findFewest_23 rfl (lv_at hl 3 rfl) ?_
  refine lv_iconst (v := 0) hx hb dX2_findFewest_24 (by decide) ?_
  refine lv_iconst (v := 0) hx hb dX2_findFewest_25 (by decide) ?_
  obtain ⟨q3, hq3, h⟩ := ob h
  refine kV (As := [.ref trh, .int p1, .int 0, .int 0]) (rest := []) (w2 := (cSe seh ser sefH cy.2.2.2.1 seb q3.2.1 q3.2.2 ++ (cTr trh tra trb trc cy.1 tr ++ (cSp sph spa cy.1 sp))) ++ cSps sefH sefB cy.1 q3.1 6) (n := 4) (q0 := 0) ⟨hx, hb, hml, hown, hts⟩ (c_X2_seekFall l D cy sefH sefB seh ser trh tra trb trc 7 (va_up sef ((0 : Int32).toNatClampNeg) q2) seb 6 0 tr p1 0 0 q3 hq3) gX2_findFewest_X2_seekFall rfl (by decide +kernel) ⟨by rw [hRf]; exact Nat.le_of_ble_eq_true rfl, by rw [hRl]; exact Nat.le_of_ble_eq_true rfl⟩ hE hP hD hS hA ([0, 1, 2, 3, 4, 5] ++ rng 8 12) (by decide +kernel) (blkC rfl rfl) (blkA rfl) (blkU rfl rfl rfl) rfl rfl rfl hl.1 rfl (Nat.le_of_ble_eq_true rfl) dX2_findFewest_26 ⟨Nat.zero_le _, Nat.zero_le _⟩ (fun H locs hP hD hS => ?_)
  refine lv_aload_n hx hb dX2_findFewest_29 rfl (lv_at hl 0 rfl) ?_
  refine va_get (D := D) (ci := 2) (v := .int q3.2.1) (C := RX2) (T := TX2) (N := 4) hx hb hts hiX2 hown hE.1 hP 0 rfl rfl 2 (by decide) (hts (.fieldLink RX2 22 "TiltTray$Search" "found" "I") (by decide +kernel)) (fun _ h9 => h9) rfl dX2_findFewest_30 ?_
  refine lv_iconst (v := 5) hx hb dX2_findFewest_33 (by decide) ?_
  refine lv_icmp_gt (tgt := 41) hx hb dX2_findFewest_34 (by decide) (fun c4 => ?_) (fun c4 => ?_)
  · have h := oit h c4
    refine lv_iconst (v := 0) hx hb dX2_findFewest_41 (by decide) ?_
    obtain rfl := Option.some.inj h
    rw [hQ]; exact ct_zret hx hb hr hlocks rfl hP hS rfl dX2_findFewest_42
  · have h := oif h c4
    refine lv_iconst (v := 1) hx hb dX2_findFewest_37 (by decide) ?_
    refine lv_goto (tgt := 42) hx hb dX2_findFewest_38 (by decide) ?_
    obtain rfl := Option.some.inj h
    rw [hQ]; exact ct_zret hx hb hr hlocks rfl hP hS rfl dX2_findFewest_42

def tw_X2_gatherCells_50 (rc : (Nat → SpS) → Int32 → Int32 → Int32 → TrS → Int32 → Int32 → Option (Int32 × (Nat → SpS))) (seb : Int32) (seo : Int32) (sew : Int32) (tr : TrS) (p1 : Int32) (p2 : Int32) : Nat → Int32 → Int32 → (Nat → SpS) → Option (Int32 × (Nat → SpS))
  | 0, _, _, _ => none
  | n + 1, x5, x7, sef =>
    if 4 ≤ x7 then (some (x5, sef)) else (if ix p2 6 = true then ((tw_X4_take (sef ((p2 + 1).toNatClampNeg)) (sef p2.toNatClampNeg)).bind (fun q5 => (tw_X5_roll tr ((va_up sef ((p2 + 1).toNatClampNeg) q5) ((p2 + 1).toNatClampNeg)) x7).bind (fun q6 => if ix p2 6 = true then ((tw_X4_hasSamePlaces ((va_up (va_up sef ((p2 + 1).toNatClampNeg) q5) ((p2 + 1).toNatClampNeg) q6) ((p2 + 1).toNatClampNeg)) ((va_up (va_up sef ((p2 + 1).toNatClampNeg) q5) ((p2 + 1).toNatClampNeg) q6) p2.toNatClampNeg)).bind (fun q10 => if q10 = 0 then ((rc (va_up (va_up sef ((p2 + 1).toNatClampNeg) q5) ((p2 + 1).toNatClampNeg) q6) seb seo sew tr p1 (p2 + 1)).bind (fun q12 => (tw_X2_gatherCells_50 rc seb seo sew tr p1 p2 n) (x5 ||| q12.1) (x7 + 1) q12.2)) else ((tw_X2_gatherCells_50 rc seb seo sew tr p1 p2 n) x5 (x7 + 1) (va_up (va_up sef ((p2 + 1).toNatClampNeg) q5) ((p2 + 1).toNatClampNeg) q6)))) else none))) else none)
def tw_X2_gatherCells : Nat → (Nat → SpS) → Int32 → Int32 → Int32 → TrS → Int32 → Int32 → Option (Int32 × (Nat → SpS))
  | 0, _, _, _, _, _, _, _ => none
  | nr + 1, sef, seb, seo, sew, tr, p1, p2 =>
    if ix p2 6 = true then (if ix p1 4 = true then ((tw_X6_isCell (((sef p2.toNatClampNeg).1) p1.toNatClampNeg)).bind (fun q16 => if q16 = 0 then (some (0, sef)) else (if p2 < 4 then (if ix (p2 + 1) 6 = true then (tw_X2_gatherCells_50 (tw_X2_gatherCells nr) seb seo sew tr p1 p2 5 (1 <<< ((((sef p2.toNatClampNeg).1) p1.toNatClampNeg) &&& 31)) 0 sef) else none) else (some (1 <<< ((((sef p2.toNatClampNeg).1) p1.toNatClampNeg) &&& 31), sef))))) else none) else none
set_option maxHeartbeats 4000000 in
set_option maxRecDepth 100000 in
theorem c_X2_gatherCells (l : Launch) (D : va_G) (cy : Cy) (sefH : Nat → Nat) (sefB : Nat → Nat) (seh : Nat) (ser : Nat) (trh : Nat) (tra : Nat) (trb : Nat) (trc : Nat) : ∀ (nr : Nat) (sef : Nat → SpS) (seb : Int32) (seo : Int32) (sew : Int32) (tr : TrS) (p1 : Int32) (p2 : Int32) (res : Int32 × (Nat → SpS)) (h : tw_X2_gatherCells nr sef seb seo sew tr p1 p2 = some res), Ct l yX2_gatherCells wsX2_gatherCells (4 + nr) (93 + 27 * nr) D cy [.ref seh, .ref trh, .int p1, .int p2] ((cSe seh ser sefH cy.2.2.2.1 seb seo sew ++ (cTr trh tra trb trc cy.1 tr)) ++ cSps sefH sefB cy.1 sef 6) ((cSe seh ser sefH cy.2.2.2.1 seb seo sew ++ (cTr trh tra trb trc cy.1 tr)) ++ cSps sefH sefB cy.1 res.2 6) (some (.int res.1)) := by
  intro nr
  induction nr with
  | zero =>
    intro sef seb seo sew tr p1 p2 res h
    exact absurd h (by rw [tw_X2_gatherCells]; exact fun q => by cases q)
  | succ nr ih =>
    intro sef seb seo sew tr p1 p2 res h
    refine Ct.ofW (cc := cX2_gatherCells) (maxL := 8) (ret := (some .int)) (by decide) rfl (Nat.le_of_ble_eq_true rfl) ?_
    intro p e R s m args below meth c A Q ls hRf hRl hQ hx hb hr hml hts hown hlocks hE hP hD hS hA hl
    have hiX2 : ∀ w ∈ u_ws RX2 TX2 4, w ∈ wsX2_gatherCells := by decide +kernel
    have hiX4 : ∀ w ∈ u_ws RX4 TX4 5, w ∈ wsX2_gatherCells := by decide +kernel
    have hl : lv_has ls 8 [(0, .ref seh), (1, .ref trh), (2, .int p1), (3, .int p2)] := hl
    rw [tw_X2_gatherCells] at h
    have L50 : ∀ (n : Nat) (x5 : Int32) (x7 : Int32) (sef : Nat → SpS) (j39 : (p2 + 1).toNatClampNeg < 6) (g38 : ix (p2 + 1) 6 = true) (j40 : (p2 + 1).toNatClampNeg = p2.toNatClampNeg + 1) (H : Heap) (locs : List Loc) (ls : Array Slot), lv_has ls 8 [(0, .ref seh), (1, .ref trh), (2, .int p1), (3, .int p2), (5, .int x5), (6, .ref (sefH ((p2 + 1).toNatClampNeg))), (7, .int x7)] → va_P D vwCl ((cSe seh ser sefH cy.2.2.2.1 seb seo sew ++ (cTr trh tra trb trc cy.1 tr)) ++ cSps sefH sefB cy.1 sef 6) H → va_D A ((cSe seh ser sefH cy.2.2.2.1 seb seo sew ++ (cTr trh tra trb trc cy.1 tr)) ++ cSps sefH sefB cy.1 sef 6) → va_S A s.heap H locs → tw_X2_gatherCells_50 (tw_X2_gatherCells nr) seb seo sew tr p1 p2 n x5 x7 sef = some res → W p l e R s m args below meth c H locs 0 0 Q (F0 m 50 ls []) := by
      intro n50
      induction n50 with
      | zero =>
        intro x5 x7 sef j39 g38 j40 H locs ls hl hP hD hS h
        exact absurd h (by rw [tw_X2_gatherCells_50]; exact fun q => by cases q)
      | succ n50 ih50 =>
        intro x5 x7 sef j39 g38 j40 H locs ls hl hP hD hS h
        rw [tw_X2_gatherCells_50] at h
        refine lv_iload hx hb dX2_gatherCells_50 (lv_at hl 6 rfl) ?_
        refine lv_iconst (v := 4) hx hb dX2_gatherCells_52 (by decide) ?_
        refine lv_icmp_ge (tgt := 109) hx hb dX2_gatherCells_53 (by decide) (fun c1 => ?_) (fun c1 => ?_)
        · have h := oit h c1
          refine lv_iload hx hb dX2_gatherCells_109 (lv_at hl 4 rfl) ?_
          obtain rfl := Option.some.inj h
          rw [hQ]; exact ct_iret hx hb hr hlocks hP hS rfl dX2_gatherCells_111
        · have h := oif h c1
          refine lv_aload hx hb dX2_gatherCells_56 (lv_at hl 5 rfl) ?_
          refine lv_aload_n hx hb dX2_gatherCells_58 rfl (lv_at hl 0 rfl) ?_
          refine va_get (D := D) (ci := 2) (v := .ref ser) (C := RX2) (T := TX2) (N := 4) hx hb hts hiX2 hown hE.1 hP 0 rfl rfl 0 (by decide) (hts (.fieldLink RX2 11 "TiltTray$Search" "level" "[LTiltTray$Spot;") (by decide +kernel)) (fun _ h9 => h9) rfl dX2_gatherCells_59 ?_
          refine lv_iload_n hx hb dX2_gatherCells_62 rfl (lv_at hl 3 rfl) ?_
          obtain ⟨g2, h⟩ := og h
          refine va_aldq hx hb hE.1 hP 1 3 rfl rfl (ix_in g2) dX2_gatherCells_63 ?_
          have j3 : p2.toNatClampNeg < 6 := ix_lt g2
          have j4 : (p2 + 1).toNatClampNeg = p2.toNatClampNeg + 1 := ix_succ g2 g38 (by decide)
          refine W.eq (g2 := F0 m 64 ls [.ref (sefH p2.toNatClampNeg), .ref (sefH ((p2 + 1).toNatClampNeg))]) rfl ?_
          obtain ⟨q5, hq5, h⟩ := ob h
          refine kV (As := [.ref (sefH p2.toNatClampNeg)]) (rest := []) (w2 := (cSe seh ser sefH cy.2.2.2.1 seb seo sew ++ (cTr trh tra trb trc cy.1 tr)) ++ cSps sefH sefB cy.1 (va_up sef ((p2 + 1).toNatClampNeg) q5) 6) (n := 1) (q0 := (6 + 2 * ((p2 + 1).toNatClampNeg))) ⟨hx, hb, hml, hown, hts⟩ (c_X4_take l D cy (sefH ((p2 + 1).toNatClampNeg)) (sefB ((p2 + 1).toNatClampNeg)) (sefH p2.toNatClampNeg) (sefB p2.toNatClampNeg) (sef ((p2 + 1).toNatClampNeg)) (sef p2.toNatClampNeg) q5 hq5) gX2_gatherCells_X4_take rfl (by decide +kernel) ⟨by rw [hRf]; omega, by rw [hRl]; omega⟩ hE hP hD hS hA [6 + 2 * ((p2 + 1).toNatClampNeg), 6 + 2 * ((p2 + 1).toNatClampNeg) + 1, 6 + 2 * p2.toNatClampNeg, 6 + 2 * p2.toNatClampNeg + 1] (by simp [va_nd]; try omega) (cC (pl0 rfl j39) (cC (pl1 rfl j39) (cC (pl0 rfl j3) (cC (pl1 rfl j3) rfl)))) rfl (Eq.trans (b := ups ((cSe seh ser sefH cy.2.2.2.1 seb seo sew ++ (cTr trh tra trb trc cy.1 tr)) ++ cSps sefH sefB cy.1 (va_up sef ((p2 + 1).toNatClampNeg) q5) 6) ([6 + 2 * p2.toNatClampNeg, 6 + 2 * p2.toNatClampNeg + 1]) (cSp (sefH p2.toNatClampNeg) (sefB p2.toNatClampNeg) cy.1 (sef p2.toNatClampNeg) ++ (([] : va_W)))) (ups_pool rfl j39) (Eq.trans (b := ups ((cSe seh ser sefH cy.2.2.2.1 seb seo sew ++ (cTr trh tra trb trc cy.1 tr)) ++ cSps sefH sefB cy.1 (va_up sef ((p2 + 1).toNatClampNeg) q5) 6) ([]) (([] : va_W))) (ups_poolN rfl j3 (by omega)) rfl)) (pl0 rfl j39) rfl rfl hl.1 rfl (Nat.le_of_ble_eq_true rfl) dX2_gatherCells_64 ⟨Nat.zero_le _, Nat.zero_le _⟩ (fun H locs hP hD hS => ?_)
          refine lv_aload_n hx hb dX2_gatherCells_67 rfl (lv_at hl 1 rfl) ?_
          refine lv_aload hx hb dX2_gatherCells_68 (lv_at hl 5 rfl) ?_
          refine lv_iload hx hb dX2_gatherCells_70 (lv_at hl 6 rfl) ?_
          obtain ⟨q6, hq6, h⟩ := ob h
          refine kV (As := [.ref (sefH ((p2 + 1).toNatClampNeg)), .int x7]) (rest := []) (w2 := (cSe seh ser sefH cy.2.2.2.1 seb seo sew ++ (cTr trh tra trb trc cy.1 tr)) ++ cSps sefH sefB cy.1 (va_up (va_up sef ((p2 + 1).toNatClampNeg) q5) ((p2 + 1).toNatClampNeg) q6) 6) (n := 2) (q0 := 2) ⟨hx, hb, hml, hown, hts⟩ (c_X5_roll l D cy trh tra trb trc (sefH ((p2 + 1).toNatClampNeg)) (sefB ((p2 + 1).toNatClampNeg)) tr ((va_up sef ((p2 + 1).toNatClampNeg) q5) ((p2 + 1).toNatClampNeg)) x7 q6 hq6) gX2_gatherCells_X5_roll rfl (by decide +kernel) ⟨by rw [hRf]; omega, by rw [hRl]; omega⟩ hE hP hD hS hA [2, 3, 4, 5, 6 + 2 * ((p2 + 1).toNatClampNeg), 6 + 2 * ((p2 + 1).toNatClampNeg) + 1] (by simp [va_nd]; try omega) (cC rfl (cC rfl (cC rfl (cC rfl (cC (pl0 rfl j39) (cC (pl1 rfl j39) rfl)))))) rfl (Eq.trans (b := ups ((cSe seh ser sefH cy.2.2.2.1 seb seo sew ++ (cTr trh tra trb trc cy.1 tr)) ++ cSps sefH sefB cy.1 (va_up sef ((p2 + 1).toNatClampNeg) q5) 6) ([6 + 2 * ((p2 + 1).toNatClampNeg), 6 + 2 * ((p2 + 1).toNatClampNeg) + 1]) (cSp (sefH ((p2 + 1).toNatClampNeg)) (sefB ((p2 + 1).toNatClampNeg)) cy.1 q6 ++ (([] : va_W)))) rfl (Eq.trans (b := ups ((cSe seh ser sefH cy.2.2.2.1 seb seo sew ++ (cTr trh tra trb trc cy.1 tr)) ++ cSps sefH sefB cy.1 (va_up (va_up sef ((p2 + 1).toNatClampNeg) q5) ((p2 + 1).toNatClampNeg) q6) 6) ([]) (([] : va_W))) (ups_pool rfl j39) rfl)) rfl rfl rfl hl.1 rfl (Nat.le_of_ble_eq_true rfl) dX2_gatherCells_72 ⟨Nat.zero_le _, Nat.zero_le _⟩ (fun H locs hP hD hS => ?_)
          refine lv_aload hx hb dX2_gatherCells_75 (lv_at hl 5 rfl) ?_
          refine lv_aload_n hx hb dX2_gatherCells_77 rfl (lv_at hl 0 rfl) ?_
          refine va_get (D := D) (ci := 2) (v := .ref ser) (C := RX2) (T := TX2) (N := 4) hx hb hts hiX2 hown hE.1 hP 0 rfl rfl 0 (by decide) (hts (.fieldLink RX2 11 "TiltTray$Search" "level" "[LTiltTray$Spot;") (by decide +kernel)) (fun _ h9 => h9) rfl dX2_gatherCells_78 ?_
          refine lv_iload_n hx hb dX2_gatherCells_81 rfl (lv_at hl 3 rfl) ?_
          obtain ⟨g7, h⟩ := og h
          refine va_aldq hx hb hE.1 hP 1 3 rfl rfl (ix_in g7) dX2_gatherCells_82 ?_
          have j8 : p2.toNatClampNeg < 6 := ix_lt g7
          have j9 : (p2 + 1).toNatClampNeg = p2.toNatClampNeg + 1 := ix_succ g7 g38 (by decide)
          refine W.eq (g2 := F0 m 83 ls [.ref (sefH p2.toNatClampNeg), .ref (sefH ((p2 + 1).toNatClampNeg))]) rfl ?_
          obtain ⟨q10, hq10, h⟩ := ob h
          refine kV (As := [.ref (sefH p2.toNatClampNeg)]) (rest := []) (w2 := (cSe seh ser sefH cy.2.2.2.1 seb seo sew ++ (cTr trh tra trb trc cy.1 tr)) ++ cSps sefH sefB cy.1 (va_up (va_up sef ((p2 + 1).toNatClampNeg) q5) ((p2 + 1).toNatClampNeg) q6) 6) (n := 1) (q0 := (6 + 2 * ((p2 + 1).toNatClampNeg))) ⟨hx, hb, hml, hown, hts⟩ (c_X4_hasSamePlaces l D cy (sefH ((p2 + 1).toNatClampNeg)) (sefB ((p2 + 1).toNatClampNeg)) (sefH p2.toNatClampNeg) (sefB p2.toNatClampNeg) ((va_up (va_up sef ((p2 + 1).toNatClampNeg) q5) ((p2 + 1).toNatClampNeg) q6) ((p2 + 1).toNatClampNeg)) ((va_up (va_up sef ((p2 + 1).toNatClampNeg) q5) ((p2 + 1).toNatClampNeg) q6) p2.toNatClampNeg) q10 hq10) gX2_gatherCells_X4_hasSamePlaces rfl (by decide +kernel) ⟨by rw [hRf]; omega, by rw [hRl]; omega⟩ hE hP hD hS hA [6 + 2 * ((p2 + 1).toNatClampNeg), 6 + 2 * ((p2 + 1).toNatClampNeg) + 1, 6 + 2 * p2.toNatClampNeg, 6 + 2 * p2.toNatClampNeg + 1] (by simp [va_nd]; try omega) (cC (pl0 rfl j39) (cC (pl1 rfl j39) (cC (pl0 rfl j8) (cC (pl1 rfl j8) rfl)))) rfl (Eq.trans (b := ups ((cSe seh ser sefH cy.2.2.2.1 seb seo sew ++ (cTr trh tra trb trc cy.1 tr)) ++ cSps sefH sefB cy.1 (va_up (va_up sef ((p2 + 1).toNatClampNeg) q5) ((p2 + 1).toNatClampNeg) q6) 6) ([6 + 2 * p2.toNatClampNeg, 6 + 2 * p2.toNatClampNeg + 1]) (cSp (sefH p2.toNatClampNeg) (sefB p2.toNatClampNeg) cy.1 ((va_up (va_up sef ((p2 + 1).toNatClampNeg) q5) ((p2 + 1).toNatClampNeg) q6) p2.toNatClampNeg) ++ (([] : va_W)))) (ups_poolS rfl j39) (Eq.trans (b := ups ((cSe seh ser sefH cy.2.2.2.1 seb seo sew ++ (cTr trh tra trb trc cy.1 tr)) ++ cSps sefH sefB cy.1 (va_up (va_up sef ((p2 + 1).toNatClampNeg) q5) ((p2 + 1).toNatClampNeg) q6) 6) ([]) (([] : va_W))) (ups_poolS rfl j8) rfl)) (pl0 rfl j39) rfl rfl hl.1 rfl (Nat.le_of_ble_eq_true rfl) dX2_gatherCells_83 ⟨Nat.zero_le _, Nat.zero_le _⟩ (fun H locs hP hD hS => ?_)
          refine lv_if_ne (tgt := 103) hx hb dX2_gatherCells_86 (by decide) (fun c11 => ?_) (fun c11 => ?_)
          · have h := oif h c11
            refine lv_iinc (v := x7 + 1) (lv' := [(7, .int (x7 + 1)), (0, .ref seh), (1, .ref trh), (2, .int p1), (3, .int p2), (5, .int x5), (6, .ref (sefH ((p2 + 1).toNatClampNeg)))]) hx hb dX2_gatherCells_103 hl (k := 6) rfl rfl (by decide) rfl (fun ls hl => ?_)
            refine lv_goto (tgt := 50) hx hb dX2_gatherCells_106 (by decide) ?_
            exact ih50 x5 (x7 + 1) (va_up (va_up sef ((p2 + 1).toNatClampNeg) q5) ((p2 + 1).toNatClampNeg) q6) j39 g38 j40 _ _ _ (lv_sub hl [1, 2, 3, 4, 5, 6, 0] rfl) hP hD hS h
          · have h := oit h c11
            refine lv_iload hx hb dX2_gatherCells_89 (lv_at hl 4 rfl) ?_
            refine lv_aload_n hx hb dX2_gatherCells_91 rfl (lv_at hl 0 rfl) ?_
            refine lv_aload_n hx hb dX2_gatherCells_92 rfl (lv_at hl 1 rfl) ?_
            refine lv_iload_n hx hb dX2_gatherCells_93 rfl (lv_at hl 2 rfl) ?_
            refine lv_iload_n hx hb dX2_gatherCells_94 rfl (lv_at hl 3 rfl) ?_
            refine lv_iconst (v := 1) hx hb dX2_gatherCells_95 (by decide) ?_
            refine lv_iadd hx hb dX2_gatherCells_96 ?_
            obtain ⟨q12, hq12, h⟩ := ob h
            refine kV (As := [.ref trh, .int p1, .int (p2 + 1)]) (rest := [.int x5]) (w2 := (cSe seh ser sefH cy.2.2.2.1 seb seo sew ++ (cTr trh tra trb trc cy.1 tr)) ++ cSps sefH sefB cy.1 q12.2 6) (n := 3) (q0 := 0) ⟨hx, hb, hml, hown, hts⟩ (ih (va_up (va_up sef ((p2 + 1).toNatClampNeg) q5) ((p2 + 1).toNatClampNeg) q6) seb seo sew tr p1 (p2 + 1) q12 hq12) gX2_gatherCells_X2_gatherCells rfl (by decide +kernel) ⟨by rw [hRf]; omega, by rw [hRl]; omega⟩ hE hP hD hS hA ([0, 1, 2, 3, 4, 5] ++ rng 6 12) (by decide +kernel) (blkC rfl rfl) (blkA rfl) (blkU rfl rfl rfl) rfl rfl rfl hl.1 rfl (Nat.le_of_ble_eq_true rfl) dX2_gatherCells_97 ⟨Nat.zero_le _, Nat.zero_le _⟩ (fun H locs hP hD hS => ?_)
            refine lv_ior hx hb dX2_gatherCells_100 ?_
            refine lv_istore (lv' := [(5, .int (x5 ||| q12.1)), (0, .ref seh), (1, .ref trh), (2, .int p1), (3, .int p2), (6, .ref (sefH ((p2 + 1).toNatClampNeg))), (7, .int x7)]) hx hb dX2_gatherCells_101 hl (by decide) rfl (fun ls hl => ?_)
            refine lv_iinc (v := x7 + 1) (lv' := [(7, .int (x7 + 1)), (5, .int (x5 ||| q12.1)), (0, .ref seh), (1, .ref trh), (2, .int p1), (3, .int p2), (6, .ref (sefH ((p2 + 1).toNatClampNeg)))]) hx hb dX2_gatherCells_103 hl (k := 6) rfl rfl (by decide) rfl (fun ls hl => ?_)
            refine lv_goto (tgt := 50) hx hb dX2_gatherCells_106 (by decide) ?_
            exact ih50 (x5 ||| q12.1) (x7 + 1) q12.2 j39 g38 j40 _ _ _ (lv_sub hl [2, 3, 4, 5, 1, 6, 0] rfl) hP hD hS h
    refine lv_aload_n hx hb dX2_gatherCells_0 rfl (lv_at hl 0 rfl) ?_
    refine va_get (D := D) (ci := 2) (v := .ref ser) (C := RX2) (T := TX2) (N := 4) hx hb hts hiX2 hown hE.1 hP 0 rfl rfl 0 (by decide) (hts (.fieldLink RX2 11 "TiltTray$Search" "level" "[LTiltTray$Spot;") (by decide +kernel)) (fun _ h9 => h9) rfl dX2_gatherCells_1 ?_
    refine lv_iload_n hx hb dX2_gatherCells_4 rfl (lv_at hl 3 rfl) ?_
    obtain ⟨g13, h⟩ := og h
    refine va_aldq hx hb hE.1 hP 1 3 rfl rfl (ix_in g13) dX2_gatherCells_5 ?_
    have j14 : p2.toNatClampNeg < 6 := ix_lt g13
    refine W.eq (g2 := F0 m 6 ls [.ref (sefH p2.toNatClampNeg)]) rfl ?_
    refine va_get (D := D) (ci := 4) (v := .ref (sefB p2.toNatClampNeg)) (C := RX4) (T := TX4) (N := 5) hx hb hts hiX4 hown hE.1 hP (6 + 2 * p2.toNatClampNeg) (pl0 rfl j14) rfl 0 (by decide) (hts (.fieldLink RX2 55 "TiltTray$Spot" "at" "[I") (by decide +kernel)) (fun _ h9 => h9) rfl dX2_gatherCells_6 ?_
    refine lv_iload_n hx hb dX2_gatherCells_9 rfl (lv_at hl 2 rfl) ?_
    obtain ⟨g15, h⟩ := og h
    refine va_iald hx hb hE.1 hP (6 + 2 * p2.toNatClampNeg + 1) 0 (pl1 rfl j14) rfl (ix_in g15) dX2_gatherCells_10 ?_
    refine lv_istore (lv' := [(4, .int (((sef p2.toNatClampNeg).1) p1.toNatClampNeg)), (0, .ref seh), (1, .ref trh), (2, .int p1), (3, .int p2)]) hx hb dX2_gatherCells_11 hl (by decide) rfl (fun ls hl => ?_)
    refine lv_iload hx hb dX2_gatherCells_13 (lv_at hl 0 rfl) ?_
    obtain ⟨q16, hq16, h⟩ := ob h
    refine kSN (As := [.int (((sef p2.toNatClampNeg).1) p1.toNatClampNeg)]) (rest := []) (w2 := (cSe seh ser sefH cy.2.2.2.1 seb seo sew ++ (cTr trh tra trb trc cy.1 tr)) ++ cSps sefH sefB cy.1 sef 6) (n := 1) (host := "TiltTray") ⟨hx, hb, hml, hown, hts⟩ (c_X6_isCell l D cy (((sef p2.toNatClampNeg).1) p1.toNatClampNeg) q16 hq16) ggX2_gatherCells_X6_isCell rfl (hE.2.1 (.methodLinkNest RX2 59 yX6_isCell "TiltTray") (by decide +kernel)) (hts (.initialized RX6) (by decide +kernel)) (hts (.static yX6_isCell) (by decide +kernel)) (by decide +kernel) ⟨by rw [hRf]; omega, by rw [hRl]; omega⟩ hE hP hD hS hA [] rfl rfl rfl rfl rfl hl.1 rfl (Nat.le_of_ble_eq_true rfl) dX2_gatherCells_15 ⟨Nat.zero_le _, Nat.zero_le _⟩ (fun H locs hP hD hS => ?_)
    refine lv_if_ne (tgt := 23) hx hb dX2_gatherCells_18 (by decide) (fun c17 => ?_) (fun c17 => ?_)
    · have h := oif h c17
      refine lv_iconst (v := 1) hx hb dX2_gatherCells_23 (by decide) ?_
      refine lv_iload hx hb dX2_gatherCells_24 (lv_at hl 0 rfl) ?_
      refine lv_ishl hx hb dX2_gatherCells_26 ?_
      refine lv_istore (lv' := [(5, .int (1 <<< ((((sef p2.toNatClampNeg).1) p1.toNatClampNeg) &&& 31))), (4, .int (((sef p2.toNatClampNeg).1) p1.toNatClampNeg)), (0, .ref seh), (1, .ref trh), (2, .int p1), (3, .int p2)]) hx hb dX2_gatherCells_27 hl (by decide) rfl (fun ls hl => ?_)
      refine lv_iload_n hx hb dX2_gatherCells_29 rfl (lv_at hl 5 rfl) ?_
      refine lv_iconst (v := 4) hx hb dX2_gatherCells_30 (by decide) ?_
      refine lv_icmp_lt (tgt := 37) hx hb dX2_gatherCells_31 (by decide) (fun c18 => ?_) (fun c18 => ?_)
      · have h := oit h c18
        refine lv_aload_n hx hb dX2_gatherCells_37 rfl (lv_at hl 2 rfl) ?_
        refine va_get (D := D) (ci := 2) (v := .ref ser) (C := RX2) (T := TX2) (N := 4) hx hb hts hiX2 hown hE.1 hP 0 rfl rfl 0 (by decide) (hts (.fieldLink RX2 11 "TiltTray$Search" "level" "[LTiltTray$Spot;") (by decide +kernel)) (fun _ h9 => h9) rfl dX2_gatherCells_38 ?_
        refine lv_iload_n hx hb dX2_gatherCells_41 rfl (lv_at hl 5 rfl) ?_
        refine lv_iconst (v := 1) hx hb dX2_gatherCells_42 (by decide) ?_
        refine lv_iadd hx hb dX2_gatherCells_43 ?_
        obtain ⟨g19, h⟩ := og h
        refine va_aldq hx hb hE.1 hP 1 3 rfl rfl (ix_in g19) dX2_gatherCells_44 ?_
        have j20 : (p2 + 1).toNatClampNeg < 6 := ix_lt g19
        have j21 : (p2 + 1).toNatClampNeg = p2.toNatClampNeg + 1 := ix_succ g13 g19 (by decide)
        refine W.eq (g2 := F0 m 45 ls [.ref (sefH ((p2 + 1).toNatClampNeg))]) rfl ?_
        refine lv_astore (lv' := [(6, .ref (sefH ((p2 + 1).toNatClampNeg))), (5, .int (1 <<< ((((sef p2.toNatClampNeg).1) p1.toNatClampNeg) &&& 31))), (4, .int (((sef p2.toNatClampNeg).1) p1.toNatClampNeg)), (0, .ref seh), (1, .ref trh), (2, .int p1), (3, .int p2)]) hx hb dX2_gatherCells_45 hl (by decide) rfl (fun ls hl => ?_)
        refine lv_iconst (v := 0) hx hb dX2_gatherCells_47 (by decide) ?_
        refine lv_istore (lv' := [(7, .int 0), (6, .ref (sefH ((p2 + 1).toNatClampNeg))), (5, .int (1 <<< ((((sef p2.toNatClampNeg).1) p1.toNatClampNeg) &&& 31))), (4, .int (((sef p2.toNatClampNeg).1) p1.toNatClampNeg)), (0, .ref seh), (1, .ref trh), (2, .int p1), (3, .int p2)]) hx hb dX2_gatherCells_48 hl (by decide) rfl (fun ls hl => ?_)
        exact L50 5 (1 <<< ((((sef p2.toNatClampNeg).1) p1.toNatClampNeg) &&& 31)) 0 sef j20 g19 j21 _ _ _ (lv_sub hl [4, 5, 6, 7, 2, 1, 0] rfl) hP hD hS h
      · have h := oif h c18
        refine lv_iload hx hb dX2_gatherCells_34 (lv_at hl 0 rfl) ?_
        obtain rfl := Option.some.inj h
        rw [hQ]; exact ct_iret hx hb hr hlocks hP hS rfl dX2_gatherCells_36
    · have h := oit h c17
      refine lv_iconst (v := 0) hx hb dX2_gatherCells_21 (by decide) ?_
      obtain rfl := Option.some.inj h
      rw [hQ]; exact ct_iret hx hb hr hlocks hP hS rfl dX2_gatherCells_22

def tw_X2_findReach (sef : Nat → SpS) (seb : Int32) (seo : Int32) (sew : Int32) (tr : TrS) (sp : SpS) (p1 : Int32) : Option (Int32 × (Nat → SpS)) :=
  (tw_X4_take (sef ((0 : Int32).toNatClampNeg)) sp).bind (fun q2 => (tw_X2_gatherCells 6 (va_up sef ((0 : Int32).toNatClampNeg) q2) seb seo sew tr p1 0).bind (fun q3 => some (q3.1, q3.2)))
set_option maxHeartbeats 4000000 in
set_option maxRecDepth 100000 in
theorem c_X2_findReach (l : Launch) (D : va_G) (cy : Cy) (sefH : Nat → Nat) (sefB : Nat → Nat) (seh : Nat) (ser : Nat) (trh : Nat) (tra : Nat) (trb : Nat) (trc : Nat) (sph : Nat) (spa : Nat) (sef : Nat → SpS) (seb : Int32) (seo : Int32) (sew : Int32) (tr : TrS) (sp : SpS) (p1 : Int32) (res : Int32 × (Nat → SpS)) (h : tw_X2_findReach sef seb seo sew tr sp p1 = some res) : Ct l yX2_findReach wsX2_findReach 11 282 D cy [.ref seh, .ref trh, .ref sph, .int p1] ((cSe seh ser sefH cy.2.2.2.1 seb seo sew ++ (cTr trh tra trb trc cy.1 tr ++ (cSp sph spa cy.1 sp))) ++ cSps sefH sefB cy.1 sef 6) ((cSe seh ser sefH cy.2.2.2.1 seb seo sew ++ (cTr trh tra trb trc cy.1 tr ++ (cSp sph spa cy.1 sp))) ++ cSps sefH sefB cy.1 res.2 6) (some (.int res.1)) := by
  refine Ct.ofW (cc := cX2_findReach) (maxL := 4) (ret := (some .int)) (by decide) rfl (Nat.le_of_ble_eq_true rfl) ?_
  intro p e R s m args below meth c A Q ls hRf hRl hQ hx hb hr hml hts hown hlocks hE hP hD hS hA hl
  have hiX2 : ∀ w ∈ u_ws RX2 TX2 4, w ∈ wsX2_findReach := by decide +kernel
  have hl : lv_has ls 4 [(0, .ref seh), (1, .ref trh), (2, .ref sph), (3, .int p1)] := hl
  rw [tw_X2_findReach] at h
  refine lv_aload_n hx hb dX2_findReach_0 rfl (lv_at hl 0 rfl) ?_
  refine va_get (D := D) (ci := 2) (v := .ref ser) (C := RX2) (T := TX2) (N := 4) hx hb hts hiX2 hown hE.1 hP 0 rfl rfl 0 (by decide) (hts (.fieldLink RX2 11 "TiltTray$Search" "level" "[LTiltTray$Spot;") (by decide +kernel)) (fun _ h9 => h9) rfl dX2_findReach_1 ?_
  refine lv_iconst (v := 0) hx hb dX2_findReach_4 (by decide) ?_
  refine va_aldq hx hb hE.1 hP 1 3 rfl rfl (ix_in (by decide)) dX2_findReach_5 ?_
  have j1 : (0 : Int32).toNatClampNeg < 6 := by decide
  refine W.eq (g2 := F0 m 6 ls [.ref (sefH ((0 : Int32).toNatClampNeg))]) rfl ?_
  refine lv_aload_n hx hb dX2_findReach_6 rfl (lv_at hl 2 rfl) ?_
  obtain ⟨q2, hq2, h⟩ := ob h
  refine kV (As := [.ref sph]) (rest := []) (w2 := (cSe seh ser sefH cy.2.2.2.1 seb seo sew ++ (cTr trh tra trb trc cy.1 tr ++ (cSp sph spa cy.1 sp))) ++ cSps sefH sefB cy.1 (va_up sef ((0 : Int32).toNatClampNeg) q2) 6) (n := 1) (q0 := (8 + 2 * ((0 : Int32).toNatClampNeg))) ⟨hx, hb, hml, hown, hts⟩ (c_X4_take l D cy (sefH ((0 : Int32).toNatClampNeg)) (sefB ((0 : Int32).toNatClampNeg)) sph spa (sef ((0 : Int32).toNatClampNeg)) sp q2 hq2) gX2_findReach_X4_take rfl (by decide +kernel) ⟨by rw [hRf]; exact Nat.le_of_ble_eq_true rfl, by rw [hRl]; exact Nat.le_of_ble_eq_true rfl⟩ hE hP hD hS hA [8 + 2 * ((0 : Int32).toNatClampNeg), 8 + 2 * ((0 : Int32).toNatClampNeg) + 1, 6, 7] (by simp [va_nd]; try omega) (cC (pl0 rfl j1) (cC (pl1 rfl j1) (cC rfl (cC rfl rfl)))) rfl (Eq.trans (b := ups ((cSe seh ser sefH cy.2.2.2.1 seb seo sew ++ (cTr trh tra trb trc cy.1 tr ++ (cSp sph spa cy.1 sp))) ++ cSps sefH sefB cy.1 (va_up sef ((0 : Int32).toNatClampNeg) q2) 6) ([6, 7]) (cSp sph spa cy.1 sp ++ (([] : va_W)))) (ups_pool rfl j1) (Eq.trans (b := ups ((cSe seh ser sefH cy.2.2.2.1 seb seo sew ++ (cTr trh tra trb trc cy.1 tr ++ (cSp sph spa cy.1 sp))) ++ cSps sefH sefB cy.1 (va_up sef ((0 : Int32).toNatClampNeg) q2) 6) ([]) (([] : va_W))) rfl rfl)) (pl0 rfl j1) rfl rfl hl.1 rfl (Nat.le_of_ble_eq_true rfl) dX2_findReach_7 ⟨Nat.zero_le _, Nat.zero_le _⟩ (fun H locs hP hD hS => ?_)
  refine lv_aload_n hx hb dX2_findReach_10 rfl (lv_at hl 0 rfl) ?_
  refine lv_aload_n hx hb dX2_findReach_11 rfl (lv_at hl 1 rfl) ?_
  refine lv_iload_n hx hb dX2_findReach_12 rfl (lv_at hl 3 rfl) ?_
  refine lv_iconst (v := 0) hx hb dX2_findReach_13 (by decide) ?_
  obtain ⟨q3, hq3, h⟩ := ob h
  refine kV (As := [.ref trh, .int p1, .int 0]) (rest := []) (w2 := (cSe seh ser sefH cy.2.2.2.1 seb seo sew ++ (cTr trh tra trb trc cy.1 tr ++ (cSp sph spa cy.1 sp))) ++ cSps sefH sefB cy.1 q3.2 6) (n := 3) (q0 := 0) ⟨hx, hb, hml, hown, hts⟩ (c_X2_gatherCells l D cy sefH sefB seh ser trh tra trb trc 6 (va_up sef ((0 : Int32).toNatClampNeg) q2) seb seo sew tr p1 0 q3 hq3) gX2_findReach_X2_gatherCells rfl (by decide +kernel) ⟨by rw [hRf]; exact Nat.le_of_ble_eq_true rfl, by rw [hRl]; exact Nat.le_of_ble_eq_true rfl⟩ hE hP hD hS hA ([0, 1, 2, 3, 4, 5] ++ rng 8 12) (by decide +kernel) (blkC rfl rfl) (blkA rfl) (blkU rfl rfl rfl) rfl rfl rfl hl.1 rfl (Nat.le_of_ble_eq_true rfl) dX2_findReach_14 ⟨Nat.zero_le _, Nat.zero_le _⟩ (fun H locs hP hD hS => ?_)
  obtain rfl := Option.some.inj h
  rw [hQ]; exact ct_iret hx hb hr hlocks hP hS rfl dX2_findReach_17

def tw_X2_seekMost_56 (rc : (Nat → SpS) → Int32 → Int32 → Int32 → TrS → Int32 → Int32 → Int32 → Option ((Nat → SpS) × Int32 × Int32)) (seb : Int32) (tr : TrS) (p1 : Int32) (p2 : Int32) (p3 : Int32) : Nat → Int32 → (Nat → SpS) → Int32 → Int32 → Option ((Nat → SpS) × Int32 × Int32)
  | 0, _, _, _, _ => none
  | n + 1, x6, sef, seo, sew =>
    if 4 ≤ x6 then (some (sef, seo, sew)) else (if seb ≤ seo then (some (sef, seo, sew)) else (if ix p2 6 = true then ((tw_X4_take (sef ((p2 + 1).toNatClampNeg)) (sef p2.toNatClampNeg)).bind (fun q6 => (tw_X5_roll tr ((va_up sef ((p2 + 1).toNatClampNeg) q6) ((p2 + 1).toNatClampNeg)) x6).bind (fun q7 => (rc (va_up (va_up sef ((p2 + 1).toNatClampNeg) q6) ((p2 + 1).toNatClampNeg) q7) seb seo sew tr p1 (p2 + 1) (((p3 * 10) + x6) + 1)).bind (fun q8 => (tw_X2_seekMost_56 rc seb tr p1 p2 p3 n) (x6 + 1) q8.1 q8.2.1 q8.2.2)))) else none))
def tw_X2_seekMost_10 (rc : (Nat → SpS) → Int32 → Int32 → Int32 → TrS → Int32 → Int32 → Int32 → Option ((Nat → SpS) × Int32 × Int32)) (seb : Int32) (tr : TrS) (p1 : Int32) (p2 : Int32) (p3 : Int32) (sef : Nat → SpS) (seo : Int32) (sew : Int32) : Option ((Nat → SpS) × Int32 × Int32) :=
  if ix p2 6 = true then ((tw_X4_fallen (sef p2.toNatClampNeg)).bind (fun q11 => if q11 ≤ seo then (some (sef, seo, sew)) else (some (sef, q11, p3)))) else none
def tw_X2_seekMost : Nat → (Nat → SpS) → Int32 → Int32 → Int32 → TrS → Int32 → Int32 → Int32 → Option ((Nat → SpS) × Int32 × Int32)
  | 0, _, _, _, _, _, _, _, _ => none
  | nr + 1, sef, seb, seo, sew, tr, p1, p2, p3 =>
    if p1 ≤ p2 then (tw_X2_seekMost_10 (tw_X2_seekMost nr) seb tr p1 p2 p3 sef seo sew) else (if p2 < 4 then (if ix (p2 + 1) 6 = true then (tw_X2_seekMost_56 (tw_X2_seekMost nr) seb tr p1 p2 p3 5 0 sef seo sew) else none) else (tw_X2_seekMost_10 (tw_X2_seekMost nr) seb tr p1 p2 p3 sef seo sew))
set_option maxHeartbeats 4000000 in
set_option maxRecDepth 100000 in
theorem c_X2_seekMost (l : Launch) (D : va_G) (cy : Cy) (sefH : Nat → Nat) (sefB : Nat → Nat) (seh : Nat) (ser : Nat) (trh : Nat) (tra : Nat) (trb : Nat) (trc : Nat) : ∀ (nr : Nat) (sef : Nat → SpS) (seb : Int32) (seo : Int32) (sew : Int32) (tr : TrS) (p1 : Int32) (p2 : Int32) (p3 : Int32) (res : (Nat → SpS) × Int32 × Int32) (h : tw_X2_seekMost nr sef seb seo sew tr p1 p2 p3 = some res), Ct l yX2_seekMost wsX2_seekMost (4 + nr) (93 + 26 * nr) D cy [.ref seh, .ref trh, .int p1, .int p2, .int p3] ((cSe seh ser sefH cy.2.2.2.1 seb seo sew ++ (cTr trh tra trb trc cy.1 tr)) ++ cSps sefH sefB cy.1 sef 6) ((cSe seh ser sefH cy.2.2.2.1 seb res.2.1 res.2.2 ++ (cTr trh tra trb trc cy.1 tr)) ++ cSps sefH sefB cy.1 res.1 6) (none) := by
  intro nr
  induction nr with
  | zero =>
    intro sef seb seo sew tr p1 p2 p3 res h
    exact absurd h (by rw [tw_X2_seekMost]; exact fun q => by cases q)
  | succ nr ih =>
    intro sef seb seo sew tr p1 p2 p3 res h
    refine Ct.ofW (cc := cX2_seekMost) (maxL := 7) (ret := none) (by decide) rfl (Nat.le_of_ble_eq_true rfl) ?_
    intro p e R s m args below meth c A Q ls hRf hRl hQ hx hb hr hml hts hown hlocks hE hP hD hS hA hl
    have hiX2 : ∀ w ∈ u_ws RX2 TX2 4, w ∈ wsX2_seekMost := by decide +kernel
    have hl : lv_has ls 7 [(0, .ref seh), (1, .ref trh), (2, .int p1), (3, .int p2), (4, .int p3)] := hl
    rw [tw_X2_seekMost] at h
    have L56 : ∀ (n : Nat) (x6 : Int32) (sef : Nat → SpS) (seo : Int32) (sew : Int32) (j31 : (p2 + 1).toNatClampNeg < 6) (g30 : ix (p2 + 1) 6 = true) (H : Heap) (locs : List Loc) (ls : Array Slot), lv_has ls 7 [(0, .ref seh), (1, .ref trh), (2, .int p1), (3, .int p2), (4, .int p3), (5, .ref (sefH ((p2 + 1).toNatClampNeg))), (6, .int x6)] → va_P D vwCl ((cSe seh ser sefH cy.2.2.2.1 seb seo sew ++ (cTr trh tra trb trc cy.1 tr)) ++ cSps sefH sefB cy.1 sef 6) H → va_D A ((cSe seh ser sefH cy.2.2.2.1 seb seo sew ++ (cTr trh tra trb trc cy.1 tr)) ++ cSps sefH sefB cy.1 sef 6) → va_S A s.heap H locs → tw_X2_seekMost_56 (tw_X2_seekMost nr) seb tr p1 p2 p3 n x6 sef seo sew = some res → W p l e R s m args below meth c H locs 0 0 Q (F0 m 56 ls []) := by
      intro n56
      induction n56 with
      | zero =>
        intro x6 sef seo sew j31 g30 H locs ls hl hP hD hS h
        exact absurd h (by rw [tw_X2_seekMost_56]; exact fun q => by cases q)
      | succ n56 ih56 =>
        intro x6 sef seo sew j31 g30 H locs ls hl hP hD hS h
        rw [tw_X2_seekMost_56] at h
        refine lv_iload hx hb dX2_seekMost_56 (lv_at hl 6 rfl) ?_
        refine lv_iconst (v := 4) hx hb dX2_seekMost_58 (by decide) ?_
        refine lv_icmp_ge (tgt := 117) hx hb dX2_seekMost_59 (by decide) (fun c1 => ?_) (fun c1 => ?_)
        · have h := oit h c1
          obtain rfl := Option.some.inj h
          rw [hQ]; exact ct_vret hx hb hr hlocks hP hS rfl dX2_seekMost_117
        · have h := oif h c1
          refine lv_aload_n hx hb dX2_seekMost_62 rfl (lv_at hl 0 rfl) ?_
          refine va_get (D := D) (ci := 2) (v := .int seo) (C := RX2) (T := TX2) (N := 4) hx hb hts hiX2 hown hE.1 hP 0 rfl rfl 2 (by decide) (hts (.fieldLink RX2 22 "TiltTray$Search" "found" "I") (by decide +kernel)) (fun _ h9 => h9) rfl dX2_seekMost_63 ?_
          refine lv_aload_n hx hb dX2_seekMost_66 rfl (lv_at hl 0 rfl) ?_
          refine va_get (D := D) (ci := 2) (v := .int seb) (C := RX2) (T := TX2) (N := 4) hx hb hts hiX2 hown hE.1 hP 0 rfl rfl 1 (by decide) (hts (.fieldLink RX2 66 "TiltTray$Search" "bound" "I") (by decide +kernel)) (fun _ h9 => h9) rfl dX2_seekMost_67 ?_
          refine lv_icmp_ge (tgt := 117) hx hb dX2_seekMost_70 (by decide) (fun c2 => ?_) (fun c2 => ?_)
          · have h := oit h c2
            obtain rfl := Option.some.inj h
            rw [hQ]; exact ct_vret hx hb hr hlocks hP hS rfl dX2_seekMost_117
          · have h := oif h c2
            refine lv_aload hx hb dX2_seekMost_73 (lv_at hl 5 rfl) ?_
            refine lv_aload_n hx hb dX2_seekMost_75 rfl (lv_at hl 0 rfl) ?_
            refine va_get (D := D) (ci := 2) (v := .ref ser) (C := RX2) (T := TX2) (N := 4) hx hb hts hiX2 hown hE.1 hP 0 rfl rfl 0 (by decide) (hts (.fieldLink RX2 11 "TiltTray$Search" "level" "[LTiltTray$Spot;") (by decide +kernel)) (fun _ h9 => h9) rfl dX2_seekMost_76 ?_
            refine lv_iload_n hx hb dX2_seekMost_79 rfl (lv_at hl 3 rfl) ?_
            obtain ⟨g3, h⟩ := og h
            refine va_aldq hx hb hE.1 hP 1 3 rfl rfl (ix_in g3) dX2_seekMost_80 ?_
            have j4 : p2.toNatClampNeg < 6 := ix_lt g3
            have j5 : (p2 + 1).toNatClampNeg = p2.toNatClampNeg + 1 := ix_succ g3 g30 (by decide)
            refine W.eq (g2 := F0 m 81 ls [.ref (sefH p2.toNatClampNeg), .ref (sefH ((p2 + 1).toNatClampNeg))]) rfl ?_
            obtain ⟨q6, hq6, h⟩ := ob h
            refine kV (As := [.ref (sefH p2.toNatClampNeg)]) (rest := []) (w2 := (cSe seh ser sefH cy.2.2.2.1 seb seo sew ++ (cTr trh tra trb trc cy.1 tr)) ++ cSps sefH sefB cy.1 (va_up sef ((p2 + 1).toNatClampNeg) q6) 6) (n := 1) (q0 := (6 + 2 * ((p2 + 1).toNatClampNeg))) ⟨hx, hb, hml, hown, hts⟩ (c_X4_take l D cy (sefH ((p2 + 1).toNatClampNeg)) (sefB ((p2 + 1).toNatClampNeg)) (sefH p2.toNatClampNeg) (sefB p2.toNatClampNeg) (sef ((p2 + 1).toNatClampNeg)) (sef p2.toNatClampNeg) q6 hq6) gX2_seekMost_X4_take rfl (by decide +kernel) ⟨by rw [hRf]; omega, by rw [hRl]; omega⟩ hE hP hD hS hA [6 + 2 * ((p2 + 1).toNatClampNeg), 6 + 2 * ((p2 + 1).toNatClampNeg) + 1, 6 + 2 * p2.toNatClampNeg, 6 + 2 * p2.toNatClampNeg + 1] (by simp [va_nd]; try omega) (cC (pl0 rfl j31) (cC (pl1 rfl j31) (cC (pl0 rfl j4) (cC (pl1 rfl j4) rfl)))) rfl (Eq.trans (b := ups ((cSe seh ser sefH cy.2.2.2.1 seb seo sew ++ (cTr trh tra trb trc cy.1 tr)) ++ cSps sefH sefB cy.1 (va_up sef ((p2 + 1).toNatClampNeg) q6) 6) ([6 + 2 * p2.toNatClampNeg, 6 + 2 * p2.toNatClampNeg + 1]) (cSp (sefH p2.toNatClampNeg) (sefB p2.toNatClampNeg) cy.1 (sef p2.toNatClampNeg) ++ (([] : va_W)))) (ups_pool rfl j31) (Eq.trans (b := ups ((cSe seh ser sefH cy.2.2.2.1 seb seo sew ++ (cTr trh tra trb trc cy.1 tr)) ++ cSps sefH sefB cy.1 (va_up sef ((p2 + 1).toNatClampNeg) q6) 6) ([]) (([] : va_W))) (ups_poolN rfl j4 (by omega)) rfl)) (pl0 rfl j31) rfl rfl hl.1 rfl (Nat.le_of_ble_eq_true rfl) dX2_seekMost_81 ⟨Nat.zero_le _, Nat.zero_le _⟩ (fun H locs hP hD hS => ?_)
            refine lv_aload_n hx hb dX2_seekMost_84 rfl (lv_at hl 1 rfl) ?_
            refine lv_aload hx hb dX2_seekMost_85 (lv_at hl 5 rfl) ?_
            refine lv_iload hx hb dX2_seekMost_87 (lv_at hl 6 rfl) ?_
            obtain ⟨q7, hq7, h⟩ := ob h
            refine kV (As := [.ref (sefH ((p2 + 1).toNatClampNeg)), .int x6]) (rest := []) (w2 := (cSe seh ser sefH cy.2.2.2.1 seb seo sew ++ (cTr trh tra trb trc cy.1 tr)) ++ cSps sefH sefB cy.1 (va_up (va_up sef ((p2 + 1).toNatClampNeg) q6) ((p2 + 1).toNatClampNeg) q7) 6) (n := 2) (q0 := 2) ⟨hx, hb, hml, hown, hts⟩ (c_X5_roll l D cy trh tra trb trc (sefH ((p2 + 1).toNatClampNeg)) (sefB ((p2 + 1).toNatClampNeg)) tr ((va_up sef ((p2 + 1).toNatClampNeg) q6) ((p2 + 1).toNatClampNeg)) x6 q7 hq7) gX2_seekMost_X5_roll rfl (by decide +kernel) ⟨by rw [hRf]; omega, by rw [hRl]; omega⟩ hE hP hD hS hA [2, 3, 4, 5, 6 + 2 * ((p2 + 1).toNatClampNeg), 6 + 2 * ((p2 + 1).toNatClampNeg) + 1] (by simp [va_nd]; try omega) (cC rfl (cC rfl (cC rfl (cC rfl (cC (pl0 rfl j31) (cC (pl1 rfl j31) rfl)))))) rfl (Eq.trans (b := ups ((cSe seh ser sefH cy.2.2.2.1 seb seo sew ++ (cTr trh tra trb trc cy.1 tr)) ++ cSps sefH sefB cy.1 (va_up sef ((p2 + 1).toNatClampNeg) q6) 6) ([6 + 2 * ((p2 + 1).toNatClampNeg), 6 + 2 * ((p2 + 1).toNatClampNeg) + 1]) (cSp (sefH ((p2 + 1).toNatClampNeg)) (sefB ((p2 + 1).toNatClampNeg)) cy.1 q7 ++ (([] : va_W)))) rfl (Eq.trans (b := ups ((cSe seh ser sefH cy.2.2.2.1 seb seo sew ++ (cTr trh tra trb trc cy.1 tr)) ++ cSps sefH sefB cy.1 (va_up (va_up sef ((p2 + 1).toNatClampNeg) q6) ((p2 + 1).toNatClampNeg) q7) 6) ([]) (([] : va_W))) (ups_pool rfl j31) rfl)) rfl rfl rfl hl.1 rfl (Nat.le_of_ble_eq_true rfl) dX2_seekMost_89 ⟨Nat.zero_le _, Nat.zero_le _⟩ (fun H locs hP hD hS => ?_)
            refine lv_aload_n hx hb dX2_seekMost_92 rfl (lv_at hl 0 rfl) ?_
            refine lv_aload_n hx hb dX2_seekMost_93 rfl (lv_at hl 1 rfl) ?_
            refine lv_iload_n hx hb dX2_seekMost_94 rfl (lv_at hl 2 rfl) ?_
            refine lv_iload_n hx hb dX2_seekMost_95 rfl (lv_at hl 3 rfl) ?_
            refine lv_iconst (v := 1) hx hb dX2_seekMost_96 (by decide) ?_
            refine lv_iadd hx hb dX2_seekMost_97 ?_
            refine lv_iload hx hb dX2_seekMost_98 (lv_at hl 4 rfl) ?_
            refine lv_bipush (v := 10) hx hb dX2_seekMost_100 (by decide) ?_
            refine lv_imul hx hb dX2_seekMost_102 ?_
            refine lv_iload hx hb dX2_seekMost_103 (lv_at hl 6 rfl) ?_
            refine lv_iadd hx hb dX2_seekMost_105 ?_
            refine lv_iconst (v := 1) hx hb dX2_seekMost_106 (by decide) ?_
            refine lv_iadd hx hb dX2_seekMost_107 ?_
            obtain ⟨q8, hq8, h⟩ := ob h
            refine kV (As := [.ref trh, .int p1, .int (p2 + 1), .int (((p3 * 10) + x6) + 1)]) (rest := []) (w2 := (cSe seh ser sefH cy.2.2.2.1 seb q8.2.1 q8.2.2 ++ (cTr trh tra trb trc cy.1 tr)) ++ cSps sefH sefB cy.1 q8.1 6) (n := 4) (q0 := 0) ⟨hx, hb, hml, hown, hts⟩ (ih (va_up (va_up sef ((p2 + 1).toNatClampNeg) q6) ((p2 + 1).toNatClampNeg) q7) seb seo sew tr p1 (p2 + 1) (((p3 * 10) + x6) + 1) q8 hq8) gX2_seekMost_X2_seekMost rfl (by decide +kernel) ⟨by rw [hRf]; omega, by rw [hRl]; omega⟩ hE hP hD hS hA ([0, 1, 2, 3, 4, 5] ++ rng 6 12) (by decide +kernel) (blkC rfl rfl) (blkA rfl) (blkU rfl rfl rfl) rfl rfl rfl hl.1 rfl (Nat.le_of_ble_eq_true rfl) dX2_seekMost_108 ⟨Nat.zero_le _, Nat.zero_le _⟩ (fun H locs hP hD hS => ?_)
            refine lv_iinc (v := x6 + 1) (lv' := [(6, .int (x6 + 1)), (0, .ref seh), (1, .ref trh), (2, .int p1), (3, .int p2), (4, .int p3), (5, .ref (sefH ((p2 + 1).toNatClampNeg)))]) hx hb dX2_seekMost_111 hl (k := 6) rfl rfl (by decide) rfl (fun ls hl => ?_)
            refine lv_goto (tgt := 56) hx hb dX2_seekMost_114 (by decide) ?_
            exact ih56 (x6 + 1) q8.1 q8.2.1 q8.2.2 j31 g30 _ _ _ (lv_sub hl [1, 2, 3, 4, 5, 6, 0] rfl) hP hD hS h
    have L10 : ∀ (sef : Nat → SpS) (seo : Int32) (sew : Int32)  (H : Heap) (locs : List Loc) (ls : Array Slot), lv_has ls 7 [(0, .ref seh), (3, .int p2), (4, .int p3)] → va_P D vwCl ((cSe seh ser sefH cy.2.2.2.1 seb seo sew ++ (cTr trh tra trb trc cy.1 tr)) ++ cSps sefH sefB cy.1 sef 6) H → va_D A ((cSe seh ser sefH cy.2.2.2.1 seb seo sew ++ (cTr trh tra trb trc cy.1 tr)) ++ cSps sefH sefB cy.1 sef 6) → va_S A s.heap H locs → tw_X2_seekMost_10 (tw_X2_seekMost nr) seb tr p1 p2 p3 sef seo sew = some res → W p l e R s m args below meth c H locs 0 0 Q (F0 m 10 ls []) := by
      intro sef seo sew  H locs ls hl hP hD hS h
      rw [tw_X2_seekMost_10] at h
      refine lv_aload_n hx hb dX2_seekMost_10 rfl (lv_at hl 0 rfl) ?_
      refine va_get (D := D) (ci := 2) (v := .ref ser) (C := RX2) (T := TX2) (N := 4) hx hb hts hiX2 hown hE.1 hP 0 rfl rfl 0 (by decide) (hts (.fieldLink RX2 11 "TiltTray$Search" "level" "[LTiltTray$Spot;") (by decide +kernel)) (fun _ h9 => h9) rfl dX2_seekMost_11 ?_
      refine lv_iload_n hx hb dX2_seekMost_14 rfl (lv_at hl 1 rfl) ?_
      obtain ⟨g9, h⟩ := og h
      refine va_aldq hx hb hE.1 hP 1 3 rfl rfl (ix_in g9) dX2_seekMost_15 ?_
      have j10 : p2.toNatClampNeg < 6 := ix_lt g9
      refine W.eq (g2 := F0 m 16 ls [.ref (sefH p2.toNatClampNeg)]) rfl ?_
      obtain ⟨q11, hq11, h⟩ := ob h
      refine kV (As := []) (rest := []) (w2 := (cSe seh ser sefH cy.2.2.2.1 seb seo sew ++ (cTr trh tra trb trc cy.1 tr)) ++ cSps sefH sefB cy.1 sef 6) (n := 0) (q0 := (6 + 2 * p2.toNatClampNeg)) ⟨hx, hb, hml, hown, hts⟩ (c_X4_fallen l D cy (sefH p2.toNatClampNeg) (sefB p2.toNatClampNeg) (sef p2.toNatClampNeg) q11 hq11) gX2_seekMost_X4_fallen rfl (by decide +kernel) ⟨by rw [hRf]; omega, by rw [hRl]; omega⟩ hE hP hD hS hA [6 + 2 * p2.toNatClampNeg, 6 + 2 * p2.toNatClampNeg + 1] (by simp [va_nd]; try omega) (cC (pl0 rfl j10) (cC (pl1 rfl j10) rfl)) rfl (Eq.trans (b := ups ((cSe seh ser sefH cy.2.2.2.1 seb seo sew ++ (cTr trh tra trb trc cy.1 tr)) ++ cSps sefH sefB cy.1 sef 6) ([]) (([] : va_W))) (ups_poolS rfl j10) rfl) (pl0 rfl j10) rfl rfl hl.1 rfl (Nat.le_of_ble_eq_true rfl) dX2_seekMost_16 ⟨Nat.zero_le _, Nat.zero_le _⟩ (fun H locs hP hD hS => ?_)
      refine lv_istore (lv' := [(5, .int q11), (0, .ref seh), (3, .int p2), (4, .int p3)]) hx hb dX2_seekMost_19 hl (by decide) rfl (fun ls hl => ?_)
      refine lv_iload hx hb dX2_seekMost_21 (lv_at hl 0 rfl) ?_
      refine lv_aload_n hx hb dX2_seekMost_23 rfl (lv_at hl 1 rfl) ?_
      refine va_get (D := D) (ci := 2) (v := .int seo) (C := RX2) (T := TX2) (N := 4) hx hb hts hiX2 hown hE.1 hP 0 rfl rfl 2 (by decide) (hts (.fieldLink RX2 22 "TiltTray$Search" "found" "I") (by decide +kernel)) (fun _ h9 => h9) rfl dX2_seekMost_24 ?_
      refine lv_icmp_le (tgt := 42) hx hb dX2_seekMost_27 (by decide) (fun c12 => ?_) (fun c12 => ?_)
      · have h := oit h c12
        obtain rfl := Option.some.inj h
        rw [hQ]; exact ct_vret hx hb hr hlocks hP hS rfl dX2_seekMost_42
      · have h := oif h c12
        refine lv_aload_n hx hb dX2_seekMost_30 rfl (lv_at hl 1 rfl) ?_
        refine lv_iload hx hb dX2_seekMost_31 (lv_at hl 0 rfl) ?_
        refine va_put (D := D) (ci := 2) (v := .int q11) (ty := .int) (C := RX2) (T := TX2) (N := 4) hx hb hts hiX2 tyX2 tyX2_ok nmX2 hown hE.1 hP hD hS 0 rfl rfl 2 (by decide) (hts (.fieldLink RX2 22 "TiltTray$Search" "found" "I") (by decide +kernel)) (fun _ h9 => h9) rfl (by decide +kernel) rfl rfl (Nat.le_of_ble_eq_true rfl) dX2_seekMost_33 (fun H locs hP hD hS => ?_)
        have hP : va_P D vwCl ((cSe seh ser sefH cy.2.2.2.1 seb q11 sew ++ (cTr trh tra trb trc cy.1 tr)) ++ cSps sefH sefB cy.1 sef 6) H := hP
        have hD : va_D A ((cSe seh ser sefH cy.2.2.2.1 seb q11 sew ++ (cTr trh tra trb trc cy.1 tr)) ++ cSps sefH sefB cy.1 sef 6) := hD
        refine lv_aload_n hx hb dX2_seekMost_36 rfl (lv_at hl 1 rfl) ?_
        refine lv_iload hx hb dX2_seekMost_37 (lv_at hl 3 rfl) ?_
        refine va_put (D := D) (ci := 2) (v := .int p3) (ty := .int) (C := RX2) (T := TX2) (N := 4) hx hb hts hiX2 tyX2 tyX2_ok nmX2 hown hE.1 hP hD hS 0 rfl rfl 3 (by decide) (hts (.fieldLink RX2 26 "TiltTray$Search" "row" "I") (by decide +kernel)) (fun _ h9 => h9) rfl (by decide +kernel) rfl rfl (Nat.le_of_ble_eq_true rfl) dX2_seekMost_39 (fun H locs hP hD hS => ?_)
        have hP : va_P D vwCl ((cSe seh ser sefH cy.2.2.2.1 seb q11 p3 ++ (cTr trh tra trb trc cy.1 tr)) ++ cSps sefH sefB cy.1 sef 6) H := hP
        have hD : va_D A ((cSe seh ser sefH cy.2.2.2.1 seb q11 p3 ++ (cTr trh tra trb trc cy.1 tr)) ++ cSps sefH sefB cy.1 sef 6) := hD
        obtain rfl := Option.some.inj h
        rw [hQ]; exact ct_vret hx hb hr hlocks hP hS rfl dX2_seekMost_42
    refine lv_iload_n hx hb dX2_seekMost_0 rfl (lv_at hl 3 rfl) ?_
    refine lv_iload_n hx hb dX2_seekMost_1 rfl (lv_at hl 2 rfl) ?_
    refine lv_icmp_ge (tgt := 10) hx hb dX2_seekMost_2 (by decide) (fun c13 => ?_) (fun c13 => ?_)
    · have h := oit h c13
      exact L10 sef seo sew _ _ _ (lv_sub hl [0, 3, 4] rfl) hP hD hS h
    · have h := oif h c13
      refine lv_iload_n hx hb dX2_seekMost_5 rfl (lv_at hl 3 rfl) ?_
      refine lv_iconst (v := 4) hx hb dX2_seekMost_6 (by decide) ?_
      refine lv_icmp_lt (tgt := 43) hx hb dX2_seekMost_7 (by decide) (fun c14 => ?_) (fun c14 => ?_)
      · have h := oit h c14
        refine lv_aload_n hx hb dX2_seekMost_43 rfl (lv_at hl 0 rfl) ?_
        refine va_get (D := D) (ci := 2) (v := .ref ser) (C := RX2) (T := TX2) (N := 4) hx hb hts hiX2 hown hE.1 hP 0 rfl rfl 0 (by decide) (hts (.fieldLink RX2 11 "TiltTray$Search" "level" "[LTiltTray$Spot;") (by decide +kernel)) (fun _ h9 => h9) rfl dX2_seekMost_44 ?_
        refine lv_iload_n hx hb dX2_seekMost_47 rfl (lv_at hl 3 rfl) ?_
        refine lv_iconst (v := 1) hx hb dX2_seekMost_48 (by decide) ?_
        refine lv_iadd hx hb dX2_seekMost_49 ?_
        obtain ⟨g15, h⟩ := og h
        refine va_aldq hx hb hE.1 hP 1 3 rfl rfl (ix_in g15) dX2_seekMost_50 ?_
        have j16 : (p2 + 1).toNatClampNeg < 6 := ix_lt g15
        refine W.eq (g2 := F0 m 51 ls [.ref (sefH ((p2 + 1).toNatClampNeg))]) rfl ?_
        refine lv_astore (lv' := [(5, .ref (sefH ((p2 + 1).toNatClampNeg))), (0, .ref seh), (1, .ref trh), (2, .int p1), (3, .int p2), (4, .int p3)]) hx hb dX2_seekMost_51 hl (by decide) rfl (fun ls hl => ?_)
        refine lv_iconst (v := 0) hx hb dX2_seekMost_53 (by decide) ?_
        refine lv_istore (lv' := [(6, .int 0), (5, .ref (sefH ((p2 + 1).toNatClampNeg))), (0, .ref seh), (1, .ref trh), (2, .int p1), (3, .int p2), (4, .int p3)]) hx hb dX2_seekMost_54 hl (by decide) rfl (fun ls hl => ?_)
        exact L56 5 0 sef seo sew j16 g15 _ _ _ (lv_sub hl [2, 3, 4, 5, 6, 1, 0] rfl) hP hD hS h
      · have h := oif h c14
        exact L10 sef seo sew _ _ _ (lv_sub hl [0, 3, 4] rfl) hP hD hS h

def tw_X2_findBest (sef : Nat → SpS) (seb : Int32) (seo : Int32) (sew : Int32) (tr : TrS) (sp : SpS) (p1 : Int32) : Option ((Nat → SpS) × Int32 × Int32 × Int32) :=
  (tw_X4_take (sef ((0 : Int32).toNatClampNeg)) sp).bind (fun q2 => (tw_X2_mostThatFall tr sp).bind (fun q3 => (tw_X2_seekMost 6 (va_up sef ((0 : Int32).toNatClampNeg) q2) q3 (-1) 0 tr p1 0 0).bind (fun q4 => some (q4.1, q3, q4.2.1, q4.2.2))))
set_option maxHeartbeats 4000000 in
set_option maxRecDepth 100000 in
theorem c_X2_findBest (l : Launch) (D : va_G) (cy : Cy) (sefH : Nat → Nat) (sefB : Nat → Nat) (seh : Nat) (ser : Nat) (trh : Nat) (tra : Nat) (trb : Nat) (trc : Nat) (sph : Nat) (spa : Nat) (sef : Nat → SpS) (seb : Int32) (seo : Int32) (sew : Int32) (tr : TrS) (sp : SpS) (p1 : Int32) (res : (Nat → SpS) × Int32 × Int32 × Int32) (h : tw_X2_findBest sef seb seo sew tr sp p1 = some res) : Ct l yX2_findBest wsX2_findBest 11 275 D cy [.ref seh, .ref trh, .ref sph, .int p1] ((cSe seh ser sefH cy.2.2.2.1 seb seo sew ++ (cTr trh tra trb trc cy.1 tr ++ (cSp sph spa cy.1 sp))) ++ cSps sefH sefB cy.1 sef 6) ((cSe seh ser sefH cy.2.2.2.1 res.2.1 res.2.2.1 res.2.2.2 ++ (cTr trh tra trb trc cy.1 tr ++ (cSp sph spa cy.1 sp))) ++ cSps sefH sefB cy.1 res.1 6) (none) := by
  refine Ct.ofW (cc := cX2_findBest) (maxL := 4) (ret := none) (by decide) rfl (Nat.le_of_ble_eq_true rfl) ?_
  intro p e R s m args below meth c A Q ls hRf hRl hQ hx hb hr hml hts hown hlocks hE hP hD hS hA hl
  have hiX2 : ∀ w ∈ u_ws RX2 TX2 4, w ∈ wsX2_findBest := by decide +kernel
  have hl : lv_has ls 4 [(0, .ref seh), (1, .ref trh), (2, .ref sph), (3, .int p1)] := hl
  rw [tw_X2_findBest] at h
  refine lv_aload_n hx hb dX2_findBest_0 rfl (lv_at hl 0 rfl) ?_
  refine va_get (D := D) (ci := 2) (v := .ref ser) (C := RX2) (T := TX2) (N := 4) hx hb hts hiX2 hown hE.1 hP 0 rfl rfl 0 (by decide) (hts (.fieldLink RX2 11 "TiltTray$Search" "level" "[LTiltTray$Spot;") (by decide +kernel)) (fun _ h9 => h9) rfl dX2_findBest_1 ?_
  refine lv_iconst (v := 0) hx hb dX2_findBest_4 (by decide) ?_
  refine va_aldq hx hb hE.1 hP 1 3 rfl rfl (ix_in (by decide)) dX2_findBest_5 ?_
  have j1 : (0 : Int32).toNatClampNeg < 6 := by decide
  refine W.eq (g2 := F0 m 6 ls [.ref (sefH ((0 : Int32).toNatClampNeg))]) rfl ?_
  refine lv_aload_n hx hb dX2_findBest_6 rfl (lv_at hl 2 rfl) ?_
  obtain ⟨q2, hq2, h⟩ := ob h
  refine kV (As := [.ref sph]) (rest := []) (w2 := (cSe seh ser sefH cy.2.2.2.1 seb seo sew ++ (cTr trh tra trb trc cy.1 tr ++ (cSp sph spa cy.1 sp))) ++ cSps sefH sefB cy.1 (va_up sef ((0 : Int32).toNatClampNeg) q2) 6) (n := 1) (q0 := (8 + 2 * ((0 : Int32).toNatClampNeg))) ⟨hx, hb, hml, hown, hts⟩ (c_X4_take l D cy (sefH ((0 : Int32).toNatClampNeg)) (sefB ((0 : Int32).toNatClampNeg)) sph spa (sef ((0 : Int32).toNatClampNeg)) sp q2 hq2) gX2_findBest_X4_take rfl (by decide +kernel) ⟨by rw [hRf]; exact Nat.le_of_ble_eq_true rfl, by rw [hRl]; exact Nat.le_of_ble_eq_true rfl⟩ hE hP hD hS hA [8 + 2 * ((0 : Int32).toNatClampNeg), 8 + 2 * ((0 : Int32).toNatClampNeg) + 1, 6, 7] (by simp [va_nd]; try omega) (cC (pl0 rfl j1) (cC (pl1 rfl j1) (cC rfl (cC rfl rfl)))) rfl (Eq.trans (b := ups ((cSe seh ser sefH cy.2.2.2.1 seb seo sew ++ (cTr trh tra trb trc cy.1 tr ++ (cSp sph spa cy.1 sp))) ++ cSps sefH sefB cy.1 (va_up sef ((0 : Int32).toNatClampNeg) q2) 6) ([6, 7]) (cSp sph spa cy.1 sp ++ (([] : va_W)))) (ups_pool rfl j1) (Eq.trans (b := ups ((cSe seh ser sefH cy.2.2.2.1 seb seo sew ++ (cTr trh tra trb trc cy.1 tr ++ (cSp sph spa cy.1 sp))) ++ cSps sefH sefB cy.1 (va_up sef ((0 : Int32).toNatClampNeg) q2) 6) ([]) (([] : va_W))) rfl rfl)) (pl0 rfl j1) rfl rfl hl.1 rfl (Nat.le_of_ble_eq_true rfl) dX2_findBest_7 ⟨Nat.zero_le _, Nat.zero_le _⟩ (fun H locs hP hD hS => ?_)
  refine lv_aload_n hx hb dX2_findBest_10 rfl (lv_at hl 0 rfl) ?_
  refine lv_iconst (v := (-1)) hx hb dX2_findBest_11 (by decide) ?_
  refine va_put (D := D) (ci := 2) (v := .int (-1)) (ty := .int) (C := RX2) (T := TX2) (N := 4) hx hb hts hiX2 tyX2 tyX2_ok nmX2 hown hE.1 hP hD hS 0 rfl rfl 2 (by decide) (hts (.fieldLink RX2 22 "TiltTray$Search" "found" "I") (by decide +kernel)) (fun _ h9 => h9) rfl (by decide +kernel) rfl rfl (Nat.le_of_ble_eq_true rfl) dX2_findBest_12 (fun H locs hP hD hS => ?_)
  have hP : va_P D vwCl ((cSe seh ser sefH cy.2.2.2.1 seb (-1) sew ++ (cTr trh tra trb trc cy.1 tr ++ (cSp sph spa cy.1 sp))) ++ cSps sefH sefB cy.1 (va_up sef ((0 : Int32).toNatClampNeg) q2) 6) H := hP
  have hD : va_D A ((cSe seh ser sefH cy.2.2.2.1 seb (-1) sew ++ (cTr trh tra trb trc cy.1 tr ++ (cSp sph spa cy.1 sp))) ++ cSps sefH sefB cy.1 (va_up sef ((0 : Int32).toNatClampNeg) q2) 6) := hD
  refine lv_aload_n hx hb dX2_findBest_15 rfl (lv_at hl 0 rfl) ?_
  refine lv_iconst (v := 0) hx hb dX2_findBest_16 (by decide) ?_
  refine va_put (D := D) (ci := 2) (v := .int 0) (ty := .int) (C := RX2) (T := TX2) (N := 4) hx hb hts hiX2 tyX2 tyX2_ok nmX2 hown hE.1 hP hD hS 0 rfl rfl 3 (by decide) (hts (.fieldLink RX2 26 "TiltTray$Search" "row" "I") (by decide +kernel)) (fun _ h9 => h9) rfl (by decide +kernel) rfl rfl (Nat.le_of_ble_eq_true rfl) dX2_findBest_17 (fun H locs hP hD hS => ?_)
  have hP : va_P D vwCl ((cSe seh ser sefH cy.2.2.2.1 seb (-1) 0 ++ (cTr trh tra trb trc cy.1 tr ++ (cSp sph spa cy.1 sp))) ++ cSps sefH sefB cy.1 (va_up sef ((0 : Int32).toNatClampNeg) q2) 6) H := hP
  have hD : va_D A ((cSe seh ser sefH cy.2.2.2.1 seb (-1) 0 ++ (cTr trh tra trb trc cy.1 tr ++ (cSp sph spa cy.1 sp))) ++ cSps sefH sefB cy.1 (va_up sef ((0 : Int32).toNatClampNeg) q2) 6) := hD
  refine lv_aload_n hx hb dX2_findBest_20 rfl (lv_at hl 0 rfl) ?_
  refine lv_aload_n hx hb dX2_findBest_21 rfl (lv_at hl 1 rfl) ?_
  refine lv_aload_n hx hb dX2_findBest_22 rfl (lv_at hl 2 rfl) ?_
  obtain ⟨q3, hq3, h⟩ := ob h
  refine kS (As := [.ref trh, .ref sph]) (rest := [.ref seh]) (w2 := (cSe seh ser sefH cy.2.2.2.1 seb (-1) 0 ++ (cTr trh tra trb trc cy.1 tr ++ (cSp sph spa cy.1 sp))) ++ cSps sefH sefB cy.1 (va_up sef ((0 : Int32).toNatClampNeg) q2) 6) (n := 2) ⟨hx, hb, hml, hown, hts⟩ (c_X2_mostThatFall l D cy trh tra trb trc sph spa tr sp q3 hq3) gX2_findBest_X2_mostThatFall rfl (by decide +kernel) ⟨by rw [hRf]; exact Nat.le_of_ble_eq_true rfl, by rw [hRl]; exact Nat.le_of_ble_eq_true rfl⟩ hE hP hD hS hA [2, 3, 4, 5, 6, 7] rfl rfl rfl rfl rfl hl.1 rfl (Nat.le_of_ble_eq_true rfl) dX2_findBest_23 ⟨Nat.zero_le _, Nat.zero_le _⟩ (fun H locs hP hD hS => ?_)
  refine va_put (D := D) (ci := 2) (v := .int q3) (ty := .int) (C := RX2) (T := TX2) (N := 4) hx hb hts hiX2 tyX2 tyX2_ok nmX2 hown hE.1 hP hD hS 0 rfl rfl 1 (by decide) (hts (.fieldLink RX2 66 "TiltTray$Search" "bound" "I") (by decide +kernel)) (fun _ h9 => h9) rfl (by decide +kernel) rfl rfl (Nat.le_of_ble_eq_true rfl) dX2_findBest_26 (fun H locs hP hD hS => ?_)
  have hP : va_P D vwCl ((cSe seh ser sefH cy.2.2.2.1 q3 (-1) 0 ++ (cTr trh tra trb trc cy.1 tr ++ (cSp sph spa cy.1 sp))) ++ cSps sefH sefB cy.1 (va_up sef ((0 : Int32).toNatClampNeg) q2) 6) H := hP
  have hD : va_D A ((cSe seh ser sefH cy.2.2.2.1 q3 (-1) 0 ++ (cTr trh tra trb trc cy.1 tr ++ (cSp sph spa cy.1 sp))) ++ cSps sefH sefB cy.1 (va_up sef ((0 : Int32).toNatClampNeg) q2) 6) := hD
  refine lv_aload_n hx hb dX2_findBest_29 rfl (lv_at hl 0 rfl) ?_
  refine lv_aload_n hx hb dX2_findBest_30 rfl (lv_at hl 1 rfl) ?_
  refine lv_iload_n hx hb dX2_findBest_31 rfl (lv_at hl 3 rfl) ?_
  refine lv_iconst (v := 0) hx hb dX2_findBest_32 (by decide) ?_
  refine lv_iconst (v := 0) hx hb dX2_findBest_33 (by decide) ?_
  obtain ⟨q4, hq4, h⟩ := ob h
  refine kV (As := [.ref trh, .int p1, .int 0, .int 0]) (rest := []) (w2 := (cSe seh ser sefH cy.2.2.2.1 q3 q4.2.1 q4.2.2 ++ (cTr trh tra trb trc cy.1 tr ++ (cSp sph spa cy.1 sp))) ++ cSps sefH sefB cy.1 q4.1 6) (n := 4) (q0 := 0) ⟨hx, hb, hml, hown, hts⟩ (c_X2_seekMost l D cy sefH sefB seh ser trh tra trb trc 6 (va_up sef ((0 : Int32).toNatClampNeg) q2) q3 (-1) 0 tr p1 0 0 q4 hq4) gX2_findBest_X2_seekMost rfl (by decide +kernel) ⟨by rw [hRf]; exact Nat.le_of_ble_eq_true rfl, by rw [hRl]; exact Nat.le_of_ble_eq_true rfl⟩ hE hP hD hS hA ([0, 1, 2, 3, 4, 5] ++ rng 8 12) (by decide +kernel) (blkC rfl rfl) (blkA rfl) (blkU rfl rfl rfl) rfl rfl rfl hl.1 rfl (Nat.le_of_ble_eq_true rfl) dX2_findBest_34 ⟨Nat.zero_le _, Nat.zero_le _⟩ (fun H locs hP hD hS => ?_)
  obtain rfl := Option.some.inj h
  rw [hQ]; exact ct_vret hx hb hr hlocks hP hS rfl dX2_findBest_37
