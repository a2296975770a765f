def tw_X6_see (siu : Nat → Int32) (siv : Nat → Int32) (siw : Nat → Int32) (sin : Int32) (p1 : Int32) (p2 : Int32) (p3 : Int32) : Option (Int32 × (Nat → Int32) × (Nat → Int32) × (Nat → Int32) × Int32) :=
  (tw_X6_isCell p1).bind (fun q1 => if q1 = 0 then (some ((-1), siu, siv, siw, sin)) else ((tw_X6_isWay p2).bind (fun q3 => if q3 = 0 then (some ((-2), siu, siv, siw, sin)) else (if p3 < 0 then (some ((-2), siu, siv, siw, sin)) else (if p3 ≤ 25 then ((tw_X3_add siu siv siw sin p1 p2 p3).bind (fun q7 => some (q7.1, q7.2.1, q7.2.2.1, q7.2.2.2.1, q7.2.2.2.2))) else (some ((-2), siu, siv, siw, sin)))))))
set_option maxHeartbeats 4000000 in
set_option maxRecDepth 100000 in
theorem c_X6_see (l : Launch) (D : va_G) (cy : Cy) (xh : Nat) (x_text : Nat) (x_now : Nat) (x_spare : Nat) (x_acts : Nat) (x_slots : Nat) (sih : Nat) (sia : Nat) (sib : Nat) (sic : Nat) (x_search : Nat) (x_pairs : Nat) (x_worth : Nat) (x_tray : Nat) (x_draft : Nat) (siu : Nat → Int32) (siv : Nat → Int32) (siw : Nat → Int32) (sin : Int32) (x_let : Int32) (x_kept : Int32) (x_seed : Int64) (p1 : Int32) (p2 : Int32) (p3 : Int32) (res : Int32 × (Nat → Int32) × (Nat → Int32) × (Nat → Int32) × Int32) (h : tw_X6_see siu siv siw sin p1 p2 p3 = some res) : Ct l yX6_see wsX6_see 1 23 D cy [.ref xh, .int p1, .int p2, .int p3] (cTT xh x_text x_now x_spare x_acts x_slots sih x_search x_pairs x_worth x_tray x_draft x_let x_kept x_seed ++ (cSi sih sia sib sic cy.1 siu siv siw sin)) (cTT xh x_text x_now x_spare x_acts x_slots sih x_search x_pairs x_worth x_tray x_draft x_let x_kept x_seed ++ (cSi sih sia sib sic cy.1 res.2.1 res.2.2.1 res.2.2.2.1 res.2.2.2.2)) (some (.int res.1)) := by
  refine Ct.ofW (cc := cX6_see) (maxL := 4) (ret := (some .int)) (by decide) rfl (Nat.le_of_ble_eq_true rfl) ?_
  intro p e R s m args below meth c A Q ls hRf hRl hQ hx hb hr hml hts hown hlocks hE hP hD hS hA hl
  have hiX6 : ∀ w ∈ u_ws RX6 TX6 14, w ∈ wsX6_see := by decide +kernel
  have hl : lv_has ls 4 [(0, .ref xh), (1, .int p1), (2, .int p2), (3, .int p3)] := hl
  rw [tw_X6_see] at h
  refine lv_iload_n hx hb dX6_see_0 rfl (lv_at hl 1 rfl) ?_
  obtain ⟨q1, hq1, h⟩ := ob h
  refine kS (As := [.int p1]) (rest := []) (w2 := cTT xh x_text x_now x_spare x_acts x_slots sih x_search x_pairs x_worth x_tray x_draft x_let x_kept x_seed ++ (cSi sih sia sib sic cy.1 siu siv siw sin)) (n := 1) ⟨hx, hb, hml, hown, hts⟩ (c_X6_isCell l D cy p1 q1 hq1) gX6_see_X6_isCell rfl (by decide +kernel) ⟨by rw [hRf]; exact Nat.le_of_ble_eq_true rfl, by rw [hRl]; exact Nat.le_of_ble_eq_true rfl⟩ hE hP hD hS hA [] rfl rfl rfl rfl rfl hl.1 rfl (Nat.le_of_ble_eq_true rfl) dX6_see_1 ⟨Nat.zero_le _, Nat.zero_le _⟩ (fun H locs hP hD hS => ?_)
  refine lv_if_ne (tgt := 9) hx hb dX6_see_4 (by decide) (fun c2 => ?_) (fun c2 => ?_)
  · have h := oif h c2
    refine lv_iload_n hx hb dX6_see_9 rfl (lv_at hl 2 rfl) ?_
    obtain ⟨q3, hq3, h⟩ := ob h
    refine kS (As := [.int p2]) (rest := []) (w2 := cTT xh x_text x_now x_spare x_acts x_slots sih x_search x_pairs x_worth x_tray x_draft x_let x_kept x_seed ++ (cSi sih sia sib sic cy.1 siu siv siw sin)) (n := 1) ⟨hx, hb, hml, hown, hts⟩ (c_X6_isWay l D cy p2 q3 hq3) gX6_see_X6_isWay rfl (by decide +kernel) ⟨by rw [hRf]; exact Nat.le_of_ble_eq_true rfl, by rw [hRl]; exact Nat.le_of_ble_eq_true rfl⟩ hE hP hD hS hA [] rfl rfl rfl rfl rfl hl.1 rfl (Nat.le_of_ble_eq_true rfl) dX6_see_10 ⟨Nat.zero_le _, Nat.zero_le _⟩ (fun H locs hP hD hS => ?_)
    refine lv_if_eq (tgt := 26) hx hb dX6_see_13 (by decide) (fun c4 => ?_) (fun c4 => ?_)
    · have h := oit h c4
      refine lv_bipush (v := (-2)) hx hb dX6_see_26 (by decide) ?_
      obtain rfl := Option.some.inj h
      rw [hQ]; exact ct_iret hx hb hr hlocks hP hS rfl dX6_see_28
    · have h := oif h c4
      refine lv_iload_n hx hb dX6_see_16 rfl (lv_at hl 3 rfl) ?_
      refine lv_if_lt (tgt := 26) hx hb dX6_see_17 (by decide) (fun c5 => ?_) (fun c5 => ?_)
      · have h := oit h c5
        refine lv_bipush (v := (-2)) hx hb dX6_see_26 (by decide) ?_
        obtain rfl := Option.some.inj h
        rw [hQ]; exact ct_iret hx hb hr hlocks hP hS rfl dX6_see_28
      · have h := oif h c5
        refine lv_iload_n hx hb dX6_see_20 rfl (lv_at hl 3 rfl) ?_
        refine lv_bipush (v := 25) hx hb dX6_see_21 (by decide) ?_
        refine lv_icmp_le (tgt := 29) hx hb dX6_see_23 (by decide) (fun c6 => ?_) (fun c6 => ?_)
        · have h := oit h c6
          refine lv_aload_n hx hb dX6_see_29 rfl (lv_at hl 0 rfl) ?_
          refine va_get (D := D) (ci := 6) (v := .ref sih) (C := RX6) (T := TX6) (N := 14) hx hb hts hiX6 hown hE.1 hP 0 rfl rfl 9 (by decide) (hts (.fieldLink RX6 47 "TiltTray" "sights" "LTiltTray$Sights;") (by decide +kernel)) (fun _ h9 => h9) rfl dX6_see_30 ?_
          refine lv_iload_n hx hb dX6_see_33 rfl (lv_at hl 1 rfl) ?_
          refine lv_iload_n hx hb dX6_see_34 rfl (lv_at hl 2 rfl) ?_
          refine lv_iload_n hx hb dX6_see_35 rfl (lv_at hl 3 rfl) ?_
          obtain ⟨q7, hq7, h⟩ := ob h
          refine kV (As := [.int p1, .int p2, .int p3]) (rest := []) (w2 := cTT xh x_text x_now x_spare x_acts x_slots sih x_search x_pairs x_worth x_tray x_draft x_let x_kept x_seed ++ (cSi sih sia sib sic cy.1 q7.2.1 q7.2.2.1 q7.2.2.2.1 q7.2.2.2.2)) (n := 3) (q0 := 1) ⟨hx, hb, hml, hown, hts⟩ (c_X3_add l D cy sih sia sib sic siu siv siw sin p1 p2 p3 q7 hq7) gX6_see_X3_add rfl (by decide +kernel) ⟨by rw [hRf]; exact Nat.le_of_ble_eq_true rfl, by rw [hRl]; exact Nat.le_of_ble_eq_true rfl⟩ hE hP hD hS hA [1, 2, 3, 4] rfl rfl rfl rfl rfl rfl rfl hl.1 rfl (Nat.le_of_ble_eq_true rfl) dX6_see_36 ⟨Nat.zero_le _, Nat.zero_le _⟩ (fun H locs hP hD hS => ?_)
          obtain rfl := Option.some.inj h
          rw [hQ]; exact ct_iret hx hb hr hlocks hP hS rfl dX6_see_39
        · have h := oif h c6
          refine lv_bipush (v := (-2)) hx hb dX6_see_26 (by decide) ?_
          obtain rfl := Option.some.inj h
          rw [hQ]; exact ct_iret hx hb hr hlocks hP hS rfl dX6_see_28
  · have h := oit h c2
    refine lv_iconst (v := (-1)) hx hb dX6_see_7 (by decide) ?_
    obtain rfl := Option.some.inj h
    rw [hQ]; exact ct_iret hx hb hr hlocks hP hS rfl dX6_see_8

def tw_X6_unsee (sin : Int32) : Option (Int32 × Int32) :=
  some (sin, 0)
set_option maxHeartbeats 4000000 in
set_option maxRecDepth 100000 in
theorem c_X6_unsee (l : Launch) (D : va_G) (cy : Cy) (xh : Nat) (x_text : Nat) (x_now : Nat) (x_spare : Nat) (x_acts : Nat) (x_slots : Nat) (sih : Nat) (sia : Nat) (sib : Nat) (sic : Nat) (x_search : Nat) (x_pairs : Nat) (x_worth : Nat) (x_tray : Nat) (x_draft : Nat) (siu : Nat → Int32) (siv : Nat → Int32) (siw : Nat → Int32) (sin : Int32) (x_let : Int32) (x_kept : Int32) (x_seed : Int64) (res : Int32 × Int32) (h : tw_X6_unsee sin = some res) : Ct l yX6_unsee wsX6_unsee 0 0 D cy [.ref xh] (cTT xh x_text x_now x_spare x_acts x_slots sih x_search x_pairs x_worth x_tray x_draft x_let x_kept x_seed ++ (cSi sih sia sib sic cy.1 siu siv siw sin)) (cTT xh x_text x_now x_spare x_acts x_slots sih x_search x_pairs x_worth x_tray x_draft x_let x_kept x_seed ++ (cSi sih sia sib sic cy.1 siu siv siw res.2)) (some (.int res.1)) := by
  refine Ct.ofW (cc := cX6_unsee) (maxL := 2) (ret := (some .int)) (by decide) rfl (Nat.le_of_ble_eq_true rfl) ?_
  intro p e R s m args below meth c A Q ls hRf hRl hQ hx hb hr hml hts hown hlocks hE hP hD hS hA hl
  have hiX3 : ∀ w ∈ u_ws RX3 TX3 4, w ∈ wsX6_unsee := by decide +kernel
  have hiX6 : ∀ w ∈ u_ws RX6 TX6 14, w ∈ wsX6_unsee := by decide +kernel
  have hl : lv_has ls 2 [(0, .ref xh)] := hl
  rw [tw_X6_unsee] at h
  refine lv_aload_n hx hb dX6_unsee_0 rfl (lv_at hl 0 rfl) ?_
  refine va_get (D := D) (ci := 6) (v := .ref sih) (C := RX6) (T := TX6) (N := 14) hx hb hts hiX6 hown hE.1 hP 0 rfl rfl 9 (by decide) (hts (.fieldLink RX6 47 "TiltTray" "sights" "LTiltTray$Sights;") (by decide +kernel)) (fun _ h9 => h9) rfl dX6_unsee_1 ?_
  refine va_get (D := D) (ci := 3) (v := .int sin) (C := RX3) (T := TX3) (N := 4) hx hb hts hiX3 hown hE.1 hP 1 rfl rfl 3 (by decide) (hts (.fieldLink RX6 213 "TiltTray$Sights" "many" "I") (by decide +kernel)) (fun _ h9 => h9) rfl dX6_unsee_4 ?_
  refine lv_istore_n (lv' := [(1, .int sin), (0, .ref xh)]) hx hb dX6_unsee_7 rfl hl (by decide) rfl (fun ls hl => ?_)
  refine lv_aload_n hx hb dX6_unsee_8 rfl (lv_at hl 1 rfl) ?_
  refine va_get (D := D) (ci := 6) (v := .ref sih) (C := RX6) (T := TX6) (N := 14) hx hb hts hiX6 hown hE.1 hP 0 rfl rfl 9 (by decide) (hts (.fieldLink RX6 47 "TiltTray" "sights" "LTiltTray$Sights;") (by decide +kernel)) (fun _ h9 => h9) rfl dX6_unsee_9 ?_
  refine lv_iconst (v := 0) hx hb dX6_unsee_12 (by decide) ?_
  refine va_put (D := D) (ci := 3) (v := .int 0) (ty := .int) (C := RX3) (T := TX3) (N := 4) hx hb hts hiX3 tyX3 tyX3_ok nmX3 hown hE.1 hP hD hS 1 rfl rfl 3 (by decide) (hts (.fieldLink RX6 213 "TiltTray$Sights" "many" "I") (by decide +kernel)) (fun _ h9 => h9) rfl (by decide +kernel) rfl rfl (Nat.le_of_ble_eq_true rfl) dX6_unsee_13 (fun H locs hP hD hS => ?_)
  have hP : va_P D vwCl (cTT xh x_text x_now x_spare x_acts x_slots sih x_search x_pairs x_worth x_tray x_draft x_let x_kept x_seed ++ (cSi sih sia sib sic cy.1 siu siv siw 0)) H := hP
  have hD : va_D A (cTT xh x_text x_now x_spare x_acts x_slots sih x_search x_pairs x_worth x_tray x_draft x_let x_kept x_seed ++ (cSi sih sia sib sic cy.1 siu siv siw 0)) := hD
  refine lv_iload_n hx hb dX6_unsee_16 rfl (lv_at hl 0 rfl) ?_
  obtain rfl := Option.some.inj h
  rw [hQ]; exact ct_iret hx hb hr hlocks hP hS rfl dX6_unsee_17

def tw_X6_hidden_4 (siu : Nat → Int32) (siv : Nat → Int32) (siw : Nat → Int32) (sin : Int32) (tr : TrS) : Nat → Int32 → Int32 → Option (Int32)
  | 0, _, _ => none
  | n + 1, x1, x2 =>
    if 25 ≤ x2 then (some (x1)) else ((tw_X5_isPlain tr x2).bind (fun q2 => if q2 = 0 then ((tw_X6_hidden_4 siu siv siw sin tr n) x1 (x2 + 1)) else ((tw_X3_agree siu siv siw sin tr x2).bind (fun q4 => if q4 = 0 then ((tw_X6_hidden_4 siu siv siw sin tr n) x1 (x2 + 1)) else ((tw_X6_hidden_4 siu siv siw sin tr n) (x1 ||| (1 <<< (x2 &&& 31))) (x2 + 1))))))
def tw_X6_hidden (siu : Nat → Int32) (siv : Nat → Int32) (siw : Nat → Int32) (sin : Int32) (tr : TrS) : Option (Int32) :=
  tw_X6_hidden_4 siu siv siw sin tr 26 0 0
set_option maxHeartbeats 4000000 in
set_option maxRecDepth 100000 in
theorem c_X6_hidden (l : Launch) (D : va_G) (cy : Cy) (xh : Nat) (x_text : Nat) (x_now : Nat) (x_spare : Nat) (x_acts : Nat) (x_slots : Nat) (sih : Nat) (sia : Nat) (sib : Nat) (sic : Nat) (x_search : Nat) (x_pairs : Nat) (x_worth : Nat) (x_tray : Nat) (tra : Nat) (trb : Nat) (trc : Nat) (x_draft : Nat) (siu : Nat → Int32) (siv : Nat → Int32) (siw : Nat → Int32) (sin : Int32) (tr : TrS) (x_let : Int32) (x_kept : Int32) (x_seed : Int64) (res : Int32) (h : tw_X6_hidden siu siv siw sin tr = some res) : Ct l yX6_hidden wsX6_hidden 3 72 D cy [.ref xh] (cTT xh x_text x_now x_spare x_acts x_slots sih x_search x_pairs x_worth x_tray x_draft x_let x_kept x_seed ++ (cSi sih sia sib sic cy.1 siu siv siw sin ++ (cTr x_tray tra trb trc cy.1 tr))) (cTT xh x_text x_now x_spare x_acts x_slots sih x_search x_pairs x_worth x_tray x_draft x_let x_kept x_seed ++ (cSi sih sia sib sic cy.1 siu siv siw sin ++ (cTr x_tray tra trb trc cy.1 tr))) (some (.int res)) := by
  refine Ct.ofW (cc := cX6_hidden) (maxL := 3) (ret := (some .int)) (by decide) rfl (Nat.le_of_ble_eq_true rfl) ?_
  intro p e R s m args below meth c A Q ls hRf hRl hQ hx hb hr hml hts hown hlocks hE hP hD hS hA hl
  have hiX6 : ∀ w ∈ u_ws RX6 TX6 14, w ∈ wsX6_hidden := by decide +kernel
  have hl : lv_has ls 3 [(0, .ref xh)] := hl
  rw [tw_X6_hidden] at h
  have L4 : ∀ (n : Nat) (x1 : Int32) (x2 : Int32)  (H : Heap) (locs : List Loc) (ls : Array Slot), lv_has ls 3 [(0, .ref xh), (1, .int x1), (2, .int x2)] → va_P D vwCl (cTT xh x_text x_now x_spare x_acts x_slots sih x_search x_pairs x_worth x_tray x_draft x_let x_kept x_seed ++ (cSi sih sia sib sic cy.1 siu siv siw sin ++ (cTr x_tray tra trb trc cy.1 tr))) H → va_D A (cTT xh x_text x_now x_spare x_acts x_slots sih x_search x_pairs x_worth x_tray x_draft x_let x_kept x_seed ++ (cSi sih sia sib sic cy.1 siu siv siw sin ++ (cTr x_tray tra trb trc cy.1 tr))) → va_S A s.heap H locs → tw_X6_hidden_4 siu siv siw sin tr n x1 x2 = some res → W p l e R s m args below meth c H locs 0 0 Q (F0 m 4 ls []) := by
    intro n4
    induction n4 with
    | zero =>
      intro x1 x2  H locs ls hl hP hD hS h
      exact absurd h (by rw [tw_X6_hidden_4]; exact fun q => by cases q)
    | succ n4 ih4 =>
      intro x1 x2  H locs ls hl hP hD hS h
      rw [tw_X6_hidden_4] at h
      refine lv_iload_n hx hb dX6_hidden_4 rfl (lv_at hl 2 rfl) ?_
      refine lv_bipush (v := 25) hx hb dX6_hidden_5 (by decide) ?_
      refine lv_icmp_ge (tgt := 48) hx hb dX6_hidden_7 (by decide) (fun c1 => ?_) (fun c1 => ?_)
      · have h := oit h c1
        refine lv_iload_n hx hb dX6_hidden_48 rfl (lv_at hl 1 rfl) ?_
        obtain rfl := Option.some.inj h
        rw [hQ]; exact ct_iret hx hb hr hlocks hP hS rfl dX6_hidden_49
      · have h := oif h c1
        refine lv_aload_n hx hb dX6_hidden_10 rfl (lv_at hl 0 rfl) ?_
        refine va_get (D := D) (ci := 6) (v := .ref x_tray) (C := RX6) (T := TX6) (N := 14) hx hb hts hiX6 hown hE.1 hP 0 rfl rfl 2 (by decide) (hts (.fieldLink RX6 16 "TiltTray" "tray" "LTiltTray$Tray;") (by decide +kernel)) (fun _ h9 => h9) rfl dX6_hidden_11 ?_
        refine lv_iload_n hx hb dX6_hidden_14 rfl (lv_at hl 2 rfl) ?_
        obtain ⟨q2, hq2, h⟩ := ob h
        refine kV (As := [.int x2]) (rest := []) (w2 := cTT xh x_text x_now x_spare x_acts x_slots sih x_search x_pairs x_worth x_tray x_draft x_let x_kept x_seed ++ (cSi sih sia sib sic cy.1 siu siv siw sin ++ (cTr x_tray tra trb trc cy.1 tr))) (n := 1) (q0 := 5) ⟨hx, hb, hml, hown, hts⟩ (c_X5_isPlain l D cy x_tray tra trb trc tr x2 q2 hq2) gX6_hidden_X5_isPlain rfl (by decide +kernel) ⟨by rw [hRf]; exact Nat.le_of_ble_eq_true rfl, by rw [hRl]; exact Nat.le_of_ble_eq_true rfl⟩ hE hP hD hS hA [5, 6, 7, 8] rfl rfl rfl rfl rfl rfl rfl hl.1 rfl (Nat.le_of_ble_eq_true rfl) dX6_hidden_15 ⟨Nat.zero_le _, Nat.zero_le _⟩ (fun H locs hP hD hS => ?_)
        refine lv_if_eq (tgt := 42) hx hb dX6_hidden_18 (by decide) (fun c3 => ?_) (fun c3 => ?_)
        · have h := oit h c3
          refine lv_iinc (v := x2 + 1) (lv' := [(2, .int (x2 + 1)), (0, .ref xh), (1, .int x1)]) hx hb dX6_hidden_42 hl (k := 2) rfl rfl (by decide) rfl (fun ls hl => ?_)
          refine lv_goto (tgt := 4) hx hb dX6_hidden_45 (by decide) ?_
          exact ih4 x1 (x2 + 1) _ _ _ (lv_sub hl [1, 2, 0] rfl) hP hD hS h
        · have h := oif h c3
          refine lv_aload_n hx hb dX6_hidden_21 rfl (lv_at hl 0 rfl) ?_
          refine va_get (D := D) (ci := 6) (v := .ref sih) (C := RX6) (T := TX6) (N := 14) hx hb hts hiX6 hown hE.1 hP 0 rfl rfl 9 (by decide) (hts (.fieldLink RX6 47 "TiltTray" "sights" "LTiltTray$Sights;") (by decide +kernel)) (fun _ h9 => h9) rfl dX6_hidden_22 ?_
          refine lv_aload_n hx hb dX6_hidden_25 rfl (lv_at hl 0 rfl) ?_
          refine va_get (D := D) (ci := 6) (v := .ref x_tray) (C := RX6) (T := TX6) (N := 14) hx hb hts hiX6 hown hE.1 hP 0 rfl rfl 2 (by decide) (hts (.fieldLink RX6 16 "TiltTray" "tray" "LTiltTray$Tray;") (by decide +kernel)) (fun _ h9 => h9) rfl dX6_hidden_26 ?_
          refine lv_iload_n hx hb dX6_hidden_29 rfl (lv_at hl 2 rfl) ?_
          obtain ⟨q4, hq4, h⟩ := ob h
          refine kV (As := [.ref x_tray, .int x2]) (rest := []) (w2 := cTT xh x_text x_now x_spare x_acts x_slots sih x_search x_pairs x_worth x_tray x_draft x_let x_kept x_seed ++ (cSi sih sia sib sic cy.1 siu siv siw sin ++ (cTr x_tray tra trb trc cy.1 tr))) (n := 2) (q0 := 1) ⟨hx, hb, hml, hown, hts⟩ (c_X3_agree l D cy sih sia sib sic x_tray tra trb trc siu siv siw sin tr x2 q4 hq4) gX6_hidden_X3_agree rfl (by decide +kernel) ⟨by rw [hRf]; exact Nat.le_of_ble_eq_true rfl, by rw [hRl]; exact Nat.le_of_ble_eq_true rfl⟩ hE hP hD hS hA [1, 2, 3, 4, 5, 6, 7, 8] rfl rfl rfl rfl rfl rfl rfl hl.1 rfl (Nat.le_of_ble_eq_true rfl) dX6_hidden_30 ⟨Nat.zero_le _, Nat.zero_le _⟩ (fun H locs hP hD hS => ?_)
          refine lv_if_eq (tgt := 42) hx hb dX6_hidden_33 (by decide) (fun c5 => ?_) (fun c5 => ?_)
          · have h := oit h c5
            refine lv_iinc (v := x2 + 1) (lv' := [(2, .int (x2 + 1)), (0, .ref xh), (1, .int x1)]) hx hb dX6_hidden_42 hl (k := 2) rfl rfl (by decide) rfl (fun ls hl => ?_)
            refine lv_goto (tgt := 4) hx hb dX6_hidden_45 (by decide) ?_
            exact ih4 x1 (x2 + 1) _ _ _ (lv_sub hl [1, 2, 0] rfl) hP hD hS h
          · have h := oif h c5
            refine lv_iload_n hx hb dX6_hidden_36 rfl (lv_at hl 1 rfl) ?_
            refine lv_iconst (v := 1) hx hb dX6_hidden_37 (by decide) ?_
            refine lv_iload_n hx hb dX6_hidden_38 rfl (lv_at hl 2 rfl) ?_
            refine lv_ishl hx hb dX6_hidden_39 ?_
            refine lv_ior hx hb dX6_hidden_40 ?_
            refine lv_istore_n (lv' := [(1, .int (x1 ||| (1 <<< (x2 &&& 31)))), (0, .ref xh), (2, .int x2)]) hx hb dX6_hidden_41 rfl hl (by decide) rfl (fun ls hl => ?_)
            refine lv_iinc (v := x2 + 1) (lv' := [(2, .int (x2 + 1)), (1, .int (x1 ||| (1 <<< (x2 &&& 31)))), (0, .ref xh)]) hx hb dX6_hidden_42 hl (k := 2) rfl rfl (by decide) rfl (fun ls hl => ?_)
            refine lv_goto (tgt := 4) hx hb dX6_hidden_45 (by decide) ?_
            exact ih4 (x1 ||| (1 <<< (x2 &&& 31))) (x2 + 1) _ _ _ (lv_sub hl [2, 1, 0] rfl) hP hD hS h
  refine lv_iconst (v := 0) hx hb dX6_hidden_0 (by decide) ?_
  refine lv_istore_n (lv' := [(1, .int 0), (0, .ref xh)]) hx hb dX6_hidden_1 rfl hl (by decide) rfl (fun ls hl => ?_)
  refine lv_iconst (v := 0) hx hb dX6_hidden_2 (by decide) ?_
  refine lv_istore_n (lv' := [(2, .int 0), (1, .int 0), (0, .ref xh)]) hx hb dX6_hidden_3 rfl hl (by decide) rfl (fun ls hl => ?_)
  exact L4 26 0 0 _ _ _ (lv_sub hl [2, 1, 0] rfl) hP hD hS h

def tw_X6_weighGroups_28 (no : SpS) (tr : TrS) (k2 : Int32 → SpS → (Nat → SpS) → Int32 → Int32 → Int32 → (Nat → Int32) → Option (SpS × (Nat → SpS) × Int32 × Int32 × Int32 × (Nat → Int32))) : Nat → Int32 → Int32 → SpS → (Nat → SpS) → Int32 → Int32 → Int32 → (Nat → Int32) → Option (SpS × (Nat → SpS) × Int32 × Int32 × Int32 × (Nat → Int32))
  | 0, _, _, _, _, _, _, _, _ => none
  | n + 1, x1, x2, sr, sef, seb, seo, sew, wo =>
    if tr.2.2.2.1 ≤ x2 then ((tw_X2_findBest sef seb seo sew tr sr 2).bind (fun q2 => if ix x1 16 = true then (k2 (x1 + 1) sr q2.1 q2.2.1 q2.2.2.1 q2.2.2.2 (upd wo x1.toNatClampNeg q2.2.2.1)) else none)) else ((tw_X6_bitOf x1 x2).bind (fun q4 => if q4 = 0 then ((tw_X4_leave sr x2).bind (fun q6 => (tw_X6_weighGroups_28 no tr k2 n) x1 (x2 + 1) q6 sef seb seo sew wo)) else ((tw_X6_weighGroups_28 no tr k2 n) x1 (x2 + 1) sr sef seb seo sew wo)))
def tw_X6_weighGroups_2 (no : SpS) (tr : TrS) : Nat → Int32 → SpS → (Nat → SpS) → Int32 → Int32 → Int32 → (Nat → Int32) → Option (SpS × (Nat → SpS) × Int32 × Int32 × Int32 × (Nat → Int32))
  | 0, _, _, _, _, _, _, _ => none
  | n + 1, x1, sr, sef, seb, seo, sew, wo =>
    if (1 <<< (tr.2.2.2.1 &&& 31)) ≤ x1 then (some (sr, sef, seb, seo, sew, wo)) else ((tw_X4_take sr no).bind (fun q8 => tw_X6_weighGroups_28 no tr (tw_X6_weighGroups_2 no tr n) 5 x1 0 q8 sef seb seo sew wo))
def tw_X6_weighGroups (no : SpS) (sr : SpS) (sef : Nat → SpS) (seb : Int32) (seo : Int32) (sew : Int32) (wo : Nat → Int32) (tr : TrS) : Option (SpS × (Nat → SpS) × Int32 × Int32 × Int32 × (Nat → Int32)) :=
  tw_X6_weighGroups_2 no tr 17 0 sr sef seb seo sew wo
set_option maxHeartbeats 4000000 in
set_option maxRecDepth 100000 in
theorem c_X6_weighGroups (l : Launch) (D : va_G) (cy : Cy) (xh : Nat) (x_text : Nat) (noh : Nat) (noa : Nat) (srh : Nat) (sra : Nat) (x_acts : Nat) (x_slots : Nat) (x_sights : Nat) (sefH : Nat → Nat) (sefB : Nat → Nat) (seh : Nat) (ser : Nat) (x_pairs : Nat) (wor : Nat) (x_tray : Nat) (tra : Nat) (trb : Nat) (trc : Nat) (x_draft : Nat) (no : SpS) (sr : SpS) (sef : Nat → SpS) (seb : Int32) (seo : Int32) (sew : Int32) (wo : Nat → Int32) (tr : TrS) (x_let : Int32) (x_kept : Int32) (x_seed : Int64) (res : SpS × (Nat → SpS) × Int32 × Int32 × Int32 × (Nat → Int32)) (h : tw_X6_weighGroups no sr sef seb seo sew wo tr = some res) : Ct l yX6_weighGroups wsX6_weighGroups 12 298 D cy [.ref xh] ((cTT xh x_text noh srh x_acts x_slots x_sights seh x_pairs wor x_tray x_draft x_let x_kept x_seed ++ (cSp noh noa cy.1 no ++ (cSp srh sra cy.1 sr ++ (cSe seh ser sefH cy.2.2.2.1 seb seo sew ++ ([(wor, .inl (cy.1, 16, .inl wo))] ++ (cTr x_tray tra trb trc cy.1 tr)))))) ++ cSps sefH sefB cy.1 sef 6) ((cTT xh x_text noh srh x_acts x_slots x_sights seh x_pairs wor x_tray x_draft x_let x_kept x_seed ++ (cSp noh noa cy.1 no ++ (cSp srh sra cy.1 res.1 ++ (cSe seh ser sefH cy.2.2.2.1 res.2.2.1 res.2.2.2.1 res.2.2.2.2.1 ++ ([(wor, .inl (cy.1, 16, .inl res.2.2.2.2.2))] ++ (cTr x_tray tra trb trc cy.1 tr)))))) ++ cSps sefH sefB cy.1 res.2.1 6) (none) := by
  refine Ct.ofW (cc := cX6_weighGroups) (maxL := 3) (ret := none) (by decide) rfl (Nat.le_of_ble_eq_true rfl) ?_
  intro p e R s m args below meth c A Q ls hRf hRl hQ hx hb hr hml hts hown hlocks hE hP hD hS hA hl
  have hiX2 : ∀ w ∈ u_ws RX2 TX2 4, w ∈ wsX6_weighGroups := by decide +kernel
  have hiX5 : ∀ w ∈ u_ws RX5 TX5 5, w ∈ wsX6_weighGroups := by decide +kernel
  have hiX6 : ∀ w ∈ u_ws RX6 TX6 14, w ∈ wsX6_weighGroups := by decide +kernel
  have hl : lv_has ls 3 [(0, .ref xh)] := hl
  rw [tw_X6_weighGroups] at h
  have L2 : ∀ (n : Nat) (x1 : Int32) (sr : SpS) (sef : Nat → SpS) (seb : Int32) (seo : Int32) (sew : Int32) (wo : Nat → Int32)  (H : Heap) (locs : List Loc) (ls : Array Slot), lv_has ls 3 [(0, .ref xh), (1, .int x1)] → va_P D vwCl ((cTT xh x_text noh srh x_acts x_slots x_sights seh x_pairs wor x_tray x_draft x_let x_kept x_seed ++ (cSp noh noa cy.1 no ++ (cSp srh sra cy.1 sr ++ (cSe seh ser sefH cy.2.2.2.1 seb seo sew ++ ([(wor, .inl (cy.1, 16, .inl wo))] ++ (cTr x_tray tra trb trc cy.1 tr)))))) ++ cSps sefH sefB cy.1 sef 6) H → va_D A ((cTT xh x_text noh srh x_acts x_slots x_sights seh x_pairs wor x_tray x_draft x_let x_kept x_seed ++ (cSp noh noa cy.1 no ++ (cSp srh sra cy.1 sr ++ (cSe seh ser sefH cy.2.2.2.1 seb seo sew ++ ([(wor, .inl (cy.1, 16, .inl wo))] ++ (cTr x_tray tra trb trc cy.1 tr)))))) ++ cSps sefH sefB cy.1 sef 6) → va_S A s.heap H locs → tw_X6_weighGroups_2 no tr n x1 sr sef seb seo sew wo = some res → W p l e R s m args below meth c H locs 0 0 Q (F0 m 2 ls []) := by
    intro n2
    induction n2 with
    | zero =>
      intro x1 sr sef seb seo sew wo  H locs ls hl hP hD hS h
      exact absurd h (by rw [tw_X6_weighGroups_2]; exact fun q => by cases q)
    | succ n2 ih2 =>
      intro x1 sr sef seb seo sew wo  H locs ls hl hP hD hS h
      rw [tw_X6_weighGroups_2] at h
      have L28 : ∀ (n : Nat) (x1 : Int32) (x2 : Int32) (sr : SpS) (sef : Nat → SpS) (seb : Int32) (seo : Int32) (sew : Int32) (wo : Nat → Int32)  (H : Heap) (locs : List Loc) (ls : Array Slot), lv_has ls 3 [(0, .ref xh), (1, .int x1), (2, .int x2)] → va_P D vwCl ((cTT xh x_text noh srh x_acts x_slots x_sights seh x_pairs wor x_tray x_draft x_let x_kept x_seed ++ (cSp noh noa cy.1 no ++ (cSp srh sra cy.1 sr ++ (cSe seh ser sefH cy.2.2.2.1 seb seo sew ++ ([(wor, .inl (cy.1, 16, .inl wo))] ++ (cTr x_tray tra trb trc cy.1 tr)))))) ++ cSps sefH sefB cy.1 sef 6) H → va_D A ((cTT xh x_text noh srh x_acts x_slots x_sights seh x_pairs wor x_tray x_draft x_let x_kept x_seed ++ (cSp noh noa cy.1 no ++ (cSp srh sra cy.1 sr ++ (cSe seh ser sefH cy.2.2.2.1 seb seo sew ++ ([(wor, .inl (cy.1, 16, .inl wo))] ++ (cTr x_tray tra trb trc cy.1 tr)))))) ++ cSps sefH sefB cy.1 sef 6) → va_S A s.heap H locs → tw_X6_weighGroups_28 no tr (tw_X6_weighGroups_2 no tr n2) n x1 x2 sr sef seb seo sew wo = some res → W p l e R s m args below meth c H locs 0 0 Q (F0 m 28 ls []) := by
        intro n28
        induction n28 with
        | zero =>
          intro x1 x2 sr sef seb seo sew wo  H locs ls hl hP hD hS h
          exact absurd h (by rw [tw_X6_weighGroups_28]; exact fun q => by cases q)
        | succ n28 ih28 =>
          intro x1 x2 sr sef seb seo sew wo  H locs ls hl hP hD hS h
          rw [tw_X6_weighGroups_28] at h
          refine lv_iload_n hx hb dX6_weighGroups_28 rfl (lv_at hl 2 rfl) ?_
          refine lv_aload_n hx hb dX6_weighGroups_29 rfl (lv_at hl 0 rfl) ?_
          refine va_get (D := D) (ci := 6) (v := .ref x_tray) (C := RX6) (T := TX6) (N := 14) hx hb hts hiX6 hown hE.1 hP 0 rfl rfl 2 (by decide) (hts (.fieldLink RX6 16 "TiltTray" "tray" "LTiltTray$Tray;") (by decide +kernel)) (fun _ h9 => h9) rfl dX6_weighGroups_30 ?_
          refine va_get (D := D) (ci := 5) (v := .int tr.2.2.2.1) (C := RX5) (T := TX5) (N := 5) hx hb hts hiX5 hown hE.1 hP 8 rfl rfl 3 (by decide) (hts (.fieldLink RX6 96 "TiltTray$Tray" "marbles" "I") (by decide +kernel)) (fun _ h9 => h9) rfl dX6_weighGroups_33 ?_
          refine lv_icmp_ge (tgt := 61) hx hb dX6_weighGroups_36 (by decide) (fun c1 => ?_) (fun c1 => ?_)
          · have h := oit h c1
            refine lv_aload_n hx hb dX6_weighGroups_61 rfl (lv_at hl 0 rfl) ?_
            refine va_get (D := D) (ci := 6) (v := .ref seh) (C := RX6) (T := TX6) (N := 14) hx hb hts hiX6 hown hE.1 hP 0 rfl rfl 10 (by decide) (hts (.fieldLink RX6 54 "TiltTray" "search" "LTiltTray$Search;") (by decide +kernel)) (fun _ h9 => h9) rfl dX6_weighGroups_62 ?_
            refine lv_aload_n hx hb dX6_weighGroups_65 rfl (lv_at hl 0 rfl) ?_
            refine va_get (D := D) (ci := 6) (v := .ref x_tray) (C := RX6) (T := TX6) (N := 14) hx hb hts hiX6 hown hE.1 hP 0 rfl rfl 2 (by decide) (hts (.fieldLink RX6 16 "TiltTray" "tray" "LTiltTray$Tray;") (by decide +kernel)) (fun _ h9 => h9) rfl dX6_weighGroups_66 ?_
            refine lv_aload_n hx hb dX6_weighGroups_69 rfl (lv_at hl 0 rfl) ?_
            refine va_get (D := D) (ci := 6) (v := .ref srh) (C := RX6) (T := TX6) (N := 14) hx hb hts hiX6 hown hE.1 hP 0 rfl rfl 5 (by decide) (hts (.fieldLink RX6 30 "TiltTray" "spare" "LTiltTray$Spot;") (by decide +kernel)) (fun _ h9 => h9) rfl dX6_weighGroups_70 ?_
            refine lv_iconst (v := 2) hx hb dX6_weighGroups_73 (by decide) ?_
            obtain ⟨q2, hq2, h⟩ := ob h
            refine kV (As := [.ref x_tray, .ref srh, .int 2]) (rest := []) (w2 := (cTT xh x_text noh srh x_acts x_slots x_sights seh x_pairs wor x_tray x_draft x_let x_kept x_seed ++ (cSp noh noa cy.1 no ++ (cSp srh sra cy.1 sr ++ (cSe seh ser sefH cy.2.2.2.1 q2.2.1 q2.2.2.1 q2.2.2.2 ++ ([(wor, .inl (cy.1, 16, .inl wo))] ++ (cTr x_tray tra trb trc cy.1 tr)))))) ++ cSps sefH sefB cy.1 q2.1 6) (n := 3) (q0 := 5) ⟨hx, hb, hml, hown, hts⟩ (c_X2_findBest l D cy sefH sefB seh ser x_tray tra trb trc srh sra sef seb seo sew tr sr 2 q2 hq2) gX6_weighGroups_X2_findBest rfl (by decide +kernel) ⟨by rw [hRf]; exact Nat.le_of_ble_eq_true rfl, by rw [hRl]; exact Nat.le_of_ble_eq_true rfl⟩ hE hP hD hS hA ([5, 6, 8, 9, 10, 11, 3, 4] ++ rng 12 12) (by decide +kernel) (blkC rfl rfl) (blkA rfl) (blkU rfl rfl rfl) rfl rfl rfl hl.1 rfl (Nat.le_of_ble_eq_true rfl) dX6_weighGroups_74 ⟨Nat.zero_le _, Nat.zero_le _⟩ (fun H locs hP hD hS => ?_)
            refine lv_aload_n hx hb dX6_weighGroups_77 rfl (lv_at hl 0 rfl) ?_
            refine va_get (D := D) (ci := 6) (v := .ref wor) (C := RX6) (T := TX6) (N := 14) hx hb hts hiX6 hown hE.1 hP 0 rfl rfl 12 (by decide) (hts (.fieldLink RX6 65 "TiltTray" "worth" "[I") (by decide +kernel)) (fun _ h9 => h9) rfl dX6_weighGroups_78 ?_
            refine lv_iload_n hx hb dX6_weighGroups_81 rfl (lv_at hl 1 rfl) ?_
            refine lv_aload_n hx hb dX6_weighGroups_82 rfl (lv_at hl 0 rfl) ?_
            refine va_get (D := D) (ci := 6) (v := .ref seh) (C := RX6) (T := TX6) (N := 14) hx hb hts hiX6 hown hE.1 hP 0 rfl rfl 10 (by decide) (hts (.fieldLink RX6 54 "TiltTray" "search" "LTiltTray$Search;") (by decide +kernel)) (fun _ h9 => h9) rfl dX6_weighGroups_83 ?_
            refine va_get (D := D) (ci := 2) (v := .int q2.2.2.1) (C := RX2) (T := TX2) (N := 4) hx hb hts hiX2 hown hE.1 hP 5 rfl rfl 2 (by decide) (hts (.fieldLink RX6 184 "TiltTray$Search" "found" "I") (by decide +kernel)) (fun _ h9 => h9) rfl dX6_weighGroups_86 ?_
            obtain ⟨g3, h⟩ := og h
            refine va_iast hx hb hE.1 hP hD hS 7 0 rfl rfl (ix_in g3) dX6_weighGroups_89 (fun H locs hP hD hS => ?_)
            have hP : va_P D vwCl ((cTT xh x_text noh srh x_acts x_slots x_sights seh x_pairs wor x_tray x_draft x_let x_kept x_seed ++ (cSp noh noa cy.1 no ++ (cSp srh sra cy.1 sr ++ (cSe seh ser sefH cy.2.2.2.1 q2.2.1 q2.2.2.1 q2.2.2.2 ++ ([(wor, .inl (cy.1, 16, .inl (upd wo x1.toNatClampNeg q2.2.2.1)))] ++ (cTr x_tray tra trb trc cy.1 tr)))))) ++ cSps sefH sefB cy.1 q2.1 6) H := hP
            have hD : va_D A ((cTT xh x_text noh srh x_acts x_slots x_sights seh x_pairs wor x_tray x_draft x_let x_kept x_seed ++ (cSp noh noa cy.1 no ++ (cSp srh sra cy.1 sr ++ (cSe seh ser sefH cy.2.2.2.1 q2.2.1 q2.2.2.1 q2.2.2.2 ++ ([(wor, .inl (cy.1, 16, .inl (upd wo x1.toNatClampNeg q2.2.2.1)))] ++ (cTr x_tray tra trb trc cy.1 tr)))))) ++ cSps sefH sefB cy.1 q2.1 6) := hD
            refine lv_iinc (v := x1 + 1) (lv' := [(1, .int (x1 + 1)), (0, .ref xh), (2, .int x2)]) hx hb dX6_weighGroups_90 hl (k := 1) rfl rfl (by decide) rfl (fun ls hl => ?_)
            refine lv_goto (tgt := 2) hx hb dX6_weighGroups_93 (by decide) ?_
            exact ih2 (x1 + 1) sr q2.1 q2.2.1 q2.2.2.1 q2.2.2.2 (upd wo x1.toNatClampNeg q2.2.2.1) _ _ _ (lv_sub hl [1, 0] rfl) hP hD hS h
          · have h := oif h c1
            refine lv_iload_n hx hb dX6_weighGroups_39 rfl (lv_at hl 1 rfl) ?_
            refine lv_iload_n hx hb dX6_weighGroups_40 rfl (lv_at hl 2 rfl) ?_
            obtain ⟨q4, hq4, h⟩ := ob h
            refine kS (As := [.int x1, .int x2]) (rest := []) (w2 := (cTT xh x_text noh srh x_acts x_slots x_sights seh x_pairs wor x_tray x_draft x_let x_kept x_seed ++ (cSp noh noa cy.1 no ++ (cSp srh sra cy.1 sr ++ (cSe seh ser sefH cy.2.2.2.1 seb seo sew ++ ([(wor, .inl (cy.1, 16, .inl wo))] ++ (cTr x_tray tra trb trc cy.1 tr)))))) ++ cSps sefH sefB cy.1 sef 6) (n := 2) ⟨hx, hb, hml, hown, hts⟩ (c_X6_bitOf l D cy x1 x2 q4 hq4) gX6_weighGroups_X6_bitOf rfl (by decide +kernel) ⟨by rw [hRf]; exact Nat.le_of_ble_eq_true rfl, by rw [hRl]; exact Nat.le_of_ble_eq_true rfl⟩ hE hP hD hS hA [] rfl rfl rfl rfl rfl hl.1 rfl (Nat.le_of_ble_eq_true rfl) dX6_weighGroups_41 ⟨Nat.zero_le _, Nat.zero_le _⟩ (fun H locs hP hD hS => ?_)
            refine lv_if_ne (tgt := 55) hx hb dX6_weighGroups_44 (by decide) (fun c5 => ?_) (fun c5 => ?_)
            · have h := oif h c5
              refine lv_iinc (v := x2 + 1) (lv' := [(2, .int (x2 + 1)), (0, .ref xh), (1, .int x1)]) hx hb dX6_weighGroups_55 hl (k := 2) rfl rfl (by decide) rfl (fun ls hl => ?_)
              refine lv_goto (tgt := 28) hx hb dX6_weighGroups_58 (by decide) ?_
              exact ih28 x1 (x2 + 1) sr sef seb seo sew wo _ _ _ (lv_sub hl [1, 2, 0] rfl) hP hD hS h
            · have h := oit h c5
              refine lv_aload_n hx hb dX6_weighGroups_47 rfl (lv_at hl 0 rfl) ?_
              refine va_get (D := D) (ci := 6) (v := .ref srh) (C := RX6) (T := TX6) (N := 14) hx hb hts hiX6 hown hE.1 hP 0 rfl rfl 5 (by decide) (hts (.fieldLink RX6 30 "TiltTray" "spare" "LTiltTray$Spot;") (by decide +kernel)) (fun _ h9 => h9) rfl dX6_weighGroups_48 ?_
              refine lv_iload_n hx hb dX6_weighGroups_51 rfl (lv_at hl 2 rfl) ?_
              obtain ⟨q6, hq6, h⟩ := ob h
              refine kV (As := [.int x2]) (rest := []) (w2 := (cTT xh x_text noh srh x_acts x_slots x_sights seh x_pairs wor x_tray x_draft x_let x_kept x_seed ++ (cSp noh noa cy.1 no ++ (cSp srh sra cy.1 q6 ++ (cSe seh ser sefH cy.2.2.2.1 seb seo sew ++ ([(wor, .inl (cy.1, 16, .inl wo))] ++ (cTr x_tray tra trb trc cy.1 tr)))))) ++ cSps sefH sefB cy.1 sef 6) (n := 1) (q0 := 3) ⟨hx, hb, hml, hown, hts⟩ (c_X4_leave l D cy srh sra sr x2 q6 hq6) gX6_weighGroups_X4_leave rfl (by decide +kernel) ⟨by rw [hRf]; exact Nat.le_of_ble_eq_true rfl, by rw [hRl]; exact Nat.le_of_ble_eq_true rfl⟩ hE hP hD hS hA [3, 4] rfl rfl rfl rfl rfl rfl rfl hl.1 rfl (Nat.le_of_ble_eq_true rfl) dX6_weighGroups_52 ⟨Nat.zero_le _, Nat.zero_le _⟩ (fun H locs hP hD hS => ?_)
              refine lv_iinc (v := x2 + 1) (lv' := [(2, .int (x2 + 1)), (0, .ref xh), (1, .int x1)]) hx hb dX6_weighGroups_55 hl (k := 2) rfl rfl (by decide) rfl (fun ls hl => ?_)
              refine lv_goto (tgt := 28) hx hb dX6_weighGroups_58 (by decide) ?_
              exact ih28 x1 (x2 + 1) q6 sef seb seo sew wo _ _ _ (lv_sub hl [1, 2, 0] rfl) hP hD hS h
      refine lv_iload_n hx hb dX6_weighGroups_2 rfl (lv_at hl 1 rfl) ?_
      refine lv_iconst (v := 1) hx hb dX6_weighGroups_3 (by decide) ?_
      refine lv_aload_n hx hb dX6_weighGroups_4 rfl (lv_at hl 0 rfl) ?_
      refine va_get (D := D) (ci := 6) (v := .ref x_tray) (C := RX6) (T := TX6) (N := 14) hx hb hts hiX6 hown hE.1 hP 0 rfl rfl 2 (by decide) (hts (.fieldLink RX6 16 "TiltTray" "tray" "LTiltTray$Tray;") (by decide +kernel)) (fun _ h9 => h9) rfl dX6_weighGroups_5 ?_
      refine va_get (D := D) (ci := 5) (v := .int tr.2.2.2.1) (C := RX5) (T := TX5) (N := 5) hx hb hts hiX5 hown hE.1 hP 8 rfl rfl 3 (by decide) (hts (.fieldLink RX6 96 "TiltTray$Tray" "marbles" "I") (by decide +kernel)) (fun _ h9 => h9) rfl dX6_weighGroups_8 ?_
      refine lv_ishl hx hb dX6_weighGroups_11 ?_
      refine lv_icmp_ge (tgt := 96) hx hb dX6_weighGroups_12 (by decide) (fun c7 => ?_) (fun c7 => ?_)
      · have h := oit h c7
        obtain rfl := Option.some.inj h
        rw [hQ]; exact ct_vret hx hb hr hlocks hP hS rfl dX6_weighGroups_96
      · have h := oif h c7
        refine lv_aload_n hx hb dX6_weighGroups_15 rfl (lv_at hl 0 rfl) ?_
        refine va_get (D := D) (ci := 6) (v := .ref srh) (C := RX6) (T := TX6) (N := 14) hx hb hts hiX6 hown hE.1 hP 0 rfl rfl 5 (by decide) (hts (.fieldLink RX6 30 "TiltTray" "spare" "LTiltTray$Spot;") (by decide +kernel)) (fun _ h9 => h9) rfl dX6_weighGroups_16 ?_
        refine lv_aload_n hx hb dX6_weighGroups_19 rfl (lv_at hl 0 rfl) ?_
        refine va_get (D := D) (ci := 6) (v := .ref noh) (C := RX6) (T := TX6) (N := 14) hx hb hts hiX6 hown hE.1 hP 0 rfl rfl 4 (by decide) (hts (.fieldLink RX6 26 "TiltTray" "now" "LTiltTray$Spot;") (by decide +kernel)) (fun _ h9 => h9) rfl dX6_weighGroups_20 ?_
        obtain ⟨q8, hq8, h⟩ := ob h
        refine kV (As := [.ref noh]) (rest := []) (w2 := (cTT xh x_text noh srh x_acts x_slots x_sights seh x_pairs wor x_tray x_draft x_let x_kept x_seed ++ (cSp noh noa cy.1 no ++ (cSp srh sra cy.1 q8 ++ (cSe seh ser sefH cy.2.2.2.1 seb seo sew ++ ([(wor, .inl (cy.1, 16, .inl wo))] ++ (cTr x_tray tra trb trc cy.1 tr)))))) ++ cSps sefH sefB cy.1 sef 6) (n := 1) (q0 := 3) ⟨hx, hb, hml, hown, hts⟩ (c_X4_take l D cy srh sra noh noa sr no q8 hq8) gX6_weighGroups_X4_take rfl (by decide +kernel) ⟨by rw [hRf]; exact Nat.le_of_ble_eq_true rfl, by rw [hRl]; exact Nat.le_of_ble_eq_true rfl⟩ hE hP hD hS hA [3, 4, 1, 2] rfl rfl rfl rfl rfl rfl rfl hl.1 rfl (Nat.le_of_ble_eq_true rfl) dX6_weighGroups_23 ⟨Nat.zero_le _, Nat.zero_le _⟩ (fun H locs hP hD hS => ?_)
        refine lv_iconst (v := 0) hx hb dX6_weighGroups_26 (by decide) ?_
        refine lv_istore_n (lv' := [(2, .int 0), (0, .ref xh), (1, .int x1)]) hx hb dX6_weighGroups_27 rfl hl (by decide) rfl (fun ls hl => ?_)
        exact L28 5 x1 0 q8 sef seb seo sew wo _ _ _ (lv_sub hl [1, 2, 0] rfl) hP hD hS h
  refine lv_iconst (v := 0) hx hb dX6_weighGroups_0 (by decide) ?_
  refine lv_istore_n (lv' := [(1, .int 0), (0, .ref xh)]) hx hb dX6_weighGroups_1 rfl hl (by decide) rfl (fun ls hl => ?_)
  exact L2 17 0 sr sef seb seo sew wo _ _ _ (lv_sub hl [1, 0] rfl) hP hD hS h

def tw_X6_share_22 (no : SpS) (tr : TrS) (p1 : Int32) (p2 : Int32) : Nat → Int32 → Int32 → SpS → (Nat → SpS) → Int32 → Int32 → Int32 → (Nat → Int32) → Option (Int32 × SpS × (Nat → SpS) × Int32 × Int32 × Int32 × (Nat → Int32))
  | 0, _, _, _, _, _, _, _, _ => none
  | n + 1, x3, x4, sr, sef, seb, seo, sew, wo =>
    if (1 <<< (tr.2.2.2.1 &&& 31)) ≤ x4 then (if ix tr.2.2.2.1 5 = true then ((tw_X6_tellFraction x3 (tOrd tr.2.2.2.1.toNatClampNeg) p2).bind (fun q3 => some (q3, sr, sef, seb, seo, sew, wo))) else none) else ((tw_X6_bitOf x4 p1).bind (fun q4 => if q4 = 0 then ((tw_J6_bitCount_0f7a4 x4).bind (fun q6 => if ix q6 5 = true then (if ix ((tr.2.2.2.1 - q6) - 1) 5 = true then (if ix (x4 ||| (1 <<< (p1 &&& 31))) 16 = true then (if ix x4 16 = true then (nm (x3 + (((tOrd q6.toNatClampNeg) * (tOrd ((tr.2.2.2.1 - q6) - 1).toNatClampNeg)) * ((wo (x4 ||| (1 <<< (p1 &&& 31))).toNatClampNeg) - (wo x4.toNatClampNeg)))) (fun v11 => (tw_X6_share_22 no tr p1 p2 n) v11 (x4 + 1) sr sef seb seo sew wo)) else none) else none) else none) else none)) else ((tw_X6_share_22 no tr p1 p2 n) x3 (x4 + 1) sr sef seb seo sew wo)))
def tw_X6_share (no : SpS) (sr : SpS) (sef : Nat → SpS) (seb : Int32) (seo : Int32) (sew : Int32) (wo : Nat → Int32) (tr : TrS) (p1 : Int32) (p2 : Int32) : Option (Int32 × SpS × (Nat → SpS) × Int32 × Int32 × Int32 × (Nat → Int32)) :=
  (tw_X5_has tr p1).bind (fun q12 => if q12 = 0 then (some ((-1), sr, sef, seb, seo, sew, wo)) else ((tw_X6_weighGroups no sr sef seb seo sew wo tr).bind (fun q14 => tw_X6_share_22 no tr p1 p2 17 0 0 q14.1 q14.2.1 q14.2.2.1 q14.2.2.2.1 q14.2.2.2.2.1 q14.2.2.2.2.2)))
set_option maxHeartbeats 4000000 in
set_option maxRecDepth 100000 in
theorem c_X6_share (l : Launch) (D : va_G) (cy : Cy) (xh : Nat) (x_text : Nat) (noh : Nat) (noa : Nat) (srh : Nat) (sra : Nat) (x_acts : Nat) (x_slots : Nat) (x_sights : Nat) (sefH : Nat → Nat) (sefB : Nat → Nat) (seh : Nat) (ser : Nat) (x_pairs : Nat) (wor : Nat) (x_tray : Nat) (tra : Nat) (trb : Nat) (trc : Nat) (x_draft : Nat) (no : SpS) (sr : SpS) (sef : Nat → SpS) (seb : Int32) (seo : Int32) (sew : Int32) (wo : Nat → Int32) (tr : TrS) (x_let : Int32) (x_kept : Int32) (x_seed : Int64) (p1 : Int32) (p2 : Int32) (res : Int32 × SpS × (Nat → SpS) × Int32 × Int32 × Int32 × (Nat → Int32)) (h : tw_X6_share no sr sef seb seo sew wo tr p1 p2 = some res) : Ct l yX6_share wsX6_share 13 320 D cy [.ref xh, .int p1, .int p2] ((cTT xh x_text noh srh x_acts x_slots x_sights seh x_pairs wor x_tray x_draft x_let x_kept x_seed ++ (cSp noh noa cy.1 no ++ (cSp srh sra cy.1 sr ++ (cSe seh ser sefH cy.2.2.2.1 seb seo sew ++ ([(wor, .inl (cy.1, 16, .inl wo))] ++ (cTr x_tray tra trb trc cy.1 tr)))))) ++ cSps sefH sefB cy.1 sef 6) ((cTT xh x_text noh srh x_acts x_slots x_sights seh x_pairs wor x_tray x_draft x_let x_kept x_seed ++ (cSp noh noa cy.1 no ++ (cSp srh sra cy.1 res.2.1 ++ (cSe seh ser sefH cy.2.2.2.1 res.2.2.2.1 res.2.2.2.2.1 res.2.2.2.2.2.1 ++ ([(wor, .inl (cy.1, 16, .inl res.2.2.2.2.2.2))] ++ (cTr x_tray tra trb trc cy.1 tr)))))) ++ cSps sefH sefB cy.1 res.2.2.1 6) (some (.int res.1)) := by
  refine Ct.ofW (cc := cX6_share) (maxL := 7) (ret := (some .int)) (by decide) rfl (Nat.le_of_ble_eq_true rfl) ?_
  intro p e R s m args below meth c A Q ls hRf hRl hQ hx hb hr hml hts hown hlocks hE hP hD hS hA hl
  have hiX5 : ∀ w ∈ u_ws RX5 TX5 5, w ∈ wsX6_share := by decide +kernel
  have hiX6 : ∀ w ∈ u_ws RX6 TX6 14, w ∈ wsX6_share := by decide +kernel
  have hl : lv_has ls 7 [(0, .ref xh), (1, .int p1), (2, .int p2)] := hl
  rw [tw_X6_share] at h
  have L22 : ∀ (n : Nat) (x3 : Int32) (x4 : Int32) (sr : SpS) (sef : Nat → SpS) (seb : Int32) (seo : Int32) (sew : Int32) (wo : Nat → Int32)  (H : Heap) (locs : List Loc) (ls : Array Slot), lv_has ls 7 [(0, .ref xh), (1, .int p1), (2, .int p2), (3, .int x3), (4, .int x4)] → va_P D vwCl ((cTT xh x_text noh srh x_acts x_slots x_sights seh x_pairs wor x_tray x_draft x_let x_kept x_seed ++ (cSp noh noa cy.1 no ++ (cSp srh sra cy.1 sr ++ (cSe seh ser sefH cy.2.2.2.1 seb seo sew ++ ([(wor, .inl (cy.1, 16, .inl wo))] ++ (cTr x_tray tra trb trc cy.1 tr)))))) ++ cSps sefH sefB cy.1 sef 6) H → va_D A ((cTT xh x_text noh srh x_acts x_slots x_sights seh x_pairs wor x_tray x_draft x_let x_kept x_seed ++ (cSp noh noa cy.1 no ++ (cSp srh sra cy.1 sr ++ (cSe seh ser sefH cy.2.2.2.1 seb seo sew ++ ([(wor, .inl (cy.1, 16, .inl wo))] ++ (cTr x_tray tra trb trc cy.1 tr)))))) ++ cSps sefH sefB cy.1 sef 6) → va_S A s.heap H locs → tw_X6_share_22 no tr p1 p2 n x3 x4 sr sef seb seo sew wo = some res → W p l e R s m args below meth c H locs 0 0 Q (F0 m 22 ls []) := by
    intro n22
    induction n22 with
    | zero =>
      intro x3 x4 sr sef seb seo sew wo  H locs ls hl hP hD hS h
      exact absurd h (by rw [tw_X6_share_22]; exact fun q => by cases q)
    | succ n22 ih22 =>
      intro x3 x4 sr sef seb seo sew wo  H locs ls hl hP hD hS h
      rw [tw_X6_share_22] at h
      refine lv_iload hx hb dX6_share_22 (lv_at hl 4 rfl) ?_
      refine lv_iconst (v := 1) hx hb dX6_share_24 (by decide) ?_
      refine lv_aload_n hx hb dX6_share_25 rfl (lv_at hl 0 rfl) ?_
      refine va_get (D := D) (ci := 6) (v := .ref x_tray) (C := RX6) (T := TX6) (N := 14) hx hb hts hiX6 hown hE.1 hP 0 rfl rfl 2 (by decide) (hts (.fieldLink RX6 16 "TiltTray" "tray" "LTiltTray$Tray;") (by decide +kernel)) (fun _ h9 => h9) rfl dX6_share_26 ?_
      refine va_get (D := D) (ci := 5) (v := .int tr.2.2.2.1) (C := RX5) (T := TX5) (N := 5) hx hb hts hiX5 hown hE.1 hP 8 rfl rfl 3 (by decide) (hts (.fieldLink RX6 96 "TiltTray$Tray" "marbles" "I") (by decide +kernel)) (fun _ h9 => h9) rfl dX6_share_29 ?_
      refine lv_ishl hx hb dX6_share_32 ?_
      refine lv_icmp_ge (tgt := 108) hx hb dX6_share_33 (by decide) (fun c1 => ?_) (fun c1 => ?_)
      · have h := oit h c1
        refine lv_iload_n hx hb dX6_share_108 rfl (lv_at hl 3 rfl) ?_
        refine va_gets hx hb hE.2.2.2.1.1 hS hown (hts (.fieldLink RX6 226 "TiltTray" "ORDERS" "[I") (by decide +kernel)) (fun _ h9 => h9) dX6_share_109 ?_
        refine lv_aload_n hx hb dX6_share_112 rfl (lv_at hl 0 rfl) ?_
        refine va_get (D := D) (ci := 6) (v := .ref x_tray) (C := RX6) (T := TX6) (N := 14) hx hb hts hiX6 hown hE.1 hP 0 rfl rfl 2 (by decide) (hts (.fieldLink RX6 16 "TiltTray" "tray" "LTiltTray$Tray;") (by decide +kernel)) (fun _ h9 => h9) rfl dX6_share_113 ?_
        refine va_get (D := D) (ci := 5) (v := .int tr.2.2.2.1) (C := RX5) (T := TX5) (N := 5) hx hb hts hiX5 hown hE.1 hP 8 rfl rfl 3 (by decide) (hts (.fieldLink RX6 96 "TiltTray$Tray" "marbles" "I") (by decide +kernel)) (fun _ h9 => h9) rfl dX6_share_116 ?_
        obtain ⟨g2, h⟩ := og h
        refine va_ti hx hb hE.2.2.2.1.2 hS (ix_in g2) rfl dX6_share_119 ?_
        refine lv_iload_n hx hb dX6_share_120 rfl (lv_at hl 2 rfl) ?_
        obtain ⟨q3, hq3, h⟩ := ob h
        refine kS (As := [.int x3, .int (tOrd tr.2.2.2.1.toNatClampNeg), .int p2]) (rest := []) (w2 := (cTT xh x_text noh srh x_acts x_slots x_sights seh x_pairs wor x_tray x_draft x_let x_kept x_seed ++ (cSp noh noa cy.1 no ++ (cSp srh sra cy.1 sr ++ (cSe seh ser sefH cy.2.2.2.1 seb seo sew ++ ([(wor, .inl (cy.1, 16, .inl wo))] ++ (cTr x_tray tra trb trc cy.1 tr)))))) ++ cSps sefH sefB cy.1 sef 6) (n := 3) ⟨hx, hb, hml, hown, hts⟩ (c_X6_tellFraction l D cy x3 (tOrd tr.2.2.2.1.toNatClampNeg) p2 q3 hq3) gX6_share_X6_tellFraction rfl (by decide +kernel) ⟨by rw [hRf]; exact Nat.le_of_ble_eq_true rfl, by rw [hRl]; exact Nat.le_of_ble_eq_true rfl⟩ hE hP hD hS hA [] rfl rfl rfl rfl rfl hl.1 rfl (Nat.le_of_ble_eq_true rfl) dX6_share_121 ⟨Nat.zero_le _, Nat.zero_le _⟩ (fun H locs hP hD hS => ?_)
        obtain rfl := Option.some.inj h
        rw [hQ]; exact ct_iret hx hb hr hlocks hP hS rfl dX6_share_124
      · have h := oif h c1
        refine lv_iload hx hb dX6_share_36 (lv_at hl 4 rfl) ?_
        refine lv_iload_n hx hb dX6_share_38 rfl (lv_at hl 1 rfl) ?_
        obtain ⟨q4, hq4, h⟩ := ob h
        refine kS (As := [.int x4, .int p1]) (rest := []) (w2 := (cTT xh x_text noh srh x_acts x_slots x_sights seh x_pairs wor x_tray x_draft x_let x_kept x_seed ++ (cSp noh noa cy.1 no ++ (cSp srh sra cy.1 sr ++ (cSe seh ser sefH cy.2.2.2.1 seb seo sew ++ ([(wor, .inl (cy.1, 16, .inl wo))] ++ (cTr x_tray tra trb trc cy.1 tr)))))) ++ cSps sefH sefB cy.1 sef 6) (n := 2) ⟨hx, hb, hml, hown, hts⟩ (c_X6_bitOf l D cy x4 p1 q4 hq4) gX6_share_X6_bitOf rfl (by decide +kernel) ⟨by rw [hRf]; exact Nat.le_of_ble_eq_true rfl, by rw [hRl]; exact Nat.le_of_ble_eq_true rfl⟩ hE hP hD hS hA [] rfl rfl rfl rfl rfl hl.1 rfl (Nat.le_of_ble_eq_true rfl) dX6_share_39 ⟨Nat.zero_le _, Nat.zero_le _⟩ (fun H locs hP hD hS => ?_)
        refine lv_if_ne (tgt := 102) hx hb dX6_share_42 (by decide) (fun c5 => ?_) (fun c5 => ?_)
        · have h := oif h c5
          refine lv_iinc (v := x4 + 1) (lv' := [(4, .int (x4 + 1)), (0, .ref xh), (1, .int p1), (2, .int p2), (3, .int x3)]) hx hb dX6_share_102 hl (k := 4) rfl rfl (by decide) rfl (fun ls hl => ?_)
          refine lv_goto (tgt := 22) hx hb dX6_share_105 (by decide) ?_
          exact ih22 x3 (x4 + 1) sr sef seb seo sew wo _ _ _ (lv_sub hl [1, 2, 3, 4, 0] rfl) hP hD hS h
        · have h := oit h c5
          refine lv_iload hx hb dX6_share_45 (lv_at hl 4 rfl) ?_
          obtain ⟨q6, hq6, h⟩ := ob h
          refine kS (As := [.int x4]) (rest := []) (w2 := (cTT xh x_text noh srh x_acts x_slots x_sights seh x_pairs wor x_tray x_draft x_let x_kept x_seed ++ (cSp noh noa cy.1 no ++ (cSp srh sra cy.1 sr ++ (cSe seh ser sefH cy.2.2.2.1 seb seo sew ++ ([(wor, .inl (cy.1, 16, .inl wo))] ++ (cTr x_tray tra trb trc cy.1 tr)))))) ++ cSps sefH sefB cy.1 sef 6) (n := 1) ⟨hx, hb, hml, hown, hts⟩ (c_J6_bitCount_0f7a4 l D cy x4 q6 hq6) gX6_share_J6_bitCount_0f7a4 rfl (by decide +kernel) ⟨by rw [hRf]; exact Nat.le_of_ble_eq_true rfl, by rw [hRl]; exact Nat.le_of_ble_eq_true rfl⟩ hE hP hD hS hA [] rfl rfl rfl rfl rfl hl.1 rfl (Nat.le_of_ble_eq_true rfl) dX6_share_47 ⟨Nat.zero_le _, Nat.zero_le _⟩ (fun H locs hP hD hS => ?_)
          refine lv_istore (lv' := [(5, .int q6), (0, .ref xh), (1, .int p1), (2, .int p2), (3, .int x3), (4, .int x4)]) hx hb dX6_share_50 hl (by decide) rfl (fun ls hl => ?_)
          refine va_gets hx hb hE.2.2.2.1.1 hS hown (hts (.fieldLink RX6 226 "TiltTray" "ORDERS" "[I") (by decide +kernel)) (fun _ h9 => h9) dX6_share_52 ?_
          refine lv_iload hx hb dX6_share_55 (lv_at hl 0 rfl) ?_
          obtain ⟨g7, h⟩ := og h
          refine va_ti hx hb hE.2.2.2.1.2 hS (ix_in g7) rfl dX6_share_57 ?_
          refine va_gets hx hb hE.2.2.2.1.1 hS hown (hts (.fieldLink RX6 226 "TiltTray" "ORDERS" "[I") (by decide +kernel)) (fun _ h9 => h9) dX6_share_58 ?_
          refine lv_aload_n hx hb dX6_share_61 rfl (lv_at hl 1 rfl) ?_
          refine va_get (D := D) (ci := 6) (v := .ref x_tray) (C := RX6) (T := TX6) (N := 14) hx hb hts hiX6 hown hE.1 hP 0 rfl rfl 2 (by decide) (hts (.fieldLink RX6 16 "TiltTray" "tray" "LTiltTray$Tray;") (by decide +kernel)) (fun _ h9 => h9) rfl dX6_share_62 ?_
          refine va_get (D := D) (ci := 5) (v := .int tr.2.2.2.1) (C := RX5) (T := TX5) (N := 5) hx hb hts hiX5 hown hE.1 hP 8 rfl rfl 3 (by decide) (hts (.fieldLink RX6 96 "TiltTray$Tray" "marbles" "I") (by decide +kernel)) (fun _ h9 => h9) rfl dX6_share_65 ?_
          refine lv_iload hx hb dX6_share_68 (lv_at hl 0 rfl) ?_
          refine lv_isub hx hb dX6_share_70 ?_
          refine lv_iconst (v := 1) hx hb dX6_share_71 (by decide) ?_
          refine lv_isub hx hb dX6_share_72 ?_
          obtain ⟨g8, h⟩ := og h
          refine va_ti hx hb hE.2.2.2.1.2 hS (ix_in g8) rfl dX6_share_73 ?_
          refine lv_imul hx hb dX6_share_74 ?_
          refine lv_istore (lv' := [(6, .int ((tOrd q6.toNatClampNeg) * (tOrd ((tr.2.2.2.1 - q6) - 1).toNatClampNeg))), (5, .int q6), (0, .ref xh), (1, .int p1), (2, .int p2), (3, .int x3), (4, .int x4)]) hx hb dX6_share_75 hl (by decide) rfl (fun ls hl => ?_)
          refine lv_iload_n hx hb dX6_share_77 rfl (lv_at hl 5 rfl) ?_
          refine lv_iload hx hb dX6_share_78 (lv_at hl 0 rfl) ?_
          refine lv_aload_n hx hb dX6_share_80 rfl (lv_at hl 2 rfl) ?_
          refine va_get (D := D) (ci := 6) (v := .ref wor) (C := RX6) (T := TX6) (N := 14) hx hb hts hiX6 hown hE.1 hP 0 rfl rfl 12 (by decide) (hts (.fieldLink RX6 65 "TiltTray" "worth" "[I") (by decide +kernel)) (fun _ h9 => h9) rfl dX6_share_81 ?_
          refine lv_iload hx hb dX6_share_84 (lv_at hl 6 rfl) ?_
          refine lv_iconst (v := 1) hx hb dX6_share_86 (by decide) ?_
          refine lv_iload_n hx hb dX6_share_87 rfl (lv_at hl 3 rfl) ?_
          refine lv_ishl hx hb dX6_share_88 ?_
          refine lv_ior hx hb dX6_share_89 ?_
          obtain ⟨g9, h⟩ := og h
          refine va_iald hx hb hE.1 hP 7 0 rfl rfl (ix_in g9) dX6_share_90 ?_
          refine lv_aload_n hx hb dX6_share_91 rfl (lv_at hl 2 rfl) ?_
          refine va_get (D := D) (ci := 6) (v := .ref wor) (C := RX6) (T := TX6) (N := 14) hx hb hts hiX6 hown hE.1 hP 0 rfl rfl 12 (by decide) (hts (.fieldLink RX6 65 "TiltTray" "worth" "[I") (by decide +kernel)) (fun _ h9 => h9) rfl dX6_share_92 ?_
          refine lv_iload hx hb dX6_share_95 (lv_at hl 6 rfl) ?_
          obtain ⟨g10, h⟩ := og h
          refine va_iald hx hb hE.1 hP 7 0 rfl rfl (ix_in g10) dX6_share_97 ?_
          refine lv_isub hx hb dX6_share_98 ?_
          refine lv_imul hx hb dX6_share_99 ?_
          refine lv_iadd hx hb dX6_share_100 ?_
          refine lv_topi (fun v11 ev11 => ?_)
          have h := nmh ev11 h
          refine lv_istore_n (lv' := [(3, .int v11), (6, .int ((tOrd q6.toNatClampNeg) * (tOrd ((tr.2.2.2.1 - q6) - 1).toNatClampNeg))), (5, .int q6), (0, .ref xh), (1, .int p1), (2, .int p2), (4, .int x4)]) hx hb dX6_share_101 rfl hl (by decide) rfl (fun ls hl => ?_)
          refine lv_iinc (v := x4 + 1) (lv' := [(4, .int (x4 + 1)), (3, .int v11), (6, .int ((tOrd q6.toNatClampNeg) * (tOrd ((tr.2.2.2.1 - q6) - 1).toNatClampNeg))), (5, .int q6), (0, .ref xh), (1, .int p1), (2, .int p2)]) hx hb dX6_share_102 hl (k := 6) rfl rfl (by decide) rfl (fun ls hl => ?_)
          refine lv_goto (tgt := 22) hx hb dX6_share_105 (by decide) ?_
          exact ih22 v11 (x4 + 1) sr sef seb seo sew wo _ _ _ (lv_sub hl [4, 5, 6, 1, 0] rfl) hP hD hS h
  refine lv_aload_n hx hb dX6_share_0 rfl (lv_at hl 0 rfl) ?_
  refine va_get (D := D) (ci := 6) (v := .ref x_tray) (C := RX6) (T := TX6) (N := 14) hx hb hts hiX6 hown hE.1 hP 0 rfl rfl 2 (by decide) (hts (.fieldLink RX6 16 "TiltTray" "tray" "LTiltTray$Tray;") (by decide +kernel)) (fun _ h9 => h9) rfl dX6_share_1 ?_
  refine lv_iload_n hx hb dX6_share_4 rfl (lv_at hl 1 rfl) ?_
  obtain ⟨q12, hq12, h⟩ := ob h
  refine kV (As := [.int p1]) (rest := []) (w2 := (cTT xh x_text noh srh x_acts x_slots x_sights seh x_pairs wor x_tray x_draft x_let x_kept x_seed ++ (cSp noh noa cy.1 no ++ (cSp srh sra cy.1 sr ++ (cSe seh ser sefH cy.2.2.2.1 seb seo sew ++ ([(wor, .inl (cy.1, 16, .inl wo))] ++ (cTr x_tray tra trb trc cy.1 tr)))))) ++ cSps sefH sefB cy.1 sef 6) (n := 1) (q0 := 8) ⟨hx, hb, hml, hown, hts⟩ (c_X5_has l D cy x_tray tra trb trc tr p1 q12 hq12) gX6_share_X5_has rfl (by decide +kernel) ⟨by rw [hRf]; exact Nat.le_of_ble_eq_true rfl, by rw [hRl]; exact Nat.le_of_ble_eq_true rfl⟩ hE hP hD hS hA [8, 9, 10, 11] rfl rfl rfl rfl rfl rfl rfl hl.1 rfl (Nat.le_of_ble_eq_true rfl) dX6_share_5 ⟨Nat.zero_le _, Nat.zero_le _⟩ (fun H locs hP hD hS => ?_)
  refine lv_if_ne (tgt := 13) hx hb dX6_share_8 (by decide) (fun c13 => ?_) (fun c13 => ?_)
  · have h := oif h c13
    refine lv_aload_n hx hb dX6_share_13 rfl (lv_at hl 0 rfl) ?_
    obtain ⟨q14, hq14, h⟩ := ob h
    refine kV (As := []) (rest := []) (w2 := (cTT xh x_text noh srh x_acts x_slots x_sights seh x_pairs wor x_tray x_draft x_let x_kept x_seed ++ (cSp noh noa cy.1 no ++ (cSp srh sra cy.1 q14.1 ++ (cSe seh ser sefH cy.2.2.2.1 q14.2.2.1 q14.2.2.2.1 q14.2.2.2.2.1 ++ ([(wor, .inl (cy.1, 16, .inl q14.2.2.2.2.2))] ++ (cTr x_tray tra trb trc cy.1 tr)))))) ++ cSps sefH sefB cy.1 q14.2.1 6) (n := 0) (q0 := 0) ⟨hx, hb, hml, hown, hts⟩ (c_X6_weighGroups l D cy xh x_text noh noa srh sra x_acts x_slots x_sights sefH sefB seh ser x_pairs wor x_tray tra trb trc x_draft no sr sef seb seo sew wo tr x_let x_kept x_seed q14 hq14) gX6_share_X6_weighGroups rfl (by decide +kernel) ⟨by rw [hRf]; exact Nat.le_of_ble_eq_true rfl, by rw [hRl]; exact Nat.le_of_ble_eq_true rfl⟩ hE hP hD hS hA ([0, 1, 2, 3, 4, 5, 6, 7, 8, 9, 10, 11] ++ rng 12 12) (by decide +kernel) (blkC rfl rfl) (blkA rfl) (blkU rfl rfl rfl) rfl rfl rfl hl.1 rfl (Nat.le_of_ble_eq_true rfl) dX6_share_14 ⟨Nat.zero_le _, Nat.zero_le _⟩ (fun H locs hP hD hS => ?_)
    refine lv_iconst (v := 0) hx hb dX6_share_17 (by decide) ?_
    refine lv_istore_n (lv' := [(3, .int 0), (0, .ref xh), (1, .int p1), (2, .int p2)]) hx hb dX6_share_18 rfl hl (by decide) rfl (fun ls hl => ?_)
    refine lv_iconst (v := 0) hx hb dX6_share_19 (by decide) ?_
    refine lv_istore (lv' := [(4, .int 0), (3, .int 0), (0, .ref xh), (1, .int p1), (2, .int p2)]) hx hb dX6_share_20 hl (by decide) rfl (fun ls hl => ?_)
    exact L22 17 0 0 q14.1 q14.2.1 q14.2.2.1 q14.2.2.2.1 q14.2.2.2.2.1 q14.2.2.2.2.2 _ _ _ (lv_sub hl [2, 3, 4, 1, 0] rfl) hP hD hS h
  · have h := oit h c13
    refine lv_iconst (v := (-1)) hx hb dX6_share_11 (by decide) ?_
    obtain rfl := Option.some.inj h
    rw [hQ]; exact ct_iret hx hb hr hlocks hP hS rfl dX6_share_12

def tw_X6_weighPairs_41 (no : SpS) (tr : TrS) (k2 : Int32 → SpS → (Nat → Int32) → (Nat → Int32) → Option (SpS × (Nat → Int32) × (Nat → Int32))) (k9 : Int32 → Int32 → SpS → (Nat → Int32) → (Nat → Int32) → Option (SpS × (Nat → Int32) × (Nat → Int32))) (x1 : Int32) (x2 : Int32) (z0 : Int32) (sr : SpS) (pau : Nat → Int32) (pav : Nat → Int32) : Option (SpS × (Nat → Int32) × (Nat → Int32)) :=
  (tw_X4_fallenOf sr 0).bind (fun q1 => (tw_X4_fallenOf sr 1).bind (fun q2 => (tw_X1_tell pau pav x1 x2 (q1 - z0) (q2 - z0)).bind (fun q3 => k9 x1 (x2 + 1) sr q3.1 q3.2)))
def tw_X6_weighPairs_9 (no : SpS) (tr : TrS) (k2 : Int32 → SpS → (Nat → Int32) → (Nat → Int32) → Option (SpS × (Nat → Int32) × (Nat → Int32))) : Nat → Int32 → Int32 → SpS → (Nat → Int32) → (Nat → Int32) → Option (SpS × (Nat → Int32) × (Nat → Int32))
  | 0, _, _, _, _, _ => none
  | n + 1, x1, x2, sr, pau, pav =>
    if 4 ≤ x2 then (k2 (x1 + 1) sr pau pav) else ((tw_X6_tryTilt no sr tr x1).bind (fun q5 => (tw_X5_roll tr q5 x2).bind (fun q6 => if x1 = x2 then (tw_X6_weighPairs_41 no tr k2 (tw_X6_weighPairs_9 no tr k2 n) x1 x2 1 q6 pau pav) else (tw_X6_weighPairs_41 no tr k2 (tw_X6_weighPairs_9 no tr k2 n) x1 x2 0 q6 pau pav))))
def tw_X6_weighPairs_2 (no : SpS) (tr : TrS) : Nat → Int32 → SpS → (Nat → Int32) → (Nat → Int32) → Option (SpS × (Nat → Int32) × (Nat → Int32))
  | 0, _, _, _, _ => none
  | n + 1, x1, sr, pau, pav =>
    if 4 ≤ x1 then (some (sr, pau, pav)) else (tw_X6_weighPairs_9 no tr (tw_X6_weighPairs_2 no tr n) 5 x1 0 sr pau pav)
def tw_X6_weighPairs (no : SpS) (sr : SpS) (pau : Nat → Int32) (pav : Nat → Int32) (tr : TrS) : Option (SpS × (Nat → Int32) × (Nat → Int32)) :=
  tw_X6_weighPairs_2 no tr 5 0 sr pau pav
set_option maxHeartbeats 4000000 in
set_option maxRecDepth 100000 in
theorem c_X6_weighPairs (l : Launch) (D : va_G) (cy : Cy) (xh : Nat) (x_text : Nat) (noh : Nat) (noa : Nat) (srh : Nat) (sra : Nat) (x_acts : Nat) (x_slots : Nat) (x_sights : Nat) (x_search : Nat) (pah : Nat) (paa : Nat) (pab : Nat) (x_worth : Nat) (x_tray : Nat) (tra : Nat) (trb : Nat) (trc : Nat) (x_draft : Nat) (no : SpS) (sr : SpS) (pau : Nat → Int32) (pav : Nat → Int32) (tr : TrS) (x_let : Int32) (x_kept : Int32) (x_seed : Int64) (res : SpS × (Nat → Int32) × (Nat → Int32)) (h : tw_X6_weighPairs no sr pau pav tr = some res) : Ct l yX6_weighPairs wsX6_weighPairs 5 114 D cy [.ref xh] (cTT xh x_text noh srh x_acts x_slots x_sights x_search pah x_worth x_tray x_draft x_let x_kept x_seed ++ (cSp noh noa cy.1 no ++ (cSp srh sra cy.1 sr ++ (cPa pah paa pab cy.1 pau pav ++ (cTr x_tray tra trb trc cy.1 tr))))) (cTT xh x_text noh srh x_acts x_slots x_sights x_search pah x_worth x_tray x_draft x_let x_kept x_seed ++ (cSp noh noa cy.1 no ++ (cSp srh sra cy.1 res.1 ++ (cPa pah paa pab cy.1 res.2.1 res.2.2 ++ (cTr x_tray tra trb trc cy.1 tr))))) (none) := by
  refine Ct.ofW (cc := cX6_weighPairs) (maxL := 4) (ret := none) (by decide) rfl (Nat.le_of_ble_eq_true rfl) ?_
  intro p e R s m args below meth c A Q ls hRf hRl hQ hx hb hr hml hts hown hlocks hE hP hD hS hA hl
  have hiX6 : ∀ w ∈ u_ws RX6 TX6 14, w ∈ wsX6_weighPairs := by decide +kernel
  have hl : lv_has ls 4 [(0, .ref xh)] := hl
  rw [tw_X6_weighPairs] at h
  have L2 : ∀ (n : Nat) (x1 : Int32) (sr : SpS) (pau : Nat → Int32) (pav : Nat → Int32)  (H : Heap) (locs : List Loc) (ls : Array Slot), lv_has ls 4 [(0, .ref xh), (1, .int x1)] → va_P D vwCl (cTT xh x_text noh srh x_acts x_slots x_sights x_search pah x_worth x_tray x_draft x_let x_kept x_seed ++ (cSp noh noa cy.1 no ++ (cSp srh sra cy.1 sr ++ (cPa pah paa pab cy.1 pau pav ++ (cTr x_tray tra trb trc cy.1 tr))))) H → va_D A (cTT xh x_text noh srh x_acts x_slots x_sights x_search pah x_worth x_tray x_draft x_let x_kept x_seed ++ (cSp noh noa cy.1 no ++ (cSp srh sra cy.1 sr ++ (cPa pah paa pab cy.1 pau pav ++ (cTr x_tray tra trb trc cy.1 tr))))) → va_S A s.heap H locs → tw_X6_weighPairs_2 no tr n x1 sr pau pav = some res → W p l e R s m args below meth c H locs 0 0 Q (F0 m 2 ls []) := by
    intro n2
    induction n2 with
    | zero =>
      intro x1 sr pau pav  H locs ls hl hP hD hS h
      exact absurd h (by rw [tw_X6_weighPairs_2]; exact fun q => by cases q)
    | succ n2 ih2 =>
      intro x1 sr pau pav  H locs ls hl hP hD hS h
      rw [tw_X6_weighPairs_2] at h
      have L9 : ∀ (n : Nat) (x1 : Int32) (x2 : Int32) (sr : SpS) (pau : Nat → Int32) (pav : Nat → Int32)  (H : Heap) (locs : List Loc) (ls : Array Slot), lv_has ls 4 [(0, .ref xh), (1, .int x1), (2, .int x2)] → va_P D vwCl (cTT xh x_text noh srh x_acts x_slots x_sights x_search pah x_worth x_tray x_draft x_let x_kept x_seed ++ (cSp noh noa cy.1 no ++ (cSp srh sra cy.1 sr ++ (cPa pah paa pab cy.1 pau pav ++ (cTr x_tray tra trb trc cy.1 tr))))) H → va_D A (cTT xh x_text noh srh x_acts x_slots x_sights x_search pah x_worth x_tray x_draft x_let x_kept x_seed ++ (cSp noh noa cy.1 no ++ (cSp srh sra cy.1 sr ++ (cPa pah paa pab cy.1 pau pav ++ (cTr x_tray tra trb trc cy.1 tr))))) → va_S A s.heap H locs → tw_X6_weighPairs_9 no tr (tw_X6_weighPairs_2 no tr n2) n x1 x2 sr pau pav = some res → W p l e R s m args below meth c H locs 0 0 Q (F0 m 9 ls []) := by
        intro n9
        induction n9 with
        | zero =>
          intro x1 x2 sr pau pav  H locs ls hl hP hD hS h
          exact absurd h (by rw [tw_X6_weighPairs_9]; exact fun q => by cases q)
        | succ n9 ih9 =>
          intro x1 x2 sr pau pav  H locs ls hl hP hD hS h
          rw [tw_X6_weighPairs_9] at h
          have L41 : ∀ (x1 : Int32) (x2 : Int32) (z0 : Int32) (sr : SpS) (pau : Nat → Int32) (pav : Nat → Int32)  (H : Heap) (locs : List Loc) (ls : Array Slot), lv_has ls 4 [(0, .ref xh), (1, .int x1), (2, .int x2)] → va_P D vwCl (cTT xh x_text noh srh x_acts x_slots x_sights x_search pah x_worth x_tray x_draft x_let x_kept x_seed ++ (cSp noh noa cy.1 no ++ (cSp srh sra cy.1 sr ++ (cPa pah paa pab cy.1 pau pav ++ (cTr x_tray tra trb trc cy.1 tr))))) H → va_D A (cTT xh x_text noh srh x_acts x_slots x_sights x_search pah x_worth x_tray x_draft x_let x_kept x_seed ++ (cSp noh noa cy.1 no ++ (cSp srh sra cy.1 sr ++ (cPa pah paa pab cy.1 pau pav ++ (cTr x_tray tra trb trc cy.1 tr))))) → va_S A s.heap H locs → tw_X6_weighPairs_41 no tr (tw_X6_weighPairs_2 no tr n2) (tw_X6_weighPairs_9 no tr (tw_X6_weighPairs_2 no tr n2) n9) x1 x2 z0 sr pau pav = some res → W p l e R s m args below meth c H locs 0 0 Q (F0 m 41 ls [.int z0]) := by
            intro x1 x2 z0 sr pau pav  H locs ls hl hP hD hS h
            rw [tw_X6_weighPairs_41] at h
            refine lv_istore_n (lv' := [(3, .int z0), (0, .ref xh), (1, .int x1), (2, .int x2)]) hx hb dX6_weighPairs_41 rfl hl (by decide) rfl (fun ls hl => ?_)
            refine lv_aload_n hx hb dX6_weighPairs_42 rfl (lv_at hl 1 rfl) ?_
            refine va_get (D := D) (ci := 6) (v := .ref pah) (C := RX6) (T := TX6) (N := 14) hx hb hts hiX6 hown hE.1 hP 0 rfl rfl 11 (by decide) (hts (.fieldLink RX6 61 "TiltTray" "pairs" "LTiltTray$Pairs;") (by decide +kernel)) (fun _ h9 => h9) rfl dX6_weighPairs_43 ?_
            refine lv_iload_n hx hb dX6_weighPairs_46 rfl (lv_at hl 2 rfl) ?_
            refine lv_iload_n hx hb dX6_weighPairs_47 rfl (lv_at hl 3 rfl) ?_
            refine lv_aload_n hx hb dX6_weighPairs_48 rfl (lv_at hl 1 rfl) ?_
            refine va_get (D := D) (ci := 6) (v := .ref srh) (C := RX6) (T := TX6) (N := 14) hx hb hts hiX6 hown hE.1 hP 0 rfl rfl 5 (by decide) (hts (.fieldLink RX6 30 "TiltTray" "spare" "LTiltTray$Spot;") (by decide +kernel)) (fun _ h9 => h9) rfl dX6_weighPairs_49 ?_
            refine lv_iconst (v := 0) hx hb dX6_weighPairs_52 (by decide) ?_
            obtain ⟨q1, hq1, h⟩ := ob h
            refine kV (As := [.int 0]) (rest := [.int x2, .int x1, .ref pah]) (w2 := cTT xh x_text noh srh x_acts x_slots x_sights x_search pah x_worth x_tray x_draft x_let x_kept x_seed ++ (cSp noh noa cy.1 no ++ (cSp srh sra cy.1 sr ++ (cPa pah paa pab cy.1 pau pav ++ (cTr x_tray tra trb trc cy.1 tr))))) (n := 1) (q0 := 3) ⟨hx, hb, hml, hown, hts⟩ (c_X4_fallenOf l D cy srh sra sr 0 q1 hq1) gX6_weighPairs_X4_fallenOf rfl (by decide +kernel) ⟨by rw [hRf]; exact Nat.le_of_ble_eq_true rfl, by rw [hRl]; exact Nat.le_of_ble_eq_true rfl⟩ hE hP hD hS hA [3, 4] rfl rfl rfl rfl rfl rfl rfl hl.1 rfl (Nat.le_of_ble_eq_true rfl) dX6_weighPairs_53 ⟨Nat.zero_le _, Nat.zero_le _⟩ (fun H locs hP hD hS => ?_)
            refine lv_iload_n hx hb dX6_weighPairs_56 rfl (lv_at hl 0 rfl) ?_
            refine lv_isub hx hb dX6_weighPairs_57 ?_
            refine lv_aload_n hx hb dX6_weighPairs_58 rfl (lv_at hl 1 rfl) ?_
            refine va_get (D := D) (ci := 6) (v := .ref srh) (C := RX6) (T := TX6) (N := 14) hx hb hts hiX6 hown hE.1 hP 0 rfl rfl 5 (by decide) (hts (.fieldLink RX6 30 "TiltTray" "spare" "LTiltTray$Spot;") (by decide +kernel)) (fun _ h9 => h9) rfl dX6_weighPairs_59 ?_
            refine lv_iconst (v := 1) hx hb dX6_weighPairs_62 (by decide) ?_
            obtain ⟨q2, hq2, h⟩ := ob h
            refine kV (As := [.int 1]) (rest := [.int (q1 - z0), .int x2, .int x1, .ref pah]) (w2 := cTT xh x_text noh srh x_acts x_slots x_sights x_search pah x_worth x_tray x_draft x_let x_kept x_seed ++ (cSp noh noa cy.1 no ++ (cSp srh sra cy.1 sr ++ (cPa pah paa pab cy.1 pau pav ++ (cTr x_tray tra trb trc cy.1 tr))))) (n := 1) (q0 := 3) ⟨hx, hb, hml, hown, hts⟩ (c_X4_fallenOf l D cy srh sra sr 1 q2 hq2) gX6_weighPairs_X4_fallenOf rfl (by decide +kernel) ⟨by rw [hRf]; exact Nat.le_of_ble_eq_true rfl, by rw [hRl]; exact Nat.le_of_ble_eq_true rfl⟩ hE hP hD hS hA [3, 4] rfl rfl rfl rfl rfl rfl rfl hl.1 rfl (Nat.le_of_ble_eq_true rfl) dX6_weighPairs_63 ⟨Nat.zero_le _, Nat.zero_le _⟩ (fun H locs hP hD hS => ?_)
            refine lv_iload_n hx hb dX6_weighPairs_66 rfl (lv_at hl 0 rfl) ?_
            refine lv_isub hx hb dX6_weighPairs_67 ?_
            obtain ⟨q3, hq3, h⟩ := ob h
            refine kV (As := [.int x1, .int x2, .int (q1 - z0), .int (q2 - z0)]) (rest := []) (w2 := cTT xh x_text noh srh x_acts x_slots x_sights x_search pah x_worth x_tray x_draft x_let x_kept x_seed ++ (cSp noh noa cy.1 no ++ (cSp srh sra cy.1 sr ++ (cPa pah paa pab cy.1 q3.1 q3.2 ++ (cTr x_tray tra trb trc cy.1 tr))))) (n := 4) (q0 := 5) ⟨hx, hb, hml, hown, hts⟩ (c_X1_tell l D cy pah paa pab pau pav x1 x2 (q1 - z0) (q2 - z0) q3 hq3) gX6_weighPairs_X1_tell rfl (by decide +kernel) ⟨by rw [hRf]; exact Nat.le_of_ble_eq_true rfl, by rw [hRl]; exact Nat.le_of_ble_eq_true rfl⟩ hE hP hD hS hA [5, 6, 7] rfl rfl rfl rfl rfl rfl rfl hl.1 rfl (Nat.le_of_ble_eq_true rfl) dX6_weighPairs_68 ⟨Nat.zero_le _, Nat.zero_le _⟩ (fun H locs hP hD hS => ?_)
            refine lv_iinc (v := x2 + 1) (lv' := [(2, .int (x2 + 1)), (3, .int z0), (0, .ref xh), (1, .int x1)]) hx hb dX6_weighPairs_71 hl (k := 3) rfl rfl (by decide) rfl (fun ls hl => ?_)
            refine lv_goto (tgt := 9) hx hb dX6_weighPairs_74 (by decide) ?_
            exact ih9 x1 (x2 + 1) sr q3.1 q3.2 _ _ _ (lv_sub hl [2, 3, 0] rfl) hP hD hS h
          refine lv_iload_n hx hb dX6_weighPairs_9 rfl (lv_at hl 2 rfl) ?_
          refine lv_iconst (v := 4) hx hb dX6_weighPairs_10 (by decide) ?_
          refine lv_icmp_ge (tgt := 77) hx hb dX6_weighPairs_11 (by decide) (fun c4 => ?_) (fun c4 => ?_)
          · have h := oit h c4
            refine lv_iinc (v := x1 + 1) (lv' := [(1, .int (x1 + 1)), (0, .ref xh), (2, .int x2)]) hx hb dX6_weighPairs_77 hl (k := 1) rfl rfl (by decide) rfl (fun ls hl => ?_)
            refine lv_goto (tgt := 2) hx hb dX6_weighPairs_80 (by decide) ?_
            exact ih2 (x1 + 1) sr pau pav _ _ _ (lv_sub hl [1, 0] rfl) hP hD hS h
          · have h := oif h c4
            refine lv_aload_n hx hb dX6_weighPairs_14 rfl (lv_at hl 0 rfl) ?_
            refine lv_iload_n hx hb dX6_weighPairs_15 rfl (lv_at hl 1 rfl) ?_
            obtain ⟨q5, hq5, h⟩ := ob h
            refine kV (As := [.int x1]) (rest := []) (w2 := cTT xh x_text noh srh x_acts x_slots x_sights x_search pah x_worth x_tray x_draft x_let x_kept x_seed ++ (cSp noh noa cy.1 no ++ (cSp srh sra cy.1 q5 ++ (cPa pah paa pab cy.1 pau pav ++ (cTr x_tray tra trb trc cy.1 tr))))) (n := 1) (q0 := 0) ⟨hx, hb, hml, hown, hts⟩ (c_X6_tryTilt l D cy xh x_text noh noa srh sra x_acts x_slots x_sights x_search pah x_worth x_tray tra trb trc x_draft no sr tr x_let x_kept x_seed x1 q5 hq5) gX6_weighPairs_X6_tryTilt rfl (by decide +kernel) ⟨by rw [hRf]; exact Nat.le_of_ble_eq_true rfl, by rw [hRl]; exact Nat.le_of_ble_eq_true rfl⟩ hE hP hD hS hA [0, 1, 2, 3, 4, 8, 9, 10, 11] rfl rfl rfl rfl rfl rfl rfl hl.1 rfl (Nat.le_of_ble_eq_true rfl) dX6_weighPairs_16 ⟨Nat.zero_le _, Nat.zero_le _⟩ (fun H locs hP hD hS => ?_)
            refine lv_aload_n hx hb dX6_weighPairs_19 rfl (lv_at hl 0 rfl) ?_
            refine va_get (D := D) (ci := 6) (v := .ref x_tray) (C := RX6) (T := TX6) (N := 14) hx hb hts hiX6 hown hE.1 hP 0 rfl rfl 2 (by decide) (hts (.fieldLink RX6 16 "TiltTray" "tray" "LTiltTray$Tray;") (by decide +kernel)) (fun _ h9 => h9) rfl dX6_weighPairs_20 ?_
            refine lv_aload_n hx hb dX6_weighPairs_23 rfl (lv_at hl 0 rfl) ?_
            refine va_get (D := D) (ci := 6) (v := .ref srh) (C := RX6) (T := TX6) (N := 14) hx hb hts hiX6 hown hE.1 hP 0 rfl rfl 5 (by decide) (hts (.fieldLink RX6 30 "TiltTray" "spare" "LTiltTray$Spot;") (by decide +kernel)) (fun _ h9 => h9) rfl dX6_weighPairs_24 ?_
            refine lv_iload_n hx hb dX6_weighPairs_27 rfl (lv_at hl 2 rfl) ?_
            obtain ⟨q6, hq6, h⟩ := ob h
            refine kV (As := [.ref srh, .int x2]) (rest := []) (w2 := cTT xh x_text noh srh x_acts x_slots x_sights x_search pah x_worth x_tray x_draft x_let x_kept x_seed ++ (cSp noh noa cy.1 no ++ (cSp srh sra cy.1 q6 ++ (cPa pah paa pab cy.1 pau pav ++ (cTr x_tray tra trb trc cy.1 tr))))) (n := 2) (q0 := 8) ⟨hx, hb, hml, hown, hts⟩ (c_X5_roll l D cy x_tray tra trb trc srh sra tr q5 x2 q6 hq6) gX6_weighPairs_X5_roll rfl (by decide +kernel) ⟨by rw [hRf]; exact Nat.le_of_ble_eq_true rfl, by rw [hRl]; exact Nat.le_of_ble_eq_true rfl⟩ hE hP hD hS hA [8, 9, 10, 11, 3, 4] rfl rfl rfl rfl rfl rfl rfl hl.1 rfl (Nat.le_of_ble_eq_true rfl) dX6_weighPairs_28 ⟨Nat.zero_le _, Nat.zero_le _⟩ (fun H locs hP hD hS => ?_)
            refine lv_iload_n hx hb dX6_weighPairs_31 rfl (lv_at hl 1 rfl) ?_
            refine lv_iload_n hx hb dX6_weighPairs_32 rfl (lv_at hl 2 rfl) ?_
            refine lv_icmp_ne (tgt := 40) hx hb dX6_weighPairs_33 (by decide) (fun c7 => ?_) (fun c7 => ?_)
            · have h := oif h c7
              refine lv_iconst (v := 0) hx hb dX6_weighPairs_40 (by decide) ?_
              exact L41 x1 x2 0 q6 pau pav _ _ _ (lv_sub hl [0, 1, 2] rfl) hP hD hS h
            · have h := oit h c7
              refine lv_iconst (v := 1) hx hb dX6_weighPairs_36 (by decide) ?_
              refine lv_goto (tgt := 41) hx hb dX6_weighPairs_37 (by decide) ?_
              exact L41 x1 x2 1 q6 pau pav _ _ _ (lv_sub hl [0, 1, 2] rfl) hP hD hS h
      refine lv_iload_n hx hb dX6_weighPairs_2 rfl (lv_at hl 1 rfl) ?_
      refine lv_iconst (v := 4) hx hb dX6_weighPairs_3 (by decide) ?_
      refine lv_icmp_ge (tgt := 83) hx hb dX6_weighPairs_4 (by decide) (fun c8 => ?_) (fun c8 => ?_)
      · have h := oit h c8
        obtain rfl := Option.some.inj h
        rw [hQ]; exact ct_vret hx hb hr hlocks hP hS rfl dX6_weighPairs_83
      · have h := oif h c8
        refine lv_iconst (v := 0) hx hb dX6_weighPairs_7 (by decide) ?_
        refine lv_istore_n (lv' := [(2, .int 0), (0, .ref xh), (1, .int x1)]) hx hb dX6_weighPairs_8 rfl hl (by decide) rfl (fun ls hl => ?_)
        exact L9 5 x1 0 sr pau pav _ _ _ (lv_sub hl [1, 2, 0] rfl) hP hD hS h
  refine lv_iconst (v := 0) hx hb dX6_weighPairs_0 (by decide) ?_
  refine lv_istore_n (lv' := [(1, .int 0), (0, .ref xh)]) hx hb dX6_weighPairs_1 rfl hl (by decide) rfl (fun ls hl => ?_)
  exact L2 5 0 sr pau pav _ _ _ (lv_sub hl [1, 0] rfl) hP hD hS h

def tw_X6_rests_33 (no : SpS) (tr : TrS) (p1 : Int32) (k24 : Int32 → Int32 → Int32 → SpS → (Nat → Int32) → (Nat → Int32) → Option (Int32 × SpS × (Nat → Int32) × (Nat → Int32))) : Nat → Int32 → Int32 → Int32 → Int32 → SpS → (Nat → Int32) → (Nat → Int32) → Option (Int32 × SpS × (Nat → Int32) × (Nat → Int32))
  | 0, _, _, _, _, _, _, _ => none
  | n + 1, x2, x3, x4, x5, sr, pau, pav =>
    if 4 ≤ x5 then (k24 x2 x3 (x4 + 1) sr pau pav) else ((tw_X1_isAtRest pau pav x4 x5).bind (fun q2 => if q2 = 0 then ((tw_X6_rests_33 no tr p1 k24 n) x2 x3 x4 (x5 + 1) sr pau pav) else (if x2 = 0 then ((tw_X6_rests_33 no tr p1 k24 n) (x2 + 1) ((10 * x4) + x5) x4 (x5 + 1) sr pau pav) else ((tw_X6_rests_33 no tr p1 k24 n) (x2 + 1) x3 x4 (x5 + 1) sr pau pav))))
def tw_X6_rests_24 (no : SpS) (tr : TrS) (p1 : Int32) : Nat → Int32 → Int32 → Int32 → SpS → (Nat → Int32) → (Nat → Int32) → Option (Int32 × SpS × (Nat → Int32) × (Nat → Int32))
  | 0, _, _, _, _, _, _ => none
  | n + 1, x2, x3, x4, sr, pau, pav =>
    if 4 ≤ x4 then (if p1 = 0 then (some (x2, sr, pau, pav)) else (some (x3, sr, pau, pav))) else (tw_X6_rests_33 no tr p1 (tw_X6_rests_24 no tr p1 n) 5 x2 x3 x4 0 sr pau pav)
def tw_X6_rests (no : SpS) (sr : SpS) (pau : Nat → Int32) (pav : Nat → Int32) (tr : TrS) (p1 : Int32) : Option (Int32 × SpS × (Nat → Int32) × (Nat → Int32)) :=
  if p1 < 0 then (some ((-2), sr, pau, pav)) else (if p1 ≤ 1 then ((tw_X6_weighPairs no sr pau pav tr).bind (fun q9 => tw_X6_rests_24 no tr p1 5 0 (-9) 0 q9.1 q9.2.1 q9.2.2)) else (some ((-2), sr, pau, pav)))
set_option maxHeartbeats 4000000 in
set_option maxRecDepth 100000 in
theorem c_X6_rests (l : Launch) (D : va_G) (cy : Cy) (xh : Nat) (x_text : Nat) (noh : Nat) (noa : Nat) (srh : Nat) (sra : Nat) (x_acts : Nat) (x_slots : Nat) (x_sights : Nat) (x_search : Nat) (pah : Nat) (paa : Nat) (pab : Nat) (x_worth : Nat) (x_tray : Nat) (tra : Nat) (trb : Nat) (trc : Nat) (x_draft : Nat) (no : SpS) (sr : SpS) (pau : Nat → Int32) (pav : Nat → Int32) (tr : TrS) (x_let : Int32) (x_kept : Int32) (x_seed : Int64) (p1 : Int32) (res : Int32 × SpS × (Nat → Int32) × (Nat → Int32)) (h : tw_X6_rests no sr pau pav tr p1 = some res) : Ct l yX6_rests wsX6_rests 6 137 D cy [.ref xh, .int p1] (cTT xh x_text noh srh x_acts x_slots x_sights x_search pah x_worth x_tray x_draft x_let x_kept x_seed ++ (cSp noh noa cy.1 no ++ (cSp srh sra cy.1 sr ++ (cPa pah paa pab cy.1 pau pav ++ (cTr x_tray tra trb trc cy.1 tr))))) (cTT xh x_text noh srh x_acts x_slots x_sights x_search pah x_worth x_tray x_draft x_let x_kept x_seed ++ (cSp noh noa cy.1 no ++ (cSp srh sra cy.1 res.2.1 ++ (cPa pah paa pab cy.1 res.2.2.1 res.2.2.2 ++ (cTr x_tray tra trb trc cy.1 tr))))) (some (.int res.1)) := by
  refine Ct.ofW (cc := cX6_rests) (maxL := 6) (ret := (some .int)) (by decide) rfl (Nat.le_of_ble_eq_true rfl) ?_
  intro p e R s m args below meth c A Q ls hRf hRl hQ hx hb hr hml hts hown hlocks hE hP hD hS hA hl
  have hiX6 : ∀ w ∈ u_ws RX6 TX6 14, w ∈ wsX6_rests := by decide +kernel
  have hl : lv_has ls 6 [(0, .ref xh), (1, .int p1)] := hl
  rw [tw_X6_rests] at h
  have L24 : ∀ (n : Nat) (x2 : Int32) (x3 : Int32) (x4 : Int32) (sr : SpS) (pau : Nat → Int32) (pav : Nat → Int32)  (H : Heap) (locs : List Loc) (ls : Array Slot), lv_has ls 6 [(0, .ref xh), (1, .int p1), (2, .int x2), (3, .int x3), (4, .int x4)] → va_P D vwCl (cTT xh x_text noh srh x_acts x_slots x_sights x_search pah x_worth x_tray x_draft x_let x_kept x_seed ++ (cSp noh noa cy.1 no ++ (cSp srh sra cy.1 sr ++ (cPa pah paa pab cy.1 pau pav ++ (cTr x_tray tra trb trc cy.1 tr))))) H → va_D A (cTT xh x_text noh srh x_acts x_slots x_sights x_search pah x_worth x_tray x_draft x_let x_kept x_seed ++ (cSp noh noa cy.1 no ++ (cSp srh sra cy.1 sr ++ (cPa pah paa pab cy.1 pau pav ++ (cTr x_tray tra trb trc cy.1 tr))))) → va_S A s.heap H locs → tw_X6_rests_24 no tr p1 n x2 x3 x4 sr pau pav = some res → W p l e R s m args below meth c H locs 0 0 Q (F0 m 24 ls []) := by
    intro n24
    induction n24 with
    | zero =>
      intro x2 x3 x4 sr pau pav  H locs ls hl hP hD hS h
      exact absurd h (by rw [tw_X6_rests_24]; exact fun q => by cases q)
    | succ n24 ih24 =>
      intro x2 x3 x4 sr pau pav  H locs ls hl hP hD hS h
      rw [tw_X6_rests_24] at h
      have L33 : ∀ (n : Nat) (x2 : Int32) (x3 : Int32) (x4 : Int32) (x5 : Int32) (sr : SpS) (pau : Nat → Int32) (pav : Nat → Int32)  (H : Heap) (locs : List Loc) (ls : Array Slot), lv_has ls 6 [(0, .ref xh), (1, .int p1), (2, .int x2), (3, .int x3), (4, .int x4), (5, .int x5)] → va_P D vwCl (cTT xh x_text noh srh x_acts x_slots x_sights x_search pah x_worth x_tray x_draft x_let x_kept x_seed ++ (cSp noh noa cy.1 no ++ (cSp srh sra cy.1 sr ++ (cPa pah paa pab cy.1 pau pav ++ (cTr x_tray tra trb trc cy.1 tr))))) H → va_D A (cTT xh x_text noh srh x_acts x_slots x_sights x_search pah x_worth x_tray x_draft x_let x_kept x_seed ++ (cSp noh noa cy.1 no ++ (cSp srh sra cy.1 sr ++ (cPa pah paa pab cy.1 pau pav ++ (cTr x_tray tra trb trc cy.1 tr))))) → va_S A s.heap H locs → tw_X6_rests_33 no tr p1 (tw_X6_rests_24 no tr p1 n24) n x2 x3 x4 x5 sr pau pav = some res → W p l e R s m args below meth c H locs 0 0 Q (F0 m 33 ls []) := by
        intro n33
        induction n33 with
        | zero =>
          intro x2 x3 x4 x5 sr pau pav  H locs ls hl hP hD hS h
          exact absurd h (by rw [tw_X6_rests_33]; exact fun q => by cases q)
        | succ n33 ih33 =>
          intro x2 x3 x4 x5 sr pau pav  H locs ls hl hP hD hS h
          rw [tw_X6_rests_33] at h
          refine lv_iload hx hb dX6_rests_33 (lv_at hl 5 rfl) ?_
          refine lv_iconst (v := 4) hx hb dX6_rests_35 (by decide) ?_
          refine lv_icmp_ge (tgt := 79) hx hb dX6_rests_36 (by decide) (fun c1 => ?_) (fun c1 => ?_)
          · have h := oit h c1
            refine lv_iinc (v := x4 + 1) (lv' := [(4, .int (x4 + 1)), (0, .ref xh), (1, .int p1), (2, .int x2), (3, .int x3), (5, .int x5)]) hx hb dX6_rests_79 hl (k := 4) rfl rfl (by decide) rfl (fun ls hl => ?_)
            refine lv_goto (tgt := 24) hx hb dX6_rests_82 (by decide) ?_
            exact ih24 x2 x3 (x4 + 1) sr pau pav _ _ _ (lv_sub hl [1, 2, 3, 4, 0] rfl) hP hD hS h
          · have h := oif h c1
            refine lv_aload_n hx hb dX6_rests_39 rfl (lv_at hl 0 rfl) ?_
            refine va_get (D := D) (ci := 6) (v := .ref pah) (C := RX6) (T := TX6) (N := 14) hx hb hts hiX6 hown hE.1 hP 0 rfl rfl 11 (by decide) (hts (.fieldLink RX6 61 "TiltTray" "pairs" "LTiltTray$Pairs;") (by decide +kernel)) (fun _ h9 => h9) rfl dX6_rests_40 ?_
            refine lv_iload hx hb dX6_rests_43 (lv_at hl 4 rfl) ?_
            refine lv_iload hx hb dX6_rests_45 (lv_at hl 5 rfl) ?_
            obtain ⟨q2, hq2, h⟩ := ob h
            refine kV (As := [.int x4, .int x5]) (rest := []) (w2 := cTT xh x_text noh srh x_acts x_slots x_sights x_search pah x_worth x_tray x_draft x_let x_kept x_seed ++ (cSp noh noa cy.1 no ++ (cSp srh sra cy.1 sr ++ (cPa pah paa pab cy.1 pau pav ++ (cTr x_tray tra trb trc cy.1 tr))))) (n := 2) (q0 := 5) ⟨hx, hb, hml, hown, hts⟩ (c_X1_isAtRest l D cy pah paa pab pau pav x4 x5 q2 hq2) gX6_rests_X1_isAtRest rfl (by decide +kernel) ⟨by rw [hRf]; exact Nat.le_of_ble_eq_true rfl, by rw [hRl]; exact Nat.le_of_ble_eq_true rfl⟩ hE hP hD hS hA [5, 6, 7] rfl rfl rfl rfl rfl rfl rfl hl.1 rfl (Nat.le_of_ble_eq_true rfl) dX6_rests_47 ⟨Nat.zero_le _, Nat.zero_le _⟩ (fun H locs hP hD hS => ?_)
            refine lv_if_eq (tgt := 73) hx hb dX6_rests_50 (by decide) (fun c3 => ?_) (fun c3 => ?_)
            · have h := oit h c3
              refine lv_iinc (v := x5 + 1) (lv' := [(5, .int (x5 + 1)), (0, .ref xh), (1, .int p1), (2, .int x2), (3, .int x3), (4, .int x4)]) hx hb dX6_rests_73 hl (k := 5) rfl rfl (by decide) rfl (fun ls hl => ?_)
              refine lv_goto (tgt := 33) hx hb dX6_rests_76 (by decide) ?_
              exact ih33 x2 x3 x4 (x5 + 1) sr pau pav _ _ _ (lv_sub hl [1, 2, 3, 4, 5, 0] rfl) hP hD hS h
            · have h := oif h c3
              refine lv_iload_n hx hb dX6_rests_53 rfl (lv_at hl 2 rfl) ?_
              refine lv_if_ne (tgt := 68) hx hb dX6_rests_54 (by decide) (fun c4 => ?_) (fun c4 => ?_)
              · have h := oif h c4
                refine lv_iload_n hx hb dX6_rests_68 rfl (lv_at hl 3 rfl) ?_
                refine lv_istore_n (lv' := [(3, .int x3), (0, .ref xh), (1, .int p1), (2, .int x2), (4, .int x4), (5, .int x5)]) hx hb dX6_rests_69 rfl hl (by decide) rfl (fun ls hl => ?_)
                refine lv_iinc (v := x2 + 1) (lv' := [(2, .int (x2 + 1)), (3, .int x3), (0, .ref xh), (1, .int p1), (4, .int x4), (5, .int x5)]) hx hb dX6_rests_70 hl (k := 3) rfl rfl (by decide) rfl (fun ls hl => ?_)
                refine lv_iinc (v := x5 + 1) (lv' := [(5, .int (x5 + 1)), (2, .int (x2 + 1)), (3, .int x3), (0, .ref xh), (1, .int p1), (4, .int x4)]) hx hb dX6_rests_73 hl (k := 5) rfl rfl (by decide) rfl (fun ls hl => ?_)
                refine lv_goto (tgt := 33) hx hb dX6_rests_76 (by decide) ?_
                exact ih33 (x2 + 1) x3 x4 (x5 + 1) sr pau pav _ _ _ (lv_sub hl [3, 4, 1, 2, 5, 0] rfl) hP hD hS h
              · have h := oit h c4
                refine lv_bipush (v := 10) hx hb dX6_rests_57 (by decide) ?_
                refine lv_iload hx hb dX6_rests_59 (lv_at hl 4 rfl) ?_
                refine lv_imul hx hb dX6_rests_61 ?_
                refine lv_iload hx hb dX6_rests_62 (lv_at hl 5 rfl) ?_
                refine lv_iadd hx hb dX6_rests_64 ?_
                refine lv_goto (tgt := 69) hx hb dX6_rests_65 (by decide) ?_
                refine lv_istore_n (lv' := [(3, .int ((10 * x4) + x5)), (0, .ref xh), (1, .int p1), (2, .int x2), (4, .int x4), (5, .int x5)]) hx hb dX6_rests_69 rfl hl (by decide) rfl (fun ls hl => ?_)
                refine lv_iinc (v := x2 + 1) (lv' := [(2, .int (x2 + 1)), (3, .int ((10 * x4) + x5)), (0, .ref xh), (1, .int p1), (4, .int x4), (5, .int x5)]) hx hb dX6_rests_70 hl (k := 3) rfl rfl (by decide) rfl (fun ls hl => ?_)
                refine lv_iinc (v := x5 + 1) (lv' := [(5, .int (x5 + 1)), (2, .int (x2 + 1)), (3, .int ((10 * x4) + x5)), (0, .ref xh), (1, .int p1), (4, .int x4)]) hx hb dX6_rests_73 hl (k := 5) rfl rfl (by decide) rfl (fun ls hl => ?_)
                refine lv_goto (tgt := 33) hx hb dX6_rests_76 (by decide) ?_
                exact ih33 (x2 + 1) ((10 * x4) + x5) x4 (x5 + 1) sr pau pav _ _ _ (lv_sub hl [3, 4, 1, 2, 5, 0] rfl) hP hD hS h
      refine lv_iload hx hb dX6_rests_24 (lv_at hl 4 rfl) ?_
      refine lv_iconst (v := 4) hx hb dX6_rests_26 (by decide) ?_
      refine lv_icmp_ge (tgt := 85) hx hb dX6_rests_27 (by decide) (fun c5 => ?_) (fun c5 => ?_)
      · have h := oit h c5
        refine lv_iload_n hx hb dX6_rests_85 rfl (lv_at hl 1 rfl) ?_
        refine lv_if_ne (tgt := 93) hx hb dX6_rests_86 (by decide) (fun c6 => ?_) (fun c6 => ?_)
        · have h := oif h c6
          refine lv_iload_n hx hb dX6_rests_93 rfl (lv_at hl 3 rfl) ?_
          obtain rfl := Option.some.inj h
          rw [hQ]; exact ct_iret hx hb hr hlocks hP hS rfl dX6_rests_94
        · have h := oit h c6
          refine lv_iload_n hx hb dX6_rests_89 rfl (lv_at hl 2 rfl) ?_
          refine lv_goto (tgt := 94) hx hb dX6_rests_90 (by decide) ?_
          obtain rfl := Option.some.inj h
          rw [hQ]; exact ct_iret hx hb hr hlocks hP hS rfl dX6_rests_94
      · have h := oif h c5
        refine lv_iconst (v := 0) hx hb dX6_rests_30 (by decide) ?_
        refine lv_istore (lv' := [(5, .int 0), (0, .ref xh), (1, .int p1), (2, .int x2), (3, .int x3), (4, .int x4)]) hx hb dX6_rests_31 hl (by decide) rfl (fun ls hl => ?_)
        exact L33 5 x2 x3 x4 0 sr pau pav _ _ _ (lv_sub hl [1, 2, 3, 4, 5, 0] rfl) hP hD hS h
  refine lv_iload_n hx hb dX6_rests_0 rfl (lv_at hl 1 rfl) ?_
  refine lv_if_lt (tgt := 9) hx hb dX6_rests_1 (by decide) (fun c7 => ?_) (fun c7 => ?_)
  · have h := oit h c7
    refine lv_bipush (v := (-2)) hx hb dX6_rests_9 (by decide) ?_
    obtain rfl := Option.some.inj h
    rw [hQ]; exact ct_iret hx hb hr hlocks hP hS rfl dX6_rests_11
  · have h := oif h c7
    refine lv_iload_n hx hb dX6_rests_4 rfl (lv_at hl 1 rfl) ?_
    refine lv_iconst (v := 1) hx hb dX6_rests_5 (by decide) ?_
    refine lv_icmp_le (tgt := 12) hx hb dX6_rests_6 (by decide) (fun c8 => ?_) (fun c8 => ?_)
    · have h := oit h c8
      refine lv_aload_n hx hb dX6_rests_12 rfl (lv_at hl 0 rfl) ?_
      obtain ⟨q9, hq9, h⟩ := ob h
      refine kV (As := []) (rest := []) (w2 := cTT xh x_text noh srh x_acts x_slots x_sights x_search pah x_worth x_tray x_draft x_let x_kept x_seed ++ (cSp noh noa cy.1 no ++ (cSp srh sra cy.1 q9.1 ++ (cPa pah paa pab cy.1 q9.2.1 q9.2.2 ++ (cTr x_tray tra trb trc cy.1 tr))))) (n := 0) (q0 := 0) ⟨hx, hb, hml, hown, hts⟩ (c_X6_weighPairs l D cy xh x_text noh noa srh sra x_acts x_slots x_sights x_search pah paa pab x_worth x_tray tra trb trc x_draft no sr pau pav tr x_let x_kept x_seed q9 hq9) gX6_rests_X6_weighPairs rfl (by decide +kernel) ⟨by rw [hRf]; exact Nat.le_of_ble_eq_true rfl, by rw [hRl]; exact Nat.le_of_ble_eq_true rfl⟩ hE hP hD hS hA [0, 1, 2, 3, 4, 5, 6, 7, 8, 9, 10, 11] rfl rfl rfl rfl rfl rfl rfl hl.1 rfl (Nat.le_of_ble_eq_true rfl) dX6_rests_13 ⟨Nat.zero_le _, Nat.zero_le _⟩ (fun H locs hP hD hS => ?_)
      refine lv_iconst (v := 0) hx hb dX6_rests_16 (by decide) ?_
      refine lv_istore_n (lv' := [(2, .int 0), (0, .ref xh), (1, .int p1)]) hx hb dX6_rests_17 rfl hl (by decide) rfl (fun ls hl => ?_)
      refine lv_bipush (v := (-9)) hx hb dX6_rests_18 (by decide) ?_
      refine lv_istore_n (lv' := [(3, .int (-9)), (2, .int 0), (0, .ref xh), (1, .int p1)]) hx hb dX6_rests_20 rfl hl (by decide) rfl (fun ls hl => ?_)
      refine lv_iconst (v := 0) hx hb dX6_rests_21 (by decide) ?_
      refine lv_istore (lv' := [(4, .int 0), (3, .int (-9)), (2, .int 0), (0, .ref xh), (1, .int p1)]) hx hb dX6_rests_22 hl (by decide) rfl (fun ls hl => ?_)
      exact L24 5 0 (-9) 0 q9.1 q9.2.1 q9.2.2 _ _ _ (lv_sub hl [3, 4, 2, 1, 0] rfl) hP hD hS h
    · have h := oif h c8
      refine lv_bipush (v := (-2)) hx hb dX6_rests_9 (by decide) ?_
      obtain rfl := Option.some.inj h
      rw [hQ]; exact ct_iret hx hb hr hlocks hP hS rfl dX6_rests_11

def tw_X6_isInBehind_14 (no : SpS) (tr : TrS) (p1 : Int32) (p2 : Int32) (p3 : Int32) (p4 : Int32) : Nat → Int32 → SpS → Option (Int32 × SpS)
  | 0, _, _ => none
  | n + 1, x5, sr =>
    if p2 ≤ x5 then ((tw_X4_isIn sr p1).bind (fun q2 => if q2 &&& 1 = q2 then (some (q2, sr)) else none)) else ((tw_X6_bitOf p4 x5).bind (fun q4 => if q4 = 0 then (if ix ((p2 - 1) - x5) 5 = true then (if ¬ (tPow ((p2 - 1) - x5).toNatClampNeg) = 0 then ((tw_X5_roll tr sr (((p3 / (tPow ((p2 - 1) - x5).toNatClampNeg)) - (p3 / (tPow ((p2 - 1) - x5).toNatClampNeg)) / 10 * 10) - 1)).bind (fun q8 => (tw_X6_isInBehind_14 no tr p1 p2 p3 p4 n) (x5 + 1) q8)) else none) else none) else ((tw_X6_isInBehind_14 no tr p1 p2 p3 p4 n) (x5 + 1) sr)))
def tw_X6_isInBehind (no : SpS) (sr : SpS) (tr : TrS) (p1 : Int32) (p2 : Int32) (p3 : Int32) (p4 : Int32) : Option (Int32 × SpS) :=
  (tw_X4_take sr no).bind (fun q9 => tw_X6_isInBehind_14 no tr p1 p2 p3 p4 6 0 q9)
set_option maxHeartbeats 4000000 in
set_option maxRecDepth 100000 in
theorem c_X6_isInBehind (l : Launch) (D : va_G) (cy : Cy) (xh : Nat) (x_text : Nat) (noh : Nat) (noa : Nat) (srh : Nat) (sra : Nat) (x_acts : Nat) (x_slots : Nat) (x_sights : Nat) (x_search : Nat) (x_pairs : Nat) (x_worth : Nat) (x_tray : Nat) (tra : Nat) (trb : Nat) (trc : Nat) (x_draft : Nat) (no : SpS) (sr : SpS) (tr : TrS) (x_let : Int32) (x_kept : Int32) (x_seed : Int64) (p1 : Int32) (p2 : Int32) (p3 : Int32) (p4 : Int32) (res : Int32 × SpS) (h : tw_X6_isInBehind no sr tr p1 p2 p3 p4 = some res) : Ct l yX6_isInBehind wsX6_isInBehind 4 93 D cy [.ref xh, .int p1, .int p2, .int p3, .int p4] (cTT xh x_text noh srh x_acts x_slots x_sights x_search x_pairs x_worth x_tray x_draft x_let x_kept x_seed ++ (cSp noh noa cy.1 no ++ (cSp srh sra cy.1 sr ++ (cTr x_tray tra trb trc cy.1 tr)))) (cTT xh x_text noh srh x_acts x_slots x_sights x_search x_pairs x_worth x_tray x_draft x_let x_kept x_seed ++ (cSp noh noa cy.1 no ++ (cSp srh sra cy.1 res.2 ++ (cTr x_tray tra trb trc cy.1 tr)))) (some (.int res.1)) := by
  refine Ct.ofW (cc := cX6_isInBehind) (maxL := 6) (ret := (some .boolean)) (by decide) rfl (Nat.le_of_ble_eq_true rfl) ?_
  intro p e R s m args below meth c A Q ls hRf hRl hQ hx hb hr hml hts hown hlocks hE hP hD hS hA hl
  have hiX6 : ∀ w ∈ u_ws RX6 TX6 14, w ∈ wsX6_isInBehind := by decide +kernel
  have hl : lv_has ls 6 [(0, .ref xh), (1, .int p1), (2, .int p2), (3, .int p3), (4, .int p4)] := hl
  rw [tw_X6_isInBehind] at h
  have L14 : ∀ (n : Nat) (x5 : Int32) (sr : SpS)  (H : Heap) (locs : List Loc) (ls : Array Slot), lv_has ls 6 [(0, .ref xh), (1, .int p1), (2, .int p2), (3, .int p3), (4, .int p4), (5, .int x5)] → va_P D vwCl (cTT xh x_text noh srh x_acts x_slots x_sights x_search x_pairs x_worth x_tray x_draft x_let x_kept x_seed ++ (cSp noh noa cy.1 no ++ (cSp srh sra cy.1 sr ++ (cTr x_tray tra trb trc cy.1 tr)))) H → va_D A (cTT xh x_text noh srh x_acts x_slots x_sights x_search x_pairs x_worth x_tray x_draft x_let x_kept x_seed ++ (cSp noh noa cy.1 no ++ (cSp srh sra cy.1 sr ++ (cTr x_tray tra trb trc cy.1 tr)))) → va_S A s.heap H locs → tw_X6_isInBehind_14 no tr p1 p2 p3 p4 n x5 sr = some res → W p l e R s m args below meth c H locs 0 0 Q (F0 m 14 ls []) := by
    intro n14
    induction n14 with
    | zero =>
      intro x5 sr  H locs ls hl hP hD hS h
      exact absurd h (by rw [tw_X6_isInBehind_14]; exact fun q => by cases q)
    | succ n14 ih14 =>
      intro x5 sr  H locs ls hl hP hD hS h
      rw [tw_X6_isInBehind_14] at h
      refine lv_iload hx hb dX6_isInBehind_14 (lv_at hl 5 rfl) ?_
      refine lv_iload_n hx hb dX6_isInBehind_16 rfl (lv_at hl 2 rfl) ?_
      refine lv_icmp_ge (tgt := 64) hx hb dX6_isInBehind_17 (by decide) (fun c1 => ?_) (fun c1 => ?_)
      · have h := oit h c1
        refine lv_aload_n hx hb dX6_isInBehind_64 rfl (lv_at hl 0 rfl) ?_
        refine va_get (D := D) (ci := 6) (v := .ref srh) (C := RX6) (T := TX6) (N := 14) hx hb hts hiX6 hown hE.1 hP 0 rfl rfl 5 (by decide) (hts (.fieldLink RX6 30 "TiltTray" "spare" "LTiltTray$Spot;") (by decide +kernel)) (fun _ h9 => h9) rfl dX6_isInBehind_65 ?_
        refine lv_iload_n hx hb dX6_isInBehind_68 rfl (lv_at hl 1 rfl) ?_
        obtain ⟨q2, hq2, h⟩ := ob h
        refine kV (As := [.int p1]) (rest := []) (w2 := cTT xh x_text noh srh x_acts x_slots x_sights x_search x_pairs x_worth x_tray x_draft x_let x_kept x_seed ++ (cSp noh noa cy.1 no ++ (cSp srh sra cy.1 sr ++ (cTr x_tray tra trb trc cy.1 tr)))) (n := 1) (q0 := 3) ⟨hx, hb, hml, hown, hts⟩ (c_X4_isIn l D cy srh sra sr p1 q2 hq2) gX6_isInBehind_X4_isIn rfl (by decide +kernel) ⟨by rw [hRf]; exact Nat.le_of_ble_eq_true rfl, by rw [hRl]; exact Nat.le_of_ble_eq_true rfl⟩ hE hP hD hS hA [3, 4] rfl rfl rfl rfl rfl rfl rfl hl.1 rfl (Nat.le_of_ble_eq_true rfl) dX6_isInBehind_69 ⟨Nat.zero_le _, Nat.zero_le _⟩ (fun H locs hP hD hS => ?_)
        obtain ⟨g3, h⟩ := og h
        obtain rfl := Option.some.inj h
        rw [hQ]; exact ct_zret hx hb hr hlocks (nar_z g3) hP hS rfl dX6_isInBehind_72
      · have h := oif h c1
        refine lv_iload hx hb dX6_isInBehind_20 (lv_at hl 4 rfl) ?_
        refine lv_iload hx hb dX6_isInBehind_22 (lv_at hl 5 rfl) ?_
        obtain ⟨q4, hq4, h⟩ := ob h
        refine kS (As := [.int p4, .int x5]) (rest := []) (w2 := cTT xh x_text noh srh x_acts x_slots x_sights x_search x_pairs x_worth x_tray x_draft x_let x_kept x_seed ++ (cSp noh noa cy.1 no ++ (cSp srh sra cy.1 sr ++ (cTr x_tray tra trb trc cy.1 tr)))) (n := 2) ⟨hx, hb, hml, hown, hts⟩ (c_X6_bitOf l D cy p4 x5 q4 hq4) gX6_isInBehind_X6_bitOf rfl (by decide +kernel) ⟨by rw [hRf]; exact Nat.le_of_ble_eq_true rfl, by rw [hRl]; exact Nat.le_of_ble_eq_true rfl⟩ hE hP hD hS hA [] rfl rfl rfl rfl rfl hl.1 rfl (Nat.le_of_ble_eq_true rfl) dX6_isInBehind_24 ⟨Nat.zero_le _, Nat.zero_le _⟩ (fun H locs hP hD hS => ?_)
        refine lv_if_ne (tgt := 58) hx hb dX6_isInBehind_27 (by decide) (fun c5 => ?_) (fun c5 => ?_)
        · have h := oif h c5
          refine lv_iinc (v := x5 + 1) (lv' := [(5, .int (x5 + 1)), (0, .ref xh), (1, .int p1), (2, .int p2), (3, .int p3), (4, .int p4)]) hx hb dX6_isInBehind_58 hl (k := 5) rfl rfl (by decide) rfl (fun ls hl => ?_)
          refine lv_goto (tgt := 14) hx hb dX6_isInBehind_61 (by decide) ?_
          exact ih14 (x5 + 1) sr _ _ _ (lv_sub hl [1, 2, 3, 4, 5, 0] rfl) hP hD hS h
        · have h := oit h c5
          refine lv_aload_n hx hb dX6_isInBehind_30 rfl (lv_at hl 0 rfl) ?_
          refine va_get (D := D) (ci := 6) (v := .ref x_tray) (C := RX6) (T := TX6) (N := 14) hx hb hts hiX6 hown hE.1 hP 0 rfl rfl 2 (by decide) (hts (.fieldLink RX6 16 "TiltTray" "tray" "LTiltTray$Tray;") (by decide +kernel)) (fun _ h9 => h9) rfl dX6_isInBehind_31 ?_
          refine lv_aload_n hx hb dX6_isInBehind_34 rfl (lv_at hl 0 rfl) ?_
          refine va_get (D := D) (ci := 6) (v := .ref srh) (C := RX6) (T := TX6) (N := 14) hx hb hts hiX6 hown hE.1 hP 0 rfl rfl 5 (by decide) (hts (.fieldLink RX6 30 "TiltTray" "spare" "LTiltTray$Spot;") (by decide +kernel)) (fun _ h9 => h9) rfl dX6_isInBehind_35 ?_
          refine lv_iload_n hx hb dX6_isInBehind_38 rfl (lv_at hl 3 rfl) ?_
          refine va_gets hx hb hE.2.2.2.2.1 hS hown (hts (.fieldLink RX6 250 "TiltTray" "POWERS" "[I") (by decide +kernel)) (fun _ h9 => h9) dX6_isInBehind_39 ?_
          refine lv_iload_n hx hb dX6_isInBehind_42 rfl (lv_at hl 2 rfl) ?_
          refine lv_iconst (v := 1) hx hb dX6_isInBehind_43 (by decide) ?_
          refine lv_isub hx hb dX6_isInBehind_44 ?_
          refine lv_iload hx hb dX6_isInBehind_45 (lv_at hl 5 rfl) ?_
          refine lv_isub hx hb dX6_isInBehind_47 ?_
          obtain ⟨g6, h⟩ := og h
          refine va_ti hx hb hE.2.2.2.2.2 hS (ix_in g6) rfl dX6_isInBehind_48 ?_
          obtain ⟨g7, h⟩ := og h
          refine lv_idiv hx hb dX6_isInBehind_49 g7 ?_
          refine lv_bipush (v := 10) hx hb dX6_isInBehind_50 (by decide) ?_
          refine lv_irem hx hb dX6_isInBehind_52 (by decide) ?_
          refine lv_iconst (v := 1) hx hb dX6_isInBehind_53 (by decide) ?_
          refine lv_isub hx hb dX6_isInBehind_54 ?_
          obtain ⟨q8, hq8, h⟩ := ob h
          refine kV (As := [.ref srh, .int (((p3 / (tPow ((p2 - 1) - x5).toNatClampNeg)) - (p3 / (tPow ((p2 - 1) - x5).toNatClampNeg)) / 10 * 10) - 1)]) (rest := []) (w2 := cTT xh x_text noh srh x_acts x_slots x_sights x_search x_pairs x_worth x_tray x_draft x_let x_kept x_seed ++ (cSp noh noa cy.1 no ++ (cSp srh sra cy.1 q8 ++ (cTr x_tray tra trb trc cy.1 tr)))) (n := 2) (q0 := 5) ⟨hx, hb, hml, hown, hts⟩ (c_X5_roll l D cy x_tray tra trb trc srh sra tr sr (((p3 / (tPow ((p2 - 1) - x5).toNatClampNeg)) - (p3 / (tPow ((p2 - 1) - x5).toNatClampNeg)) / 10 * 10) - 1) q8 hq8) gX6_isInBehind_X5_roll rfl (by decide +kernel) ⟨by rw [hRf]; exact Nat.le_of_ble_eq_true rfl, by rw [hRl]; exact Nat.le_of_ble_eq_true rfl⟩ hE hP hD hS hA [5, 6, 7, 8, 3, 4] rfl rfl rfl rfl rfl rfl rfl hl.1 rfl (Nat.le_of_ble_eq_true rfl) dX6_isInBehind_55 ⟨Nat.zero_le _, Nat.zero_le _⟩ (fun H locs hP hD hS => ?_)
          refine lv_iinc (v := x5 + 1) (lv' := [(5, .int (x5 + 1)), (0, .ref xh), (1, .int p1), (2, .int p2), (3, .int p3), (4, .int p4)]) hx hb dX6_isInBehind_58 hl (k := 5) rfl rfl (by decide) rfl (fun ls hl => ?_)
          refine lv_goto (tgt := 14) hx hb dX6_isInBehind_61 (by decide) ?_
          exact ih14 (x5 + 1) q8 _ _ _ (lv_sub hl [1, 2, 3, 4, 5, 0] rfl) hP hD hS h
  refine lv_aload_n hx hb dX6_isInBehind_0 rfl (lv_at hl 0 rfl) ?_
  refine va_get (D := D) (ci := 6) (v := .ref srh) (C := RX6) (T := TX6) (N := 14) hx hb hts hiX6 hown hE.1 hP 0 rfl rfl 5 (by decide) (hts (.fieldLink RX6 30 "TiltTray" "spare" "LTiltTray$Spot;") (by decide +kernel)) (fun _ h9 => h9) rfl dX6_isInBehind_1 ?_
  refine lv_aload_n hx hb dX6_isInBehind_4 rfl (lv_at hl 0 rfl) ?_
  refine va_get (D := D) (ci := 6) (v := .ref noh) (C := RX6) (T := TX6) (N := 14) hx hb hts hiX6 hown hE.1 hP 0 rfl rfl 4 (by decide) (hts (.fieldLink RX6 26 "TiltTray" "now" "LTiltTray$Spot;") (by decide +kernel)) (fun _ h9 => h9) rfl dX6_isInBehind_5 ?_
  obtain ⟨q9, hq9, h⟩ := ob h
  refine kV (As := [.ref noh]) (rest := []) (w2 := cTT xh x_text noh srh x_acts x_slots x_sights x_search x_pairs x_worth x_tray x_draft x_let x_kept x_seed ++ (cSp noh noa cy.1 no ++ (cSp srh sra cy.1 q9 ++ (cTr x_tray tra trb trc cy.1 tr)))) (n := 1) (q0 := 3) ⟨hx, hb, hml, hown, hts⟩ (c_X4_take l D cy srh sra noh noa sr no q9 hq9) gX6_isInBehind_X4_take rfl (by decide +kernel) ⟨by rw [hRf]; exact Nat.le_of_ble_eq_true rfl, by rw [hRl]; exact Nat.le_of_ble_eq_true rfl⟩ hE hP hD hS hA [3, 4, 1, 2] rfl rfl rfl rfl rfl rfl rfl hl.1 rfl (Nat.le_of_ble_eq_true rfl) dX6_isInBehind_8 ⟨Nat.zero_le _, Nat.zero_le _⟩ (fun H locs hP hD hS => ?_)
  refine lv_iconst (v := 0) hx hb dX6_isInBehind_11 (by decide) ?_
  refine lv_istore (lv' := [(5, .int 0), (0, .ref xh), (1, .int p1), (2, .int p2), (3, .int p3), (4, .int p4)]) hx hb dX6_isInBehind_12 hl (by decide) rfl (fun ls hl => ?_)
  exact L14 6 0 q9 _ _ _ (lv_sub hl [1, 2, 3, 4, 5, 0] rfl) hP hD hS h

def tw_X6_fails_52 (no : SpS) (tr : TrS) (p1 : Int32) (p2 : Int32) (p3 : Int32) (p4 : Int32) (p5 : Int32) : Nat → Int32 → Int32 → SpS → Option (Int32 × SpS)
  | 0, _, _, _ => none
  | n + 1, x6, x7, sr =>
    if (1 <<< (p2 &&& 31)) ≤ x7 then (if ix p2 5 = true then ((tw_X6_tellFraction x6 (tPow p2.toNatClampNeg) p5).bind (fun q3 => some (q3, sr))) else none) else ((tw_X6_weightOf p2 x7 p4).bind (fun q4 => if q4 ≤ 0 then ((tw_X6_fails_52 no tr p1 p2 p3 p4 p5 n) x6 (x7 + 1) sr) else ((tw_X6_isInBehind no sr tr p1 p2 p3 x7).bind (fun q6 => if q6.1 = 0 then ((tw_X6_fails_52 no tr p1 p2 p3 p4 p5 n) x6 (x7 + 1) q6.2) else ((tw_X6_fails_52 no tr p1 p2 p3 p4 p5 n) (x6 + q4) (x7 + 1) q6.2)))))
def tw_X6_fails (no : SpS) (sr : SpS) (tr : TrS) (p1 : Int32) (p2 : Int32) (p3 : Int32) (p4 : Int32) (p5 : Int32) : Option (Int32 × SpS) :=
  (tw_X5_has tr p1).bind (fun q8 => if q8 = 0 then (some ((-1), sr)) else (if p2 < 1 then (some ((-2), sr)) else (if 4 < p2 then (some ((-2), sr)) else ((tw_X6_isRow p2 p3).bind (fun q12 => if q12 = 0 then (some ((-2), sr)) else (if p4 < 0 then (some ((-2), sr)) else (if p4 ≤ 10 then (tw_X6_fails_52 no tr p1 p2 p3 p4 p5 17 0 0 sr) else (some ((-2), sr)))))))))
set_option maxHeartbeats 4000000 in
set_option maxRecDepth 100000 in
theorem c_X6_fails (l : Launch) (D : va_G) (cy : Cy) (xh : Nat) (x_text : Nat) (noh : Nat) (noa : Nat) (srh : Nat) (sra : Nat) (x_acts : Nat) (x_slots : Nat) (x_sights : Nat) (x_search : Nat) (x_pairs : Nat) (x_worth : Nat) (x_tray : Nat) (tra : Nat) (trb : Nat) (trc : Nat) (x_draft : Nat) (no : SpS) (sr : SpS) (tr : TrS) (x_let : Int32) (x_kept : Int32) (x_seed : Int64) (p1 : Int32) (p2 : Int32) (p3 : Int32) (p4 : Int32) (p5 : Int32) (res : Int32 × SpS) (h : tw_X6_fails no sr tr p1 p2 p3 p4 p5 = some res) : Ct l yX6_fails wsX6_fails 5 118 D cy [.ref xh, .int p1, .int p2, .int p3, .int p4, .int p5] (cTT xh x_text noh srh x_acts x_slots x_sights x_search x_pairs x_worth x_tray x_draft x_let x_kept x_seed ++ (cSp noh noa cy.1 no ++ (cSp srh sra cy.1 sr ++ (cTr x_tray tra trb trc cy.1 tr)))) (cTT xh x_text noh srh x_acts x_slots x_sights x_search x_pairs x_worth x_tray x_draft x_let x_kept x_seed ++ (cSp noh noa cy.1 no ++ (cSp srh sra cy.1 res.2 ++ (cTr x_tray tra trb trc cy.1 tr)))) (some (.int res.1)) := by
  refine Ct.ofW (cc := cX6_fails) (maxL := 9) (ret := (some .int)) (by decide) rfl (Nat.le_of_ble_eq_true rfl) ?_
  intro p e R s m args below meth c A Q ls hRf hRl hQ hx hb hr hml hts hown hlocks hE hP hD hS hA hl
  have hiX6 : ∀ w ∈ u_ws RX6 TX6 14, w ∈ wsX6_fails := by decide +kernel
  have hl : lv_has ls 9 [(0, .ref xh), (1, .int p1), (2, .int p2), (3, .int p3), (4, .int p4), (5, .int p5)] := hl
  rw [tw_X6_fails] at h
  have L52 : ∀ (n : Nat) (x6 : Int32) (x7 : Int32) (sr : SpS)  (H : Heap) (locs : List Loc) (ls : Array Slot), lv_has ls 9 [(0, .ref xh), (1, .int p1), (2, .int p2), (3, .int p3), (4, .int p4), (5, .int p5), (6, .int x6), (7, .int x7)] → va_P D vwCl (cTT xh x_text noh srh x_acts x_slots x_sights x_search x_pairs x_worth x_tray x_draft x_let x_kept x_seed ++ (cSp noh noa cy.1 no ++ (cSp srh sra cy.1 sr ++ (cTr x_tray tra trb trc cy.1 tr)))) H → va_D A (cTT xh x_text noh srh x_acts x_slots x_sights x_search x_pairs x_worth x_tray x_draft x_let x_kept x_seed ++ (cSp noh noa cy.1 no ++ (cSp srh sra cy.1 sr ++ (cTr x_tray tra trb trc cy.1 tr)))) → va_S A s.heap H locs → tw_X6_fails_52 no tr p1 p2 p3 p4 p5 n x6 x7 sr = some res → W p l e R s m args below meth c H locs 0 0 Q (F0 m 52 ls []) := by
    intro n52
    induction n52 with
    | zero =>
      intro x6 x7 sr  H locs ls hl hP hD hS h
      exact absurd h (by rw [tw_X6_fails_52]; exact fun q => by cases q)
    | succ n52 ih52 =>
      intro x6 x7 sr  H locs ls hl hP hD hS h
      rw [tw_X6_fails_52] at h
      refine lv_iload hx hb dX6_fails_52 (lv_at hl 7 rfl) ?_
      refine lv_iconst (v := 1) hx hb dX6_fails_54 (by decide) ?_
      refine lv_iload_n hx hb dX6_fails_55 rfl (lv_at hl 2 rfl) ?_
      refine lv_ishl hx hb dX6_fails_56 ?_
      refine lv_icmp_ge (tgt := 100) hx hb dX6_fails_57 (by decide) (fun c1 => ?_) (fun c1 => ?_)
      · have h := oit h c1
        refine lv_iload hx hb dX6_fails_100 (lv_at hl 6 rfl) ?_
        refine va_gets hx hb hE.2.2.2.2.1 hS hown (hts (.fieldLink RX6 250 "TiltTray" "POWERS" "[I") (by decide +kernel)) (fun _ h9 => h9) dX6_fails_102 ?_
        refine lv_iload_n hx hb dX6_fails_105 rfl (lv_at hl 2 rfl) ?_
        obtain ⟨g2, h⟩ := og h
        refine va_ti hx hb hE.2.2.2.2.2 hS (ix_in g2) rfl dX6_fails_106 ?_
        refine lv_iload hx hb dX6_fails_107 (lv_at hl 5 rfl) ?_
        obtain ⟨q3, hq3, h⟩ := ob h
        refine kS (As := [.int x6, .int (tPow p2.toNatClampNeg), .int p5]) (rest := []) (w2 := cTT xh x_text noh srh x_acts x_slots x_sights x_search x_pairs x_worth x_tray x_draft x_let x_kept x_seed ++ (cSp noh noa cy.1 no ++ (cSp srh sra cy.1 sr ++ (cTr x_tray tra trb trc cy.1 tr)))) (n := 3) ⟨hx, hb, hml, hown, hts⟩ (c_X6_tellFraction l D cy x6 (tPow p2.toNatClampNeg) p5 q3 hq3) gX6_fails_X6_tellFraction rfl (by decide +kernel) ⟨by rw [hRf]; exact Nat.le_of_ble_eq_true rfl, by rw [hRl]; exact Nat.le_of_ble_eq_true rfl⟩ hE hP hD hS hA [] rfl rfl rfl rfl rfl hl.1 rfl (Nat.le_of_ble_eq_true rfl) dX6_fails_109 ⟨Nat.zero_le _, Nat.zero_le _⟩ (fun H locs hP hD hS => ?_)
        obtain rfl := Option.some.inj h
        rw [hQ]; exact ct_iret hx hb hr hlocks hP hS rfl dX6_fails_112
      · have h := oif h c1
        refine lv_iload_n hx hb dX6_fails_60 rfl (lv_at hl 2 rfl) ?_
        refine lv_iload hx hb dX6_fails_61 (lv_at hl 7 rfl) ?_
        refine lv_iload hx hb dX6_fails_63 (lv_at hl 4 rfl) ?_
        obtain ⟨q4, hq4, h⟩ := ob h
        refine kS (As := [.int p2, .int x7, .int p4]) (rest := []) (w2 := cTT xh x_text noh srh x_acts x_slots x_sights x_search x_pairs x_worth x_tray x_draft x_let x_kept x_seed ++ (cSp noh noa cy.1 no ++ (cSp srh sra cy.1 sr ++ (cTr x_tray tra trb trc cy.1 tr)))) (n := 3) ⟨hx, hb, hml, hown, hts⟩ (c_X6_weightOf l D cy p2 x7 p4 q4 hq4) gX6_fails_X6_weightOf rfl (by decide +kernel) ⟨by rw [hRf]; exact Nat.le_of_ble_eq_true rfl, by rw [hRl]; exact Nat.le_of_ble_eq_true rfl⟩ hE hP hD hS hA [] rfl rfl rfl rfl rfl hl.1 rfl (Nat.le_of_ble_eq_true rfl) dX6_fails_65 ⟨Nat.zero_le _, Nat.zero_le _⟩ (fun H locs hP hD hS => ?_)
        refine lv_istore (lv' := [(8, .int q4), (0, .ref xh), (1, .int p1), (2, .int p2), (3, .int p3), (4, .int p4), (5, .int p5), (6, .int x6), (7, .int x7)]) hx hb dX6_fails_68 hl (by decide) rfl (fun ls hl => ?_)
        refine lv_iload hx hb dX6_fails_70 (lv_at hl 0 rfl) ?_
        refine lv_if_le (tgt := 94) hx hb dX6_fails_72 (by decide) (fun c5 => ?_) (fun c5 => ?_)
        · have h := oit h c5
          refine lv_iinc (v := x7 + 1) (lv' := [(7, .int (x7 + 1)), (8, .int q4), (0, .ref xh), (1, .int p1), (2, .int p2), (3, .int p3), (4, .int p4), (5, .int p5), (6, .int x6)]) hx hb dX6_fails_94 hl (k := 8) rfl rfl (by decide) rfl (fun ls hl => ?_)
          refine lv_goto (tgt := 52) hx hb dX6_fails_97 (by decide) ?_
          exact ih52 x6 (x7 + 1) sr _ _ _ (lv_sub hl [2, 3, 4, 5, 6, 7, 8, 0] rfl) hP hD hS h
        · have h := oif h c5
          refine lv_aload_n hx hb dX6_fails_75 rfl (lv_at hl 1 rfl) ?_
          refine lv_iload_n hx hb dX6_fails_76 rfl (lv_at hl 2 rfl) ?_
          refine lv_iload_n hx hb dX6_fails_77 rfl (lv_at hl 3 rfl) ?_
          refine lv_iload_n hx hb dX6_fails_78 rfl (lv_at hl 4 rfl) ?_
          refine lv_iload hx hb dX6_fails_79 (lv_at hl 8 rfl) ?_
          obtain ⟨q6, hq6, h⟩ := ob h
          refine kV (As := [.int p1, .int p2, .int p3, .int x7]) (rest := []) (w2 := cTT xh x_text noh srh x_acts x_slots x_sights x_search x_pairs x_worth x_tray x_draft x_let x_kept x_seed ++ (cSp noh noa cy.1 no ++ (cSp srh sra cy.1 q6.2 ++ (cTr x_tray tra trb trc cy.1 tr)))) (n := 4) (q0 := 0) ⟨hx, hb, hml, hown, hts⟩ (c_X6_isInBehind l D cy xh x_text noh noa srh sra x_acts x_slots x_sights x_search x_pairs x_worth x_tray tra trb trc x_draft no sr tr x_let x_kept x_seed p1 p2 p3 x7 q6 hq6) gX6_fails_X6_isInBehind rfl (by decide +kernel) ⟨by rw [hRf]; exact Nat.le_of_ble_eq_true rfl, by rw [hRl]; exact Nat.le_of_ble_eq_true rfl⟩ hE hP hD hS hA [0, 1, 2, 3, 4, 5, 6, 7, 8] rfl rfl rfl rfl rfl rfl rfl hl.1 rfl (Nat.le_of_ble_eq_true rfl) dX6_fails_81 ⟨Nat.zero_le _, Nat.zero_le _⟩ (fun H locs hP hD hS => ?_)
          refine lv_if_eq (tgt := 94) hx hb dX6_fails_84 (by decide) (fun c7 => ?_) (fun c7 => ?_)
          · have h := oit h c7
            refine lv_iinc (v := x7 + 1) (lv' := [(7, .int (x7 + 1)), (8, .int q4), (0, .ref xh), (1, .int p1), (2, .int p2), (3, .int p3), (4, .int p4), (5, .int p5), (6, .int x6)]) hx hb dX6_fails_94 hl (k := 8) rfl rfl (by decide) rfl (fun ls hl => ?_)
            refine lv_goto (tgt := 52) hx hb dX6_fails_97 (by decide) ?_
            exact ih52 x6 (x7 + 1) q6.2 _ _ _ (lv_sub hl [2, 3, 4, 5, 6, 7, 8, 0] rfl) hP hD hS h
          · have h := oif h c7
            refine lv_iload hx hb dX6_fails_87 (lv_at hl 7 rfl) ?_
            refine lv_iload hx hb dX6_fails_89 (lv_at hl 0 rfl) ?_
            refine lv_iadd hx hb dX6_fails_91 ?_
            refine lv_istore (lv' := [(6, .int (x6 + q4)), (8, .int q4), (0, .ref xh), (1, .int p1), (2, .int p2), (3, .int p3), (4, .int p4), (5, .int p5), (7, .int x7)]) hx hb dX6_fails_92 hl (by decide) rfl (fun ls hl => ?_)
            refine lv_iinc (v := x7 + 1) (lv' := [(7, .int (x7 + 1)), (6, .int (x6 + q4)), (8, .int q4), (0, .ref xh), (1, .int p1), (2, .int p2), (3, .int p3), (4, .int p4), (5, .int p5)]) hx hb dX6_fails_94 hl (k := 8) rfl rfl (by decide) rfl (fun ls hl => ?_)
            refine lv_goto (tgt := 52) hx hb dX6_fails_97 (by decide) ?_
            exact ih52 (x6 + q4) (x7 + 1) q6.2 _ _ _ (lv_sub hl [3, 4, 5, 6, 7, 8, 1, 0] rfl) hP hD hS h
  refine lv_aload_n hx hb dX6_fails_0 rfl (lv_at hl 0 rfl) ?_
  refine va_get (D := D) (ci := 6) (v := .ref x_tray) (C := RX6) (T := TX6) (N := 14) hx hb hts hiX6 hown hE.1 hP 0 rfl rfl 2 (by decide) (hts (.fieldLink RX6 16 "TiltTray" "tray" "LTiltTray$Tray;") (by decide +kernel)) (fun _ h9 => h9) rfl dX6_fails_1 ?_
  refine lv_iload_n hx hb dX6_fails_4 rfl (lv_at hl 1 rfl) ?_
  obtain ⟨q8, hq8, h⟩ := ob h
  refine kV (As := [.int p1]) (rest := []) (w2 := cTT xh x_text noh srh x_acts x_slots x_sights x_search x_pairs x_worth x_tray x_draft x_let x_kept x_seed ++ (cSp noh noa cy.1 no ++ (cSp srh sra cy.1 sr ++ (cTr x_tray tra trb trc cy.1 tr)))) (n := 1) (q0 := 5) ⟨hx, hb, hml, hown, hts⟩ (c_X5_has l D cy x_tray tra trb trc tr p1 q8 hq8) gX6_fails_X5_has rfl (by decide +kernel) ⟨by rw [hRf]; exact Nat.le_of_ble_eq_true rfl, by rw [hRl]; exact Nat.le_of_ble_eq_true rfl⟩ hE hP hD hS hA [5, 6, 7, 8] rfl rfl rfl rfl rfl rfl rfl hl.1 rfl (Nat.le_of_ble_eq_true rfl) dX6_fails_5 ⟨Nat.zero_le _, Nat.zero_le _⟩ (fun H locs hP hD hS => ?_)
  refine lv_if_ne (tgt := 13) hx hb dX6_fails_8 (by decide) (fun c9 => ?_) (fun c9 => ?_)
  · have h := oif h c9
    refine lv_iload_n hx hb dX6_fails_13 rfl (lv_at hl 2 rfl) ?_
    refine lv_iconst (v := 1) hx hb dX6_fails_14 (by decide) ?_
    refine lv_icmp_lt (tgt := 43) hx hb dX6_fails_15 (by decide) (fun c10 => ?_) (fun c10 => ?_)
    · have h := oit h c10
      refine lv_bipush (v := (-2)) hx hb dX6_fails_43 (by decide) ?_
      obtain rfl := Option.some.inj h
      rw [hQ]; exact ct_iret hx hb hr hlocks hP hS rfl dX6_fails_45
    · have h := oif h c10
      refine lv_iload_n hx hb dX6_fails_18 rfl (lv_at hl 2 rfl) ?_
      refine lv_iconst (v := 4) hx hb dX6_fails_19 (by decide) ?_
      refine lv_icmp_gt (tgt := 43) hx hb dX6_fails_20 (by decide) (fun c11 => ?_) (fun c11 => ?_)
      · have h := oit h c11
        refine lv_bipush (v := (-2)) hx hb dX6_fails_43 (by decide) ?_
        obtain rfl := Option.some.inj h
        rw [hQ]; exact ct_iret hx hb hr hlocks hP hS rfl dX6_fails_45
      · have h := oif h c11
        refine lv_iload_n hx hb dX6_fails_23 rfl (lv_at hl 2 rfl) ?_
        refine lv_iload_n hx hb dX6_fails_24 rfl (lv_at hl 3 rfl) ?_
        obtain ⟨q12, hq12, h⟩ := ob h
        refine kS (As := [.int p2, .int p3]) (rest := []) (w2 := cTT xh x_text noh srh x_acts x_slots x_sights x_search x_pairs x_worth x_tray x_draft x_let x_kept x_seed ++ (cSp noh noa cy.1 no ++ (cSp srh sra cy.1 sr ++ (cTr x_tray tra trb trc cy.1 tr)))) (n := 2) ⟨hx, hb, hml, hown, hts⟩ (c_X6_isRow l D cy p2 p3 q12 hq12) gX6_fails_X6_isRow rfl (by decide +kernel) ⟨by rw [hRf]; exact Nat.le_of_ble_eq_true rfl, by rw [hRl]; exact Nat.le_of_ble_eq_true rfl⟩ hE hP hD hS hA [] rfl rfl rfl rfl rfl hl.1 rfl (Nat.le_of_ble_eq_true rfl) dX6_fails_25 ⟨Nat.zero_le _, Nat.zero_le _⟩ (fun H locs hP hD hS => ?_)
        refine lv_if_eq (tgt := 43) hx hb dX6_fails_28 (by decide) (fun c13 => ?_) (fun c13 => ?_)
        · have h := oit h c13
          refine lv_bipush (v := (-2)) hx hb dX6_fails_43 (by decide) ?_
          obtain rfl := Option.some.inj h
          rw [hQ]; exact ct_iret hx hb hr hlocks hP hS rfl dX6_fails_45
        · have h := oif h c13
          refine lv_iload hx hb dX6_fails_31 (lv_at hl 4 rfl) ?_
          refine lv_if_lt (tgt := 43) hx hb dX6_fails_33 (by decide) (fun c14 => ?_) (fun c14 => ?_)
          · have h := oit h c14
            refine lv_bipush (v := (-2)) hx hb dX6_fails_43 (by decide) ?_
            obtain rfl := Option.some.inj h
            rw [hQ]; exact ct_iret hx hb hr hlocks hP hS rfl dX6_fails_45
          · have h := oif h c14
            refine lv_iload hx hb dX6_fails_36 (lv_at hl 4 rfl) ?_
            refine lv_bipush (v := 10) hx hb dX6_fails_38 (by decide) ?_
            refine lv_icmp_le (tgt := 46) hx hb dX6_fails_40 (by decide) (fun c15 => ?_) (fun c15 => ?_)
            · have h := oit h c15
              refine lv_iconst (v := 0) hx hb dX6_fails_46 (by decide) ?_
              refine lv_istore (lv' := [(6, .int 0), (0, .ref xh), (1, .int p1), (2, .int p2), (3, .int p3), (4, .int p4), (5, .int p5)]) hx hb dX6_fails_47 hl (by decide) rfl (fun ls hl => ?_)
              refine lv_iconst (v := 0) hx hb dX6_fails_49 (by decide) ?_
              refine lv_istore (lv' := [(7, .int 0), (6, .int 0), (0, .ref xh), (1, .int p1), (2, .int p2), (3, .int p3), (4, .int p4), (5, .int p5)]) hx hb dX6_fails_50 hl (by decide) rfl (fun ls hl => ?_)
              exact L52 17 0 0 sr _ _ _ (lv_sub hl [2, 3, 4, 5, 6, 7, 1, 0] rfl) hP hD hS h
            · have h := oif h c15
              refine lv_bipush (v := (-2)) hx hb dX6_fails_43 (by decide) ?_
              obtain rfl := Option.some.inj h
              rw [hQ]; exact ct_iret hx hb hr hlocks hP hS rfl dX6_fails_45
  · have h := oit h c9
    refine lv_iconst (v := (-1)) hx hb dX6_fails_11 (by decide) ?_
    obtain rfl := Option.some.inj h
    rw [hQ]; exact ct_iret hx hb hr hlocks hP hS rfl dX6_fails_12

def tw_X6_seed (x_seed : Int64) (p1 : Int64) : Option (Int64 × Int64) :=
  some (x_seed, p1)
set_option maxHeartbeats 4000000 in
set_option maxRecDepth 100000 in
theorem c_X6_seed (l : Launch) (D : va_G) (cy : Cy) (xh : Nat) (x_text : Nat) (x_now : Nat) (x_spare : Nat) (x_acts : Nat) (x_slots : Nat) (x_sights : Nat) (x_search : Nat) (x_pairs : Nat) (x_worth : Nat) (x_tray : Nat) (x_draft : Nat) (x_let : Int32) (x_kept : Int32) (x_seed : Int64) (p1 : Int64) (res : Int64 × Int64) (h : tw_X6_seed x_seed p1 = some res) : Ct l yX6_seed wsX6_seed 0 0 D cy [.ref xh, .long p1] (cTT xh x_text x_now x_spare x_acts x_slots x_sights x_search x_pairs x_worth x_tray x_draft x_let x_kept x_seed) (cTT xh x_text x_now x_spare x_acts x_slots x_sights x_search x_pairs x_worth x_tray x_draft x_let x_kept res.2) (some (.long res.1)) := by
  refine Ct.ofW (cc := cX6_seed) (maxL := 5) (ret := (some .long)) (by decide) rfl (Nat.le_of_ble_eq_true rfl) ?_
  intro p e R s m args below meth c A Q ls hRf hRl hQ hx hb hr hml hts hown hlocks hE hP hD hS hA hl
  have hiX6 : ∀ w ∈ u_ws RX6 TX6 14, w ∈ wsX6_seed := by decide +kernel
  have hl : lv_has ls 5 [(0, .ref xh), (1, .long p1)] := hl
  rw [tw_X6_seed] at h
  refine lv_aload_n hx hb dX6_seed_0 rfl (lv_at hl 0 rfl) ?_
  refine va_get (D := D) (ci := 6) (v := .long x_seed) (C := RX6) (T := TX6) (N := 14) hx hb hts hiX6 hown hE.1 hP 0 rfl rfl 13 (by decide) (hts (.fieldLink RX6 253 "TiltTray" "lastSeed" "J") (by decide +kernel)) (fun _ h9 => h9) rfl dX6_seed_1 ?_
  refine lv_lstore_n (lv' := [(3, .long x_seed), (0, .ref xh), (1, .long p1)]) hx hb dX6_seed_4 rfl hl (by decide) rfl (fun ls hl => ?_)
  refine lv_aload_n hx hb dX6_seed_5 rfl (lv_at hl 1 rfl) ?_
  refine lv_lload_n hx hb dX6_seed_6 rfl (lv_at hl 2 rfl) ?_
  refine va_put (D := D) (ci := 6) (v := .long p1) (ty := .long) (C := RX6) (T := TX6) (N := 14) hx hb hts hiX6 tyX6 tyX6_ok nmX6 hown hE.1 hP hD hS 0 rfl rfl 13 (by decide) (hts (.fieldLink RX6 253 "TiltTray" "lastSeed" "J") (by decide +kernel)) (fun _ h9 => h9) rfl (by decide +kernel) rfl rfl (Nat.le_of_ble_eq_true rfl) dX6_seed_7 (fun H locs hP hD hS => ?_)
  have hP : va_P D vwCl (cTT xh x_text x_now x_spare x_acts x_slots x_sights x_search x_pairs x_worth x_tray x_draft x_let x_kept p1) H := hP
  have hD : va_D A (cTT xh x_text x_now x_spare x_acts x_slots x_sights x_search x_pairs x_worth x_tray x_draft x_let x_kept p1) := hD
  refine lv_lload_n hx hb dX6_seed_10 rfl (lv_at hl 0 rfl) ?_
  obtain rfl := Option.some.inj h
  rw [hQ]; exact ct_lret hx hb hr hlocks hP hS rfl dX6_seed_11

def tw_X6_days_104 (no : SpS) (tr : TrS) (p1 : Int32) (k29 : Int32 → Int32 → SpS → Int64 → Option (Int32 × SpS × Int64)) (x2 : Int32) (x3 : Int32) (sr : SpS) (x_seed : Int64) : Option (Int32 × SpS × Int64) :=
  (tw_X4_fallen sr).bind (fun q1 => k29 (x2 + q1) (x3 + 1) sr x_seed)
def tw_X6_days_29 (no : SpS) (tr : TrS) (p1 : Int32) : Nat → Int32 → Int32 → SpS → Int64 → Option (Int32 × SpS × Int64)
  | 0, _, _, _, _ => none
  | n + 1, x2, x3, sr, x_seed =>
    if p1 ≤ x3 then (some (x2, sr, x_seed)) else (nm ((((((x_seed * 6364136223846793005) + 1442695040888963407).toUInt64 >>> ((33 : Int32).toInt64.toUInt64 &&& Int64.toUInt64 63)).toInt64) - ((((x_seed * 6364136223846793005) + 1442695040888963407).toUInt64 >>> ((33 : Int32).toInt64.toUInt64 &&& Int64.toUInt64 63)).toInt64) / 29 * 29).toInt32) (fun v3 => if 25 ≤ v3 then ((tw_X5_roll tr sr (v3 - 25)).bind (fun q5 => tw_X6_days_104 no tr p1 (tw_X6_days_29 no tr p1 n) x2 x3 q5 ((x_seed * 6364136223846793005) + 1442695040888963407))) else ((tw_X5_turnWedge tr sr v3).bind (fun q6 => tw_X6_days_104 no tr p1 (tw_X6_days_29 no tr p1 n) x2 x3 q6.2 ((x_seed * 6364136223846793005) + 1442695040888963407)))))
def tw_X6_days (no : SpS) (sr : SpS) (tr : TrS) (x_seed : Int64) (p1 : Int32) : Option (Int32 × SpS × Int64) :=
  if p1 < 1 then (some ((-2), sr, x_seed)) else (if p1 ≤ 30 then ((tw_X4_take sr no).bind (fun q9 => tw_X6_days_29 no tr p1 31 0 0 q9 x_seed)) else (some ((-2), sr, x_seed)))
set_option maxHeartbeats 4000000 in
set_option maxRecDepth 100000 in
theorem c_X6_days (l : Launch) (D : va_G) (cy : Cy) (xh : Nat) (x_text : Nat) (noh : Nat) (noa : Nat) (srh : Nat) (sra : Nat) (x_acts : Nat) (x_slots : Nat) (x_sights : Nat) (x_search : Nat) (x_pairs : Nat) (x_worth : Nat) (x_tray : Nat) (tra : Nat) (trb : Nat) (trc : Nat) (x_draft : Nat) (no : SpS) (sr : SpS) (tr : TrS) (x_let : Int32) (x_kept : Int32) (x_seed : Int64) (p1 : Int32) (res : Int32 × SpS × Int64) (h : tw_X6_days no sr tr x_seed p1 = some res) : Ct l yX6_days wsX6_days 4 93 D cy [.ref xh, .int p1] (cTT xh x_text noh srh x_acts x_slots x_sights x_search x_pairs x_worth x_tray x_draft x_let x_kept x_seed ++ (cSp noh noa cy.1 no ++ (cSp srh sra cy.1 sr ++ (cTr x_tray tra trb trc cy.1 tr)))) (cTT xh x_text noh srh x_acts x_slots x_sights x_search x_pairs x_worth x_tray x_draft x_let x_kept res.2.2 ++ (cSp noh noa cy.1 no ++ (cSp srh sra cy.1 res.2.1 ++ (cTr x_tray tra trb trc cy.1 tr)))) (some (.int res.1)) := by
  refine Ct.ofW (cc := cX6_days) (maxL := 5) (ret := (some .int)) (by decide) rfl (Nat.le_of_ble_eq_true rfl) ?_
  intro p e R s m args below meth c A Q ls hRf hRl hQ hx hb hr hml hts hown hlocks hE hP hD hS hA hl
  have hiX6 : ∀ w ∈ u_ws RX6 TX6 14, w ∈ wsX6_days := by decide +kernel
  have hl : lv_has ls 5 [(0, .ref xh), (1, .int p1)] := hl
  rw [tw_X6_days] at h
  have L29 : ∀ (n : Nat) (x2 : Int32) (x3 : Int32) (sr : SpS) (x_seed : Int64)  (H : Heap) (locs : List Loc) (ls : Array Slot), lv_has ls 5 [(0, .ref xh), (1, .int p1), (2, .int x2), (3, .int x3)] → va_P D vwCl (cTT xh x_text noh srh x_acts x_slots x_sights x_search x_pairs x_worth x_tray x_draft x_let x_kept x_seed ++ (cSp noh noa cy.1 no ++ (cSp srh sra cy.1 sr ++ (cTr x_tray tra trb trc cy.1 tr)))) H → va_D A (cTT xh x_text noh srh x_acts x_slots x_sights x_search x_pairs x_worth x_tray x_draft x_let x_kept x_seed ++ (cSp noh noa cy.1 no ++ (cSp srh sra cy.1 sr ++ (cTr x_tray tra trb trc cy.1 tr)))) → va_S A s.heap H locs → tw_X6_days_29 no tr p1 n x2 x3 sr x_seed = some res → W p l e R s m args below meth c H locs 0 0 Q (F0 m 29 ls []) := by
    intro n29
    induction n29 with
    | zero =>
      intro x2 x3 sr x_seed  H locs ls hl hP hD hS h
      exact absurd h (by rw [tw_X6_days_29]; exact fun q => by cases q)
    | succ n29 ih29 =>
      intro x2 x3 sr x_seed  H locs ls hl hP hD hS h
      rw [tw_X6_days_29] at h
      have L104 : ∀ (x2 : Int32) (x3 : Int32) (sr : SpS) (x_seed : Int64)  (H : Heap) (locs : List Loc) (ls : Array Slot), lv_has ls 5 [(0, .ref xh), (1, .int p1), (2, .int x2), (3, .int x3)] → va_P D vwCl (cTT xh x_text noh srh x_acts x_slots x_sights x_search x_pairs x_worth x_tray x_draft x_let x_kept x_seed ++ (cSp noh noa cy.1 no ++ (cSp srh sra cy.1 sr ++ (cTr x_tray tra trb trc cy.1 tr)))) H → va_D A (cTT xh x_text noh srh x_acts x_slots x_sights x_search x_pairs x_worth x_tray x_draft x_let x_kept x_seed ++ (cSp noh noa cy.1 no ++ (cSp srh sra cy.1 sr ++ (cTr x_tray tra trb trc cy.1 tr)))) → va_S A s.heap H locs → tw_X6_days_104 no tr p1 (tw_X6_days_29 no tr p1 n29) x2 x3 sr x_seed = some res → W p l e R s m args below meth c H locs 0 0 Q (F0 m 104 ls []) := by
        intro x2 x3 sr x_seed  H locs ls hl hP hD hS h
        rw [tw_X6_days_104] at h
        refine lv_iload_n hx hb dX6_days_104 rfl (lv_at hl 2 rfl) ?_
        refine lv_aload_n hx hb dX6_days_105 rfl (lv_at hl 0 rfl) ?_
        refine va_get (D := D) (ci := 6) (v := .ref srh) (C := RX6) (T := TX6) (N := 14) hx hb hts hiX6 hown hE.1 hP 0 rfl rfl 5 (by decide) (hts (.fieldLink RX6 30 "TiltTray" "spare" "LTiltTray$Spot;") (by decide +kernel)) (fun _ h9 => h9) rfl dX6_days_106 ?_
        obtain ⟨q1, hq1, h⟩ := ob h
        refine kV (As := []) (rest := [.int x2]) (w2 := cTT xh x_text noh srh x_acts x_slots x_sights x_search x_pairs x_worth x_tray x_draft x_let x_kept x_seed ++ (cSp noh noa cy.1 no ++ (cSp srh sra cy.1 sr ++ (cTr x_tray tra trb trc cy.1 tr)))) (n := 0) (q0 := 3) ⟨hx, hb, hml, hown, hts⟩ (c_X4_fallen l D cy srh sra sr q1 hq1) gX6_days_X4_fallen rfl (by decide +kernel) ⟨by rw [hRf]; exact Nat.le_of_ble_eq_true rfl, by rw [hRl]; exact Nat.le_of_ble_eq_true rfl⟩ hE hP hD hS hA [3, 4] rfl rfl rfl rfl rfl rfl rfl hl.1 rfl (Nat.le_of_ble_eq_true rfl) dX6_days_109 ⟨Nat.zero_le _, Nat.zero_le _⟩ (fun H locs hP hD hS => ?_)
        refine lv_iadd hx hb dX6_days_112 ?_
        refine lv_istore_n (lv' := [(2, .int (x2 + q1)), (0, .ref xh), (1, .int p1), (3, .int x3)]) hx hb dX6_days_113 rfl hl (by decide) rfl (fun ls hl => ?_)
        refine lv_iinc (v := x3 + 1) (lv' := [(3, .int (x3 + 1)), (2, .int (x2 + q1)), (0, .ref xh), (1, .int p1)]) hx hb dX6_days_114 hl (k := 3) rfl rfl (by decide) rfl (fun ls hl => ?_)
        refine lv_goto (tgt := 29) hx hb dX6_days_117 (by decide) ?_
        exact ih29 (x2 + q1) (x3 + 1) sr x_seed _ _ _ (lv_sub hl [2, 3, 1, 0] rfl) hP hD hS h
      refine lv_iload_n hx hb dX6_days_29 rfl (lv_at hl 3 rfl) ?_
      refine lv_iload_n hx hb dX6_days_30 rfl (lv_at hl 1 rfl) ?_
      refine lv_icmp_ge (tgt := 120) hx hb dX6_days_31 (by decide) (fun c2 => ?_) (fun c2 => ?_)
      · have h := oit h c2
        refine lv_iload_n hx hb dX6_days_120 rfl (lv_at hl 2 rfl) ?_
        obtain rfl := Option.some.inj h
        rw [hQ]; exact ct_iret hx hb hr hlocks hP hS rfl dX6_days_121
      · have h := oif h c2
        refine lv_aload_n hx hb dX6_days_34 rfl (lv_at hl 0 rfl) ?_
        refine lv_aload_n hx hb dX6_days_35 rfl (lv_at hl 0 rfl) ?_
        refine va_get (D := D) (ci := 6) (v := .long x_seed) (C := RX6) (T := TX6) (N := 14) hx hb hts hiX6 hown hE.1 hP 0 rfl rfl 13 (by decide) (hts (.fieldLink RX6 253 "TiltTray" "lastSeed" "J") (by decide +kernel)) (fun _ h9 => h9) rfl dX6_days_36 ?_
        refine lv_ldc2 (v := 6364136223846793005) hx hb hown (hts (.constantLong RX6 257 (6364136223846793005)) (by decide +kernel)) dX6_days_39 ?_
        refine lv_lmul hx hb dX6_days_42 ?_
        refine lv_ldc2 (v := 1442695040888963407) hx hb hown (hts (.constantLong RX6 259 (1442695040888963407)) (by decide +kernel)) dX6_days_43 ?_
        refine lv_ladd hx hb dX6_days_46 ?_
        refine va_put (D := D) (ci := 6) (v := .long ((x_seed * 6364136223846793005) + 1442695040888963407)) (ty := .long) (C := RX6) (T := TX6) (N := 14) hx hb hts hiX6 tyX6 tyX6_ok nmX6 hown hE.1 hP hD hS 0 rfl rfl 13 (by decide) (hts (.fieldLink RX6 253 "TiltTray" "lastSeed" "J") (by decide +kernel)) (fun _ h9 => h9) rfl (by decide +kernel) rfl rfl (Nat.le_of_ble_eq_true rfl) dX6_days_47 (fun H locs hP hD hS => ?_)
        have hP : va_P D vwCl (cTT xh x_text noh srh x_acts x_slots x_sights x_search x_pairs x_worth x_tray x_draft x_let x_kept ((x_seed * 6364136223846793005) + 1442695040888963407) ++ (cSp noh noa cy.1 no ++ (cSp srh sra cy.1 sr ++ (cTr x_tray tra trb trc cy.1 tr)))) H := hP
        have hD : va_D A (cTT xh x_text noh srh x_acts x_slots x_sights x_search x_pairs x_worth x_tray x_draft x_let x_kept ((x_seed * 6364136223846793005) + 1442695040888963407) ++ (cSp noh noa cy.1 no ++ (cSp srh sra cy.1 sr ++ (cTr x_tray tra trb trc cy.1 tr)))) := hD
        refine lv_aload_n hx hb dX6_days_50 rfl (lv_at hl 0 rfl) ?_
        refine va_get (D := D) (ci := 6) (v := .long ((x_seed * 6364136223846793005) + 1442695040888963407)) (C := RX6) (T := TX6) (N := 14) hx hb hts hiX6 hown hE.1 hP 0 rfl rfl 13 (by decide) (hts (.fieldLink RX6 253 "TiltTray" "lastSeed" "J") (by decide +kernel)) (fun _ h9 => h9) rfl dX6_days_51 ?_
        refine lv_bipush (v := 33) hx hb dX6_days_54 (by decide) ?_
        refine lv_lushr hx hb dX6_days_56 rfl ?_
        refine lv_ldc2 (v := 29) hx hb hown (hts (.constantLong RX6 261 (29)) (by decide +kernel)) dX6_days_57 ?_
        refine lv_lrem hx hb dX6_days_60 (by decide) ?_
        refine lv_l2i hx hb dX6_days_61 rfl ?_
        refine lv_topi (fun v3 ev3 => ?_)
        have h := nmh ev3 h
        refine lv_istore (lv' := [(4, .int v3), (0, .ref xh), (1, .int p1), (2, .int x2), (3, .int x3)]) hx hb dX6_days_62 hl (by decide) rfl (fun ls hl => ?_)
        refine lv_iload hx hb dX6_days_64 (lv_at hl 0 rfl) ?_
        refine lv_bipush (v := 25) hx hb dX6_days_66 (by decide) ?_
        refine lv_icmp_ge (tgt := 88) hx hb dX6_days_68 (by decide) (fun c4 => ?_) (fun c4 => ?_)
        · have h := oit h c4
          refine lv_aload_n hx hb dX6_days_88 rfl (lv_at hl 1 rfl) ?_
          refine va_get (D := D) (ci := 6) (v := .ref x_tray) (C := RX6) (T := TX6) (N := 14) hx hb hts hiX6 hown hE.1 hP 0 rfl rfl 2 (by decide) (hts (.fieldLink RX6 16 "TiltTray" "tray" "LTiltTray$Tray;") (by decide +kernel)) (fun _ h9 => h9) rfl dX6_days_89 ?_
          refine lv_aload_n hx hb dX6_days_92 rfl (lv_at hl 1 rfl) ?_
          refine va_get (D := D) (ci := 6) (v := .ref srh) (C := RX6) (T := TX6) (N := 14) hx hb hts hiX6 hown hE.1 hP 0 rfl rfl 5 (by decide) (hts (.fieldLink RX6 30 "TiltTray" "spare" "LTiltTray$Spot;") (by decide +kernel)) (fun _ h9 => h9) rfl dX6_days_93 ?_
          refine lv_iload hx hb dX6_days_96 (lv_at hl 0 rfl) ?_
          refine lv_bipush (v := 25) hx hb dX6_days_98 (by decide) ?_
          refine lv_isub hx hb dX6_days_100 ?_
          obtain ⟨q5, hq5, h⟩ := ob h
          refine kV (As := [.ref srh, .int (v3 - 25)]) (rest := []) (w2 := cTT xh x_text noh srh x_acts x_slots x_sights x_search x_pairs x_worth x_tray x_draft x_let x_kept ((x_seed * 6364136223846793005) + 1442695040888963407) ++ (cSp noh noa cy.1 no ++ (cSp srh sra cy.1 q5 ++ (cTr x_tray tra trb trc cy.1 tr)))) (n := 2) (q0 := 5) ⟨hx, hb, hml, hown, hts⟩ (c_X5_roll l D cy x_tray tra trb trc srh sra tr sr (v3 - 25) q5 hq5) gX6_days_X5_roll rfl (by decide +kernel) ⟨by rw [hRf]; exact Nat.le_of_ble_eq_true rfl, by rw [hRl]; exact Nat.le_of_ble_eq_true rfl⟩ hE hP hD hS hA [5, 6, 7, 8, 3, 4] rfl rfl rfl rfl rfl rfl rfl hl.1 rfl (Nat.le_of_ble_eq_true rfl) dX6_days_101 ⟨Nat.zero_le _, Nat.zero_le _⟩ (fun H locs hP hD hS => ?_)
          exact L104 x2 x3 q5 ((x_seed * 6364136223846793005) + 1442695040888963407) _ _ _ (lv_sub hl [1, 2, 3, 4] rfl) hP hD hS h
        · have h := oif h c4
          refine lv_aload_n hx hb dX6_days_71 rfl (lv_at hl 1 rfl) ?_
          refine va_get (D := D) (ci := 6) (v := .ref x_tray) (C := RX6) (T := TX6) (N := 14) hx hb hts hiX6 hown hE.1 hP 0 rfl rfl 2 (by decide) (hts (.fieldLink RX6 16 "TiltTray" "tray" "LTiltTray$Tray;") (by decide +kernel)) (fun _ h9 => h9) rfl dX6_days_72 ?_
          refine lv_aload_n hx hb dX6_days_75 rfl (lv_at hl 1 rfl) ?_
          refine va_get (D := D) (ci := 6) (v := .ref srh) (C := RX6) (T := TX6) (N := 14) hx hb hts hiX6 hown hE.1 hP 0 rfl rfl 5 (by decide) (hts (.fieldLink RX6 30 "TiltTray" "spare" "LTiltTray$Spot;") (by decide +kernel)) (fun _ h9 => h9) rfl dX6_days_76 ?_
          refine lv_iload hx hb dX6_days_79 (lv_at hl 0 rfl) ?_
          obtain ⟨q6, hq6, h⟩ := ob h
          refine kV (As := [.ref srh, .int v3]) (rest := []) (w2 := cTT xh x_text noh srh x_acts x_slots x_sights x_search x_pairs x_worth x_tray x_draft x_let x_kept ((x_seed * 6364136223846793005) + 1442695040888963407) ++ (cSp noh noa cy.1 no ++ (cSp srh sra cy.1 q6.2 ++ (cTr x_tray tra trb trc cy.1 tr)))) (n := 2) (q0 := 5) ⟨hx, hb, hml, hown, hts⟩ (c_X5_turnWedge l D cy x_tray tra trb trc srh sra tr sr v3 q6 hq6) gX6_days_X5_turnWedge rfl (by decide +kernel) ⟨by rw [hRf]; exact Nat.le_of_ble_eq_true rfl, by rw [hRl]; exact Nat.le_of_ble_eq_true rfl⟩ hE hP hD hS hA [5, 6, 7, 8, 3, 4] rfl rfl rfl rfl rfl rfl rfl hl.1 rfl (Nat.le_of_ble_eq_true rfl) dX6_days_81 ⟨Nat.zero_le _, Nat.zero_le _⟩ (fun H locs hP hD hS => ?_)
          refine lv_pop hx hb dX6_days_84 rfl ?_
          refine lv_goto (tgt := 104) hx hb dX6_days_85 (by decide) ?_
          exact L104 x2 x3 q6.2 ((x_seed * 6364136223846793005) + 1442695040888963407) _ _ _ (lv_sub hl [1, 2, 3, 4] rfl) hP hD hS h
  refine lv_iload_n hx hb dX6_days_0 rfl (lv_at hl 1 rfl) ?_
  refine lv_iconst (v := 1) hx hb dX6_days_1 (by decide) ?_
  refine lv_icmp_lt (tgt := 11) hx hb dX6_days_2 (by decide) (fun c7 => ?_) (fun c7 => ?_)
  · have h := oit h c7
    refine lv_bipush (v := (-2)) hx hb dX6_days_11 (by decide) ?_
    obtain rfl := Option.some.inj h
    rw [hQ]; exact ct_iret hx hb hr hlocks hP hS rfl dX6_days_13
  · have h := oif h c7
    refine lv_iload_n hx hb dX6_days_5 rfl (lv_at hl 1 rfl) ?_
    refine lv_bipush (v := 30) hx hb dX6_days_6 (by decide) ?_
    refine lv_icmp_le (tgt := 14) hx hb dX6_days_8 (by decide) (fun c8 => ?_) (fun c8 => ?_)
    · have h := oit h c8
      refine lv_aload_n hx hb dX6_days_14 rfl (lv_at hl 0 rfl) ?_
      refine va_get (D := D) (ci := 6) (v := .ref srh) (C := RX6) (T := TX6) (N := 14) hx hb hts hiX6 hown hE.1 hP 0 rfl rfl 5 (by decide) (hts (.fieldLink RX6 30 "TiltTray" "spare" "LTiltTray$Spot;") (by decide +kernel)) (fun _ h9 => h9) rfl dX6_days_15 ?_
      refine lv_aload_n hx hb dX6_days_18 rfl (lv_at hl 0 rfl) ?_
      refine va_get (D := D) (ci := 6) (v := .ref noh) (C := RX6) (T := TX6) (N := 14) hx hb hts hiX6 hown hE.1 hP 0 rfl rfl 4 (by decide) (hts (.fieldLink RX6 26 "TiltTray" "now" "LTiltTray$Spot;") (by decide +kernel)) (fun _ h9 => h9) rfl dX6_days_19 ?_
      obtain ⟨q9, hq9, h⟩ := ob h
      refine kV (As := [.ref noh]) (rest := []) (w2 := cTT xh x_text noh srh x_acts x_slots x_sights x_search x_pairs x_worth x_tray x_draft x_let x_kept x_seed ++ (cSp noh noa cy.1 no ++ (cSp srh sra cy.1 q9 ++ (cTr x_tray tra trb trc cy.1 tr)))) (n := 1) (q0 := 3) ⟨hx, hb, hml, hown, hts⟩ (c_X4_take l D cy srh sra noh noa sr no q9 hq9) gX6_days_X4_take rfl (by decide +kernel) ⟨by rw [hRf]; exact Nat.le_of_ble_eq_true rfl, by rw [hRl]; exact Nat.le_of_ble_eq_true rfl⟩ hE hP hD hS hA [3, 4, 1, 2] rfl rfl rfl rfl rfl rfl rfl hl.1 rfl (Nat.le_of_ble_eq_true rfl) dX6_days_22 ⟨Nat.zero_le _, Nat.zero_le _⟩ (fun H locs hP hD hS => ?_)
      refine lv_iconst (v := 0) hx hb dX6_days_25 (by decide) ?_
      refine lv_istore_n (lv' := [(2, .int 0), (0, .ref xh), (1, .int p1)]) hx hb dX6_days_26 rfl hl (by decide) rfl (fun ls hl => ?_)
      refine lv_iconst (v := 0) hx hb dX6_days_27 (by decide) ?_
      refine lv_istore_n (lv' := [(3, .int 0), (2, .int 0), (0, .ref xh), (1, .int p1)]) hx hb dX6_days_28 rfl hl (by decide) rfl (fun ls hl => ?_)
      exact L29 31 0 0 q9 x_seed _ _ _ (lv_sub hl [2, 3, 1, 0] rfl) hP hD hS h
    · have h := oif h c8
      refine lv_bipush (v := (-2)) hx hb dX6_days_11 (by decide) ?_
      obtain rfl := Option.some.inj h
      rw [hQ]; exact ct_iret hx hb hr hlocks hP hS rfl dX6_days_13

def tw_X6_keep (no : SpS) (slf : Nat → SpS) (x_kept : Int32) (p1 : Int32) : Option (Int32 × (Nat → SpS) × Int32) :=
  (tw_X6_isSlot p1).bind (fun q1 => if q1 = 0 then (some ((-1), slf, x_kept)) else (if ix p1 2 = true then ((tw_X4_take (slf p1.toNatClampNeg) no).bind (fun q5 => some (no.2.2.2.2, va_up slf p1.toNatClampNeg q5, x_kept ||| (1 <<< (p1 &&& 31))))) else none))
set_option maxHeartbeats 4000000 in
set_option maxRecDepth 100000 in
theorem c_X6_keep (l : Launch) (D : va_G) (cy : Cy) (xh : Nat) (x_text : Nat) (noh : Nat) (noa : Nat) (x_spare : Nat) (x_acts : Nat) (slfH : Nat → Nat) (slfB : Nat → Nat) (slr : Nat) (x_sights : Nat) (x_search : Nat) (x_pairs : Nat) (x_worth : Nat) (x_tray : Nat) (x_draft : Nat) (no : SpS) (slf : Nat → SpS) (x_let : Int32) (x_kept : Int32) (x_seed : Int64) (p1 : Int32) (res : Int32 × (Nat → SpS) × Int32) (h : tw_X6_keep no slf x_kept p1 = some res) : Ct l yX6_keep wsX6_keep 1 22 D cy [.ref xh, .int p1] ((cTT xh x_text noh x_spare x_acts slr x_sights x_search x_pairs x_worth x_tray x_draft x_let x_kept x_seed ++ (cSp noh noa cy.1 no ++ (cSl slr slfH cy.2.2.2.1))) ++ cSps slfH slfB cy.1 slf 2) ((cTT xh x_text noh x_spare x_acts slr x_sights x_search x_pairs x_worth x_tray x_draft x_let res.2.2 x_seed ++ (cSp noh noa cy.1 no ++ (cSl slr slfH cy.2.2.2.1))) ++ cSps slfH slfB cy.1 res.2.1 2) (some (.int res.1)) := by
  refine Ct.ofW (cc := cX6_keep) (maxL := 2) (ret := (some .int)) (by decide) rfl (Nat.le_of_ble_eq_true rfl) ?_
  intro p e R s m args below meth c A Q ls hRf hRl hQ hx hb hr hml hts hown hlocks hE hP hD hS hA hl
  have hiX4 : ∀ w ∈ u_ws RX4 TX4 5, w ∈ wsX6_keep := by decide +kernel
  have hiX6 : ∀ w ∈ u_ws RX6 TX6 14, w ∈ wsX6_keep := by decide +kernel
  have hl : lv_has ls 2 [(0, .ref xh), (1, .int p1)] := hl
  rw [tw_X6_keep] at h
  refine lv_iload_n hx hb dX6_keep_0 rfl (lv_at hl 1 rfl) ?_
  obtain ⟨q1, hq1, h⟩ := ob h
  refine kS (As := [.int p1]) (rest := []) (w2 := (cTT xh x_text noh x_spare x_acts slr x_sights x_search x_pairs x_worth x_tray x_draft x_let x_kept x_seed ++ (cSp noh noa cy.1 no ++ (cSl slr slfH cy.2.2.2.1))) ++ cSps slfH slfB cy.1 slf 2) (n := 1) ⟨hx, hb, hml, hown, hts⟩ (c_X6_isSlot l D cy p1 q1 hq1) gX6_keep_X6_isSlot rfl (by decide +kernel) ⟨by rw [hRf]; exact Nat.le_of_ble_eq_true rfl, by rw [hRl]; exact Nat.le_of_ble_eq_true rfl⟩ hE hP hD hS hA [] rfl rfl rfl rfl rfl hl.1 rfl (Nat.le_of_ble_eq_true rfl) dX6_keep_1 ⟨Nat.zero_le _, Nat.zero_le _⟩ (fun H locs hP hD hS => ?_)
  refine lv_if_ne (tgt := 9) hx hb dX6_keep_4 (by decide) (fun c2 => ?_) (fun c2 => ?_)
  · have h := oif h c2
    refine lv_aload_n hx hb dX6_keep_9 rfl (lv_at hl 0 rfl) ?_
    refine va_get (D := D) (ci := 6) (v := .ref slr) (C := RX6) (T := TX6) (N := 14) hx hb hts hiX6 hown hE.1 hP 0 rfl rfl 7 (by decide) (hts (.fieldLink RX6 40 "TiltTray" "slots" "[LTiltTray$Spot;") (by decide +kernel)) (fun _ h9 => h9) rfl dX6_keep_10 ?_
    refine lv_iload_n hx hb dX6_keep_13 rfl (lv_at hl 1 rfl) ?_
    obtain ⟨g3, h⟩ := og h
    refine va_aldq hx hb hE.1 hP 3 3 rfl rfl (ix_in g3) dX6_keep_14 ?_
    have j4 : p1.toNatClampNeg < 2 := ix_lt g3
    refine W.eq (g2 := F0 m 15 ls [.ref (slfH p1.toNatClampNeg)]) rfl ?_
    refine lv_aload_n hx hb dX6_keep_15 rfl (lv_at hl 0 rfl) ?_
    refine va_get (D := D) (ci := 6) (v := .ref noh) (C := RX6) (T := TX6) (N := 14) hx hb hts hiX6 hown hE.1 hP 0 rfl rfl 4 (by decide) (hts (.fieldLink RX6 26 "TiltTray" "now" "LTiltTray$Spot;") (by decide +kernel)) (fun _ h9 => h9) rfl dX6_keep_16 ?_
    obtain ⟨q5, hq5, h⟩ := ob h
    refine kV (As := [.ref noh]) (rest := []) (w2 := (cTT xh x_text noh x_spare x_acts slr x_sights x_search x_pairs x_worth x_tray x_draft x_let x_kept x_seed ++ (cSp noh noa cy.1 no ++ (cSl slr slfH cy.2.2.2.1))) ++ cSps slfH slfB cy.1 (va_up slf p1.toNatClampNeg q5) 2) (n := 1) (q0 := (4 + 2 * p1.toNatClampNeg)) ⟨hx, hb, hml, hown, hts⟩ (c_X4_take l D cy (slfH p1.toNatClampNeg) (slfB p1.toNatClampNeg) noh noa (slf p1.toNatClampNeg) no q5 hq5) gX6_keep_X4_take rfl (by decide +kernel) ⟨by rw [hRf]; exact Nat.le_of_ble_eq_true rfl, by rw [hRl]; exact Nat.le_of_ble_eq_true rfl⟩ hE hP hD hS hA [4 + 2 * p1.toNatClampNeg, 4 + 2 * p1.toNatClampNeg + 1, 1, 2] (by simp [va_nd]; try omega) (cC (pl0 rfl j4) (cC (pl1 rfl j4) (cC rfl (cC rfl rfl)))) rfl (Eq.trans (b := ups ((cTT xh x_text noh x_spare x_acts slr x_sights x_search x_pairs x_worth x_tray x_draft x_let x_kept x_seed ++ (cSp noh noa cy.1 no ++ (cSl slr slfH cy.2.2.2.1))) ++ cSps slfH slfB cy.1 (va_up slf p1.toNatClampNeg q5) 2) ([1, 2]) (cSp noh noa cy.1 no ++ (([] : va_W)))) (ups_pool rfl j4) (Eq.trans (b := ups ((cTT xh x_text noh x_spare x_acts slr x_sights x_search x_pairs x_worth x_tray x_draft x_let x_kept x_seed ++ (cSp noh noa cy.1 no ++ (cSl slr slfH cy.2.2.2.1))) ++ cSps slfH slfB cy.1 (va_up slf p1.toNatClampNeg q5) 2) ([]) (([] : va_W))) rfl rfl)) (pl0 rfl j4) rfl rfl hl.1 rfl (Nat.le_of_ble_eq_true rfl) dX6_keep_19 ⟨Nat.zero_le _, Nat.zero_le _⟩ (fun H locs hP hD hS => ?_)
    refine lv_aload_n hx hb dX6_keep_22 rfl (lv_at hl 0 rfl) ?_
    refine lv_dup hx hb dX6_keep_23 rfl ?_
    refine va_get (D := D) (ci := 6) (v := .int x_kept) (C := RX6) (T := TX6) (N := 14) hx hb hts hiX6 hown hE.1 hP 0 rfl rfl 8 (by decide) (hts (.fieldLink RX6 84 "TiltTray" "kept" "I") (by decide +kernel)) (fun _ h9 => h9) rfl dX6_keep_24 ?_
    refine lv_iconst (v := 1) hx hb dX6_keep_27 (by decide) ?_
    refine lv_iload_n hx hb dX6_keep_28 rfl (lv_at hl 1 rfl) ?_
    refine lv_ishl hx hb dX6_keep_29 ?_
    refine lv_ior hx hb dX6_keep_30 ?_
    refine va_put (D := D) (ci := 6) (v := .int (x_kept ||| (1 <<< (p1 &&& 31)))) (ty := .int) (C := RX6) (T := TX6) (N := 14) hx hb hts hiX6 tyX6 tyX6_ok nmX6 hown hE.1 hP hD hS 0 rfl rfl 8 (by decide) (hts (.fieldLink RX6 84 "TiltTray" "kept" "I") (by decide +kernel)) (fun _ h9 => h9) rfl (by decide +kernel) rfl rfl (Nat.le_of_ble_eq_true rfl) dX6_keep_31 (fun H locs hP hD hS => ?_)
    have hP : va_P D vwCl ((cTT xh x_text noh x_spare x_acts slr x_sights x_search x_pairs x_worth x_tray x_draft x_let (x_kept ||| (1 <<< (p1 &&& 31))) x_seed ++ (cSp noh noa cy.1 no ++ (cSl slr slfH cy.2.2.2.1))) ++ cSps slfH slfB cy.1 (va_up slf p1.toNatClampNeg q5) 2) H := hP
    have hD : va_D A ((cTT xh x_text noh x_spare x_acts slr x_sights x_search x_pairs x_worth x_tray x_draft x_let (x_kept ||| (1 <<< (p1 &&& 31))) x_seed ++ (cSp noh noa cy.1 no ++ (cSl slr slfH cy.2.2.2.1))) ++ cSps slfH slfB cy.1 (va_up slf p1.toNatClampNeg q5) 2) := hD
    refine lv_aload_n hx hb dX6_keep_34 rfl (lv_at hl 0 rfl) ?_
    refine va_get (D := D) (ci := 6) (v := .ref noh) (C := RX6) (T := TX6) (N := 14) hx hb hts hiX6 hown hE.1 hP 0 rfl rfl 4 (by decide) (hts (.fieldLink RX6 26 "TiltTray" "now" "LTiltTray$Spot;") (by decide +kernel)) (fun _ h9 => h9) rfl dX6_keep_35 ?_
    refine va_get (D := D) (ci := 4) (v := .int no.2.2.2.2) (C := RX4) (T := TX4) (N := 5) hx hb hts hiX4 hown hE.1 hP 1 rfl rfl 4 (by decide) (hts (.fieldLink RX6 148 "TiltTray$Spot" "tilts" "I") (by decide +kernel)) (fun _ h9 => h9) rfl dX6_keep_38 ?_
    obtain rfl := Option.some.inj h
    rw [hQ]; exact ct_iret hx hb hr hlocks hP hS rfl dX6_keep_41
  · have h := oit h c2
    refine lv_iconst (v := (-1)) hx hb dX6_keep_7 (by decide) ?_
    obtain rfl := Option.some.inj h
    rw [hQ]; exact ct_iret hx hb hr hlocks hP hS rfl dX6_keep_8

def tw_X6_again (no : SpS) (aci : Int32) (acn : Int32) (slf : Nat → SpS) (x_kept : Int32) (p1 : Int32) : Option (Int32 × SpS × Int32 × Int32) :=
  (tw_X6_isSlot p1).bind (fun q1 => if q1 = 0 then (some ((-1), no, aci, acn)) else ((tw_X6_bitOf x_kept p1).bind (fun q3 => if q3 = 0 then (some ((-3), no, aci, acn)) else (if ix p1 2 = true then ((tw_X4_take no (slf p1.toNatClampNeg)).bind (fun q7 => (tw_X0_forget aci acn).bind (fun q8 => some (q7.2.2.2.2, q7, q8.1, q8.2)))) else none))))
set_option maxHeartbeats 4000000 in
set_option maxRecDepth 100000 in
theorem c_X6_again (l : Launch) (D : va_G) (cy : Cy) (xh : Nat) (x_text : Nat) (noh : Nat) (noa : Nat) (x_spare : Nat) (ach : Nat) (acr : Nat) (acH : Nat → Nat) (slfH : Nat → Nat) (slfB : Nat → Nat) (slr : Nat) (x_sights : Nat) (x_search : Nat) (x_pairs : Nat) (x_worth : Nat) (x_tray : Nat) (x_draft : Nat) (no : SpS) (aci : Int32) (acn : Int32) (slf : Nat → SpS) (x_let : Int32) (x_kept : Int32) (x_seed : Int64) (p1 : Int32) (res : Int32 × SpS × Int32 × Int32) (h : tw_X6_again no aci acn slf x_kept p1 = some res) : Ct l yX6_again wsX6_again 1 22 D cy [.ref xh, .int p1] ((cTT xh x_text noh x_spare ach slr x_sights x_search x_pairs x_worth x_tray x_draft x_let x_kept x_seed ++ (cSp noh noa cy.1 no ++ (cAc ach acr acH cy.2.2.2.1 aci acn ++ (cSl slr slfH cy.2.2.2.1)))) ++ cSps slfH slfB cy.1 slf 2) ((cTT xh x_text noh x_spare ach slr x_sights x_search x_pairs x_worth x_tray x_draft x_let x_kept x_seed ++ (cSp noh noa cy.1 res.2.1 ++ (cAc ach acr acH cy.2.2.2.1 res.2.2.1 res.2.2.2 ++ (cSl slr slfH cy.2.2.2.1)))) ++ cSps slfH slfB cy.1 slf 2) (some (.int res.1)) := by
  refine Ct.ofW (cc := cX6_again) (maxL := 2) (ret := (some .int)) (by decide) rfl (Nat.le_of_ble_eq_true rfl) ?_
  intro p e R s m args below meth c A Q ls hRf hRl hQ hx hb hr hml hts hown hlocks hE hP hD hS hA hl
  have hiX4 : ∀ w ∈ u_ws RX4 TX4 5, w ∈ wsX6_again := by decide +kernel
  have hiX6 : ∀ w ∈ u_ws RX6 TX6 14, w ∈ wsX6_again := by decide +kernel
  have hl : lv_has ls 2 [(0, .ref xh), (1, .int p1)] := hl
  rw [tw_X6_again] at h
  refine lv_iload_n hx hb dX6_again_0 rfl (lv_at hl 1 rfl) ?_
  obtain ⟨q1, hq1, h⟩ := ob h
  refine kS (As := [.int p1]) (rest := []) (w2 := (cTT xh x_text noh x_spare ach slr x_sights x_search x_pairs x_worth x_tray x_draft x_let x_kept x_seed ++ (cSp noh noa cy.1 no ++ (cAc ach acr acH cy.2.2.2.1 aci acn ++ (cSl slr slfH cy.2.2.2.1)))) ++ cSps slfH slfB cy.1 slf 2) (n := 1) ⟨hx, hb, hml, hown, hts⟩ (c_X6_isSlot l D cy p1 q1 hq1) gX6_again_X6_isSlot rfl (by decide +kernel) ⟨by rw [hRf]; exact Nat.le_of_ble_eq_true rfl, by rw [hRl]; exact Nat.le_of_ble_eq_true rfl⟩ hE hP hD hS hA [] rfl rfl rfl rfl rfl hl.1 rfl (Nat.le_of_ble_eq_true rfl) dX6_again_1 ⟨Nat.zero_le _, Nat.zero_le _⟩ (fun H locs hP hD hS => ?_)
  refine lv_if_ne (tgt := 9) hx hb dX6_again_4 (by decide) (fun c2 => ?_) (fun c2 => ?_)
  · have h := oif h c2
    refine lv_aload_n hx hb dX6_again_9 rfl (lv_at hl 0 rfl) ?_
    refine va_get (D := D) (ci := 6) (v := .int x_kept) (C := RX6) (T := TX6) (N := 14) hx hb hts hiX6 hown hE.1 hP 0 rfl rfl 8 (by decide) (hts (.fieldLink RX6 84 "TiltTray" "kept" "I") (by decide +kernel)) (fun _ h9 => h9) rfl dX6_again_10 ?_
    refine lv_iload_n hx hb dX6_again_13 rfl (lv_at hl 1 rfl) ?_
    obtain ⟨q3, hq3, h⟩ := ob h
    refine kS (As := [.int x_kept, .int p1]) (rest := []) (w2 := (cTT xh x_text noh x_spare ach slr x_sights x_search x_pairs x_worth x_tray x_draft x_let x_kept x_seed ++ (cSp noh noa cy.1 no ++ (cAc ach acr acH cy.2.2.2.1 aci acn ++ (cSl slr slfH cy.2.2.2.1)))) ++ cSps slfH slfB cy.1 slf 2) (n := 2) ⟨hx, hb, hml, hown, hts⟩ (c_X6_bitOf l D cy x_kept p1 q3 hq3) gX6_again_X6_bitOf rfl (by decide +kernel) ⟨by rw [hRf]; exact Nat.le_of_ble_eq_true rfl, by rw [hRl]; exact Nat.le_of_ble_eq_true rfl⟩ hE hP hD hS hA [] rfl rfl rfl rfl rfl hl.1 rfl (Nat.le_of_ble_eq_true rfl) dX6_again_14 ⟨Nat.zero_le _, Nat.zero_le _⟩ (fun H locs hP hD hS => ?_)
    refine lv_if_ne (tgt := 23) hx hb dX6_again_17 (by decide) (fun c4 => ?_) (fun c4 => ?_)
    · have h := oif h c4
      refine lv_aload_n hx hb dX6_again_23 rfl (lv_at hl 0 rfl) ?_
      refine va_get (D := D) (ci := 6) (v := .ref noh) (C := RX6) (T := TX6) (N := 14) hx hb hts hiX6 hown hE.1 hP 0 rfl rfl 4 (by decide) (hts (.fieldLink RX6 26 "TiltTray" "now" "LTiltTray$Spot;") (by decide +kernel)) (fun _ h9 => h9) rfl dX6_again_24 ?_
      refine lv_aload_n hx hb dX6_again_27 rfl (lv_at hl 0 rfl) ?_
      refine va_get (D := D) (ci := 6) (v := .ref slr) (C := RX6) (T := TX6) (N := 14) hx hb hts hiX6 hown hE.1 hP 0 rfl rfl 7 (by decide) (hts (.fieldLink RX6 40 "TiltTray" "slots" "[LTiltTray$Spot;") (by decide +kernel)) (fun _ h9 => h9) rfl dX6_again_28 ?_
      refine lv_iload_n hx hb dX6_again_31 rfl (lv_at hl 1 rfl) ?_
      obtain ⟨g5, h⟩ := og h
      refine va_aldq hx hb hE.1 hP 5 3 rfl rfl (ix_in g5) dX6_again_32 ?_
      have j6 : p1.toNatClampNeg < 2 := ix_lt g5
      refine W.eq (g2 := F0 m 33 ls [.ref (slfH p1.toNatClampNeg), .ref noh]) rfl ?_
      obtain ⟨q7, hq7, h⟩ := ob h
      refine kV (As := [.ref (slfH p1.toNatClampNeg)]) (rest := []) (w2 := (cTT xh x_text noh x_spare ach slr x_sights x_search x_pairs x_worth x_tray x_draft x_let x_kept x_seed ++ (cSp noh noa cy.1 q7 ++ (cAc ach acr acH cy.2.2.2.1 aci acn ++ (cSl slr slfH cy.2.2.2.1)))) ++ cSps slfH slfB cy.1 slf 2) (n := 1) (q0 := 1) ⟨hx, hb, hml, hown, hts⟩ (c_X4_take l D cy noh noa (slfH p1.toNatClampNeg) (slfB p1.toNatClampNeg) no (slf p1.toNatClampNeg) q7 hq7) gX6_again_X4_take rfl (by decide +kernel) ⟨by rw [hRf]; exact Nat.le_of_ble_eq_true rfl, by rw [hRl]; exact Nat.le_of_ble_eq_true rfl⟩ hE hP hD hS hA [1, 2, 6 + 2 * p1.toNatClampNeg, 6 + 2 * p1.toNatClampNeg + 1] (by simp [va_nd]; try omega) (cC rfl (cC rfl (cC (pl0 rfl j6) (cC (pl1 rfl j6) rfl)))) rfl (Eq.trans (b := ups ((cTT xh x_text noh x_spare ach slr x_sights x_search x_pairs x_worth x_tray x_draft x_let x_kept x_seed ++ (cSp noh noa cy.1 q7 ++ (cAc ach acr acH cy.2.2.2.1 aci acn ++ (cSl slr slfH cy.2.2.2.1)))) ++ cSps slfH slfB cy.1 slf 2) ([6 + 2 * p1.toNatClampNeg, 6 + 2 * p1.toNatClampNeg + 1]) (cSp (slfH p1.toNatClampNeg) (slfB p1.toNatClampNeg) cy.1 (slf p1.toNatClampNeg) ++ (([] : va_W)))) rfl (Eq.trans (b := ups ((cTT xh x_text noh x_spare ach slr x_sights x_search x_pairs x_worth x_tray x_draft x_let x_kept x_seed ++ (cSp noh noa cy.1 q7 ++ (cAc ach acr acH cy.2.2.2.1 aci acn ++ (cSl slr slfH cy.2.2.2.1)))) ++ cSps slfH slfB cy.1 slf 2) ([]) (([] : va_W))) (ups_poolS rfl j6) rfl)) rfl rfl rfl hl.1 rfl (Nat.le_of_ble_eq_true rfl) dX6_again_33 ⟨Nat.zero_le _, Nat.zero_le _⟩ (fun H locs hP hD hS => ?_)
      refine lv_aload_n hx hb dX6_again_36 rfl (lv_at hl 0 rfl) ?_
      refine va_get (D := D) (ci := 6) (v := .ref ach) (C := RX6) (T := TX6) (N := 14) hx hb hts hiX6 hown hE.1 hP 0 rfl rfl 6 (by decide) (hts (.fieldLink RX6 36 "TiltTray" "acts" "LTiltTray$Acts;") (by decide +kernel)) (fun _ h9 => h9) rfl dX6_again_37 ?_
      obtain ⟨q8, hq8, h⟩ := ob h
      refine kV (As := []) (rest := []) (w2 := (cTT xh x_text noh x_spare ach slr x_sights x_search x_pairs x_worth x_tray x_draft x_let x_kept x_seed ++ (cSp noh noa cy.1 q7 ++ (cAc ach acr acH cy.2.2.2.1 q8.1 q8.2 ++ (cSl slr slfH cy.2.2.2.1)))) ++ cSps slfH slfB cy.1 slf 2) (n := 0) (q0 := 3) ⟨hx, hb, hml, hown, hts⟩ (c_X0_forget l D cy ach acr acH aci acn q8 hq8) gX6_again_X0_forget rfl (by decide +kernel) ⟨by rw [hRf]; exact Nat.le_of_ble_eq_true rfl, by rw [hRl]; exact Nat.le_of_ble_eq_true rfl⟩ hE hP hD hS hA [3, 4] rfl rfl rfl rfl rfl rfl rfl hl.1 rfl (Nat.le_of_ble_eq_true rfl) dX6_again_40 ⟨Nat.zero_le _, Nat.zero_le _⟩ (fun H locs hP hD hS => ?_)
      refine lv_aload_n hx hb dX6_again_43 rfl (lv_at hl 0 rfl) ?_
      refine va_get (D := D) (ci := 6) (v := .ref noh) (C := RX6) (T := TX6) (N := 14) hx hb hts hiX6 hown hE.1 hP 0 rfl rfl 4 (by decide) (hts (.fieldLink RX6 26 "TiltTray" "now" "LTiltTray$Spot;") (by decide +kernel)) (fun _ h9 => h9) rfl dX6_again_44 ?_
      refine va_get (D := D) (ci := 4) (v := .int q7.2.2.2.2) (C := RX4) (T := TX4) (N := 5) hx hb hts hiX4 hown hE.1 hP 1 rfl rfl 4 (by decide) (hts (.fieldLink RX6 148 "TiltTray$Spot" "tilts" "I") (by decide +kernel)) (fun _ h9 => h9) rfl dX6_again_47 ?_
      obtain rfl := Option.some.inj h
      rw [hQ]; exact ct_iret hx hb hr hlocks hP hS rfl dX6_again_50
    · have h := oit h c4
      refine lv_bipush (v := (-3)) hx hb dX6_again_20 (by decide) ?_
      obtain rfl := Option.some.inj h
      rw [hQ]; exact ct_iret hx hb hr hlocks hP hS rfl dX6_again_22
  · have h := oit h c2
    refine lv_iconst (v := (-1)) hx hb dX6_again_7 (by decide) ?_
    obtain rfl := Option.some.inj h
    rw [hQ]; exact ct_iret hx hb hr hlocks hP hS rfl dX6_again_8

def tw_X6_count (no : SpS) (acn : Int32) (sin : Int32) (tr : TrS) (x_let : Int32) (p1 : Int32) : Option (Int32) :=
  if p1 = 0 then (some (x_let)) else (if p1 = 1 then (some (tr.2.2.2.1)) else (if p1 = 2 then (some (tr.1 (1 : Int32).toNatClampNeg)) else (if p1 = 3 then (some (tr.1 (2 : Int32).toNatClampNeg)) else (if p1 = 4 then (some (tr.1 (3 : Int32).toNatClampNeg)) else (if p1 = 5 then (some (tr.1 (4 : Int32).toNatClampNeg)) else (if p1 = 6 then (some (no.2.1)) else (if p1 = 7 then (some (no.2.2.1)) else (if p1 = 8 then (some (no.2.2.2.1)) else (if p1 = 9 then (some (no.2.2.2.2)) else (if p1 = 10 then (some (acn)) else (if p1 = 11 then (some (sin)) else (some ((-2))))))))))))))
set_option maxHeartbeats 4000000 in
set_option maxRecDepth 100000 in
theorem c_X6_count (l : Launch) (D : va_G) (cy : Cy) (xh : Nat) (x_text : Nat) (noh : Nat) (noa : Nat) (x_spare : Nat) (ach : Nat) (acr : Nat) (acH : Nat → Nat) (x_slots : Nat) (sih : Nat) (sia : Nat) (sib : Nat) (sic : Nat) (x_search : Nat) (x_pairs : Nat) (x_worth : Nat) (x_tray : Nat) (tra : Nat) (trb : Nat) (trc : Nat) (x_draft : Nat) (no : SpS) (aci : Int32) (acn : Int32) (siu : Nat → Int32) (siv : Nat → Int32) (siw : Nat → Int32) (sin : Int32) (tr : TrS) (x_let : Int32) (x_kept : Int32) (x_seed : Int64) (p1 : Int32) (res : Int32) (h : tw_X6_count no acn sin tr x_let p1 = some res) : Ct l yX6_count wsX6_count 0 0 D cy [.ref xh, .int p1] (cTT xh x_text noh x_spare ach x_slots sih x_search x_pairs x_worth x_tray x_draft x_let x_kept x_seed ++ (cSp noh noa cy.1 no ++ (cAc ach acr acH cy.2.2.2.1 aci acn ++ (cSi sih sia sib sic cy.1 siu siv siw sin ++ (cTr x_tray tra trb trc cy.1 tr))))) (cTT xh x_text noh x_spare ach x_slots sih x_search x_pairs x_worth x_tray x_draft x_let x_kept x_seed ++ (cSp noh noa cy.1 no ++ (cAc ach acr acH cy.2.2.2.1 aci acn ++ (cSi sih sia sib sic cy.1 siu siv siw sin ++ (cTr x_tray tra trb trc cy.1 tr))))) (some (.int res)) := by
  refine Ct.ofW (cc := cX6_count) (maxL := 2) (ret := (some .int)) (by decide) rfl (Nat.le_of_ble_eq_true rfl) ?_
  intro p e R s m args below meth c A Q ls hRf hRl hQ hx hb hr hml hts hown hlocks hE hP hD hS hA hl
  have hiX0 : ∀ w ∈ u_ws RX0 TX0 3, w ∈ wsX6_count := by decide +kernel
  have hiX3 : ∀ w ∈ u_ws RX3 TX3 4, w ∈ wsX6_count := by decide +kernel
  have hiX4 : ∀ w ∈ u_ws RX4 TX4 5, w ∈ wsX6_count := by decide +kernel
  have hiX5 : ∀ w ∈ u_ws RX5 TX5 5, w ∈ wsX6_count := by decide +kernel
  have hiX6 : ∀ w ∈ u_ws RX6 TX6 14, w ∈ wsX6_count := by decide +kernel
  have hl : lv_has ls 2 [(0, .ref xh), (1, .int p1)] := hl
  rw [tw_X6_count] at h
  refine lv_iload_n hx hb dX6_count_0 rfl (lv_at hl 1 rfl) ?_
  by_cases c1 : p1 = 0
  · have h := oit h c1
    refine lv_tableIn (off := 63) (tgt := 64) hx hb dX6_count_1 (by rw [c1]; decide) (by rw [c1]; decide) (by rw [c1]; decide) (by decide) ?_
    refine lv_aload_n hx hb dX6_count_64 rfl (lv_at hl 0 rfl) ?_
    refine va_get (D := D) (ci := 6) (v := .int x_let) (C := RX6) (T := TX6) (N := 14) hx hb hts hiX6 hown hE.1 hP 0 rfl rfl 1 (by decide) (hts (.fieldLink RX6 69 "TiltTray" "letters" "I") (by decide +kernel)) (fun _ h9 => h9) rfl dX6_count_65 ?_
    obtain rfl := Option.some.inj h
    rw [hQ]; exact ct_iret hx hb hr hlocks hP hS rfl dX6_count_68
  have h := oif h c1
  by_cases c2 : p1 = 1
  · have h := oit h c2
    refine lv_tableIn (off := 68) (tgt := 69) hx hb dX6_count_1 (by rw [c2]; decide) (by rw [c2]; decide) (by rw [c2]; decide) (by decide) ?_
    refine lv_aload_n hx hb dX6_count_69 rfl (lv_at hl 0 rfl) ?_
    refine va_get (D := D) (ci := 6) (v := .ref x_tray) (C := RX6) (T := TX6) (N := 14) hx hb hts hiX6 hown hE.1 hP 0 rfl rfl 2 (by decide) (hts (.fieldLink RX6 16 "TiltTray" "tray" "LTiltTray$Tray;") (by decide +kernel)) (fun _ h9 => h9) rfl dX6_count_70 ?_
    refine va_get (D := D) (ci := 5) (v := .int tr.2.2.2.1) (C := RX5) (T := TX5) (N := 5) hx hb hts hiX5 hown hE.1 hP 9 rfl rfl 3 (by decide) (hts (.fieldLink RX6 96 "TiltTray$Tray" "marbles" "I") (by decide +kernel)) (fun _ h9 => h9) rfl dX6_count_73 ?_
    obtain rfl := Option.some.inj h
    rw [hQ]; exact ct_iret hx hb hr hlocks hP hS rfl dX6_count_76
  have h := oif h c2
  by_cases c3 : p1 = 2
  · have h := oit h c3
    refine lv_tableIn (off := 76) (tgt := 77) hx hb dX6_count_1 (by rw [c3]; decide) (by rw [c3]; decide) (by rw [c3]; decide) (by decide) ?_
    refine lv_aload_n hx hb dX6_count_77 rfl (lv_at hl 0 rfl) ?_
    refine va_get (D := D) (ci := 6) (v := .ref x_tray) (C := RX6) (T := TX6) (N := 14) hx hb hts hiX6 hown hE.1 hP 0 rfl rfl 2 (by decide) (hts (.fieldLink RX6 16 "TiltTray" "tray" "LTiltTray$Tray;") (by decide +kernel)) (fun _ h9 => h9) rfl dX6_count_78 ?_
    refine va_get (D := D) (ci := 5) (v := .ref tra) (C := RX5) (T := TX5) (N := 5) hx hb hts hiX5 hown hE.1 hP 9 rfl rfl 0 (by decide) (hts (.fieldLink RX6 87 "TiltTray$Tray" "told" "[I") (by decide +kernel)) (fun _ h9 => h9) rfl dX6_count_81 ?_
    refine lv_iconst (v := 1) hx hb dX6_count_84 (by decide) ?_
    refine va_iald hx hb hE.1 hP 10 0 rfl rfl (ix_in (by decide)) dX6_count_85 ?_
    obtain rfl := Option.some.inj h
    rw [hQ]; exact ct_iret hx hb hr hlocks hP hS rfl dX6_count_86
  have h := oif h c3
  by_cases c4 : p1 = 3
  · have h := oit h c4
    refine lv_tableIn (off := 86) (tgt := 87) hx hb dX6_count_1 (by rw [c4]; decide) (by rw [c4]; decide) (by rw [c4]; decide) (by decide) ?_
    refine lv_aload_n hx hb dX6_count_87 rfl (lv_at hl 0 rfl) ?_
    refine va_get (D := D) (ci := 6) (v := .ref x_tray) (C := RX6) (T := TX6) (N := 14) hx hb hts hiX6 hown hE.1 hP 0 rfl rfl 2 (by decide) (hts (.fieldLink RX6 16 "TiltTray" "tray" "LTiltTray$Tray;") (by decide +kernel)) (fun _ h9 => h9) rfl dX6_count_88 ?_
    refine va_get (D := D) (ci := 5) (v := .ref tra) (C := RX5) (T := TX5) (N := 5) hx hb hts hiX5 hown hE.1 hP 9 rfl rfl 0 (by decide) (hts (.fieldLink RX6 87 "TiltTray$Tray" "told" "[I") (by decide +kernel)) (fun _ h9 => h9) rfl dX6_count_91 ?_
    refine lv_iconst (v := 2) hx hb dX6_count_94 (by decide) ?_
    refine va_iald hx hb hE.1 hP 10 0 rfl rfl (ix_in (by decide)) dX6_count_95 ?_
    obtain rfl := Option.some.inj h
    rw [hQ]; exact ct_iret hx hb hr hlocks hP hS rfl dX6_count_96
  have h := oif h c4
  by_cases c5 : p1 = 4
  · have h := oit h c5
    refine lv_tableIn (off := 96) (tgt := 97) hx hb dX6_count_1 (by rw [c5]; decide) (by rw [c5]; decide) (by rw [c5]; decide) (by decide) ?_
    refine lv_aload_n hx hb dX6_count_97 rfl (lv_at hl 0 rfl) ?_
    refine va_get (D := D) (ci := 6) (v := .ref x_tray) (C := RX6) (T := TX6) (N := 14) hx hb hts hiX6 hown hE.1 hP 0 rfl rfl 2 (by decide) (hts (.fieldLink RX6 16 "TiltTray" "tray" "LTiltTray$Tray;") (by decide +kernel)) (fun _ h9 => h9) rfl dX6_count_98 ?_
    refine va_get (D := D) (ci := 5) (v := .ref tra) (C := RX5) (T := TX5) (N := 5) hx hb hts hiX5 hown hE.1 hP 9 rfl rfl 0 (by decide) (hts (.fieldLink RX6 87 "TiltTray$Tray" "told" "[I") (by decide +kernel)) (fun _ h9 => h9) rfl dX6_count_101 ?_
    refine lv_iconst (v := 3) hx hb dX6_count_104 (by decide) ?_
    refine va_iald hx hb hE.1 hP 10 0 rfl rfl (ix_in (by decide)) dX6_count_105 ?_
    obtain rfl := Option.some.inj h
    rw [hQ]; exact ct_iret hx hb hr hlocks hP hS rfl dX6_count_106
  have h := oif h c5
  by_cases c6 : p1 = 5
  · have h := oit h c6
    refine lv_tableIn (off := 106) (tgt := 107) hx hb dX6_count_1 (by rw [c6]; decide) (by rw [c6]; decide) (by rw [c6]; decide) (by decide) ?_
    refine lv_aload_n hx hb dX6_count_107 rfl (lv_at hl 0 rfl) ?_
    refine va_get (D := D) (ci := 6) (v := .ref x_tray) (C := RX6) (T := TX6) (N := 14) hx hb hts hiX6 hown hE.1 hP 0 rfl rfl 2 (by decide) (hts (.fieldLink RX6 16 "TiltTray" "tray" "LTiltTray$Tray;") (by decide +kernel)) (fun _ h9 => h9) rfl dX6_count_108 ?_
    refine va_get (D := D) (ci := 5) (v := .ref tra) (C := RX5) (T := TX5) (N := 5) hx hb hts hiX5 hown hE.1 hP 9 rfl rfl 0 (by decide) (hts (.fieldLink RX6 87 "TiltTray$Tray" "told" "[I") (by decide +kernel)) (fun _ h9 => h9) rfl dX6_count_111 ?_
    refine lv_iconst (v := 4) hx hb dX6_count_114 (by decide) ?_
    refine va_iald hx hb hE.1 hP 10 0 rfl rfl (ix_in (by decide)) dX6_count_115 ?_
    obtain rfl := Option.some.inj h
    rw [hQ]; exact ct_iret hx hb hr hlocks hP hS rfl dX6_count_116
  have h := oif h c6
  by_cases c7 : p1 = 6
  · have h := oit h c7
    refine lv_tableIn (off := 116) (tgt := 117) hx hb dX6_count_1 (by rw [c7]; decide) (by rw [c7]; decide) (by rw [c7]; decide) (by decide) ?_
    refine lv_aload_n hx hb dX6_count_117 rfl (lv_at hl 0 rfl) ?_
    refine va_get (D := D) (ci := 6) (v := .ref noh) (C := RX6) (T := TX6) (N := 14) hx hb hts hiX6 hown hE.1 hP 0 rfl rfl 4 (by decide) (hts (.fieldLink RX6 26 "TiltTray" "now" "LTiltTray$Spot;") (by decide +kernel)) (fun _ h9 => h9) rfl dX6_count_118 ?_
    refine va_get (D := D) (ci := 4) (v := .int no.2.1) (C := RX4) (T := TX4) (N := 5) hx hb hts hiX4 hown hE.1 hP 1 rfl rfl 1 (by decide) (hts (.fieldLink RX6 269 "TiltTray$Spot" "taken" "I") (by decide +kernel)) (fun _ h9 => h9) rfl dX6_count_121 ?_
    obtain rfl := Option.some.inj h
    rw [hQ]; exact ct_iret hx hb hr hlocks hP hS rfl dX6_count_124
  have h := oif h c7
  by_cases c8 : p1 = 7
  · have h := oit h c8
    refine lv_tableIn (off := 124) (tgt := 125) hx hb dX6_count_1 (by rw [c8]; decide) (by rw [c8]; decide) (by rw [c8]; decide) (by decide) ?_
    refine lv_aload_n hx hb dX6_count_125 rfl (lv_at hl 0 rfl) ?_
    refine va_get (D := D) (ci := 6) (v := .ref noh) (C := RX6) (T := TX6) (N := 14) hx hb hts hiX6 hown hE.1 hP 0 rfl rfl 4 (by decide) (hts (.fieldLink RX6 26 "TiltTray" "now" "LTiltTray$Spot;") (by decide +kernel)) (fun _ h9 => h9) rfl dX6_count_126 ?_
    refine va_get (D := D) (ci := 4) (v := .int no.2.2.1) (C := RX4) (T := TX4) (N := 5) hx hb hts hiX4 hown hE.1 hP 1 rfl rfl 2 (by decide) (hts (.fieldLink RX6 109 "TiltTray$Spot" "full" "I") (by decide +kernel)) (fun _ h9 => h9) rfl dX6_count_129 ?_
    obtain rfl := Option.some.inj h
    rw [hQ]; exact ct_iret hx hb hr hlocks hP hS rfl dX6_count_132
  have h := oif h c8
  by_cases c9 : p1 = 8
  · have h := oit h c9
    refine lv_tableIn (off := 132) (tgt := 133) hx hb dX6_count_1 (by rw [c9]; decide) (by rw [c9]; decide) (by rw [c9]; decide) (by decide) ?_
    refine lv_aload_n hx hb dX6_count_133 rfl (lv_at hl 0 rfl) ?_
    refine va_get (D := D) (ci := 6) (v := .ref noh) (C := RX6) (T := TX6) (N := 14) hx hb hts hiX6 hown hE.1 hP 0 rfl rfl 4 (by decide) (hts (.fieldLink RX6 26 "TiltTray" "now" "LTiltTray$Spot;") (by decide +kernel)) (fun _ h9 => h9) rfl dX6_count_134 ?_
    refine va_get (D := D) (ci := 4) (v := .int no.2.2.2.1) (C := RX4) (T := TX4) (N := 5) hx hb hts hiX4 hown hE.1 hP 1 rfl rfl 3 (by decide) (hts (.fieldLink RX6 116 "TiltTray$Spot" "wedged" "I") (by decide +kernel)) (fun _ h9 => h9) rfl dX6_count_137 ?_
    obtain rfl := Option.some.inj h
    rw [hQ]; exact ct_iret hx hb hr hlocks hP hS rfl dX6_count_140
  have h := oif h c9
  by_cases c10 : p1 = 9
  · have h := oit h c10
    refine lv_tableIn (off := 140) (tgt := 141) hx hb dX6_count_1 (by rw [c10]; decide) (by rw [c10]; decide) (by rw [c10]; decide) (by decide) ?_
    refine lv_aload_n hx hb dX6_count_141 rfl (lv_at hl 0 rfl) ?_
    refine va_get (D := D) (ci := 6) (v := .ref noh) (C := RX6) (T := TX6) (N := 14) hx hb hts hiX6 hown hE.1 hP 0 rfl rfl 4 (by decide) (hts (.fieldLink RX6 26 "TiltTray" "now" "LTiltTray$Spot;") (by decide +kernel)) (fun _ h9 => h9) rfl dX6_count_142 ?_
    refine va_get (D := D) (ci := 4) (v := .int no.2.2.2.2) (C := RX4) (T := TX4) (N := 5) hx hb hts hiX4 hown hE.1 hP 1 rfl rfl 4 (by decide) (hts (.fieldLink RX6 148 "TiltTray$Spot" "tilts" "I") (by decide +kernel)) (fun _ h9 => h9) rfl dX6_count_145 ?_
    obtain rfl := Option.some.inj h
    rw [hQ]; exact ct_iret hx hb hr hlocks hP hS rfl dX6_count_148
  have h := oif h c10
  by_cases c11 : p1 = 10
  · have h := oit h c11
    refine lv_tableIn (off := 148) (tgt := 149) hx hb dX6_count_1 (by rw [c11]; decide) (by rw [c11]; decide) (by rw [c11]; decide) (by decide) ?_
    refine lv_aload_n hx hb dX6_count_149 rfl (lv_at hl 0 rfl) ?_
    refine va_get (D := D) (ci := 6) (v := .ref ach) (C := RX6) (T := TX6) (N := 14) hx hb hts hiX6 hown hE.1 hP 0 rfl rfl 6 (by decide) (hts (.fieldLink RX6 36 "TiltTray" "acts" "LTiltTray$Acts;") (by decide +kernel)) (fun _ h9 => h9) rfl dX6_count_150 ?_
    refine va_get (D := D) (ci := 0) (v := .int acn) (C := RX0) (T := TX0) (N := 3) hx hb hts hiX0 hown hE.1 hP 3 rfl rfl 2 (by decide) (hts (.fieldLink RX6 272 "TiltTray$Acts" "many" "I") (by decide +kernel)) (fun _ h9 => h9) rfl dX6_count_153 ?_
    obtain rfl := Option.some.inj h
    rw [hQ]; exact ct_iret hx hb hr hlocks hP hS rfl dX6_count_156
  have h := oif h c11
  by_cases c12 : p1 = 11
  · have h := oit h c12
    refine lv_tableIn (off := 156) (tgt := 157) hx hb dX6_count_1 (by rw [c12]; decide) (by rw [c12]; decide) (by rw [c12]; decide) (by decide) ?_
    refine lv_aload_n hx hb dX6_count_157 rfl (lv_at hl 0 rfl) ?_
    refine va_get (D := D) (ci := 6) (v := .ref sih) (C := RX6) (T := TX6) (N := 14) hx hb hts hiX6 hown hE.1 hP 0 rfl rfl 9 (by decide) (hts (.fieldLink RX6 47 "TiltTray" "sights" "LTiltTray$Sights;") (by decide +kernel)) (fun _ h9 => h9) rfl dX6_count_158 ?_
    refine va_get (D := D) (ci := 3) (v := .int sin) (C := RX3) (T := TX3) (N := 4) hx hb hts hiX3 hown hE.1 hP 5 rfl rfl 3 (by decide) (hts (.fieldLink RX6 213 "TiltTray$Sights" "many" "I") (by decide +kernel)) (fun _ h9 => h9) rfl dX6_count_161 ?_
    obtain rfl := Option.some.inj h
    rw [hQ]; exact ct_iret hx hb hr hlocks hP hS rfl dX6_count_164
  have h := oif h c12
  refine lv_tableOut (tgt := 165) hx hb dX6_count_1 (sw_out 11 (by decide) (fun k hk => by rcases (show k = 0 ∨ k = 1 ∨ k = 2 ∨ k = 3 ∨ k = 4 ∨ k = 5 ∨ k = 6 ∨ k = 7 ∨ k = 8 ∨ k = 9 ∨ k = 10 ∨ k = 11 by omega) with rfl | rfl | rfl | rfl | rfl | rfl | rfl | rfl | rfl | rfl | rfl | rfl <;> assumption)) (by decide) ?_
  refine lv_bipush (v := (-2)) hx hb dX6_count_165 (by decide) ?_
  obtain rfl := Option.some.inj h
  rw [hQ]; exact ct_iret hx hb hr hlocks hP hS rfl dX6_count_167
