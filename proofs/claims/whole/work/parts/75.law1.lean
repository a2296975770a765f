section LAWC
variable {p : Program} {l : Launch} {e : Env} {s : State} {m : MethodId} {below : List Frame} {meth : Method} {c : Code} {b L : Nat} {xs : Nat → Int32} {D : va_G} {cy : Cy} {A : Nat → Prop} {xh mh i CE SL : Nat} {Q : State → Prop} {H : Heap} {locs : List Loc} {ls : Array Slot}
set_option maxHeartbeats 4000000 in
set_option maxRecDepth 100000 in
theorem k_write (X : LX p s m meth c b L xs D cy A) (hi : i + 5 < L) (hf : CE ≤ room_1.cells ∧ SL ≤ room_1.slots) (hI : LI D cy A s xh mh H locs) (hl : lv_has ls 4 [(3, .int (nI i)), (2, .ref mh), (1, .ref xh), (0, .ref b)])
    (K : ∀ (H : Heap) (locs : List Loc) (ls : Array Slot), LI D cy A s xh mh H locs → lv_has ls 4 [(3, .int (nI i)), (2, .ref mh), (1, .ref xh), (0, .ref b)] → W p l e room_1 s m #[Value.ref b] below meth c H locs CE SL Q (F0 m 1009 ls [])) : W p l e room_1 s m #[Value.ref b] below meth c H locs CE SL Q (F0 m 160 ls []) := by
  obtain ⟨hx, hb, hml, hown, hts, hX, hbl, hbA, hE, hA, hL⟩ := X
  obtain ⟨txr, noh, noa, srh, sra, ach, acr, slr, sih, sia, sib, sic, seh, ser, pah, paa, pab, wor, xt, ta, tb, tc, xd, da, db, dc, q0, q1, q2, q3, q4, q5, q6, q7, q8, q9, q10, q11, q12, acH, acB, slH, slB, seH, seB, tx, le, no, sr, acf, aci, acn, slf, kp, siu, siv, siw, si, sef, seb, seo, sew, pau, pav, wo, tr, df, sd, mm, mk, mt, now, rt, rc, rk, mx, ml, a_, f_, sm, ma, nx, row, br, ms, mc, mw, mq, isK, mkp, ⟨mb, k, n, j, x, nt, ns, hT, hC, hAc, hSl, hTx, hSi⟩, hP, hD, hS⟩ := hI
  refine lv_aload_n hx hb dL_law_160 rfl (lv_at hl 2 rfl) ?_
  refine lw_read (k := 1) hx hb hX hbl hbA hS hl hi hL (by decide) (by decide) dL_law_161 dL_law_162 dL_law_163 dL_law_164 dL_law_165 ?_
  obtain ⟨r, tx', mx', le', ml', nt', e1, e2, h1⟩ := s_write hTx (xs (i + 1))
  refine kG (Cn := RX6) (ci := 6) (As := [.int (xs (i + 1))]) (rest := []) ⟨hx, hb, hml, hown, hts⟩ (c_X6_write l D cy xh txr noh srh ach slr sih seh pah wor xt xd tx le kp sd (xs (i + 1)) _ e1) gL_law_X6_write rfl (by decide +kernel) ⟨(Nat.le_of_ble_eq_true rfl), (Nat.le_of_ble_eq_true rfl)⟩ hE hP hD hS hA pm_tt_text pm_tt_text rfl rfl rfl rfl hl.1 rfl (Nat.le_of_ble_eq_true rfl) dL_law_166 hf (fun H locs hP hD hS => ?_)
  change W p l e room_1 s m #[Value.ref b] below meth c H locs CE SL Q (F0 m 169 ls [.int r])
  refine lv_aload_n hx hb dL_law_169 rfl (lv_at hl 1 rfl) ?_
  refine lw_read (k := 1) hx hb hX hbl hbA hS hl hi hL (by decide) (by decide) dL_law_170 dL_law_171 dL_law_172 dL_law_173 dL_law_174 ?_
  refine kG (Cn := RX7) (ci := 7) (As := [.int (xs (i + 1))]) (rest := [.int r]) ⟨hx, hb, hml, hown, hts⟩ (c_X7_write l D cy mh q0 q1 q2 q3 q4 q5 q6 q7 q8 q9 q10 q11 q12 mm mk mt now rt rc rk mx ml a_ f_ 15 sm ma nx row br ms mc mw mq sd isK mkp (xs (i + 1)) _ e2) gL_law_X7_write rfl (by decide +kernel) ⟨(Nat.le_of_ble_eq_true rfl), (Nat.le_of_ble_eq_true rfl)⟩ hE hP hD hS hA pm_model pm_model rfl rfl rfl rfl hl.1 rfl (Nat.le_of_ble_eq_true rfl) dL_law_175 hf (fun H locs hP hD hS => ?_)
  change W p l e room_1 s m #[Value.ref b] below meth c H locs CE SL Q (F0 m 178 ls [.int r, .int r])
  refine lv_icmp_eq (tgt := 1009) hx hb dL_law_178 (by decide) (fun _ => ?_) (fun z => absurd rfl z)
  exact K H locs ls ⟨txr, noh, noa, srh, sra, ach, acr, slr, sih, sia, sib, sic, seh, ser, pah, paa, pab, wor, xt, ta, tb, tc, xd, da, db, dc, q0, q1, q2, q3, q4, q5, q6, q7, q8, q9, q10, q11, q12, acH, acB, slH, slB, seH, seB, tx', le', no, sr, acf, aci, acn, slf, kp, siu, siv, siw, si, sef, seb, seo, sew, pau, pav, wo, tr, df, sd, mm, mk, mt, now, rt, rc, rk, mx', ml', a_, f_, sm, ma, nx, row, br, ms, mc, mw, mq, isK, mkp, ⟨mb, k, n, j, x, nt', ns, hT, hC, hAc, hSl, h1, hSi⟩, hP, hD, hS⟩ hl
set_option maxHeartbeats 4000000 in
set_option maxRecDepth 100000 in
theorem k_wipe (X : LX p s m meth c b L xs D cy A) (hi : i + 5 < L) (hf : CE ≤ room_1.cells ∧ SL ≤ room_1.slots) (hI : LI D cy A s xh mh H locs) (hl : lv_has ls 4 [(3, .int (nI i)), (2, .ref mh), (1, .ref xh), (0, .ref b)])
    (K : ∀ (H : Heap) (locs : List Loc) (ls : Array Slot), LI D cy A s xh mh H locs → lv_has ls 4 [(3, .int (nI i)), (2, .ref mh), (1, .ref xh), (0, .ref b)] → W p l e room_1 s m #[Value.ref b] below meth c H locs CE SL Q (F0 m 1009 ls [])) : W p l e room_1 s m #[Value.ref b] below meth c H locs CE SL Q (F0 m 183 ls []) := by
  obtain ⟨hx, hb, hml, hown, hts, hX, hbl, hbA, hE, hA, hL⟩ := X
  obtain ⟨txr, noh, noa, srh, sra, ach, acr, slr, sih, sia, sib, sic, seh, ser, pah, paa, pab, wor, xt, ta, tb, tc, xd, da, db, dc, q0, q1, q2, q3, q4, q5, q6, q7, q8, q9, q10, q11, q12, acH, acB, slH, slB, seH, seB, tx, le, no, sr, acf, aci, acn, slf, kp, siu, siv, siw, si, sef, seb, seo, sew, pau, pav, wo, tr, df, sd, mm, mk, mt, now, rt, rc, rk, mx, ml, a_, f_, sm, ma, nx, row, br, ms, mc, mw, mq, isK, mkp, ⟨mb, k, n, j, x, nt, ns, hT, hC, hAc, hSl, hTx, hSi⟩, hP, hD, hS⟩ := hI
  refine lv_aload_n hx hb dL_law_183 rfl (lv_at hl 2 rfl) ?_
  obtain ⟨r, e1, e2, h1⟩ := s_wipe hTx
  refine kG (Cn := RX6) (ci := 6) (As := []) (rest := []) ⟨hx, hb, hml, hown, hts⟩ (c_X6_wipe l D cy xh txr noh srh ach slr sih seh pah wor xt xd le kp sd _ e1) gL_law_X6_wipe rfl (by decide +kernel) ⟨(Nat.le_of_ble_eq_true rfl), (Nat.le_of_ble_eq_true rfl)⟩ hE hP hD hS hA pm_tt pm_tt rfl rfl rfl rfl hl.1 rfl (Nat.le_of_ble_eq_true rfl) dL_law_184 hf (fun H locs hP hD hS => ?_)
  change W p l e room_1 s m #[Value.ref b] below meth c H locs CE SL Q (F0 m 187 ls [.int r])
  refine lv_aload_n hx hb dL_law_187 rfl (lv_at hl 1 rfl) ?_
  refine kG (Cn := RX7) (ci := 7) (As := []) (rest := [.int r]) ⟨hx, hb, hml, hown, hts⟩ (c_X7_wipe l D cy mh q0 q1 q2 q3 q4 q5 q6 q7 q8 q9 q10 q11 q12 mm mk mt now rt rc rk mx ml a_ f_ 15 sm ma nx row br ms mc mw mq sd isK mkp _ e2) gL_law_X7_wipe rfl (by decide +kernel) ⟨(Nat.le_of_ble_eq_true rfl), (Nat.le_of_ble_eq_true rfl)⟩ hE hP hD hS hA pm_model pm_model rfl rfl rfl rfl hl.1 rfl (Nat.le_of_ble_eq_true rfl) dL_law_188 hf (fun H locs hP hD hS => ?_)
  change W p l e room_1 s m #[Value.ref b] below meth c H locs CE SL Q (F0 m 191 ls [.int r, .int r])
  refine lv_icmp_eq (tgt := 1009) hx hb dL_law_191 (by decide) (fun _ => ?_) (fun z => absurd rfl z)
  exact K H locs ls ⟨txr, noh, noa, srh, sra, ach, acr, slr, sih, sia, sib, sic, seh, ser, pah, paa, pab, wor, xt, ta, tb, tc, xd, da, db, dc, q0, q1, q2, q3, q4, q5, q6, q7, q8, q9, q10, q11, q12, acH, acB, slH, slB, seH, seB, tx, 0, no, sr, acf, aci, acn, slf, kp, siu, siv, siw, si, sef, seb, seo, sew, pau, pav, wo, tr, df, sd, mm, mk, mt, now, rt, rc, rk, mx, 0, a_, f_, sm, ma, nx, row, br, ms, mc, mw, mq, isK, mkp, ⟨mb, k, n, j, x, 0, ns, hT, hC, hAc, hSl, h1, hSi⟩, hP, hD, hS⟩ hl
set_option maxHeartbeats 4000000 in
set_option maxRecDepth 100000 in
theorem k_fault (X : LX p s m meth c b L xs D cy A) (hi : i + 5 < L) (hf : CE ≤ room_1.cells ∧ SL ≤ room_1.slots) (hI : LI D cy A s xh mh H locs) (hl : lv_has ls 4 [(3, .int (nI i)), (2, .ref mh), (1, .ref xh), (0, .ref b)])
    (K : ∀ (H : Heap) (locs : List Loc) (ls : Array Slot), LI D cy A s xh mh H locs → lv_has ls 4 [(3, .int (nI i)), (2, .ref mh), (1, .ref xh), (0, .ref b)] → W p l e room_1 s m #[Value.ref b] below meth c H locs CE SL Q (F0 m 1009 ls [])) : W p l e room_1 s m #[Value.ref b] below meth c H locs CE SL Q (F0 m 196 ls []) := by
  obtain ⟨hx, hb, hml, hown, hts, hX, hbl, hbA, hE, hA, hL⟩ := X
  obtain ⟨txr, noh, noa, srh, sra, ach, acr, slr, sih, sia, sib, sic, seh, ser, pah, paa, pab, wor, xt, ta, tb, tc, xd, da, db, dc, q0, q1, q2, q3, q4, q5, q6, q7, q8, q9, q10, q11, q12, acH, acB, slH, slB, seH, seB, tx, le, no, sr, acf, aci, acn, slf, kp, siu, siv, siw, si, sef, seb, seo, sew, pau, pav, wo, tr, df, sd, mm, mk, mt, now, rt, rc, rk, mx, ml, a_, f_, sm, ma, nx, row, br, ms, mc, mw, mq, isK, mkp, ⟨mb, k, n, j, x, nt, ns, hT, hC, hAc, hSl, hTx, hSi⟩, hP, hD, hS⟩ := hI
  refine lv_aload_n hx hb dL_law_196 rfl (lv_at hl 2 rfl) ?_
  obtain ⟨r, df', rt', rc', rk', a_', f_', e1, e2⟩ := s_fault hTx df rt rc rk a_ f_
  refine kG (Cn := RX6) (ci := 6) (As := []) (rest := []) ⟨hx, hb, hml, hown, hts⟩ (c_X6_fault l D cy xh txr noh srh ach slr sih seh pah wor xt xd da db dc tx df le kp sd _ e1) gL_law_X6_fault rfl (by decide +kernel) ⟨(Nat.le_of_ble_eq_true rfl), (Nat.le_of_ble_eq_true rfl)⟩ hE hP hD hS hA pm_tt_text_draft pm_tt_text_draft rfl rfl rfl rfl hl.1 rfl (Nat.le_of_ble_eq_true rfl) dL_law_197 hf (fun H locs hP hD hS => ?_)
  change W p l e room_1 s m #[Value.ref b] below meth c H locs CE SL Q (F0 m 200 ls [.int r])
  refine lv_aload_n hx hb dL_law_200 rfl (lv_at hl 1 rfl) ?_
  refine kG (Cn := RX7) (ci := 7) (As := []) (rest := [.int r]) ⟨hx, hb, hml, hown, hts⟩ (c_X7_fault l D cy mh q0 q1 q2 q3 q4 q5 q6 q7 q8 q9 q10 q11 q12 mm mk mt now rt rc rk mx ml a_ f_ 15 sm ma nx row br ms mc mw mq sd isK mkp _ e2) gL_law_X7_fault rfl (by decide +kernel) ⟨(Nat.le_of_ble_eq_true rfl), (Nat.le_of_ble_eq_true rfl)⟩ hE hP hD hS hA pm_model pm_model rfl rfl rfl rfl hl.1 rfl (Nat.le_of_ble_eq_true rfl) dL_law_201 hf (fun H locs hP hD hS => ?_)
  change W p l e room_1 s m #[Value.ref b] below meth c H locs CE SL Q (F0 m 204 ls [.int r, .int r])
  refine lv_icmp_eq (tgt := 1009) hx hb dL_law_204 (by decide) (fun _ => ?_) (fun z => absurd rfl z)
  exact K H locs ls ⟨txr, noh, noa, srh, sra, ach, acr, slr, sih, sia, sib, sic, seh, ser, pah, paa, pab, wor, xt, ta, tb, tc, xd, da, db, dc, q0, q1, q2, q3, q4, q5, q6, q7, q8, q9, q10, q11, q12, acH, acB, slH, slB, seH, seB, tx, le, no, sr, acf, aci, acn, slf, kp, siu, siv, siw, si, sef, seb, seo, sew, pau, pav, wo, tr, df', sd, mm, mk, mt, now, rt', rc', rk', mx, ml, a_', f_', sm, ma, nx, row, br, ms, mc, mw, mq, isK, mkp, ⟨mb, k, n, j, x, nt, ns, hT, hC, hAc, hSl, hTx, hSi⟩, hP, hD, hS⟩ hl
set_option maxHeartbeats 4000000 in
set_option maxRecDepth 100000 in
theorem k_table (X : LX p s m meth c b L xs D cy A) (hi : i + 5 < L) (hf : CE ≤ room_1.cells ∧ SL ≤ room_1.slots) (hI : LI D cy A s xh mh H locs) (hl : lv_has ls 4 [(3, .int (nI i)), (2, .ref mh), (1, .ref xh), (0, .ref b)])
    (K : ∀ (H : Heap) (locs : List Loc) (ls : Array Slot), LI D cy A s xh mh H locs → lv_has ls 4 [(3, .int (nI i)), (2, .ref mh), (1, .ref xh), (0, .ref b)] → W p l e room_1 s m #[Value.ref b] below meth c H locs CE SL Q (F0 m 1009 ls [])) : W p l e room_1 s m #[Value.ref b] below meth c H locs CE SL Q (F0 m 209 ls []) := by
  obtain ⟨hx, hb, hml, hown, hts, hX, hbl, hbA, hE, hA, hL⟩ := X
  obtain ⟨txr, noh, noa, srh, sra, ach, acr, slr, sih, sia, sib, sic, seh, ser, pah, paa, pab, wor, xt, ta, tb, tc, xd, da, db, dc, q0, q1, q2, q3, q4, q5, q6, q7, q8, q9, q10, q11, q12, acH, acB, slH, slB, seH, seB, tx, le, no, sr, acf, aci, acn, slf, kp, siu, siv, siw, si, sef, seb, seo, sew, pau, pav, wo, tr, df, sd, mm, mk, mt, now, rt, rc, rk, mx, ml, a_, f_, sm, ma, nx, row, br, ms, mc, mw, mq, isK, mkp, ⟨mb, k, n, j, x, nt, ns, hT, hC, hAc, hSl, hTx, hSi⟩, hP, hD, hS⟩ := hI
  refine lv_aload_n hx hb dL_law_209 rfl (lv_at hl 2 rfl) ?_
  obtain ⟨r, no', aci', acn', xt', df', xd', kp', mm', mk', mt', now', rt', rc', rk', a_', f_', ma', isK', e1, e2, h1⟩ := s_table hTx no aci acn xt df xd kp mm mk mt now rt rc rk a_ f_ ma isK
  rcases h1 with ⟨rfl, rfl, rfl, rfl, rfl, rfl, rfl, rfl, rfl, rfl, rfl, rfl⟩ | ⟨rfl, rfl, rfl, rfl, rfl, rfl, hk0, mb', hT', hC'⟩
  · skip
    refine kG (Cn := RX6) (ci := 6) (As := []) (rest := []) ⟨hx, hb, hml, hown, hts⟩ (c_X6_table l D cy xh txr noh noa srh ach acr acH slr sih seh pah wor xt ta tb tc xd da db dc tx no aci acn tr df le kp sd _ e1) gL_law_X6_table rfl (by decide +kernel) ⟨(Nat.le_of_ble_eq_true rfl), (Nat.le_of_ble_eq_true rfl)⟩ hE hP hD hS hA pm_tt_text_now_acts_tray_draft pm_tt_text_now_acts_tray_draft rfl rfl rfl rfl hl.1 rfl (Nat.le_of_ble_eq_true rfl) dL_law_210 hf (fun H locs hP hD hS => ?_)
    change W p l e room_1 s m #[Value.ref b] below meth c H locs CE SL Q (F0 m 213 ls [.int r])
    refine lv_aload_n hx hb dL_law_213 rfl (lv_at hl 1 rfl) ?_
    refine kG (Cn := RX7) (ci := 7) (As := []) (rest := [.int r]) ⟨hx, hb, hml, hown, hts⟩ (c_X7_table l D cy mh q0 q1 q2 q3 q4 q5 q6 q7 q8 q9 q10 q11 q12 mm mk mt now rt rc rk mx ml a_ f_ 15 sm ma nx row br ms mc mw mq sd isK mkp _ e2) gL_law_X7_table rfl (by decide +kernel) ⟨(Nat.le_of_ble_eq_true rfl), (Nat.le_of_ble_eq_true rfl)⟩ hE hP hD hS hA pm_model pm_model rfl rfl rfl rfl hl.1 rfl (Nat.le_of_ble_eq_true rfl) dL_law_214 hf (fun H locs hP hD hS => ?_)
    change W p l e room_1 s m #[Value.ref b] below meth c H locs CE SL Q (F0 m 217 ls [.int r, .int r])
    refine lv_icmp_eq (tgt := 1009) hx hb dL_law_217 (by decide) (fun _ => ?_) (fun z => absurd rfl z)
    exact K H locs ls ⟨txr, noh, noa, srh, sra, ach, acr, slr, sih, sia, sib, sic, seh, ser, pah, paa, pab, wor, xt, ta, tb, tc, xd, da, db, dc, q0, q1, q2, q3, q4, q5, q6, q7, q8, q9, q10, q11, q12, acH, acB, slH, slB, seH, seB, tx, le, no, sr, acf, aci, acn, slf, kp, siu, siv, siw, si, sef, seb, seo, sew, pau, pav, wo, tr, df', sd, mm, mk, mt, now, rt', rc', rk', mx, ml, a_', f_', sm, ma, nx, row, br, ms, mc, mw, mq, isK, mkp, ⟨mb, k, n, j, x, nt, ns, hT, hC, hAc, hSl, hTx, hSi⟩, hP, hD, hS⟩ hl
  · skip
    refine kG (Cn := RX6) (ci := 6) (As := []) (rest := []) ⟨hx, hb, hml, hown, hts⟩ (c_X6_table l D cy xh txr noh noa srh ach acr acH slr sih seh pah wor xt ta tb tc xd da db dc tx no aci acn tr df le kp sd _ e1) gL_law_X6_table rfl (by decide +kernel) ⟨(Nat.le_of_ble_eq_true rfl), (Nat.le_of_ble_eq_true rfl)⟩ hE hP hD hS hA pm_tt_text_now_acts_tray_draft (pm_swap.trans pm_tt_text_now_acts_tray_draft) rfl rfl rfl rfl hl.1 rfl (Nat.le_of_ble_eq_true rfl) dL_law_210 hf (fun H locs hP hD hS => ?_)
    change W p l e room_1 s m #[Value.ref b] below meth c H locs CE SL Q (F0 m 213 ls [.int r])
    refine lv_aload_n hx hb dL_law_213 rfl (lv_at hl 1 rfl) ?_
    refine kG (Cn := RX7) (ci := 7) (As := []) (rest := [.int r]) ⟨hx, hb, hml, hown, hts⟩ (c_X7_table l D cy mh q0 q1 q2 q3 q4 q5 q6 q7 q8 q9 q10 q11 q12 mm mk mt now rt rc rk mx ml a_ f_ 15 sm ma nx row br ms mc mw mq sd isK mkp _ e2) gL_law_X7_table rfl (by decide +kernel) ⟨(Nat.le_of_ble_eq_true rfl), (Nat.le_of_ble_eq_true rfl)⟩ hE hP hD hS hA pm_model pm_model rfl rfl rfl rfl hl.1 rfl (Nat.le_of_ble_eq_true rfl) dL_law_214 hf (fun H locs hP hD hS => ?_)
    change W p l e room_1 s m #[Value.ref b] below meth c H locs CE SL Q (F0 m 217 ls [.int r, .int r])
    refine lv_icmp_eq (tgt := 1009) hx hb dL_law_217 (by decide) (fun _ => ?_) (fun z => absurd rfl z)
    exact K H locs ls ⟨txr, noh, noa, srh, sra, ach, acr, slr, sih, sia, sib, sic, seh, ser, pah, paa, pab, wor, xd, da, db, dc, xt, ta, tb, tc, q0, q1, q2, q3, q4, q5, q6, q7, q8, q9, q10, q11, q12, acH, acB, slH, slB, seH, seB, tx, le, no', sr, acf, 0, 0, slf, 0, siu, siv, siw, si, sef, seb, seo, sew, pau, pav, wo, df', tr, sd, mm', mk', mt', now', rt', rc', rk', mx, ml, a_', f_', sm, 0, nx, row, br, ms, mc, mw, mq, isK', mkp, ⟨mb', (beK df' mb'), 0, 0, x, nt, ns, hT', hC', hAc.zero, SLR.zero hk0, hTx, hSi⟩, hP, hD, hS⟩ hl
set_option maxHeartbeats 4000000 in
set_option maxRecDepth 100000 in
theorem k_cell (X : LX p s m meth c b L xs D cy A) (hi : i + 5 < L) (hf : CE ≤ room_1.cells ∧ SL ≤ room_1.slots) (hI : LI D cy A s xh mh H locs) (hl : lv_has ls 4 [(3, .int (nI i)), (2, .ref mh), (1, .ref xh), (0, .ref b)])
    (K : ∀ (H : Heap) (locs : List Loc) (ls : Array Slot), LI D cy A s xh mh H locs → lv_has ls 4 [(3, .int (nI i)), (2, .ref mh), (1, .ref xh), (0, .ref b)] → W p l e room_1 s m #[Value.ref b] below meth c H locs CE SL Q (F0 m 1009 ls [])) : W p l e room_1 s m #[Value.ref b] below meth c H locs CE SL Q (F0 m 222 ls []) := by
  obtain ⟨hx, hb, hml, hown, hts, hX, hbl, hbA, hE, hA, hL⟩ := X
  obtain ⟨txr, noh, noa, srh, sra, ach, acr, slr, sih, sia, sib, sic, seh, ser, pah, paa, pab, wor, xt, ta, tb, tc, xd, da, db, dc, q0, q1, q2, q3, q4, q5, q6, q7, q8, q9, q10, q11, q12, acH, acB, slH, slB, seH, seB, tx, le, no, sr, acf, aci, acn, slf, kp, siu, siv, siw, si, sef, seb, seo, sew, pau, pav, wo, tr, df, sd, mm, mk, mt, now, rt, rc, rk, mx, ml, a_, f_, sm, ma, nx, row, br, ms, mc, mw, mq, isK, mkp, ⟨mb, k, n, j, x, nt, ns, hT, hC, hAc, hSl, hTx, hSi⟩, hP, hD, hS⟩ := hI
  refine lv_aload_n hx hb dL_law_222 rfl (lv_at hl 2 rfl) ?_
  refine lw_read (k := 1) hx hb hX hbl hbA hS hl hi hL (by decide) (by decide) dL_law_223 dL_law_224 dL_law_225 dL_law_226 dL_law_227 ?_
  refine lw_read (k := 2) hx hb hX hbl hbA hS hl hi hL (by decide) (by decide) dL_law_228 dL_law_229 dL_law_230 dL_law_231 dL_law_232 ?_
  obtain ⟨r, e1, e2⟩ := s_cell hT hC (xs (i + 1)) (xs (i + 2))
  refine kG (Cn := RX6) (ci := 6) (As := [.int (xs (i + 1)), .int (xs (i + 2))]) (rest := []) ⟨hx, hb, hml, hown, hts⟩ (c_X6_cell l D cy xh txr noh noa srh ach slr sih seh pah wor xt ta tb tc xd no tr le kp sd (xs (i + 1)) (xs (i + 2)) _ e1) gL_law_X6_cell rfl (by decide +kernel) ⟨(Nat.le_of_ble_eq_true rfl), (Nat.le_of_ble_eq_true rfl)⟩ hE hP hD hS hA pm_tt_now_tray pm_tt_now_tray rfl rfl rfl rfl hl.1 rfl (Nat.le_of_ble_eq_true rfl) dL_law_233 hf (fun H locs hP hD hS => ?_)
  change W p l e room_1 s m #[Value.ref b] below meth c H locs CE SL Q (F0 m 236 ls [.int r])
  refine lv_aload_n hx hb dL_law_236 rfl (lv_at hl 1 rfl) ?_
  refine lw_read (k := 1) hx hb hX hbl hbA hS hl hi hL (by decide) (by decide) dL_law_237 dL_law_238 dL_law_239 dL_law_240 dL_law_241 ?_
  refine lw_read (k := 2) hx hb hX hbl hbA hS hl hi hL (by decide) (by decide) dL_law_242 dL_law_243 dL_law_244 dL_law_245 dL_law_246 ?_
  refine kG (Cn := RX7) (ci := 7) (As := [.int (xs (i + 1)), .int (xs (i + 2))]) (rest := [.int r]) ⟨hx, hb, hml, hown, hts⟩ (c_X7_cell l D cy mh q0 q1 q2 q3 q4 q5 q6 q7 q8 q9 q10 q11 q12 mm mk mt now rt rc rk mx ml a_ f_ 15 sm ma nx row br ms mc mw mq sd isK mkp (xs (i + 1)) (xs (i + 2)) _ e2) gL_law_X7_cell rfl (by decide +kernel) ⟨(Nat.le_of_ble_eq_true rfl), (Nat.le_of_ble_eq_true rfl)⟩ hE hP hD hS hA pm_model pm_model rfl rfl rfl rfl hl.1 rfl (Nat.le_of_ble_eq_true rfl) dL_law_247 hf (fun H locs hP hD hS => ?_)
  change W p l e room_1 s m #[Value.ref b] below meth c H locs CE SL Q (F0 m 250 ls [.int r, .int r])
  refine lv_icmp_eq (tgt := 1009) hx hb dL_law_250 (by decide) (fun _ => ?_) (fun z => absurd rfl z)
  exact K H locs ls ⟨txr, noh, noa, srh, sra, ach, acr, slr, sih, sia, sib, sic, seh, ser, pah, paa, pab, wor, xt, ta, tb, tc, xd, da, db, dc, q0, q1, q2, q3, q4, q5, q6, q7, q8, q9, q10, q11, q12, acH, acB, slH, slB, seH, seB, tx, le, no, sr, acf, aci, acn, slf, kp, siu, siv, siw, si, sef, seb, seo, sew, pau, pav, wo, tr, df, sd, mm, mk, mt, now, rt, rc, rk, mx, ml, a_, f_, sm, ma, nx, row, br, ms, mc, mw, mq, isK, mkp, ⟨mb, k, n, j, x, nt, ns, hT, hC, hAc, hSl, hTx, hSi⟩, hP, hD, hS⟩ hl
end LAWC
