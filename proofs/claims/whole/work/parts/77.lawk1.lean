theorem cmp_same (x : Int64) : lg_cmp x x = 0 := by unfold lg_cmp; simp
theorem lg81 : Cond.constantLong RL 81 4294967295 ∈ wsL_law := List.mem_append_left _ (List.mem_append_left _ (List.mem_append_left _ (List.mem_append_left _ (List.mem_append_left _ (List.mem_append_left _ (List.mem_append_left _ (List.mem_append_left _ (List.mem_append_left _ (List.mem_append_left _ (List.mem_of_getElem? (i := 6) rfl))))))))))
section LAWC
variable {p : Program} {l : Launch} {e : Env} {s : State} {m : MethodId} {below : List Frame} {meth : Method} {c : Code} {b L : Nat} {xs : Nat → Int32} {D : va_G} {cy : Cy} {A : Nat → Prop} {CE SL : Nat} {Q : State → Prop} {H : Heap} {locs : List Loc} {ls : Array Slot}
variable {xh mh i : Nat} {ad : Nat → Nat} {fa : Nat → Nat → Nat}
set_option maxHeartbeats 4000000 in
set_option maxRecDepth 100000 in
theorem k_write (X : LX p s m meth c b L xs D cy A) (hi : i + 5 < L) (hf : CE ≤ room_1.cells ∧ SL ≤ room_1.slots) (hI : LI D cy A s xh mh ad fa H locs) (hl : lv_has ls 4 [(3, .int (nI i)), (2, .ref mh), (1, .ref xh), (0, .ref b)])
    (K : ∀ (H : Heap) (locs : List Loc) (ls : Array Slot), LI D cy A s xh mh ad fa H locs → lv_has ls 4 [(3, .int (nI i)), (2, .ref mh), (1, .ref xh), (0, .ref b)] → W p l e room_1 s m #[Value.ref b] below meth c H locs CE SL Q (F0 m 1009 ls [])) : W p l e room_1 s m #[Value.ref b] below meth c H locs CE SL Q (F0 m 160 ls []) := by
  have X0 := X
  obtain ⟨hx, hb, hml, hown, hts, hX, hbl, hbA, hE, hA, hL⟩ := X
  obtain ⟨xt, ta, tb, tc, xd, da, db, dc, tx, le, no, sr, acf, aci, acn, slf, kp, siu, siv, siw, si, sef, seb, seo, sew, pau, pav, wo, tr, df, sd, mm, mk, mt, now, rt, rc, rk, mx, ml, a_, f_, sm, ma, nx, row, br, ms, mc, mw, mq, isK, mkp, ⟨mb, k, n, j, x, nt, ns, hT, hC, hAc, hSl, hTx, hSi⟩, hP, hD, hS⟩ := hI
  obtain ⟨r, tx', mx', le', ml', nt', e1, e2, h1⟩ := s_write hTx (xs (i + 1))
  refine lv_aload_n hx hb dL_law_160 rfl (lv_at hl 2 rfl) ?_
  refine lw_read (k := 1) hx hb hX hbl hbA hS hl hi hL (by decide) (by decide) dL_law_161 dL_law_162 dL_law_163 dL_law_164 dL_law_165 ?_
  refine x_write X0 hf hl.1 e1 hP hD hS (fun H locs hP hD hS => ?_)
  refine lv_aload_n hx hb dL_law_169 rfl (lv_at hl 1 rfl) ?_
  refine lw_read (k := 1) hx hb hX hbl hbA hS hl hi hL (by decide) (by decide) dL_law_170 dL_law_171 dL_law_172 dL_law_173 dL_law_174 ?_
  refine y_write X0 hf hl.1 e2 hP hD hS (fun H locs hP hD hS => ?_)
  refine lv_icmp_eq (tgt := 1009) hx hb dL_law_178 (by decide) (fun _ => ?_) (fun z => absurd rfl z)
  exact K H locs ls ⟨xt, ta, tb, tc, xd, da, db, dc, tx', le', no, sr, acf, aci, acn, slf, kp, siu, siv, siw, si, sef, seb, seo, sew, pau, pav, wo, tr, df, sd, mm, mk, mt, now, rt, rc, rk, mx', ml', a_, f_, sm, ma, nx, row, br, ms, mc, mw, mq, isK, mkp, ⟨mb, k, n, j, x, nt', ns, hT, hC, hAc, hSl, h1, hSi⟩, hP, hD, hS⟩ hl
set_option maxHeartbeats 4000000 in
set_option maxRecDepth 100000 in
theorem k_wipe (X : LX p s m meth c b L xs D cy A) (hi : i + 5 < L) (hf : CE ≤ room_1.cells ∧ SL ≤ room_1.slots) (hI : LI D cy A s xh mh ad fa H locs) (hl : lv_has ls 4 [(3, .int (nI i)), (2, .ref mh), (1, .ref xh), (0, .ref b)])
    (K : ∀ (H : Heap) (locs : List Loc) (ls : Array Slot), LI D cy A s xh mh ad fa H locs → lv_has ls 4 [(3, .int (nI i)), (2, .ref mh), (1, .ref xh), (0, .ref b)] → W p l e room_1 s m #[Value.ref b] below meth c H locs CE SL Q (F0 m 1009 ls [])) : W p l e room_1 s m #[Value.ref b] below meth c H locs CE SL Q (F0 m 183 ls []) := by
  have X0 := X
  obtain ⟨hx, hb, hml, hown, hts, hX, hbl, hbA, hE, hA, hL⟩ := X
  obtain ⟨xt, ta, tb, tc, xd, da, db, dc, tx, le, no, sr, acf, aci, acn, slf, kp, siu, siv, siw, si, sef, seb, seo, sew, pau, pav, wo, tr, df, sd, mm, mk, mt, now, rt, rc, rk, mx, ml, a_, f_, sm, ma, nx, row, br, ms, mc, mw, mq, isK, mkp, ⟨mb, k, n, j, x, nt, ns, hT, hC, hAc, hSl, hTx, hSi⟩, hP, hD, hS⟩ := hI
  obtain ⟨r, e1, e2, h1⟩ := s_wipe hTx
  refine lv_aload_n hx hb dL_law_183 rfl (lv_at hl 2 rfl) ?_
  refine x_wipe X0 hf hl.1 e1 hP hD hS (fun H locs hP hD hS => ?_)
  refine lv_aload_n hx hb dL_law_187 rfl (lv_at hl 1 rfl) ?_
  refine y_wipe X0 hf hl.1 e2 hP hD hS (fun H locs hP hD hS => ?_)
  refine lv_icmp_eq (tgt := 1009) hx hb dL_law_191 (by decide) (fun _ => ?_) (fun z => absurd rfl z)
  exact K H locs ls ⟨xt, ta, tb, tc, xd, da, db, dc, tx, 0, no, sr, acf, aci, acn, slf, kp, siu, siv, siw, si, sef, seb, seo, sew, pau, pav, wo, tr, df, sd, mm, mk, mt, now, rt, rc, rk, mx, 0, a_, f_, sm, ma, nx, row, br, ms, mc, mw, mq, isK, mkp, ⟨mb, k, n, j, x, 0, ns, hT, hC, hAc, hSl, h1, hSi⟩, hP, hD, hS⟩ hl
set_option maxHeartbeats 4000000 in
set_option maxRecDepth 100000 in
theorem k_fault (X : LX p s m meth c b L xs D cy A) (hi : i + 5 < L) (hf : CE ≤ room_1.cells ∧ SL ≤ room_1.slots) (hI : LI D cy A s xh mh ad fa H locs) (hl : lv_has ls 4 [(3, .int (nI i)), (2, .ref mh), (1, .ref xh), (0, .ref b)])
    (K : ∀ (H : Heap) (locs : List Loc) (ls : Array Slot), LI D cy A s xh mh ad fa H locs → lv_has ls 4 [(3, .int (nI i)), (2, .ref mh), (1, .ref xh), (0, .ref b)] → W p l e room_1 s m #[Value.ref b] below meth c H locs CE SL Q (F0 m 1009 ls [])) : W p l e room_1 s m #[Value.ref b] below meth c H locs CE SL Q (F0 m 196 ls []) := by
  have X0 := X
  obtain ⟨hx, hb, hml, hown, hts, hX, hbl, hbA, hE, hA, hL⟩ := X
  obtain ⟨xt, ta, tb, tc, xd, da, db, dc, tx, le, no, sr, acf, aci, acn, slf, kp, siu, siv, siw, si, sef, seb, seo, sew, pau, pav, wo, tr, df, sd, mm, mk, mt, now, rt, rc, rk, mx, ml, a_, f_, sm, ma, nx, row, br, ms, mc, mw, mq, isK, mkp, ⟨mb, k, n, j, x, nt, ns, hT, hC, hAc, hSl, hTx, hSi⟩, hP, hD, hS⟩ := hI
  obtain ⟨r, df', rt', rc', rk', a_', f_', e1, e2⟩ := s_fault hTx df rt rc rk a_ f_
  refine lv_aload_n hx hb dL_law_196 rfl (lv_at hl 2 rfl) ?_
  refine x_fault X0 hf hl.1 e1 hP hD hS (fun H locs hP hD hS => ?_)
  refine lv_aload_n hx hb dL_law_200 rfl (lv_at hl 1 rfl) ?_
  refine y_fault X0 hf hl.1 e2 hP hD hS (fun H locs hP hD hS => ?_)
  refine lv_icmp_eq (tgt := 1009) hx hb dL_law_204 (by decide) (fun _ => ?_) (fun z => absurd rfl z)
  exact K H locs ls ⟨xt, ta, tb, tc, xd, da, db, dc, tx, le, no, sr, acf, aci, acn, slf, kp, siu, siv, siw, si, sef, seb, seo, sew, pau, pav, wo, tr, df', sd, mm, mk, mt, now, rt', rc', rk', mx, ml, a_', f_', sm, ma, nx, row, br, ms, mc, mw, mq, isK, mkp, ⟨mb, k, n, j, x, nt, ns, hT, hC, hAc, hSl, hTx, hSi⟩, hP, hD, hS⟩ hl
set_option maxHeartbeats 4000000 in
set_option maxRecDepth 100000 in
theorem k_table (X : LX p s m meth c b L xs D cy A) (hi : i + 5 < L) (hf : CE ≤ room_1.cells ∧ SL ≤ room_1.slots) (hI : LI D cy A s xh mh ad fa H locs) (hl : lv_has ls 4 [(3, .int (nI i)), (2, .ref mh), (1, .ref xh), (0, .ref b)])
    (K : ∀ (H : Heap) (locs : List Loc) (ls : Array Slot), LI D cy A s xh mh ad fa H locs → lv_has ls 4 [(3, .int (nI i)), (2, .ref mh), (1, .ref xh), (0, .ref b)] → W p l e room_1 s m #[Value.ref b] below meth c H locs CE SL Q (F0 m 1009 ls [])) : W p l e room_1 s m #[Value.ref b] below meth c H locs CE SL Q (F0 m 209 ls []) := by
  have X0 := X
  obtain ⟨hx, hb, hml, hown, hts, hX, hbl, hbA, hE, hA, hL⟩ := X
  obtain ⟨xt, ta, tb, tc, xd, da, db, dc, tx, le, no, sr, acf, aci, acn, slf, kp, siu, siv, siw, si, sef, seb, seo, sew, pau, pav, wo, tr, df, sd, mm, mk, mt, now, rt, rc, rk, mx, ml, a_, f_, sm, ma, nx, row, br, ms, mc, mw, mq, isK, mkp, ⟨mb, k, n, j, x, nt, ns, hT, hC, hAc, hSl, hTx, hSi⟩, hP, hD, hS⟩ := hI
  obtain ⟨r, no', aci', acn', xt', df', xd', kp', mm', mk', mt', now', rt', rc', rk', a_', f_', ma', isK', e1, e2, h1⟩ := s_table hTx no aci acn xt df xd kp mm mk mt now rt rc rk a_ f_ ma isK
  refine lv_aload_n hx hb dL_law_209 rfl (lv_at hl 2 rfl) ?_
  refine x_table X0 hf hl.1 e1 hP hD hS (fun H locs hP hD hS => ?_)
  refine lv_aload_n hx hb dL_law_213 rfl (lv_at hl 1 rfl) ?_
  refine y_table X0 hf hl.1 e2 hP hD hS (fun H locs hP hD hS => ?_)
  refine lv_icmp_eq (tgt := 1009) hx hb dL_law_217 (by decide) (fun _ => ?_) (fun z => absurd rfl z)
  rcases h1 with ⟨q1, q2, q3, q4, q5, q6, q7, q8, q9, q10, q11, q12⟩ | ⟨q1, q2, q3, q4, q5, q6, hk0, mb', hT', hC'⟩
  · rw [q1, q2, q3, q4, q5, q6, q7, q8, q9, q10, q11, q12] at hP hD
    exact K H locs ls ⟨xt, ta, tb, tc, xd, da, db, dc, tx, le, no, sr, acf, aci, acn, slf, kp, siu, siv, siw, si, sef, seb, seo, sew, pau, pav, wo, tr, df', sd, mm, mk, mt, now, rt', rc', rk', mx, ml, a_', f_', sm, ma, nx, row, br, ms, mc, mw, mq, isK, mkp, ⟨mb, k, n, j, x, nt, ns, hT, hC, hAc, hSl, hTx, hSi⟩, hP, hD, hS⟩ hl
  · rw [q1, q2, q3, q4, q5, q6] at hP hD
    exact K H locs ls ⟨xd, da, db, dc, xt, ta, tb, tc, tx, le, no', sr, acf, 0, 0, slf, 0, siu, siv, siw, si, sef, seb, seo, sew, pau, pav, wo, df', tr, sd, mm', mk', mt', now', rt', rc', rk', mx, ml, a_', f_', sm, 0, nx, row, br, ms, mc, mw, mq, isK', mkp, ⟨mb', (beK df' mb'), 0, 0, x, nt, ns, hT', hC', hAc.zero, SLR.zero hk0, hTx, hSi⟩, P_perm pm_swap hP, D_perm pm_swap hD, hS⟩ hl
set_option maxHeartbeats 4000000 in
set_option maxRecDepth 100000 in
theorem k_cell (X : LX p s m meth c b L xs D cy A) (hi : i + 5 < L) (hf : CE ≤ room_1.cells ∧ SL ≤ room_1.slots) (hI : LI D cy A s xh mh ad fa H locs) (hl : lv_has ls 4 [(3, .int (nI i)), (2, .ref mh), (1, .ref xh), (0, .ref b)])
    (K : ∀ (H : Heap) (locs : List Loc) (ls : Array Slot), LI D cy A s xh mh ad fa H locs → lv_has ls 4 [(3, .int (nI i)), (2, .ref mh), (1, .ref xh), (0, .ref b)] → W p l e room_1 s m #[Value.ref b] below meth c H locs CE SL Q (F0 m 1009 ls [])) : W p l e room_1 s m #[Value.ref b] below meth c H locs CE SL Q (F0 m 222 ls []) := by
  have X0 := X
  obtain ⟨hx, hb, hml, hown, hts, hX, hbl, hbA, hE, hA, hL⟩ := X
  obtain ⟨xt, ta, tb, tc, xd, da, db, dc, tx, le, no, sr, acf, aci, acn, slf, kp, siu, siv, siw, si, sef, seb, seo, sew, pau, pav, wo, tr, df, sd, mm, mk, mt, now, rt, rc, rk, mx, ml, a_, f_, sm, ma, nx, row, br, ms, mc, mw, mq, isK, mkp, ⟨mb, k, n, j, x, nt, ns, hT, hC, hAc, hSl, hTx, hSi⟩, hP, hD, hS⟩ := hI
  obtain ⟨r, e1, e2⟩ := s_cell hT hC (xs (i + 1)) (xs (i + 2))
  refine lv_aload_n hx hb dL_law_222 rfl (lv_at hl 2 rfl) ?_
  refine lw_read (k := 1) hx hb hX hbl hbA hS hl hi hL (by decide) (by decide) dL_law_223 dL_law_224 dL_law_225 dL_law_226 dL_law_227 ?_
  refine lw_read (k := 2) hx hb hX hbl hbA hS hl hi hL (by decide) (by decide) dL_law_228 dL_law_229 dL_law_230 dL_law_231 dL_law_232 ?_
  refine x_cell X0 hf hl.1 e1 hP hD hS (fun H locs hP hD hS => ?_)
  refine lv_aload_n hx hb dL_law_236 rfl (lv_at hl 1 rfl) ?_
  refine lw_read (k := 1) hx hb hX hbl hbA hS hl hi hL (by decide) (by decide) dL_law_237 dL_law_238 dL_law_239 dL_law_240 dL_law_241 ?_
  refine lw_read (k := 2) hx hb hX hbl hbA hS hl hi hL (by decide) (by decide) dL_law_242 dL_law_243 dL_law_244 dL_law_245 dL_law_246 ?_
  refine y_cell X0 hf hl.1 e2 hP hD hS (fun H locs hP hD hS => ?_)
  refine lv_icmp_eq (tgt := 1009) hx hb dL_law_250 (by decide) (fun _ => ?_) (fun z => absurd rfl z)
  exact K H locs ls ⟨xt, ta, tb, tc, xd, da, db, dc, tx, le, no, sr, acf, aci, acn, slf, kp, siu, siv, siw, si, sef, seb, seo, sew, pau, pav, wo, tr, df, sd, mm, mk, mt, now, rt, rc, rk, mx, ml, a_, f_, sm, ma, nx, row, br, ms, mc, mw, mq, isK, mkp, ⟨mb, k, n, j, x, nt, ns, hT, hC, hAc, hSl, hTx, hSi⟩, hP, hD, hS⟩ hl
set_option maxHeartbeats 4000000 in
set_option maxRecDepth 100000 in
theorem k_marble (X : LX p s m meth c b L xs D cy A) (hi : i + 5 < L) (hf : CE ≤ room_1.cells ∧ SL ≤ room_1.slots) (hI : LI D cy A s xh mh ad fa H locs) (hl : lv_has ls 4 [(3, .int (nI i)), (2, .ref mh), (1, .ref xh), (0, .ref b)])
    (K : ∀ (H : Heap) (locs : List Loc) (ls : Array Slot), LI D cy A s xh mh ad fa H locs → lv_has ls 4 [(3, .int (nI i)), (2, .ref mh), (1, .ref xh), (0, .ref b)] → W p l e room_1 s m #[Value.ref b] below meth c H locs CE SL Q (F0 m 1009 ls [])) : W p l e room_1 s m #[Value.ref b] below meth c H locs CE SL Q (F0 m 255 ls []) := by
  have X0 := X
  obtain ⟨hx, hb, hml, hown, hts, hX, hbl, hbA, hE, hA, hL⟩ := X
  obtain ⟨xt, ta, tb, tc, xd, da, db, dc, tx, le, no, sr, acf, aci, acn, slf, kp, siu, siv, siw, si, sef, seb, seo, sew, pau, pav, wo, tr, df, sd, mm, mk, mt, now, rt, rc, rk, mx, ml, a_, f_, sm, ma, nx, row, br, ms, mc, mw, mq, isK, mkp, ⟨mb, k, n, j, x, nt, ns, hT, hC, hAc, hSl, hTx, hSi⟩, hP, hD, hS⟩ := hI
  obtain ⟨r, sr', now', sm', e1, e2, e3⟩ := s_marble hT hC sr sm (xs (i + 1)) (xs (i + 2))
  refine lv_aload_n hx hb dL_law_255 rfl (lv_at hl 2 rfl) ?_
  refine lw_read (k := 1) hx hb hX hbl hbA hS hl hi hL (by decide) (by decide) dL_law_256 dL_law_257 dL_law_258 dL_law_259 dL_law_260 ?_
  refine lw_read (k := 2) hx hb hX hbl hbA hS hl hi hL (by decide) (by decide) dL_law_261 dL_law_262 dL_law_263 dL_law_264 dL_law_265 ?_
  refine x_marble X0 hf hl.1 e1 hP hD hS (fun H locs hP hD hS => ?_)
  refine lv_aload_n hx hb dL_law_269 rfl (lv_at hl 1 rfl) ?_
  refine lw_read (k := 1) hx hb hX hbl hbA hS hl hi hL (by decide) (by decide) dL_law_270 dL_law_271 dL_law_272 dL_law_273 dL_law_274 ?_
  refine lw_read (k := 2) hx hb hX hbl hbA hS hl hi hL (by decide) (by decide) dL_law_275 dL_law_276 dL_law_277 dL_law_278 dL_law_279 ?_
  refine y_marble X0 hf hl.1 e2 hP hD hS (fun H locs hP hD hS => ?_)
  refine lv_icmp_eq (tgt := 1009) hx hb dL_law_283 (by decide) (fun _ => ?_) (fun z => absurd rfl z)
  exact K H locs ls ⟨xt, ta, tb, tc, xd, da, db, dc, tx, le, no, sr', acf, aci, acn, slf, kp, siu, siv, siw, si, sef, seb, seo, sew, pau, pav, wo, tr, df, sd, mm, mk, mt, now', rt, rc, rk, mx, ml, a_, f_, sm', ma, nx, row, br, ms, mc, mw, mq, isK, mkp, ⟨mb, k, n, j, x, nt, ns, hT, hC.keep e3, hAc, hSl, hTx, hSi⟩, hP, hD, hS⟩ hl
set_option maxHeartbeats 4000000 in
set_option maxRecDepth 100000 in
theorem k_tilt (X : LX p s m meth c b L xs D cy A) (hi : i + 5 < L) (hf : CE ≤ room_1.cells ∧ SL ≤ room_1.slots) (hI : LI D cy A s xh mh ad fa H locs) (hl : lv_has ls 4 [(3, .int (nI i)), (2, .ref mh), (1, .ref xh), (0, .ref b)])
    (K : ∀ (H : Heap) (locs : List Loc) (ls : Array Slot), LI D cy A s xh mh ad fa H locs → lv_has ls 4 [(3, .int (nI i)), (2, .ref mh), (1, .ref xh), (0, .ref b)] → W p l e room_1 s m #[Value.ref b] below meth c H locs CE SL Q (F0 m 1009 ls [])) : W p l e room_1 s m #[Value.ref b] below meth c H locs CE SL Q (F0 m 288 ls []) := by
  have X0 := X
  obtain ⟨hx, hb, hml, hown, hts, hX, hbl, hbA, hE, hA, hL⟩ := X
  obtain ⟨xt, ta, tb, tc, xd, da, db, dc, tx, le, no, sr, acf, aci, acn, slf, kp, siu, siv, siw, si, sef, seb, seo, sew, pau, pav, wo, tr, df, sd, mm, mk, mt, now, rt, rc, rk, mx, ml, a_, f_, sm, ma, nx, row, br, ms, mc, mw, mq, isK, mkp, ⟨mb, k, n, j, x, nt, ns, hT, hC, hAc, hSl, hTx, hSi⟩, hP, hD, hS⟩ := hI
  obtain ⟨r, no', acf', aci', acn', now', sm', ma', nx', row', k', n', j', x', e1, e2, h1, h2⟩ := s_tilt hT hC hAc sm (xs (i + 1))
  refine lv_aload_n hx hb dL_law_288 rfl (lv_at hl 2 rfl) ?_
  refine lw_read (k := 1) hx hb hX hbl hbA hS hl hi hL (by decide) (by decide) dL_law_289 dL_law_290 dL_law_291 dL_law_292 dL_law_293 ?_
  refine x_tilt X0 hf hl.1 e1 hP hD hS (fun H locs hP hD hS => ?_)
  refine lv_aload_n hx hb dL_law_297 rfl (lv_at hl 1 rfl) ?_
  refine lw_read (k := 1) hx hb hX hbl hbA hS hl hi hL (by decide) (by decide) dL_law_298 dL_law_299 dL_law_300 dL_law_301 dL_law_302 ?_
  refine y_tilt X0 hf hl.1 e2 hP hD hS (fun H locs hP hD hS => ?_)
  refine lv_icmp_eq (tgt := 1009) hx hb dL_law_306 (by decide) (fun _ => ?_) (fun z => absurd rfl z)
  exact K H locs ls ⟨xt, ta, tb, tc, xd, da, db, dc, tx, le, no', sr, acf', aci', acn', slf, kp, siu, siv, siw, si, sef, seb, seo, sew, pau, pav, wo, tr, df, sd, mm, mk, mt, now', rt, rc, rk, mx, ml, a_, f_, sm', ma', nx', row', br, ms, mc, mw, mq, isK, mkp, ⟨mb, k', n', j', x', nt, ns, hT, h1, h2, hSl, hTx, hSi⟩, hP, hD, hS⟩ hl
set_option maxHeartbeats 4000000 in
set_option maxRecDepth 100000 in
theorem k_lift (X : LX p s m meth c b L xs D cy A) (hi : i + 5 < L) (hf : CE ≤ room_1.cells ∧ SL ≤ room_1.slots) (hI : LI D cy A s xh mh ad fa H locs) (hl : lv_has ls 4 [(3, .int (nI i)), (2, .ref mh), (1, .ref xh), (0, .ref b)])
    (K : ∀ (H : Heap) (locs : List Loc) (ls : Array Slot), LI D cy A s xh mh ad fa H locs → lv_has ls 4 [(3, .int (nI i)), (2, .ref mh), (1, .ref xh), (0, .ref b)] → W p l e room_1 s m #[Value.ref b] below meth c H locs CE SL Q (F0 m 1009 ls [])) : W p l e room_1 s m #[Value.ref b] below meth c H locs CE SL Q (F0 m 311 ls []) := by
  have X0 := X
  obtain ⟨hx, hb, hml, hown, hts, hX, hbl, hbA, hE, hA, hL⟩ := X
  obtain ⟨xt, ta, tb, tc, xd, da, db, dc, tx, le, no, sr, acf, aci, acn, slf, kp, siu, siv, siw, si, sef, seb, seo, sew, pau, pav, wo, tr, df, sd, mm, mk, mt, now, rt, rc, rk, mx, ml, a_, f_, sm, ma, nx, row, br, ms, mc, mw, mq, isK, mkp, ⟨mb, k, n, j, x, nt, ns, hT, hC, hAc, hSl, hTx, hSi⟩, hP, hD, hS⟩ := hI
  obtain ⟨r, no', acf', aci', acn', now', ma', nx', row', k', n', j', x', e1, e2, h1, h2⟩ := s_lift hT hC hAc (xs (i + 1)) (xs (i + 2))
  refine lv_aload_n hx hb dL_law_311 rfl (lv_at hl 2 rfl) ?_
  refine lw_read (k := 1) hx hb hX hbl hbA hS hl hi hL (by decide) (by decide) dL_law_312 dL_law_313 dL_law_314 dL_law_315 dL_law_316 ?_
  refine lw_read (k := 2) hx hb hX hbl hbA hS hl hi hL (by decide) (by decide) dL_law_317 dL_law_318 dL_law_319 dL_law_320 dL_law_321 ?_
  refine x_lift X0 hf hl.1 e1 hP hD hS (fun H locs hP hD hS => ?_)
  refine lv_aload_n hx hb dL_law_325 rfl (lv_at hl 1 rfl) ?_
  refine lw_read (k := 1) hx hb hX hbl hbA hS hl hi hL (by decide) (by decide) dL_law_326 dL_law_327 dL_law_328 dL_law_329 dL_law_330 ?_
  refine lw_read (k := 2) hx hb hX hbl hbA hS hl hi hL (by decide) (by decide) dL_law_331 dL_law_332 dL_law_333 dL_law_334 dL_law_335 ?_
  refine y_lift X0 hf hl.1 e2 hP hD hS (fun H locs hP hD hS => ?_)
  refine lv_icmp_eq (tgt := 1009) hx hb dL_law_339 (by decide) (fun _ => ?_) (fun z => absurd rfl z)
  exact K H locs ls ⟨xt, ta, tb, tc, xd, da, db, dc, tx, le, no', sr, acf', aci', acn', slf, kp, siu, siv, siw, si, sef, seb, seo, sew, pau, pav, wo, tr, df, sd, mm, mk, mt, now', rt, rc, rk, mx, ml, a_, f_, sm, ma', nx', row', br, ms, mc, mw, mq, isK, mkp, ⟨mb, k', n', j', x', nt, ns, hT, h1, h2, hSl, hTx, hSi⟩, hP, hD, hS⟩ hl
set_option maxHeartbeats 4000000 in
set_option maxRecDepth 100000 in
theorem k_wedge (X : LX p s m meth c b L xs D cy A) (hi : i + 5 < L) (hf : CE ≤ room_1.cells ∧ SL ≤ room_1.slots) (hI : LI D cy A s xh mh ad fa H locs) (hl : lv_has ls 4 [(3, .int (nI i)), (2, .ref mh), (1, .ref xh), (0, .ref b)])
    (K : ∀ (H : Heap) (locs : List Loc) (ls : Array Slot), LI D cy A s xh mh ad fa H locs → lv_has ls 4 [(3, .int (nI i)), (2, .ref mh), (1, .ref xh), (0, .ref b)] → W p l e room_1 s m #[Value.ref b] below meth c H locs CE SL Q (F0 m 1009 ls [])) : W p l e room_1 s m #[Value.ref b] below meth c H locs CE SL Q (F0 m 344 ls []) := by
  have X0 := X
  obtain ⟨hx, hb, hml, hown, hts, hX, hbl, hbA, hE, hA, hL⟩ := X
  obtain ⟨xt, ta, tb, tc, xd, da, db, dc, tx, le, no, sr, acf, aci, acn, slf, kp, siu, siv, siw, si, sef, seb, seo, sew, pau, pav, wo, tr, df, sd, mm, mk, mt, now, rt, rc, rk, mx, ml, a_, f_, sm, ma, nx, row, br, ms, mc, mw, mq, isK, mkp, ⟨mb, k, n, j, x, nt, ns, hT, hC, hAc, hSl, hTx, hSi⟩, hP, hD, hS⟩ := hI
  obtain ⟨r, no', acf', aci', acn', now', ma', nx', row', k', n', j', x', e1, e2, h1, h2⟩ := s_wedge hT hC hAc (xs (i + 1))
  refine lv_aload_n hx hb dL_law_344 rfl (lv_at hl 2 rfl) ?_
  refine lw_read (k := 1) hx hb hX hbl hbA hS hl hi hL (by decide) (by decide) dL_law_345 dL_law_346 dL_law_347 dL_law_348 dL_law_349 ?_
  refine x_wedge X0 hf hl.1 e1 hP hD hS (fun H locs hP hD hS => ?_)
  refine lv_aload_n hx hb dL_law_353 rfl (lv_at hl 1 rfl) ?_
  refine lw_read (k := 1) hx hb hX hbl hbA hS hl hi hL (by decide) (by decide) dL_law_354 dL_law_355 dL_law_356 dL_law_357 dL_law_358 ?_
  refine y_wedge X0 hf hl.1 e2 hP hD hS (fun H locs hP hD hS => ?_)
  refine lv_icmp_eq (tgt := 1009) hx hb dL_law_362 (by decide) (fun _ => ?_) (fun z => absurd rfl z)
  exact K H locs ls ⟨xt, ta, tb, tc, xd, da, db, dc, tx, le, no', sr, acf', aci', acn', slf, kp, siu, siv, siw, si, sef, seb, seo, sew, pau, pav, wo, tr, df, sd, mm, mk, mt, now', rt, rc, rk, mx, ml, a_, f_, sm, ma', nx', row', br, ms, mc, mw, mq, isK, mkp, ⟨mb, k', n', j', x', nt, ns, hT, h1, h2, hSl, hTx, hSi⟩, hP, hD, hS⟩ hl
set_option maxHeartbeats 4000000 in
set_option maxRecDepth 100000 in
theorem k_undo (X : LX p s m meth c b L xs D cy A) (hi : i + 5 < L) (hf : CE ≤ room_1.cells ∧ SL ≤ room_1.slots) (hI : LI D cy A s xh mh ad fa H locs) (hl : lv_has ls 4 [(3, .int (nI i)), (2, .ref mh), (1, .ref xh), (0, .ref b)])
    (K : ∀ (H : Heap) (locs : List Loc) (ls : Array Slot), LI D cy A s xh mh ad fa H locs → lv_has ls 4 [(3, .int (nI i)), (2, .ref mh), (1, .ref xh), (0, .ref b)] → W p l e room_1 s m #[Value.ref b] below meth c H locs CE SL Q (F0 m 1009 ls [])) : W p l e room_1 s m #[Value.ref b] below meth c H locs CE SL Q (F0 m 367 ls []) := by
  have X0 := X
  obtain ⟨hx, hb, hml, hown, hts, hX, hbl, hbA, hE, hA, hL⟩ := X
  obtain ⟨xt, ta, tb, tc, xd, da, db, dc, tx, le, no, sr, acf, aci, acn, slf, kp, siu, siv, siw, si, sef, seb, seo, sew, pau, pav, wo, tr, df, sd, mm, mk, mt, now, rt, rc, rk, mx, ml, a_, f_, sm, ma, nx, row, br, ms, mc, mw, mq, isK, mkp, ⟨mb, k, n, j, x, nt, ns, hT, hC, hAc, hSl, hTx, hSi⟩, hP, hD, hS⟩ := hI
  obtain ⟨r, no', acn', now', ma', nx', k', n', x', e1, e2, h1, -, h2⟩ := s_undo hC hAc
  refine lv_aload_n hx hb dL_law_367 rfl (lv_at hl 2 rfl) ?_
  refine x_undo X0 hf hl.1 e1 hP hD hS (fun H locs hP hD hS => ?_)
  refine lv_aload_n hx hb dL_law_371 rfl (lv_at hl 1 rfl) ?_
  refine y_undo X0 hf hl.1 e2 hP hD hS (fun H locs hP hD hS => ?_)
  refine lv_icmp_eq (tgt := 1009) hx hb dL_law_375 (by decide) (fun _ => ?_) (fun z => absurd rfl z)
  exact K H locs ls ⟨xt, ta, tb, tc, xd, da, db, dc, tx, le, no', sr, acf, aci, acn', slf, kp, siu, siv, siw, si, sef, seb, seo, sew, pau, pav, wo, tr, df, sd, mm, mk, mt, now', rt, rc, rk, mx, ml, a_, f_, sm, ma', nx', row, br, ms, mc, mw, mq, isK, mkp, ⟨mb, k', n', j, x', nt, ns, hT, h1, h2, hSl, hTx, hSi⟩, hP, hD, hS⟩ hl
end LAWC
