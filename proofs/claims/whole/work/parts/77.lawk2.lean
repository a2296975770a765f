section LAWC
variable {p : Program} {l : Launch} {e : Env} {s : State} {m : MethodId} {below : List Frame} {meth : Method} {c : Code} {b L : Nat} {xs : Nat → Int32} {D : va_G} {cy : Cy} {A : Nat → Prop} {CE SL : Nat} {Q : State → Prop} {H : Heap} {locs : List Loc} {ls : Array Slot}
variable {xh mh i : Nat} {ad : Nat → Nat} {fa : Nat → Nat → Nat}
set_option maxHeartbeats 4000000 in
set_option maxRecDepth 100000 in
theorem k_rolls (X : LX p s m meth c b L xs D cy A) (hi : i + 5 < L) (hf : CE ≤ room_1.cells ∧ SL ≤ room_1.slots) (hI : LI D cy A s xh mh ad fa H locs) (hl : lv_has ls 4 [(3, .int (nI i)), (2, .ref mh), (1, .ref xh), (0, .ref b)])
    (K : ∀ (H : Heap) (locs : List Loc) (ls : Array Slot), LI D cy A s xh mh ad fa H locs → lv_has ls 4 [(3, .int (nI i)), (2, .ref mh), (1, .ref xh), (0, .ref b)] → W p l e room_1 s m #[Value.ref b] below meth c H locs CE SL Q (F0 m 1009 ls [])) : W p l e room_1 s m #[Value.ref b] below meth c H locs CE SL Q (F0 m 380 ls []) := by
  have X0 := X
  obtain ⟨hx, hb, hml, hown, hts, hX, hbl, hbA, hE, hA, hL⟩ := X
  obtain ⟨xt, ta, tb, tc, xd, da, db, dc, tx, le, no, sr, acf, aci, acn, slf, kp, siu, siv, siw, si, sef, seb, seo, sew, pau, pav, wo, tr, df, sd, mm, mk, mt, now, rt, rc, rk, mx, ml, a_, f_, sm, ma, nx, row, br, ms, mc, mw, mq, isK, mkp, ⟨mb, k, n, j, x, nt, ns, hT, hC, hAc, hSl, hTx, hSi⟩, hP, hD, hS⟩ := hI
  obtain ⟨r, sr', now', sm', e1, e2, e3⟩ := s_rolls hT hC sr sm (xs (i + 1)) (xs (i + 2))
  refine lv_aload_n hx hb dL_law_380 rfl (lv_at hl 2 rfl) ?_
  refine lw_read (k := 1) hx hb hX hbl hbA hS hl hi hL (by decide) (by decide) dL_law_381 dL_law_382 dL_law_383 dL_law_384 dL_law_385 ?_
  refine lw_read (k := 2) hx hb hX hbl hbA hS hl hi hL (by decide) (by decide) dL_law_386 dL_law_387 dL_law_388 dL_law_389 dL_law_390 ?_
  refine x_rolls X0 hf hl.1 e1 hP hD hS (fun H locs hP hD hS => ?_)
  refine lv_aload_n hx hb dL_law_394 rfl (lv_at hl 1 rfl) ?_
  refine lw_read (k := 1) hx hb hX hbl hbA hS hl hi hL (by decide) (by decide) dL_law_395 dL_law_396 dL_law_397 dL_law_398 dL_law_399 ?_
  refine lw_read (k := 2) hx hb hX hbl hbA hS hl hi hL (by decide) (by decide) dL_law_400 dL_law_401 dL_law_402 dL_law_403 dL_law_404 ?_
  refine y_rolls X0 hf hl.1 e2 hP hD hS (fun H locs hP hD hS => ?_)
  refine lv_icmp_eq (tgt := 1009) hx hb dL_law_408 (by decide) (fun _ => ?_) (fun z => absurd rfl z)
  exact K H locs ls ⟨xt, ta, tb, tc, xd, da, db, dc, tx, le, no, sr', acf, aci, acn, slf, kp, siu, siv, siw, si, sef, seb, seo, sew, pau, pav, wo, tr, df, sd, mm, mk, mt, now', rt, rc, rk, mx, ml, a_, f_, sm', ma, nx, row, br, ms, mc, mw, mq, isK, mkp, ⟨mb, k, n, j, x, nt, ns, hT, hC.keep e3, hAc, hSl, hTx, hSi⟩, hP, hD, hS⟩ hl
set_option maxHeartbeats 4000000 in
set_option maxRecDepth 100000 in
theorem k_safe (X : LX p s m meth c b L xs D cy A) (hi : i + 5 < L) (hf : CE ≤ room_1.cells ∧ SL ≤ room_1.slots) (hI : LI D cy A s xh mh ad fa H locs) (hl : lv_has ls 4 [(3, .int (nI i)), (2, .ref mh), (1, .ref xh), (0, .ref b)])
    (K : ∀ (H : Heap) (locs : List Loc) (ls : Array Slot), LI D cy A s xh mh ad fa H locs → lv_has ls 4 [(3, .int (nI i)), (2, .ref mh), (1, .ref xh), (0, .ref b)] → W p l e room_1 s m #[Value.ref b] below meth c H locs CE SL Q (F0 m 1009 ls [])) : W p l e room_1 s m #[Value.ref b] below meth c H locs CE SL Q (F0 m 413 ls []) := by
  have X0 := X
  obtain ⟨hx, hb, hml, hown, hts, hX, hbl, hbA, hE, hA, hL⟩ := X
  obtain ⟨xt, ta, tb, tc, xd, da, db, dc, tx, le, no, sr, acf, aci, acn, slf, kp, siu, siv, siw, si, sef, seb, seo, sew, pau, pav, wo, tr, df, sd, mm, mk, mt, now, rt, rc, rk, mx, ml, a_, f_, sm, ma, nx, row, br, ms, mc, mw, mq, isK, mkp, ⟨mb, k, n, j, x, nt, ns, hT, hC, hAc, hSl, hTx, hSi⟩, hP, hD, hS⟩ := hI
  obtain ⟨r, sr', now', sm', e1, e2, e3⟩ := s_safe hT hC sr sm
  refine lv_aload_n hx hb dL_law_413 rfl (lv_at hl 2 rfl) ?_
  refine x_safe X0 hf hl.1 e1 hP hD hS (fun H locs hP hD hS => ?_)
  refine lv_aload_n hx hb dL_law_417 rfl (lv_at hl 1 rfl) ?_
  refine y_safe X0 hf hl.1 e2 hP hD hS (fun H locs hP hD hS => ?_)
  refine lv_icmp_eq (tgt := 1009) hx hb dL_law_421 (by decide) (fun _ => ?_) (fun z => absurd rfl z)
  exact K H locs ls ⟨xt, ta, tb, tc, xd, da, db, dc, tx, le, no, sr', acf, aci, acn, slf, kp, siu, siv, siw, si, sef, seb, seo, sew, pau, pav, wo, tr, df, sd, mm, mk, mt, now', rt, rc, rk, mx, ml, a_, f_, sm', ma, nx, row, br, ms, mc, mw, mq, isK, mkp, ⟨mb, k, n, j, x, nt, ns, hT, hC.keep e3, hAc, hSl, hTx, hSi⟩, hP, hD, hS⟩ hl
set_option maxHeartbeats 4000000 in
set_option maxRecDepth 100000 in
theorem k_fewest (X : LX p s m meth c b L xs D cy A) (hi : i + 5 < L) (hf : CE ≤ room_1.cells ∧ SL ≤ room_1.slots) (hI : LI D cy A s xh mh ad fa H locs) (hl : lv_has ls 4 [(3, .int (nI i)), (2, .ref mh), (1, .ref xh), (0, .ref b)])
    (K : ∀ (H : Heap) (locs : List Loc) (ls : Array Slot), LI D cy A s xh mh ad fa H locs → lv_has ls 4 [(3, .int (nI i)), (2, .ref mh), (1, .ref xh), (0, .ref b)] → W p l e room_1 s m #[Value.ref b] below meth c H locs CE SL Q (F0 m 1009 ls [])) : W p l e room_1 s m #[Value.ref b] below meth c H locs CE SL Q (F0 m 426 ls []) := by
  have X0 := X
  obtain ⟨hx, hb, hml, hown, hts, hX, hbl, hbA, hE, hA, hL⟩ := X
  obtain ⟨xt, ta, tb, tc, xd, da, db, dc, tx, le, no, sr, acf, aci, acn, slf, kp, siu, siv, siw, si, sef, seb, seo, sew, pau, pav, wo, tr, df, sd, mm, mk, mt, now, rt, rc, rk, mx, ml, a_, f_, sm, ma, nx, row, br, ms, mc, mw, mq, isK, mkp, ⟨mb, k, n, j, x, nt, ns, hT, hC, hAc, hSl, hTx, hSi⟩, hP, hD, hS⟩ := hI
  obtain ⟨r, sef', seo', sew', now', sm', e1, e2, e3⟩ := s_fewest hT hC sef seb seo sew sm (xs (i + 1)) (bz (xs (i + 2)))
  refine lv_aload_n hx hb dL_law_426 rfl (lv_at hl 2 rfl) ?_
  refine lw_read (k := 1) hx hb hX hbl hbA hS hl hi hL (by decide) (by decide) dL_law_427 dL_law_428 dL_law_429 dL_law_430 dL_law_431 ?_
  refine lw_read (k := 2) hx hb hX hbl hbA hS hl hi hL (by decide) (by decide) dL_law_432 dL_law_433 dL_law_434 dL_law_435 dL_law_436 ?_
  refine lw_bool hx hb dL_law_437 dL_law_440 dL_law_441 dL_law_444 ?_
  refine x_fewest X0 hf hl.1 e1 hP hD hS (fun H locs hP hD hS => ?_)
  refine lv_aload_n hx hb dL_law_448 rfl (lv_at hl 1 rfl) ?_
  refine lw_read (k := 1) hx hb hX hbl hbA hS hl hi hL (by decide) (by decide) dL_law_449 dL_law_450 dL_law_451 dL_law_452 dL_law_453 ?_
  refine lw_read (k := 2) hx hb hX hbl hbA hS hl hi hL (by decide) (by decide) dL_law_454 dL_law_455 dL_law_456 dL_law_457 dL_law_458 ?_
  refine lw_bool hx hb dL_law_459 dL_law_462 dL_law_463 dL_law_466 ?_
  refine y_fewest X0 hf hl.1 e2 hP hD hS (fun H locs hP hD hS => ?_)
  refine lv_icmp_eq (tgt := 1009) hx hb dL_law_470 (by decide) (fun _ => ?_) (fun z => absurd rfl z)
  exact K H locs ls ⟨xt, ta, tb, tc, xd, da, db, dc, tx, le, no, sr, acf, aci, acn, slf, kp, siu, siv, siw, si, sef', seb, seo', sew', pau, pav, wo, tr, df, sd, mm, mk, mt, now', rt, rc, rk, mx, ml, a_, f_, sm', ma, nx, row, br, ms, mc, mw, mq, isK, mkp, ⟨mb, k, n, j, x, nt, ns, hT, hC.keep e3, hAc, hSl, hTx, hSi⟩, hP, hD, hS⟩ hl
set_option maxHeartbeats 4000000 in
set_option maxRecDepth 100000 in
theorem k_reach (X : LX p s m meth c b L xs D cy A) (hi : i + 5 < L) (hf : CE ≤ room_1.cells ∧ SL ≤ room_1.slots) (hI : LI D cy A s xh mh ad fa H locs) (hl : lv_has ls 4 [(3, .int (nI i)), (2, .ref mh), (1, .ref xh), (0, .ref b)])
    (K : ∀ (H : Heap) (locs : List Loc) (ls : Array Slot), LI D cy A s xh mh ad fa H locs → lv_has ls 4 [(3, .int (nI i)), (2, .ref mh), (1, .ref xh), (0, .ref b)] → W p l e room_1 s m #[Value.ref b] below meth c H locs CE SL Q (F0 m 1009 ls [])) : W p l e room_1 s m #[Value.ref b] below meth c H locs CE SL Q (F0 m 475 ls []) := by
  have X0 := X
  obtain ⟨hx, hb, hml, hown, hts, hX, hbl, hbA, hE, hA, hL⟩ := X
  obtain ⟨xt, ta, tb, tc, xd, da, db, dc, tx, le, no, sr, acf, aci, acn, slf, kp, siu, siv, siw, si, sef, seb, seo, sew, pau, pav, wo, tr, df, sd, mm, mk, mt, now, rt, rc, rk, mx, ml, a_, f_, sm, ma, nx, row, br, ms, mc, mw, mq, isK, mkp, ⟨mb, k, n, j, x, nt, ns, hT, hC, hAc, hSl, hTx, hSi⟩, hP, hD, hS⟩ := hI
  obtain ⟨r, sef', now', sm', e1, e2, e3⟩ := s_reach hT hC sef seb seo sew sm (xs (i + 1))
  refine lv_aload_n hx hb dL_law_475 rfl (lv_at hl 2 rfl) ?_
  refine lw_read (k := 1) hx hb hX hbl hbA hS hl hi hL (by decide) (by decide) dL_law_476 dL_law_477 dL_law_478 dL_law_479 dL_law_480 ?_
  refine x_reach X0 hf hl.1 e1 hP hD hS (fun H locs hP hD hS => ?_)
  refine lv_aload_n hx hb dL_law_484 rfl (lv_at hl 1 rfl) ?_
  refine lw_read (k := 1) hx hb hX hbl hbA hS hl hi hL (by decide) (by decide) dL_law_485 dL_law_486 dL_law_487 dL_law_488 dL_law_489 ?_
  refine y_reach X0 hf hl.1 e2 hP hD hS (fun H locs hP hD hS => ?_)
  refine lv_icmp_eq (tgt := 1009) hx hb dL_law_493 (by decide) (fun _ => ?_) (fun z => absurd rfl z)
  exact K H locs ls ⟨xt, ta, tb, tc, xd, da, db, dc, tx, le, no, sr, acf, aci, acn, slf, kp, siu, siv, siw, si, sef', seb, seo, sew, pau, pav, wo, tr, df, sd, mm, mk, mt, now', rt, rc, rk, mx, ml, a_, f_, sm', ma, nx, row, br, ms, mc, mw, mq, isK, mkp, ⟨mb, k, n, j, x, nt, ns, hT, hC.keep e3, hAc, hSl, hTx, hSi⟩, hP, hD, hS⟩ hl
set_option maxHeartbeats 4000000 in
set_option maxRecDepth 100000 in
theorem k_best (X : LX p s m meth c b L xs D cy A) (hi : i + 5 < L) (hf : CE ≤ room_1.cells ∧ SL ≤ room_1.slots) (hI : LI D cy A s xh mh ad fa H locs) (hl : lv_has ls 4 [(3, .int (nI i)), (2, .ref mh), (1, .ref xh), (0, .ref b)])
    (K : ∀ (H : Heap) (locs : List Loc) (ls : Array Slot), LI D cy A s xh mh ad fa H locs → lv_has ls 4 [(3, .int (nI i)), (2, .ref mh), (1, .ref xh), (0, .ref b)] → W p l e room_1 s m #[Value.ref b] below meth c H locs CE SL Q (F0 m 1009 ls [])) : W p l e room_1 s m #[Value.ref b] below meth c H locs CE SL Q (F0 m 498 ls []) := by
  have X0 := X
  obtain ⟨hx, hb, hml, hown, hts, hX, hbl, hbA, hE, hA, hL⟩ := X
  obtain ⟨xt, ta, tb, tc, xd, da, db, dc, tx, le, no, sr, acf, aci, acn, slf, kp, siu, siv, siw, si, sef, seb, seo, sew, pau, pav, wo, tr, df, sd, mm, mk, mt, now, rt, rc, rk, mx, ml, a_, f_, sm, ma, nx, row, br, ms, mc, mw, mq, isK, mkp, ⟨mb, k, n, j, x, nt, ns, hT, hC, hAc, hSl, hTx, hSi⟩, hP, hD, hS⟩ := hI
  obtain ⟨r, sef', seb', seo', sew', now', sm', br', e1, e2, e3⟩ := s_best hT hC sef seb seo sew sm br (xs (i + 1)) (bz (xs (i + 2)))
  refine lv_aload_n hx hb dL_law_498 rfl (lv_at hl 2 rfl) ?_
  refine lw_read (k := 1) hx hb hX hbl hbA hS hl hi hL (by decide) (by decide) dL_law_499 dL_law_500 dL_law_501 dL_law_502 dL_law_503 ?_
  refine lw_read (k := 2) hx hb hX hbl hbA hS hl hi hL (by decide) (by decide) dL_law_504 dL_law_505 dL_law_506 dL_law_507 dL_law_508 ?_
  refine lw_bool hx hb dL_law_509 dL_law_512 dL_law_513 dL_law_516 ?_
  refine x_best X0 hf hl.1 e1 hP hD hS (fun H locs hP hD hS => ?_)
  refine lv_aload_n hx hb dL_law_520 rfl (lv_at hl 1 rfl) ?_
  refine lw_read (k := 1) hx hb hX hbl hbA hS hl hi hL (by decide) (by decide) dL_law_521 dL_law_522 dL_law_523 dL_law_524 dL_law_525 ?_
  refine lw_read (k := 2) hx hb hX hbl hbA hS hl hi hL (by decide) (by decide) dL_law_526 dL_law_527 dL_law_528 dL_law_529 dL_law_530 ?_
  refine lw_bool hx hb dL_law_531 dL_law_534 dL_law_535 dL_law_538 ?_
  refine y_best X0 hf hl.1 e2 hP hD hS (fun H locs hP hD hS => ?_)
  refine lv_icmp_eq (tgt := 1009) hx hb dL_law_542 (by decide) (fun _ => ?_) (fun z => absurd rfl z)
  exact K H locs ls ⟨xt, ta, tb, tc, xd, da, db, dc, tx, le, no, sr, acf, aci, acn, slf, kp, siu, siv, siw, si, sef', seb', seo', sew', pau, pav, wo, tr, df, sd, mm, mk, mt, now', rt, rc, rk, mx, ml, a_, f_, sm', ma, nx, row, br', ms, mc, mw, mq, isK, mkp, ⟨mb, k, n, j, x, nt, ns, hT, hC.keep e3, hAc, hSl, hTx, hSi⟩, hP, hD, hS⟩ hl
set_option maxHeartbeats 4000000 in
set_option maxRecDepth 100000 in
theorem k_saves (X : LX p s m meth c b L xs D cy A) (hi : i + 5 < L) (hf : CE ≤ room_1.cells ∧ SL ≤ room_1.slots) (hI : LI D cy A s xh mh ad fa H locs) (hl : lv_has ls 4 [(3, .int (nI i)), (2, .ref mh), (1, .ref xh), (0, .ref b)])
    (K : ∀ (H : Heap) (locs : List Loc) (ls : Array Slot), LI D cy A s xh mh ad fa H locs → lv_has ls 4 [(3, .int (nI i)), (2, .ref mh), (1, .ref xh), (0, .ref b)] → W p l e room_1 s m #[Value.ref b] below meth c H locs CE SL Q (F0 m 1009 ls [])) : W p l e room_1 s m #[Value.ref b] below meth c H locs CE SL Q (F0 m 547 ls []) := by
  have X0 := X
  obtain ⟨hx, hb, hml, hown, hts, hX, hbl, hbA, hE, hA, hL⟩ := X
  obtain ⟨xt, ta, tb, tc, xd, da, db, dc, tx, le, no, sr, acf, aci, acn, slf, kp, siu, siv, siw, si, sef, seb, seo, sew, pau, pav, wo, tr, df, sd, mm, mk, mt, now, rt, rc, rk, mx, ml, a_, f_, sm, ma, nx, row, br, ms, mc, mw, mq, isK, mkp, ⟨mb, k, n, j, x, nt, ns, hT, hC, hAc, hSl, hTx, hSi⟩, hP, hD, hS⟩ := hI
  obtain ⟨r, sr', now', sm', e1, e2, e3⟩ := s_saves hT hC sr sm (xs (i + 1)) (xs (i + 2))
  refine lv_aload_n hx hb dL_law_547 rfl (lv_at hl 2 rfl) ?_
  refine lw_read (k := 1) hx hb hX hbl hbA hS hl hi hL (by decide) (by decide) dL_law_548 dL_law_549 dL_law_550 dL_law_551 dL_law_552 ?_
  refine lw_read (k := 2) hx hb hX hbl hbA hS hl hi hL (by decide) (by decide) dL_law_553 dL_law_554 dL_law_555 dL_law_556 dL_law_557 ?_
  refine x_saves X0 hf hl.1 e1 hP hD hS (fun H locs hP hD hS => ?_)
  refine lv_aload_n hx hb dL_law_561 rfl (lv_at hl 1 rfl) ?_
  refine lw_read (k := 1) hx hb hX hbl hbA hS hl hi hL (by decide) (by decide) dL_law_562 dL_law_563 dL_law_564 dL_law_565 dL_law_566 ?_
  refine lw_read (k := 2) hx hb hX hbl hbA hS hl hi hL (by decide) (by decide) dL_law_567 dL_law_568 dL_law_569 dL_law_570 dL_law_571 ?_
  refine y_saves X0 hf hl.1 e2 hP hD hS (fun H locs hP hD hS => ?_)
  refine lv_icmp_eq (tgt := 1009) hx hb dL_law_575 (by decide) (fun _ => ?_) (fun z => absurd rfl z)
  exact K H locs ls ⟨xt, ta, tb, tc, xd, da, db, dc, tx, le, no, sr', acf, aci, acn, slf, kp, siu, siv, siw, si, sef, seb, seo, sew, pau, pav, wo, tr, df, sd, mm, mk, mt, now', rt, rc, rk, mx, ml, a_, f_, sm', ma, nx, row, br, ms, mc, mw, mq, isK, mkp, ⟨mb, k, n, j, x, nt, ns, hT, hC.keep e3, hAc, hSl, hTx, hSi⟩, hP, hD, hS⟩ hl
set_option maxHeartbeats 4000000 in
set_option maxRecDepth 100000 in
theorem k_judge (X : LX p s m meth c b L xs D cy A) (hi : i + 5 < L) (hf : CE ≤ room_1.cells ∧ SL ≤ room_1.slots) (hI : LI D cy A s xh mh ad fa H locs) (hl : lv_has ls 4 [(3, .int (nI i)), (2, .ref mh), (1, .ref xh), (0, .ref b)])
    (K : ∀ (H : Heap) (locs : List Loc) (ls : Array Slot), LI D cy A s xh mh ad fa H locs → lv_has ls 4 [(3, .int (nI i)), (2, .ref mh), (1, .ref xh), (0, .ref b)] → W p l e room_1 s m #[Value.ref b] below meth c H locs CE SL Q (F0 m 1009 ls [])) : W p l e room_1 s m #[Value.ref b] below meth c H locs CE SL Q (F0 m 580 ls []) := by
  have X0 := X
  obtain ⟨hx, hb, hml, hown, hts, hX, hbl, hbA, hE, hA, hL⟩ := X
  obtain ⟨xt, ta, tb, tc, xd, da, db, dc, tx, le, no, sr, acf, aci, acn, slf, kp, siu, siv, siw, si, sef, seb, seo, sew, pau, pav, wo, tr, df, sd, mm, mk, mt, now, rt, rc, rk, mx, ml, a_, f_, sm, ma, nx, row, br, ms, mc, mw, mq, isK, mkp, ⟨mb, k, n, j, x, nt, ns, hT, hC, hAc, hSl, hTx, hSi⟩, hP, hD, hS⟩ := hI
  obtain ⟨r, sr', now', sm', e1, e2, e3⟩ := s_judge hT hC sr sm (xs (i + 1)) ((xs (i + 2)).toInt64 <<< ((32 : Int32).toInt64 &&& 63) ||| (xs (i + 3)).toInt64 &&& 4294967295)
  refine lv_aload_n hx hb dL_law_580 rfl (lv_at hl 2 rfl) ?_
  refine lw_read (k := 1) hx hb hX hbl hbA hS hl hi hL (by decide) (by decide) dL_law_581 dL_law_582 dL_law_583 dL_law_584 dL_law_585 ?_
  refine lw_read (k := 2) hx hb hX hbl hbA hS hl hi hL (by decide) (by decide) dL_law_586 dL_law_587 dL_law_588 dL_law_589 dL_law_590 ?_
  refine lv_i2l hx hb dL_law_591 rfl ?_
  refine lv_bipush (v := 32) hx hb dL_law_592 (by decide) ?_
  refine lv_lshl hx hb dL_law_594 rfl ?_
  refine lw_read (k := 3) hx hb hX hbl hbA hS hl hi hL (by decide) (by decide) dL_law_595 dL_law_596 dL_law_597 dL_law_598 dL_law_599 ?_
  refine lv_i2l hx hb dL_law_600 rfl ?_
  refine lv_ldc2 (v := 4294967295) hx hb hown (hts _ lg81) dL_law_601 ?_
  refine lv_land hx hb dL_law_604 ?_
  refine lv_lor hx hb dL_law_605 ?_
  refine x_judge X0 hf hl.1 e1 hP hD hS (fun H locs hP hD hS => ?_)
  refine lv_aload_n hx hb dL_law_609 rfl (lv_at hl 1 rfl) ?_
  refine lw_read (k := 1) hx hb hX hbl hbA hS hl hi hL (by decide) (by decide) dL_law_610 dL_law_611 dL_law_612 dL_law_613 dL_law_614 ?_
  refine lw_read (k := 2) hx hb hX hbl hbA hS hl hi hL (by decide) (by decide) dL_law_615 dL_law_616 dL_law_617 dL_law_618 dL_law_619 ?_
  refine lv_i2l hx hb dL_law_620 rfl ?_
  refine lv_bipush (v := 32) hx hb dL_law_621 (by decide) ?_
  refine lv_lshl hx hb dL_law_623 rfl ?_
  refine lw_read (k := 3) hx hb hX hbl hbA hS hl hi hL (by decide) (by decide) dL_law_624 dL_law_625 dL_law_626 dL_law_627 dL_law_628 ?_
  refine lv_i2l hx hb dL_law_629 rfl ?_
  refine lv_ldc2 (v := 4294967295) hx hb hown (hts _ lg81) dL_law_630 ?_
  refine lv_land hx hb dL_law_633 ?_
  refine lv_lor hx hb dL_law_634 ?_
  refine y_judge X0 hf hl.1 e2 hP hD hS (fun H locs hP hD hS => ?_)
  refine lv_icmp_eq (tgt := 1009) hx hb dL_law_638 (by decide) (fun _ => ?_) (fun z => absurd rfl z)
  exact K H locs ls ⟨xt, ta, tb, tc, xd, da, db, dc, tx, le, no, sr', acf, aci, acn, slf, kp, siu, siv, siw, si, sef, seb, seo, sew, pau, pav, wo, tr, df, sd, mm, mk, mt, now', rt, rc, rk, mx, ml, a_, f_, sm', ma, nx, row, br, ms, mc, mw, mq, isK, mkp, ⟨mb, k, n, j, x, nt, ns, hT, hC.keep e3, hAc, hSl, hTx, hSi⟩, hP, hD, hS⟩ hl
set_option maxHeartbeats 4000000 in
set_option maxRecDepth 100000 in
theorem k_see (X : LX p s m meth c b L xs D cy A) (hi : i + 5 < L) (hf : CE ≤ room_1.cells ∧ SL ≤ room_1.slots) (hI : LI D cy A s xh mh ad fa H locs) (hl : lv_has ls 4 [(3, .int (nI i)), (2, .ref mh), (1, .ref xh), (0, .ref b)])
    (K : ∀ (H : Heap) (locs : List Loc) (ls : Array Slot), LI D cy A s xh mh ad fa H locs → lv_has ls 4 [(3, .int (nI i)), (2, .ref mh), (1, .ref xh), (0, .ref b)] → W p l e room_1 s m #[Value.ref b] below meth c H locs CE SL Q (F0 m 1009 ls [])) : W p l e room_1 s m #[Value.ref b] below meth c H locs CE SL Q (F0 m 643 ls []) := by
  have X0 := X
  obtain ⟨hx, hb, hml, hown, hts, hX, hbl, hbA, hE, hA, hL⟩ := X
  obtain ⟨xt, ta, tb, tc, xd, da, db, dc, tx, le, no, sr, acf, aci, acn, slf, kp, siu, siv, siw, si, sef, seb, seo, sew, pau, pav, wo, tr, df, sd, mm, mk, mt, now, rt, rc, rk, mx, ml, a_, f_, sm, ma, nx, row, br, ms, mc, mw, mq, isK, mkp, ⟨mb, k, n, j, x, nt, ns, hT, hC, hAc, hSl, hTx, hSi⟩, hP, hD, hS⟩ := hI
  obtain ⟨r, siu', siv', siw', si', ms', mc', mw', mq', ns', e1, e2, h1⟩ := s_see hSi (xs (i + 1)) (xs (i + 2)) (xs (i + 3))
  refine lv_aload_n hx hb dL_law_643 rfl (lv_at hl 2 rfl) ?_
  refine lw_read (k := 1) hx hb hX hbl hbA hS hl hi hL (by decide) (by decide) dL_law_644 dL_law_645 dL_law_646 dL_law_647 dL_law_648 ?_
  refine lw_read (k := 2) hx hb hX hbl hbA hS hl hi hL (by decide) (by decide) dL_law_649 dL_law_650 dL_law_651 dL_law_652 dL_law_653 ?_
  refine lw_read (k := 3) hx hb hX hbl hbA hS hl hi hL (by decide) (by decide) dL_law_654 dL_law_655 dL_law_656 dL_law_657 dL_law_658 ?_
  refine x_see X0 hf hl.1 e1 hP hD hS (fun H locs hP hD hS => ?_)
  refine lv_aload_n hx hb dL_law_662 rfl (lv_at hl 1 rfl) ?_
  refine lw_read (k := 1) hx hb hX hbl hbA hS hl hi hL (by decide) (by decide) dL_law_663 dL_law_664 dL_law_665 dL_law_666 dL_law_667 ?_
  refine lw_read (k := 2) hx hb hX hbl hbA hS hl hi hL (by decide) (by decide) dL_law_668 dL_law_669 dL_law_670 dL_law_671 dL_law_672 ?_
  refine lw_read (k := 3) hx hb hX hbl hbA hS hl hi hL (by decide) (by decide) dL_law_673 dL_law_674 dL_law_675 dL_law_676 dL_law_677 ?_
  refine y_see X0 hf hl.1 e2 hP hD hS (fun H locs hP hD hS => ?_)
  refine lv_icmp_eq (tgt := 1009) hx hb dL_law_681 (by decide) (fun _ => ?_) (fun z => absurd rfl z)
  exact K H locs ls ⟨xt, ta, tb, tc, xd, da, db, dc, tx, le, no, sr, acf, aci, acn, slf, kp, siu', siv', siw', si', sef, seb, seo, sew, pau, pav, wo, tr, df, sd, mm, mk, mt, now, rt, rc, rk, mx, ml, a_, f_, sm, ma, nx, row, br, ms', mc', mw', mq', isK, mkp, ⟨mb, k, n, j, x, nt, ns', hT, hC, hAc, hSl, hTx, h1⟩, hP, hD, hS⟩ hl
set_option maxHeartbeats 4000000 in
set_option maxRecDepth 100000 in
theorem k_unsee (X : LX p s m meth c b L xs D cy A) (hi : i + 5 < L) (hf : CE ≤ room_1.cells ∧ SL ≤ room_1.slots) (hI : LI D cy A s xh mh ad fa H locs) (hl : lv_has ls 4 [(3, .int (nI i)), (2, .ref mh), (1, .ref xh), (0, .ref b)])
    (K : ∀ (H : Heap) (locs : List Loc) (ls : Array Slot), LI D cy A s xh mh ad fa H locs → lv_has ls 4 [(3, .int (nI i)), (2, .ref mh), (1, .ref xh), (0, .ref b)] → W p l e room_1 s m #[Value.ref b] below meth c H locs CE SL Q (F0 m 1009 ls [])) : W p l e room_1 s m #[Value.ref b] below meth c H locs CE SL Q (F0 m 686 ls []) := by
  have X0 := X
  obtain ⟨hx, hb, hml, hown, hts, hX, hbl, hbA, hE, hA, hL⟩ := X
  obtain ⟨xt, ta, tb, tc, xd, da, db, dc, tx, le, no, sr, acf, aci, acn, slf, kp, siu, siv, siw, si, sef, seb, seo, sew, pau, pav, wo, tr, df, sd, mm, mk, mt, now, rt, rc, rk, mx, ml, a_, f_, sm, ma, nx, row, br, ms, mc, mw, mq, isK, mkp, ⟨mb, k, n, j, x, nt, ns, hT, hC, hAc, hSl, hTx, hSi⟩, hP, hD, hS⟩ := hI
  obtain ⟨r, e1, e2, h1⟩ := s_unsee hSi
  refine lv_aload_n hx hb dL_law_686 rfl (lv_at hl 2 rfl) ?_
  refine x_unsee X0 hf hl.1 e1 hP hD hS (fun H locs hP hD hS => ?_)
  refine lv_aload_n hx hb dL_law_690 rfl (lv_at hl 1 rfl) ?_
  refine y_unsee X0 hf hl.1 e2 hP hD hS (fun H locs hP hD hS => ?_)
  refine lv_icmp_eq (tgt := 1009) hx hb dL_law_694 (by decide) (fun _ => ?_) (fun z => absurd rfl z)
  exact K H locs ls ⟨xt, ta, tb, tc, xd, da, db, dc, tx, le, no, sr, acf, aci, acn, slf, kp, siu, siv, siw, 0, sef, seb, seo, sew, pau, pav, wo, tr, df, sd, mm, mk, mt, now, rt, rc, rk, mx, ml, a_, f_, sm, ma, nx, row, br, 0, mc, mw, mq, isK, mkp, ⟨mb, k, n, j, x, nt, 0, hT, hC, hAc, hSl, hTx, h1⟩, hP, hD, hS⟩ hl
end LAWC
