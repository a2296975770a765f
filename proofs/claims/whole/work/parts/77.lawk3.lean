section LAWC
variable {p : Program} {l : Launch} {e : Env} {s : State} {m : MethodId} {below : List Frame} {meth : Method} {c : Code} {b L : Nat} {xs : Nat → Int32} {D : va_G} {cy : Cy} {A : Nat → Prop} {CE SL : Nat} {Q : State → Prop} {H : Heap} {locs : List Loc} {ls : Array Slot}
variable {xh mh i : Nat} {ad : Nat → Nat} {fa : Nat → Nat → Nat}
set_option maxHeartbeats 4000000 in
set_option maxRecDepth 100000 in
theorem k_hidden (X : LX p s m meth c b L xs D cy A) (hi : i + 5 < L) (hf : CE ≤ room_1.cells ∧ SL ≤ room_1.slots) (hI : LI D cy A s xh mh ad fa H locs) (hl : lv_has ls 4 [(3, .int (nI i)), (2, .ref mh), (1, .ref xh), (0, .ref b)])
    (K : ∀ (H : Heap) (locs : List Loc) (ls : Array Slot), LI D cy A s xh mh ad fa H locs → lv_has ls 4 [(3, .int (nI i)), (2, .ref mh), (1, .ref xh), (0, .ref b)] → W p l e room_1 s m #[Value.ref b] below meth c H locs CE SL Q (F0 m 1009 ls [])) : W p l e room_1 s m #[Value.ref b] below meth c H locs CE SL Q (F0 m 699 ls []) := by
  have X0 := X
  obtain ⟨hx, hb, hml, hown, hts, hX, hbl, hbA, hE, hA, hL⟩ := X
  obtain ⟨xt, ta, tb, tc, xd, da, db, dc, tx, le, no, sr, acf, aci, acn, slf, kp, siu, siv, siw, si, sef, seb, seo, sew, pau, pav, wo, tr, df, sd, mm, mk, mt, now, rt, rc, rk, mx, ml, a_, f_, sm, ma, nx, row, br, ms, mc, mw, mq, isK, mkp, ⟨mb, k, n, j, x, nt, ns, hT, hC, hAc, hSl, hTx, hSi⟩, hP, hD, hS⟩ := hI
  obtain ⟨r, e1, e2⟩ := s_hidden hT hSi
  refine lv_aload_n hx hb dL_law_699 rfl (lv_at hl 2 rfl) ?_
  refine x_hidden X0 hf hl.1 e1 hP hD hS (fun H locs hP hD hS => ?_)
  refine lv_aload_n hx hb dL_law_703 rfl (lv_at hl 1 rfl) ?_
  refine y_hidden X0 hf hl.1 e2 hP hD hS (fun H locs hP hD hS => ?_)
  refine lv_icmp_eq (tgt := 1009) hx hb dL_law_707 (by decide) (fun _ => ?_) (fun z => absurd rfl z)
  exact K H locs ls ⟨xt, ta, tb, tc, xd, da, db, dc, tx, le, no, sr, acf, aci, acn, slf, kp, siu, siv, siw, si, sef, seb, seo, sew, pau, pav, wo, tr, df, sd, mm, mk, mt, now, rt, rc, rk, mx, ml, a_, f_, sm, ma, nx, row, br, ms, mc, mw, mq, isK, mkp, ⟨mb, k, n, j, x, nt, ns, hT, hC, hAc, hSl, hTx, hSi⟩, hP, hD, hS⟩ hl
set_option maxHeartbeats 4000000 in
set_option maxRecDepth 100000 in
theorem k_share (X : LX p s m meth c b L xs D cy A) (hi : i + 5 < L) (hf : CE ≤ room_1.cells ∧ SL ≤ room_1.slots) (hI : LI D cy A s xh mh ad fa H locs) (hl : lv_has ls 4 [(3, .int (nI i)), (2, .ref mh), (1, .ref xh), (0, .ref b)])
    (K : ∀ (H : Heap) (locs : List Loc) (ls : Array Slot), LI D cy A s xh mh ad fa H locs → lv_has ls 4 [(3, .int (nI i)), (2, .ref mh), (1, .ref xh), (0, .ref b)] → W p l e room_1 s m #[Value.ref b] below meth c H locs CE SL Q (F0 m 1009 ls [])) : W p l e room_1 s m #[Value.ref b] below meth c H locs CE SL Q (F0 m 712 ls []) := by
  have X0 := X
  obtain ⟨hx, hb, hml, hown, hts, hX, hbl, hbA, hE, hA, hL⟩ := X
  obtain ⟨xt, ta, tb, tc, xd, da, db, dc, tx, le, no, sr, acf, aci, acn, slf, kp, siu, siv, siw, si, sef, seb, seo, sew, pau, pav, wo, tr, df, sd, mm, mk, mt, now, rt, rc, rk, mx, ml, a_, f_, sm, ma, nx, row, br, ms, mc, mw, mq, isK, mkp, ⟨mb, k, n, j, x, nt, ns, hT, hC, hAc, hSl, hTx, hSi⟩, hP, hD, hS⟩ := hI
  obtain ⟨r, sr', sef', seb', seo', sew', wo', now', sm', br', e1, e2, e3⟩ := s_share hT hC sr sef seb seo sew wo sm br (xs (i + 1)) (bz (xs (i + 2)))
  refine lv_aload_n hx hb dL_law_712 rfl (lv_at hl 2 rfl) ?_
  refine lw_read (k := 1) hx hb hX hbl hbA hS hl hi hL (by decide) (by decide) dL_law_713 dL_law_714 dL_law_715 dL_law_716 dL_law_717 ?_
  refine lw_read (k := 2) hx hb hX hbl hbA hS hl hi hL (by decide) (by decide) dL_law_718 dL_law_719 dL_law_720 dL_law_721 dL_law_722 ?_
  refine lw_bool hx hb dL_law_723 dL_law_726 dL_law_727 dL_law_730 ?_
  refine x_share X0 hf hl.1 e1 hP hD hS (fun H locs hP hD hS => ?_)
  refine lv_aload_n hx hb dL_law_734 rfl (lv_at hl 1 rfl) ?_
  refine lw_read (k := 1) hx hb hX hbl hbA hS hl hi hL (by decide) (by decide) dL_law_735 dL_law_736 dL_law_737 dL_law_738 dL_law_739 ?_
  refine lw_read (k := 2) hx hb hX hbl hbA hS hl hi hL (by decide) (by decide) dL_law_740 dL_law_741 dL_law_742 dL_law_743 dL_law_744 ?_
  refine lw_bool hx hb dL_law_745 dL_law_748 dL_law_749 dL_law_752 ?_
  refine y_share X0 hf hl.1 e2 hP hD hS (fun H locs hP hD hS => ?_)
  refine lv_icmp_eq (tgt := 1009) hx hb dL_law_756 (by decide) (fun _ => ?_) (fun z => absurd rfl z)
  exact K H locs ls ⟨xt, ta, tb, tc, xd, da, db, dc, tx, le, no, sr', acf, aci, acn, slf, kp, siu, siv, siw, si, sef', seb', seo', sew', pau, pav, wo', tr, df, sd, mm, mk, mt, now', rt, rc, rk, mx, ml, a_, f_, sm', ma, nx, row, br', ms, mc, mw, mq, isK, mkp, ⟨mb, k, n, j, x, nt, ns, hT, hC.keep e3, hAc, hSl, hTx, hSi⟩, hP, hD, hS⟩ hl
set_option maxHeartbeats 4000000 in
set_option maxRecDepth 100000 in
theorem k_rests (X : LX p s m meth c b L xs D cy A) (hi : i + 5 < L) (hf : CE ≤ room_1.cells ∧ SL ≤ room_1.slots) (hI : LI D cy A s xh mh ad fa H locs) (hl : lv_has ls 4 [(3, .int (nI i)), (2, .ref mh), (1, .ref xh), (0, .ref b)])
    (K : ∀ (H : Heap) (locs : List Loc) (ls : Array Slot), LI D cy A s xh mh ad fa H locs → lv_has ls 4 [(3, .int (nI i)), (2, .ref mh), (1, .ref xh), (0, .ref b)] → W p l e room_1 s m #[Value.ref b] below meth c H locs CE SL Q (F0 m 1009 ls [])) : W p l e room_1 s m #[Value.ref b] below meth c H locs CE SL Q (F0 m 761 ls []) := by
  have X0 := X
  obtain ⟨hx, hb, hml, hown, hts, hX, hbl, hbA, hE, hA, hL⟩ := X
  obtain ⟨xt, ta, tb, tc, xd, da, db, dc, tx, le, no, sr, acf, aci, acn, slf, kp, siu, siv, siw, si, sef, seb, seo, sew, pau, pav, wo, tr, df, sd, mm, mk, mt, now, rt, rc, rk, mx, ml, a_, f_, sm, ma, nx, row, br, ms, mc, mw, mq, isK, mkp, ⟨mb, k, n, j, x, nt, ns, hT, hC, hAc, hSl, hTx, hSi⟩, hP, hD, hS⟩ := hI
  obtain ⟨r, sr', pau', pav', now', sm', e1, e2, e3⟩ := s_rests hT hC sr pau pav sm (xs (i + 1))
  refine lv_aload_n hx hb dL_law_761 rfl (lv_at hl 2 rfl) ?_
  refine lw_read (k := 1) hx hb hX hbl hbA hS hl hi hL (by decide) (by decide) dL_law_762 dL_law_763 dL_law_764 dL_law_765 dL_law_766 ?_
  refine x_rests X0 hf hl.1 e1 hP hD hS (fun H locs hP hD hS => ?_)
  refine lv_aload_n hx hb dL_law_770 rfl (lv_at hl 1 rfl) ?_
  refine lw_read (k := 1) hx hb hX hbl hbA hS hl hi hL (by decide) (by decide) dL_law_771 dL_law_772 dL_law_773 dL_law_774 dL_law_775 ?_
  refine y_rests X0 hf hl.1 e2 hP hD hS (fun H locs hP hD hS => ?_)
  refine lv_icmp_eq (tgt := 1009) hx hb dL_law_779 (by decide) (fun _ => ?_) (fun z => absurd rfl z)
  exact K H locs ls ⟨xt, ta, tb, tc, xd, da, db, dc, tx, le, no, sr', acf, aci, acn, slf, kp, siu, siv, siw, si, sef, seb, seo, sew, pau', pav', wo, tr, df, sd, mm, mk, mt, now', rt, rc, rk, mx, ml, a_, f_, sm', ma, nx, row, br, ms, mc, mw, mq, isK, mkp, ⟨mb, k, n, j, x, nt, ns, hT, hC.keep e3, hAc, hSl, hTx, hSi⟩, hP, hD, hS⟩ hl
set_option maxHeartbeats 4000000 in
set_option maxRecDepth 100000 in
theorem k_fails (X : LX p s m meth c b L xs D cy A) (hi : i + 5 < L) (hf : CE ≤ room_1.cells ∧ SL ≤ room_1.slots) (hI : LI D cy A s xh mh ad fa H locs) (hl : lv_has ls 4 [(3, .int (nI i)), (2, .ref mh), (1, .ref xh), (0, .ref b)])
    (K : ∀ (H : Heap) (locs : List Loc) (ls : Array Slot), LI D cy A s xh mh ad fa H locs → lv_has ls 4 [(3, .int (nI i)), (2, .ref mh), (1, .ref xh), (0, .ref b)] → W p l e room_1 s m #[Value.ref b] below meth c H locs CE SL Q (F0 m 1009 ls [])) : W p l e room_1 s m #[Value.ref b] below meth c H locs CE SL Q (F0 m 784 ls []) := by
  have X0 := X
  obtain ⟨hx, hb, hml, hown, hts, hX, hbl, hbA, hE, hA, hL⟩ := X
  obtain ⟨xt, ta, tb, tc, xd, da, db, dc, tx, le, no, sr, acf, aci, acn, slf, kp, siu, siv, siw, si, sef, seb, seo, sew, pau, pav, wo, tr, df, sd, mm, mk, mt, now, rt, rc, rk, mx, ml, a_, f_, sm, ma, nx, row, br, ms, mc, mw, mq, isK, mkp, ⟨mb, k, n, j, x, nt, ns, hT, hC, hAc, hSl, hTx, hSi⟩, hP, hD, hS⟩ := hI
  obtain ⟨r, sr', now', sm', e1, e2, e3⟩ := s_fails hT hC sr sm (xs (i + 1)) (xs (i + 2)) (xs (i + 3)) (xs (i + 4)) (bz (xs (i + 5)))
  refine lv_aload_n hx hb dL_law_784 rfl (lv_at hl 2 rfl) ?_
  refine lw_read (k := 1) hx hb hX hbl hbA hS hl hi hL (by decide) (by decide) dL_law_785 dL_law_786 dL_law_787 dL_law_788 dL_law_789 ?_
  refine lw_read (k := 2) hx hb hX hbl hbA hS hl hi hL (by decide) (by decide) dL_law_790 dL_law_791 dL_law_792 dL_law_793 dL_law_794 ?_
  refine lw_read (k := 3) hx hb hX hbl hbA hS hl hi hL (by decide) (by decide) dL_law_795 dL_law_796 dL_law_797 dL_law_798 dL_law_799 ?_
  refine lw_read (k := 4) hx hb hX hbl hbA hS hl hi hL (by decide) (by decide) dL_law_800 dL_law_801 dL_law_802 dL_law_803 dL_law_804 ?_
  refine lw_read (k := 5) hx hb hX hbl hbA hS hl hi hL (by decide) (by decide) dL_law_805 dL_law_806 dL_law_807 dL_law_808 dL_law_809 ?_
  refine lw_bool hx hb dL_law_810 dL_law_813 dL_law_814 dL_law_817 ?_
  refine x_fails X0 hf hl.1 e1 hP hD hS (fun H locs hP hD hS => ?_)
  refine lv_aload_n hx hb dL_law_821 rfl (lv_at hl 1 rfl) ?_
  refine lw_read (k := 1) hx hb hX hbl hbA hS hl hi hL (by decide) (by decide) dL_law_822 dL_law_823 dL_law_824 dL_law_825 dL_law_826 ?_
  refine lw_read (k := 2) hx hb hX hbl hbA hS hl hi hL (by decide) (by decide) dL_law_827 dL_law_828 dL_law_829 dL_law_830 dL_law_831 ?_
  refine lw_read (k := 3) hx hb hX hbl hbA hS hl hi hL (by decide) (by decide) dL_law_832 dL_law_833 dL_law_834 dL_law_835 dL_law_836 ?_
  refine lw_read (k := 4) hx hb hX hbl hbA hS hl hi hL (by decide) (by decide) dL_law_837 dL_law_838 dL_law_839 dL_law_840 dL_law_841 ?_
  refine lw_read (k := 5) hx hb hX hbl hbA hS hl hi hL (by decide) (by decide) dL_law_842 dL_law_843 dL_law_844 dL_law_845 dL_law_846 ?_
  refine lw_bool hx hb dL_law_847 dL_law_850 dL_law_851 dL_law_854 ?_
  refine y_fails X0 hf hl.1 e2 hP hD hS (fun H locs hP hD hS => ?_)
  refine lv_icmp_eq (tgt := 1009) hx hb dL_law_858 (by decide) (fun _ => ?_) (fun z => absurd rfl z)
  exact K H locs ls ⟨xt, ta, tb, tc, xd, da, db, dc, tx, le, no, sr', acf, aci, acn, slf, kp, siu, siv, siw, si, sef, seb, seo, sew, pau, pav, wo, tr, df, sd, mm, mk, mt, now', rt, rc, rk, mx, ml, a_, f_, sm', ma, nx, row, br, ms, mc, mw, mq, isK, mkp, ⟨mb, k, n, j, x, nt, ns, hT, hC.keep e3, hAc, hSl, hTx, hSi⟩, hP, hD, hS⟩ hl
set_option maxHeartbeats 4000000 in
set_option maxRecDepth 100000 in
theorem k_seed (X : LX p s m meth c b L xs D cy A) (hi : i + 5 < L) (hf : CE ≤ room_1.cells ∧ SL ≤ room_1.slots) (hI : LI D cy A s xh mh ad fa H locs) (hl : lv_has ls 4 [(3, .int (nI i)), (2, .ref mh), (1, .ref xh), (0, .ref b)])
    (K : ∀ (H : Heap) (locs : List Loc) (ls : Array Slot), LI D cy A s xh mh ad fa H locs → lv_has ls 4 [(3, .int (nI i)), (2, .ref mh), (1, .ref xh), (0, .ref b)] → W p l e room_1 s m #[Value.ref b] below meth c H locs CE SL Q (F0 m 1009 ls [])) : W p l e room_1 s m #[Value.ref b] below meth c H locs CE SL Q (F0 m 863 ls []) := by
  have X0 := X
  obtain ⟨hx, hb, hml, hown, hts, hX, hbl, hbA, hE, hA, hL⟩ := X
  obtain ⟨xt, ta, tb, tc, xd, da, db, dc, tx, le, no, sr, acf, aci, acn, slf, kp, siu, siv, siw, si, sef, seb, seo, sew, pau, pav, wo, tr, df, sd, mm, mk, mt, now, rt, rc, rk, mx, ml, a_, f_, sm, ma, nx, row, br, ms, mc, mw, mq, isK, mkp, ⟨mb, k, n, j, x, nt, ns, hT, hC, hAc, hSl, hTx, hSi⟩, hP, hD, hS⟩ := hI
  have e1 : tw_X6_seed sd ((xs (i + 1)).toInt64 <<< ((32 : Int32).toInt64 &&& 63) ||| (xs (i + 2)).toInt64 &&& 4294967295) = some (sd, ((xs (i + 1)).toInt64 <<< ((32 : Int32).toInt64 &&& 63) ||| (xs (i + 2)).toInt64 &&& 4294967295)) := rfl
  have e2 : tw_X7_seed sd ((xs (i + 1)).toInt64 <<< ((32 : Int32).toInt64 &&& 63) ||| (xs (i + 2)).toInt64 &&& 4294967295) = some (sd, ((xs (i + 1)).toInt64 <<< ((32 : Int32).toInt64 &&& 63) ||| (xs (i + 2)).toInt64 &&& 4294967295)) := rfl
  refine lv_aload_n hx hb dL_law_863 rfl (lv_at hl 2 rfl) ?_
  refine lw_read (k := 1) hx hb hX hbl hbA hS hl hi hL (by decide) (by decide) dL_law_864 dL_law_865 dL_law_866 dL_law_867 dL_law_868 ?_
  refine lv_i2l hx hb dL_law_869 rfl ?_
  refine lv_bipush (v := 32) hx hb dL_law_870 (by decide) ?_
  refine lv_lshl hx hb dL_law_872 rfl ?_
  refine lw_read (k := 2) hx hb hX hbl hbA hS hl hi hL (by decide) (by decide) dL_law_873 dL_law_874 dL_law_875 dL_law_876 dL_law_877 ?_
  refine lv_i2l hx hb dL_law_878 rfl ?_
  refine lv_ldc2 (v := 4294967295) hx hb hown (hts _ lg81) dL_law_879 ?_
  refine lv_land hx hb dL_law_882 ?_
  refine lv_lor hx hb dL_law_883 ?_
  refine x_seed X0 hf hl.1 e1 hP hD hS (fun H locs hP hD hS => ?_)
  refine lv_aload_n hx hb dL_law_887 rfl (lv_at hl 1 rfl) ?_
  refine lw_read (k := 1) hx hb hX hbl hbA hS hl hi hL (by decide) (by decide) dL_law_888 dL_law_889 dL_law_890 dL_law_891 dL_law_892 ?_
  refine lv_i2l hx hb dL_law_893 rfl ?_
  refine lv_bipush (v := 32) hx hb dL_law_894 (by decide) ?_
  refine lv_lshl hx hb dL_law_896 rfl ?_
  refine lw_read (k := 2) hx hb hX hbl hbA hS hl hi hL (by decide) (by decide) dL_law_897 dL_law_898 dL_law_899 dL_law_900 dL_law_901 ?_
  refine lv_i2l hx hb dL_law_902 rfl ?_
  refine lv_ldc2 (v := 4294967295) hx hb hown (hts _ lg81) dL_law_903 ?_
  refine lv_land hx hb dL_law_906 ?_
  refine lv_lor hx hb dL_law_907 ?_
  refine y_seed X0 hf hl.1 e2 hP hD hS (fun H locs hP hD hS => ?_)
  refine W.lcmp hx hb dL_law_911 ?_
  refine lv_if_eq (tgt := 1009) hx hb dL_law_912 (by decide) (fun _ => ?_) (fun z => absurd (cmp_same sd) z)
  exact K H locs ls ⟨xt, ta, tb, tc, xd, da, db, dc, tx, le, no, sr, acf, aci, acn, slf, kp, siu, siv, siw, si, sef, seb, seo, sew, pau, pav, wo, tr, df, ((xs (i + 1)).toInt64 <<< ((32 : Int32).toInt64 &&& 63) ||| (xs (i + 2)).toInt64 &&& 4294967295), mm, mk, mt, now, rt, rc, rk, mx, ml, a_, f_, sm, ma, nx, row, br, ms, mc, mw, mq, isK, mkp, ⟨mb, k, n, j, x, nt, ns, hT, hC, hAc, hSl, hTx, hSi⟩, hP, hD, hS⟩ hl
set_option maxHeartbeats 4000000 in
set_option maxRecDepth 100000 in
theorem k_days (X : LX p s m meth c b L xs D cy A) (hi : i + 5 < L) (hf : CE ≤ room_1.cells ∧ SL ≤ room_1.slots) (hI : LI D cy A s xh mh ad fa H locs) (hl : lv_has ls 4 [(3, .int (nI i)), (2, .ref mh), (1, .ref xh), (0, .ref b)])
    (K : ∀ (H : Heap) (locs : List Loc) (ls : Array Slot), LI D cy A s xh mh ad fa H locs → lv_has ls 4 [(3, .int (nI i)), (2, .ref mh), (1, .ref xh), (0, .ref b)] → W p l e room_1 s m #[Value.ref b] below meth c H locs CE SL Q (F0 m 1009 ls [])) : W p l e room_1 s m #[Value.ref b] below meth c H locs CE SL Q (F0 m 917 ls []) := by
  have X0 := X
  obtain ⟨hx, hb, hml, hown, hts, hX, hbl, hbA, hE, hA, hL⟩ := X
  obtain ⟨xt, ta, tb, tc, xd, da, db, dc, tx, le, no, sr, acf, aci, acn, slf, kp, siu, siv, siw, si, sef, seb, seo, sew, pau, pav, wo, tr, df, sd, mm, mk, mt, now, rt, rc, rk, mx, ml, a_, f_, sm, ma, nx, row, br, ms, mc, mw, mq, isK, mkp, ⟨mb, k, n, j, x, nt, ns, hT, hC, hAc, hSl, hTx, hSi⟩, hP, hD, hS⟩ := hI
  obtain ⟨r, sr', now', sm', sd', e1, e2, e3⟩ := s_days hT hC sr sm (xs (i + 1)) sd
  refine lv_aload_n hx hb dL_law_917 rfl (lv_at hl 2 rfl) ?_
  refine lw_read (k := 1) hx hb hX hbl hbA hS hl hi hL (by decide) (by decide) dL_law_918 dL_law_919 dL_law_920 dL_law_921 dL_law_922 ?_
  refine x_days X0 hf hl.1 e1 hP hD hS (fun H locs hP hD hS => ?_)
  refine lv_aload_n hx hb dL_law_926 rfl (lv_at hl 1 rfl) ?_
  refine lw_read (k := 1) hx hb hX hbl hbA hS hl hi hL (by decide) (by decide) dL_law_927 dL_law_928 dL_law_929 dL_law_930 dL_law_931 ?_
  refine y_days X0 hf hl.1 e2 hP hD hS (fun H locs hP hD hS => ?_)
  refine lv_icmp_eq (tgt := 1009) hx hb dL_law_935 (by decide) (fun _ => ?_) (fun z => absurd rfl z)
  exact K H locs ls ⟨xt, ta, tb, tc, xd, da, db, dc, tx, le, no, sr', acf, aci, acn, slf, kp, siu, siv, siw, si, sef, seb, seo, sew, pau, pav, wo, tr, df, sd', mm, mk, mt, now', rt, rc, rk, mx, ml, a_, f_, sm', ma, nx, row, br, ms, mc, mw, mq, isK, mkp, ⟨mb, k, n, j, x, nt, ns, hT, hC.keep e3, hAc, hSl, hTx, hSi⟩, hP, hD, hS⟩ hl
set_option maxHeartbeats 4000000 in
set_option maxRecDepth 100000 in
theorem k_keep (X : LX p s m meth c b L xs D cy A) (hi : i + 5 < L) (hf : CE ≤ room_1.cells ∧ SL ≤ room_1.slots) (hI : LI D cy A s xh mh ad fa H locs) (hl : lv_has ls 4 [(3, .int (nI i)), (2, .ref mh), (1, .ref xh), (0, .ref b)])
    (K : ∀ (H : Heap) (locs : List Loc) (ls : Array Slot), LI D cy A s xh mh ad fa H locs → lv_has ls 4 [(3, .int (nI i)), (2, .ref mh), (1, .ref xh), (0, .ref b)] → W p l e room_1 s m #[Value.ref b] below meth c H locs CE SL Q (F0 m 1009 ls [])) : W p l e room_1 s m #[Value.ref b] below meth c H locs CE SL Q (F0 m 940 ls []) := by
  have X0 := X
  obtain ⟨hx, hb, hml, hown, hts, hX, hbl, hbA, hE, hA, hL⟩ := X
  obtain ⟨xt, ta, tb, tc, xd, da, db, dc, tx, le, no, sr, acf, aci, acn, slf, kp, siu, siv, siw, si, sef, seb, seo, sew, pau, pav, wo, tr, df, sd, mm, mk, mt, now, rt, rc, rk, mx, ml, a_, f_, sm, ma, nx, row, br, ms, mc, mw, mq, isK, mkp, ⟨mb, k, n, j, x, nt, ns, hT, hC, hAc, hSl, hTx, hSi⟩, hP, hD, hS⟩ := hI
  obtain ⟨r, slf', kp', isK', mkp', e1, e2, h1⟩ := s_keep hC hSl (xs (i + 1))
  refine lv_aload_n hx hb dL_law_940 rfl (lv_at hl 2 rfl) ?_
  refine lw_read (k := 1) hx hb hX hbl hbA hS hl hi hL (by decide) (by decide) dL_law_941 dL_law_942 dL_law_943 dL_law_944 dL_law_945 ?_
  refine x_keep X0 hf hl.1 e1 hP hD hS (fun H locs hP hD hS => ?_)
  refine lv_aload_n hx hb dL_law_949 rfl (lv_at hl 1 rfl) ?_
  refine lw_read (k := 1) hx hb hX hbl hbA hS hl hi hL (by decide) (by decide) dL_law_950 dL_law_951 dL_law_952 dL_law_953 dL_law_954 ?_
  refine y_keep X0 hf hl.1 e2 hP hD hS (fun H locs hP hD hS => ?_)
  refine lv_icmp_eq (tgt := 1009) hx hb dL_law_958 (by decide) (fun _ => ?_) (fun z => absurd rfl z)
  exact K H locs ls ⟨xt, ta, tb, tc, xd, da, db, dc, tx, le, no, sr, acf, aci, acn, slf', kp', siu, siv, siw, si, sef, seb, seo, sew, pau, pav, wo, tr, df, sd, mm, mk, mt, now, rt, rc, rk, mx, ml, a_, f_, sm, ma, nx, row, br, ms, mc, mw, mq, isK', mkp', ⟨mb, k, n, j, x, nt, ns, hT, hC, hAc, h1, hTx, hSi⟩, hP, hD, hS⟩ hl
set_option maxHeartbeats 4000000 in
set_option maxRecDepth 100000 in
theorem k_again (X : LX p s m meth c b L xs D cy A) (hi : i + 5 < L) (hf : CE ≤ room_1.cells ∧ SL ≤ room_1.slots) (hI : LI D cy A s xh mh ad fa H locs) (hl : lv_has ls 4 [(3, .int (nI i)), (2, .ref mh), (1, .ref xh), (0, .ref b)])
    (K : ∀ (H : Heap) (locs : List Loc) (ls : Array Slot), LI D cy A s xh mh ad fa H locs → lv_has ls 4 [(3, .int (nI i)), (2, .ref mh), (1, .ref xh), (0, .ref b)] → W p l e room_1 s m #[Value.ref b] below meth c H locs CE SL Q (F0 m 1009 ls [])) : W p l e room_1 s m #[Value.ref b] below meth c H locs CE SL Q (F0 m 963 ls []) := by
  have X0 := X
  obtain ⟨hx, hb, hml, hown, hts, hX, hbl, hbA, hE, hA, hL⟩ := X
  obtain ⟨xt, ta, tb, tc, xd, da, db, dc, tx, le, no, sr, acf, aci, acn, slf, kp, siu, siv, siw, si, sef, seb, seo, sew, pau, pav, wo, tr, df, sd, mm, mk, mt, now, rt, rc, rk, mx, ml, a_, f_, sm, ma, nx, row, br, ms, mc, mw, mq, isK, mkp, ⟨mb, k, n, j, x, nt, ns, hT, hC, hAc, hSl, hTx, hSi⟩, hP, hD, hS⟩ := hI
  obtain ⟨r, no', aci', acn', now', ma', k', e1, e2, h1, h2⟩ := s_again hC hSl aci acn ma (xs (i + 1))
  refine lv_aload_n hx hb dL_law_963 rfl (lv_at hl 2 rfl) ?_
  refine lw_read (k := 1) hx hb hX hbl hbA hS hl hi hL (by decide) (by decide) dL_law_964 dL_law_965 dL_law_966 dL_law_967 dL_law_968 ?_
  refine x_again X0 hf hl.1 e1 hP hD hS (fun H locs hP hD hS => ?_)
  refine lv_aload_n hx hb dL_law_972 rfl (lv_at hl 1 rfl) ?_
  refine lw_read (k := 1) hx hb hX hbl hbA hS hl hi hL (by decide) (by decide) dL_law_973 dL_law_974 dL_law_975 dL_law_976 dL_law_977 ?_
  refine y_again X0 hf hl.1 e2 hP hD hS (fun H locs hP hD hS => ?_)
  refine lv_icmp_eq (tgt := 1009) hx hb dL_law_981 (by decide) (fun _ => ?_) (fun z => absurd rfl z)
  obtain ⟨n', j', hA2⟩ : ∃ n' j', ACR tr mb acf aci' acn' row ma' nx n' j' x := by
    rcases h2 with ⟨q1, q2, q3⟩ | ⟨q1, q2, q3⟩
    · rw [q1, q2, q3]; exact ⟨n, j, hAc⟩
    · rw [q1, q2, q3]; exact ⟨0, 0, hAc.zero⟩
  exact K H locs ls ⟨xt, ta, tb, tc, xd, da, db, dc, tx, le, no', sr, acf, aci', acn', slf, kp, siu, siv, siw, si, sef, seb, seo, sew, pau, pav, wo, tr, df, sd, mm, mk, mt, now', rt, rc, rk, mx, ml, a_, f_, sm, ma', nx, row, br, ms, mc, mw, mq, isK, mkp, ⟨mb, k', n', j', x, nt, ns, hT, h1, hA2, hSl, hTx, hSi⟩, hP, hD, hS⟩ hl
set_option maxHeartbeats 4000000 in
set_option maxRecDepth 100000 in
theorem k_count (X : LX p s m meth c b L xs D cy A) (hi : i + 5 < L) (hf : CE ≤ room_1.cells ∧ SL ≤ room_1.slots) (hI : LI D cy A s xh mh ad fa H locs) (hl : lv_has ls 4 [(3, .int (nI i)), (2, .ref mh), (1, .ref xh), (0, .ref b)])
    (K : ∀ (H : Heap) (locs : List Loc) (ls : Array Slot), LI D cy A s xh mh ad fa H locs → lv_has ls 4 [(3, .int (nI i)), (2, .ref mh), (1, .ref xh), (0, .ref b)] → W p l e room_1 s m #[Value.ref b] below meth c H locs CE SL Q (F0 m 1009 ls [])) : W p l e room_1 s m #[Value.ref b] below meth c H locs CE SL Q (F0 m 986 ls []) := by
  have X0 := X
  obtain ⟨hx, hb, hml, hown, hts, hX, hbl, hbA, hE, hA, hL⟩ := X
  obtain ⟨xt, ta, tb, tc, xd, da, db, dc, tx, le, no, sr, acf, aci, acn, slf, kp, siu, siv, siw, si, sef, seb, seo, sew, pau, pav, wo, tr, df, sd, mm, mk, mt, now, rt, rc, rk, mx, ml, a_, f_, sm, ma, nx, row, br, ms, mc, mw, mq, isK, mkp, ⟨mb, k, n, j, x, nt, ns, hT, hC, hAc, hSl, hTx, hSi⟩, hP, hD, hS⟩ := hI
  obtain ⟨r, e1, e2⟩ := s_count hT hC (hTx.1.trans hTx.2.1.symm) (hAc.2.1.trans hAc.2.2.1.symm) (hSi.1.trans hSi.2.1.symm) (xs (i + 1))
  refine lv_aload_n hx hb dL_law_986 rfl (lv_at hl 2 rfl) ?_
  refine lw_read (k := 1) hx hb hX hbl hbA hS hl hi hL (by decide) (by decide) dL_law_987 dL_law_988 dL_law_989 dL_law_990 dL_law_991 ?_
  refine x_count X0 hf hl.1 e1 hP hD hS (fun H locs hP hD hS => ?_)
  refine lv_aload_n hx hb dL_law_995 rfl (lv_at hl 1 rfl) ?_
  refine lw_read (k := 1) hx hb hX hbl hbA hS hl hi hL (by decide) (by decide) dL_law_996 dL_law_997 dL_law_998 dL_law_999 dL_law_1000 ?_
  refine y_count X0 hf hl.1 e2 hP hD hS (fun H locs hP hD hS => ?_)
  refine lv_icmp_eq (tgt := 1009) hx hb dL_law_1004 (by decide) (fun _ => ?_) (fun z => absurd rfl z)
  exact K H locs ls ⟨xt, ta, tb, tc, xd, da, db, dc, tx, le, no, sr, acf, aci, acn, slf, kp, siu, siv, siw, si, sef, seb, seo, sew, pau, pav, wo, tr, df, sd, mm, mk, mt, now, rt, rc, rk, mx, ml, a_, f_, sm, ma, nx, row, br, ms, mc, mw, mq, isK, mkp, ⟨mb, k, n, j, x, nt, ns, hT, hC, hAc, hSl, hTx, hSi⟩, hP, hD, hS⟩ hl
end LAWC
