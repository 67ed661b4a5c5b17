set_option maxRecDepth 100000 in
set_option maxHeartbeats 4000000 in
theorem law_may {mp : Program} {l : Launch} {me : Env} {mR : Room} {sm : State} {mm : MethodId} {margs : Array Value} {mbel : List Frame} {mmet : Method} {mcod : Code} {mD : va_G} {f9 : fh_M} {Q9 : State → Prop} {ce sl b0 Ls ix : Nat} {xs : Nat → Int32} (X : fh_X mp l sm mm margs mmet mcod mD fhCl fhT f9 (hp []) y_LW_law.cls b_LW_law 8) (hScr : lwX sm f9 b0 Ls xs) (hst : l.stackTraces = false) (hNw : lwN sm) (hRf : 12 ≤ mR.frames) (hRl : 438 ≤ mR.locals) (hRc : ce + 5 ≤ mR.cells) (hRs : sl + 150 ≤ mR.slots) {M NG x xm m1 m2 m3 xl l1 xb y s t xr xt xg g1 g2 g3 h y1 y2 y3 y4 y5 y6 y7 y8 y9 y10 y11 y12 y13 y14 y15 y16 y17 o : Nat} (hM4 : 4 ≤ M) (hM : M ≤ 128) (hNGe : NG = 24 + M * 32 / 9) (hn : [x, xm, m1, m2, m3, xl, l1, xb, y, s, t, xr, xt, xg, g1, g2, g3, h, y1, y2, y3, y4, y5, y6, y7, y8, y9, y10, y11, y12, y13, y14, y15, y16, y17, o].Nodup) (hLs : Ls ≤ 3073) (hix : ix + 5 < Ls) {f : fh_M} (hS : lwS M NG x xm m1 m2 m3 xl l1 xb y s t xr xt xg g1 g2 g3 h y1 y2 y3 y4 y5 y6 y7 y8 y9 y10 y11 y12 y13 y14 y15 y16 y17 o f)  (kk : ∀ f, lwS M NG x xm m1 m2 m3 xl l1 xb y s t xr xt xg g1 g2 g3 h y1 y2 y3 y4 y5 y6 y7 y8 y9 y10 y11 y12 y13 y14 y15 y16 y17 o f → fh_G mp l me mR sm mm margs mbel mmet mcod mD fhCl f9 8 Q9 (ce + 5) (sl + 150) f 1292 [(4, .int (nI ix)), (3, .ref o), (2, .ref h), (1, .ref x), (0, .ref b0)] []) : fh_G mp l me mR sm mm margs mbel mmet mcod mD fhCl f9 8 Q9 (ce) (sl) f 726 [(4, .int (nI ix)), (3, .ref o), (2, .ref h), (1, .ref x), (0, .ref b0)] [] := by
  refine lwS_elim (C9 := fun f => fh_G mp l me mR sm mm margs mbel mmet mcod mD fhCl f9 8 Q9 (ce) (sl) f 726 [(4, .int (nI ix)), (3, .ref o), (2, .ref h), (1, .ref x), (0, .ref b0)] []) hS (fun K z V n L u D S T tb c ps bd w sv la le lk ls lw rt rb ra rft rk rs rv rf tq ti P GK Gz GV Gn th pa lc fb ek ev el fn js ib Xt lv en mn fl bk FK FV Fz J pk O hn24 hs hz hu hL hD hc16 hP hI hB hX hPd => ?_)
  show fh_G mp l me mR sm mm margs mbel mmet mcod mD fhCl f9 8 Q9 (ce) (sl) (fh_ov (hp [(x, .inr (5, [.ref xm, .ref xl, .ref xb, .ref xr, .ref xt, .int (nI c), .ref xg, .long sv, .int ps, .int bd])), (xm, .inr (2, [.ref m1, .ref m2, .ref m3, .int (nI n)])), (m1, .inl (.long, 24, .inr (.inl K))), (m2, .inl (.int, 24, .inl (fun q => nI (z q)))), (m3, .inl (.long, 24, .inr (.inl V))), (xl, .inr (1, [.ref l1, .int (nI u), .int (nI la), .int (nI le), .long lk, .int (nI ls), .long lw])), (l1, .inl (.byte, 1024, .inl (fun q => sb_b (L q)))), (xb, .inr (0, [.ref y, .ref s, .ref t, .int w])), (y, .inl (.byte, M * 32, .inl (fun q => sb_b (D q)))), (s, .inl (.int, M, .inl S)), (t, .inl (.int, M, .inl T)), (xr, .inr (4, [.ref xb, rt, .int (nI (b2n rb)), .int (nI ra), .int rft, .long rk, .int (nI rs), .long rv])), (xt, .inl (.object "RunStore$Table", 16, .inr (.inr (.inr (.inr rf))))), (xg, .inr (2, [.ref g1, .ref g2, .ref g3, .int (nI Gn)])), (g1, .inl (.long, NG, .inr (.inl GK))), (g2, .inl (.int, NG, .inl (fun q => nI (Gz q)))), (g3, .inl (.long, NG, .inr (.inl GV))), (h, .inr (6, [.int th, .int (nI M), .int (nI n), .ref y1, .ref y2, .ref y3, .int (nI u), .ref y4, .ref y5, .ref y6, .ref y7, .int (nI c), .ref y8, .ref y9, .ref y10, .ref y11, .ref y12, .int bd, .int w, .int ps, .int (nI pa), .int lc, .int (nI (b2n fb)), .long ek, .long ev, .int (nI el), .int (nI fn), .ref y13, .ref y14, .ref y15, .ref y16, .int (nI js), .ref y17, .int (nI (b2n ib))])), (y1, .inl (.long, 25, .inr (.inl K))), (y2, .inl (.long, 25, .inr (.inl V))), (y3, .inl (.int, 25, .inl (fun q => nI (z q)))), (y4, .inl (.int, 1024, .inl (fun q => nI (L q)))), (y5, .inl (.int, 4096, .inl (fun q => nI (D q)))), (y6, .inl (.int, 128, .inl S)), (y7, .inl (.boolean, 128, .inl Xt)), (y8, .inl (.int, 17, .inl (fun q => nI (lv q)))), (y9, .inl (.int, 17, .inl (fun q => nI (en q)))), (y10, .inl (.int, 17, .inl (fun q => nI (mn q)))), (y11, .inl (.int, 2176, .inl (fun q => nI (bk q)))), (y12, .inl (.long, 17, .inr (.inl fl))), (y13, .inl (.long, 500, .inr (.inl FK))), (y14, .inl (.long, 500, .inr (.inl FV))), (y15, .inl (.int, 500, .inl (fun q => nI (Fz q)))), (y16, .inl (.int, 4200, .inl (fun q => nI (J q)))), (y17, .inl (.int, 128, .inl (fun q => nI (pk q)))), (o, .inl (.long, 1, .inr (.inl O)))]) P) 726 [(4, .int (nI ix)), (3, .ref o), (2, .ref h), (1, .ref x), (0, .ref b0)] []
  have hnh : [h].Nodup := nd_pick [x, xm, m1, m2, m3, xl, l1, xb, y, s, t, xr, xt, xg, g1, g2, g3, h, y1, y2, y3, y4, y5, y6, y7, y8, y9, y10, y11, y12, y13, y14, y15, y16, y17, o] [17] 36 hn (by decide) rfl (by decide)
  have hnm : [h, y12].Nodup := nd_pick [x, xm, m1, m2, m3, xl, l1, xb, y, s, t, xr, xt, xg, g1, g2, g3, h, y1, y2, y3, y4, y5, y6, y7, y8, y9, y10, y11, y12, y13, y14, y15, y16, y17, o] [17, 29] 36 hn (by decide) rfl (by decide)
  obtain ⟨k, h_k⟩ : ∃ k, lg2 (xs (ix + 2)) (xs (ix + 3)) = k := ⟨_, rfl⟩
  rcases rng0 (xs (ix + 1)) (c := c) (by omega) with ⟨j, hj, hv⟩ | hv
  · have hfl : b2n (decide (fl j &&& fbits k = fbits k)) = b2n (decide ((tb j).fl &&& fbits k = fbits k)) := by rw [(hB j hj).2.2.2.1]
    have hn9 : [x, xt, o].Nodup := nd_pick [x, xm, m1, m2, m3, xl, l1, xb, y, s, t, xr, xt, xg, g1, g2, g3, h, y1, y2, y3, y4, y5, y6, y7, y8, y9, y10, y11, y12, y13, y14, y15, y16, y17, o] [0, 12, 35] 36 hn (by decide) rfl (by decide)
    refine g_aload_n X d_LW_law_726 3 rfl ?_
    refine g_aload_n X d_LW_law_727 4 rfl ?_
    refine g_iload X d_LW_law_728 0 rfl ?_
    refine g_iconst (nI 1) X d_LW_law_730 (by decide) ?_
    refine g_iadd X d_LW_law_731 ?_
    refine g_vi (nI (ix + 1)) (nI_add _ _) ?_
    refine s_iald X hScr d_LW_law_732 (by omega) (by omega) ?_
    refine g_vi (nI j) hv ?_
    refine g_aload_n X d_LW_law_733 4 rfl ?_
    refine g_iload X d_LW_law_734 0 rfl ?_
    refine g_iconst (nI 2) X d_LW_law_736 (by decide) ?_
    refine g_iadd X d_LW_law_737 ?_
    refine g_vi (nI (ix + 2)) (nI_add _ _) ?_
    refine s_iald X hScr d_LW_law_738 (by omega) (by omega) ?_
    refine g_i2l X d_LW_law_739 ?_
    refine g_bipush (nI 32) X d_LW_law_740 (by decide) ?_
    refine g_lshl X d_LW_law_742 ?_
    refine g_aload_n X d_LW_law_743 4 rfl ?_
    refine g_iload X d_LW_law_744 0 rfl ?_
    refine g_iconst (nI 3) X d_LW_law_746 (by decide) ?_
    refine g_iadd X d_LW_law_747 ?_
    refine g_vi (nI (ix + 3)) (nI_add _ _) ?_
    refine s_iald X hScr d_LW_law_748 (by omega) (by omega) ?_
    refine g_i2l X d_LW_law_749 ?_
    refine g_ldc2 X d_LW_law_750 k_ct_LW_79 ?_
    refine g_land X d_LW_law_753 ?_
    refine g_lor X d_LW_law_754 ?_
    refine g_vl k (h_k) ?_
    refine g_aload_n X d_LW_law_755 1 rfl ?_
    refine g_callSW (As := [.ref x, .int (nI j), .long k, .ref o]) (st := []) X d_LW_law_756 (c_LW_may_in hst hn9 hP hc16 hI.1 hj) lwN_s hNw rfl k_ml_LW_109 k_cd_LW_may k_in_LW k_st_LW_may ⟨by decide +kernel, by decide +kernel, (by decide +kernel : (parseMethodDescriptor "(LRunStore;IJ[J)I").map (fun d => d.parameters.length) = some 4)⟩ ⟨by omega, by omega⟩ ⟨by omega, by omega⟩ (Nat.le_of_ble_eq_true rfl) (hg_ov hn [0, 12, 35] rfl) (hrx_P hn hPd [0, 12, 35] rfl) (fun E g9 h => by obtain ⟨hv9, hg9⟩ := h; cases hv9) (fun v9 g9 hq hfr => ?_)
    obtain ⟨hv9, hg9⟩ := hq
    cases hv9
    subst hg9
    refine g_ovP [0, 12, 35] [(x, .inr (5, [.ref xm, .ref xl, .ref xb, .ref xr, .ref xt, .int (nI c), .ref xg, .long sv, .int ps, .int bd])), (xm, .inr (2, [.ref m1, .ref m2, .ref m3, .int (nI n)])), (m1, .inl (.long, 24, .inr (.inl K))), (m2, .inl (.int, 24, .inl (fun q => nI (z q)))), (m3, .inl (.long, 24, .inr (.inl V))), (xl, .inr (1, [.ref l1, .int (nI u), .int (nI la), .int (nI le), .long lk, .int (nI ls), .long lw])), (l1, .inl (.byte, 1024, .inl (fun q => sb_b (L q)))), (xb, .inr (0, [.ref y, .ref s, .ref t, .int w])), (y, .inl (.byte, M * 32, .inl (fun q => sb_b (D q)))), (s, .inl (.int, M, .inl S)), (t, .inl (.int, M, .inl T)), (xr, .inr (4, [.ref xb, rt, .int (nI (b2n rb)), .int (nI ra), .int rft, .long rk, .int (nI rs), .long rv])), (xt, .inl (.object "RunStore$Table", 16, .inr (.inr (.inr (.inr rf))))), (xg, .inr (2, [.ref g1, .ref g2, .ref g3, .int (nI Gn)])), (g1, .inl (.long, NG, .inr (.inl GK))), (g2, .inl (.int, NG, .inl (fun q => nI (Gz q)))), (g3, .inl (.long, NG, .inr (.inl GV))), (h, .inr (6, [.int th, .int (nI M), .int (nI n), .ref y1, .ref y2, .ref y3, .int (nI u), .ref y4, .ref y5, .ref y6, .ref y7, .int (nI c), .ref y8, .ref y9, .ref y10, .ref y11, .ref y12, .int bd, .int w, .int ps, .int (nI pa), .int lc, .int (nI (b2n fb)), .long ek, .long ev, .int (nI el), .int (nI fn), .ref y13, .ref y14, .ref y15, .ref y16, .int (nI js), .ref y17, .int (nI (b2n ib))])), (y1, .inl (.long, 25, .inr (.inl K))), (y2, .inl (.long, 25, .inr (.inl V))), (y3, .inl (.int, 25, .inl (fun q => nI (z q)))), (y4, .inl (.int, 1024, .inl (fun q => nI (L q)))), (y5, .inl (.int, 4096, .inl (fun q => nI (D q)))), (y6, .inl (.int, 128, .inl S)), (y7, .inl (.boolean, 128, .inl Xt)), (y8, .inl (.int, 17, .inl (fun q => nI (lv q)))), (y9, .inl (.int, 17, .inl (fun q => nI (en q)))), (y10, .inl (.int, 17, .inl (fun q => nI (mn q)))), (y11, .inl (.int, 2176, .inl (fun q => nI (bk q)))), (y12, .inl (.long, 17, .inr (.inl fl))), (y13, .inl (.long, 500, .inr (.inl FK))), (y14, .inl (.long, 500, .inr (.inl FV))), (y15, .inl (.int, 500, .inl (fun q => nI (Fz q)))), (y16, .inl (.int, 4200, .inl (fun q => nI (J q)))), (y17, .inl (.int, 128, .inl (fun q => nI (pk q)))), (o, .inl (.long, 1, .inr (.inl (va_up O 0 ((nI (b2n (decide ((tb j).fl &&& fbits k = fbits k)))).toInt64)))))] rfl rfl hn ?_
    refine g_istore [(5, .int (nI 0)), (4, .int (nI ix)), (3, .ref o), (2, .ref h), (1, .ref x), (0, .ref b0)] X d_LW_law_759 (by decide) rfl ?_
    refine g_aload_n X d_LW_law_761 3 rfl ?_
    refine g_aload_n X d_LW_law_762 5 rfl ?_
    refine g_iload X d_LW_law_763 1 rfl ?_
    refine g_iconst (nI 1) X d_LW_law_765 (by decide) ?_
    refine g_iadd X d_LW_law_766 ?_
    refine g_vi (nI (ix + 1)) (nI_add _ _) ?_
    refine s_iald X hScr d_LW_law_767 (by omega) (by omega) ?_
    refine g_vi (nI j) hv ?_
    refine g_aload_n X d_LW_law_768 5 rfl ?_
    refine g_iload X d_LW_law_769 1 rfl ?_
    refine g_iconst (nI 2) X d_LW_law_771 (by decide) ?_
    refine g_iadd X d_LW_law_772 ?_
    refine g_vi (nI (ix + 2)) (nI_add _ _) ?_
    refine s_iald X hScr d_LW_law_773 (by omega) (by omega) ?_
    refine g_i2l X d_LW_law_774 ?_
    refine g_bipush (nI 32) X d_LW_law_775 (by decide) ?_
    refine g_lshl X d_LW_law_777 ?_
    refine g_aload_n X d_LW_law_778 5 rfl ?_
    refine g_iload X d_LW_law_779 1 rfl ?_
    refine g_iconst (nI 3) X d_LW_law_781 (by decide) ?_
    refine g_iadd X d_LW_law_782 ?_
    refine g_vi (nI (ix + 3)) (nI_add _ _) ?_
    refine s_iald X hScr d_LW_law_783 (by omega) (by omega) ?_
    refine g_i2l X d_LW_law_784 ?_
    refine g_ldc2 X d_LW_law_785 k_ct_LW_79 ?_
    refine g_land X d_LW_law_788 ?_
    refine g_lor X d_LW_law_789 ?_
    refine g_vl k (h_k) ?_
    refine g_callVf (As := [.int (nI j), .long k]) (st := []) X d_LW_law_790 (c_MD_may_in hst hnm hj hc16) (hl_ov 17 rfl hn) rfl rfl k_ml_LW_112 k_cd_MD_may k_in_MD k_im_MD_may k_se_MD_may ⟨by decide +kernel, by decide +kernel, (by decide +kernel : (parseMethodDescriptor "(IJ)Z").map (fun d => d.parameters.length) = some 2)⟩ ⟨by omega, by omega⟩ ⟨by omega, by omega⟩ (Nat.le_of_ble_eq_true rfl) (hg_ov hn [17, 29] rfl) hrx_0 (fun E g9 h => by obtain ⟨hv9, hg9⟩ := h; cases hv9) (fun v9 g9 hq hfr => ?_)
    obtain ⟨hv9, hg9⟩ := hq
    cases hv9
    subst hg9
    refine g_ovP [17, 29] [(x, .inr (5, [.ref xm, .ref xl, .ref xb, .ref xr, .ref xt, .int (nI c), .ref xg, .long sv, .int ps, .int bd])), (xm, .inr (2, [.ref m1, .ref m2, .ref m3, .int (nI n)])), (m1, .inl (.long, 24, .inr (.inl K))), (m2, .inl (.int, 24, .inl (fun q => nI (z q)))), (m3, .inl (.long, 24, .inr (.inl V))), (xl, .inr (1, [.ref l1, .int (nI u), .int (nI la), .int (nI le), .long lk, .int (nI ls), .long lw])), (l1, .inl (.byte, 1024, .inl (fun q => sb_b (L q)))), (xb, .inr (0, [.ref y, .ref s, .ref t, .int w])), (y, .inl (.byte, M * 32, .inl (fun q => sb_b (D q)))), (s, .inl (.int, M, .inl S)), (t, .inl (.int, M, .inl T)), (xr, .inr (4, [.ref xb, rt, .int (nI (b2n rb)), .int (nI ra), .int rft, .long rk, .int (nI rs), .long rv])), (xt, .inl (.object "RunStore$Table", 16, .inr (.inr (.inr (.inr rf))))), (xg, .inr (2, [.ref g1, .ref g2, .ref g3, .int (nI Gn)])), (g1, .inl (.long, NG, .inr (.inl GK))), (g2, .inl (.int, NG, .inl (fun q => nI (Gz q)))), (g3, .inl (.long, NG, .inr (.inl GV))), (h, .inr (6, [.int (nI 0), .int (nI M), .int (nI n), .ref y1, .ref y2, .ref y3, .int (nI u), .ref y4, .ref y5, .ref y6, .ref y7, .int (nI c), .ref y8, .ref y9, .ref y10, .ref y11, .ref y12, .int bd, .int w, .int ps, .int (nI pa), .int lc, .int (nI (b2n fb)), .long ek, .long ev, .int (nI el), .int (nI fn), .ref y13, .ref y14, .ref y15, .ref y16, .int (nI js), .ref y17, .int (nI (b2n ib))])), (y1, .inl (.long, 25, .inr (.inl K))), (y2, .inl (.long, 25, .inr (.inl V))), (y3, .inl (.int, 25, .inl (fun q => nI (z q)))), (y4, .inl (.int, 1024, .inl (fun q => nI (L q)))), (y5, .inl (.int, 4096, .inl (fun q => nI (D q)))), (y6, .inl (.int, 128, .inl S)), (y7, .inl (.boolean, 128, .inl Xt)), (y8, .inl (.int, 17, .inl (fun q => nI (lv q)))), (y9, .inl (.int, 17, .inl (fun q => nI (en q)))), (y10, .inl (.int, 17, .inl (fun q => nI (mn q)))), (y11, .inl (.int, 2176, .inl (fun q => nI (bk q)))), (y12, .inl (.long, 17, .inr (.inl fl))), (y13, .inl (.long, 500, .inr (.inl FK))), (y14, .inl (.long, 500, .inr (.inl FV))), (y15, .inl (.int, 500, .inl (fun q => nI (Fz q)))), (y16, .inl (.int, 4200, .inl (fun q => nI (J q)))), (y17, .inl (.int, 128, .inl (fun q => nI (pk q)))), (o, .inl (.long, 1, .inr (.inl (va_up O 0 ((nI (b2n (decide ((tb j).fl &&& fbits k = fbits k)))).toInt64)))))] rfl rfl hn ?_
    refine g_istore [(6, .int (nI (b2n (decide (fl j &&& fbits k = fbits k))))), (5, .int (nI 0)), (4, .int (nI ix)), (3, .ref o), (2, .ref h), (1, .ref x), (0, .ref b0)] X d_LW_law_793 (by decide) rfl ?_
    refine g_aload_n X d_LW_law_795 4 rfl ?_
    refine g_callVf (As := []) (st := []) X d_LW_law_796 (c_MD_thrown hst hnh) (hl_ov 17 rfl hn) rfl rfl k_ml_LW_85 k_cd_MD_thrown k_in_MD k_im_MD_thrown k_se_MD_thrown ⟨by decide +kernel, by decide +kernel, (by decide +kernel : (parseMethodDescriptor "()I").map (fun d => d.parameters.length) = some 0)⟩ ⟨by omega, by omega⟩ ⟨by omega, by omega⟩ (Nat.le_of_ble_eq_true rfl) (hg_ov hn [17] rfl) hrx_0 (fun E g9 h => by obtain ⟨hv9, hg9⟩ := h; cases hv9) (fun v9 g9 hq hfr => ?_)
    obtain ⟨hv9, hg9⟩ := hq
    cases hv9
    subst hg9
    refine g_ovP [17] [(x, .inr (5, [.ref xm, .ref xl, .ref xb, .ref xr, .ref xt, .int (nI c), .ref xg, .long sv, .int ps, .int bd])), (xm, .inr (2, [.ref m1, .ref m2, .ref m3, .int (nI n)])), (m1, .inl (.long, 24, .inr (.inl K))), (m2, .inl (.int, 24, .inl (fun q => nI (z q)))), (m3, .inl (.long, 24, .inr (.inl V))), (xl, .inr (1, [.ref l1, .int (nI u), .int (nI la), .int (nI le), .long lk, .int (nI ls), .long lw])), (l1, .inl (.byte, 1024, .inl (fun q => sb_b (L q)))), (xb, .inr (0, [.ref y, .ref s, .ref t, .int w])), (y, .inl (.byte, M * 32, .inl (fun q => sb_b (D q)))), (s, .inl (.int, M, .inl S)), (t, .inl (.int, M, .inl T)), (xr, .inr (4, [.ref xb, rt, .int (nI (b2n rb)), .int (nI ra), .int rft, .long rk, .int (nI rs), .long rv])), (xt, .inl (.object "RunStore$Table", 16, .inr (.inr (.inr (.inr rf))))), (xg, .inr (2, [.ref g1, .ref g2, .ref g3, .int (nI Gn)])), (g1, .inl (.long, NG, .inr (.inl GK))), (g2, .inl (.int, NG, .inl (fun q => nI (Gz q)))), (g3, .inl (.long, NG, .inr (.inl GV))), (h, .inr (6, [.int (nI 0), .int (nI M), .int (nI n), .ref y1, .ref y2, .ref y3, .int (nI u), .ref y4, .ref y5, .ref y6, .ref y7, .int (nI c), .ref y8, .ref y9, .ref y10, .ref y11, .ref y12, .int bd, .int w, .int ps, .int (nI pa), .int lc, .int (nI (b2n fb)), .long ek, .long ev, .int (nI el), .int (nI fn), .ref y13, .ref y14, .ref y15, .ref y16, .int (nI js), .ref y17, .int (nI (b2n ib))])), (y1, .inl (.long, 25, .inr (.inl K))), (y2, .inl (.long, 25, .inr (.inl V))), (y3, .inl (.int, 25, .inl (fun q => nI (z q)))), (y4, .inl (.int, 1024, .inl (fun q => nI (L q)))), (y5, .inl (.int, 4096, .inl (fun q => nI (D q)))), (y6, .inl (.int, 128, .inl S)), (y7, .inl (.boolean, 128, .inl Xt)), (y8, .inl (.int, 17, .inl (fun q => nI (lv q)))), (y9, .inl (.int, 17, .inl (fun q => nI (en q)))), (y10, .inl (.int, 17, .inl (fun q => nI (mn q)))), (y11, .inl (.int, 2176, .inl (fun q => nI (bk q)))), (y12, .inl (.long, 17, .inr (.inl fl))), (y13, .inl (.long, 500, .inr (.inl FK))), (y14, .inl (.long, 500, .inr (.inl FV))), (y15, .inl (.int, 500, .inl (fun q => nI (Fz q)))), (y16, .inl (.int, 4200, .inl (fun q => nI (J q)))), (y17, .inl (.int, 128, .inl (fun q => nI (pk q)))), (o, .inl (.long, 1, .inr (.inl (va_up O 0 ((nI (b2n (decide ((tb j).fl &&& fbits k = fbits k)))).toInt64)))))] rfl rfl hn ?_
    refine g_iload X d_LW_law_799 1 rfl ?_
    refine g_icmp_eq 806 X d_LW_law_801 (by decide) (fun h801 => ?_) (fun h801 => ?_)
    · have h801 := cv_eq (by omega) (by omega) h801
      refine g_iload X d_LW_law_806 1 rfl ?_
      refine g_if_ne 830 X d_LW_law_808 (by decide) (fun h808 => ?_) (fun h808 => ?_)
      · have h808 := cv_n0 (by omega) h808
        omega
      · have h808 := cv_e0 (by omega) h808
        refine g_aload_n X d_LW_law_811 3 rfl ?_
        refine g_iconst (nI 0) X d_LW_law_812 (by decide) ?_
        refine h_lald X d_LW_law_813 (hl_ov 35 rfl hn) (by omega) (by omega) ?_
        refine g_iload X d_LW_law_814 0 rfl ?_
        refine g_if_eq 823 X d_LW_law_816 (by decide) (fun h816 => ?_) (fun h816 => ?_)
        · have h816 := cv_e0 (b2n_31 _) h816
          have hq8 : (nI (b2n (decide ((tb j).fl &&& fbits k = fbits k)))).toInt64 = 0 := by rw [← hfl, h816]; rfl
          refine g_lconst 0 X d_LW_law_823 (by decide) ?_
          refine g_lcmp X d_LW_law_824 ?_
          refine g_if_eq 830 X d_LW_law_825 (by decide) (fun h825 => ?_) (fun h825 => ?_)
          · have h825 := (lg_cmp_eq ((va_up O 0 ((nI (b2n (decide ((tb j).fl &&& fbits k = fbits k)))).toInt64)) 0) 0).mp h825
            refine g_goto 1292 X d_LW_law_830 (by decide) ?_
            refine g_lv [2, 3, 4, 5, 6] [(4, .int (nI ix)), (3, .ref o), (2, .ref h), (1, .ref x), (0, .ref b0)] rfl ?_
            refine g_widen (ce' := ce + 5) (sl' := sl + 150) (by omega) (by omega) ?_
            exact kk _ ⟨_, _, _, _, _, _, _, _, _, _, _, _, _, _, _, _, _, _, _, _, _, _, _, _, _, _, _, _, _, _, _, _, _, _, _, _, _, _, _, _, _, _, _, _, _, _, _, _, _, _, _, _, _, _, _, _, _, rfl, hn24, hs, hz, hu, hL, hD, hc16, hP, hI, hB, hX, hPd⟩
          · have h825 := fun z8 => h825 ((lg_cmp_eq ((va_up O 0 ((nI (b2n (decide ((tb j).fl &&& fbits k = fbits k)))).toInt64)) 0) 0).mpr z8)
            exact absurd (by rw [va_up_self]; exact hq8) h825
        · have h816 := cv_n0 (b2n_31 _) h816
          have hq8 : (nI (b2n (decide ((tb j).fl &&& fbits k = fbits k)))).toInt64 = 1 := by rw [← hfl, b2n_1 h816]; rfl
          refine g_lconst 1 X d_LW_law_819 (by decide) ?_
          refine g_goto 824 X d_LW_law_820 (by decide) ?_
          refine g_lcmp X d_LW_law_824 ?_
          refine g_if_eq 830 X d_LW_law_825 (by decide) (fun h825 => ?_) (fun h825 => ?_)
          · have h825 := (lg_cmp_eq ((va_up O 0 ((nI (b2n (decide ((tb j).fl &&& fbits k = fbits k)))).toInt64)) 0) 1).mp h825
            refine g_goto 1292 X d_LW_law_830 (by decide) ?_
            refine g_lv [2, 3, 4, 5, 6] [(4, .int (nI ix)), (3, .ref o), (2, .ref h), (1, .ref x), (0, .ref b0)] rfl ?_
            refine g_widen (ce' := ce + 5) (sl' := sl + 150) (by omega) (by omega) ?_
            exact kk _ ⟨_, _, _, _, _, _, _, _, _, _, _, _, _, _, _, _, _, _, _, _, _, _, _, _, _, _, _, _, _, _, _, _, _, _, _, _, _, _, _, _, _, _, _, _, _, _, _, _, _, _, _, _, _, _, _, _, _, rfl, hn24, hs, hz, hu, hL, hD, hc16, hP, hI, hB, hX, hPd⟩
          · have h825 := fun z8 => h825 ((lg_cmp_eq ((va_up O 0 ((nI (b2n (decide ((tb j).fl &&& fbits k = fbits k)))).toInt64)) 0) 1).mpr z8)
            exact absurd (by rw [va_up_self]; exact hq8) h825
    · have h801 := cv_ne (by omega) (by omega) h801
      omega
  · have hn9 : [x, xt, o].Nodup := nd_pick [x, xm, m1, m2, m3, xl, l1, xb, y, s, t, xr, xt, xg, g1, g2, g3, h, y1, y2, y3, y4, y5, y6, y7, y8, y9, y10, y11, y12, y13, y14, y15, y16, y17, o] [0, 12, 35] 36 hn (by decide) rfl (by decide)
    refine g_aload_n X d_LW_law_726 3 rfl ?_
    refine g_aload_n X d_LW_law_727 4 rfl ?_
    refine g_iload X d_LW_law_728 0 rfl ?_
    refine g_iconst (nI 1) X d_LW_law_730 (by decide) ?_
    refine g_iadd X d_LW_law_731 ?_
    refine g_vi (nI (ix + 1)) (nI_add _ _) ?_
    refine s_iald X hScr d_LW_law_732 (by omega) (by omega) ?_
    refine g_aload_n X d_LW_law_733 4 rfl ?_
    refine g_iload X d_LW_law_734 0 rfl ?_
    refine g_iconst (nI 2) X d_LW_law_736 (by decide) ?_
    refine g_iadd X d_LW_law_737 ?_
    refine g_vi (nI (ix + 2)) (nI_add _ _) ?_
    refine s_iald X hScr d_LW_law_738 (by omega) (by omega) ?_
    refine g_i2l X d_LW_law_739 ?_
    refine g_bipush (nI 32) X d_LW_law_740 (by decide) ?_
    refine g_lshl X d_LW_law_742 ?_
    refine g_aload_n X d_LW_law_743 4 rfl ?_
    refine g_iload X d_LW_law_744 0 rfl ?_
    refine g_iconst (nI 3) X d_LW_law_746 (by decide) ?_
    refine g_iadd X d_LW_law_747 ?_
    refine g_vi (nI (ix + 3)) (nI_add _ _) ?_
    refine s_iald X hScr d_LW_law_748 (by omega) (by omega) ?_
    refine g_i2l X d_LW_law_749 ?_
    refine g_ldc2 X d_LW_law_750 k_ct_LW_79 ?_
    refine g_land X d_LW_law_753 ?_
    refine g_lor X d_LW_law_754 ?_
    refine g_vl k (h_k) ?_
    refine g_aload_n X d_LW_law_755 1 rfl ?_
    refine g_callSW (As := [.ref x, .int (xs (ix + 1)), .long k, .ref o]) (st := []) X d_LW_law_756 (c_LW_may_no hst hn9 hP hc16 hv) lwN_s hNw rfl k_ml_LW_109 k_cd_LW_may k_in_LW k_st_LW_may ⟨by decide +kernel, by decide +kernel, (by decide +kernel : (parseMethodDescriptor "(LRunStore;IJ[J)I").map (fun d => d.parameters.length) = some 4)⟩ ⟨by omega, by omega⟩ ⟨by omega, by omega⟩ (Nat.le_of_ble_eq_true rfl) (hg_ov hn [0, 12, 35] rfl) (hrx_P hn hPd [0, 12, 35] rfl) (fun E g9 h => by obtain ⟨hv9, hg9⟩ := h; cases hv9) (fun v9 g9 hq hfr => ?_)
    obtain ⟨hv9, hg9⟩ := hq
    cases hv9
    subst hg9
    refine g_ovP [0, 12, 35] [(x, .inr (5, [.ref xm, .ref xl, .ref xb, .ref xr, .ref xt, .int (nI c), .ref xg, .long sv, .int ps, .int bd])), (xm, .inr (2, [.ref m1, .ref m2, .ref m3, .int (nI n)])), (m1, .inl (.long, 24, .inr (.inl K))), (m2, .inl (.int, 24, .inl (fun q => nI (z q)))), (m3, .inl (.long, 24, .inr (.inl V))), (xl, .inr (1, [.ref l1, .int (nI u), .int (nI la), .int (nI le), .long lk, .int (nI ls), .long lw])), (l1, .inl (.byte, 1024, .inl (fun q => sb_b (L q)))), (xb, .inr (0, [.ref y, .ref s, .ref t, .int w])), (y, .inl (.byte, M * 32, .inl (fun q => sb_b (D q)))), (s, .inl (.int, M, .inl S)), (t, .inl (.int, M, .inl T)), (xr, .inr (4, [.ref xb, rt, .int (nI (b2n rb)), .int (nI ra), .int rft, .long rk, .int (nI rs), .long rv])), (xt, .inl (.object "RunStore$Table", 16, .inr (.inr (.inr (.inr rf))))), (xg, .inr (2, [.ref g1, .ref g2, .ref g3, .int (nI Gn)])), (g1, .inl (.long, NG, .inr (.inl GK))), (g2, .inl (.int, NG, .inl (fun q => nI (Gz q)))), (g3, .inl (.long, NG, .inr (.inl GV))), (h, .inr (6, [.int th, .int (nI M), .int (nI n), .ref y1, .ref y2, .ref y3, .int (nI u), .ref y4, .ref y5, .ref y6, .ref y7, .int (nI c), .ref y8, .ref y9, .ref y10, .ref y11, .ref y12, .int bd, .int w, .int ps, .int (nI pa), .int lc, .int (nI (b2n fb)), .long ek, .long ev, .int (nI el), .int (nI fn), .ref y13, .ref y14, .ref y15, .ref y16, .int (nI js), .ref y17, .int (nI (b2n ib))])), (y1, .inl (.long, 25, .inr (.inl K))), (y2, .inl (.long, 25, .inr (.inl V))), (y3, .inl (.int, 25, .inl (fun q => nI (z q)))), (y4, .inl (.int, 1024, .inl (fun q => nI (L q)))), (y5, .inl (.int, 4096, .inl (fun q => nI (D q)))), (y6, .inl (.int, 128, .inl S)), (y7, .inl (.boolean, 128, .inl Xt)), (y8, .inl (.int, 17, .inl (fun q => nI (lv q)))), (y9, .inl (.int, 17, .inl (fun q => nI (en q)))), (y10, .inl (.int, 17, .inl (fun q => nI (mn q)))), (y11, .inl (.int, 2176, .inl (fun q => nI (bk q)))), (y12, .inl (.long, 17, .inr (.inl fl))), (y13, .inl (.long, 500, .inr (.inl FK))), (y14, .inl (.long, 500, .inr (.inl FV))), (y15, .inl (.int, 500, .inl (fun q => nI (Fz q)))), (y16, .inl (.int, 4200, .inl (fun q => nI (J q)))), (y17, .inl (.int, 128, .inl (fun q => nI (pk q)))), (o, .inl (.long, 1, .inr (.inl O)))] rfl rfl hn ?_
    refine g_istore [(5, .int (nI 1)), (4, .int (nI ix)), (3, .ref o), (2, .ref h), (1, .ref x), (0, .ref b0)] X d_LW_law_759 (by decide) rfl ?_
    refine g_aload_n X d_LW_law_761 3 rfl ?_
    refine g_aload_n X d_LW_law_762 5 rfl ?_
    refine g_iload X d_LW_law_763 1 rfl ?_
    refine g_iconst (nI 1) X d_LW_law_765 (by decide) ?_
    refine g_iadd X d_LW_law_766 ?_
    refine g_vi (nI (ix + 1)) (nI_add _ _) ?_
    refine s_iald X hScr d_LW_law_767 (by omega) (by omega) ?_
    refine g_aload_n X d_LW_law_768 5 rfl ?_
    refine g_iload X d_LW_law_769 1 rfl ?_
    refine g_iconst (nI 2) X d_LW_law_771 (by decide) ?_
    refine g_iadd X d_LW_law_772 ?_
    refine g_vi (nI (ix + 2)) (nI_add _ _) ?_
    refine s_iald X hScr d_LW_law_773 (by omega) (by omega) ?_
    refine g_i2l X d_LW_law_774 ?_
    refine g_bipush (nI 32) X d_LW_law_775 (by decide) ?_
    refine g_lshl X d_LW_law_777 ?_
    refine g_aload_n X d_LW_law_778 5 rfl ?_
    refine g_iload X d_LW_law_779 1 rfl ?_
    refine g_iconst (nI 3) X d_LW_law_781 (by decide) ?_
    refine g_iadd X d_LW_law_782 ?_
    refine g_vi (nI (ix + 3)) (nI_add _ _) ?_
    refine s_iald X hScr d_LW_law_783 (by omega) (by omega) ?_
    refine g_i2l X d_LW_law_784 ?_
    refine g_ldc2 X d_LW_law_785 k_ct_LW_79 ?_
    refine g_land X d_LW_law_788 ?_
    refine g_lor X d_LW_law_789 ?_
    refine g_vl k (h_k) ?_
    refine g_callVf (As := [.int (xs (ix + 1)), .long k]) (st := []) X d_LW_law_790 (c_MD_may_no hst hnm hv hc16) (hl_ov 17 rfl hn) rfl rfl k_ml_LW_112 k_cd_MD_may k_in_MD k_im_MD_may k_se_MD_may ⟨by decide +kernel, by decide +kernel, (by decide +kernel : (parseMethodDescriptor "(IJ)Z").map (fun d => d.parameters.length) = some 2)⟩ ⟨by omega, by omega⟩ ⟨by omega, by omega⟩ (Nat.le_of_ble_eq_true rfl) (hg_ov hn [17, 29] rfl) hrx_0 (fun E g9 h => by obtain ⟨hv9, hg9⟩ := h; cases hv9) (fun v9 g9 hq hfr => ?_)
    obtain ⟨hv9, hg9⟩ := hq
    cases hv9
    subst hg9
    refine g_ovP [17, 29] [(x, .inr (5, [.ref xm, .ref xl, .ref xb, .ref xr, .ref xt, .int (nI c), .ref xg, .long sv, .int ps, .int bd])), (xm, .inr (2, [.ref m1, .ref m2, .ref m3, .int (nI n)])), (m1, .inl (.long, 24, .inr (.inl K))), (m2, .inl (.int, 24, .inl (fun q => nI (z q)))), (m3, .inl (.long, 24, .inr (.inl V))), (xl, .inr (1, [.ref l1, .int (nI u), .int (nI la), .int (nI le), .long lk, .int (nI ls), .long lw])), (l1, .inl (.byte, 1024, .inl (fun q => sb_b (L q)))), (xb, .inr (0, [.ref y, .ref s, .ref t, .int w])), (y, .inl (.byte, M * 32, .inl (fun q => sb_b (D q)))), (s, .inl (.int, M, .inl S)), (t, .inl (.int, M, .inl T)), (xr, .inr (4, [.ref xb, rt, .int (nI (b2n rb)), .int (nI ra), .int rft, .long rk, .int (nI rs), .long rv])), (xt, .inl (.object "RunStore$Table", 16, .inr (.inr (.inr (.inr rf))))), (xg, .inr (2, [.ref g1, .ref g2, .ref g3, .int (nI Gn)])), (g1, .inl (.long, NG, .inr (.inl GK))), (g2, .inl (.int, NG, .inl (fun q => nI (Gz q)))), (g3, .inl (.long, NG, .inr (.inl GV))), (h, .inr (6, [.int (nI 1), .int (nI M), .int (nI n), .ref y1, .ref y2, .ref y3, .int (nI u), .ref y4, .ref y5, .ref y6, .ref y7, .int (nI c), .ref y8, .ref y9, .ref y10, .ref y11, .ref y12, .int bd, .int w, .int ps, .int (nI pa), .int lc, .int (nI (b2n fb)), .long ek, .long ev, .int (nI el), .int (nI fn), .ref y13, .ref y14, .ref y15, .ref y16, .int (nI js), .ref y17, .int (nI (b2n ib))])), (y1, .inl (.long, 25, .inr (.inl K))), (y2, .inl (.long, 25, .inr (.inl V))), (y3, .inl (.int, 25, .inl (fun q => nI (z q)))), (y4, .inl (.int, 1024, .inl (fun q => nI (L q)))), (y5, .inl (.int, 4096, .inl (fun q => nI (D q)))), (y6, .inl (.int, 128, .inl S)), (y7, .inl (.boolean, 128, .inl Xt)), (y8, .inl (.int, 17, .inl (fun q => nI (lv q)))), (y9, .inl (.int, 17, .inl (fun q => nI (en q)))), (y10, .inl (.int, 17, .inl (fun q => nI (mn q)))), (y11, .inl (.int, 2176, .inl (fun q => nI (bk q)))), (y12, .inl (.long, 17, .inr (.inl fl))), (y13, .inl (.long, 500, .inr (.inl FK))), (y14, .inl (.long, 500, .inr (.inl FV))), (y15, .inl (.int, 500, .inl (fun q => nI (Fz q)))), (y16, .inl (.int, 4200, .inl (fun q => nI (J q)))), (y17, .inl (.int, 128, .inl (fun q => nI (pk q)))), (o, .inl (.long, 1, .inr (.inl O)))] rfl rfl hn ?_
    refine g_istore [(6, .int (nI 0)), (5, .int (nI 1)), (4, .int (nI ix)), (3, .ref o), (2, .ref h), (1, .ref x), (0, .ref b0)] X d_LW_law_793 (by decide) rfl ?_
    refine g_aload_n X d_LW_law_795 4 rfl ?_
    refine g_callVf (As := []) (st := []) X d_LW_law_796 (c_MD_thrown hst hnh) (hl_ov 17 rfl hn) rfl rfl k_ml_LW_85 k_cd_MD_thrown k_in_MD k_im_MD_thrown k_se_MD_thrown ⟨by decide +kernel, by decide +kernel, (by decide +kernel : (parseMethodDescriptor "()I").map (fun d => d.parameters.length) = some 0)⟩ ⟨by omega, by omega⟩ ⟨by omega, by omega⟩ (Nat.le_of_ble_eq_true rfl) (hg_ov hn [17] rfl) hrx_0 (fun E g9 h => by obtain ⟨hv9, hg9⟩ := h; cases hv9) (fun v9 g9 hq hfr => ?_)
    obtain ⟨hv9, hg9⟩ := hq
    cases hv9
    subst hg9
    refine g_ovP [17] [(x, .inr (5, [.ref xm, .ref xl, .ref xb, .ref xr, .ref xt, .int (nI c), .ref xg, .long sv, .int ps, .int bd])), (xm, .inr (2, [.ref m1, .ref m2, .ref m3, .int (nI n)])), (m1, .inl (.long, 24, .inr (.inl K))), (m2, .inl (.int, 24, .inl (fun q => nI (z q)))), (m3, .inl (.long, 24, .inr (.inl V))), (xl, .inr (1, [.ref l1, .int (nI u), .int (nI la), .int (nI le), .long lk, .int (nI ls), .long lw])), (l1, .inl (.byte, 1024, .inl (fun q => sb_b (L q)))), (xb, .inr (0, [.ref y, .ref s, .ref t, .int w])), (y, .inl (.byte, M * 32, .inl (fun q => sb_b (D q)))), (s, .inl (.int, M, .inl S)), (t, .inl (.int, M, .inl T)), (xr, .inr (4, [.ref xb, rt, .int (nI (b2n rb)), .int (nI ra), .int rft, .long rk, .int (nI rs), .long rv])), (xt, .inl (.object "RunStore$Table", 16, .inr (.inr (.inr (.inr rf))))), (xg, .inr (2, [.ref g1, .ref g2, .ref g3, .int (nI Gn)])), (g1, .inl (.long, NG, .inr (.inl GK))), (g2, .inl (.int, NG, .inl (fun q => nI (Gz q)))), (g3, .inl (.long, NG, .inr (.inl GV))), (h, .inr (6, [.int (nI 1), .int (nI M), .int (nI n), .ref y1, .ref y2, .ref y3, .int (nI u), .ref y4, .ref y5, .ref y6, .ref y7, .int (nI c), .ref y8, .ref y9, .ref y10, .ref y11, .ref y12, .int bd, .int w, .int ps, .int (nI pa), .int lc, .int (nI (b2n fb)), .long ek, .long ev, .int (nI el), .int (nI fn), .ref y13, .ref y14, .ref y15, .ref y16, .int (nI js), .ref y17, .int (nI (b2n ib))])), (y1, .inl (.long, 25, .inr (.inl K))), (y2, .inl (.long, 25, .inr (.inl V))), (y3, .inl (.int, 25, .inl (fun q => nI (z q)))), (y4, .inl (.int, 1024, .inl (fun q => nI (L q)))), (y5, .inl (.int, 4096, .inl (fun q => nI (D q)))), (y6, .inl (.int, 128, .inl S)), (y7, .inl (.boolean, 128, .inl Xt)), (y8, .inl (.int, 17, .inl (fun q => nI (lv q)))), (y9, .inl (.int, 17, .inl (fun q => nI (en q)))), (y10, .inl (.int, 17, .inl (fun q => nI (mn q)))), (y11, .inl (.int, 2176, .inl (fun q => nI (bk q)))), (y12, .inl (.long, 17, .inr (.inl fl))), (y13, .inl (.long, 500, .inr (.inl FK))), (y14, .inl (.long, 500, .inr (.inl FV))), (y15, .inl (.int, 500, .inl (fun q => nI (Fz q)))), (y16, .inl (.int, 4200, .inl (fun q => nI (J q)))), (y17, .inl (.int, 128, .inl (fun q => nI (pk q)))), (o, .inl (.long, 1, .inr (.inl O)))] rfl rfl hn ?_
    refine g_iload X d_LW_law_799 1 rfl ?_
    refine g_icmp_eq 806 X d_LW_law_801 (by decide) (fun h801 => ?_) (fun h801 => ?_)
    · have h801 := cv_eq (by omega) (by omega) h801
      refine g_iload X d_LW_law_806 1 rfl ?_
      refine g_if_ne 830 X d_LW_law_808 (by decide) (fun h808 => ?_) (fun h808 => ?_)
      · have h808 := cv_n0 (by omega) h808
        refine g_goto 1292 X d_LW_law_830 (by decide) ?_
        refine g_lv [2, 3, 4, 5, 6] [(4, .int (nI ix)), (3, .ref o), (2, .ref h), (1, .ref x), (0, .ref b0)] rfl ?_
        refine g_widen (ce' := ce + 5) (sl' := sl + 150) (by omega) (by omega) ?_
        exact kk _ ⟨_, _, _, _, _, _, _, _, _, _, _, _, _, _, _, _, _, _, _, _, _, _, _, _, _, _, _, _, _, _, _, _, _, _, _, _, _, _, _, _, _, _, _, _, _, _, _, _, _, _, _, _, _, _, _, _, _, rfl, hn24, hs, hz, hu, hL, hD, hc16, hP, hI, hB, hX, hPd⟩
      · have h808 := cv_e0 (by omega) h808
        omega
    · have h801 := cv_ne (by omega) (by omega) h801
      omega

set_option maxRecDepth 100000 in
set_option maxHeartbeats 4000000 in
theorem law_crash {mp : Program} {l : Launch} {me : Env} {mR : Room} {sm : State} {mm : MethodId} {margs : Array Value} {mbel : List Frame} {mmet : Method} {mcod : Code} {mD : va_G} {f9 : fh_M} {Q9 : State → Prop} {ce sl b0 Ls ix : Nat} {xs : Nat → Int32} (X : fh_X mp l sm mm margs mmet mcod mD fhCl fhT f9 (hp []) y_LW_law.cls b_LW_law 8) (hScr : lwX sm f9 b0 Ls xs) (hst : l.stackTraces = false) (hNw : lwN sm) (hRf : 12 ≤ mR.frames) (hRl : 438 ≤ mR.locals) (hRc : ce + 5 ≤ mR.cells) (hRs : sl + 150 ≤ mR.slots) {M NG x xm m1 m2 m3 xl l1 xb y s t xr xt xg g1 g2 g3 h y1 y2 y3 y4 y5 y6 y7 y8 y9 y10 y11 y12 y13 y14 y15 y16 y17 o : Nat} (hM4 : 4 ≤ M) (hM : M ≤ 128) (hNGe : NG = 24 + M * 32 / 9) (hn : [x, xm, m1, m2, m3, xl, l1, xb, y, s, t, xr, xt, xg, g1, g2, g3, h, y1, y2, y3, y4, y5, y6, y7, y8, y9, y10, y11, y12, y13, y14, y15, y16, y17, o].Nodup) (hLs : Ls ≤ 3073) (hix : ix + 5 < Ls) {f : fh_M} (hS : lwS M NG x xm m1 m2 m3 xl l1 xb y s t xr xt xg g1 g2 g3 h y1 y2 y3 y4 y5 y6 y7 y8 y9 y10 y11 y12 y13 y14 y15 y16 y17 o f)  (kk : ∀ f, lwS M NG x xm m1 m2 m3 xl l1 xb y s t xr xt xg g1 g2 g3 h y1 y2 y3 y4 y5 y6 y7 y8 y9 y10 y11 y12 y13 y14 y15 y16 y17 o f → fh_G mp l me mR sm mm margs mbel mmet mcod mD fhCl f9 8 Q9 (ce + 5) (sl + 150) f 1292 [(4, .int (nI ix)), (3, .ref o), (2, .ref h), (1, .ref x), (0, .ref b0)] []) : fh_G mp l me mR sm mm margs mbel mmet mcod mD fhCl f9 8 Q9 (ce) (sl) f 1161 [(4, .int (nI ix)), (3, .ref o), (2, .ref h), (1, .ref x), (0, .ref b0)] [] := by
  refine lwS_elim (C9 := fun f => fh_G mp l me mR sm mm margs mbel mmet mcod mD fhCl f9 8 Q9 (ce) (sl) f 1161 [(4, .int (nI ix)), (3, .ref o), (2, .ref h), (1, .ref x), (0, .ref b0)] []) hS (fun K z V n L u D S T tb c ps bd w sv la le lk ls lw rt rb ra rft rk rs rv rf tq ti P GK Gz GV Gn th pa lc fb ek ev el fn js ib Xt lv en mn fl bk FK FV Fz J pk O hn24 hs hz hu hL hD hc16 hP hI hB hX hPd => ?_)
  show fh_G mp l me mR sm mm margs mbel mmet mcod mD fhCl f9 8 Q9 (ce) (sl) (fh_ov (hp [(x, .inr (5, [.ref xm, .ref xl, .ref xb, .ref xr, .ref xt, .int (nI c), .ref xg, .long sv, .int ps, .int bd])), (xm, .inr (2, [.ref m1, .ref m2, .ref m3, .int (nI n)])), (m1, .inl (.long, 24, .inr (.inl K))), (m2, .inl (.int, 24, .inl (fun q => nI (z q)))), (m3, .inl (.long, 24, .inr (.inl V))), (xl, .inr (1, [.ref l1, .int (nI u), .int (nI la), .int (nI le), .long lk, .int (nI ls), .long lw])), (l1, .inl (.byte, 1024, .inl (fun q => sb_b (L q)))), (xb, .inr (0, [.ref y, .ref s, .ref t, .int w])), (y, .inl (.byte, M * 32, .inl (fun q => sb_b (D q)))), (s, .inl (.int, M, .inl S)), (t, .inl (.int, M, .inl T)), (xr, .inr (4, [.ref xb, rt, .int (nI (b2n rb)), .int (nI ra), .int rft, .long rk, .int (nI rs), .long rv])), (xt, .inl (.object "RunStore$Table", 16, .inr (.inr (.inr (.inr rf))))), (xg, .inr (2, [.ref g1, .ref g2, .ref g3, .int (nI Gn)])), (g1, .inl (.long, NG, .inr (.inl GK))), (g2, .inl (.int, NG, .inl (fun q => nI (Gz q)))), (g3, .inl (.long, NG, .inr (.inl GV))), (h, .inr (6, [.int th, .int (nI M), .int (nI n), .ref y1, .ref y2, .ref y3, .int (nI u), .ref y4, .ref y5, .ref y6, .ref y7, .int (nI c), .ref y8, .ref y9, .ref y10, .ref y11, .ref y12, .int bd, .int w, .int ps, .int (nI pa), .int lc, .int (nI (b2n fb)), .long ek, .long ev, .int (nI el), .int (nI fn), .ref y13, .ref y14, .ref y15, .ref y16, .int (nI js), .ref y17, .int (nI (b2n ib))])), (y1, .inl (.long, 25, .inr (.inl K))), (y2, .inl (.long, 25, .inr (.inl V))), (y3, .inl (.int, 25, .inl (fun q => nI (z q)))), (y4, .inl (.int, 1024, .inl (fun q => nI (L q)))), (y5, .inl (.int, 4096, .inl (fun q => nI (D q)))), (y6, .inl (.int, 128, .inl S)), (y7, .inl (.boolean, 128, .inl Xt)), (y8, .inl (.int, 17, .inl (fun q => nI (lv q)))), (y9, .inl (.int, 17, .inl (fun q => nI (en q)))), (y10, .inl (.int, 17, .inl (fun q => nI (mn q)))), (y11, .inl (.int, 2176, .inl (fun q => nI (bk q)))), (y12, .inl (.long, 17, .inr (.inl fl))), (y13, .inl (.long, 500, .inr (.inl FK))), (y14, .inl (.long, 500, .inr (.inl FV))), (y15, .inl (.int, 500, .inl (fun q => nI (Fz q)))), (y16, .inl (.int, 4200, .inl (fun q => nI (J q)))), (y17, .inl (.int, 128, .inl (fun q => nI (pk q)))), (o, .inl (.long, 1, .inr (.inl O)))]) P) 1161 [(4, .int (nI ix)), (3, .ref o), (2, .ref h), (1, .ref x), (0, .ref b0)] []
  have hnh : [h].Nodup := nd_pick [x, xm, m1, m2, m3, xl, l1, xb, y, s, t, xr, xt, xg, g1, g2, g3, h, y1, y2, y3, y4, y5, y6, y7, y8, y9, y10, y11, y12, y13, y14, y15, y16, y17, o] [17] 36 hn (by decide) rfl (by decide)
  have hnm : [h, y1, y2, y3, y4].Nodup := nd_pick [x, xm, m1, m2, m3, xl, l1, xb, y, s, t, xr, xt, xg, g1, g2, g3, h, y1, y2, y3, y4, y5, y6, y7, y8, y9, y10, y11, y12, y13, y14, y15, y16, y17, o] [17, 18, 19, 20, 21] 36 hn (by decide) rfl (by decide)
  obtain ⟨wm, h_wm⟩ : ∃ wm, xs (ix + 3) = wm := ⟨_, rfl⟩
  rcases rng (xs (ix + 1)) (b := u) (by omega) with ⟨a, ha, hv⟩ | hv
  · rcases rngm (xs (ix + 2)) (a := a) (by omega) with hw9 | ⟨j, hj, hw9⟩ | hw9
    · have hr9 := redo_ok (B := L) (u := a) 1024 (K, z, V, 0) 0 ⟨fun i j h1 h2 => absurd h2 (Nat.not_lt_zero _), fun i hi => absurd hi (Nat.not_lt_zero _)⟩ (Nat.zero_le _) (Nat.zero_le _)
      have hn9 : [x, xm, m1, m2, m3, xl, l1, o].Nodup := nd_pick [x, xm, m1, m2, m3, xl, l1, xb, y, s, t, xr, xt, xg, g1, g2, g3, h, y1, y2, y3, y4, y5, y6, y7, y8, y9, y10, y11, y12, y13, y14, y15, y16, y17, o] [0, 1, 2, 3, 4, 5, 6, 35] 36 hn (by decide) rfl (by decide)
      refine g_aload_n X d_LW_law_1161 3 rfl ?_
      refine g_aload_n X d_LW_law_1162 4 rfl ?_
      refine g_iload X d_LW_law_1163 0 rfl ?_
      refine g_iconst (nI 1) X d_LW_law_1165 (by decide) ?_
      refine g_iadd X d_LW_law_1166 ?_
      refine g_vi (nI (ix + 1)) (nI_add _ _) ?_
      refine s_iald X hScr d_LW_law_1167 (by omega) (by omega) ?_
      refine g_vi (nI a) hv ?_
      refine g_aload_n X d_LW_law_1168 4 rfl ?_
      refine g_iload X d_LW_law_1169 0 rfl ?_
      refine g_iconst (nI 2) X d_LW_law_1171 (by decide) ?_
      refine g_iadd X d_LW_law_1172 ?_
      refine g_vi (nI (ix + 2)) (nI_add _ _) ?_
      refine s_iald X hScr d_LW_law_1173 (by omega) (by omega) ?_
      refine g_vi (-1) hw9 ?_
      refine g_aload_n X d_LW_law_1174 4 rfl ?_
      refine g_iload X d_LW_law_1175 0 rfl ?_
      refine g_iconst (nI 3) X d_LW_law_1177 (by decide) ?_
      refine g_iadd X d_LW_law_1178 ?_
      refine g_vi (nI (ix + 3)) (nI_add _ _) ?_
      refine s_iald X hScr d_LW_law_1179 (by omega) (by omega) ?_
      refine g_vi wm h_wm ?_
      refine g_aload_n X d_LW_law_1180 1 rfl ?_
      refine g_callSW (As := [.ref x, .int (nI a), .int (-1), .int wm, .ref o]) (st := []) X d_LW_law_1181 (c_LW_crash_cut hst hs hn24 hL hu hn9 ha) lwN_s hNw rfl k_ml_LW_130 k_cd_LW_crash k_in_LW k_st_LW_crash ⟨by decide +kernel, by decide +kernel, (by decide +kernel : (parseMethodDescriptor "(LRunStore;III[J)I").map (fun d => d.parameters.length) = some 5)⟩ ⟨by omega, by omega⟩ ⟨by omega, by omega⟩ (Nat.le_of_ble_eq_true rfl) (hg_ov hn [0, 1, 2, 3, 4, 5, 6, 35] rfl) hrx_0 (fun E g9 h => by obtain ⟨a1, e1, s1, k1, v1, hv9, hg9⟩ := h; cases hv9) (fun v9 g9 hq hfr => ?_)
      obtain ⟨a1, e1, s1, k1, v1, hv9, hg9⟩ := hq
      cases hv9
      subst hg9
      refine g_ovP [0, 1, 2, 3, 4, 5, 6, 35] [(x, .inr (5, [.ref xm, .ref xl, .ref xb, .ref xr, .ref xt, .int (nI c), .ref xg, .long sv, .int ps, .int bd])), (xm, .inr (2, [.ref m1, .ref m2, .ref m3, .int (nI ((redo L a 24 1024 (K, z, V, 0) 0).1.2.2.2))])), (m1, .inl (.long, 24, .inr (.inl ((redo L a 24 1024 (K, z, V, 0) 0).1.1)))), (m2, .inl (.int, 24, .inl (fun q => nI (((redo L a 24 1024 (K, z, V, 0) 0).1.2.1) q)))), (m3, .inl (.long, 24, .inr (.inl ((redo L a 24 1024 (K, z, V, 0) 0).1.2.2.1)))), (xl, .inr (1, [.ref l1, .int (nI ((redo L a 24 1024 (K, z, V, 0) 0).2)), .int (nI a1), .int (nI e1), .long k1, .int (nI s1), .long v1])), (l1, .inl (.byte, 1024, .inl (fun q => sb_b (L q)))), (xb, .inr (0, [.ref y, .ref s, .ref t, .int w])), (y, .inl (.byte, M * 32, .inl (fun q => sb_b (D q)))), (s, .inl (.int, M, .inl S)), (t, .inl (.int, M, .inl T)), (xr, .inr (4, [.ref xb, rt, .int (nI (b2n rb)), .int (nI ra), .int rft, .long rk, .int (nI rs), .long rv])), (xt, .inl (.object "RunStore$Table", 16, .inr (.inr (.inr (.inr rf))))), (xg, .inr (2, [.ref g1, .ref g2, .ref g3, .int (nI Gn)])), (g1, .inl (.long, NG, .inr (.inl GK))), (g2, .inl (.int, NG, .inl (fun q => nI (Gz q)))), (g3, .inl (.long, NG, .inr (.inl GV))), (h, .inr (6, [.int th, .int (nI M), .int (nI n), .ref y1, .ref y2, .ref y3, .int (nI u), .ref y4, .ref y5, .ref y6, .ref y7, .int (nI c), .ref y8, .ref y9, .ref y10, .ref y11, .ref y12, .int bd, .int w, .int ps, .int (nI pa), .int lc, .int (nI (b2n fb)), .long ek, .long ev, .int (nI el), .int (nI fn), .ref y13, .ref y14, .ref y15, .ref y16, .int (nI js), .ref y17, .int (nI (b2n ib))])), (y1, .inl (.long, 25, .inr (.inl K))), (y2, .inl (.long, 25, .inr (.inl V))), (y3, .inl (.int, 25, .inl (fun q => nI (z q)))), (y4, .inl (.int, 1024, .inl (fun q => nI (L q)))), (y5, .inl (.int, 4096, .inl (fun q => nI (D q)))), (y6, .inl (.int, 128, .inl S)), (y7, .inl (.boolean, 128, .inl Xt)), (y8, .inl (.int, 17, .inl (fun q => nI (lv q)))), (y9, .inl (.int, 17, .inl (fun q => nI (en q)))), (y10, .inl (.int, 17, .inl (fun q => nI (mn q)))), (y11, .inl (.int, 2176, .inl (fun q => nI (bk q)))), (y12, .inl (.long, 17, .inr (.inl fl))), (y13, .inl (.long, 500, .inr (.inl FK))), (y14, .inl (.long, 500, .inr (.inl FV))), (y15, .inl (.int, 500, .inl (fun q => nI (Fz q)))), (y16, .inl (.int, 4200, .inl (fun q => nI (J q)))), (y17, .inl (.int, 128, .inl (fun q => nI (pk q)))), (o, .inl (.long, 1, .inr (.inl (va_up O 0 ((nI (redo L a 24 1024 (K, z, V, 0) 0).1.2.2.2).toInt64)))))] rfl rfl hn ?_
      refine g_istore [(5, .int (nI 0)), (4, .int (nI ix)), (3, .ref o), (2, .ref h), (1, .ref x), (0, .ref b0)] X d_LW_law_1184 (by decide) rfl ?_
      refine g_aload_n X d_LW_law_1186 3 rfl ?_
      refine g_aload_n X d_LW_law_1187 5 rfl ?_
      refine g_iload X d_LW_law_1188 1 rfl ?_
      refine g_iconst (nI 1) X d_LW_law_1190 (by decide) ?_
      refine g_iadd X d_LW_law_1191 ?_
      refine g_vi (nI (ix + 1)) (nI_add _ _) ?_
      refine s_iald X hScr d_LW_law_1192 (by omega) (by omega) ?_
      refine g_vi (nI a) hv ?_
      refine g_aload_n X d_LW_law_1193 5 rfl ?_
      refine g_iload X d_LW_law_1194 1 rfl ?_
      refine g_iconst (nI 2) X d_LW_law_1196 (by decide) ?_
      refine g_iadd X d_LW_law_1197 ?_
      refine g_vi (nI (ix + 2)) (nI_add _ _) ?_
      refine s_iald X hScr d_LW_law_1198 (by omega) (by omega) ?_
      refine g_vi (-1) hw9 ?_
      refine g_aload_n X d_LW_law_1199 5 rfl ?_
      refine g_iload X d_LW_law_1200 1 rfl ?_
      refine g_iconst (nI 3) X d_LW_law_1202 (by decide) ?_
      refine g_iadd X d_LW_law_1203 ?_
      refine g_vi (nI (ix + 3)) (nI_add _ _) ?_
      refine s_iald X hScr d_LW_law_1204 (by omega) (by omega) ?_
      refine g_vi wm h_wm ?_
      refine g_callVf (As := [.int (nI a), .int (-1), .int wm]) (st := []) X d_LW_law_1205 (c_MD_crash_cut hst hnm ha hu hL) (hl_ov 17 rfl hn) rfl rfl k_ml_LW_132 k_cd_MD_crash k_in_MD k_im_MD_crash k_se_MD_crash ⟨by decide +kernel, by decide +kernel, (by decide +kernel : (parseMethodDescriptor "(III)I").map (fun d => d.parameters.length) = some 3)⟩ ⟨by omega, by omega⟩ ⟨by omega, by omega⟩ (Nat.le_of_ble_eq_true rfl) (hg_ov hn [17, 18, 19, 20, 21] rfl) hrx_0 (fun E g9 h => by obtain ⟨hv9, hg9⟩ := h; cases hv9) (fun v9 g9 hq hfr => ?_)
      obtain ⟨hv9, hg9⟩ := hq
      cases hv9
      subst hg9
      refine g_ovP [17, 18, 19, 20, 21] [(x, .inr (5, [.ref xm, .ref xl, .ref xb, .ref xr, .ref xt, .int (nI c), .ref xg, .long sv, .int ps, .int bd])), (xm, .inr (2, [.ref m1, .ref m2, .ref m3, .int (nI ((redo L a 24 1024 (K, z, V, 0) 0).1.2.2.2))])), (m1, .inl (.long, 24, .inr (.inl ((redo L a 24 1024 (K, z, V, 0) 0).1.1)))), (m2, .inl (.int, 24, .inl (fun q => nI (((redo L a 24 1024 (K, z, V, 0) 0).1.2.1) q)))), (m3, .inl (.long, 24, .inr (.inl ((redo L a 24 1024 (K, z, V, 0) 0).1.2.2.1)))), (xl, .inr (1, [.ref l1, .int (nI ((redo L a 24 1024 (K, z, V, 0) 0).2)), .int (nI a1), .int (nI e1), .long k1, .int (nI s1), .long v1])), (l1, .inl (.byte, 1024, .inl (fun q => sb_b (L q)))), (xb, .inr (0, [.ref y, .ref s, .ref t, .int w])), (y, .inl (.byte, M * 32, .inl (fun q => sb_b (D q)))), (s, .inl (.int, M, .inl S)), (t, .inl (.int, M, .inl T)), (xr, .inr (4, [.ref xb, rt, .int (nI (b2n rb)), .int (nI ra), .int rft, .long rk, .int (nI rs), .long rv])), (xt, .inl (.object "RunStore$Table", 16, .inr (.inr (.inr (.inr rf))))), (xg, .inr (2, [.ref g1, .ref g2, .ref g3, .int (nI Gn)])), (g1, .inl (.long, NG, .inr (.inl GK))), (g2, .inl (.int, NG, .inl (fun q => nI (Gz q)))), (g3, .inl (.long, NG, .inr (.inl GV))), (h, .inr (6, [.int (nI 0), .int (nI M), .int (nI ((redo L a 24 1024 (K, z, V, 0) 0).1.2.2.2)), .ref y1, .ref y2, .ref y3, .int (nI ((redo L a 24 1024 (K, z, V, 0) 0).2)), .ref y4, .ref y5, .ref y6, .ref y7, .int (nI c), .ref y8, .ref y9, .ref y10, .ref y11, .ref y12, .int bd, .int w, .int ps, .int (nI pa), .int lc, .int (nI (b2n fb)), .long ek, .long ev, .int (nI el), .int (nI fn), .ref y13, .ref y14, .ref y15, .ref y16, .int (nI js), .ref y17, .int (nI (b2n ib))])), (y1, .inl (.long, 25, .inr (.inl ((redo L a 24 1024 (K, z, V, 0) 0).1.1)))), (y2, .inl (.long, 25, .inr (.inl ((redo L a 24 1024 (K, z, V, 0) 0).1.2.2.1)))), (y3, .inl (.int, 25, .inl (fun q => nI (((redo L a 24 1024 (K, z, V, 0) 0).1.2.1) q)))), (y4, .inl (.int, 1024, .inl (fun q => nI (L q)))), (y5, .inl (.int, 4096, .inl (fun q => nI (D q)))), (y6, .inl (.int, 128, .inl S)), (y7, .inl (.boolean, 128, .inl Xt)), (y8, .inl (.int, 17, .inl (fun q => nI (lv q)))), (y9, .inl (.int, 17, .inl (fun q => nI (en q)))), (y10, .inl (.int, 17, .inl (fun q => nI (mn q)))), (y11, .inl (.int, 2176, .inl (fun q => nI (bk q)))), (y12, .inl (.long, 17, .inr (.inl fl))), (y13, .inl (.long, 500, .inr (.inl FK))), (y14, .inl (.long, 500, .inr (.inl FV))), (y15, .inl (.int, 500, .inl (fun q => nI (Fz q)))), (y16, .inl (.int, 4200, .inl (fun q => nI (J q)))), (y17, .inl (.int, 128, .inl (fun q => nI (pk q)))), (o, .inl (.long, 1, .inr (.inl (va_up O 0 ((nI (redo L a 24 1024 (K, z, V, 0) 0).1.2.2.2).toInt64)))))] rfl rfl hn ?_
      refine g_istore [(6, .int (nI ((redo L a 24 1024 (K, z, V, 0) 0).1.2.2.2))), (5, .int (nI 0)), (4, .int (nI ix)), (3, .ref o), (2, .ref h), (1, .ref x), (0, .ref b0)] X d_LW_law_1208 (by decide) rfl ?_
      refine g_aload_n X d_LW_law_1210 4 rfl ?_
      refine g_callVf (As := []) (st := []) X d_LW_law_1211 (c_MD_thrown hst hnh) (hl_ov 17 rfl hn) rfl rfl k_ml_LW_85 k_cd_MD_thrown k_in_MD k_im_MD_thrown k_se_MD_thrown ⟨by decide +kernel, by decide +kernel, (by decide +kernel : (parseMethodDescriptor "()I").map (fun d => d.parameters.length) = some 0)⟩ ⟨by omega, by omega⟩ ⟨by omega, by omega⟩ (Nat.le_of_ble_eq_true rfl) (hg_ov hn [17] rfl) hrx_0 (fun E g9 h => by obtain ⟨hv9, hg9⟩ := h; cases hv9) (fun v9 g9 hq hfr => ?_)
      obtain ⟨hv9, hg9⟩ := hq
      cases hv9
      subst hg9
      refine g_ovP [17] [(x, .inr (5, [.ref xm, .ref xl, .ref xb, .ref xr, .ref xt, .int (nI c), .ref xg, .long sv, .int ps, .int bd])), (xm, .inr (2, [.ref m1, .ref m2, .ref m3, .int (nI ((redo L a 24 1024 (K, z, V, 0) 0).1.2.2.2))])), (m1, .inl (.long, 24, .inr (.inl ((redo L a 24 1024 (K, z, V, 0) 0).1.1)))), (m2, .inl (.int, 24, .inl (fun q => nI (((redo L a 24 1024 (K, z, V, 0) 0).1.2.1) q)))), (m3, .inl (.long, 24, .inr (.inl ((redo L a 24 1024 (K, z, V, 0) 0).1.2.2.1)))), (xl, .inr (1, [.ref l1, .int (nI ((redo L a 24 1024 (K, z, V, 0) 0).2)), .int (nI a1), .int (nI e1), .long k1, .int (nI s1), .long v1])), (l1, .inl (.byte, 1024, .inl (fun q => sb_b (L q)))), (xb, .inr (0, [.ref y, .ref s, .ref t, .int w])), (y, .inl (.byte, M * 32, .inl (fun q => sb_b (D q)))), (s, .inl (.int, M, .inl S)), (t, .inl (.int, M, .inl T)), (xr, .inr (4, [.ref xb, rt, .int (nI (b2n rb)), .int (nI ra), .int rft, .long rk, .int (nI rs), .long rv])), (xt, .inl (.object "RunStore$Table", 16, .inr (.inr (.inr (.inr rf))))), (xg, .inr (2, [.ref g1, .ref g2, .ref g3, .int (nI Gn)])), (g1, .inl (.long, NG, .inr (.inl GK))), (g2, .inl (.int, NG, .inl (fun q => nI (Gz q)))), (g3, .inl (.long, NG, .inr (.inl GV))), (h, .inr (6, [.int (nI 0), .int (nI M), .int (nI ((redo L a 24 1024 (K, z, V, 0) 0).1.2.2.2)), .ref y1, .ref y2, .ref y3, .int (nI ((redo L a 24 1024 (K, z, V, 0) 0).2)), .ref y4, .ref y5, .ref y6, .ref y7, .int (nI c), .ref y8, .ref y9, .ref y10, .ref y11, .ref y12, .int bd, .int w, .int ps, .int (nI pa), .int lc, .int (nI (b2n fb)), .long ek, .long ev, .int (nI el), .int (nI fn), .ref y13, .ref y14, .ref y15, .ref y16, .int (nI js), .ref y17, .int (nI (b2n ib))])), (y1, .inl (.long, 25, .inr (.inl ((redo L a 24 1024 (K, z, V, 0) 0).1.1)))), (y2, .inl (.long, 25, .inr (.inl ((redo L a 24 1024 (K, z, V, 0) 0).1.2.2.1)))), (y3, .inl (.int, 25, .inl (fun q => nI (((redo L a 24 1024 (K, z, V, 0) 0).1.2.1) q)))), (y4, .inl (.int, 1024, .inl (fun q => nI (L q)))), (y5, .inl (.int, 4096, .inl (fun q => nI (D q)))), (y6, .inl (.int, 128, .inl S)), (y7, .inl (.boolean, 128, .inl Xt)), (y8, .inl (.int, 17, .inl (fun q => nI (lv q)))), (y9, .inl (.int, 17, .inl (fun q => nI (en q)))), (y10, .inl (.int, 17, .inl (fun q => nI (mn q)))), (y11, .inl (.int, 2176, .inl (fun q => nI (bk q)))), (y12, .inl (.long, 17, .inr (.inl fl))), (y13, .inl (.long, 500, .inr (.inl FK))), (y14, .inl (.long, 500, .inr (.inl FV))), (y15, .inl (.int, 500, .inl (fun q => nI (Fz q)))), (y16, .inl (.int, 4200, .inl (fun q => nI (J q)))), (y17, .inl (.int, 128, .inl (fun q => nI (pk q)))), (o, .inl (.long, 1, .inr (.inl (va_up O 0 ((nI (redo L a 24 1024 (K, z, V, 0) 0).1.2.2.2).toInt64)))))] rfl rfl hn ?_
      refine g_iload X d_LW_law_1214 1 rfl ?_
      refine g_icmp_eq 1221 X d_LW_law_1216 (by decide) (fun h1216 => ?_) (fun h1216 => ?_)
      · have h1216 := cv_eq (by omega) (by omega) h1216
        refine g_iload X d_LW_law_1221 1 rfl ?_
        refine g_if_ne 1238 X d_LW_law_1223 (by decide) (fun h1223 => ?_) (fun h1223 => ?_)
        · have h1223 := cv_n0 (by omega) h1223
          omega
        · have h1223 := cv_e0 (by omega) h1223
          refine g_aload_n X d_LW_law_1226 3 rfl ?_
          refine g_iconst (nI 0) X d_LW_law_1227 (by decide) ?_
          refine h_lald X d_LW_law_1228 (hl_ov 35 rfl hn) (by omega) (by omega) ?_
          refine g_iload X d_LW_law_1229 0 rfl ?_
          refine g_i2l X d_LW_law_1231 ?_
          refine g_lcmp X d_LW_law_1232 ?_
          refine g_if_eq 1238 X d_LW_law_1233 (by decide) (fun h1233 => ?_) (fun h1233 => ?_)
          · have h1233 := (lg_cmp_eq ((va_up O 0 ((nI (redo L a 24 1024 (K, z, V, 0) 0).1.2.2.2).toInt64)) 0) ((nI ((redo L a 24 1024 (K, z, V, 0) 0).1.2.2.2)).toInt64)).mp h1233
            refine g_goto 1292 X d_LW_law_1238 (by decide) ?_
            refine g_lv [2, 3, 4, 5, 6] [(4, .int (nI ix)), (3, .ref o), (2, .ref h), (1, .ref x), (0, .ref b0)] rfl ?_
            refine g_widen (ce' := ce + 5) (sl' := sl + 150) (by omega) (by omega) ?_
            exact kk _ ⟨_, _, _, _, _, _, _, _, _, _, _, _, _, _, _, _, _, _, _, _, _, _, _, _, _, _, _, _, _, _, _, _, _, _, _, _, _, _, _, _, _, _, _, _, _, _, _, _, _, _, _, _, _, _, _, _, _, rfl, hr9.2.1, hr9.1.1, hr9.1.2, (by have := hr9.2.2; omega), hL, hD, hc16, hP, hI, hB, hX, hPd⟩
          · have h1233 := fun z8 => h1233 ((lg_cmp_eq ((va_up O 0 ((nI (redo L a 24 1024 (K, z, V, 0) 0).1.2.2.2).toInt64)) 0) ((nI ((redo L a 24 1024 (K, z, V, 0) 0).1.2.2.2)).toInt64)).mpr z8)
            exact absurd (va_up_self _ _ _) h1233
      · have h1216 := cv_ne (by omega) (by omega) h1216
        omega
    · have hr9 := redo_ok (B := (va_up L j (xrb (L j) wm))) (u := a) 1024 (K, z, V, 0) 0 ⟨fun i j h1 h2 => absurd h2 (Nat.not_lt_zero _), fun i hi => absurd hi (Nat.not_lt_zero _)⟩ (Nat.zero_le _) (Nat.zero_le _)
      have hn9 : [x, xm, m1, m2, m3, xl, l1, o].Nodup := nd_pick [x, xm, m1, m2, m3, xl, l1, xb, y, s, t, xr, xt, xg, g1, g2, g3, h, y1, y2, y3, y4, y5, y6, y7, y8, y9, y10, y11, y12, y13, y14, y15, y16, y17, o] [0, 1, 2, 3, 4, 5, 6, 35] 36 hn (by decide) rfl (by decide)
      refine g_aload_n X d_LW_law_1161 3 rfl ?_
      refine g_aload_n X d_LW_law_1162 4 rfl ?_
      refine g_iload X d_LW_law_1163 0 rfl ?_
      refine g_iconst (nI 1) X d_LW_law_1165 (by decide) ?_
      refine g_iadd X d_LW_law_1166 ?_
      refine g_vi (nI (ix + 1)) (nI_add _ _) ?_
      refine s_iald X hScr d_LW_law_1167 (by omega) (by omega) ?_
      refine g_vi (nI a) hv ?_
      refine g_aload_n X d_LW_law_1168 4 rfl ?_
      refine g_iload X d_LW_law_1169 0 rfl ?_
      refine g_iconst (nI 2) X d_LW_law_1171 (by decide) ?_
      refine g_iadd X d_LW_law_1172 ?_
      refine g_vi (nI (ix + 2)) (nI_add _ _) ?_
      refine s_iald X hScr d_LW_law_1173 (by omega) (by omega) ?_
      refine g_vi (nI j) hw9 ?_
      refine g_aload_n X d_LW_law_1174 4 rfl ?_
      refine g_iload X d_LW_law_1175 0 rfl ?_
      refine g_iconst (nI 3) X d_LW_law_1177 (by decide) ?_
      refine g_iadd X d_LW_law_1178 ?_
      refine g_vi (nI (ix + 3)) (nI_add _ _) ?_
      refine s_iald X hScr d_LW_law_1179 (by omega) (by omega) ?_
      refine g_vi wm h_wm ?_
      refine g_aload_n X d_LW_law_1180 1 rfl ?_
      refine g_callSW (As := [.ref x, .int (nI a), .int (nI j), .int wm, .ref o]) (st := []) X d_LW_law_1181 (c_LW_crash_alter hst hs hn24 hL hu hn9 ha hj) lwN_s hNw rfl k_ml_LW_130 k_cd_LW_crash k_in_LW k_st_LW_crash ⟨by decide +kernel, by decide +kernel, (by decide +kernel : (parseMethodDescriptor "(LRunStore;III[J)I").map (fun d => d.parameters.length) = some 5)⟩ ⟨by omega, by omega⟩ ⟨by omega, by omega⟩ (Nat.le_of_ble_eq_true rfl) (hg_ov hn [0, 1, 2, 3, 4, 5, 6, 35] rfl) hrx_0 (fun E g9 h => by obtain ⟨a1, e1, s1, k1, v1, hv9, hg9⟩ := h; cases hv9) (fun v9 g9 hq hfr => ?_)
      obtain ⟨a1, e1, s1, k1, v1, hv9, hg9⟩ := hq
      cases hv9
      subst hg9
      refine g_ovP [0, 1, 2, 3, 4, 5, 6, 35] [(x, .inr (5, [.ref xm, .ref xl, .ref xb, .ref xr, .ref xt, .int (nI c), .ref xg, .long sv, .int ps, .int bd])), (xm, .inr (2, [.ref m1, .ref m2, .ref m3, .int (nI ((redo (va_up L j (xrb (L j) wm)) a 24 1024 (K, z, V, 0) 0).1.2.2.2))])), (m1, .inl (.long, 24, .inr (.inl ((redo (va_up L j (xrb (L j) wm)) a 24 1024 (K, z, V, 0) 0).1.1)))), (m2, .inl (.int, 24, .inl (fun q => nI (((redo (va_up L j (xrb (L j) wm)) a 24 1024 (K, z, V, 0) 0).1.2.1) q)))), (m3, .inl (.long, 24, .inr (.inl ((redo (va_up L j (xrb (L j) wm)) a 24 1024 (K, z, V, 0) 0).1.2.2.1)))), (xl, .inr (1, [.ref l1, .int (nI ((redo (va_up L j (xrb (L j) wm)) a 24 1024 (K, z, V, 0) 0).2)), .int (nI a1), .int (nI e1), .long k1, .int (nI s1), .long v1])), (l1, .inl (.byte, 1024, .inl (fun q => sb_b (((va_up L j (xrb (L j) wm))) q)))), (xb, .inr (0, [.ref y, .ref s, .ref t, .int w])), (y, .inl (.byte, M * 32, .inl (fun q => sb_b (D q)))), (s, .inl (.int, M, .inl S)), (t, .inl (.int, M, .inl T)), (xr, .inr (4, [.ref xb, rt, .int (nI (b2n rb)), .int (nI ra), .int rft, .long rk, .int (nI rs), .long rv])), (xt, .inl (.object "RunStore$Table", 16, .inr (.inr (.inr (.inr rf))))), (xg, .inr (2, [.ref g1, .ref g2, .ref g3, .int (nI Gn)])), (g1, .inl (.long, NG, .inr (.inl GK))), (g2, .inl (.int, NG, .inl (fun q => nI (Gz q)))), (g3, .inl (.long, NG, .inr (.inl GV))), (h, .inr (6, [.int th, .int (nI M), .int (nI n), .ref y1, .ref y2, .ref y3, .int (nI u), .ref y4, .ref y5, .ref y6, .ref y7, .int (nI c), .ref y8, .ref y9, .ref y10, .ref y11, .ref y12, .int bd, .int w, .int ps, .int (nI pa), .int lc, .int (nI (b2n fb)), .long ek, .long ev, .int (nI el), .int (nI fn), .ref y13, .ref y14, .ref y15, .ref y16, .int (nI js), .ref y17, .int (nI (b2n ib))])), (y1, .inl (.long, 25, .inr (.inl K))), (y2, .inl (.long, 25, .inr (.inl V))), (y3, .inl (.int, 25, .inl (fun q => nI (z q)))), (y4, .inl (.int, 1024, .inl (fun q => nI (L q)))), (y5, .inl (.int, 4096, .inl (fun q => nI (D q)))), (y6, .inl (.int, 128, .inl S)), (y7, .inl (.boolean, 128, .inl Xt)), (y8, .inl (.int, 17, .inl (fun q => nI (lv q)))), (y9, .inl (.int, 17, .inl (fun q => nI (en q)))), (y10, .inl (.int, 17, .inl (fun q => nI (mn q)))), (y11, .inl (.int, 2176, .inl (fun q => nI (bk q)))), (y12, .inl (.long, 17, .inr (.inl fl))), (y13, .inl (.long, 500, .inr (.inl FK))), (y14, .inl (.long, 500, .inr (.inl FV))), (y15, .inl (.int, 500, .inl (fun q => nI (Fz q)))), (y16, .inl (.int, 4200, .inl (fun q => nI (J q)))), (y17, .inl (.int, 128, .inl (fun q => nI (pk q)))), (o, .inl (.long, 1, .inr (.inl (va_up O 0 ((nI (redo (va_up L j (xrb (L j) wm)) a 24 1024 (K, z, V, 0) 0).1.2.2.2).toInt64)))))] rfl rfl hn ?_
      refine g_istore [(5, .int (nI 0)), (4, .int (nI ix)), (3, .ref o), (2, .ref h), (1, .ref x), (0, .ref b0)] X d_LW_law_1184 (by decide) rfl ?_
      refine g_aload_n X d_LW_law_1186 3 rfl ?_
      refine g_aload_n X d_LW_law_1187 5 rfl ?_
      refine g_iload X d_LW_law_1188 1 rfl ?_
      refine g_iconst (nI 1) X d_LW_law_1190 (by decide) ?_
      refine g_iadd X d_LW_law_1191 ?_
      refine g_vi (nI (ix + 1)) (nI_add _ _) ?_
      refine s_iald X hScr d_LW_law_1192 (by omega) (by omega) ?_
      refine g_vi (nI a) hv ?_
      refine g_aload_n X d_LW_law_1193 5 rfl ?_
      refine g_iload X d_LW_law_1194 1 rfl ?_
      refine g_iconst (nI 2) X d_LW_law_1196 (by decide) ?_
      refine g_iadd X d_LW_law_1197 ?_
      refine g_vi (nI (ix + 2)) (nI_add _ _) ?_
      refine s_iald X hScr d_LW_law_1198 (by omega) (by omega) ?_
      refine g_vi (nI j) hw9 ?_
      refine g_aload_n X d_LW_law_1199 5 rfl ?_
      refine g_iload X d_LW_law_1200 1 rfl ?_
      refine g_iconst (nI 3) X d_LW_law_1202 (by decide) ?_
      refine g_iadd X d_LW_law_1203 ?_
      refine g_vi (nI (ix + 3)) (nI_add _ _) ?_
      refine s_iald X hScr d_LW_law_1204 (by omega) (by omega) ?_
      refine g_vi wm h_wm ?_
      refine g_callVf (As := [.int (nI a), .int (nI j), .int wm]) (st := []) X d_LW_law_1205 (c_MD_crash_alter hst hnm ha hu hL hj) (hl_ov 17 rfl hn) rfl rfl k_ml_LW_132 k_cd_MD_crash k_in_MD k_im_MD_crash k_se_MD_crash ⟨by decide +kernel, by decide +kernel, (by decide +kernel : (parseMethodDescriptor "(III)I").map (fun d => d.parameters.length) = some 3)⟩ ⟨by omega, by omega⟩ ⟨by omega, by omega⟩ (Nat.le_of_ble_eq_true rfl) (hg_ov hn [17, 18, 19, 20, 21] rfl) hrx_0 (fun E g9 h => by obtain ⟨hv9, hg9⟩ := h; cases hv9) (fun v9 g9 hq hfr => ?_)
      obtain ⟨hv9, hg9⟩ := hq
      cases hv9
      subst hg9
      refine g_ovP [17, 18, 19, 20, 21] [(x, .inr (5, [.ref xm, .ref xl, .ref xb, .ref xr, .ref xt, .int (nI c), .ref xg, .long sv, .int ps, .int bd])), (xm, .inr (2, [.ref m1, .ref m2, .ref m3, .int (nI ((redo (va_up L j (xrb (L j) wm)) a 24 1024 (K, z, V, 0) 0).1.2.2.2))])), (m1, .inl (.long, 24, .inr (.inl ((redo (va_up L j (xrb (L j) wm)) a 24 1024 (K, z, V, 0) 0).1.1)))), (m2, .inl (.int, 24, .inl (fun q => nI (((redo (va_up L j (xrb (L j) wm)) a 24 1024 (K, z, V, 0) 0).1.2.1) q)))), (m3, .inl (.long, 24, .inr (.inl ((redo (va_up L j (xrb (L j) wm)) a 24 1024 (K, z, V, 0) 0).1.2.2.1)))), (xl, .inr (1, [.ref l1, .int (nI ((redo (va_up L j (xrb (L j) wm)) a 24 1024 (K, z, V, 0) 0).2)), .int (nI a1), .int (nI e1), .long k1, .int (nI s1), .long v1])), (l1, .inl (.byte, 1024, .inl (fun q => sb_b (((va_up L j (xrb (L j) wm))) q)))), (xb, .inr (0, [.ref y, .ref s, .ref t, .int w])), (y, .inl (.byte, M * 32, .inl (fun q => sb_b (D q)))), (s, .inl (.int, M, .inl S)), (t, .inl (.int, M, .inl T)), (xr, .inr (4, [.ref xb, rt, .int (nI (b2n rb)), .int (nI ra), .int rft, .long rk, .int (nI rs), .long rv])), (xt, .inl (.object "RunStore$Table", 16, .inr (.inr (.inr (.inr rf))))), (xg, .inr (2, [.ref g1, .ref g2, .ref g3, .int (nI Gn)])), (g1, .inl (.long, NG, .inr (.inl GK))), (g2, .inl (.int, NG, .inl (fun q => nI (Gz q)))), (g3, .inl (.long, NG, .inr (.inl GV))), (h, .inr (6, [.int (nI 0), .int (nI M), .int (nI ((redo (va_up L j (xrb (L j) wm)) a 24 1024 (K, z, V, 0) 0).1.2.2.2)), .ref y1, .ref y2, .ref y3, .int (nI ((redo (va_up L j (xrb (L j) wm)) a 24 1024 (K, z, V, 0) 0).2)), .ref y4, .ref y5, .ref y6, .ref y7, .int (nI c), .ref y8, .ref y9, .ref y10, .ref y11, .ref y12, .int bd, .int w, .int ps, .int (nI pa), .int lc, .int (nI (b2n fb)), .long ek, .long ev, .int (nI el), .int (nI fn), .ref y13, .ref y14, .ref y15, .ref y16, .int (nI js), .ref y17, .int (nI (b2n ib))])), (y1, .inl (.long, 25, .inr (.inl ((redo (va_up L j (xrb (L j) wm)) a 24 1024 (K, z, V, 0) 0).1.1)))), (y2, .inl (.long, 25, .inr (.inl ((redo (va_up L j (xrb (L j) wm)) a 24 1024 (K, z, V, 0) 0).1.2.2.1)))), (y3, .inl (.int, 25, .inl (fun q => nI (((redo (va_up L j (xrb (L j) wm)) a 24 1024 (K, z, V, 0) 0).1.2.1) q)))), (y4, .inl (.int, 1024, .inl (fun q => nI (((va_up L j (xrb (L j) wm))) q)))), (y5, .inl (.int, 4096, .inl (fun q => nI (D q)))), (y6, .inl (.int, 128, .inl S)), (y7, .inl (.boolean, 128, .inl Xt)), (y8, .inl (.int, 17, .inl (fun q => nI (lv q)))), (y9, .inl (.int, 17, .inl (fun q => nI (en q)))), (y10, .inl (.int, 17, .inl (fun q => nI (mn q)))), (y11, .inl (.int, 2176, .inl (fun q => nI (bk q)))), (y12, .inl (.long, 17, .inr (.inl fl))), (y13, .inl (.long, 500, .inr (.inl FK))), (y14, .inl (.long, 500, .inr (.inl FV))), (y15, .inl (.int, 500, .inl (fun q => nI (Fz q)))), (y16, .inl (.int, 4200, .inl (fun q => nI (J q)))), (y17, .inl (.int, 128, .inl (fun q => nI (pk q)))), (o, .inl (.long, 1, .inr (.inl (va_up O 0 ((nI (redo (va_up L j (xrb (L j) wm)) a 24 1024 (K, z, V, 0) 0).1.2.2.2).toInt64)))))] rfl rfl hn ?_
      refine g_istore [(6, .int (nI ((redo (va_up L j (xrb (L j) wm)) a 24 1024 (K, z, V, 0) 0).1.2.2.2))), (5, .int (nI 0)), (4, .int (nI ix)), (3, .ref o), (2, .ref h), (1, .ref x), (0, .ref b0)] X d_LW_law_1208 (by decide) rfl ?_
      refine g_aload_n X d_LW_law_1210 4 rfl ?_
      refine g_callVf (As := []) (st := []) X d_LW_law_1211 (c_MD_thrown hst hnh) (hl_ov 17 rfl hn) rfl rfl k_ml_LW_85 k_cd_MD_thrown k_in_MD k_im_MD_thrown k_se_MD_thrown ⟨by decide +kernel, by decide +kernel, (by decide +kernel : (parseMethodDescriptor "()I").map (fun d => d.parameters.length) = some 0)⟩ ⟨by omega, by omega⟩ ⟨by omega, by omega⟩ (Nat.le_of_ble_eq_true rfl) (hg_ov hn [17] rfl) hrx_0 (fun E g9 h => by obtain ⟨hv9, hg9⟩ := h; cases hv9) (fun v9 g9 hq hfr => ?_)
      obtain ⟨hv9, hg9⟩ := hq
      cases hv9
      subst hg9
      refine g_ovP [17] [(x, .inr (5, [.ref xm, .ref xl, .ref xb, .ref xr, .ref xt, .int (nI c), .ref xg, .long sv, .int ps, .int bd])), (xm, .inr (2, [.ref m1, .ref m2, .ref m3, .int (nI ((redo (va_up L j (xrb (L j) wm)) a 24 1024 (K, z, V, 0) 0).1.2.2.2))])), (m1, .inl (.long, 24, .inr (.inl ((redo (va_up L j (xrb (L j) wm)) a 24 1024 (K, z, V, 0) 0).1.1)))), (m2, .inl (.int, 24, .inl (fun q => nI (((redo (va_up L j (xrb (L j) wm)) a 24 1024 (K, z, V, 0) 0).1.2.1) q)))), (m3, .inl (.long, 24, .inr (.inl ((redo (va_up L j (xrb (L j) wm)) a 24 1024 (K, z, V, 0) 0).1.2.2.1)))), (xl, .inr (1, [.ref l1, .int (nI ((redo (va_up L j (xrb (L j) wm)) a 24 1024 (K, z, V, 0) 0).2)), .int (nI a1), .int (nI e1), .long k1, .int (nI s1), .long v1])), (l1, .inl (.byte, 1024, .inl (fun q => sb_b (((va_up L j (xrb (L j) wm))) q)))), (xb, .inr (0, [.ref y, .ref s, .ref t, .int w])), (y, .inl (.byte, M * 32, .inl (fun q => sb_b (D q)))), (s, .inl (.int, M, .inl S)), (t, .inl (.int, M, .inl T)), (xr, .inr (4, [.ref xb, rt, .int (nI (b2n rb)), .int (nI ra), .int rft, .long rk, .int (nI rs), .long rv])), (xt, .inl (.object "RunStore$Table", 16, .inr (.inr (.inr (.inr rf))))), (xg, .inr (2, [.ref g1, .ref g2, .ref g3, .int (nI Gn)])), (g1, .inl (.long, NG, .inr (.inl GK))), (g2, .inl (.int, NG, .inl (fun q => nI (Gz q)))), (g3, .inl (.long, NG, .inr (.inl GV))), (h, .inr (6, [.int (nI 0), .int (nI M), .int (nI ((redo (va_up L j (xrb (L j) wm)) a 24 1024 (K, z, V, 0) 0).1.2.2.2)), .ref y1, .ref y2, .ref y3, .int (nI ((redo (va_up L j (xrb (L j) wm)) a 24 1024 (K, z, V, 0) 0).2)), .ref y4, .ref y5, .ref y6, .ref y7, .int (nI c), .ref y8, .ref y9, .ref y10, .ref y11, .ref y12, .int bd, .int w, .int ps, .int (nI pa), .int lc, .int (nI (b2n fb)), .long ek, .long ev, .int (nI el), .int (nI fn), .ref y13, .ref y14, .ref y15, .ref y16, .int (nI js), .ref y17, .int (nI (b2n ib))])), (y1, .inl (.long, 25, .inr (.inl ((redo (va_up L j (xrb (L j) wm)) a 24 1024 (K, z, V, 0) 0).1.1)))), (y2, .inl (.long, 25, .inr (.inl ((redo (va_up L j (xrb (L j) wm)) a 24 1024 (K, z, V, 0) 0).1.2.2.1)))), (y3, .inl (.int, 25, .inl (fun q => nI (((redo (va_up L j (xrb (L j) wm)) a 24 1024 (K, z, V, 0) 0).1.2.1) q)))), (y4, .inl (.int, 1024, .inl (fun q => nI (((va_up L j (xrb (L j) wm))) q)))), (y5, .inl (.int, 4096, .inl (fun q => nI (D q)))), (y6, .inl (.int, 128, .inl S)), (y7, .inl (.boolean, 128, .inl Xt)), (y8, .inl (.int, 17, .inl (fun q => nI (lv q)))), (y9, .inl (.int, 17, .inl (fun q => nI (en q)))), (y10, .inl (.int, 17, .inl (fun q => nI (mn q)))), (y11, .inl (.int, 2176, .inl (fun q => nI (bk q)))), (y12, .inl (.long, 17, .inr (.inl fl))), (y13, .inl (.long, 500, .inr (.inl FK))), (y14, .inl (.long, 500, .inr (.inl FV))), (y15, .inl (.int, 500, .inl (fun q => nI (Fz q)))), (y16, .inl (.int, 4200, .inl (fun q => nI (J q)))), (y17, .inl (.int, 128, .inl (fun q => nI (pk q)))), (o, .inl (.long, 1, .inr (.inl (va_up O 0 ((nI (redo (va_up L j (xrb (L j) wm)) a 24 1024 (K, z, V, 0) 0).1.2.2.2).toInt64)))))] rfl rfl hn ?_
      refine g_iload X d_LW_law_1214 1 rfl ?_
      refine g_icmp_eq 1221 X d_LW_law_1216 (by decide) (fun h1216 => ?_) (fun h1216 => ?_)
      · have h1216 := cv_eq (by omega) (by omega) h1216
        refine g_iload X d_LW_law_1221 1 rfl ?_
        refine g_if_ne 1238 X d_LW_law_1223 (by decide) (fun h1223 => ?_) (fun h1223 => ?_)
        · have h1223 := cv_n0 (by omega) h1223
          omega
        · have h1223 := cv_e0 (by omega) h1223
          refine g_aload_n X d_LW_law_1226 3 rfl ?_
          refine g_iconst (nI 0) X d_LW_law_1227 (by decide) ?_
          refine h_lald X d_LW_law_1228 (hl_ov 35 rfl hn) (by omega) (by omega) ?_
          refine g_iload X d_LW_law_1229 0 rfl ?_
          refine g_i2l X d_LW_law_1231 ?_
          refine g_lcmp X d_LW_law_1232 ?_
          refine g_if_eq 1238 X d_LW_law_1233 (by decide) (fun h1233 => ?_) (fun h1233 => ?_)
          · have h1233 := (lg_cmp_eq ((va_up O 0 ((nI (redo (va_up L j (xrb (L j) wm)) a 24 1024 (K, z, V, 0) 0).1.2.2.2).toInt64)) 0) ((nI ((redo (va_up L j (xrb (L j) wm)) a 24 1024 (K, z, V, 0) 0).1.2.2.2)).toInt64)).mp h1233
            refine g_goto 1292 X d_LW_law_1238 (by decide) ?_
            refine g_lv [2, 3, 4, 5, 6] [(4, .int (nI ix)), (3, .ref o), (2, .ref h), (1, .ref x), (0, .ref b0)] rfl ?_
            refine g_widen (ce' := ce + 5) (sl' := sl + 150) (by omega) (by omega) ?_
            exact kk _ ⟨_, _, _, _, _, _, _, _, _, _, _, _, _, _, _, _, _, _, _, _, _, _, _, _, _, _, _, _, _, _, _, _, _, _, _, _, _, _, _, _, _, _, _, _, _, _, _, _, _, _, _, _, _, _, _, _, _, rfl, hr9.2.1, hr9.1.1, hr9.1.2, (by have := hr9.2.2; omega), (up_lt hL (xrb_lt _ _)), hD, hc16, hP, hI, hB, hX, hPd⟩
          · have h1233 := fun z8 => h1233 ((lg_cmp_eq ((va_up O 0 ((nI (redo (va_up L j (xrb (L j) wm)) a 24 1024 (K, z, V, 0) 0).1.2.2.2).toInt64)) 0) ((nI ((redo (va_up L j (xrb (L j) wm)) a 24 1024 (K, z, V, 0) 0).1.2.2.2)).toInt64)).mpr z8)
            exact absurd (va_up_self _ _ _) h1233
      · have h1216 := cv_ne (by omega) (by omega) h1216
        omega
    · have hn9 : [x, xm, m1, m2, m3, xl, l1, o].Nodup := nd_pick [x, xm, m1, m2, m3, xl, l1, xb, y, s, t, xr, xt, xg, g1, g2, g3, h, y1, y2, y3, y4, y5, y6, y7, y8, y9, y10, y11, y12, y13, y14, y15, y16, y17, o] [0, 1, 2, 3, 4, 5, 6, 35] 36 hn (by decide) rfl (by decide)
      refine g_aload_n X d_LW_law_1161 3 rfl ?_
      refine g_aload_n X d_LW_law_1162 4 rfl ?_
      refine g_iload X d_LW_law_1163 0 rfl ?_
      refine g_iconst (nI 1) X d_LW_law_1165 (by decide) ?_
      refine g_iadd X d_LW_law_1166 ?_
      refine g_vi (nI (ix + 1)) (nI_add _ _) ?_
      refine s_iald X hScr d_LW_law_1167 (by omega) (by omega) ?_
      refine g_vi (nI a) hv ?_
      refine g_aload_n X d_LW_law_1168 4 rfl ?_
      refine g_iload X d_LW_law_1169 0 rfl ?_
      refine g_iconst (nI 2) X d_LW_law_1171 (by decide) ?_
      refine g_iadd X d_LW_law_1172 ?_
      refine g_vi (nI (ix + 2)) (nI_add _ _) ?_
      refine s_iald X hScr d_LW_law_1173 (by omega) (by omega) ?_
      refine g_aload_n X d_LW_law_1174 4 rfl ?_
      refine g_iload X d_LW_law_1175 0 rfl ?_
      refine g_iconst (nI 3) X d_LW_law_1177 (by decide) ?_
      refine g_iadd X d_LW_law_1178 ?_
      refine g_vi (nI (ix + 3)) (nI_add _ _) ?_
      refine s_iald X hScr d_LW_law_1179 (by omega) (by omega) ?_
      refine g_vi wm h_wm ?_
      refine g_aload_n X d_LW_law_1180 1 rfl ?_
      refine g_callSW (As := [.ref x, .int (nI a), .int (xs (ix + 2)), .int wm, .ref o]) (st := []) X d_LW_law_1181 (c_LW_crash_bad2 hst hs hn24 hL hu hn9 ha hw9) lwN_s hNw rfl k_ml_LW_130 k_cd_LW_crash k_in_LW k_st_LW_crash ⟨by decide +kernel, by decide +kernel, (by decide +kernel : (parseMethodDescriptor "(LRunStore;III[J)I").map (fun d => d.parameters.length) = some 5)⟩ ⟨by omega, by omega⟩ ⟨by omega, by omega⟩ (Nat.le_of_ble_eq_true rfl) (hg_ov hn [0, 1, 2, 3, 4, 5, 6, 35] rfl) hrx_0 (fun E g9 h => by obtain ⟨hv9, hg9⟩ := h; cases hv9) (fun v9 g9 hq hfr => ?_)
      obtain ⟨hv9, hg9⟩ := hq
      cases hv9
      subst hg9
      refine g_ovP [0, 1, 2, 3, 4, 5, 6, 35] [(x, .inr (5, [.ref xm, .ref xl, .ref xb, .ref xr, .ref xt, .int (nI c), .ref xg, .long sv, .int ps, .int bd])), (xm, .inr (2, [.ref m1, .ref m2, .ref m3, .int (nI n)])), (m1, .inl (.long, 24, .inr (.inl K))), (m2, .inl (.int, 24, .inl (fun q => nI (z q)))), (m3, .inl (.long, 24, .inr (.inl V))), (xl, .inr (1, [.ref l1, .int (nI u), .int (nI la), .int (nI le), .long lk, .int (nI ls), .long lw])), (l1, .inl (.byte, 1024, .inl (fun q => sb_b (L q)))), (xb, .inr (0, [.ref y, .ref s, .ref t, .int w])), (y, .inl (.byte, M * 32, .inl (fun q => sb_b (D q)))), (s, .inl (.int, M, .inl S)), (t, .inl (.int, M, .inl T)), (xr, .inr (4, [.ref xb, rt, .int (nI (b2n rb)), .int (nI ra), .int rft, .long rk, .int (nI rs), .long rv])), (xt, .inl (.object "RunStore$Table", 16, .inr (.inr (.inr (.inr rf))))), (xg, .inr (2, [.ref g1, .ref g2, .ref g3, .int (nI Gn)])), (g1, .inl (.long, NG, .inr (.inl GK))), (g2, .inl (.int, NG, .inl (fun q => nI (Gz q)))), (g3, .inl (.long, NG, .inr (.inl GV))), (h, .inr (6, [.int th, .int (nI M), .int (nI n), .ref y1, .ref y2, .ref y3, .int (nI u), .ref y4, .ref y5, .ref y6, .ref y7, .int (nI c), .ref y8, .ref y9, .ref y10, .ref y11, .ref y12, .int bd, .int w, .int ps, .int (nI pa), .int lc, .int (nI (b2n fb)), .long ek, .long ev, .int (nI el), .int (nI fn), .ref y13, .ref y14, .ref y15, .ref y16, .int (nI js), .ref y17, .int (nI (b2n ib))])), (y1, .inl (.long, 25, .inr (.inl K))), (y2, .inl (.long, 25, .inr (.inl V))), (y3, .inl (.int, 25, .inl (fun q => nI (z q)))), (y4, .inl (.int, 1024, .inl (fun q => nI (L q)))), (y5, .inl (.int, 4096, .inl (fun q => nI (D q)))), (y6, .inl (.int, 128, .inl S)), (y7, .inl (.boolean, 128, .inl Xt)), (y8, .inl (.int, 17, .inl (fun q => nI (lv q)))), (y9, .inl (.int, 17, .inl (fun q => nI (en q)))), (y10, .inl (.int, 17, .inl (fun q => nI (mn q)))), (y11, .inl (.int, 2176, .inl (fun q => nI (bk q)))), (y12, .inl (.long, 17, .inr (.inl fl))), (y13, .inl (.long, 500, .inr (.inl FK))), (y14, .inl (.long, 500, .inr (.inl FV))), (y15, .inl (.int, 500, .inl (fun q => nI (Fz q)))), (y16, .inl (.int, 4200, .inl (fun q => nI (J q)))), (y17, .inl (.int, 128, .inl (fun q => nI (pk q)))), (o, .inl (.long, 1, .inr (.inl O)))] rfl rfl hn ?_
      refine g_istore [(5, .int (nI 1)), (4, .int (nI ix)), (3, .ref o), (2, .ref h), (1, .ref x), (0, .ref b0)] X d_LW_law_1184 (by decide) rfl ?_
      refine g_aload_n X d_LW_law_1186 3 rfl ?_
      refine g_aload_n X d_LW_law_1187 5 rfl ?_
      refine g_iload X d_LW_law_1188 1 rfl ?_
      refine g_iconst (nI 1) X d_LW_law_1190 (by decide) ?_
      refine g_iadd X d_LW_law_1191 ?_
      refine g_vi (nI (ix + 1)) (nI_add _ _) ?_
      refine s_iald X hScr d_LW_law_1192 (by omega) (by omega) ?_
      refine g_vi (nI a) hv ?_
      refine g_aload_n X d_LW_law_1193 5 rfl ?_
      refine g_iload X d_LW_law_1194 1 rfl ?_
      refine g_iconst (nI 2) X d_LW_law_1196 (by decide) ?_
      refine g_iadd X d_LW_law_1197 ?_
      refine g_vi (nI (ix + 2)) (nI_add _ _) ?_
      refine s_iald X hScr d_LW_law_1198 (by omega) (by omega) ?_
      refine g_aload_n X d_LW_law_1199 5 rfl ?_
      refine g_iload X d_LW_law_1200 1 rfl ?_
      refine g_iconst (nI 3) X d_LW_law_1202 (by decide) ?_
      refine g_iadd X d_LW_law_1203 ?_
      refine g_vi (nI (ix + 3)) (nI_add _ _) ?_
      refine s_iald X hScr d_LW_law_1204 (by omega) (by omega) ?_
      refine g_vi wm h_wm ?_
      refine g_callVf (As := [.int (nI a), .int (xs (ix + 2)), .int wm]) (st := []) X d_LW_law_1205 (c_MD_crash_bad hst hnm (crash_b2 (by omega) hw9)) (hl_ov 17 rfl hn) rfl rfl k_ml_LW_132 k_cd_MD_crash k_in_MD k_im_MD_crash k_se_MD_crash ⟨by decide +kernel, by decide +kernel, (by decide +kernel : (parseMethodDescriptor "(III)I").map (fun d => d.parameters.length) = some 3)⟩ ⟨by omega, by omega⟩ ⟨by omega, by omega⟩ (Nat.le_of_ble_eq_true rfl) (hg_ov hn [17, 18, 19, 20, 21] rfl) hrx_0 (fun E g9 h => by obtain ⟨hv9, hg9⟩ := h; cases hv9) (fun v9 g9 hq hfr => ?_)
      obtain ⟨hv9, hg9⟩ := hq
      cases hv9
      subst hg9
      refine g_ovP [17, 18, 19, 20, 21] [(x, .inr (5, [.ref xm, .ref xl, .ref xb, .ref xr, .ref xt, .int (nI c), .ref xg, .long sv, .int ps, .int bd])), (xm, .inr (2, [.ref m1, .ref m2, .ref m3, .int (nI n)])), (m1, .inl (.long, 24, .inr (.inl K))), (m2, .inl (.int, 24, .inl (fun q => nI (z q)))), (m3, .inl (.long, 24, .inr (.inl V))), (xl, .inr (1, [.ref l1, .int (nI u), .int (nI la), .int (nI le), .long lk, .int (nI ls), .long lw])), (l1, .inl (.byte, 1024, .inl (fun q => sb_b (L q)))), (xb, .inr (0, [.ref y, .ref s, .ref t, .int w])), (y, .inl (.byte, M * 32, .inl (fun q => sb_b (D q)))), (s, .inl (.int, M, .inl S)), (t, .inl (.int, M, .inl T)), (xr, .inr (4, [.ref xb, rt, .int (nI (b2n rb)), .int (nI ra), .int rft, .long rk, .int (nI rs), .long rv])), (xt, .inl (.object "RunStore$Table", 16, .inr (.inr (.inr (.inr rf))))), (xg, .inr (2, [.ref g1, .ref g2, .ref g3, .int (nI Gn)])), (g1, .inl (.long, NG, .inr (.inl GK))), (g2, .inl (.int, NG, .inl (fun q => nI (Gz q)))), (g3, .inl (.long, NG, .inr (.inl GV))), (h, .inr (6, [.int (nI 1), .int (nI M), .int (nI n), .ref y1, .ref y2, .ref y3, .int (nI u), .ref y4, .ref y5, .ref y6, .ref y7, .int (nI c), .ref y8, .ref y9, .ref y10, .ref y11, .ref y12, .int bd, .int w, .int ps, .int (nI pa), .int lc, .int (nI (b2n fb)), .long ek, .long ev, .int (nI el), .int (nI fn), .ref y13, .ref y14, .ref y15, .ref y16, .int (nI js), .ref y17, .int (nI (b2n ib))])), (y1, .inl (.long, 25, .inr (.inl K))), (y2, .inl (.long, 25, .inr (.inl V))), (y3, .inl (.int, 25, .inl (fun q => nI (z q)))), (y4, .inl (.int, 1024, .inl (fun q => nI (L q)))), (y5, .inl (.int, 4096, .inl (fun q => nI (D q)))), (y6, .inl (.int, 128, .inl S)), (y7, .inl (.boolean, 128, .inl Xt)), (y8, .inl (.int, 17, .inl (fun q => nI (lv q)))), (y9, .inl (.int, 17, .inl (fun q => nI (en q)))), (y10, .inl (.int, 17, .inl (fun q => nI (mn q)))), (y11, .inl (.int, 2176, .inl (fun q => nI (bk q)))), (y12, .inl (.long, 17, .inr (.inl fl))), (y13, .inl (.long, 500, .inr (.inl FK))), (y14, .inl (.long, 500, .inr (.inl FV))), (y15, .inl (.int, 500, .inl (fun q => nI (Fz q)))), (y16, .inl (.int, 4200, .inl (fun q => nI (J q)))), (y17, .inl (.int, 128, .inl (fun q => nI (pk q)))), (o, .inl (.long, 1, .inr (.inl O)))] rfl rfl hn ?_
      refine g_istore [(6, .int (nI 0)), (5, .int (nI 1)), (4, .int (nI ix)), (3, .ref o), (2, .ref h), (1, .ref x), (0, .ref b0)] X d_LW_law_1208 (by decide) rfl ?_
      refine g_aload_n X d_LW_law_1210 4 rfl ?_
      refine g_callVf (As := []) (st := []) X d_LW_law_1211 (c_MD_thrown hst hnh) (hl_ov 17 rfl hn) rfl rfl k_ml_LW_85 k_cd_MD_thrown k_in_MD k_im_MD_thrown k_se_MD_thrown ⟨by decide +kernel, by decide +kernel, (by decide +kernel : (parseMethodDescriptor "()I").map (fun d => d.parameters.length) = some 0)⟩ ⟨by omega, by omega⟩ ⟨by omega, by omega⟩ (Nat.le_of_ble_eq_true rfl) (hg_ov hn [17] rfl) hrx_0 (fun E g9 h => by obtain ⟨hv9, hg9⟩ := h; cases hv9) (fun v9 g9 hq hfr => ?_)
      obtain ⟨hv9, hg9⟩ := hq
      cases hv9
      subst hg9
      refine g_ovP [17] [(x, .inr (5, [.ref xm, .ref xl, .ref xb, .ref xr, .ref xt, .int (nI c), .ref xg, .long sv, .int ps, .int bd])), (xm, .inr (2, [.ref m1, .ref m2, .ref m3, .int (nI n)])), (m1, .inl (.long, 24, .inr (.inl K))), (m2, .inl (.int, 24, .inl (fun q => nI (z q)))), (m3, .inl (.long, 24, .inr (.inl V))), (xl, .inr (1, [.ref l1, .int (nI u), .int (nI la), .int (nI le), .long lk, .int (nI ls), .long lw])), (l1, .inl (.byte, 1024, .inl (fun q => sb_b (L q)))), (xb, .inr (0, [.ref y, .ref s, .ref t, .int w])), (y, .inl (.byte, M * 32, .inl (fun q => sb_b (D q)))), (s, .inl (.int, M, .inl S)), (t, .inl (.int, M, .inl T)), (xr, .inr (4, [.ref xb, rt, .int (nI (b2n rb)), .int (nI ra), .int rft, .long rk, .int (nI rs), .long rv])), (xt, .inl (.object "RunStore$Table", 16, .inr (.inr (.inr (.inr rf))))), (xg, .inr (2, [.ref g1, .ref g2, .ref g3, .int (nI Gn)])), (g1, .inl (.long, NG, .inr (.inl GK))), (g2, .inl (.int, NG, .inl (fun q => nI (Gz q)))), (g3, .inl (.long, NG, .inr (.inl GV))), (h, .inr (6, [.int (nI 1), .int (nI M), .int (nI n), .ref y1, .ref y2, .ref y3, .int (nI u), .ref y4, .ref y5, .ref y6, .ref y7, .int (nI c), .ref y8, .ref y9, .ref y10, .ref y11, .ref y12, .int bd, .int w, .int ps, .int (nI pa), .int lc, .int (nI (b2n fb)), .long ek, .long ev, .int (nI el), .int (nI fn), .ref y13, .ref y14, .ref y15, .ref y16, .int (nI js), .ref y17, .int (nI (b2n ib))])), (y1, .inl (.long, 25, .inr (.inl K))), (y2, .inl (.long, 25, .inr (.inl V))), (y3, .inl (.int, 25, .inl (fun q => nI (z q)))), (y4, .inl (.int, 1024, .inl (fun q => nI (L q)))), (y5, .inl (.int, 4096, .inl (fun q => nI (D q)))), (y6, .inl (.int, 128, .inl S)), (y7, .inl (.boolean, 128, .inl Xt)), (y8, .inl (.int, 17, .inl (fun q => nI (lv q)))), (y9, .inl (.int, 17, .inl (fun q => nI (en q)))), (y10, .inl (.int, 17, .inl (fun q => nI (mn q)))), (y11, .inl (.int, 2176, .inl (fun q => nI (bk q)))), (y12, .inl (.long, 17, .inr (.inl fl))), (y13, .inl (.long, 500, .inr (.inl FK))), (y14, .inl (.long, 500, .inr (.inl FV))), (y15, .inl (.int, 500, .inl (fun q => nI (Fz q)))), (y16, .inl (.int, 4200, .inl (fun q => nI (J q)))), (y17, .inl (.int, 128, .inl (fun q => nI (pk q)))), (o, .inl (.long, 1, .inr (.inl O)))] rfl rfl hn ?_
      refine g_iload X d_LW_law_1214 1 rfl ?_
      refine g_icmp_eq 1221 X d_LW_law_1216 (by decide) (fun h1216 => ?_) (fun h1216 => ?_)
      · have h1216 := cv_eq (by omega) (by omega) h1216
        refine g_iload X d_LW_law_1221 1 rfl ?_
        refine g_if_ne 1238 X d_LW_law_1223 (by decide) (fun h1223 => ?_) (fun h1223 => ?_)
        · have h1223 := cv_n0 (by omega) h1223
          refine g_goto 1292 X d_LW_law_1238 (by decide) ?_
          refine g_lv [2, 3, 4, 5, 6] [(4, .int (nI ix)), (3, .ref o), (2, .ref h), (1, .ref x), (0, .ref b0)] rfl ?_
          refine g_widen (ce' := ce + 5) (sl' := sl + 150) (by omega) (by omega) ?_
          exact kk _ ⟨_, _, _, _, _, _, _, _, _, _, _, _, _, _, _, _, _, _, _, _, _, _, _, _, _, _, _, _, _, _, _, _, _, _, _, _, _, _, _, _, _, _, _, _, _, _, _, _, _, _, _, _, _, _, _, _, _, rfl, hn24, hs, hz, hu, hL, hD, hc16, hP, hI, hB, hX, hPd⟩
        · have h1223 := cv_e0 (by omega) h1223
          omega
      · have h1216 := cv_ne (by omega) (by omega) h1216
        omega
  · have hn9 : [x, xm, m1, m2, m3, xl, l1, o].Nodup := nd_pick [x, xm, m1, m2, m3, xl, l1, xb, y, s, t, xr, xt, xg, g1, g2, g3, h, y1, y2, y3, y4, y5, y6, y7, y8, y9, y10, y11, y12, y13, y14, y15, y16, y17, o] [0, 1, 2, 3, 4, 5, 6, 35] 36 hn (by decide) rfl (by decide)
    refine g_aload_n X d_LW_law_1161 3 rfl ?_
    refine g_aload_n X d_LW_law_1162 4 rfl ?_
    refine g_iload X d_LW_law_1163 0 rfl ?_
    refine g_iconst (nI 1) X d_LW_law_1165 (by decide) ?_
    refine g_iadd X d_LW_law_1166 ?_
    refine g_vi (nI (ix + 1)) (nI_add _ _) ?_
    refine s_iald X hScr d_LW_law_1167 (by omega) (by omega) ?_
    refine g_aload_n X d_LW_law_1168 4 rfl ?_
    refine g_iload X d_LW_law_1169 0 rfl ?_
    refine g_iconst (nI 2) X d_LW_law_1171 (by decide) ?_
    refine g_iadd X d_LW_law_1172 ?_
    refine g_vi (nI (ix + 2)) (nI_add _ _) ?_
    refine s_iald X hScr d_LW_law_1173 (by omega) (by omega) ?_
    refine g_aload_n X d_LW_law_1174 4 rfl ?_
    refine g_iload X d_LW_law_1175 0 rfl ?_
    refine g_iconst (nI 3) X d_LW_law_1177 (by decide) ?_
    refine g_iadd X d_LW_law_1178 ?_
    refine g_vi (nI (ix + 3)) (nI_add _ _) ?_
    refine s_iald X hScr d_LW_law_1179 (by omega) (by omega) ?_
    refine g_vi wm h_wm ?_
    refine g_aload_n X d_LW_law_1180 1 rfl ?_
    refine g_callSW (As := [.ref x, .int (xs (ix + 1)), .int (xs (ix + 2)), .int wm, .ref o]) (st := []) X d_LW_law_1181 (c_LW_crash_bad1 hst hs hn24 hL hu hn9 (ltu_s (by omega) hv)) lwN_s hNw rfl k_ml_LW_130 k_cd_LW_crash k_in_LW k_st_LW_crash ⟨by decide +kernel, by decide +kernel, (by decide +kernel : (parseMethodDescriptor "(LRunStore;III[J)I").map (fun d => d.parameters.length) = some 5)⟩ ⟨by omega, by omega⟩ ⟨by omega, by omega⟩ (Nat.le_of_ble_eq_true rfl) (hg_ov hn [0, 1, 2, 3, 4, 5, 6, 35] rfl) hrx_0 (fun E g9 h => by obtain ⟨hv9, hg9⟩ := h; cases hv9) (fun v9 g9 hq hfr => ?_)
    obtain ⟨hv9, hg9⟩ := hq
    cases hv9
    subst hg9
    refine g_ovP [0, 1, 2, 3, 4, 5, 6, 35] [(x, .inr (5, [.ref xm, .ref xl, .ref xb, .ref xr, .ref xt, .int (nI c), .ref xg, .long sv, .int ps, .int bd])), (xm, .inr (2, [.ref m1, .ref m2, .ref m3, .int (nI n)])), (m1, .inl (.long, 24, .inr (.inl K))), (m2, .inl (.int, 24, .inl (fun q => nI (z q)))), (m3, .inl (.long, 24, .inr (.inl V))), (xl, .inr (1, [.ref l1, .int (nI u), .int (nI la), .int (nI le), .long lk, .int (nI ls), .long lw])), (l1, .inl (.byte, 1024, .inl (fun q => sb_b (L q)))), (xb, .inr (0, [.ref y, .ref s, .ref t, .int w])), (y, .inl (.byte, M * 32, .inl (fun q => sb_b (D q)))), (s, .inl (.int, M, .inl S)), (t, .inl (.int, M, .inl T)), (xr, .inr (4, [.ref xb, rt, .int (nI (b2n rb)), .int (nI ra), .int rft, .long rk, .int (nI rs), .long rv])), (xt, .inl (.object "RunStore$Table", 16, .inr (.inr (.inr (.inr rf))))), (xg, .inr (2, [.ref g1, .ref g2, .ref g3, .int (nI Gn)])), (g1, .inl (.long, NG, .inr (.inl GK))), (g2, .inl (.int, NG, .inl (fun q => nI (Gz q)))), (g3, .inl (.long, NG, .inr (.inl GV))), (h, .inr (6, [.int th, .int (nI M), .int (nI n), .ref y1, .ref y2, .ref y3, .int (nI u), .ref y4, .ref y5, .ref y6, .ref y7, .int (nI c), .ref y8, .ref y9, .ref y10, .ref y11, .ref y12, .int bd, .int w, .int ps, .int (nI pa), .int lc, .int (nI (b2n fb)), .long ek, .long ev, .int (nI el), .int (nI fn), .ref y13, .ref y14, .ref y15, .ref y16, .int (nI js), .ref y17, .int (nI (b2n ib))])), (y1, .inl (.long, 25, .inr (.inl K))), (y2, .inl (.long, 25, .inr (.inl V))), (y3, .inl (.int, 25, .inl (fun q => nI (z q)))), (y4, .inl (.int, 1024, .inl (fun q => nI (L q)))), (y5, .inl (.int, 4096, .inl (fun q => nI (D q)))), (y6, .inl (.int, 128, .inl S)), (y7, .inl (.boolean, 128, .inl Xt)), (y8, .inl (.int, 17, .inl (fun q => nI (lv q)))), (y9, .inl (.int, 17, .inl (fun q => nI (en q)))), (y10, .inl (.int, 17, .inl (fun q => nI (mn q)))), (y11, .inl (.int, 2176, .inl (fun q => nI (bk q)))), (y12, .inl (.long, 17, .inr (.inl fl))), (y13, .inl (.long, 500, .inr (.inl FK))), (y14, .inl (.long, 500, .inr (.inl FV))), (y15, .inl (.int, 500, .inl (fun q => nI (Fz q)))), (y16, .inl (.int, 4200, .inl (fun q => nI (J q)))), (y17, .inl (.int, 128, .inl (fun q => nI (pk q)))), (o, .inl (.long, 1, .inr (.inl O)))] rfl rfl hn ?_
    refine g_istore [(5, .int (nI 1)), (4, .int (nI ix)), (3, .ref o), (2, .ref h), (1, .ref x), (0, .ref b0)] X d_LW_law_1184 (by decide) rfl ?_
    refine g_aload_n X d_LW_law_1186 3 rfl ?_
    refine g_aload_n X d_LW_law_1187 5 rfl ?_
    refine g_iload X d_LW_law_1188 1 rfl ?_
    refine g_iconst (nI 1) X d_LW_law_1190 (by decide) ?_
    refine g_iadd X d_LW_law_1191 ?_
    refine g_vi (nI (ix + 1)) (nI_add _ _) ?_
    refine s_iald X hScr d_LW_law_1192 (by omega) (by omega) ?_
    refine g_aload_n X d_LW_law_1193 5 rfl ?_
    refine g_iload X d_LW_law_1194 1 rfl ?_
    refine g_iconst (nI 2) X d_LW_law_1196 (by decide) ?_
    refine g_iadd X d_LW_law_1197 ?_
    refine g_vi (nI (ix + 2)) (nI_add _ _) ?_
    refine s_iald X hScr d_LW_law_1198 (by omega) (by omega) ?_
    refine g_aload_n X d_LW_law_1199 5 rfl ?_
    refine g_iload X d_LW_law_1200 1 rfl ?_
    refine g_iconst (nI 3) X d_LW_law_1202 (by decide) ?_
    refine g_iadd X d_LW_law_1203 ?_
    refine g_vi (nI (ix + 3)) (nI_add _ _) ?_
    refine s_iald X hScr d_LW_law_1204 (by omega) (by omega) ?_
    refine g_vi wm h_wm ?_
    refine g_callVf (As := [.int (xs (ix + 1)), .int (xs (ix + 2)), .int wm]) (st := []) X d_LW_law_1205 (c_MD_crash_bad hst hnm (crash_b1 (by omega) (ltu_s (by omega) hv))) (hl_ov 17 rfl hn) rfl rfl k_ml_LW_132 k_cd_MD_crash k_in_MD k_im_MD_crash k_se_MD_crash ⟨by decide +kernel, by decide +kernel, (by decide +kernel : (parseMethodDescriptor "(III)I").map (fun d => d.parameters.length) = some 3)⟩ ⟨by omega, by omega⟩ ⟨by omega, by omega⟩ (Nat.le_of_ble_eq_true rfl) (hg_ov hn [17, 18, 19, 20, 21] rfl) hrx_0 (fun E g9 h => by obtain ⟨hv9, hg9⟩ := h; cases hv9) (fun v9 g9 hq hfr => ?_)
    obtain ⟨hv9, hg9⟩ := hq
    cases hv9
    subst hg9
    refine g_ovP [17, 18, 19, 20, 21] [(x, .inr (5, [.ref xm, .ref xl, .ref xb, .ref xr, .ref xt, .int (nI c), .ref xg, .long sv, .int ps, .int bd])), (xm, .inr (2, [.ref m1, .ref m2, .ref m3, .int (nI n)])), (m1, .inl (.long, 24, .inr (.inl K))), (m2, .inl (.int, 24, .inl (fun q => nI (z q)))), (m3, .inl (.long, 24, .inr (.inl V))), (xl, .inr (1, [.ref l1, .int (nI u), .int (nI la), .int (nI le), .long lk, .int (nI ls), .long lw])), (l1, .inl (.byte, 1024, .inl (fun q => sb_b (L q)))), (xb, .inr (0, [.ref y, .ref s, .ref t, .int w])), (y, .inl (.byte, M * 32, .inl (fun q => sb_b (D q)))), (s, .inl (.int, M, .inl S)), (t, .inl (.int, M, .inl T)), (xr, .inr (4, [.ref xb, rt, .int (nI (b2n rb)), .int (nI ra), .int rft, .long rk, .int (nI rs), .long rv])), (xt, .inl (.object "RunStore$Table", 16, .inr (.inr (.inr (.inr rf))))), (xg, .inr (2, [.ref g1, .ref g2, .ref g3, .int (nI Gn)])), (g1, .inl (.long, NG, .inr (.inl GK))), (g2, .inl (.int, NG, .inl (fun q => nI (Gz q)))), (g3, .inl (.long, NG, .inr (.inl GV))), (h, .inr (6, [.int (nI 1), .int (nI M), .int (nI n), .ref y1, .ref y2, .ref y3, .int (nI u), .ref y4, .ref y5, .ref y6, .ref y7, .int (nI c), .ref y8, .ref y9, .ref y10, .ref y11, .ref y12, .int bd, .int w, .int ps, .int (nI pa), .int lc, .int (nI (b2n fb)), .long ek, .long ev, .int (nI el), .int (nI fn), .ref y13, .ref y14, .ref y15, .ref y16, .int (nI js), .ref y17, .int (nI (b2n ib))])), (y1, .inl (.long, 25, .inr (.inl K))), (y2, .inl (.long, 25, .inr (.inl V))), (y3, .inl (.int, 25, .inl (fun q => nI (z q)))), (y4, .inl (.int, 1024, .inl (fun q => nI (L q)))), (y5, .inl (.int, 4096, .inl (fun q => nI (D q)))), (y6, .inl (.int, 128, .inl S)), (y7, .inl (.boolean, 128, .inl Xt)), (y8, .inl (.int, 17, .inl (fun q => nI (lv q)))), (y9, .inl (.int, 17, .inl (fun q => nI (en q)))), (y10, .inl (.int, 17, .inl (fun q => nI (mn q)))), (y11, .inl (.int, 2176, .inl (fun q => nI (bk q)))), (y12, .inl (.long, 17, .inr (.inl fl))), (y13, .inl (.long, 500, .inr (.inl FK))), (y14, .inl (.long, 500, .inr (.inl FV))), (y15, .inl (.int, 500, .inl (fun q => nI (Fz q)))), (y16, .inl (.int, 4200, .inl (fun q => nI (J q)))), (y17, .inl (.int, 128, .inl (fun q => nI (pk q)))), (o, .inl (.long, 1, .inr (.inl O)))] rfl rfl hn ?_
    refine g_istore [(6, .int (nI 0)), (5, .int (nI 1)), (4, .int (nI ix)), (3, .ref o), (2, .ref h), (1, .ref x), (0, .ref b0)] X d_LW_law_1208 (by decide) rfl ?_
    refine g_aload_n X d_LW_law_1210 4 rfl ?_
    refine g_callVf (As := []) (st := []) X d_LW_law_1211 (c_MD_thrown hst hnh) (hl_ov 17 rfl hn) rfl rfl k_ml_LW_85 k_cd_MD_thrown k_in_MD k_im_MD_thrown k_se_MD_thrown ⟨by decide +kernel, by decide +kernel, (by decide +kernel : (parseMethodDescriptor "()I").map (fun d => d.parameters.length) = some 0)⟩ ⟨by omega, by omega⟩ ⟨by omega, by omega⟩ (Nat.le_of_ble_eq_true rfl) (hg_ov hn [17] rfl) hrx_0 (fun E g9 h => by obtain ⟨hv9, hg9⟩ := h; cases hv9) (fun v9 g9 hq hfr => ?_)
    obtain ⟨hv9, hg9⟩ := hq
    cases hv9
    subst hg9
    refine g_ovP [17] [(x, .inr (5, [.ref xm, .ref xl, .ref xb, .ref xr, .ref xt, .int (nI c), .ref xg, .long sv, .int ps, .int bd])), (xm, .inr (2, [.ref m1, .ref m2, .ref m3, .int (nI n)])), (m1, .inl (.long, 24, .inr (.inl K))), (m2, .inl (.int, 24, .inl (fun q => nI (z q)))), (m3, .inl (.long, 24, .inr (.inl V))), (xl, .inr (1, [.ref l1, .int (nI u), .int (nI la), .int (nI le), .long lk, .int (nI ls), .long lw])), (l1, .inl (.byte, 1024, .inl (fun q => sb_b (L q)))), (xb, .inr (0, [.ref y, .ref s, .ref t, .int w])), (y, .inl (.byte, M * 32, .inl (fun q => sb_b (D q)))), (s, .inl (.int, M, .inl S)), (t, .inl (.int, M, .inl T)), (xr, .inr (4, [.ref xb, rt, .int (nI (b2n rb)), .int (nI ra), .int rft, .long rk, .int (nI rs), .long rv])), (xt, .inl (.object "RunStore$Table", 16, .inr (.inr (.inr (.inr rf))))), (xg, .inr (2, [.ref g1, .ref g2, .ref g3, .int (nI Gn)])), (g1, .inl (.long, NG, .inr (.inl GK))), (g2, .inl (.int, NG, .inl (fun q => nI (Gz q)))), (g3, .inl (.long, NG, .inr (.inl GV))), (h, .inr (6, [.int (nI 1), .int (nI M), .int (nI n), .ref y1, .ref y2, .ref y3, .int (nI u), .ref y4, .ref y5, .ref y6, .ref y7, .int (nI c), .ref y8, .ref y9, .ref y10, .ref y11, .ref y12, .int bd, .int w, .int ps, .int (nI pa), .int lc, .int (nI (b2n fb)), .long ek, .long ev, .int (nI el), .int (nI fn), .ref y13, .ref y14, .ref y15, .ref y16, .int (nI js), .ref y17, .int (nI (b2n ib))])), (y1, .inl (.long, 25, .inr (.inl K))), (y2, .inl (.long, 25, .inr (.inl V))), (y3, .inl (.int, 25, .inl (fun q => nI (z q)))), (y4, .inl (.int, 1024, .inl (fun q => nI (L q)))), (y5, .inl (.int, 4096, .inl (fun q => nI (D q)))), (y6, .inl (.int, 128, .inl S)), (y7, .inl (.boolean, 128, .inl Xt)), (y8, .inl (.int, 17, .inl (fun q => nI (lv q)))), (y9, .inl (.int, 17, .inl (fun q => nI (en q)))), (y10, .inl (.int, 17, .inl (fun q => nI (mn q)))), (y11, .inl (.int, 2176, .inl (fun q => nI (bk q)))), (y12, .inl (.long, 17, .inr (.inl fl))), (y13, .inl (.long, 500, .inr (.inl FK))), (y14, .inl (.long, 500, .inr (.inl FV))), (y15, .inl (.int, 500, .inl (fun q => nI (Fz q)))), (y16, .inl (.int, 4200, .inl (fun q => nI (J q)))), (y17, .inl (.int, 128, .inl (fun q => nI (pk q)))), (o, .inl (.long, 1, .inr (.inl O)))] rfl rfl hn ?_
    refine g_iload X d_LW_law_1214 1 rfl ?_
    refine g_icmp_eq 1221 X d_LW_law_1216 (by decide) (fun h1216 => ?_) (fun h1216 => ?_)
    · have h1216 := cv_eq (by omega) (by omega) h1216
      refine g_iload X d_LW_law_1221 1 rfl ?_
      refine g_if_ne 1238 X d_LW_law_1223 (by decide) (fun h1223 => ?_) (fun h1223 => ?_)
      · have h1223 := cv_n0 (by omega) h1223
        refine g_goto 1292 X d_LW_law_1238 (by decide) ?_
        refine g_lv [2, 3, 4, 5, 6] [(4, .int (nI ix)), (3, .ref o), (2, .ref h), (1, .ref x), (0, .ref b0)] rfl ?_
        refine g_widen (ce' := ce + 5) (sl' := sl + 150) (by omega) (by omega) ?_
        exact kk _ ⟨_, _, _, _, _, _, _, _, _, _, _, _, _, _, _, _, _, _, _, _, _, _, _, _, _, _, _, _, _, _, _, _, _, _, _, _, _, _, _, _, _, _, _, _, _, _, _, _, _, _, _, _, _, _, _, _, _, rfl, hn24, hs, hz, hu, hL, hD, hc16, hP, hI, hB, hX, hPd⟩
      · have h1223 := cv_e0 (by omega) h1223
        omega
    · have h1216 := cv_ne (by omega) (by omega) h1216
      omega

set_option maxRecDepth 100000 in
set_option maxHeartbeats 4000000 in
theorem law_find {mp : Program} {l : Launch} {me : Env} {mR : Room} {sm : State} {mm : MethodId} {margs : Array Value} {mbel : List Frame} {mmet : Method} {mcod : Code} {mD : va_G} {f9 : fh_M} {Q9 : State → Prop} {ce sl b0 Ls ix : Nat} {xs : Nat → Int32} (X : fh_X mp l sm mm margs mmet mcod mD fhCl fhT f9 (hp []) y_LW_law.cls b_LW_law 8) (hScr : lwX sm f9 b0 Ls xs) (hst : l.stackTraces = false) (hNw : lwN sm) (hRf : 12 ≤ mR.frames) (hRl : 438 ≤ mR.locals) (hRc : ce + 5 ≤ mR.cells) (hRs : sl + 150 ≤ mR.slots) {M NG x xm m1 m2 m3 xl l1 xb y s t xr xt xg g1 g2 g3 h y1 y2 y3 y4 y5 y6 y7 y8 y9 y10 y11 y12 y13 y14 y15 y16 y17 o : Nat} (hM4 : 4 ≤ M) (hM : M ≤ 128) (hNGe : NG = 24 + M * 32 / 9) (hn : [x, xm, m1, m2, m3, xl, l1, xb, y, s, t, xr, xt, xg, g1, g2, g3, h, y1, y2, y3, y4, y5, y6, y7, y8, y9, y10, y11, y12, y13, y14, y15, y16, y17, o].Nodup) (hLs : Ls ≤ 3073) (hix : ix + 5 < Ls) {f : fh_M} (hS : lwS M NG x xm m1 m2 m3 xl l1 xb y s t xr xt xg g1 g2 g3 h y1 y2 y3 y4 y5 y6 y7 y8 y9 y10 y11 y12 y13 y14 y15 y16 y17 o f)  (kk : ∀ f, lwS M NG x xm m1 m2 m3 xl l1 xb y s t xr xt xg g1 g2 g3 h y1 y2 y3 y4 y5 y6 y7 y8 y9 y10 y11 y12 y13 y14 y15 y16 y17 o f → fh_G mp l me mR sm mm margs mbel mmet mcod mD fhCl f9 8 Q9 (ce + 5) (sl + 150) f 1292 [(4, .int (nI ix)), (3, .ref o), (2, .ref h), (1, .ref x), (0, .ref b0)] []) : fh_G mp l me mR sm mm margs mbel mmet mcod mD fhCl f9 8 Q9 (ce) (sl) f 464 [(4, .int (nI ix)), (3, .ref o), (2, .ref h), (1, .ref x), (0, .ref b0)] [] := by
  refine lwS_elim (C9 := fun f => fh_G mp l me mR sm mm margs mbel mmet mcod mD fhCl f9 8 Q9 (ce) (sl) f 464 [(4, .int (nI ix)), (3, .ref o), (2, .ref h), (1, .ref x), (0, .ref b0)] []) hS (fun K z V n L u D S T tb c ps bd w sv la le lk ls lw rt rb ra rft rk rs rv rf tq ti P GK Gz GV Gn th pa lc fb ek ev el fn js ib Xt lv en mn fl bk FK FV Fz J pk O hn24 hs hz hu hL hD hc16 hP hI hB hX hPd => ?_)
  show fh_G mp l me mR sm mm margs mbel mmet mcod mD fhCl f9 8 Q9 (ce) (sl) (fh_ov (hp [(x, .inr (5, [.ref xm, .ref xl, .ref xb, .ref xr, .ref xt, .int (nI c), .ref xg, .long sv, .int ps, .int bd])), (xm, .inr (2, [.ref m1, .ref m2, .ref m3, .int (nI n)])), (m1, .inl (.long, 24, .inr (.inl K))), (m2, .inl (.int, 24, .inl (fun q => nI (z q)))), (m3, .inl (.long, 24, .inr (.inl V))), (xl, .inr (1, [.ref l1, .int (nI u), .int (nI la), .int (nI le), .long lk, .int (nI ls), .long lw])), (l1, .inl (.byte, 1024, .inl (fun q => sb_b (L q)))), (xb, .inr (0, [.ref y, .ref s, .ref t, .int w])), (y, .inl (.byte, M * 32, .inl (fun q => sb_b (D q)))), (s, .inl (.int, M, .inl S)), (t, .inl (.int, M, .inl T)), (xr, .inr (4, [.ref xb, rt, .int (nI (b2n rb)), .int (nI ra), .int rft, .long rk, .int (nI rs), .long rv])), (xt, .inl (.object "RunStore$Table", 16, .inr (.inr (.inr (.inr rf))))), (xg, .inr (2, [.ref g1, .ref g2, .ref g3, .int (nI Gn)])), (g1, .inl (.long, NG, .inr (.inl GK))), (g2, .inl (.int, NG, .inl (fun q => nI (Gz q)))), (g3, .inl (.long, NG, .inr (.inl GV))), (h, .inr (6, [.int th, .int (nI M), .int (nI n), .ref y1, .ref y2, .ref y3, .int (nI u), .ref y4, .ref y5, .ref y6, .ref y7, .int (nI c), .ref y8, .ref y9, .ref y10, .ref y11, .ref y12, .int bd, .int w, .int ps, .int (nI pa), .int lc, .int (nI (b2n fb)), .long ek, .long ev, .int (nI el), .int (nI fn), .ref y13, .ref y14, .ref y15, .ref y16, .int (nI js), .ref y17, .int (nI (b2n ib))])), (y1, .inl (.long, 25, .inr (.inl K))), (y2, .inl (.long, 25, .inr (.inl V))), (y3, .inl (.int, 25, .inl (fun q => nI (z q)))), (y4, .inl (.int, 1024, .inl (fun q => nI (L q)))), (y5, .inl (.int, 4096, .inl (fun q => nI (D q)))), (y6, .inl (.int, 128, .inl S)), (y7, .inl (.boolean, 128, .inl Xt)), (y8, .inl (.int, 17, .inl (fun q => nI (lv q)))), (y9, .inl (.int, 17, .inl (fun q => nI (en q)))), (y10, .inl (.int, 17, .inl (fun q => nI (mn q)))), (y11, .inl (.int, 2176, .inl (fun q => nI (bk q)))), (y12, .inl (.long, 17, .inr (.inl fl))), (y13, .inl (.long, 500, .inr (.inl FK))), (y14, .inl (.long, 500, .inr (.inl FV))), (y15, .inl (.int, 500, .inl (fun q => nI (Fz q)))), (y16, .inl (.int, 4200, .inl (fun q => nI (J q)))), (y17, .inl (.int, 128, .inl (fun q => nI (pk q)))), (o, .inl (.long, 1, .inr (.inl O)))]) P) 464 [(4, .int (nI ix)), (3, .ref o), (2, .ref h), (1, .ref x), (0, .ref b0)] []
  have hnh : [h].Nodup := nd_pick [x, xm, m1, m2, m3, xl, l1, xb, y, s, t, xr, xt, xg, g1, g2, g3, h, y1, y2, y3, y4, y5, y6, y7, y8, y9, y10, y11, y12, y13, y14, y15, y16, y17, o] [17] 36 hn (by decide) rfl (by decide)
  have hnm : [h, y1, y2, y3, y12, y11, y6, y5, y10, y9].Nodup := nd_pick [x, xm, m1, m2, m3, xl, l1, xb, y, s, t, xr, xt, xg, g1, g2, g3, h, y1, y2, y3, y4, y5, y6, y7, y8, y9, y10, y11, y12, y13, y14, y15, y16, y17, o] [17, 18, 19, 20, 29, 28, 23, 22, 27, 26] 36 hn (by decide) rfl (by decide)
  obtain ⟨k, h_k⟩ : ∃ k, lg2 (xs (ix + 1)) (xs (ix + 2)) = k := ⟨_, rfl⟩
  by_cases hf : plc K k n < n ∧ K (plc K k n) = k
  · have hn9 : [x, xm, m1, m2, m3, xb, y, s, t, xr, xt, o].Nodup := nd_pick [x, xm, m1, m2, m3, xl, l1, xb, y, s, t, xr, xt, xg, g1, g2, g3, h, y1, y2, y3, y4, y5, y6, y7, y8, y9, y10, y11, y12, y13, y14, y15, y16, y17, o] [0, 1, 2, 3, 4, 7, 8, 9, 10, 11, 12, 35] 36 hn (by decide) rfl (by decide)
    refine g_aload_n X d_LW_law_464 3 rfl ?_
    refine g_aload_n X d_LW_law_465 4 rfl ?_
    refine g_iload X d_LW_law_466 0 rfl ?_
    refine g_iconst (nI 1) X d_LW_law_468 (by decide) ?_
    refine g_iadd X d_LW_law_469 ?_
    refine g_vi (nI (ix + 1)) (nI_add _ _) ?_
    refine s_iald X hScr d_LW_law_470 (by omega) (by omega) ?_
    refine g_i2l X d_LW_law_471 ?_
    refine g_bipush (nI 32) X d_LW_law_472 (by decide) ?_
    refine g_lshl X d_LW_law_474 ?_
    refine g_aload_n X d_LW_law_475 4 rfl ?_
    refine g_iload X d_LW_law_476 0 rfl ?_
    refine g_iconst (nI 2) X d_LW_law_478 (by decide) ?_
    refine g_iadd X d_LW_law_479 ?_
    refine g_vi (nI (ix + 2)) (nI_add _ _) ?_
    refine s_iald X hScr d_LW_law_480 (by omega) (by omega) ?_
    refine g_i2l X d_LW_law_481 ?_
    refine g_ldc2 X d_LW_law_482 k_ct_LW_79 ?_
    refine g_land X d_LW_law_485 ?_
    refine g_lor X d_LW_law_486 ?_
    refine g_vl k (h_k) ?_
    refine g_aload_n X d_LW_law_487 1 rfl ?_
    refine g_callSW (As := [.ref x, .long k, .ref o]) (st := []) X d_LW_law_488 (c_LW_find_mem hst hs hn24 hD hM hn9 hz hf) lwN_s hNw rfl k_ml_LW_100 k_cd_LW_find k_in_LW k_st_LW_find ⟨by decide +kernel, by decide +kernel, (by decide +kernel : (parseMethodDescriptor "(LRunStore;J[J)I").map (fun d => d.parameters.length) = some 3)⟩ ⟨by omega, by omega⟩ ⟨by omega, by omega⟩ (Nat.le_of_ble_eq_true rfl) (hg_ov hn [0, 1, 2, 3, 4, 7, 8, 9, 10, 11, 12, 35] rfl) (hrx_P hn hPd [0, 1, 2, 3, 4, 7, 8, 9, 10, 11, 12, 35] rfl) (fun E g9 h => by obtain ⟨hv9, hg9⟩ := h; cases hv9) (fun v9 g9 hq hfr => ?_)
    obtain ⟨hv9, hg9⟩ := hq
    cases hv9
    subst hg9
    refine g_ovP [0, 1, 2, 3, 4, 7, 8, 9, 10, 11, 12, 35] [(x, .inr (5, [.ref xm, .ref xl, .ref xb, .ref xr, .ref xt, .int (nI c), .ref xg, .long (V (plc K k n)), .int ps, .int (-1)])), (xm, .inr (2, [.ref m1, .ref m2, .ref m3, .int (nI n)])), (m1, .inl (.long, 24, .inr (.inl K))), (m2, .inl (.int, 24, .inl (fun q => nI (z q)))), (m3, .inl (.long, 24, .inr (.inl V))), (xl, .inr (1, [.ref l1, .int (nI u), .int (nI la), .int (nI le), .long lk, .int (nI ls), .long lw])), (l1, .inl (.byte, 1024, .inl (fun q => sb_b (L q)))), (xb, .inr (0, [.ref y, .ref s, .ref t, .int w])), (y, .inl (.byte, M * 32, .inl (fun q => sb_b (D q)))), (s, .inl (.int, M, .inl S)), (t, .inl (.int, M, .inl T)), (xr, .inr (4, [.ref xb, rt, .int (nI (b2n rb)), .int (nI ra), .int rft, .long rk, .int (nI rs), .long rv])), (xt, .inl (.object "RunStore$Table", 16, .inr (.inr (.inr (.inr rf))))), (xg, .inr (2, [.ref g1, .ref g2, .ref g3, .int (nI Gn)])), (g1, .inl (.long, NG, .inr (.inl GK))), (g2, .inl (.int, NG, .inl (fun q => nI (Gz q)))), (g3, .inl (.long, NG, .inr (.inl GV))), (h, .inr (6, [.int th, .int (nI M), .int (nI n), .ref y1, .ref y2, .ref y3, .int (nI u), .ref y4, .ref y5, .ref y6, .ref y7, .int (nI c), .ref y8, .ref y9, .ref y10, .ref y11, .ref y12, .int bd, .int w, .int ps, .int (nI pa), .int lc, .int (nI (b2n fb)), .long ek, .long ev, .int (nI el), .int (nI fn), .ref y13, .ref y14, .ref y15, .ref y16, .int (nI js), .ref y17, .int (nI (b2n ib))])), (y1, .inl (.long, 25, .inr (.inl K))), (y2, .inl (.long, 25, .inr (.inl V))), (y3, .inl (.int, 25, .inl (fun q => nI (z q)))), (y4, .inl (.int, 1024, .inl (fun q => nI (L q)))), (y5, .inl (.int, 4096, .inl (fun q => nI (D q)))), (y6, .inl (.int, 128, .inl S)), (y7, .inl (.boolean, 128, .inl Xt)), (y8, .inl (.int, 17, .inl (fun q => nI (lv q)))), (y9, .inl (.int, 17, .inl (fun q => nI (en q)))), (y10, .inl (.int, 17, .inl (fun q => nI (mn q)))), (y11, .inl (.int, 2176, .inl (fun q => nI (bk q)))), (y12, .inl (.long, 17, .inr (.inl fl))), (y13, .inl (.long, 500, .inr (.inl FK))), (y14, .inl (.long, 500, .inr (.inl FV))), (y15, .inl (.int, 500, .inl (fun q => nI (Fz q)))), (y16, .inl (.int, 4200, .inl (fun q => nI (J q)))), (y17, .inl (.int, 128, .inl (fun q => nI (pk q)))), (o, .inl (.long, 1, .inr (.inl (va_up O 0 ((fres (some ((z (plc K k n)), (V (plc K k n))))))))))] rfl rfl hn ?_
    refine g_istore [(5, .int (nI 0)), (4, .int (nI ix)), (3, .ref o), (2, .ref h), (1, .ref x), (0, .ref b0)] X d_LW_law_491 (by decide) rfl ?_
    refine g_aload_n X d_LW_law_493 3 rfl ?_
    refine g_aload_n X d_LW_law_494 5 rfl ?_
    refine g_iload X d_LW_law_495 1 rfl ?_
    refine g_iconst (nI 1) X d_LW_law_497 (by decide) ?_
    refine g_iadd X d_LW_law_498 ?_
    refine g_vi (nI (ix + 1)) (nI_add _ _) ?_
    refine s_iald X hScr d_LW_law_499 (by omega) (by omega) ?_
    refine g_i2l X d_LW_law_500 ?_
    refine g_bipush (nI 32) X d_LW_law_501 (by decide) ?_
    refine g_lshl X d_LW_law_503 ?_
    refine g_aload_n X d_LW_law_504 5 rfl ?_
    refine g_iload X d_LW_law_505 1 rfl ?_
    refine g_iconst (nI 2) X d_LW_law_507 (by decide) ?_
    refine g_iadd X d_LW_law_508 ?_
    refine g_vi (nI (ix + 2)) (nI_add _ _) ?_
    refine s_iald X hScr d_LW_law_509 (by omega) (by omega) ?_
    refine g_i2l X d_LW_law_510 ?_
    refine g_ldc2 X d_LW_law_511 k_ct_LW_79 ?_
    refine g_land X d_LW_law_514 ?_
    refine g_lor X d_LW_law_515 ?_
    refine g_vl k (h_k) ?_
    refine g_callVf (As := [.long k]) (st := []) X d_LW_law_516 (c_MD_find_mem hst hnm hn24 hz hf) (hl_ov 17 rfl hn) rfl rfl k_ml_LW_102 k_cd_MD_find k_in_MD k_im_MD_find k_se_MD_find ⟨by decide +kernel, by decide +kernel, (by decide +kernel : (parseMethodDescriptor "(J)J").map (fun d => d.parameters.length) = some 1)⟩ ⟨by omega, by omega⟩ ⟨by omega, by omega⟩ (Nat.le_of_ble_eq_true rfl) (hg_ov hn [17, 18, 19, 20, 29, 28, 23, 22, 27, 26] rfl) hrx_0 (fun E g9 h => by obtain ⟨hv9, hg9⟩ := h; cases hv9) (fun v9 g9 hq hfr => ?_)
    obtain ⟨hv9, hg9⟩ := hq
    cases hv9
    subst hg9
    refine g_ovP [17, 18, 19, 20, 29, 28, 23, 22, 27, 26] [(x, .inr (5, [.ref xm, .ref xl, .ref xb, .ref xr, .ref xt, .int (nI c), .ref xg, .long (V (plc K k n)), .int ps, .int (-1)])), (xm, .inr (2, [.ref m1, .ref m2, .ref m3, .int (nI n)])), (m1, .inl (.long, 24, .inr (.inl K))), (m2, .inl (.int, 24, .inl (fun q => nI (z q)))), (m3, .inl (.long, 24, .inr (.inl V))), (xl, .inr (1, [.ref l1, .int (nI u), .int (nI la), .int (nI le), .long lk, .int (nI ls), .long lw])), (l1, .inl (.byte, 1024, .inl (fun q => sb_b (L q)))), (xb, .inr (0, [.ref y, .ref s, .ref t, .int w])), (y, .inl (.byte, M * 32, .inl (fun q => sb_b (D q)))), (s, .inl (.int, M, .inl S)), (t, .inl (.int, M, .inl T)), (xr, .inr (4, [.ref xb, rt, .int (nI (b2n rb)), .int (nI ra), .int rft, .long rk, .int (nI rs), .long rv])), (xt, .inl (.object "RunStore$Table", 16, .inr (.inr (.inr (.inr rf))))), (xg, .inr (2, [.ref g1, .ref g2, .ref g3, .int (nI Gn)])), (g1, .inl (.long, NG, .inr (.inl GK))), (g2, .inl (.int, NG, .inl (fun q => nI (Gz q)))), (g3, .inl (.long, NG, .inr (.inl GV))), (h, .inr (6, [.int (nI 0), .int (nI M), .int (nI n), .ref y1, .ref y2, .ref y3, .int (nI u), .ref y4, .ref y5, .ref y6, .ref y7, .int (nI c), .ref y8, .ref y9, .ref y10, .ref y11, .ref y12, .int (-1), .int w, .int ps, .int (nI pa), .int lc, .int (nI 0), .long ek, .long (V (plc K k n)), .int (nI (z (plc K k n))), .int (nI fn), .ref y13, .ref y14, .ref y15, .ref y16, .int (nI js), .ref y17, .int (nI (b2n ib))])), (y1, .inl (.long, 25, .inr (.inl K))), (y2, .inl (.long, 25, .inr (.inl V))), (y3, .inl (.int, 25, .inl (fun q => nI (z q)))), (y4, .inl (.int, 1024, .inl (fun q => nI (L q)))), (y5, .inl (.int, 4096, .inl (fun q => nI (D q)))), (y6, .inl (.int, 128, .inl S)), (y7, .inl (.boolean, 128, .inl Xt)), (y8, .inl (.int, 17, .inl (fun q => nI (lv q)))), (y9, .inl (.int, 17, .inl (fun q => nI (en q)))), (y10, .inl (.int, 17, .inl (fun q => nI (mn q)))), (y11, .inl (.int, 2176, .inl (fun q => nI (bk q)))), (y12, .inl (.long, 17, .inr (.inl fl))), (y13, .inl (.long, 500, .inr (.inl FK))), (y14, .inl (.long, 500, .inr (.inl FV))), (y15, .inl (.int, 500, .inl (fun q => nI (Fz q)))), (y16, .inl (.int, 4200, .inl (fun q => nI (J q)))), (y17, .inl (.int, 128, .inl (fun q => nI (pk q)))), (o, .inl (.long, 1, .inr (.inl (va_up O 0 ((fres (some ((z (plc K k n)), (V (plc K k n))))))))))] rfl rfl hn ?_
    refine g_hpP (ws' := [(x, .inr (5, [.ref xm, .ref xl, .ref xb, .ref xr, .ref xt, .int (nI c), .ref xg, .long (V (plc K k n)), .int ps, .int (-1)])), (xm, .inr (2, [.ref m1, .ref m2, .ref m3, .int (nI n)])), (m1, .inl (.long, 24, .inr (.inl K))), (m2, .inl (.int, 24, .inl (fun q => nI (z q)))), (m3, .inl (.long, 24, .inr (.inl V))), (xl, .inr (1, [.ref l1, .int (nI u), .int (nI la), .int (nI le), .long lk, .int (nI ls), .long lw])), (l1, .inl (.byte, 1024, .inl (fun q => sb_b (L q)))), (xb, .inr (0, [.ref y, .ref s, .ref t, .int w])), (y, .inl (.byte, M * 32, .inl (fun q => sb_b (D q)))), (s, .inl (.int, M, .inl S)), (t, .inl (.int, M, .inl T)), (xr, .inr (4, [.ref xb, rt, .int (nI (b2n rb)), .int (nI ra), .int rft, .long rk, .int (nI rs), .long rv])), (xt, .inl (.object "RunStore$Table", 16, .inr (.inr (.inr (.inr rf))))), (xg, .inr (2, [.ref g1, .ref g2, .ref g3, .int (nI Gn)])), (g1, .inl (.long, NG, .inr (.inl GK))), (g2, .inl (.int, NG, .inl (fun q => nI (Gz q)))), (g3, .inl (.long, NG, .inr (.inl GV))), (h, .inr (6, [.int (nI 0), .int (nI M), .int (nI n), .ref y1, .ref y2, .ref y3, .int (nI u), .ref y4, .ref y5, .ref y6, .ref y7, .int (nI c), .ref y8, .ref y9, .ref y10, .ref y11, .ref y12, .int (-1), .int w, .int ps, .int (nI pa), .int lc, .int (nI (b2n false)), .long ek, .long (V (plc K k n)), .int (nI (z (plc K k n))), .int (nI fn), .ref y13, .ref y14, .ref y15, .ref y16, .int (nI js), .ref y17, .int (nI (b2n ib))])), (y1, .inl (.long, 25, .inr (.inl K))), (y2, .inl (.long, 25, .inr (.inl V))), (y3, .inl (.int, 25, .inl (fun q => nI (z q)))), (y4, .inl (.int, 1024, .inl (fun q => nI (L q)))), (y5, .inl (.int, 4096, .inl (fun q => nI (D q)))), (y6, .inl (.int, 128, .inl S)), (y7, .inl (.boolean, 128, .inl Xt)), (y8, .inl (.int, 17, .inl (fun q => nI (lv q)))), (y9, .inl (.int, 17, .inl (fun q => nI (en q)))), (y10, .inl (.int, 17, .inl (fun q => nI (mn q)))), (y11, .inl (.int, 2176, .inl (fun q => nI (bk q)))), (y12, .inl (.long, 17, .inr (.inl fl))), (y13, .inl (.long, 500, .inr (.inl FK))), (y14, .inl (.long, 500, .inr (.inl FV))), (y15, .inl (.int, 500, .inl (fun q => nI (Fz q)))), (y16, .inl (.int, 4200, .inl (fun q => nI (J q)))), (y17, .inl (.int, 128, .inl (fun q => nI (pk q)))), (o, .inl (.long, 1, .inr (.inl (va_up O 0 ((fres (some ((z (plc K k n)), (V (plc K k n))))))))))]) (rfl) ?_
    refine g_lstore [(6, .long (fres (some (z (plc K k n), V (plc K k n))))), (5, .int (nI 0)), (4, .int (nI ix)), (3, .ref o), (2, .ref h), (1, .ref x), (0, .ref b0)] X d_LW_law_519 (by decide) rfl ?_
    refine g_aload_n X d_LW_law_521 4 rfl ?_
    refine g_callVf (As := []) (st := []) X d_LW_law_522 (c_MD_thrown hst hnh) (hl_ov 17 rfl hn) rfl rfl k_ml_LW_85 k_cd_MD_thrown k_in_MD k_im_MD_thrown k_se_MD_thrown ⟨by decide +kernel, by decide +kernel, (by decide +kernel : (parseMethodDescriptor "()I").map (fun d => d.parameters.length) = some 0)⟩ ⟨by omega, by omega⟩ ⟨by omega, by omega⟩ (Nat.le_of_ble_eq_true rfl) (hg_ov hn [17] rfl) hrx_0 (fun E g9 h => by obtain ⟨hv9, hg9⟩ := h; cases hv9) (fun v9 g9 hq hfr => ?_)
    obtain ⟨hv9, hg9⟩ := hq
    cases hv9
    subst hg9
    refine g_ovP [17] [(x, .inr (5, [.ref xm, .ref xl, .ref xb, .ref xr, .ref xt, .int (nI c), .ref xg, .long (V (plc K k n)), .int ps, .int (-1)])), (xm, .inr (2, [.ref m1, .ref m2, .ref m3, .int (nI n)])), (m1, .inl (.long, 24, .inr (.inl K))), (m2, .inl (.int, 24, .inl (fun q => nI (z q)))), (m3, .inl (.long, 24, .inr (.inl V))), (xl, .inr (1, [.ref l1, .int (nI u), .int (nI la), .int (nI le), .long lk, .int (nI ls), .long lw])), (l1, .inl (.byte, 1024, .inl (fun q => sb_b (L q)))), (xb, .inr (0, [.ref y, .ref s, .ref t, .int w])), (y, .inl (.byte, M * 32, .inl (fun q => sb_b (D q)))), (s, .inl (.int, M, .inl S)), (t, .inl (.int, M, .inl T)), (xr, .inr (4, [.ref xb, rt, .int (nI (b2n rb)), .int (nI ra), .int rft, .long rk, .int (nI rs), .long rv])), (xt, .inl (.object "RunStore$Table", 16, .inr (.inr (.inr (.inr rf))))), (xg, .inr (2, [.ref g1, .ref g2, .ref g3, .int (nI Gn)])), (g1, .inl (.long, NG, .inr (.inl GK))), (g2, .inl (.int, NG, .inl (fun q => nI (Gz q)))), (g3, .inl (.long, NG, .inr (.inl GV))), (h, .inr (6, [.int (nI 0), .int (nI M), .int (nI n), .ref y1, .ref y2, .ref y3, .int (nI u), .ref y4, .ref y5, .ref y6, .ref y7, .int (nI c), .ref y8, .ref y9, .ref y10, .ref y11, .ref y12, .int (-1), .int w, .int ps, .int (nI pa), .int lc, .int (nI (b2n false)), .long ek, .long (V (plc K k n)), .int (nI (z (plc K k n))), .int (nI fn), .ref y13, .ref y14, .ref y15, .ref y16, .int (nI js), .ref y17, .int (nI (b2n ib))])), (y1, .inl (.long, 25, .inr (.inl K))), (y2, .inl (.long, 25, .inr (.inl V))), (y3, .inl (.int, 25, .inl (fun q => nI (z q)))), (y4, .inl (.int, 1024, .inl (fun q => nI (L q)))), (y5, .inl (.int, 4096, .inl (fun q => nI (D q)))), (y6, .inl (.int, 128, .inl S)), (y7, .inl (.boolean, 128, .inl Xt)), (y8, .inl (.int, 17, .inl (fun q => nI (lv q)))), (y9, .inl (.int, 17, .inl (fun q => nI (en q)))), (y10, .inl (.int, 17, .inl (fun q => nI (mn q)))), (y11, .inl (.int, 2176, .inl (fun q => nI (bk q)))), (y12, .inl (.long, 17, .inr (.inl fl))), (y13, .inl (.long, 500, .inr (.inl FK))), (y14, .inl (.long, 500, .inr (.inl FV))), (y15, .inl (.int, 500, .inl (fun q => nI (Fz q)))), (y16, .inl (.int, 4200, .inl (fun q => nI (J q)))), (y17, .inl (.int, 128, .inl (fun q => nI (pk q)))), (o, .inl (.long, 1, .inr (.inl (va_up O 0 ((fres (some ((z (plc K k n)), (V (plc K k n))))))))))] rfl rfl hn ?_
    refine g_iload X d_LW_law_525 1 rfl ?_
    refine g_icmp_eq 532 X d_LW_law_527 (by decide) (fun h527 => ?_) (fun h527 => ?_)
    · have h527 := cv_eq (by omega) (by omega) h527
      refine g_iload X d_LW_law_532 1 rfl ?_
      refine g_if_ne 548 X d_LW_law_534 (by decide) (fun h534 => ?_) (fun h534 => ?_)
      · have h534 := cv_n0 (by omega) h534
        omega
      · have h534 := cv_e0 (by omega) h534
        refine g_aload_n X d_LW_law_537 3 rfl ?_
        refine g_iconst (nI 0) X d_LW_law_538 (by decide) ?_
        refine h_lald X d_LW_law_539 (hl_ov 35 rfl hn) (by omega) (by omega) ?_
        refine g_lload X d_LW_law_540 0 rfl ?_
        refine g_lcmp X d_LW_law_542 ?_
        refine g_if_eq 548 X d_LW_law_543 (by decide) (fun h543 => ?_) (fun h543 => ?_)
        · have h543 := (lg_cmp_eq ((va_up O 0 ((fres (some ((z (plc K k n)), (V (plc K k n))))))) 0) (fres (some (z (plc K k n), V (plc K k n))))).mp h543
          refine g_goto 1292 X d_LW_law_548 (by decide) ?_
          refine g_lv [2, 3, 4, 5, 6] [(4, .int (nI ix)), (3, .ref o), (2, .ref h), (1, .ref x), (0, .ref b0)] rfl ?_
          refine g_widen (ce' := ce + 5) (sl' := sl + 150) (by omega) (by omega) ?_
          exact kk _ ⟨_, _, _, _, _, _, _, _, _, _, _, _, _, _, _, _, _, _, _, _, _, _, _, _, _, _, _, _, _, _, _, _, _, _, _, _, _, _, _, _, _, _, _, _, _, _, _, _, _, _, _, _, _, _, _, _, _, rfl, hn24, hs, hz, hu, hL, hD, hc16, hP, hI, hB, hX, hPd⟩
        · have h543 := fun z8 => h543 ((lg_cmp_eq ((va_up O 0 ((fres (some ((z (plc K k n)), (V (plc K k n))))))) 0) (fres (some (z (plc K k n), V (plc K k n))))).mpr z8)
          exact absurd (va_up_self _ _ _) h543
    · have h527 := cv_ne (by omega) (by omega) h527
      omega
  · cases hk9 : (sek tb S T D k c 0).1 with
    | none =>
      have hn9 : [x, xm, m1, m2, m3, xb, y, s, t, xr, xt, o].Nodup := nd_pick [x, xm, m1, m2, m3, xl, l1, xb, y, s, t, xr, xt, xg, g1, g2, g3, h, y1, y2, y3, y4, y5, y6, y7, y8, y9, y10, y11, y12, y13, y14, y15, y16, y17, o] [0, 1, 2, 3, 4, 7, 8, 9, 10, 11, 12, 35] 36 hn (by decide) rfl (by decide)
      refine g_aload_n X d_LW_law_464 3 rfl ?_
      refine g_aload_n X d_LW_law_465 4 rfl ?_
      refine g_iload X d_LW_law_466 0 rfl ?_
      refine g_iconst (nI 1) X d_LW_law_468 (by decide) ?_
      refine g_iadd X d_LW_law_469 ?_
      refine g_vi (nI (ix + 1)) (nI_add _ _) ?_
      refine s_iald X hScr d_LW_law_470 (by omega) (by omega) ?_
      refine g_i2l X d_LW_law_471 ?_
      refine g_bipush (nI 32) X d_LW_law_472 (by decide) ?_
      refine g_lshl X d_LW_law_474 ?_
      refine g_aload_n X d_LW_law_475 4 rfl ?_
      refine g_iload X d_LW_law_476 0 rfl ?_
      refine g_iconst (nI 2) X d_LW_law_478 (by decide) ?_
      refine g_iadd X d_LW_law_479 ?_
      refine g_vi (nI (ix + 2)) (nI_add _ _) ?_
      refine s_iald X hScr d_LW_law_480 (by omega) (by omega) ?_
      refine g_i2l X d_LW_law_481 ?_
      refine g_ldc2 X d_LW_law_482 k_ct_LW_79 ?_
      refine g_land X d_LW_law_485 ?_
      refine g_lor X d_LW_law_486 ?_
      refine g_vl k (h_k) ?_
      refine g_aload_n X d_LW_law_487 1 rfl ?_
      refine g_callSW (As := [.ref x, .long k, .ref o]) (st := []) X d_LW_law_488 (c_LW_find_tab hst hs hn24 hD hM hn9 hP hc16 hI.1 hf hk9) lwN_s hNw rfl k_ml_LW_100 k_cd_LW_find k_in_LW k_st_LW_find ⟨by decide +kernel, by decide +kernel, (by decide +kernel : (parseMethodDescriptor "(LRunStore;J[J)I").map (fun d => d.parameters.length) = some 3)⟩ ⟨by omega, by omega⟩ ⟨by omega, by omega⟩ (Nat.le_of_ble_eq_true rfl) (hg_ov hn [0, 1, 2, 3, 4, 7, 8, 9, 10, 11, 12, 35] rfl) (hrx_P hn hPd [0, 1, 2, 3, 4, 7, 8, 9, 10, 11, 12, 35] rfl) (fun E g9 h => by obtain ⟨rt1, rb1, ra1, rs1, rft1, rk1, rv1, hv9, hg9⟩ := h; cases hv9) (fun v9 g9 hq hfr => ?_)
      obtain ⟨rt1, rb1, ra1, rs1, rft1, rk1, rv1, hv9, hg9⟩ := hq
      cases hv9
      subst hg9
      refine g_ovP [0, 1, 2, 3, 4, 7, 8, 9, 10, 11, 12, 35] [(x, .inr (5, [.ref xm, .ref xl, .ref xb, .ref xr, .ref xt, .int (nI c), .ref xg, .long (sval sv (sek tb S T D k c 0).2.1), .int (ps + nI (sek tb S T D k c 0).2.2.2), .int (-1)])), (xm, .inr (2, [.ref m1, .ref m2, .ref m3, .int (nI n)])), (m1, .inl (.long, 24, .inr (.inl K))), (m2, .inl (.int, 24, .inl (fun q => nI (z q)))), (m3, .inl (.long, 24, .inr (.inl V))), (xl, .inr (1, [.ref l1, .int (nI u), .int (nI la), .int (nI le), .long lk, .int (nI ls), .long lw])), (l1, .inl (.byte, 1024, .inl (fun q => sb_b (L q)))), (xb, .inr (0, [.ref y, .ref s, .ref t, .int (w + nI (sek tb S T D k c 0).2.2.1)])), (y, .inl (.byte, M * 32, .inl (fun q => sb_b (D q)))), (s, .inl (.int, M, .inl S)), (t, .inl (.int, M, .inl T)), (xr, .inr (4, [.ref xb, rt1, .int (nI (b2n rb1)), .int (nI ra1), .int rft1, .long rk1, .int (nI rs1), .long rv1])), (xt, .inl (.object "RunStore$Table", 16, .inr (.inr (.inr (.inr rf))))), (xg, .inr (2, [.ref g1, .ref g2, .ref g3, .int (nI Gn)])), (g1, .inl (.long, NG, .inr (.inl GK))), (g2, .inl (.int, NG, .inl (fun q => nI (Gz q)))), (g3, .inl (.long, NG, .inr (.inl GV))), (h, .inr (6, [.int th, .int (nI M), .int (nI n), .ref y1, .ref y2, .ref y3, .int (nI u), .ref y4, .ref y5, .ref y6, .ref y7, .int (nI c), .ref y8, .ref y9, .ref y10, .ref y11, .ref y12, .int bd, .int w, .int ps, .int (nI pa), .int lc, .int (nI (b2n fb)), .long ek, .long ev, .int (nI el), .int (nI fn), .ref y13, .ref y14, .ref y15, .ref y16, .int (nI js), .ref y17, .int (nI (b2n ib))])), (y1, .inl (.long, 25, .inr (.inl K))), (y2, .inl (.long, 25, .inr (.inl V))), (y3, .inl (.int, 25, .inl (fun q => nI (z q)))), (y4, .inl (.int, 1024, .inl (fun q => nI (L q)))), (y5, .inl (.int, 4096, .inl (fun q => nI (D q)))), (y6, .inl (.int, 128, .inl S)), (y7, .inl (.boolean, 128, .inl Xt)), (y8, .inl (.int, 17, .inl (fun q => nI (lv q)))), (y9, .inl (.int, 17, .inl (fun q => nI (en q)))), (y10, .inl (.int, 17, .inl (fun q => nI (mn q)))), (y11, .inl (.int, 2176, .inl (fun q => nI (bk q)))), (y12, .inl (.long, 17, .inr (.inl fl))), (y13, .inl (.long, 500, .inr (.inl FK))), (y14, .inl (.long, 500, .inr (.inl FV))), (y15, .inl (.int, 500, .inl (fun q => nI (Fz q)))), (y16, .inl (.int, 4200, .inl (fun q => nI (J q)))), (y17, .inl (.int, 128, .inl (fun q => nI (pk q)))), (o, .inl (.long, 1, .inr (.inl (va_up O 0 ((fres (sek tb S T D k c 0).2.1))))))] rfl rfl hn ?_
      refine g_istore [(5, .int (nI 0)), (4, .int (nI ix)), (3, .ref o), (2, .ref h), (1, .ref x), (0, .ref b0)] X d_LW_law_491 (by decide) rfl ?_
      refine g_aload_n X d_LW_law_493 3 rfl ?_
      refine g_aload_n X d_LW_law_494 5 rfl ?_
      refine g_iload X d_LW_law_495 1 rfl ?_
      refine g_iconst (nI 1) X d_LW_law_497 (by decide) ?_
      refine g_iadd X d_LW_law_498 ?_
      refine g_vi (nI (ix + 1)) (nI_add _ _) ?_
      refine s_iald X hScr d_LW_law_499 (by omega) (by omega) ?_
      refine g_i2l X d_LW_law_500 ?_
      refine g_bipush (nI 32) X d_LW_law_501 (by decide) ?_
      refine g_lshl X d_LW_law_503 ?_
      refine g_aload_n X d_LW_law_504 5 rfl ?_
      refine g_iload X d_LW_law_505 1 rfl ?_
      refine g_iconst (nI 2) X d_LW_law_507 (by decide) ?_
      refine g_iadd X d_LW_law_508 ?_
      refine g_vi (nI (ix + 2)) (nI_add _ _) ?_
      refine s_iald X hScr d_LW_law_509 (by omega) (by omega) ?_
      refine g_i2l X d_LW_law_510 ?_
      refine g_ldc2 X d_LW_law_511 k_ct_LW_79 ?_
      refine g_land X d_LW_law_514 ?_
      refine g_lor X d_LW_law_515 ?_
      refine g_vl k (h_k) ?_
      refine g_callVf (As := [.long k]) (st := []) X d_LW_law_516 (c_MD_find_tab hst hnm hc16 hB hI.1 hM hI.2.2.1 hD hn24 hf) (hl_ov 17 rfl hn) rfl rfl k_ml_LW_102 k_cd_MD_find k_in_MD k_im_MD_find k_se_MD_find ⟨by decide +kernel, by decide +kernel, (by decide +kernel : (parseMethodDescriptor "(J)J").map (fun d => d.parameters.length) = some 1)⟩ ⟨by omega, by omega⟩ ⟨by omega, by omega⟩ (Nat.le_of_ble_eq_true rfl) (hg_ov hn [17, 18, 19, 20, 29, 28, 23, 22, 27, 26] rfl) hrx_0 (fun E g9 h => by obtain ⟨s9, ek9, el9, ev9, ic9, hv9, hg9, hs9⟩ := h; cases hv9) (fun v9 g9 hq hfr => ?_)
      obtain ⟨s9, ek9, el9, ev9, ic9, hv9, hg9, hs9⟩ := hq
      cases hv9
      subst hg9
      refine g_ovP [17, 18, 19, 20, 29, 28, 23, 22, 27, 26] [(x, .inr (5, [.ref xm, .ref xl, .ref xb, .ref xr, .ref xt, .int (nI c), .ref xg, .long (sval sv (sek tb S T D k c 0).2.1), .int (ps + nI (sek tb S T D k c 0).2.2.2), .int (-1)])), (xm, .inr (2, [.ref m1, .ref m2, .ref m3, .int (nI n)])), (m1, .inl (.long, 24, .inr (.inl K))), (m2, .inl (.int, 24, .inl (fun q => nI (z q)))), (m3, .inl (.long, 24, .inr (.inl V))), (xl, .inr (1, [.ref l1, .int (nI u), .int (nI la), .int (nI le), .long lk, .int (nI ls), .long lw])), (l1, .inl (.byte, 1024, .inl (fun q => sb_b (L q)))), (xb, .inr (0, [.ref y, .ref s, .ref t, .int (w + nI (sek tb S T D k c 0).2.2.1)])), (y, .inl (.byte, M * 32, .inl (fun q => sb_b (D q)))), (s, .inl (.int, M, .inl S)), (t, .inl (.int, M, .inl T)), (xr, .inr (4, [.ref xb, rt1, .int (nI (b2n rb1)), .int (nI ra1), .int rft1, .long rk1, .int (nI rs1), .long rv1])), (xt, .inl (.object "RunStore$Table", 16, .inr (.inr (.inr (.inr rf))))), (xg, .inr (2, [.ref g1, .ref g2, .ref g3, .int (nI Gn)])), (g1, .inl (.long, NG, .inr (.inl GK))), (g2, .inl (.int, NG, .inl (fun q => nI (Gz q)))), (g3, .inl (.long, NG, .inr (.inl GV))), (h, .inr (6, [.int (nI (b2n (sek tb S T D k c 0).1.isSome)), .int (nI M), .int (nI n), .ref y1, .ref y2, .ref y3, .int (nI u), .ref y4, .ref y5, .ref y6, .ref y7, .int (nI c), .ref y8, .ref y9, .ref y10, .ref y11, .ref y12, .int s9.2.2.2.1, .int s9.2.2.2.2, .int (ps + nI (sek tb S T D k c 0).2.2.2), .int (nI s9.1), .int s9.2.1, .int (nI (b2n s9.2.2.1)), .long ek9, .long ev9, .int (nI el9), .int (nI fn), .ref y13, .ref y14, .ref y15, .ref y16, .int (nI js), .ref y17, .int (nI (b2n ic9))])), (y1, .inl (.long, 25, .inr (.inl K))), (y2, .inl (.long, 25, .inr (.inl V))), (y3, .inl (.int, 25, .inl (fun q => nI (z q)))), (y4, .inl (.int, 1024, .inl (fun q => nI (L q)))), (y5, .inl (.int, 4096, .inl (fun q => nI (D q)))), (y6, .inl (.int, 128, .inl S)), (y7, .inl (.boolean, 128, .inl Xt)), (y8, .inl (.int, 17, .inl (fun q => nI (lv q)))), (y9, .inl (.int, 17, .inl (fun q => nI (en q)))), (y10, .inl (.int, 17, .inl (fun q => nI (mn q)))), (y11, .inl (.int, 2176, .inl (fun q => nI (bk q)))), (y12, .inl (.long, 17, .inr (.inl fl))), (y13, .inl (.long, 500, .inr (.inl FK))), (y14, .inl (.long, 500, .inr (.inl FV))), (y15, .inl (.int, 500, .inl (fun q => nI (Fz q)))), (y16, .inl (.int, 4200, .inl (fun q => nI (J q)))), (y17, .inl (.int, 128, .inl (fun q => nI (pk q)))), (o, .inl (.long, 1, .inr (.inl (va_up O 0 ((fres (sek tb S T D k c 0).2.1))))))] rfl rfl hn ?_
      refine g_hpP (ws' := [(x, .inr (5, [.ref xm, .ref xl, .ref xb, .ref xr, .ref xt, .int (nI c), .ref xg, .long (sval sv (sek tb S T D k c 0).2.1), .int (ps + nI (sek tb S T D k c 0).2.2.2), .int (-1)])), (xm, .inr (2, [.ref m1, .ref m2, .ref m3, .int (nI n)])), (m1, .inl (.long, 24, .inr (.inl K))), (m2, .inl (.int, 24, .inl (fun q => nI (z q)))), (m3, .inl (.long, 24, .inr (.inl V))), (xl, .inr (1, [.ref l1, .int (nI u), .int (nI la), .int (nI le), .long lk, .int (nI ls), .long lw])), (l1, .inl (.byte, 1024, .inl (fun q => sb_b (L q)))), (xb, .inr (0, [.ref y, .ref s, .ref t, .int (w + nI (sek tb S T D k c 0).2.2.1)])), (y, .inl (.byte, M * 32, .inl (fun q => sb_b (D q)))), (s, .inl (.int, M, .inl S)), (t, .inl (.int, M, .inl T)), (xr, .inr (4, [.ref xb, rt1, .int (nI (b2n rb1)), .int (nI ra1), .int rft1, .long rk1, .int (nI rs1), .long rv1])), (xt, .inl (.object "RunStore$Table", 16, .inr (.inr (.inr (.inr rf))))), (xg, .inr (2, [.ref g1, .ref g2, .ref g3, .int (nI Gn)])), (g1, .inl (.long, NG, .inr (.inl GK))), (g2, .inl (.int, NG, .inl (fun q => nI (Gz q)))), (g3, .inl (.long, NG, .inr (.inl GV))), (h, .inr (6, [.int (nI 0), .int (nI M), .int (nI n), .ref y1, .ref y2, .ref y3, .int (nI u), .ref y4, .ref y5, .ref y6, .ref y7, .int (nI c), .ref y8, .ref y9, .ref y10, .ref y11, .ref y12, .int (-1), .int (w + nI (sek tb S T D k c 0).2.2.1), .int (ps + nI (sek tb S T D k c 0).2.2.2), .int (nI s9.1), .int s9.2.1, .int (nI (b2n false)), .long ek9, .long ev9, .int (nI el9), .int (nI fn), .ref y13, .ref y14, .ref y15, .ref y16, .int (nI js), .ref y17, .int (nI (b2n ic9))])), (y1, .inl (.long, 25, .inr (.inl K))), (y2, .inl (.long, 25, .inr (.inl V))), (y3, .inl (.int, 25, .inl (fun q => nI (z q)))), (y4, .inl (.int, 1024, .inl (fun q => nI (L q)))), (y5, .inl (.int, 4096, .inl (fun q => nI (D q)))), (y6, .inl (.int, 128, .inl S)), (y7, .inl (.boolean, 128, .inl Xt)), (y8, .inl (.int, 17, .inl (fun q => nI (lv q)))), (y9, .inl (.int, 17, .inl (fun q => nI (en q)))), (y10, .inl (.int, 17, .inl (fun q => nI (mn q)))), (y11, .inl (.int, 2176, .inl (fun q => nI (bk q)))), (y12, .inl (.long, 17, .inr (.inl fl))), (y13, .inl (.long, 500, .inr (.inl FK))), (y14, .inl (.long, 500, .inr (.inl FV))), (y15, .inl (.int, 500, .inl (fun q => nI (Fz q)))), (y16, .inl (.int, 4200, .inl (fun q => nI (J q)))), (y17, .inl (.int, 128, .inl (fun q => nI (pk q)))), (o, .inl (.long, 1, .inr (.inl (va_up O 0 ((fres (sek tb S T D k c 0).2.1))))))]) (by rw [hs9, hk9]; rfl) ?_
      refine g_lstore [(6, .long (fres (sek tb S T D k c 0).2.1)), (5, .int (nI 0)), (4, .int (nI ix)), (3, .ref o), (2, .ref h), (1, .ref x), (0, .ref b0)] X d_LW_law_519 (by decide) rfl ?_
      refine g_aload_n X d_LW_law_521 4 rfl ?_
      refine g_callVf (As := []) (st := []) X d_LW_law_522 (c_MD_thrown hst hnh) (hl_ov 17 rfl hn) rfl rfl k_ml_LW_85 k_cd_MD_thrown k_in_MD k_im_MD_thrown k_se_MD_thrown ⟨by decide +kernel, by decide +kernel, (by decide +kernel : (parseMethodDescriptor "()I").map (fun d => d.parameters.length) = some 0)⟩ ⟨by omega, by omega⟩ ⟨by omega, by omega⟩ (Nat.le_of_ble_eq_true rfl) (hg_ov hn [17] rfl) hrx_0 (fun E g9 h => by obtain ⟨hv9, hg9⟩ := h; cases hv9) (fun v9 g9 hq hfr => ?_)
      obtain ⟨hv9, hg9⟩ := hq
      cases hv9
      subst hg9
      refine g_ovP [17] [(x, .inr (5, [.ref xm, .ref xl, .ref xb, .ref xr, .ref xt, .int (nI c), .ref xg, .long (sval sv (sek tb S T D k c 0).2.1), .int (ps + nI (sek tb S T D k c 0).2.2.2), .int (-1)])), (xm, .inr (2, [.ref m1, .ref m2, .ref m3, .int (nI n)])), (m1, .inl (.long, 24, .inr (.inl K))), (m2, .inl (.int, 24, .inl (fun q => nI (z q)))), (m3, .inl (.long, 24, .inr (.inl V))), (xl, .inr (1, [.ref l1, .int (nI u), .int (nI la), .int (nI le), .long lk, .int (nI ls), .long lw])), (l1, .inl (.byte, 1024, .inl (fun q => sb_b (L q)))), (xb, .inr (0, [.ref y, .ref s, .ref t, .int (w + nI (sek tb S T D k c 0).2.2.1)])), (y, .inl (.byte, M * 32, .inl (fun q => sb_b (D q)))), (s, .inl (.int, M, .inl S)), (t, .inl (.int, M, .inl T)), (xr, .inr (4, [.ref xb, rt1, .int (nI (b2n rb1)), .int (nI ra1), .int rft1, .long rk1, .int (nI rs1), .long rv1])), (xt, .inl (.object "RunStore$Table", 16, .inr (.inr (.inr (.inr rf))))), (xg, .inr (2, [.ref g1, .ref g2, .ref g3, .int (nI Gn)])), (g1, .inl (.long, NG, .inr (.inl GK))), (g2, .inl (.int, NG, .inl (fun q => nI (Gz q)))), (g3, .inl (.long, NG, .inr (.inl GV))), (h, .inr (6, [.int (nI 0), .int (nI M), .int (nI n), .ref y1, .ref y2, .ref y3, .int (nI u), .ref y4, .ref y5, .ref y6, .ref y7, .int (nI c), .ref y8, .ref y9, .ref y10, .ref y11, .ref y12, .int (-1), .int (w + nI (sek tb S T D k c 0).2.2.1), .int (ps + nI (sek tb S T D k c 0).2.2.2), .int (nI s9.1), .int s9.2.1, .int (nI (b2n false)), .long ek9, .long ev9, .int (nI el9), .int (nI fn), .ref y13, .ref y14, .ref y15, .ref y16, .int (nI js), .ref y17, .int (nI (b2n ic9))])), (y1, .inl (.long, 25, .inr (.inl K))), (y2, .inl (.long, 25, .inr (.inl V))), (y3, .inl (.int, 25, .inl (fun q => nI (z q)))), (y4, .inl (.int, 1024, .inl (fun q => nI (L q)))), (y5, .inl (.int, 4096, .inl (fun q => nI (D q)))), (y6, .inl (.int, 128, .inl S)), (y7, .inl (.boolean, 128, .inl Xt)), (y8, .inl (.int, 17, .inl (fun q => nI (lv q)))), (y9, .inl (.int, 17, .inl (fun q => nI (en q)))), (y10, .inl (.int, 17, .inl (fun q => nI (mn q)))), (y11, .inl (.int, 2176, .inl (fun q => nI (bk q)))), (y12, .inl (.long, 17, .inr (.inl fl))), (y13, .inl (.long, 500, .inr (.inl FK))), (y14, .inl (.long, 500, .inr (.inl FV))), (y15, .inl (.int, 500, .inl (fun q => nI (Fz q)))), (y16, .inl (.int, 4200, .inl (fun q => nI (J q)))), (y17, .inl (.int, 128, .inl (fun q => nI (pk q)))), (o, .inl (.long, 1, .inr (.inl (va_up O 0 ((fres (sek tb S T D k c 0).2.1))))))] rfl rfl hn ?_
      refine g_iload X d_LW_law_525 1 rfl ?_
      refine g_icmp_eq 532 X d_LW_law_527 (by decide) (fun h527 => ?_) (fun h527 => ?_)
      · have h527 := cv_eq (by omega) (by omega) h527
        refine g_iload X d_LW_law_532 1 rfl ?_
        refine g_if_ne 548 X d_LW_law_534 (by decide) (fun h534 => ?_) (fun h534 => ?_)
        · have h534 := cv_n0 (by omega) h534
          omega
        · have h534 := cv_e0 (by omega) h534
          refine g_aload_n X d_LW_law_537 3 rfl ?_
          refine g_iconst (nI 0) X d_LW_law_538 (by decide) ?_
          refine h_lald X d_LW_law_539 (hl_ov 35 rfl hn) (by omega) (by omega) ?_
          refine g_lload X d_LW_law_540 0 rfl ?_
          refine g_lcmp X d_LW_law_542 ?_
          refine g_if_eq 548 X d_LW_law_543 (by decide) (fun h543 => ?_) (fun h543 => ?_)
          · have h543 := (lg_cmp_eq ((va_up O 0 ((fres (sek tb S T D k c 0).2.1))) 0) (fres (sek tb S T D k c 0).2.1)).mp h543
            refine g_goto 1292 X d_LW_law_548 (by decide) ?_
            refine g_lv [2, 3, 4, 5, 6] [(4, .int (nI ix)), (3, .ref o), (2, .ref h), (1, .ref x), (0, .ref b0)] rfl ?_
            refine g_widen (ce' := ce + 5) (sl' := sl + 150) (by omega) (by omega) ?_
            exact kk _ ⟨_, _, _, _, _, _, _, _, _, _, _, _, _, _, _, _, _, _, _, _, _, _, _, _, _, _, _, _, _, _, _, _, _, _, _, _, _, _, _, _, _, _, _, _, _, _, _, _, _, _, _, _, _, _, _, _, _, rfl, hn24, hs, hz, hu, hL, hD, hc16, hP, hI, hB, hX, hPd⟩
          · have h543 := fun z8 => h543 ((lg_cmp_eq ((va_up O 0 ((fres (sek tb S T D k c 0).2.1))) 0) (fres (sek tb S T D k c 0).2.1)).mpr z8)
            exact absurd (by rw [va_up_self]) h543
      · have h527 := cv_ne (by omega) (by omega) h527
        omega
    | some f9 =>
      have hn9 : [x, xm, m1, m2, m3, xb, y, s, t, xr, xt, o].Nodup := nd_pick [x, xm, m1, m2, m3, xl, l1, xb, y, s, t, xr, xt, xg, g1, g2, g3, h, y1, y2, y3, y4, y5, y6, y7, y8, y9, y10, y11, y12, y13, y14, y15, y16, y17, o] [0, 1, 2, 3, 4, 7, 8, 9, 10, 11, 12, 35] 36 hn (by decide) rfl (by decide)
      refine g_aload_n X d_LW_law_464 3 rfl ?_
      refine g_aload_n X d_LW_law_465 4 rfl ?_
      refine g_iload X d_LW_law_466 0 rfl ?_
      refine g_iconst (nI 1) X d_LW_law_468 (by decide) ?_
      refine g_iadd X d_LW_law_469 ?_
      refine g_vi (nI (ix + 1)) (nI_add _ _) ?_
      refine s_iald X hScr d_LW_law_470 (by omega) (by omega) ?_
      refine g_i2l X d_LW_law_471 ?_
      refine g_bipush (nI 32) X d_LW_law_472 (by decide) ?_
      refine g_lshl X d_LW_law_474 ?_
      refine g_aload_n X d_LW_law_475 4 rfl ?_
      refine g_iload X d_LW_law_476 0 rfl ?_
      refine g_iconst (nI 2) X d_LW_law_478 (by decide) ?_
      refine g_iadd X d_LW_law_479 ?_
      refine g_vi (nI (ix + 2)) (nI_add _ _) ?_
      refine s_iald X hScr d_LW_law_480 (by omega) (by omega) ?_
      refine g_i2l X d_LW_law_481 ?_
      refine g_ldc2 X d_LW_law_482 k_ct_LW_79 ?_
      refine g_land X d_LW_law_485 ?_
      refine g_lor X d_LW_law_486 ?_
      refine g_vl k (h_k) ?_
      refine g_aload_n X d_LW_law_487 1 rfl ?_
      refine g_callSW (As := [.ref x, .long k, .ref o]) (st := []) X d_LW_law_488 (c_LW_find_thr hst hs hn24 hD hM hn9 hP hc16 hI.1 hf hk9) lwN_s hNw rfl k_ml_LW_100 k_cd_LW_find k_in_LW k_st_LW_find ⟨by decide +kernel, by decide +kernel, (by decide +kernel : (parseMethodDescriptor "(LRunStore;J[J)I").map (fun d => d.parameters.length) = some 3)⟩ ⟨by omega, by omega⟩ ⟨by omega, by omega⟩ (Nat.le_of_ble_eq_true rfl) (hg_ov hn [0, 1, 2, 3, 4, 7, 8, 9, 10, 11, 12, 35] rfl) (hrx_P hn hPd [0, 1, 2, 3, 4, 7, 8, 9, 10, 11, 12, 35] rfl) (fun E g9 h => by obtain ⟨rt1, rb1, ra1, rs1, rft1, rk1, rv1, hv9, hg9⟩ := h; cases hv9) (fun v9 g9 hq hfr => ?_)
      obtain ⟨rt1, rb1, ra1, rs1, rft1, rk1, rv1, hv9, hg9⟩ := hq
      cases hv9
      subst hg9
      refine g_ovP [0, 1, 2, 3, 4, 7, 8, 9, 10, 11, 12, 35] [(x, .inr (5, [.ref xm, .ref xl, .ref xb, .ref xr, .ref xt, .int (nI c), .ref xg, .long sv, .int (ps + nI (sek tb S T D k c 0).2.2.2), .int (nI f9)])), (xm, .inr (2, [.ref m1, .ref m2, .ref m3, .int (nI n)])), (m1, .inl (.long, 24, .inr (.inl K))), (m2, .inl (.int, 24, .inl (fun q => nI (z q)))), (m3, .inl (.long, 24, .inr (.inl V))), (xl, .inr (1, [.ref l1, .int (nI u), .int (nI la), .int (nI le), .long lk, .int (nI ls), .long lw])), (l1, .inl (.byte, 1024, .inl (fun q => sb_b (L q)))), (xb, .inr (0, [.ref y, .ref s, .ref t, .int (w + nI (sek tb S T D k c 0).2.2.1)])), (y, .inl (.byte, M * 32, .inl (fun q => sb_b (D q)))), (s, .inl (.int, M, .inl S)), (t, .inl (.int, M, .inl T)), (xr, .inr (4, [.ref xb, rt1, .int (nI (b2n rb1)), .int (nI ra1), .int rft1, .long rk1, .int (nI rs1), .long rv1])), (xt, .inl (.object "RunStore$Table", 16, .inr (.inr (.inr (.inr rf))))), (xg, .inr (2, [.ref g1, .ref g2, .ref g3, .int (nI Gn)])), (g1, .inl (.long, NG, .inr (.inl GK))), (g2, .inl (.int, NG, .inl (fun q => nI (Gz q)))), (g3, .inl (.long, NG, .inr (.inl GV))), (h, .inr (6, [.int th, .int (nI M), .int (nI n), .ref y1, .ref y2, .ref y3, .int (nI u), .ref y4, .ref y5, .ref y6, .ref y7, .int (nI c), .ref y8, .ref y9, .ref y10, .ref y11, .ref y12, .int bd, .int w, .int ps, .int (nI pa), .int lc, .int (nI (b2n fb)), .long ek, .long ev, .int (nI el), .int (nI fn), .ref y13, .ref y14, .ref y15, .ref y16, .int (nI js), .ref y17, .int (nI (b2n ib))])), (y1, .inl (.long, 25, .inr (.inl K))), (y2, .inl (.long, 25, .inr (.inl V))), (y3, .inl (.int, 25, .inl (fun q => nI (z q)))), (y4, .inl (.int, 1024, .inl (fun q => nI (L q)))), (y5, .inl (.int, 4096, .inl (fun q => nI (D q)))), (y6, .inl (.int, 128, .inl S)), (y7, .inl (.boolean, 128, .inl Xt)), (y8, .inl (.int, 17, .inl (fun q => nI (lv q)))), (y9, .inl (.int, 17, .inl (fun q => nI (en q)))), (y10, .inl (.int, 17, .inl (fun q => nI (mn q)))), (y11, .inl (.int, 2176, .inl (fun q => nI (bk q)))), (y12, .inl (.long, 17, .inr (.inl fl))), (y13, .inl (.long, 500, .inr (.inl FK))), (y14, .inl (.long, 500, .inr (.inl FV))), (y15, .inl (.int, 500, .inl (fun q => nI (Fz q)))), (y16, .inl (.int, 4200, .inl (fun q => nI (J q)))), (y17, .inl (.int, 128, .inl (fun q => nI (pk q)))), (o, .inl (.long, 1, .inr (.inl O)))] rfl rfl hn ?_
      refine g_istore [(5, .int (nI 1)), (4, .int (nI ix)), (3, .ref o), (2, .ref h), (1, .ref x), (0, .ref b0)] X d_LW_law_491 (by decide) rfl ?_
      refine g_aload_n X d_LW_law_493 3 rfl ?_
      refine g_aload_n X d_LW_law_494 5 rfl ?_
      refine g_iload X d_LW_law_495 1 rfl ?_
      refine g_iconst (nI 1) X d_LW_law_497 (by decide) ?_
      refine g_iadd X d_LW_law_498 ?_
      refine g_vi (nI (ix + 1)) (nI_add _ _) ?_
      refine s_iald X hScr d_LW_law_499 (by omega) (by omega) ?_
      refine g_i2l X d_LW_law_500 ?_
      refine g_bipush (nI 32) X d_LW_law_501 (by decide) ?_
      refine g_lshl X d_LW_law_503 ?_
      refine g_aload_n X d_LW_law_504 5 rfl ?_
      refine g_iload X d_LW_law_505 1 rfl ?_
      refine g_iconst (nI 2) X d_LW_law_507 (by decide) ?_
      refine g_iadd X d_LW_law_508 ?_
      refine g_vi (nI (ix + 2)) (nI_add _ _) ?_
      refine s_iald X hScr d_LW_law_509 (by omega) (by omega) ?_
      refine g_i2l X d_LW_law_510 ?_
      refine g_ldc2 X d_LW_law_511 k_ct_LW_79 ?_
      refine g_land X d_LW_law_514 ?_
      refine g_lor X d_LW_law_515 ?_
      refine g_vl k (h_k) ?_
      refine g_callVf (As := [.long k]) (st := []) X d_LW_law_516 (c_MD_find_tab hst hnm hc16 hB hI.1 hM hI.2.2.1 hD hn24 hf) (hl_ov 17 rfl hn) rfl rfl k_ml_LW_102 k_cd_MD_find k_in_MD k_im_MD_find k_se_MD_find ⟨by decide +kernel, by decide +kernel, (by decide +kernel : (parseMethodDescriptor "(J)J").map (fun d => d.parameters.length) = some 1)⟩ ⟨by omega, by omega⟩ ⟨by omega, by omega⟩ (Nat.le_of_ble_eq_true rfl) (hg_ov hn [17, 18, 19, 20, 29, 28, 23, 22, 27, 26] rfl) hrx_0 (fun E g9 h => by obtain ⟨s9, ek9, el9, ev9, ic9, hv9, hg9, hs9⟩ := h; cases hv9) (fun v9 g9 hq hfr => ?_)
      obtain ⟨s9, ek9, el9, ev9, ic9, hv9, hg9, hs9⟩ := hq
      cases hv9
      subst hg9
      refine g_ovP [17, 18, 19, 20, 29, 28, 23, 22, 27, 26] [(x, .inr (5, [.ref xm, .ref xl, .ref xb, .ref xr, .ref xt, .int (nI c), .ref xg, .long sv, .int (ps + nI (sek tb S T D k c 0).2.2.2), .int (nI f9)])), (xm, .inr (2, [.ref m1, .ref m2, .ref m3, .int (nI n)])), (m1, .inl (.long, 24, .inr (.inl K))), (m2, .inl (.int, 24, .inl (fun q => nI (z q)))), (m3, .inl (.long, 24, .inr (.inl V))), (xl, .inr (1, [.ref l1, .int (nI u), .int (nI la), .int (nI le), .long lk, .int (nI ls), .long lw])), (l1, .inl (.byte, 1024, .inl (fun q => sb_b (L q)))), (xb, .inr (0, [.ref y, .ref s, .ref t, .int (w + nI (sek tb S T D k c 0).2.2.1)])), (y, .inl (.byte, M * 32, .inl (fun q => sb_b (D q)))), (s, .inl (.int, M, .inl S)), (t, .inl (.int, M, .inl T)), (xr, .inr (4, [.ref xb, rt1, .int (nI (b2n rb1)), .int (nI ra1), .int rft1, .long rk1, .int (nI rs1), .long rv1])), (xt, .inl (.object "RunStore$Table", 16, .inr (.inr (.inr (.inr rf))))), (xg, .inr (2, [.ref g1, .ref g2, .ref g3, .int (nI Gn)])), (g1, .inl (.long, NG, .inr (.inl GK))), (g2, .inl (.int, NG, .inl (fun q => nI (Gz q)))), (g3, .inl (.long, NG, .inr (.inl GV))), (h, .inr (6, [.int (nI (b2n (sek tb S T D k c 0).1.isSome)), .int (nI M), .int (nI n), .ref y1, .ref y2, .ref y3, .int (nI u), .ref y4, .ref y5, .ref y6, .ref y7, .int (nI c), .ref y8, .ref y9, .ref y10, .ref y11, .ref y12, .int s9.2.2.2.1, .int s9.2.2.2.2, .int (ps + nI (sek tb S T D k c 0).2.2.2), .int (nI s9.1), .int s9.2.1, .int (nI (b2n s9.2.2.1)), .long ek9, .long ev9, .int (nI el9), .int (nI fn), .ref y13, .ref y14, .ref y15, .ref y16, .int (nI js), .ref y17, .int (nI (b2n ic9))])), (y1, .inl (.long, 25, .inr (.inl K))), (y2, .inl (.long, 25, .inr (.inl V))), (y3, .inl (.int, 25, .inl (fun q => nI (z q)))), (y4, .inl (.int, 1024, .inl (fun q => nI (L q)))), (y5, .inl (.int, 4096, .inl (fun q => nI (D q)))), (y6, .inl (.int, 128, .inl S)), (y7, .inl (.boolean, 128, .inl Xt)), (y8, .inl (.int, 17, .inl (fun q => nI (lv q)))), (y9, .inl (.int, 17, .inl (fun q => nI (en q)))), (y10, .inl (.int, 17, .inl (fun q => nI (mn q)))), (y11, .inl (.int, 2176, .inl (fun q => nI (bk q)))), (y12, .inl (.long, 17, .inr (.inl fl))), (y13, .inl (.long, 500, .inr (.inl FK))), (y14, .inl (.long, 500, .inr (.inl FV))), (y15, .inl (.int, 500, .inl (fun q => nI (Fz q)))), (y16, .inl (.int, 4200, .inl (fun q => nI (J q)))), (y17, .inl (.int, 128, .inl (fun q => nI (pk q)))), (o, .inl (.long, 1, .inr (.inl O)))] rfl rfl hn ?_
      refine g_hpP (ws' := [(x, .inr (5, [.ref xm, .ref xl, .ref xb, .ref xr, .ref xt, .int (nI c), .ref xg, .long sv, .int (ps + nI (sek tb S T D k c 0).2.2.2), .int (nI f9)])), (xm, .inr (2, [.ref m1, .ref m2, .ref m3, .int (nI n)])), (m1, .inl (.long, 24, .inr (.inl K))), (m2, .inl (.int, 24, .inl (fun q => nI (z q)))), (m3, .inl (.long, 24, .inr (.inl V))), (xl, .inr (1, [.ref l1, .int (nI u), .int (nI la), .int (nI le), .long lk, .int (nI ls), .long lw])), (l1, .inl (.byte, 1024, .inl (fun q => sb_b (L q)))), (xb, .inr (0, [.ref y, .ref s, .ref t, .int (w + nI (sek tb S T D k c 0).2.2.1)])), (y, .inl (.byte, M * 32, .inl (fun q => sb_b (D q)))), (s, .inl (.int, M, .inl S)), (t, .inl (.int, M, .inl T)), (xr, .inr (4, [.ref xb, rt1, .int (nI (b2n rb1)), .int (nI ra1), .int rft1, .long rk1, .int (nI rs1), .long rv1])), (xt, .inl (.object "RunStore$Table", 16, .inr (.inr (.inr (.inr rf))))), (xg, .inr (2, [.ref g1, .ref g2, .ref g3, .int (nI Gn)])), (g1, .inl (.long, NG, .inr (.inl GK))), (g2, .inl (.int, NG, .inl (fun q => nI (Gz q)))), (g3, .inl (.long, NG, .inr (.inl GV))), (h, .inr (6, [.int (nI 1), .int (nI M), .int (nI n), .ref y1, .ref y2, .ref y3, .int (nI u), .ref y4, .ref y5, .ref y6, .ref y7, .int (nI c), .ref y8, .ref y9, .ref y10, .ref y11, .ref y12, .int (nI f9), .int (w + nI (sek tb S T D k c 0).2.2.1), .int (ps + nI (sek tb S T D k c 0).2.2.2), .int (nI s9.1), .int s9.2.1, .int (nI (b2n true)), .long ek9, .long ev9, .int (nI el9), .int (nI fn), .ref y13, .ref y14, .ref y15, .ref y16, .int (nI js), .ref y17, .int (nI (b2n ic9))])), (y1, .inl (.long, 25, .inr (.inl K))), (y2, .inl (.long, 25, .inr (.inl V))), (y3, .inl (.int, 25, .inl (fun q => nI (z q)))), (y4, .inl (.int, 1024, .inl (fun q => nI (L q)))), (y5, .inl (.int, 4096, .inl (fun q => nI (D q)))), (y6, .inl (.int, 128, .inl S)), (y7, .inl (.boolean, 128, .inl Xt)), (y8, .inl (.int, 17, .inl (fun q => nI (lv q)))), (y9, .inl (.int, 17, .inl (fun q => nI (en q)))), (y10, .inl (.int, 17, .inl (fun q => nI (mn q)))), (y11, .inl (.int, 2176, .inl (fun q => nI (bk q)))), (y12, .inl (.long, 17, .inr (.inl fl))), (y13, .inl (.long, 500, .inr (.inl FK))), (y14, .inl (.long, 500, .inr (.inl FV))), (y15, .inl (.int, 500, .inl (fun q => nI (Fz q)))), (y16, .inl (.int, 4200, .inl (fun q => nI (J q)))), (y17, .inl (.int, 128, .inl (fun q => nI (pk q)))), (o, .inl (.long, 1, .inr (.inl O)))]) (by rw [hs9, hk9]; rfl) ?_
      refine g_lstore [(6, .long (fres (sek tb S T D k c 0).2.1)), (5, .int (nI 1)), (4, .int (nI ix)), (3, .ref o), (2, .ref h), (1, .ref x), (0, .ref b0)] X d_LW_law_519 (by decide) rfl ?_
      refine g_aload_n X d_LW_law_521 4 rfl ?_
      refine g_callVf (As := []) (st := []) X d_LW_law_522 (c_MD_thrown hst hnh) (hl_ov 17 rfl hn) rfl rfl k_ml_LW_85 k_cd_MD_thrown k_in_MD k_im_MD_thrown k_se_MD_thrown ⟨by decide +kernel, by decide +kernel, (by decide +kernel : (parseMethodDescriptor "()I").map (fun d => d.parameters.length) = some 0)⟩ ⟨by omega, by omega⟩ ⟨by omega, by omega⟩ (Nat.le_of_ble_eq_true rfl) (hg_ov hn [17] rfl) hrx_0 (fun E g9 h => by obtain ⟨hv9, hg9⟩ := h; cases hv9) (fun v9 g9 hq hfr => ?_)
      obtain ⟨hv9, hg9⟩ := hq
      cases hv9
      subst hg9
      refine g_ovP [17] [(x, .inr (5, [.ref xm, .ref xl, .ref xb, .ref xr, .ref xt, .int (nI c), .ref xg, .long sv, .int (ps + nI (sek tb S T D k c 0).2.2.2), .int (nI f9)])), (xm, .inr (2, [.ref m1, .ref m2, .ref m3, .int (nI n)])), (m1, .inl (.long, 24, .inr (.inl K))), (m2, .inl (.int, 24, .inl (fun q => nI (z q)))), (m3, .inl (.long, 24, .inr (.inl V))), (xl, .inr (1, [.ref l1, .int (nI u), .int (nI la), .int (nI le), .long lk, .int (nI ls), .long lw])), (l1, .inl (.byte, 1024, .inl (fun q => sb_b (L q)))), (xb, .inr (0, [.ref y, .ref s, .ref t, .int (w + nI (sek tb S T D k c 0).2.2.1)])), (y, .inl (.byte, M * 32, .inl (fun q => sb_b (D q)))), (s, .inl (.int, M, .inl S)), (t, .inl (.int, M, .inl T)), (xr, .inr (4, [.ref xb, rt1, .int (nI (b2n rb1)), .int (nI ra1), .int rft1, .long rk1, .int (nI rs1), .long rv1])), (xt, .inl (.object "RunStore$Table", 16, .inr (.inr (.inr (.inr rf))))), (xg, .inr (2, [.ref g1, .ref g2, .ref g3, .int (nI Gn)])), (g1, .inl (.long, NG, .inr (.inl GK))), (g2, .inl (.int, NG, .inl (fun q => nI (Gz q)))), (g3, .inl (.long, NG, .inr (.inl GV))), (h, .inr (6, [.int (nI 1), .int (nI M), .int (nI n), .ref y1, .ref y2, .ref y3, .int (nI u), .ref y4, .ref y5, .ref y6, .ref y7, .int (nI c), .ref y8, .ref y9, .ref y10, .ref y11, .ref y12, .int (nI f9), .int (w + nI (sek tb S T D k c 0).2.2.1), .int (ps + nI (sek tb S T D k c 0).2.2.2), .int (nI s9.1), .int s9.2.1, .int (nI (b2n true)), .long ek9, .long ev9, .int (nI el9), .int (nI fn), .ref y13, .ref y14, .ref y15, .ref y16, .int (nI js), .ref y17, .int (nI (b2n ic9))])), (y1, .inl (.long, 25, .inr (.inl K))), (y2, .inl (.long, 25, .inr (.inl V))), (y3, .inl (.int, 25, .inl (fun q => nI (z q)))), (y4, .inl (.int, 1024, .inl (fun q => nI (L q)))), (y5, .inl (.int, 4096, .inl (fun q => nI (D q)))), (y6, .inl (.int, 128, .inl S)), (y7, .inl (.boolean, 128, .inl Xt)), (y8, .inl (.int, 17, .inl (fun q => nI (lv q)))), (y9, .inl (.int, 17, .inl (fun q => nI (en q)))), (y10, .inl (.int, 17, .inl (fun q => nI (mn q)))), (y11, .inl (.int, 2176, .inl (fun q => nI (bk q)))), (y12, .inl (.long, 17, .inr (.inl fl))), (y13, .inl (.long, 500, .inr (.inl FK))), (y14, .inl (.long, 500, .inr (.inl FV))), (y15, .inl (.int, 500, .inl (fun q => nI (Fz q)))), (y16, .inl (.int, 4200, .inl (fun q => nI (J q)))), (y17, .inl (.int, 128, .inl (fun q => nI (pk q)))), (o, .inl (.long, 1, .inr (.inl O)))] rfl rfl hn ?_
      refine g_iload X d_LW_law_525 1 rfl ?_
      refine g_icmp_eq 532 X d_LW_law_527 (by decide) (fun h527 => ?_) (fun h527 => ?_)
      · have h527 := cv_eq (by omega) (by omega) h527
        refine g_iload X d_LW_law_532 1 rfl ?_
        refine g_if_ne 548 X d_LW_law_534 (by decide) (fun h534 => ?_) (fun h534 => ?_)
        · have h534 := cv_n0 (by omega) h534
          refine g_goto 1292 X d_LW_law_548 (by decide) ?_
          refine g_lv [2, 3, 4, 5, 6] [(4, .int (nI ix)), (3, .ref o), (2, .ref h), (1, .ref x), (0, .ref b0)] rfl ?_
          refine g_widen (ce' := ce + 5) (sl' := sl + 150) (by omega) (by omega) ?_
          exact kk _ ⟨_, _, _, _, _, _, _, _, _, _, _, _, _, _, _, _, _, _, _, _, _, _, _, _, _, _, _, _, _, _, _, _, _, _, _, _, _, _, _, _, _, _, _, _, _, _, _, _, _, _, _, _, _, _, _, _, _, rfl, hn24, hs, hz, hu, hL, hD, hc16, hP, hI, hB, hX, hPd⟩
        · have h534 := cv_e0 (by omega) h534
          omega
      · have h527 := cv_ne (by omega) (by omega) h527
        omega

set_option maxRecDepth 100000 in
set_option maxHeartbeats 4000000 in
theorem law_length {mp : Program} {l : Launch} {me : Env} {mR : Room} {sm : State} {mm : MethodId} {margs : Array Value} {mbel : List Frame} {mmet : Method} {mcod : Code} {mD : va_G} {f9 : fh_M} {Q9 : State → Prop} {ce sl b0 Ls ix : Nat} {xs : Nat → Int32} (X : fh_X mp l sm mm margs mmet mcod mD fhCl fhT f9 (hp []) y_LW_law.cls b_LW_law 8) (hScr : lwX sm f9 b0 Ls xs) (hst : l.stackTraces = false) (hNw : lwN sm) (hRf : 12 ≤ mR.frames) (hRl : 438 ≤ mR.locals) (hRc : ce + 5 ≤ mR.cells) (hRs : sl + 150 ≤ mR.slots) {M NG x xm m1 m2 m3 xl l1 xb y s t xr xt xg g1 g2 g3 h y1 y2 y3 y4 y5 y6 y7 y8 y9 y10 y11 y12 y13 y14 y15 y16 y17 o : Nat} (hM4 : 4 ≤ M) (hM : M ≤ 128) (hNGe : NG = 24 + M * 32 / 9) (hn : [x, xm, m1, m2, m3, xl, l1, xb, y, s, t, xr, xt, xg, g1, g2, g3, h, y1, y2, y3, y4, y5, y6, y7, y8, y9, y10, y11, y12, y13, y14, y15, y16, y17, o].Nodup) (hLs : Ls ≤ 3073) (hix : ix + 5 < Ls) {f : fh_M} (hS : lwS M NG x xm m1 m2 m3 xl l1 xb y s t xr xt xg g1 g2 g3 h y1 y2 y3 y4 y5 y6 y7 y8 y9 y10 y11 y12 y13 y14 y15 y16 y17 o f)  (kk : ∀ f, lwS M NG x xm m1 m2 m3 xl l1 xb y s t xr xt xg g1 g2 g3 h y1 y2 y3 y4 y5 y6 y7 y8 y9 y10 y11 y12 y13 y14 y15 y16 y17 o f → fh_G mp l me mR sm mm margs mbel mmet mcod mD fhCl f9 8 Q9 (ce + 5) (sl + 150) f 1292 [(4, .int (nI ix)), (3, .ref o), (2, .ref h), (1, .ref x), (0, .ref b0)] []) : fh_G mp l me mR sm mm margs mbel mmet mcod mD fhCl f9 8 Q9 (ce) (sl) f 551 [(4, .int (nI ix)), (3, .ref o), (2, .ref h), (1, .ref x), (0, .ref b0)] [] := by
  refine lwS_elim (C9 := fun f => fh_G mp l me mR sm mm margs mbel mmet mcod mD fhCl f9 8 Q9 (ce) (sl) f 551 [(4, .int (nI ix)), (3, .ref o), (2, .ref h), (1, .ref x), (0, .ref b0)] []) hS (fun K z V n L u D S T tb c ps bd w sv la le lk ls lw rt rb ra rft rk rs rv rf tq ti P GK Gz GV Gn th pa lc fb ek ev el fn js ib Xt lv en mn fl bk FK FV Fz J pk O hn24 hs hz hu hL hD hc16 hP hI hB hX hPd => ?_)
  show fh_G mp l me mR sm mm margs mbel mmet mcod mD fhCl f9 8 Q9 (ce) (sl) (fh_ov (hp [(x, .inr (5, [.ref xm, .ref xl, .ref xb, .ref xr, .ref xt, .int (nI c), .ref xg, .long sv, .int ps, .int bd])), (xm, .inr (2, [.ref m1, .ref m2, .ref m3, .int (nI n)])), (m1, .inl (.long, 24, .inr (.inl K))), (m2, .inl (.int, 24, .inl (fun q => nI (z q)))), (m3, .inl (.long, 24, .inr (.inl V))), (xl, .inr (1, [.ref l1, .int (nI u), .int (nI la), .int (nI le), .long lk, .int (nI ls), .long lw])), (l1, .inl (.byte, 1024, .inl (fun q => sb_b (L q)))), (xb, .inr (0, [.ref y, .ref s, .ref t, .int w])), (y, .inl (.byte, M * 32, .inl (fun q => sb_b (D q)))), (s, .inl (.int, M, .inl S)), (t, .inl (.int, M, .inl T)), (xr, .inr (4, [.ref xb, rt, .int (nI (b2n rb)), .int (nI ra), .int rft, .long rk, .int (nI rs), .long rv])), (xt, .inl (.object "RunStore$Table", 16, .inr (.inr (.inr (.inr rf))))), (xg, .inr (2, [.ref g1, .ref g2, .ref g3, .int (nI Gn)])), (g1, .inl (.long, NG, .inr (.inl GK))), (g2, .inl (.int, NG, .inl (fun q => nI (Gz q)))), (g3, .inl (.long, NG, .inr (.inl GV))), (h, .inr (6, [.int th, .int (nI M), .int (nI n), .ref y1, .ref y2, .ref y3, .int (nI u), .ref y4, .ref y5, .ref y6, .ref y7, .int (nI c), .ref y8, .ref y9, .ref y10, .ref y11, .ref y12, .int bd, .int w, .int ps, .int (nI pa), .int lc, .int (nI (b2n fb)), .long ek, .long ev, .int (nI el), .int (nI fn), .ref y13, .ref y14, .ref y15, .ref y16, .int (nI js), .ref y17, .int (nI (b2n ib))])), (y1, .inl (.long, 25, .inr (.inl K))), (y2, .inl (.long, 25, .inr (.inl V))), (y3, .inl (.int, 25, .inl (fun q => nI (z q)))), (y4, .inl (.int, 1024, .inl (fun q => nI (L q)))), (y5, .inl (.int, 4096, .inl (fun q => nI (D q)))), (y6, .inl (.int, 128, .inl S)), (y7, .inl (.boolean, 128, .inl Xt)), (y8, .inl (.int, 17, .inl (fun q => nI (lv q)))), (y9, .inl (.int, 17, .inl (fun q => nI (en q)))), (y10, .inl (.int, 17, .inl (fun q => nI (mn q)))), (y11, .inl (.int, 2176, .inl (fun q => nI (bk q)))), (y12, .inl (.long, 17, .inr (.inl fl))), (y13, .inl (.long, 500, .inr (.inl FK))), (y14, .inl (.long, 500, .inr (.inl FV))), (y15, .inl (.int, 500, .inl (fun q => nI (Fz q)))), (y16, .inl (.int, 4200, .inl (fun q => nI (J q)))), (y17, .inl (.int, 128, .inl (fun q => nI (pk q)))), (o, .inl (.long, 1, .inr (.inl O)))]) P) 551 [(4, .int (nI ix)), (3, .ref o), (2, .ref h), (1, .ref x), (0, .ref b0)] []
  have hnh : [h].Nodup := nd_pick [x, xm, m1, m2, m3, xl, l1, xb, y, s, t, xr, xt, xg, g1, g2, g3, h, y1, y2, y3, y4, y5, y6, y7, y8, y9, y10, y11, y12, y13, y14, y15, y16, y17, o] [17] 36 hn (by decide) rfl (by decide)
  have hnm : [h, y1, y2, y3, y12, y11, y6, y5, y10, y9].Nodup := nd_pick [x, xm, m1, m2, m3, xl, l1, xb, y, s, t, xr, xt, xg, g1, g2, g3, h, y1, y2, y3, y4, y5, y6, y7, y8, y9, y10, y11, y12, y13, y14, y15, y16, y17, o] [17, 18, 19, 20, 29, 28, 23, 22, 27, 26] 36 hn (by decide) rfl (by decide)
  obtain ⟨k, h_k⟩ : ∃ k, lg2 (xs (ix + 1)) (xs (ix + 2)) = k := ⟨_, rfl⟩
  by_cases hf : plc K k n < n ∧ K (plc K k n) = k
  · have hn9 : [x, xm, m1, m2, m3, xb, y, s, t, xr, xt, o].Nodup := nd_pick [x, xm, m1, m2, m3, xl, l1, xb, y, s, t, xr, xt, xg, g1, g2, g3, h, y1, y2, y3, y4, y5, y6, y7, y8, y9, y10, y11, y12, y13, y14, y15, y16, y17, o] [0, 1, 2, 3, 4, 7, 8, 9, 10, 11, 12, 35] 36 hn (by decide) rfl (by decide)
    refine g_aload_n X d_LW_law_551 3 rfl ?_
    refine g_aload_n X d_LW_law_552 4 rfl ?_
    refine g_iload X d_LW_law_553 0 rfl ?_
    refine g_iconst (nI 1) X d_LW_law_555 (by decide) ?_
    refine g_iadd X d_LW_law_556 ?_
    refine g_vi (nI (ix + 1)) (nI_add _ _) ?_
    refine s_iald X hScr d_LW_law_557 (by omega) (by omega) ?_
    refine g_i2l X d_LW_law_558 ?_
    refine g_bipush (nI 32) X d_LW_law_559 (by decide) ?_
    refine g_lshl X d_LW_law_561 ?_
    refine g_aload_n X d_LW_law_562 4 rfl ?_
    refine g_iload X d_LW_law_563 0 rfl ?_
    refine g_iconst (nI 2) X d_LW_law_565 (by decide) ?_
    refine g_iadd X d_LW_law_566 ?_
    refine g_vi (nI (ix + 2)) (nI_add _ _) ?_
    refine s_iald X hScr d_LW_law_567 (by omega) (by omega) ?_
    refine g_i2l X d_LW_law_568 ?_
    refine g_ldc2 X d_LW_law_569 k_ct_LW_79 ?_
    refine g_land X d_LW_law_572 ?_
    refine g_lor X d_LW_law_573 ?_
    refine g_vl k (h_k) ?_
    refine g_aload_n X d_LW_law_574 1 rfl ?_
    refine g_callSW (As := [.ref x, .long k, .ref o]) (st := []) X d_LW_law_575 (c_LW_length_mem hst hs hn24 hD hM hn9 hz hf) lwN_s hNw rfl k_ml_LW_103 k_cd_LW_length k_in_LW k_st_LW_length ⟨by decide +kernel, by decide +kernel, (by decide +kernel : (parseMethodDescriptor "(LRunStore;J[J)I").map (fun d => d.parameters.length) = some 3)⟩ ⟨by omega, by omega⟩ ⟨by omega, by omega⟩ (Nat.le_of_ble_eq_true rfl) (hg_ov hn [0, 1, 2, 3, 4, 7, 8, 9, 10, 11, 12, 35] rfl) (hrx_P hn hPd [0, 1, 2, 3, 4, 7, 8, 9, 10, 11, 12, 35] rfl) (fun E g9 h => by obtain ⟨hv9, hg9⟩ := h; cases hv9) (fun v9 g9 hq hfr => ?_)
    obtain ⟨hv9, hg9⟩ := hq
    cases hv9
    subst hg9
    refine g_ovP [0, 1, 2, 3, 4, 7, 8, 9, 10, 11, 12, 35] [(x, .inr (5, [.ref xm, .ref xl, .ref xb, .ref xr, .ref xt, .int (nI c), .ref xg, .long (V (plc K k n)), .int ps, .int (-1)])), (xm, .inr (2, [.ref m1, .ref m2, .ref m3, .int (nI n)])), (m1, .inl (.long, 24, .inr (.inl K))), (m2, .inl (.int, 24, .inl (fun q => nI (z q)))), (m3, .inl (.long, 24, .inr (.inl V))), (xl, .inr (1, [.ref l1, .int (nI u), .int (nI la), .int (nI le), .long lk, .int (nI ls), .long lw])), (l1, .inl (.byte, 1024, .inl (fun q => sb_b (L q)))), (xb, .inr (0, [.ref y, .ref s, .ref t, .int w])), (y, .inl (.byte, M * 32, .inl (fun q => sb_b (D q)))), (s, .inl (.int, M, .inl S)), (t, .inl (.int, M, .inl T)), (xr, .inr (4, [.ref xb, rt, .int (nI (b2n rb)), .int (nI ra), .int rft, .long rk, .int (nI rs), .long rv])), (xt, .inl (.object "RunStore$Table", 16, .inr (.inr (.inr (.inr rf))))), (xg, .inr (2, [.ref g1, .ref g2, .ref g3, .int (nI Gn)])), (g1, .inl (.long, NG, .inr (.inl GK))), (g2, .inl (.int, NG, .inl (fun q => nI (Gz q)))), (g3, .inl (.long, NG, .inr (.inl GV))), (h, .inr (6, [.int th, .int (nI M), .int (nI n), .ref y1, .ref y2, .ref y3, .int (nI u), .ref y4, .ref y5, .ref y6, .ref y7, .int (nI c), .ref y8, .ref y9, .ref y10, .ref y11, .ref y12, .int bd, .int w, .int ps, .int (nI pa), .int lc, .int (nI (b2n fb)), .long ek, .long ev, .int (nI el), .int (nI fn), .ref y13, .ref y14, .ref y15, .ref y16, .int (nI js), .ref y17, .int (nI (b2n ib))])), (y1, .inl (.long, 25, .inr (.inl K))), (y2, .inl (.long, 25, .inr (.inl V))), (y3, .inl (.int, 25, .inl (fun q => nI (z q)))), (y4, .inl (.int, 1024, .inl (fun q => nI (L q)))), (y5, .inl (.int, 4096, .inl (fun q => nI (D q)))), (y6, .inl (.int, 128, .inl S)), (y7, .inl (.boolean, 128, .inl Xt)), (y8, .inl (.int, 17, .inl (fun q => nI (lv q)))), (y9, .inl (.int, 17, .inl (fun q => nI (en q)))), (y10, .inl (.int, 17, .inl (fun q => nI (mn q)))), (y11, .inl (.int, 2176, .inl (fun q => nI (bk q)))), (y12, .inl (.long, 17, .inr (.inl fl))), (y13, .inl (.long, 500, .inr (.inl FK))), (y14, .inl (.long, 500, .inr (.inl FV))), (y15, .inl (.int, 500, .inl (fun q => nI (Fz q)))), (y16, .inl (.int, 4200, .inl (fun q => nI (J q)))), (y17, .inl (.int, 128, .inl (fun q => nI (pk q)))), (o, .inl (.long, 1, .inr (.inl (va_up O 0 ((sres (some ((z (plc K k n)), (V (plc K k n))))).toInt64)))))] rfl rfl hn ?_
    refine g_istore [(5, .int (nI 0)), (4, .int (nI ix)), (3, .ref o), (2, .ref h), (1, .ref x), (0, .ref b0)] X d_LW_law_578 (by decide) rfl ?_
    refine g_aload_n X d_LW_law_580 3 rfl ?_
    refine g_aload_n X d_LW_law_581 5 rfl ?_
    refine g_iload X d_LW_law_582 1 rfl ?_
    refine g_iconst (nI 1) X d_LW_law_584 (by decide) ?_
    refine g_iadd X d_LW_law_585 ?_
    refine g_vi (nI (ix + 1)) (nI_add _ _) ?_
    refine s_iald X hScr d_LW_law_586 (by omega) (by omega) ?_
    refine g_i2l X d_LW_law_587 ?_
    refine g_bipush (nI 32) X d_LW_law_588 (by decide) ?_
    refine g_lshl X d_LW_law_590 ?_
    refine g_aload_n X d_LW_law_591 5 rfl ?_
    refine g_iload X d_LW_law_592 1 rfl ?_
    refine g_iconst (nI 2) X d_LW_law_594 (by decide) ?_
    refine g_iadd X d_LW_law_595 ?_
    refine g_vi (nI (ix + 2)) (nI_add _ _) ?_
    refine s_iald X hScr d_LW_law_596 (by omega) (by omega) ?_
    refine g_i2l X d_LW_law_597 ?_
    refine g_ldc2 X d_LW_law_598 k_ct_LW_79 ?_
    refine g_land X d_LW_law_601 ?_
    refine g_lor X d_LW_law_602 ?_
    refine g_vl k (h_k) ?_
    refine g_callVf (As := [.long k]) (st := []) X d_LW_law_603 (c_MD_length_mem hst hnm hn24 hz hf) (hl_ov 17 rfl hn) rfl rfl k_ml_LW_105 k_cd_MD_length k_in_MD k_im_MD_length k_se_MD_length ⟨by decide +kernel, by decide +kernel, (by decide +kernel : (parseMethodDescriptor "(J)I").map (fun d => d.parameters.length) = some 1)⟩ ⟨by omega, by omega⟩ ⟨by omega, by omega⟩ (Nat.le_of_ble_eq_true rfl) (hg_ov hn [17, 18, 19, 20, 29, 28, 23, 22, 27, 26] rfl) hrx_0 (fun E g9 h => by obtain ⟨hv9, hg9⟩ := h; cases hv9) (fun v9 g9 hq hfr => ?_)
    obtain ⟨hv9, hg9⟩ := hq
    cases hv9
    subst hg9
    refine g_ovP [17, 18, 19, 20, 29, 28, 23, 22, 27, 26] [(x, .inr (5, [.ref xm, .ref xl, .ref xb, .ref xr, .ref xt, .int (nI c), .ref xg, .long (V (plc K k n)), .int ps, .int (-1)])), (xm, .inr (2, [.ref m1, .ref m2, .ref m3, .int (nI n)])), (m1, .inl (.long, 24, .inr (.inl K))), (m2, .inl (.int, 24, .inl (fun q => nI (z q)))), (m3, .inl (.long, 24, .inr (.inl V))), (xl, .inr (1, [.ref l1, .int (nI u), .int (nI la), .int (nI le), .long lk, .int (nI ls), .long lw])), (l1, .inl (.byte, 1024, .inl (fun q => sb_b (L q)))), (xb, .inr (0, [.ref y, .ref s, .ref t, .int w])), (y, .inl (.byte, M * 32, .inl (fun q => sb_b (D q)))), (s, .inl (.int, M, .inl S)), (t, .inl (.int, M, .inl T)), (xr, .inr (4, [.ref xb, rt, .int (nI (b2n rb)), .int (nI ra), .int rft, .long rk, .int (nI rs), .long rv])), (xt, .inl (.object "RunStore$Table", 16, .inr (.inr (.inr (.inr rf))))), (xg, .inr (2, [.ref g1, .ref g2, .ref g3, .int (nI Gn)])), (g1, .inl (.long, NG, .inr (.inl GK))), (g2, .inl (.int, NG, .inl (fun q => nI (Gz q)))), (g3, .inl (.long, NG, .inr (.inl GV))), (h, .inr (6, [.int (nI 0), .int (nI M), .int (nI n), .ref y1, .ref y2, .ref y3, .int (nI u), .ref y4, .ref y5, .ref y6, .ref y7, .int (nI c), .ref y8, .ref y9, .ref y10, .ref y11, .ref y12, .int (-1), .int w, .int ps, .int (nI pa), .int lc, .int (nI 0), .long ek, .long (V (plc K k n)), .int (nI (z (plc K k n))), .int (nI fn), .ref y13, .ref y14, .ref y15, .ref y16, .int (nI js), .ref y17, .int (nI (b2n ib))])), (y1, .inl (.long, 25, .inr (.inl K))), (y2, .inl (.long, 25, .inr (.inl V))), (y3, .inl (.int, 25, .inl (fun q => nI (z q)))), (y4, .inl (.int, 1024, .inl (fun q => nI (L q)))), (y5, .inl (.int, 4096, .inl (fun q => nI (D q)))), (y6, .inl (.int, 128, .inl S)), (y7, .inl (.boolean, 128, .inl Xt)), (y8, .inl (.int, 17, .inl (fun q => nI (lv q)))), (y9, .inl (.int, 17, .inl (fun q => nI (en q)))), (y10, .inl (.int, 17, .inl (fun q => nI (mn q)))), (y11, .inl (.int, 2176, .inl (fun q => nI (bk q)))), (y12, .inl (.long, 17, .inr (.inl fl))), (y13, .inl (.long, 500, .inr (.inl FK))), (y14, .inl (.long, 500, .inr (.inl FV))), (y15, .inl (.int, 500, .inl (fun q => nI (Fz q)))), (y16, .inl (.int, 4200, .inl (fun q => nI (J q)))), (y17, .inl (.int, 128, .inl (fun q => nI (pk q)))), (o, .inl (.long, 1, .inr (.inl (va_up O 0 ((sres (some ((z (plc K k n)), (V (plc K k n))))).toInt64)))))] rfl rfl hn ?_
    refine g_hpP (ws' := [(x, .inr (5, [.ref xm, .ref xl, .ref xb, .ref xr, .ref xt, .int (nI c), .ref xg, .long (V (plc K k n)), .int ps, .int (-1)])), (xm, .inr (2, [.ref m1, .ref m2, .ref m3, .int (nI n)])), (m1, .inl (.long, 24, .inr (.inl K))), (m2, .inl (.int, 24, .inl (fun q => nI (z q)))), (m3, .inl (.long, 24, .inr (.inl V))), (xl, .inr (1, [.ref l1, .int (nI u), .int (nI la), .int (nI le), .long lk, .int (nI ls), .long lw])), (l1, .inl (.byte, 1024, .inl (fun q => sb_b (L q)))), (xb, .inr (0, [.ref y, .ref s, .ref t, .int w])), (y, .inl (.byte, M * 32, .inl (fun q => sb_b (D q)))), (s, .inl (.int, M, .inl S)), (t, .inl (.int, M, .inl T)), (xr, .inr (4, [.ref xb, rt, .int (nI (b2n rb)), .int (nI ra), .int rft, .long rk, .int (nI rs), .long rv])), (xt, .inl (.object "RunStore$Table", 16, .inr (.inr (.inr (.inr rf))))), (xg, .inr (2, [.ref g1, .ref g2, .ref g3, .int (nI Gn)])), (g1, .inl (.long, NG, .inr (.inl GK))), (g2, .inl (.int, NG, .inl (fun q => nI (Gz q)))), (g3, .inl (.long, NG, .inr (.inl GV))), (h, .inr (6, [.int (nI 0), .int (nI M), .int (nI n), .ref y1, .ref y2, .ref y3, .int (nI u), .ref y4, .ref y5, .ref y6, .ref y7, .int (nI c), .ref y8, .ref y9, .ref y10, .ref y11, .ref y12, .int (-1), .int w, .int ps, .int (nI pa), .int lc, .int (nI (b2n false)), .long ek, .long (V (plc K k n)), .int (nI (z (plc K k n))), .int (nI fn), .ref y13, .ref y14, .ref y15, .ref y16, .int (nI js), .ref y17, .int (nI (b2n ib))])), (y1, .inl (.long, 25, .inr (.inl K))), (y2, .inl (.long, 25, .inr (.inl V))), (y3, .inl (.int, 25, .inl (fun q => nI (z q)))), (y4, .inl (.int, 1024, .inl (fun q => nI (L q)))), (y5, .inl (.int, 4096, .inl (fun q => nI (D q)))), (y6, .inl (.int, 128, .inl S)), (y7, .inl (.boolean, 128, .inl Xt)), (y8, .inl (.int, 17, .inl (fun q => nI (lv q)))), (y9, .inl (.int, 17, .inl (fun q => nI (en q)))), (y10, .inl (.int, 17, .inl (fun q => nI (mn q)))), (y11, .inl (.int, 2176, .inl (fun q => nI (bk q)))), (y12, .inl (.long, 17, .inr (.inl fl))), (y13, .inl (.long, 500, .inr (.inl FK))), (y14, .inl (.long, 500, .inr (.inl FV))), (y15, .inl (.int, 500, .inl (fun q => nI (Fz q)))), (y16, .inl (.int, 4200, .inl (fun q => nI (J q)))), (y17, .inl (.int, 128, .inl (fun q => nI (pk q)))), (o, .inl (.long, 1, .inr (.inl (va_up O 0 ((sres (some ((z (plc K k n)), (V (plc K k n))))).toInt64)))))]) (rfl) ?_
    refine g_istore [(6, .int (sres (some (z (plc K k n), V (plc K k n))))), (5, .int (nI 0)), (4, .int (nI ix)), (3, .ref o), (2, .ref h), (1, .ref x), (0, .ref b0)] X d_LW_law_606 (by decide) rfl ?_
    refine g_aload_n X d_LW_law_608 4 rfl ?_
    refine g_callVf (As := []) (st := []) X d_LW_law_609 (c_MD_thrown hst hnh) (hl_ov 17 rfl hn) rfl rfl k_ml_LW_85 k_cd_MD_thrown k_in_MD k_im_MD_thrown k_se_MD_thrown ⟨by decide +kernel, by decide +kernel, (by decide +kernel : (parseMethodDescriptor "()I").map (fun d => d.parameters.length) = some 0)⟩ ⟨by omega, by omega⟩ ⟨by omega, by omega⟩ (Nat.le_of_ble_eq_true rfl) (hg_ov hn [17] rfl) hrx_0 (fun E g9 h => by obtain ⟨hv9, hg9⟩ := h; cases hv9) (fun v9 g9 hq hfr => ?_)
    obtain ⟨hv9, hg9⟩ := hq
    cases hv9
    subst hg9
    refine g_ovP [17] [(x, .inr (5, [.ref xm, .ref xl, .ref xb, .ref xr, .ref xt, .int (nI c), .ref xg, .long (V (plc K k n)), .int ps, .int (-1)])), (xm, .inr (2, [.ref m1, .ref m2, .ref m3, .int (nI n)])), (m1, .inl (.long, 24, .inr (.inl K))), (m2, .inl (.int, 24, .inl (fun q => nI (z q)))), (m3, .inl (.long, 24, .inr (.inl V))), (xl, .inr (1, [.ref l1, .int (nI u), .int (nI la), .int (nI le), .long lk, .int (nI ls), .long lw])), (l1, .inl (.byte, 1024, .inl (fun q => sb_b (L q)))), (xb, .inr (0, [.ref y, .ref s, .ref t, .int w])), (y, .inl (.byte, M * 32, .inl (fun q => sb_b (D q)))), (s, .inl (.int, M, .inl S)), (t, .inl (.int, M, .inl T)), (xr, .inr (4, [.ref xb, rt, .int (nI (b2n rb)), .int (nI ra), .int rft, .long rk, .int (nI rs), .long rv])), (xt, .inl (.object "RunStore$Table", 16, .inr (.inr (.inr (.inr rf))))), (xg, .inr (2, [.ref g1, .ref g2, .ref g3, .int (nI Gn)])), (g1, .inl (.long, NG, .inr (.inl GK))), (g2, .inl (.int, NG, .inl (fun q => nI (Gz q)))), (g3, .inl (.long, NG, .inr (.inl GV))), (h, .inr (6, [.int (nI 0), .int (nI M), .int (nI n), .ref y1, .ref y2, .ref y3, .int (nI u), .ref y4, .ref y5, .ref y6, .ref y7, .int (nI c), .ref y8, .ref y9, .ref y10, .ref y11, .ref y12, .int (-1), .int w, .int ps, .int (nI pa), .int lc, .int (nI (b2n false)), .long ek, .long (V (plc K k n)), .int (nI (z (plc K k n))), .int (nI fn), .ref y13, .ref y14, .ref y15, .ref y16, .int (nI js), .ref y17, .int (nI (b2n ib))])), (y1, .inl (.long, 25, .inr (.inl K))), (y2, .inl (.long, 25, .inr (.inl V))), (y3, .inl (.int, 25, .inl (fun q => nI (z q)))), (y4, .inl (.int, 1024, .inl (fun q => nI (L q)))), (y5, .inl (.int, 4096, .inl (fun q => nI (D q)))), (y6, .inl (.int, 128, .inl S)), (y7, .inl (.boolean, 128, .inl Xt)), (y8, .inl (.int, 17, .inl (fun q => nI (lv q)))), (y9, .inl (.int, 17, .inl (fun q => nI (en q)))), (y10, .inl (.int, 17, .inl (fun q => nI (mn q)))), (y11, .inl (.int, 2176, .inl (fun q => nI (bk q)))), (y12, .inl (.long, 17, .inr (.inl fl))), (y13, .inl (.long, 500, .inr (.inl FK))), (y14, .inl (.long, 500, .inr (.inl FV))), (y15, .inl (.int, 500, .inl (fun q => nI (Fz q)))), (y16, .inl (.int, 4200, .inl (fun q => nI (J q)))), (y17, .inl (.int, 128, .inl (fun q => nI (pk q)))), (o, .inl (.long, 1, .inr (.inl (va_up O 0 ((sres (some ((z (plc K k n)), (V (plc K k n))))).toInt64)))))] rfl rfl hn ?_
    refine g_iload X d_LW_law_612 1 rfl ?_
    refine g_icmp_eq 619 X d_LW_law_614 (by decide) (fun h614 => ?_) (fun h614 => ?_)
    · have h614 := cv_eq (by omega) (by omega) h614
      refine g_iload X d_LW_law_619 1 rfl ?_
      refine g_if_ne 636 X d_LW_law_621 (by decide) (fun h621 => ?_) (fun h621 => ?_)
      · have h621 := cv_n0 (by omega) h621
        omega
      · have h621 := cv_e0 (by omega) h621
        refine g_aload_n X d_LW_law_624 3 rfl ?_
        refine g_iconst (nI 0) X d_LW_law_625 (by decide) ?_
        refine h_lald X d_LW_law_626 (hl_ov 35 rfl hn) (by omega) (by omega) ?_
        refine g_iload X d_LW_law_627 0 rfl ?_
        refine g_i2l X d_LW_law_629 ?_
        refine g_lcmp X d_LW_law_630 ?_
        refine g_if_eq 636 X d_LW_law_631 (by decide) (fun h631 => ?_) (fun h631 => ?_)
        · have h631 := (lg_cmp_eq ((va_up O 0 ((sres (some ((z (plc K k n)), (V (plc K k n))))).toInt64)) 0) ((sres (some (z (plc K k n), V (plc K k n)))).toInt64)).mp h631
          refine g_goto 1292 X d_LW_law_636 (by decide) ?_
          refine g_lv [2, 3, 4, 5, 6] [(4, .int (nI ix)), (3, .ref o), (2, .ref h), (1, .ref x), (0, .ref b0)] rfl ?_
          refine g_widen (ce' := ce + 5) (sl' := sl + 150) (by omega) (by omega) ?_
          exact kk _ ⟨_, _, _, _, _, _, _, _, _, _, _, _, _, _, _, _, _, _, _, _, _, _, _, _, _, _, _, _, _, _, _, _, _, _, _, _, _, _, _, _, _, _, _, _, _, _, _, _, _, _, _, _, _, _, _, _, _, rfl, hn24, hs, hz, hu, hL, hD, hc16, hP, hI, hB, hX, hPd⟩
        · have h631 := fun z8 => h631 ((lg_cmp_eq ((va_up O 0 ((sres (some ((z (plc K k n)), (V (plc K k n))))).toInt64)) 0) ((sres (some (z (plc K k n), V (plc K k n)))).toInt64)).mpr z8)
          exact absurd (va_up_self _ _ _) h631
    · have h614 := cv_ne (by omega) (by omega) h614
      omega
  · cases hk9 : (sek tb S T D k c 0).1 with
    | none =>
      have hn9 : [x, xm, m1, m2, m3, xb, y, s, t, xr, xt, o].Nodup := nd_pick [x, xm, m1, m2, m3, xl, l1, xb, y, s, t, xr, xt, xg, g1, g2, g3, h, y1, y2, y3, y4, y5, y6, y7, y8, y9, y10, y11, y12, y13, y14, y15, y16, y17, o] [0, 1, 2, 3, 4, 7, 8, 9, 10, 11, 12, 35] 36 hn (by decide) rfl (by decide)
      refine g_aload_n X d_LW_law_551 3 rfl ?_
      refine g_aload_n X d_LW_law_552 4 rfl ?_
      refine g_iload X d_LW_law_553 0 rfl ?_
      refine g_iconst (nI 1) X d_LW_law_555 (by decide) ?_
      refine g_iadd X d_LW_law_556 ?_
      refine g_vi (nI (ix + 1)) (nI_add _ _) ?_
      refine s_iald X hScr d_LW_law_557 (by omega) (by omega) ?_
      refine g_i2l X d_LW_law_558 ?_
      refine g_bipush (nI 32) X d_LW_law_559 (by decide) ?_
      refine g_lshl X d_LW_law_561 ?_
      refine g_aload_n X d_LW_law_562 4 rfl ?_
      refine g_iload X d_LW_law_563 0 rfl ?_
      refine g_iconst (nI 2) X d_LW_law_565 (by decide) ?_
      refine g_iadd X d_LW_law_566 ?_
      refine g_vi (nI (ix + 2)) (nI_add _ _) ?_
      refine s_iald X hScr d_LW_law_567 (by omega) (by omega) ?_
      refine g_i2l X d_LW_law_568 ?_
      refine g_ldc2 X d_LW_law_569 k_ct_LW_79 ?_
      refine g_land X d_LW_law_572 ?_
      refine g_lor X d_LW_law_573 ?_
      refine g_vl k (h_k) ?_
      refine g_aload_n X d_LW_law_574 1 rfl ?_
      refine g_callSW (As := [.ref x, .long k, .ref o]) (st := []) X d_LW_law_575 (c_LW_length_tab hst hs hn24 hD hM hn9 hP hc16 hI.1 hf hk9) lwN_s hNw rfl k_ml_LW_103 k_cd_LW_length k_in_LW k_st_LW_length ⟨by decide +kernel, by decide +kernel, (by decide +kernel : (parseMethodDescriptor "(LRunStore;J[J)I").map (fun d => d.parameters.length) = some 3)⟩ ⟨by omega, by omega⟩ ⟨by omega, by omega⟩ (Nat.le_of_ble_eq_true rfl) (hg_ov hn [0, 1, 2, 3, 4, 7, 8, 9, 10, 11, 12, 35] rfl) (hrx_P hn hPd [0, 1, 2, 3, 4, 7, 8, 9, 10, 11, 12, 35] rfl) (fun E g9 h => by obtain ⟨rt1, rb1, ra1, rs1, rft1, rk1, rv1, hv9, hg9⟩ := h; cases hv9) (fun v9 g9 hq hfr => ?_)
      obtain ⟨rt1, rb1, ra1, rs1, rft1, rk1, rv1, hv9, hg9⟩ := hq
      cases hv9
      subst hg9
      refine g_ovP [0, 1, 2, 3, 4, 7, 8, 9, 10, 11, 12, 35] [(x, .inr (5, [.ref xm, .ref xl, .ref xb, .ref xr, .ref xt, .int (nI c), .ref xg, .long (sval sv (sek tb S T D k c 0).2.1), .int (ps + nI (sek tb S T D k c 0).2.2.2), .int (-1)])), (xm, .inr (2, [.ref m1, .ref m2, .ref m3, .int (nI n)])), (m1, .inl (.long, 24, .inr (.inl K))), (m2, .inl (.int, 24, .inl (fun q => nI (z q)))), (m3, .inl (.long, 24, .inr (.inl V))), (xl, .inr (1, [.ref l1, .int (nI u), .int (nI la), .int (nI le), .long lk, .int (nI ls), .long lw])), (l1, .inl (.byte, 1024, .inl (fun q => sb_b (L q)))), (xb, .inr (0, [.ref y, .ref s, .ref t, .int (w + nI (sek tb S T D k c 0).2.2.1)])), (y, .inl (.byte, M * 32, .inl (fun q => sb_b (D q)))), (s, .inl (.int, M, .inl S)), (t, .inl (.int, M, .inl T)), (xr, .inr (4, [.ref xb, rt1, .int (nI (b2n rb1)), .int (nI ra1), .int rft1, .long rk1, .int (nI rs1), .long rv1])), (xt, .inl (.object "RunStore$Table", 16, .inr (.inr (.inr (.inr rf))))), (xg, .inr (2, [.ref g1, .ref g2, .ref g3, .int (nI Gn)])), (g1, .inl (.long, NG, .inr (.inl GK))), (g2, .inl (.int, NG, .inl (fun q => nI (Gz q)))), (g3, .inl (.long, NG, .inr (.inl GV))), (h, .inr (6, [.int th, .int (nI M), .int (nI n), .ref y1, .ref y2, .ref y3, .int (nI u), .ref y4, .ref y5, .ref y6, .ref y7, .int (nI c), .ref y8, .ref y9, .ref y10, .ref y11, .ref y12, .int bd, .int w, .int ps, .int (nI pa), .int lc, .int (nI (b2n fb)), .long ek, .long ev, .int (nI el), .int (nI fn), .ref y13, .ref y14, .ref y15, .ref y16, .int (nI js), .ref y17, .int (nI (b2n ib))])), (y1, .inl (.long, 25, .inr (.inl K))), (y2, .inl (.long, 25, .inr (.inl V))), (y3, .inl (.int, 25, .inl (fun q => nI (z q)))), (y4, .inl (.int, 1024, .inl (fun q => nI (L q)))), (y5, .inl (.int, 4096, .inl (fun q => nI (D q)))), (y6, .inl (.int, 128, .inl S)), (y7, .inl (.boolean, 128, .inl Xt)), (y8, .inl (.int, 17, .inl (fun q => nI (lv q)))), (y9, .inl (.int, 17, .inl (fun q => nI (en q)))), (y10, .inl (.int, 17, .inl (fun q => nI (mn q)))), (y11, .inl (.int, 2176, .inl (fun q => nI (bk q)))), (y12, .inl (.long, 17, .inr (.inl fl))), (y13, .inl (.long, 500, .inr (.inl FK))), (y14, .inl (.long, 500, .inr (.inl FV))), (y15, .inl (.int, 500, .inl (fun q => nI (Fz q)))), (y16, .inl (.int, 4200, .inl (fun q => nI (J q)))), (y17, .inl (.int, 128, .inl (fun q => nI (pk q)))), (o, .inl (.long, 1, .inr (.inl (va_up O 0 ((sres (sek tb S T D k c 0).2.1).toInt64)))))] rfl rfl hn ?_
      refine g_istore [(5, .int (nI 0)), (4, .int (nI ix)), (3, .ref o), (2, .ref h), (1, .ref x), (0, .ref b0)] X d_LW_law_578 (by decide) rfl ?_
      refine g_aload_n X d_LW_law_580 3 rfl ?_
      refine g_aload_n X d_LW_law_581 5 rfl ?_
      refine g_iload X d_LW_law_582 1 rfl ?_
      refine g_iconst (nI 1) X d_LW_law_584 (by decide) ?_
      refine g_iadd X d_LW_law_585 ?_
      refine g_vi (nI (ix + 1)) (nI_add _ _) ?_
      refine s_iald X hScr d_LW_law_586 (by omega) (by omega) ?_
      refine g_i2l X d_LW_law_587 ?_
      refine g_bipush (nI 32) X d_LW_law_588 (by decide) ?_
      refine g_lshl X d_LW_law_590 ?_
      refine g_aload_n X d_LW_law_591 5 rfl ?_
      refine g_iload X d_LW_law_592 1 rfl ?_
      refine g_iconst (nI 2) X d_LW_law_594 (by decide) ?_
      refine g_iadd X d_LW_law_595 ?_
      refine g_vi (nI (ix + 2)) (nI_add _ _) ?_
      refine s_iald X hScr d_LW_law_596 (by omega) (by omega) ?_
      refine g_i2l X d_LW_law_597 ?_
      refine g_ldc2 X d_LW_law_598 k_ct_LW_79 ?_
      refine g_land X d_LW_law_601 ?_
      refine g_lor X d_LW_law_602 ?_
      refine g_vl k (h_k) ?_
      refine g_callVf (As := [.long k]) (st := []) X d_LW_law_603 (c_MD_length_tab hst hnm hc16 hB hI.1 hM hI.2.2.1 hD hn24 hf) (hl_ov 17 rfl hn) rfl rfl k_ml_LW_105 k_cd_MD_length k_in_MD k_im_MD_length k_se_MD_length ⟨by decide +kernel, by decide +kernel, (by decide +kernel : (parseMethodDescriptor "(J)I").map (fun d => d.parameters.length) = some 1)⟩ ⟨by omega, by omega⟩ ⟨by omega, by omega⟩ (Nat.le_of_ble_eq_true rfl) (hg_ov hn [17, 18, 19, 20, 29, 28, 23, 22, 27, 26] rfl) hrx_0 (fun E g9 h => by obtain ⟨s9, ek9, el9, ev9, ic9, hv9, hg9, hs9⟩ := h; cases hv9) (fun v9 g9 hq hfr => ?_)
      obtain ⟨s9, ek9, el9, ev9, ic9, hv9, hg9, hs9⟩ := hq
      cases hv9
      subst hg9
      refine g_ovP [17, 18, 19, 20, 29, 28, 23, 22, 27, 26] [(x, .inr (5, [.ref xm, .ref xl, .ref xb, .ref xr, .ref xt, .int (nI c), .ref xg, .long (sval sv (sek tb S T D k c 0).2.1), .int (ps + nI (sek tb S T D k c 0).2.2.2), .int (-1)])), (xm, .inr (2, [.ref m1, .ref m2, .ref m3, .int (nI n)])), (m1, .inl (.long, 24, .inr (.inl K))), (m2, .inl (.int, 24, .inl (fun q => nI (z q)))), (m3, .inl (.long, 24, .inr (.inl V))), (xl, .inr (1, [.ref l1, .int (nI u), .int (nI la), .int (nI le), .long lk, .int (nI ls), .long lw])), (l1, .inl (.byte, 1024, .inl (fun q => sb_b (L q)))), (xb, .inr (0, [.ref y, .ref s, .ref t, .int (w + nI (sek tb S T D k c 0).2.2.1)])), (y, .inl (.byte, M * 32, .inl (fun q => sb_b (D q)))), (s, .inl (.int, M, .inl S)), (t, .inl (.int, M, .inl T)), (xr, .inr (4, [.ref xb, rt1, .int (nI (b2n rb1)), .int (nI ra1), .int rft1, .long rk1, .int (nI rs1), .long rv1])), (xt, .inl (.object "RunStore$Table", 16, .inr (.inr (.inr (.inr rf))))), (xg, .inr (2, [.ref g1, .ref g2, .ref g3, .int (nI Gn)])), (g1, .inl (.long, NG, .inr (.inl GK))), (g2, .inl (.int, NG, .inl (fun q => nI (Gz q)))), (g3, .inl (.long, NG, .inr (.inl GV))), (h, .inr (6, [.int (nI (b2n (sek tb S T D k c 0).1.isSome)), .int (nI M), .int (nI n), .ref y1, .ref y2, .ref y3, .int (nI u), .ref y4, .ref y5, .ref y6, .ref y7, .int (nI c), .ref y8, .ref y9, .ref y10, .ref y11, .ref y12, .int s9.2.2.2.1, .int s9.2.2.2.2, .int (ps + nI (sek tb S T D k c 0).2.2.2), .int (nI s9.1), .int s9.2.1, .int (nI (b2n s9.2.2.1)), .long ek9, .long ev9, .int (nI el9), .int (nI fn), .ref y13, .ref y14, .ref y15, .ref y16, .int (nI js), .ref y17, .int (nI (b2n ic9))])), (y1, .inl (.long, 25, .inr (.inl K))), (y2, .inl (.long, 25, .inr (.inl V))), (y3, .inl (.int, 25, .inl (fun q => nI (z q)))), (y4, .inl (.int, 1024, .inl (fun q => nI (L q)))), (y5, .inl (.int, 4096, .inl (fun q => nI (D q)))), (y6, .inl (.int, 128, .inl S)), (y7, .inl (.boolean, 128, .inl Xt)), (y8, .inl (.int, 17, .inl (fun q => nI (lv q)))), (y9, .inl (.int, 17, .inl (fun q => nI (en q)))), (y10, .inl (.int, 17, .inl (fun q => nI (mn q)))), (y11, .inl (.int, 2176, .inl (fun q => nI (bk q)))), (y12, .inl (.long, 17, .inr (.inl fl))), (y13, .inl (.long, 500, .inr (.inl FK))), (y14, .inl (.long, 500, .inr (.inl FV))), (y15, .inl (.int, 500, .inl (fun q => nI (Fz q)))), (y16, .inl (.int, 4200, .inl (fun q => nI (J q)))), (y17, .inl (.int, 128, .inl (fun q => nI (pk q)))), (o, .inl (.long, 1, .inr (.inl (va_up O 0 ((sres (sek tb S T D k c 0).2.1).toInt64)))))] rfl rfl hn ?_
      refine g_hpP (ws' := [(x, .inr (5, [.ref xm, .ref xl, .ref xb, .ref xr, .ref xt, .int (nI c), .ref xg, .long (sval sv (sek tb S T D k c 0).2.1), .int (ps + nI (sek tb S T D k c 0).2.2.2), .int (-1)])), (xm, .inr (2, [.ref m1, .ref m2, .ref m3, .int (nI n)])), (m1, .inl (.long, 24, .inr (.inl K))), (m2, .inl (.int, 24, .inl (fun q => nI (z q)))), (m3, .inl (.long, 24, .inr (.inl V))), (xl, .inr (1, [.ref l1, .int (nI u), .int (nI la), .int (nI le), .long lk, .int (nI ls), .long lw])), (l1, .inl (.byte, 1024, .inl (fun q => sb_b (L q)))), (xb, .inr (0, [.ref y, .ref s, .ref t, .int (w + nI (sek tb S T D k c 0).2.2.1)])), (y, .inl (.byte, M * 32, .inl (fun q => sb_b (D q)))), (s, .inl (.int, M, .inl S)), (t, .inl (.int, M, .inl T)), (xr, .inr (4, [.ref xb, rt1, .int (nI (b2n rb1)), .int (nI ra1), .int rft1, .long rk1, .int (nI rs1), .long rv1])), (xt, .inl (.object "RunStore$Table", 16, .inr (.inr (.inr (.inr rf))))), (xg, .inr (2, [.ref g1, .ref g2, .ref g3, .int (nI Gn)])), (g1, .inl (.long, NG, .inr (.inl GK))), (g2, .inl (.int, NG, .inl (fun q => nI (Gz q)))), (g3, .inl (.long, NG, .inr (.inl GV))), (h, .inr (6, [.int (nI 0), .int (nI M), .int (nI n), .ref y1, .ref y2, .ref y3, .int (nI u), .ref y4, .ref y5, .ref y6, .ref y7, .int (nI c), .ref y8, .ref y9, .ref y10, .ref y11, .ref y12, .int (-1), .int (w + nI (sek tb S T D k c 0).2.2.1), .int (ps + nI (sek tb S T D k c 0).2.2.2), .int (nI s9.1), .int s9.2.1, .int (nI (b2n false)), .long ek9, .long ev9, .int (nI el9), .int (nI fn), .ref y13, .ref y14, .ref y15, .ref y16, .int (nI js), .ref y17, .int (nI (b2n ic9))])), (y1, .inl (.long, 25, .inr (.inl K))), (y2, .inl (.long, 25, .inr (.inl V))), (y3, .inl (.int, 25, .inl (fun q => nI (z q)))), (y4, .inl (.int, 1024, .inl (fun q => nI (L q)))), (y5, .inl (.int, 4096, .inl (fun q => nI (D q)))), (y6, .inl (.int, 128, .inl S)), (y7, .inl (.boolean, 128, .inl Xt)), (y8, .inl (.int, 17, .inl (fun q => nI (lv q)))), (y9, .inl (.int, 17, .inl (fun q => nI (en q)))), (y10, .inl (.int, 17, .inl (fun q => nI (mn q)))), (y11, .inl (.int, 2176, .inl (fun q => nI (bk q)))), (y12, .inl (.long, 17, .inr (.inl fl))), (y13, .inl (.long, 500, .inr (.inl FK))), (y14, .inl (.long, 500, .inr (.inl FV))), (y15, .inl (.int, 500, .inl (fun q => nI (Fz q)))), (y16, .inl (.int, 4200, .inl (fun q => nI (J q)))), (y17, .inl (.int, 128, .inl (fun q => nI (pk q)))), (o, .inl (.long, 1, .inr (.inl (va_up O 0 ((sres (sek tb S T D k c 0).2.1).toInt64)))))]) (by rw [hs9, hk9]; rfl) ?_
      refine g_istore [(6, .int (if (sek tb S T D k c 0).1.isSome then nI 0 else sres (sek tb S T D k c 0).2.1)), (5, .int (nI 0)), (4, .int (nI ix)), (3, .ref o), (2, .ref h), (1, .ref x), (0, .ref b0)] X d_LW_law_606 (by decide) rfl ?_
      refine g_aload_n X d_LW_law_608 4 rfl ?_
      refine g_callVf (As := []) (st := []) X d_LW_law_609 (c_MD_thrown hst hnh) (hl_ov 17 rfl hn) rfl rfl k_ml_LW_85 k_cd_MD_thrown k_in_MD k_im_MD_thrown k_se_MD_thrown ⟨by decide +kernel, by decide +kernel, (by decide +kernel : (parseMethodDescriptor "()I").map (fun d => d.parameters.length) = some 0)⟩ ⟨by omega, by omega⟩ ⟨by omega, by omega⟩ (Nat.le_of_ble_eq_true rfl) (hg_ov hn [17] rfl) hrx_0 (fun E g9 h => by obtain ⟨hv9, hg9⟩ := h; cases hv9) (fun v9 g9 hq hfr => ?_)
      obtain ⟨hv9, hg9⟩ := hq
      cases hv9
      subst hg9
      refine g_ovP [17] [(x, .inr (5, [.ref xm, .ref xl, .ref xb, .ref xr, .ref xt, .int (nI c), .ref xg, .long (sval sv (sek tb S T D k c 0).2.1), .int (ps + nI (sek tb S T D k c 0).2.2.2), .int (-1)])), (xm, .inr (2, [.ref m1, .ref m2, .ref m3, .int (nI n)])), (m1, .inl (.long, 24, .inr (.inl K))), (m2, .inl (.int, 24, .inl (fun q => nI (z q)))), (m3, .inl (.long, 24, .inr (.inl V))), (xl, .inr (1, [.ref l1, .int (nI u), .int (nI la), .int (nI le), .long lk, .int (nI ls), .long lw])), (l1, .inl (.byte, 1024, .inl (fun q => sb_b (L q)))), (xb, .inr (0, [.ref y, .ref s, .ref t, .int (w + nI (sek tb S T D k c 0).2.2.1)])), (y, .inl (.byte, M * 32, .inl (fun q => sb_b (D q)))), (s, .inl (.int, M, .inl S)), (t, .inl (.int, M, .inl T)), (xr, .inr (4, [.ref xb, rt1, .int (nI (b2n rb1)), .int (nI ra1), .int rft1, .long rk1, .int (nI rs1), .long rv1])), (xt, .inl (.object "RunStore$Table", 16, .inr (.inr (.inr (.inr rf))))), (xg, .inr (2, [.ref g1, .ref g2, .ref g3, .int (nI Gn)])), (g1, .inl (.long, NG, .inr (.inl GK))), (g2, .inl (.int, NG, .inl (fun q => nI (Gz q)))), (g3, .inl (.long, NG, .inr (.inl GV))), (h, .inr (6, [.int (nI 0), .int (nI M), .int (nI n), .ref y1, .ref y2, .ref y3, .int (nI u), .ref y4, .ref y5, .ref y6, .ref y7, .int (nI c), .ref y8, .ref y9, .ref y10, .ref y11, .ref y12, .int (-1), .int (w + nI (sek tb S T D k c 0).2.2.1), .int (ps + nI (sek tb S T D k c 0).2.2.2), .int (nI s9.1), .int s9.2.1, .int (nI (b2n false)), .long ek9, .long ev9, .int (nI el9), .int (nI fn), .ref y13, .ref y14, .ref y15, .ref y16, .int (nI js), .ref y17, .int (nI (b2n ic9))])), (y1, .inl (.long, 25, .inr (.inl K))), (y2, .inl (.long, 25, .inr (.inl V))), (y3, .inl (.int, 25, .inl (fun q => nI (z q)))), (y4, .inl (.int, 1024, .inl (fun q => nI (L q)))), (y5, .inl (.int, 4096, .inl (fun q => nI (D q)))), (y6, .inl (.int, 128, .inl S)), (y7, .inl (.boolean, 128, .inl Xt)), (y8, .inl (.int, 17, .inl (fun q => nI (lv q)))), (y9, .inl (.int, 17, .inl (fun q => nI (en q)))), (y10, .inl (.int, 17, .inl (fun q => nI (mn q)))), (y11, .inl (.int, 2176, .inl (fun q => nI (bk q)))), (y12, .inl (.long, 17, .inr (.inl fl))), (y13, .inl (.long, 500, .inr (.inl FK))), (y14, .inl (.long, 500, .inr (.inl FV))), (y15, .inl (.int, 500, .inl (fun q => nI (Fz q)))), (y16, .inl (.int, 4200, .inl (fun q => nI (J q)))), (y17, .inl (.int, 128, .inl (fun q => nI (pk q)))), (o, .inl (.long, 1, .inr (.inl (va_up O 0 ((sres (sek tb S T D k c 0).2.1).toInt64)))))] rfl rfl hn ?_
      refine g_iload X d_LW_law_612 1 rfl ?_
      refine g_icmp_eq 619 X d_LW_law_614 (by decide) (fun h614 => ?_) (fun h614 => ?_)
      · have h614 := cv_eq (by omega) (by omega) h614
        refine g_iload X d_LW_law_619 1 rfl ?_
        refine g_if_ne 636 X d_LW_law_621 (by decide) (fun h621 => ?_) (fun h621 => ?_)
        · have h621 := cv_n0 (by omega) h621
          omega
        · have h621 := cv_e0 (by omega) h621
          refine g_aload_n X d_LW_law_624 3 rfl ?_
          refine g_iconst (nI 0) X d_LW_law_625 (by decide) ?_
          refine h_lald X d_LW_law_626 (hl_ov 35 rfl hn) (by omega) (by omega) ?_
          refine g_iload X d_LW_law_627 0 rfl ?_
          refine g_i2l X d_LW_law_629 ?_
          refine g_lcmp X d_LW_law_630 ?_
          refine g_if_eq 636 X d_LW_law_631 (by decide) (fun h631 => ?_) (fun h631 => ?_)
          · have h631 := (lg_cmp_eq ((va_up O 0 ((sres (sek tb S T D k c 0).2.1).toInt64)) 0) ((if (sek tb S T D k c 0).1.isSome then nI 0 else sres (sek tb S T D k c 0).2.1).toInt64)).mp h631
            refine g_goto 1292 X d_LW_law_636 (by decide) ?_
            refine g_lv [2, 3, 4, 5, 6] [(4, .int (nI ix)), (3, .ref o), (2, .ref h), (1, .ref x), (0, .ref b0)] rfl ?_
            refine g_widen (ce' := ce + 5) (sl' := sl + 150) (by omega) (by omega) ?_
            exact kk _ ⟨_, _, _, _, _, _, _, _, _, _, _, _, _, _, _, _, _, _, _, _, _, _, _, _, _, _, _, _, _, _, _, _, _, _, _, _, _, _, _, _, _, _, _, _, _, _, _, _, _, _, _, _, _, _, _, _, _, rfl, hn24, hs, hz, hu, hL, hD, hc16, hP, hI, hB, hX, hPd⟩
          · have h631 := fun z8 => h631 ((lg_cmp_eq ((va_up O 0 ((sres (sek tb S T D k c 0).2.1).toInt64)) 0) ((if (sek tb S T D k c 0).1.isSome then nI 0 else sres (sek tb S T D k c 0).2.1).toInt64)).mpr z8)
            exact absurd (by rw [va_up_self, hk9]; rfl) h631
      · have h614 := cv_ne (by omega) (by omega) h614
        omega
    | some f9 =>
      have hn9 : [x, xm, m1, m2, m3, xb, y, s, t, xr, xt, o].Nodup := nd_pick [x, xm, m1, m2, m3, xl, l1, xb, y, s, t, xr, xt, xg, g1, g2, g3, h, y1, y2, y3, y4, y5, y6, y7, y8, y9, y10, y11, y12, y13, y14, y15, y16, y17, o] [0, 1, 2, 3, 4, 7, 8, 9, 10, 11, 12, 35] 36 hn (by decide) rfl (by decide)
      refine g_aload_n X d_LW_law_551 3 rfl ?_
      refine g_aload_n X d_LW_law_552 4 rfl ?_
      refine g_iload X d_LW_law_553 0 rfl ?_
      refine g_iconst (nI 1) X d_LW_law_555 (by decide) ?_
      refine g_iadd X d_LW_law_556 ?_
      refine g_vi (nI (ix + 1)) (nI_add _ _) ?_
      refine s_iald X hScr d_LW_law_557 (by omega) (by omega) ?_
      refine g_i2l X d_LW_law_558 ?_
      refine g_bipush (nI 32) X d_LW_law_559 (by decide) ?_
      refine g_lshl X d_LW_law_561 ?_
      refine g_aload_n X d_LW_law_562 4 rfl ?_
      refine g_iload X d_LW_law_563 0 rfl ?_
      refine g_iconst (nI 2) X d_LW_law_565 (by decide) ?_
      refine g_iadd X d_LW_law_566 ?_
      refine g_vi (nI (ix + 2)) (nI_add _ _) ?_
      refine s_iald X hScr d_LW_law_567 (by omega) (by omega) ?_
      refine g_i2l X d_LW_law_568 ?_
      refine g_ldc2 X d_LW_law_569 k_ct_LW_79 ?_
      refine g_land X d_LW_law_572 ?_
      refine g_lor X d_LW_law_573 ?_
      refine g_vl k (h_k) ?_
      refine g_aload_n X d_LW_law_574 1 rfl ?_
      refine g_callSW (As := [.ref x, .long k, .ref o]) (st := []) X d_LW_law_575 (c_LW_length_thr hst hs hn24 hD hM hn9 hP hc16 hI.1 hf hk9) lwN_s hNw rfl k_ml_LW_103 k_cd_LW_length k_in_LW k_st_LW_length ⟨by decide +kernel, by decide +kernel, (by decide +kernel : (parseMethodDescriptor "(LRunStore;J[J)I").map (fun d => d.parameters.length) = some 3)⟩ ⟨by omega, by omega⟩ ⟨by omega, by omega⟩ (Nat.le_of_ble_eq_true rfl) (hg_ov hn [0, 1, 2, 3, 4, 7, 8, 9, 10, 11, 12, 35] rfl) (hrx_P hn hPd [0, 1, 2, 3, 4, 7, 8, 9, 10, 11, 12, 35] rfl) (fun E g9 h => by obtain ⟨rt1, rb1, ra1, rs1, rft1, rk1, rv1, hv9, hg9⟩ := h; cases hv9) (fun v9 g9 hq hfr => ?_)
      obtain ⟨rt1, rb1, ra1, rs1, rft1, rk1, rv1, hv9, hg9⟩ := hq
      cases hv9
      subst hg9
      refine g_ovP [0, 1, 2, 3, 4, 7, 8, 9, 10, 11, 12, 35] [(x, .inr (5, [.ref xm, .ref xl, .ref xb, .ref xr, .ref xt, .int (nI c), .ref xg, .long sv, .int (ps + nI (sek tb S T D k c 0).2.2.2), .int (nI f9)])), (xm, .inr (2, [.ref m1, .ref m2, .ref m3, .int (nI n)])), (m1, .inl (.long, 24, .inr (.inl K))), (m2, .inl (.int, 24, .inl (fun q => nI (z q)))), (m3, .inl (.long, 24, .inr (.inl V))), (xl, .inr (1, [.ref l1, .int (nI u), .int (nI la), .int (nI le), .long lk, .int (nI ls), .long lw])), (l1, .inl (.byte, 1024, .inl (fun q => sb_b (L q)))), (xb, .inr (0, [.ref y, .ref s, .ref t, .int (w + nI (sek tb S T D k c 0).2.2.1)])), (y, .inl (.byte, M * 32, .inl (fun q => sb_b (D q)))), (s, .inl (.int, M, .inl S)), (t, .inl (.int, M, .inl T)), (xr, .inr (4, [.ref xb, rt1, .int (nI (b2n rb1)), .int (nI ra1), .int rft1, .long rk1, .int (nI rs1), .long rv1])), (xt, .inl (.object "RunStore$Table", 16, .inr (.inr (.inr (.inr rf))))), (xg, .inr (2, [.ref g1, .ref g2, .ref g3, .int (nI Gn)])), (g1, .inl (.long, NG, .inr (.inl GK))), (g2, .inl (.int, NG, .inl (fun q => nI (Gz q)))), (g3, .inl (.long, NG, .inr (.inl GV))), (h, .inr (6, [.int th, .int (nI M), .int (nI n), .ref y1, .ref y2, .ref y3, .int (nI u), .ref y4, .ref y5, .ref y6, .ref y7, .int (nI c), .ref y8, .ref y9, .ref y10, .ref y11, .ref y12, .int bd, .int w, .int ps, .int (nI pa), .int lc, .int (nI (b2n fb)), .long ek, .long ev, .int (nI el), .int (nI fn), .ref y13, .ref y14, .ref y15, .ref y16, .int (nI js), .ref y17, .int (nI (b2n ib))])), (y1, .inl (.long, 25, .inr (.inl K))), (y2, .inl (.long, 25, .inr (.inl V))), (y3, .inl (.int, 25, .inl (fun q => nI (z q)))), (y4, .inl (.int, 1024, .inl (fun q => nI (L q)))), (y5, .inl (.int, 4096, .inl (fun q => nI (D q)))), (y6, .inl (.int, 128, .inl S)), (y7, .inl (.boolean, 128, .inl Xt)), (y8, .inl (.int, 17, .inl (fun q => nI (lv q)))), (y9, .inl (.int, 17, .inl (fun q => nI (en q)))), (y10, .inl (.int, 17, .inl (fun q => nI (mn q)))), (y11, .inl (.int, 2176, .inl (fun q => nI (bk q)))), (y12, .inl (.long, 17, .inr (.inl fl))), (y13, .inl (.long, 500, .inr (.inl FK))), (y14, .inl (.long, 500, .inr (.inl FV))), (y15, .inl (.int, 500, .inl (fun q => nI (Fz q)))), (y16, .inl (.int, 4200, .inl (fun q => nI (J q)))), (y17, .inl (.int, 128, .inl (fun q => nI (pk q)))), (o, .inl (.long, 1, .inr (.inl O)))] rfl rfl hn ?_
      refine g_istore [(5, .int (nI 1)), (4, .int (nI ix)), (3, .ref o), (2, .ref h), (1, .ref x), (0, .ref b0)] X d_LW_law_578 (by decide) rfl ?_
      refine g_aload_n X d_LW_law_580 3 rfl ?_
      refine g_aload_n X d_LW_law_581 5 rfl ?_
      refine g_iload X d_LW_law_582 1 rfl ?_
      refine g_iconst (nI 1) X d_LW_law_584 (by decide) ?_
      refine g_iadd X d_LW_law_585 ?_
      refine g_vi (nI (ix + 1)) (nI_add _ _) ?_
      refine s_iald X hScr d_LW_law_586 (by omega) (by omega) ?_
      refine g_i2l X d_LW_law_587 ?_
      refine g_bipush (nI 32) X d_LW_law_588 (by decide) ?_
      refine g_lshl X d_LW_law_590 ?_
      refine g_aload_n X d_LW_law_591 5 rfl ?_
      refine g_iload X d_LW_law_592 1 rfl ?_
      refine g_iconst (nI 2) X d_LW_law_594 (by decide) ?_
      refine g_iadd X d_LW_law_595 ?_
      refine g_vi (nI (ix + 2)) (nI_add _ _) ?_
      refine s_iald X hScr d_LW_law_596 (by omega) (by omega) ?_
      refine g_i2l X d_LW_law_597 ?_
      refine g_ldc2 X d_LW_law_598 k_ct_LW_79 ?_
      refine g_land X d_LW_law_601 ?_
      refine g_lor X d_LW_law_602 ?_
      refine g_vl k (h_k) ?_
      refine g_callVf (As := [.long k]) (st := []) X d_LW_law_603 (c_MD_length_tab hst hnm hc16 hB hI.1 hM hI.2.2.1 hD hn24 hf) (hl_ov 17 rfl hn) rfl rfl k_ml_LW_105 k_cd_MD_length k_in_MD k_im_MD_length k_se_MD_length ⟨by decide +kernel, by decide +kernel, (by decide +kernel : (parseMethodDescriptor "(J)I").map (fun d => d.parameters.length) = some 1)⟩ ⟨by omega, by omega⟩ ⟨by omega, by omega⟩ (Nat.le_of_ble_eq_true rfl) (hg_ov hn [17, 18, 19, 20, 29, 28, 23, 22, 27, 26] rfl) hrx_0 (fun E g9 h => by obtain ⟨s9, ek9, el9, ev9, ic9, hv9, hg9, hs9⟩ := h; cases hv9) (fun v9 g9 hq hfr => ?_)
      obtain ⟨s9, ek9, el9, ev9, ic9, hv9, hg9, hs9⟩ := hq
      cases hv9
      subst hg9
      refine g_ovP [17, 18, 19, 20, 29, 28, 23, 22, 27, 26] [(x, .inr (5, [.ref xm, .ref xl, .ref xb, .ref xr, .ref xt, .int (nI c), .ref xg, .long sv, .int (ps + nI (sek tb S T D k c 0).2.2.2), .int (nI f9)])), (xm, .inr (2, [.ref m1, .ref m2, .ref m3, .int (nI n)])), (m1, .inl (.long, 24, .inr (.inl K))), (m2, .inl (.int, 24, .inl (fun q => nI (z q)))), (m3, .inl (.long, 24, .inr (.inl V))), (xl, .inr (1, [.ref l1, .int (nI u), .int (nI la), .int (nI le), .long lk, .int (nI ls), .long lw])), (l1, .inl (.byte, 1024, .inl (fun q => sb_b (L q)))), (xb, .inr (0, [.ref y, .ref s, .ref t, .int (w + nI (sek tb S T D k c 0).2.2.1)])), (y, .inl (.byte, M * 32, .inl (fun q => sb_b (D q)))), (s, .inl (.int, M, .inl S)), (t, .inl (.int, M, .inl T)), (xr, .inr (4, [.ref xb, rt1, .int (nI (b2n rb1)), .int (nI ra1), .int rft1, .long rk1, .int (nI rs1), .long rv1])), (xt, .inl (.object "RunStore$Table", 16, .inr (.inr (.inr (.inr rf))))), (xg, .inr (2, [.ref g1, .ref g2, .ref g3, .int (nI Gn)])), (g1, .inl (.long, NG, .inr (.inl GK))), (g2, .inl (.int, NG, .inl (fun q => nI (Gz q)))), (g3, .inl (.long, NG, .inr (.inl GV))), (h, .inr (6, [.int (nI (b2n (sek tb S T D k c 0).1.isSome)), .int (nI M), .int (nI n), .ref y1, .ref y2, .ref y3, .int (nI u), .ref y4, .ref y5, .ref y6, .ref y7, .int (nI c), .ref y8, .ref y9, .ref y10, .ref y11, .ref y12, .int s9.2.2.2.1, .int s9.2.2.2.2, .int (ps + nI (sek tb S T D k c 0).2.2.2), .int (nI s9.1), .int s9.2.1, .int (nI (b2n s9.2.2.1)), .long ek9, .long ev9, .int (nI el9), .int (nI fn), .ref y13, .ref y14, .ref y15, .ref y16, .int (nI js), .ref y17, .int (nI (b2n ic9))])), (y1, .inl (.long, 25, .inr (.inl K))), (y2, .inl (.long, 25, .inr (.inl V))), (y3, .inl (.int, 25, .inl (fun q => nI (z q)))), (y4, .inl (.int, 1024, .inl (fun q => nI (L q)))), (y5, .inl (.int, 4096, .inl (fun q => nI (D q)))), (y6, .inl (.int, 128, .inl S)), (y7, .inl (.boolean, 128, .inl Xt)), (y8, .inl (.int, 17, .inl (fun q => nI (lv q)))), (y9, .inl (.int, 17, .inl (fun q => nI (en q)))), (y10, .inl (.int, 17, .inl (fun q => nI (mn q)))), (y11, .inl (.int, 2176, .inl (fun q => nI (bk q)))), (y12, .inl (.long, 17, .inr (.inl fl))), (y13, .inl (.long, 500, .inr (.inl FK))), (y14, .inl (.long, 500, .inr (.inl FV))), (y15, .inl (.int, 500, .inl (fun q => nI (Fz q)))), (y16, .inl (.int, 4200, .inl (fun q => nI (J q)))), (y17, .inl (.int, 128, .inl (fun q => nI (pk q)))), (o, .inl (.long, 1, .inr (.inl O)))] rfl rfl hn ?_
      refine g_hpP (ws' := [(x, .inr (5, [.ref xm, .ref xl, .ref xb, .ref xr, .ref xt, .int (nI c), .ref xg, .long sv, .int (ps + nI (sek tb S T D k c 0).2.2.2), .int (nI f9)])), (xm, .inr (2, [.ref m1, .ref m2, .ref m3, .int (nI n)])), (m1, .inl (.long, 24, .inr (.inl K))), (m2, .inl (.int, 24, .inl (fun q => nI (z q)))), (m3, .inl (.long, 24, .inr (.inl V))), (xl, .inr (1, [.ref l1, .int (nI u), .int (nI la), .int (nI le), .long lk, .int (nI ls), .long lw])), (l1, .inl (.byte, 1024, .inl (fun q => sb_b (L q)))), (xb, .inr (0, [.ref y, .ref s, .ref t, .int (w + nI (sek tb S T D k c 0).2.2.1)])), (y, .inl (.byte, M * 32, .inl (fun q => sb_b (D q)))), (s, .inl (.int, M, .inl S)), (t, .inl (.int, M, .inl T)), (xr, .inr (4, [.ref xb, rt1, .int (nI (b2n rb1)), .int (nI ra1), .int rft1, .long rk1, .int (nI rs1), .long rv1])), (xt, .inl (.object "RunStore$Table", 16, .inr (.inr (.inr (.inr rf))))), (xg, .inr (2, [.ref g1, .ref g2, .ref g3, .int (nI Gn)])), (g1, .inl (.long, NG, .inr (.inl GK))), (g2, .inl (.int, NG, .inl (fun q => nI (Gz q)))), (g3, .inl (.long, NG, .inr (.inl GV))), (h, .inr (6, [.int (nI 1), .int (nI M), .int (nI n), .ref y1, .ref y2, .ref y3, .int (nI u), .ref y4, .ref y5, .ref y6, .ref y7, .int (nI c), .ref y8, .ref y9, .ref y10, .ref y11, .ref y12, .int (nI f9), .int (w + nI (sek tb S T D k c 0).2.2.1), .int (ps + nI (sek tb S T D k c 0).2.2.2), .int (nI s9.1), .int s9.2.1, .int (nI (b2n true)), .long ek9, .long ev9, .int (nI el9), .int (nI fn), .ref y13, .ref y14, .ref y15, .ref y16, .int (nI js), .ref y17, .int (nI (b2n ic9))])), (y1, .inl (.long, 25, .inr (.inl K))), (y2, .inl (.long, 25, .inr (.inl V))), (y3, .inl (.int, 25, .inl (fun q => nI (z q)))), (y4, .inl (.int, 1024, .inl (fun q => nI (L q)))), (y5, .inl (.int, 4096, .inl (fun q => nI (D q)))), (y6, .inl (.int, 128, .inl S)), (y7, .inl (.boolean, 128, .inl Xt)), (y8, .inl (.int, 17, .inl (fun q => nI (lv q)))), (y9, .inl (.int, 17, .inl (fun q => nI (en q)))), (y10, .inl (.int, 17, .inl (fun q => nI (mn q)))), (y11, .inl (.int, 2176, .inl (fun q => nI (bk q)))), (y12, .inl (.long, 17, .inr (.inl fl))), (y13, .inl (.long, 500, .inr (.inl FK))), (y14, .inl (.long, 500, .inr (.inl FV))), (y15, .inl (.int, 500, .inl (fun q => nI (Fz q)))), (y16, .inl (.int, 4200, .inl (fun q => nI (J q)))), (y17, .inl (.int, 128, .inl (fun q => nI (pk q)))), (o, .inl (.long, 1, .inr (.inl O)))]) (by rw [hs9, hk9]; rfl) ?_
      refine g_istore [(6, .int (if (sek tb S T D k c 0).1.isSome then nI 0 else sres (sek tb S T D k c 0).2.1)), (5, .int (nI 1)), (4, .int (nI ix)), (3, .ref o), (2, .ref h), (1, .ref x), (0, .ref b0)] X d_LW_law_606 (by decide) rfl ?_
      refine g_aload_n X d_LW_law_608 4 rfl ?_
      refine g_callVf (As := []) (st := []) X d_LW_law_609 (c_MD_thrown hst hnh) (hl_ov 17 rfl hn) rfl rfl k_ml_LW_85 k_cd_MD_thrown k_in_MD k_im_MD_thrown k_se_MD_thrown ⟨by decide +kernel, by decide +kernel, (by decide +kernel : (parseMethodDescriptor "()I").map (fun d => d.parameters.length) = some 0)⟩ ⟨by omega, by omega⟩ ⟨by omega, by omega⟩ (Nat.le_of_ble_eq_true rfl) (hg_ov hn [17] rfl) hrx_0 (fun E g9 h => by obtain ⟨hv9, hg9⟩ := h; cases hv9) (fun v9 g9 hq hfr => ?_)
      obtain ⟨hv9, hg9⟩ := hq
      cases hv9
      subst hg9
      refine g_ovP [17] [(x, .inr (5, [.ref xm, .ref xl, .ref xb, .ref xr, .ref xt, .int (nI c), .ref xg, .long sv, .int (ps + nI (sek tb S T D k c 0).2.2.2), .int (nI f9)])), (xm, .inr (2, [.ref m1, .ref m2, .ref m3, .int (nI n)])), (m1, .inl (.long, 24, .inr (.inl K))), (m2, .inl (.int, 24, .inl (fun q => nI (z q)))), (m3, .inl (.long, 24, .inr (.inl V))), (xl, .inr (1, [.ref l1, .int (nI u), .int (nI la), .int (nI le), .long lk, .int (nI ls), .long lw])), (l1, .inl (.byte, 1024, .inl (fun q => sb_b (L q)))), (xb, .inr (0, [.ref y, .ref s, .ref t, .int (w + nI (sek tb S T D k c 0).2.2.1)])), (y, .inl (.byte, M * 32, .inl (fun q => sb_b (D q)))), (s, .inl (.int, M, .inl S)), (t, .inl (.int, M, .inl T)), (xr, .inr (4, [.ref xb, rt1, .int (nI (b2n rb1)), .int (nI ra1), .int rft1, .long rk1, .int (nI rs1), .long rv1])), (xt, .inl (.object "RunStore$Table", 16, .inr (.inr (.inr (.inr rf))))), (xg, .inr (2, [.ref g1, .ref g2, .ref g3, .int (nI Gn)])), (g1, .inl (.long, NG, .inr (.inl GK))), (g2, .inl (.int, NG, .inl (fun q => nI (Gz q)))), (g3, .inl (.long, NG, .inr (.inl GV))), (h, .inr (6, [.int (nI 1), .int (nI M), .int (nI n), .ref y1, .ref y2, .ref y3, .int (nI u), .ref y4, .ref y5, .ref y6, .ref y7, .int (nI c), .ref y8, .ref y9, .ref y10, .ref y11, .ref y12, .int (nI f9), .int (w + nI (sek tb S T D k c 0).2.2.1), .int (ps + nI (sek tb S T D k c 0).2.2.2), .int (nI s9.1), .int s9.2.1, .int (nI (b2n true)), .long ek9, .long ev9, .int (nI el9), .int (nI fn), .ref y13, .ref y14, .ref y15, .ref y16, .int (nI js), .ref y17, .int (nI (b2n ic9))])), (y1, .inl (.long, 25, .inr (.inl K))), (y2, .inl (.long, 25, .inr (.inl V))), (y3, .inl (.int, 25, .inl (fun q => nI (z q)))), (y4, .inl (.int, 1024, .inl (fun q => nI (L q)))), (y5, .inl (.int, 4096, .inl (fun q => nI (D q)))), (y6, .inl (.int, 128, .inl S)), (y7, .inl (.boolean, 128, .inl Xt)), (y8, .inl (.int, 17, .inl (fun q => nI (lv q)))), (y9, .inl (.int, 17, .inl (fun q => nI (en q)))), (y10, .inl (.int, 17, .inl (fun q => nI (mn q)))), (y11, .inl (.int, 2176, .inl (fun q => nI (bk q)))), (y12, .inl (.long, 17, .inr (.inl fl))), (y13, .inl (.long, 500, .inr (.inl FK))), (y14, .inl (.long, 500, .inr (.inl FV))), (y15, .inl (.int, 500, .inl (fun q => nI (Fz q)))), (y16, .inl (.int, 4200, .inl (fun q => nI (J q)))), (y17, .inl (.int, 128, .inl (fun q => nI (pk q)))), (o, .inl (.long, 1, .inr (.inl O)))] rfl rfl hn ?_
      refine g_iload X d_LW_law_612 1 rfl ?_
      refine g_icmp_eq 619 X d_LW_law_614 (by decide) (fun h614 => ?_) (fun h614 => ?_)
      · have h614 := cv_eq (by omega) (by omega) h614
        refine g_iload X d_LW_law_619 1 rfl ?_
        refine g_if_ne 636 X d_LW_law_621 (by decide) (fun h621 => ?_) (fun h621 => ?_)
        · have h621 := cv_n0 (by omega) h621
          refine g_goto 1292 X d_LW_law_636 (by decide) ?_
          refine g_lv [2, 3, 4, 5, 6] [(4, .int (nI ix)), (3, .ref o), (2, .ref h), (1, .ref x), (0, .ref b0)] rfl ?_
          refine g_widen (ce' := ce + 5) (sl' := sl + 150) (by omega) (by omega) ?_
          exact kk _ ⟨_, _, _, _, _, _, _, _, _, _, _, _, _, _, _, _, _, _, _, _, _, _, _, _, _, _, _, _, _, _, _, _, _, _, _, _, _, _, _, _, _, _, _, _, _, _, _, _, _, _, _, _, _, _, _, _, _, rfl, hn24, hs, hz, hu, hL, hD, hc16, hP, hI, hB, hX, hPd⟩
        · have h621 := cv_e0 (by omega) h621
          omega
      · have h614 := cv_ne (by omega) (by omega) h614
        omega
