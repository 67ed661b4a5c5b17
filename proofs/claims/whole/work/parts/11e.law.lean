set_option maxRecDepth 100000 in
set_option maxHeartbeats 4000000 in
theorem law_badAt {mp : Program} {l : Launch} {me : Env} {mR : Room} {sm : State} {mm : MethodId} {margs : Array Value} {mbel : List Frame} {mmet : Method} {mcod : Code} {mD : va_G} {f9 : fh_M} {Q9 : State → Prop} {ce sl b0 Ls ix : Nat} {xs : Nat → Int32} (X : fh_X mp l sm mm margs mmet mcod mD fhCl fhT f9 (hp []) y_LW_law.cls b_LW_law 8) (hScr : lwX sm f9 b0 Ls xs) (hst : l.stackTraces = false) (hNw : lwN sm) (hRf : 12 ≤ mR.frames) (hRl : 438 ≤ mR.locals) (hRc : ce + 5 ≤ mR.cells) (hRs : sl + 150 ≤ mR.slots) {M NG x xm m1 m2 m3 xl l1 xb y s t xr xt xg g1 g2 g3 h y1 y2 y3 y4 y5 y6 y7 y8 y9 y10 y11 y12 y13 y14 y15 y16 y17 o : Nat} (hM4 : 4 ≤ M) (hM : M ≤ 128) (hNGe : NG = 24 + M * 32 / 9) (hn : [x, xm, m1, m2, m3, xl, l1, xb, y, s, t, xr, xt, xg, g1, g2, g3, h, y1, y2, y3, y4, y5, y6, y7, y8, y9, y10, y11, y12, y13, y14, y15, y16, y17, o].Nodup) (hLs : Ls ≤ 3073) (hix : ix + 5 < Ls) {f : fh_M} (hS : lwS M NG x xm m1 m2 m3 xl l1 xb y s t xr xt xg g1 g2 g3 h y1 y2 y3 y4 y5 y6 y7 y8 y9 y10 y11 y12 y13 y14 y15 y16 y17 o f)  (kk : ∀ f, lwS M NG x xm m1 m2 m3 xl l1 xb y s t xr xt xg g1 g2 g3 h y1 y2 y3 y4 y5 y6 y7 y8 y9 y10 y11 y12 y13 y14 y15 y16 y17 o f → fh_G mp l me mR sm mm margs mbel mmet mcod mD fhCl f9 8 Q9 (ce + 5) (sl + 150) f 1292 [(4, .int (nI ix)), (3, .ref o), (2, .ref h), (1, .ref x), (0, .ref b0)] []) : fh_G mp l me mR sm mm margs mbel mmet mcod mD fhCl f9 8 Q9 (ce) (sl) f 1241 [(4, .int (nI ix)), (3, .ref o), (2, .ref h), (1, .ref x), (0, .ref b0)] [] := by
  refine lwS_elim (C9 := fun f => fh_G mp l me mR sm mm margs mbel mmet mcod mD fhCl f9 8 Q9 (ce) (sl) f 1241 [(4, .int (nI ix)), (3, .ref o), (2, .ref h), (1, .ref x), (0, .ref b0)] []) hS (fun K z V n L u D S T tb c ps bd w sv la le lk ls lw rt rb ra rft rk rs rv rf tq ti P GK Gz GV Gn th pa lc fb ek ev el fn js ib Xt lv en mn fl bk FK FV Fz J pk O hn24 hs hz hu hL hD hc16 hP hI hB hX hPd => ?_)
  show fh_G mp l me mR sm mm margs mbel mmet mcod mD fhCl f9 8 Q9 (ce) (sl) (fh_ov (hp [(x, .inr (5, [.ref xm, .ref xl, .ref xb, .ref xr, .ref xt, .int (nI c), .ref xg, .long sv, .int ps, .int bd])), (xm, .inr (2, [.ref m1, .ref m2, .ref m3, .int (nI n)])), (m1, .inl (.long, 24, .inr (.inl K))), (m2, .inl (.int, 24, .inl (fun q => nI (z q)))), (m3, .inl (.long, 24, .inr (.inl V))), (xl, .inr (1, [.ref l1, .int (nI u), .int (nI la), .int (nI le), .long lk, .int (nI ls), .long lw])), (l1, .inl (.byte, 1024, .inl (fun q => sb_b (L q)))), (xb, .inr (0, [.ref y, .ref s, .ref t, .int w])), (y, .inl (.byte, M * 32, .inl (fun q => sb_b (D q)))), (s, .inl (.int, M, .inl S)), (t, .inl (.int, M, .inl T)), (xr, .inr (4, [.ref xb, rt, .int (nI (b2n rb)), .int (nI ra), .int rft, .long rk, .int (nI rs), .long rv])), (xt, .inl (.object "RunStore$Table", 16, .inr (.inr (.inr (.inr rf))))), (xg, .inr (2, [.ref g1, .ref g2, .ref g3, .int (nI Gn)])), (g1, .inl (.long, NG, .inr (.inl GK))), (g2, .inl (.int, NG, .inl (fun q => nI (Gz q)))), (g3, .inl (.long, NG, .inr (.inl GV))), (h, .inr (6, [.int th, .int (nI M), .int (nI n), .ref y1, .ref y2, .ref y3, .int (nI u), .ref y4, .ref y5, .ref y6, .ref y7, .int (nI c), .ref y8, .ref y9, .ref y10, .ref y11, .ref y12, .int bd, .int w, .int ps, .int (nI pa), .int lc, .int (nI (b2n fb)), .long ek, .long ev, .int (nI el), .int (nI fn), .ref y13, .ref y14, .ref y15, .ref y16, .int (nI js), .ref y17, .int (nI (b2n ib))])), (y1, .inl (.long, 25, .inr (.inl K))), (y2, .inl (.long, 25, .inr (.inl V))), (y3, .inl (.int, 25, .inl (fun q => nI (z q)))), (y4, .inl (.int, 1024, .inl (fun q => nI (L q)))), (y5, .inl (.int, 4096, .inl (fun q => nI (D q)))), (y6, .inl (.int, 128, .inl S)), (y7, .inl (.boolean, 128, .inl Xt)), (y8, .inl (.int, 17, .inl (fun q => nI (lv q)))), (y9, .inl (.int, 17, .inl (fun q => nI (en q)))), (y10, .inl (.int, 17, .inl (fun q => nI (mn q)))), (y11, .inl (.int, 2176, .inl (fun q => nI (bk q)))), (y12, .inl (.long, 17, .inr (.inl fl))), (y13, .inl (.long, 500, .inr (.inl FK))), (y14, .inl (.long, 500, .inr (.inl FV))), (y15, .inl (.int, 500, .inl (fun q => nI (Fz q)))), (y16, .inl (.int, 4200, .inl (fun q => nI (J q)))), (y17, .inl (.int, 128, .inl (fun q => nI (pk q)))), (o, .inl (.long, 1, .inr (.inl O)))]) P) 1241 [(4, .int (nI ix)), (3, .ref o), (2, .ref h), (1, .ref x), (0, .ref b0)] []
  have hnh : [h].Nodup := nd_pick [x, xm, m1, m2, m3, xl, l1, xb, y, s, t, xr, xt, xg, g1, g2, g3, h, y1, y2, y3, y4, y5, y6, y7, y8, y9, y10, y11, y12, y13, y14, y15, y16, y17, o] [17] 36 hn (by decide) rfl (by decide)
  refine g_aload_n X d_LW_law_1241 3 rfl ?_
  refine g_callVf (As := []) (st := []) X d_LW_law_1242 (c_RS_badAt hst) (hl_ov 0 rfl hn) rfl rfl k_ml_LW_133 k_cd_RS_badAt k_in_RS k_im_RS_badAt k_se_RS_badAt ⟨by decide +kernel, by decide +kernel, (by decide +kernel : (parseMethodDescriptor "()I").map (fun d => d.parameters.length) = some 0)⟩ ⟨by omega, by omega⟩ ⟨by omega, by omega⟩ (Nat.le_of_ble_eq_true rfl) (hg_ov hn [0] rfl) hrx_0 (fun E g9 h => by obtain ⟨hv9, hg9⟩ := h; cases hv9) (fun v9 g9 hq hfr => ?_)
  obtain ⟨hv9, hg9⟩ := hq
  cases hv9
  subst hg9
  refine g_ovP [0] [(x, .inr (5, [.ref xm, .ref xl, .ref xb, .ref xr, .ref xt, .int (nI c), .ref xg, .long sv, .int ps, .int bd])), (xm, .inr (2, [.ref m1, .ref m2, .ref m3, .int (nI n)])), (m1, .inl (.long, 24, .inr (.inl K))), (m2, .inl (.int, 24, .inl (fun q => nI (z q)))), (m3, .inl (.long, 24, .inr (.inl V))), (xl, .inr (1, [.ref l1, .int (nI u), .int (nI la), .int (nI le), .long lk, .int (nI ls), .long lw])), (l1, .inl (.byte, 1024, .inl (fun q => sb_b (L q)))), (xb, .inr (0, [.ref y, .ref s, .ref t, .int w])), (y, .inl (.byte, M * 32, .inl (fun q => sb_b (D q)))), (s, .inl (.int, M, .inl S)), (t, .inl (.int, M, .inl T)), (xr, .inr (4, [.ref xb, rt, .int (nI (b2n rb)), .int (nI ra), .int rft, .long rk, .int (nI rs), .long rv])), (xt, .inl (.object "RunStore$Table", 16, .inr (.inr (.inr (.inr rf))))), (xg, .inr (2, [.ref g1, .ref g2, .ref g3, .int (nI Gn)])), (g1, .inl (.long, NG, .inr (.inl GK))), (g2, .inl (.int, NG, .inl (fun q => nI (Gz q)))), (g3, .inl (.long, NG, .inr (.inl GV))), (h, .inr (6, [.int th, .int (nI M), .int (nI n), .ref y1, .ref y2, .ref y3, .int (nI u), .ref y4, .ref y5, .ref y6, .ref y7, .int (nI c), .ref y8, .ref y9, .ref y10, .ref y11, .ref y12, .int bd, .int w, .int ps, .int (nI pa), .int lc, .int (nI (b2n fb)), .long ek, .long ev, .int (nI el), .int (nI fn), .ref y13, .ref y14, .ref y15, .ref y16, .int (nI js), .ref y17, .int (nI (b2n ib))])), (y1, .inl (.long, 25, .inr (.inl K))), (y2, .inl (.long, 25, .inr (.inl V))), (y3, .inl (.int, 25, .inl (fun q => nI (z q)))), (y4, .inl (.int, 1024, .inl (fun q => nI (L q)))), (y5, .inl (.int, 4096, .inl (fun q => nI (D q)))), (y6, .inl (.int, 128, .inl S)), (y7, .inl (.boolean, 128, .inl Xt)), (y8, .inl (.int, 17, .inl (fun q => nI (lv q)))), (y9, .inl (.int, 17, .inl (fun q => nI (en q)))), (y10, .inl (.int, 17, .inl (fun q => nI (mn q)))), (y11, .inl (.int, 2176, .inl (fun q => nI (bk q)))), (y12, .inl (.long, 17, .inr (.inl fl))), (y13, .inl (.long, 500, .inr (.inl FK))), (y14, .inl (.long, 500, .inr (.inl FV))), (y15, .inl (.int, 500, .inl (fun q => nI (Fz q)))), (y16, .inl (.int, 4200, .inl (fun q => nI (J q)))), (y17, .inl (.int, 128, .inl (fun q => nI (pk q)))), (o, .inl (.long, 1, .inr (.inl O)))] rfl rfl hn ?_
  refine g_aload_n X d_LW_law_1245 2 rfl ?_
  refine g_callVf (As := []) (st := [.int bd]) X d_LW_law_1246 (c_MD_badAt hst hnh) (hl_ov 17 rfl hn) rfl rfl k_ml_LW_136 k_cd_MD_badAt k_in_MD k_im_MD_badAt k_se_MD_badAt ⟨by decide +kernel, by decide +kernel, (by decide +kernel : (parseMethodDescriptor "()I").map (fun d => d.parameters.length) = some 0)⟩ ⟨by omega, by omega⟩ ⟨by omega, by omega⟩ (Nat.le_of_ble_eq_true rfl) (hg_ov hn [17] rfl) hrx_0 (fun E g9 h => by obtain ⟨hv9, hg9⟩ := h; cases hv9) (fun v9 g9 hq hfr => ?_)
  obtain ⟨hv9, hg9⟩ := hq
  cases hv9
  subst hg9
  refine g_ovP [17] [(x, .inr (5, [.ref xm, .ref xl, .ref xb, .ref xr, .ref xt, .int (nI c), .ref xg, .long sv, .int ps, .int bd])), (xm, .inr (2, [.ref m1, .ref m2, .ref m3, .int (nI n)])), (m1, .inl (.long, 24, .inr (.inl K))), (m2, .inl (.int, 24, .inl (fun q => nI (z q)))), (m3, .inl (.long, 24, .inr (.inl V))), (xl, .inr (1, [.ref l1, .int (nI u), .int (nI la), .int (nI le), .long lk, .int (nI ls), .long lw])), (l1, .inl (.byte, 1024, .inl (fun q => sb_b (L q)))), (xb, .inr (0, [.ref y, .ref s, .ref t, .int w])), (y, .inl (.byte, M * 32, .inl (fun q => sb_b (D q)))), (s, .inl (.int, M, .inl S)), (t, .inl (.int, M, .inl T)), (xr, .inr (4, [.ref xb, rt, .int (nI (b2n rb)), .int (nI ra), .int rft, .long rk, .int (nI rs), .long rv])), (xt, .inl (.object "RunStore$Table", 16, .inr (.inr (.inr (.inr rf))))), (xg, .inr (2, [.ref g1, .ref g2, .ref g3, .int (nI Gn)])), (g1, .inl (.long, NG, .inr (.inl GK))), (g2, .inl (.int, NG, .inl (fun q => nI (Gz q)))), (g3, .inl (.long, NG, .inr (.inl GV))), (h, .inr (6, [.int (nI 0), .int (nI M), .int (nI n), .ref y1, .ref y2, .ref y3, .int (nI u), .ref y4, .ref y5, .ref y6, .ref y7, .int (nI c), .ref y8, .ref y9, .ref y10, .ref y11, .ref y12, .int bd, .int w, .int ps, .int (nI pa), .int lc, .int (nI (b2n fb)), .long ek, .long ev, .int (nI el), .int (nI fn), .ref y13, .ref y14, .ref y15, .ref y16, .int (nI js), .ref y17, .int (nI (b2n ib))])), (y1, .inl (.long, 25, .inr (.inl K))), (y2, .inl (.long, 25, .inr (.inl V))), (y3, .inl (.int, 25, .inl (fun q => nI (z q)))), (y4, .inl (.int, 1024, .inl (fun q => nI (L q)))), (y5, .inl (.int, 4096, .inl (fun q => nI (D q)))), (y6, .inl (.int, 128, .inl S)), (y7, .inl (.boolean, 128, .inl Xt)), (y8, .inl (.int, 17, .inl (fun q => nI (lv q)))), (y9, .inl (.int, 17, .inl (fun q => nI (en q)))), (y10, .inl (.int, 17, .inl (fun q => nI (mn q)))), (y11, .inl (.int, 2176, .inl (fun q => nI (bk q)))), (y12, .inl (.long, 17, .inr (.inl fl))), (y13, .inl (.long, 500, .inr (.inl FK))), (y14, .inl (.long, 500, .inr (.inl FV))), (y15, .inl (.int, 500, .inl (fun q => nI (Fz q)))), (y16, .inl (.int, 4200, .inl (fun q => nI (J q)))), (y17, .inl (.int, 128, .inl (fun q => nI (pk q)))), (o, .inl (.long, 1, .inr (.inl O)))] rfl rfl hn ?_
  refine g_icmp_eq 1292 X d_LW_law_1249 (by decide) (fun h1249 => ?_) (fun h1249 => ?_)
  · refine g_widen (ce' := ce + 5) (sl' := sl + 150) (by omega) (by omega) ?_
    exact kk _ ⟨_, _, _, _, _, _, _, _, _, _, _, _, _, _, _, _, _, _, _, _, _, _, _, _, _, _, _, _, _, _, _, _, _, _, _, _, _, _, _, _, _, _, _, _, _, _, _, _, _, _, _, _, _, _, _, _, _, rfl, hn24, hs, hz, hu, hL, hD, hc16, hP, hI, hB, hX, hPd⟩
  · exact absurd rfl h1249

set_option maxRecDepth 100000 in
set_option maxHeartbeats 4000000 in
theorem law_check {mp : Program} {l : Launch} {me : Env} {mR : Room} {sm : State} {mm : MethodId} {margs : Array Value} {mbel : List Frame} {mmet : Method} {mcod : Code} {mD : va_G} {f9 : fh_M} {Q9 : State → Prop} {ce sl b0 Ls ix : Nat} {xs : Nat → Int32} (X : fh_X mp l sm mm margs mmet mcod mD fhCl fhT f9 (hp []) y_LW_law.cls b_LW_law 8) (hScr : lwX sm f9 b0 Ls xs) (hst : l.stackTraces = false) (hNw : lwN sm) (hRf : 12 ≤ mR.frames) (hRl : 438 ≤ mR.locals) (hRc : ce + 5 ≤ mR.cells) (hRs : sl + 150 ≤ mR.slots) {M NG x xm m1 m2 m3 xl l1 xb y s t xr xt xg g1 g2 g3 h y1 y2 y3 y4 y5 y6 y7 y8 y9 y10 y11 y12 y13 y14 y15 y16 y17 o : Nat} (hM4 : 4 ≤ M) (hM : M ≤ 128) (hNGe : NG = 24 + M * 32 / 9) (hn : [x, xm, m1, m2, m3, xl, l1, xb, y, s, t, xr, xt, xg, g1, g2, g3, h, y1, y2, y3, y4, y5, y6, y7, y8, y9, y10, y11, y12, y13, y14, y15, y16, y17, o].Nodup) (hLs : Ls ≤ 3073) (hix : ix + 5 < Ls) {f : fh_M} (hS : lwS M NG x xm m1 m2 m3 xl l1 xb y s t xr xt xg g1 g2 g3 h y1 y2 y3 y4 y5 y6 y7 y8 y9 y10 y11 y12 y13 y14 y15 y16 y17 o f)  (kk : ∀ f, lwS M NG x xm m1 m2 m3 xl l1 xb y s t xr xt xg g1 g2 g3 h y1 y2 y3 y4 y5 y6 y7 y8 y9 y10 y11 y12 y13 y14 y15 y16 y17 o f → fh_G mp l me mR sm mm margs mbel mmet mcod mD fhCl f9 8 Q9 (ce + 5) (sl + 150) f 1292 [(4, .int (nI ix)), (3, .ref o), (2, .ref h), (1, .ref x), (0, .ref b0)] []) : fh_G mp l me mR sm mm margs mbel mmet mcod mD fhCl f9 8 Q9 (ce) (sl) f 1254 [(4, .int (nI ix)), (3, .ref o), (2, .ref h), (1, .ref x), (0, .ref b0)] [] := by
  refine lwS_elim (C9 := fun f => fh_G mp l me mR sm mm margs mbel mmet mcod mD fhCl f9 8 Q9 (ce) (sl) f 1254 [(4, .int (nI ix)), (3, .ref o), (2, .ref h), (1, .ref x), (0, .ref b0)] []) hS (fun K z V n L u D S T tb c ps bd w sv la le lk ls lw rt rb ra rft rk rs rv rf tq ti P GK Gz GV Gn th pa lc fb ek ev el fn js ib Xt lv en mn fl bk FK FV Fz J pk O hn24 hs hz hu hL hD hc16 hP hI hB hX hPd => ?_)
  show fh_G mp l me mR sm mm margs mbel mmet mcod mD fhCl f9 8 Q9 (ce) (sl) (fh_ov (hp [(x, .inr (5, [.ref xm, .ref xl, .ref xb, .ref xr, .ref xt, .int (nI c), .ref xg, .long sv, .int ps, .int bd])), (xm, .inr (2, [.ref m1, .ref m2, .ref m3, .int (nI n)])), (m1, .inl (.long, 24, .inr (.inl K))), (m2, .inl (.int, 24, .inl (fun q => nI (z q)))), (m3, .inl (.long, 24, .inr (.inl V))), (xl, .inr (1, [.ref l1, .int (nI u), .int (nI la), .int (nI le), .long lk, .int (nI ls), .long lw])), (l1, .inl (.byte, 1024, .inl (fun q => sb_b (L q)))), (xb, .inr (0, [.ref y, .ref s, .ref t, .int w])), (y, .inl (.byte, M * 32, .inl (fun q => sb_b (D q)))), (s, .inl (.int, M, .inl S)), (t, .inl (.int, M, .inl T)), (xr, .inr (4, [.ref xb, rt, .int (nI (b2n rb)), .int (nI ra), .int rft, .long rk, .int (nI rs), .long rv])), (xt, .inl (.object "RunStore$Table", 16, .inr (.inr (.inr (.inr rf))))), (xg, .inr (2, [.ref g1, .ref g2, .ref g3, .int (nI Gn)])), (g1, .inl (.long, NG, .inr (.inl GK))), (g2, .inl (.int, NG, .inl (fun q => nI (Gz q)))), (g3, .inl (.long, NG, .inr (.inl GV))), (h, .inr (6, [.int th, .int (nI M), .int (nI n), .ref y1, .ref y2, .ref y3, .int (nI u), .ref y4, .ref y5, .ref y6, .ref y7, .int (nI c), .ref y8, .ref y9, .ref y10, .ref y11, .ref y12, .int bd, .int w, .int ps, .int (nI pa), .int lc, .int (nI (b2n fb)), .long ek, .long ev, .int (nI el), .int (nI fn), .ref y13, .ref y14, .ref y15, .ref y16, .int (nI js), .ref y17, .int (nI (b2n ib))])), (y1, .inl (.long, 25, .inr (.inl K))), (y2, .inl (.long, 25, .inr (.inl V))), (y3, .inl (.int, 25, .inl (fun q => nI (z q)))), (y4, .inl (.int, 1024, .inl (fun q => nI (L q)))), (y5, .inl (.int, 4096, .inl (fun q => nI (D q)))), (y6, .inl (.int, 128, .inl S)), (y7, .inl (.boolean, 128, .inl Xt)), (y8, .inl (.int, 17, .inl (fun q => nI (lv q)))), (y9, .inl (.int, 17, .inl (fun q => nI (en q)))), (y10, .inl (.int, 17, .inl (fun q => nI (mn q)))), (y11, .inl (.int, 2176, .inl (fun q => nI (bk q)))), (y12, .inl (.long, 17, .inr (.inl fl))), (y13, .inl (.long, 500, .inr (.inl FK))), (y14, .inl (.long, 500, .inr (.inl FV))), (y15, .inl (.int, 500, .inl (fun q => nI (Fz q)))), (y16, .inl (.int, 4200, .inl (fun q => nI (J q)))), (y17, .inl (.int, 128, .inl (fun q => nI (pk q)))), (o, .inl (.long, 1, .inr (.inl O)))]) P) 1254 [(4, .int (nI ix)), (3, .ref o), (2, .ref h), (1, .ref x), (0, .ref b0)] []
  have hnh : [h].Nodup := nd_pick [x, xm, m1, m2, m3, xl, l1, xb, y, s, t, xr, xt, xg, g1, g2, g3, h, y1, y2, y3, y4, y5, y6, y7, y8, y9, y10, y11, y12, y13, y14, y15, y16, y17, o] [17] 36 hn (by decide) rfl (by decide)
  have hnB : [x, xb, y, s, t].Nodup := nd_pick [x, xm, m1, m2, m3, xl, l1, xb, y, s, t, xr, xt, xg, g1, g2, g3, h, y1, y2, y3, y4, y5, y6, y7, y8, y9, y10, y11, y12, y13, y14, y15, y16, y17, o] [0, 7, 8, 9, 10] 36 hn (by decide) rfl (by decide)
  have hnk : [h, y10, y11, y6, y5].Nodup := nd_pick [x, xm, m1, m2, m3, xl, l1, xb, y, s, t, xr, xt, xg, g1, g2, g3, h, y1, y2, y3, y4, y5, y6, y7, y8, y9, y10, y11, y12, y13, y14, y15, y16, y17, o] [17, 27, 28, 23, 22] 36 hn (by decide) rfl (by decide)
  refine g_aload_n X d_LW_law_1254 3 rfl ?_
  refine g_callVf (As := []) (st := []) X d_LW_law_1255 (c_RS_check hst hD hM hnB) (hl_ov 0 rfl hn) rfl rfl k_ml_LW_137 k_cd_RS_check k_in_RS k_im_RS_check k_se_RS_check ⟨by decide +kernel, by decide +kernel, (by decide +kernel : (parseMethodDescriptor "()I").map (fun d => d.parameters.length) = some 0)⟩ ⟨by omega, by omega⟩ ⟨by omega, by omega⟩ (Nat.le_of_ble_eq_true rfl) (hg_ov hn [0, 7, 8, 9, 10] rfl) hrx_0 (fun E g9 h => by obtain ⟨hv9, hg9⟩ := h; cases hv9) (fun v9 g9 hq hfr => ?_)
  obtain ⟨hv9, hg9⟩ := hq
  cases hv9
  subst hg9
  refine g_ovP [0, 7, 8, 9, 10] [(x, .inr (5, [.ref xm, .ref xl, .ref xb, .ref xr, .ref xt, .int (nI c), .ref xg, .long sv, .int ps, .int bd])), (xm, .inr (2, [.ref m1, .ref m2, .ref m3, .int (nI n)])), (m1, .inl (.long, 24, .inr (.inl K))), (m2, .inl (.int, 24, .inl (fun q => nI (z q)))), (m3, .inl (.long, 24, .inr (.inl V))), (xl, .inr (1, [.ref l1, .int (nI u), .int (nI la), .int (nI le), .long lk, .int (nI ls), .long lw])), (l1, .inl (.byte, 1024, .inl (fun q => sb_b (L q)))), (xb, .inr (0, [.ref y, .ref s, .ref t, .int w])), (y, .inl (.byte, M * 32, .inl (fun q => sb_b (D q)))), (s, .inl (.int, M, .inl S)), (t, .inl (.int, M, .inl T)), (xr, .inr (4, [.ref xb, rt, .int (nI (b2n rb)), .int (nI ra), .int rft, .long rk, .int (nI rs), .long rv])), (xt, .inl (.object "RunStore$Table", 16, .inr (.inr (.inr (.inr rf))))), (xg, .inr (2, [.ref g1, .ref g2, .ref g3, .int (nI Gn)])), (g1, .inl (.long, NG, .inr (.inl GK))), (g2, .inl (.int, NG, .inl (fun q => nI (Gz q)))), (g3, .inl (.long, NG, .inr (.inl GV))), (h, .inr (6, [.int th, .int (nI M), .int (nI n), .ref y1, .ref y2, .ref y3, .int (nI u), .ref y4, .ref y5, .ref y6, .ref y7, .int (nI c), .ref y8, .ref y9, .ref y10, .ref y11, .ref y12, .int bd, .int w, .int ps, .int (nI pa), .int lc, .int (nI (b2n fb)), .long ek, .long ev, .int (nI el), .int (nI fn), .ref y13, .ref y14, .ref y15, .ref y16, .int (nI js), .ref y17, .int (nI (b2n ib))])), (y1, .inl (.long, 25, .inr (.inl K))), (y2, .inl (.long, 25, .inr (.inl V))), (y3, .inl (.int, 25, .inl (fun q => nI (z q)))), (y4, .inl (.int, 1024, .inl (fun q => nI (L q)))), (y5, .inl (.int, 4096, .inl (fun q => nI (D q)))), (y6, .inl (.int, 128, .inl S)), (y7, .inl (.boolean, 128, .inl Xt)), (y8, .inl (.int, 17, .inl (fun q => nI (lv q)))), (y9, .inl (.int, 17, .inl (fun q => nI (en q)))), (y10, .inl (.int, 17, .inl (fun q => nI (mn q)))), (y11, .inl (.int, 2176, .inl (fun q => nI (bk q)))), (y12, .inl (.long, 17, .inr (.inl fl))), (y13, .inl (.long, 500, .inr (.inl FK))), (y14, .inl (.long, 500, .inr (.inl FV))), (y15, .inl (.int, 500, .inl (fun q => nI (Fz q)))), (y16, .inl (.int, 4200, .inl (fun q => nI (J q)))), (y17, .inl (.int, 128, .inl (fun q => nI (pk q)))), (o, .inl (.long, 1, .inr (.inl O)))] rfl rfl hn ?_
  refine g_aload_n X d_LW_law_1258 2 rfl ?_
  refine g_callVf (As := []) (st := [.int (if lwr S T D M < M then nI (lwr S T D M) else (-1))]) X d_LW_law_1259 (c_MD_check hst hnk hc16 hB hI.1 hM hI.2.2.1 hD hI.2.2.2.2.1) (hl_ov 17 rfl hn) rfl rfl k_ml_LW_140 k_cd_MD_check k_in_MD k_im_MD_check k_se_MD_check ⟨by decide +kernel, by decide +kernel, (by decide +kernel : (parseMethodDescriptor "()I").map (fun d => d.parameters.length) = some 0)⟩ ⟨by omega, by omega⟩ ⟨by omega, by omega⟩ (Nat.le_of_ble_eq_true rfl) (hg_ov hn [17, 27, 28, 23, 22] rfl) hrx_0 (fun E g9 h => by obtain ⟨hv9, hg9⟩ := h; cases hv9) (fun v9 g9 hq hfr => ?_)
  obtain ⟨hv9, hg9⟩ := hq
  cases hv9
  subst hg9
  refine g_ovP [17, 27, 28, 23, 22] [(x, .inr (5, [.ref xm, .ref xl, .ref xb, .ref xr, .ref xt, .int (nI c), .ref xg, .long sv, .int ps, .int bd])), (xm, .inr (2, [.ref m1, .ref m2, .ref m3, .int (nI n)])), (m1, .inl (.long, 24, .inr (.inl K))), (m2, .inl (.int, 24, .inl (fun q => nI (z q)))), (m3, .inl (.long, 24, .inr (.inl V))), (xl, .inr (1, [.ref l1, .int (nI u), .int (nI la), .int (nI le), .long lk, .int (nI ls), .long lw])), (l1, .inl (.byte, 1024, .inl (fun q => sb_b (L q)))), (xb, .inr (0, [.ref y, .ref s, .ref t, .int w])), (y, .inl (.byte, M * 32, .inl (fun q => sb_b (D q)))), (s, .inl (.int, M, .inl S)), (t, .inl (.int, M, .inl T)), (xr, .inr (4, [.ref xb, rt, .int (nI (b2n rb)), .int (nI ra), .int rft, .long rk, .int (nI rs), .long rv])), (xt, .inl (.object "RunStore$Table", 16, .inr (.inr (.inr (.inr rf))))), (xg, .inr (2, [.ref g1, .ref g2, .ref g3, .int (nI Gn)])), (g1, .inl (.long, NG, .inr (.inl GK))), (g2, .inl (.int, NG, .inl (fun q => nI (Gz q)))), (g3, .inl (.long, NG, .inr (.inl GV))), (h, .inr (6, [.int (nI 0), .int (nI M), .int (nI n), .ref y1, .ref y2, .ref y3, .int (nI u), .ref y4, .ref y5, .ref y6, .ref y7, .int (nI c), .ref y8, .ref y9, .ref y10, .ref y11, .ref y12, .int bd, .int w, .int ps, .int (nI pa), .int lc, .int (nI (b2n fb)), .long ek, .long ev, .int (nI el), .int (nI fn), .ref y13, .ref y14, .ref y15, .ref y16, .int (nI js), .ref y17, .int (nI (b2n ib))])), (y1, .inl (.long, 25, .inr (.inl K))), (y2, .inl (.long, 25, .inr (.inl V))), (y3, .inl (.int, 25, .inl (fun q => nI (z q)))), (y4, .inl (.int, 1024, .inl (fun q => nI (L q)))), (y5, .inl (.int, 4096, .inl (fun q => nI (D q)))), (y6, .inl (.int, 128, .inl S)), (y7, .inl (.boolean, 128, .inl Xt)), (y8, .inl (.int, 17, .inl (fun q => nI (lv q)))), (y9, .inl (.int, 17, .inl (fun q => nI (en q)))), (y10, .inl (.int, 17, .inl (fun q => nI (mn q)))), (y11, .inl (.int, 2176, .inl (fun q => nI (bk q)))), (y12, .inl (.long, 17, .inr (.inl fl))), (y13, .inl (.long, 500, .inr (.inl FK))), (y14, .inl (.long, 500, .inr (.inl FV))), (y15, .inl (.int, 500, .inl (fun q => nI (Fz q)))), (y16, .inl (.int, 4200, .inl (fun q => nI (J q)))), (y17, .inl (.int, 128, .inl (fun q => nI (pk q)))), (o, .inl (.long, 1, .inr (.inl O)))] rfl rfl hn ?_
  refine g_icmp_eq 1292 X d_LW_law_1262 (by decide) (fun h1262 => ?_) (fun h1262 => ?_)
  · refine g_widen (ce' := ce + 5) (sl' := sl + 150) (by omega) (by omega) ?_
    exact kk _ ⟨_, _, _, _, _, _, _, _, _, _, _, _, _, _, _, _, _, _, _, _, _, _, _, _, _, _, _, _, _, _, _, _, _, _, _, _, _, _, _, _, _, _, _, _, _, _, _, _, _, _, _, _, _, _, _, _, _, rfl, hn24, hs, hz, hu, hL, hD, hc16, hP, hI, hB, hX, hPd⟩
  · exact absurd rfl h1262

set_option maxRecDepth 100000 in
set_option maxHeartbeats 4000000 in
theorem law_count {mp : Program} {l : Launch} {me : Env} {mR : Room} {sm : State} {mm : MethodId} {margs : Array Value} {mbel : List Frame} {mmet : Method} {mcod : Code} {mD : va_G} {f9 : fh_M} {Q9 : State → Prop} {ce sl b0 Ls ix : Nat} {xs : Nat → Int32} (X : fh_X mp l sm mm margs mmet mcod mD fhCl fhT f9 (hp []) y_LW_law.cls b_LW_law 8) (hScr : lwX sm f9 b0 Ls xs) (hst : l.stackTraces = false) (hNw : lwN sm) (hRf : 12 ≤ mR.frames) (hRl : 438 ≤ mR.locals) (hRc : ce + 5 ≤ mR.cells) (hRs : sl + 150 ≤ mR.slots) {M NG x xm m1 m2 m3 xl l1 xb y s t xr xt xg g1 g2 g3 h y1 y2 y3 y4 y5 y6 y7 y8 y9 y10 y11 y12 y13 y14 y15 y16 y17 o : Nat} (hM4 : 4 ≤ M) (hM : M ≤ 128) (hNGe : NG = 24 + M * 32 / 9) (hn : [x, xm, m1, m2, m3, xl, l1, xb, y, s, t, xr, xt, xg, g1, g2, g3, h, y1, y2, y3, y4, y5, y6, y7, y8, y9, y10, y11, y12, y13, y14, y15, y16, y17, o].Nodup) (hLs : Ls ≤ 3073) (hix : ix + 5 < Ls) {f : fh_M} (hS : lwS M NG x xm m1 m2 m3 xl l1 xb y s t xr xt xg g1 g2 g3 h y1 y2 y3 y4 y5 y6 y7 y8 y9 y10 y11 y12 y13 y14 y15 y16 y17 o f)  (kk : ∀ f, lwS M NG x xm m1 m2 m3 xl l1 xb y s t xr xt xg g1 g2 g3 h y1 y2 y3 y4 y5 y6 y7 y8 y9 y10 y11 y12 y13 y14 y15 y16 y17 o f → fh_G mp l me mR sm mm margs mbel mmet mcod mD fhCl f9 8 Q9 (ce + 5) (sl + 150) f 1292 [(4, .int (nI ix)), (3, .ref o), (2, .ref h), (1, .ref x), (0, .ref b0)] []) : fh_G mp l me mR sm mm margs mbel mmet mcod mD fhCl f9 8 Q9 (ce) (sl) f 1267 [(4, .int (nI ix)), (3, .ref o), (2, .ref h), (1, .ref x), (0, .ref b0)] [] := by
  refine lwS_elim (C9 := fun f => fh_G mp l me mR sm mm margs mbel mmet mcod mD fhCl f9 8 Q9 (ce) (sl) f 1267 [(4, .int (nI ix)), (3, .ref o), (2, .ref h), (1, .ref x), (0, .ref b0)] []) hS (fun K z V n L u D S T tb c ps bd w sv la le lk ls lw rt rb ra rft rk rs rv rf tq ti P GK Gz GV Gn th pa lc fb ek ev el fn js ib Xt lv en mn fl bk FK FV Fz J pk O hn24 hs hz hu hL hD hc16 hP hI hB hX hPd => ?_)
  show fh_G mp l me mR sm mm margs mbel mmet mcod mD fhCl f9 8 Q9 (ce) (sl) (fh_ov (hp [(x, .inr (5, [.ref xm, .ref xl, .ref xb, .ref xr, .ref xt, .int (nI c), .ref xg, .long sv, .int ps, .int bd])), (xm, .inr (2, [.ref m1, .ref m2, .ref m3, .int (nI n)])), (m1, .inl (.long, 24, .inr (.inl K))), (m2, .inl (.int, 24, .inl (fun q => nI (z q)))), (m3, .inl (.long, 24, .inr (.inl V))), (xl, .inr (1, [.ref l1, .int (nI u), .int (nI la), .int (nI le), .long lk, .int (nI ls), .long lw])), (l1, .inl (.byte, 1024, .inl (fun q => sb_b (L q)))), (xb, .inr (0, [.ref y, .ref s, .ref t, .int w])), (y, .inl (.byte, M * 32, .inl (fun q => sb_b (D q)))), (s, .inl (.int, M, .inl S)), (t, .inl (.int, M, .inl T)), (xr, .inr (4, [.ref xb, rt, .int (nI (b2n rb)), .int (nI ra), .int rft, .long rk, .int (nI rs), .long rv])), (xt, .inl (.object "RunStore$Table", 16, .inr (.inr (.inr (.inr rf))))), (xg, .inr (2, [.ref g1, .ref g2, .ref g3, .int (nI Gn)])), (g1, .inl (.long, NG, .inr (.inl GK))), (g2, .inl (.int, NG, .inl (fun q => nI (Gz q)))), (g3, .inl (.long, NG, .inr (.inl GV))), (h, .inr (6, [.int th, .int (nI M), .int (nI n), .ref y1, .ref y2, .ref y3, .int (nI u), .ref y4, .ref y5, .ref y6, .ref y7, .int (nI c), .ref y8, .ref y9, .ref y10, .ref y11, .ref y12, .int bd, .int w, .int ps, .int (nI pa), .int lc, .int (nI (b2n fb)), .long ek, .long ev, .int (nI el), .int (nI fn), .ref y13, .ref y14, .ref y15, .ref y16, .int (nI js), .ref y17, .int (nI (b2n ib))])), (y1, .inl (.long, 25, .inr (.inl K))), (y2, .inl (.long, 25, .inr (.inl V))), (y3, .inl (.int, 25, .inl (fun q => nI (z q)))), (y4, .inl (.int, 1024, .inl (fun q => nI (L q)))), (y5, .inl (.int, 4096, .inl (fun q => nI (D q)))), (y6, .inl (.int, 128, .inl S)), (y7, .inl (.boolean, 128, .inl Xt)), (y8, .inl (.int, 17, .inl (fun q => nI (lv q)))), (y9, .inl (.int, 17, .inl (fun q => nI (en q)))), (y10, .inl (.int, 17, .inl (fun q => nI (mn q)))), (y11, .inl (.int, 2176, .inl (fun q => nI (bk q)))), (y12, .inl (.long, 17, .inr (.inl fl))), (y13, .inl (.long, 500, .inr (.inl FK))), (y14, .inl (.long, 500, .inr (.inl FV))), (y15, .inl (.int, 500, .inl (fun q => nI (Fz q)))), (y16, .inl (.int, 4200, .inl (fun q => nI (J q)))), (y17, .inl (.int, 128, .inl (fun q => nI (pk q)))), (o, .inl (.long, 1, .inr (.inl O)))]) P) 1267 [(4, .int (nI ix)), (3, .ref o), (2, .ref h), (1, .ref x), (0, .ref b0)] []
  have hnh : [h].Nodup := nd_pick [x, xm, m1, m2, m3, xl, l1, xb, y, s, t, xr, xt, xg, g1, g2, g3, h, y1, y2, y3, y4, y5, y6, y7, y8, y9, y10, y11, y12, y13, y14, y15, y16, y17, o] [17] 36 hn (by decide) rfl (by decide)
  have hnC : [x, xm, xl, xb, y, s, t, xt].Nodup := nd_pick [x, xm, m1, m2, m3, xl, l1, xb, y, s, t, xr, xt, xg, g1, g2, g3, h, y1, y2, y3, y4, y5, y6, y7, y8, y9, y10, y11, y12, y13, y14, y15, y16, y17, o] [0, 1, 5, 7, 8, 9, 10, 12] 36 hn (by decide) rfl (by decide)
  have hnq : [h, y9, y7].Nodup := nd_pick [x, xm, m1, m2, m3, xl, l1, xb, y, s, t, xr, xt, xg, g1, g2, g3, h, y1, y2, y3, y4, y5, y6, y7, y8, y9, y10, y11, y12, y13, y14, y15, y16, y17, o] [17, 26, 24] 36 hn (by decide) rfl (by decide)
  rcases rng (xs (ix + 1)) (b := 7) (by decide) with ⟨m, hm, hv⟩ | hv
  · have h8 : m = 0 ∨ m = 1 ∨ m = 2 ∨ m = 3 ∨ m = 4 ∨ m = 5 ∨ m = 6 ∨ m = 7 := by omega
    rcases h8 with rfl | rfl | rfl | rfl | rfl | rfl | rfl | rfl
    · refine g_aload_n X d_LW_law_1267 3 rfl ?_
      refine g_aload_n X d_LW_law_1268 4 rfl ?_
      refine g_iload X d_LW_law_1269 0 rfl ?_
      refine g_iconst (nI 1) X d_LW_law_1271 (by decide) ?_
      refine g_iadd X d_LW_law_1272 ?_
      refine g_vi (nI (ix + 1)) (nI_add _ _) ?_
      refine s_iald X hScr d_LW_law_1273 (by omega) (by omega) ?_
      refine g_vi (nI 0) hv ?_
      refine g_callVf (As := [.int (nI 0)]) (st := []) X d_LW_law_1274 (c_RS_count_0 hst hD hM hnC hP hc16) (hl_ov 0 rfl hn) rfl rfl k_ml_LW_141 k_cd_RS_count k_in_RS k_im_RS_count k_se_RS_count ⟨by decide +kernel, by decide +kernel, (by decide +kernel : (parseMethodDescriptor "(I)I").map (fun d => d.parameters.length) = some 1)⟩ ⟨by omega, by omega⟩ ⟨by omega, by omega⟩ (Nat.le_of_ble_eq_true rfl) (hg_ov hn [0, 1, 5, 7, 8, 9, 10, 12] rfl) (hrx_P hn hPd [0, 1, 5, 7, 8, 9, 10, 12] rfl) (fun E g9 h => by obtain ⟨hv9, hg9⟩ := h; cases hv9) (fun v9 g9 hq hfr => ?_)
      obtain ⟨hv9, hg9⟩ := hq
      cases hv9
      subst hg9
      refine g_ovP [0, 1, 5, 7, 8, 9, 10, 12] [(x, .inr (5, [.ref xm, .ref xl, .ref xb, .ref xr, .ref xt, .int (nI c), .ref xg, .long sv, .int ps, .int bd])), (xm, .inr (2, [.ref m1, .ref m2, .ref m3, .int (nI n)])), (m1, .inl (.long, 24, .inr (.inl K))), (m2, .inl (.int, 24, .inl (fun q => nI (z q)))), (m3, .inl (.long, 24, .inr (.inl V))), (xl, .inr (1, [.ref l1, .int (nI u), .int (nI la), .int (nI le), .long lk, .int (nI ls), .long lw])), (l1, .inl (.byte, 1024, .inl (fun q => sb_b (L q)))), (xb, .inr (0, [.ref y, .ref s, .ref t, .int w])), (y, .inl (.byte, M * 32, .inl (fun q => sb_b (D q)))), (s, .inl (.int, M, .inl S)), (t, .inl (.int, M, .inl T)), (xr, .inr (4, [.ref xb, rt, .int (nI (b2n rb)), .int (nI ra), .int rft, .long rk, .int (nI rs), .long rv])), (xt, .inl (.object "RunStore$Table", 16, .inr (.inr (.inr (.inr rf))))), (xg, .inr (2, [.ref g1, .ref g2, .ref g3, .int (nI Gn)])), (g1, .inl (.long, NG, .inr (.inl GK))), (g2, .inl (.int, NG, .inl (fun q => nI (Gz q)))), (g3, .inl (.long, NG, .inr (.inl GV))), (h, .inr (6, [.int th, .int (nI M), .int (nI n), .ref y1, .ref y2, .ref y3, .int (nI u), .ref y4, .ref y5, .ref y6, .ref y7, .int (nI c), .ref y8, .ref y9, .ref y10, .ref y11, .ref y12, .int bd, .int w, .int ps, .int (nI pa), .int lc, .int (nI (b2n fb)), .long ek, .long ev, .int (nI el), .int (nI fn), .ref y13, .ref y14, .ref y15, .ref y16, .int (nI js), .ref y17, .int (nI (b2n ib))])), (y1, .inl (.long, 25, .inr (.inl K))), (y2, .inl (.long, 25, .inr (.inl V))), (y3, .inl (.int, 25, .inl (fun q => nI (z q)))), (y4, .inl (.int, 1024, .inl (fun q => nI (L q)))), (y5, .inl (.int, 4096, .inl (fun q => nI (D q)))), (y6, .inl (.int, 128, .inl S)), (y7, .inl (.boolean, 128, .inl Xt)), (y8, .inl (.int, 17, .inl (fun q => nI (lv q)))), (y9, .inl (.int, 17, .inl (fun q => nI (en q)))), (y10, .inl (.int, 17, .inl (fun q => nI (mn q)))), (y11, .inl (.int, 2176, .inl (fun q => nI (bk q)))), (y12, .inl (.long, 17, .inr (.inl fl))), (y13, .inl (.long, 500, .inr (.inl FK))), (y14, .inl (.long, 500, .inr (.inl FV))), (y15, .inl (.int, 500, .inl (fun q => nI (Fz q)))), (y16, .inl (.int, 4200, .inl (fun q => nI (J q)))), (y17, .inl (.int, 128, .inl (fun q => nI (pk q)))), (o, .inl (.long, 1, .inr (.inl O)))] rfl rfl hn ?_
      refine g_aload_n X d_LW_law_1277 2 rfl ?_
      refine g_aload_n X d_LW_law_1278 4 rfl ?_
      refine g_iload X d_LW_law_1279 0 rfl ?_
      refine g_iconst (nI 1) X d_LW_law_1281 (by decide) ?_
      refine g_iadd X d_LW_law_1282 ?_
      refine g_vi (nI (ix + 1)) (nI_add _ _) ?_
      refine s_iald X hScr d_LW_law_1283 (by omega) (by omega) ?_
      refine g_vi (nI 0) hv ?_
      refine g_callVf (As := [.int (nI 0)]) (st := [.int (nI M)]) X d_LW_law_1284 (c_MD_count_0 hst hnq hc16 (fun t ht => (hB t ht).2.1) (en455 hI.1) hX hM) (hl_ov 17 rfl hn) rfl rfl k_ml_LW_144 k_cd_MD_count k_in_MD k_im_MD_count k_se_MD_count ⟨by decide +kernel, by decide +kernel, (by decide +kernel : (parseMethodDescriptor "(I)I").map (fun d => d.parameters.length) = some 1)⟩ ⟨by omega, by omega⟩ ⟨by omega, by omega⟩ (Nat.le_of_ble_eq_true rfl) (hg_ov hn [17, 26, 24] rfl) hrx_0 (fun E g9 h => by obtain ⟨hv9, hg9⟩ := h; cases hv9) (fun v9 g9 hq hfr => ?_)
      obtain ⟨hv9, hg9⟩ := hq
      cases hv9
      subst hg9
      refine g_ovP [17, 26, 24] [(x, .inr (5, [.ref xm, .ref xl, .ref xb, .ref xr, .ref xt, .int (nI c), .ref xg, .long sv, .int ps, .int bd])), (xm, .inr (2, [.ref m1, .ref m2, .ref m3, .int (nI n)])), (m1, .inl (.long, 24, .inr (.inl K))), (m2, .inl (.int, 24, .inl (fun q => nI (z q)))), (m3, .inl (.long, 24, .inr (.inl V))), (xl, .inr (1, [.ref l1, .int (nI u), .int (nI la), .int (nI le), .long lk, .int (nI ls), .long lw])), (l1, .inl (.byte, 1024, .inl (fun q => sb_b (L q)))), (xb, .inr (0, [.ref y, .ref s, .ref t, .int w])), (y, .inl (.byte, M * 32, .inl (fun q => sb_b (D q)))), (s, .inl (.int, M, .inl S)), (t, .inl (.int, M, .inl T)), (xr, .inr (4, [.ref xb, rt, .int (nI (b2n rb)), .int (nI ra), .int rft, .long rk, .int (nI rs), .long rv])), (xt, .inl (.object "RunStore$Table", 16, .inr (.inr (.inr (.inr rf))))), (xg, .inr (2, [.ref g1, .ref g2, .ref g3, .int (nI Gn)])), (g1, .inl (.long, NG, .inr (.inl GK))), (g2, .inl (.int, NG, .inl (fun q => nI (Gz q)))), (g3, .inl (.long, NG, .inr (.inl GV))), (h, .inr (6, [.int (nI 0), .int (nI M), .int (nI n), .ref y1, .ref y2, .ref y3, .int (nI u), .ref y4, .ref y5, .ref y6, .ref y7, .int (nI c), .ref y8, .ref y9, .ref y10, .ref y11, .ref y12, .int bd, .int w, .int ps, .int (nI pa), .int lc, .int (nI (b2n fb)), .long ek, .long ev, .int (nI el), .int (nI fn), .ref y13, .ref y14, .ref y15, .ref y16, .int (nI js), .ref y17, .int (nI (b2n ib))])), (y1, .inl (.long, 25, .inr (.inl K))), (y2, .inl (.long, 25, .inr (.inl V))), (y3, .inl (.int, 25, .inl (fun q => nI (z q)))), (y4, .inl (.int, 1024, .inl (fun q => nI (L q)))), (y5, .inl (.int, 4096, .inl (fun q => nI (D q)))), (y6, .inl (.int, 128, .inl S)), (y7, .inl (.boolean, 128, .inl Xt)), (y8, .inl (.int, 17, .inl (fun q => nI (lv q)))), (y9, .inl (.int, 17, .inl (fun q => nI (en q)))), (y10, .inl (.int, 17, .inl (fun q => nI (mn q)))), (y11, .inl (.int, 2176, .inl (fun q => nI (bk q)))), (y12, .inl (.long, 17, .inr (.inl fl))), (y13, .inl (.long, 500, .inr (.inl FK))), (y14, .inl (.long, 500, .inr (.inl FV))), (y15, .inl (.int, 500, .inl (fun q => nI (Fz q)))), (y16, .inl (.int, 4200, .inl (fun q => nI (J q)))), (y17, .inl (.int, 128, .inl (fun q => nI (pk q)))), (o, .inl (.long, 1, .inr (.inl O)))] rfl rfl hn ?_
      refine g_icmp_eq 1292 X d_LW_law_1287 (by decide) (fun h1287 => ?_) (fun h1287 => ?_)
      · refine g_widen (ce' := ce + 5) (sl' := sl + 150) (by omega) (by omega) ?_
        exact kk _ ⟨_, _, _, _, _, _, _, _, _, _, _, _, _, _, _, _, _, _, _, _, _, _, _, _, _, _, _, _, _, _, _, _, _, _, _, _, _, _, _, _, _, _, _, _, _, _, _, _, _, _, _, _, _, _, _, _, _, rfl, hn24, hs, hz, hu, hL, hD, hc16, hP, hI, hB, hX, hPd⟩
      · exact absurd rfl h1287
    · refine g_aload_n X d_LW_law_1267 3 rfl ?_
      refine g_aload_n X d_LW_law_1268 4 rfl ?_
      refine g_iload X d_LW_law_1269 0 rfl ?_
      refine g_iconst (nI 1) X d_LW_law_1271 (by decide) ?_
      refine g_iadd X d_LW_law_1272 ?_
      refine g_vi (nI (ix + 1)) (nI_add _ _) ?_
      refine s_iald X hScr d_LW_law_1273 (by omega) (by omega) ?_
      refine g_vi (nI 1) hv ?_
      refine g_callVf (As := [.int (nI 1)]) (st := []) X d_LW_law_1274 (c_RS_count_1 hst hD hM hnC hP hc16) (hl_ov 0 rfl hn) rfl rfl k_ml_LW_141 k_cd_RS_count k_in_RS k_im_RS_count k_se_RS_count ⟨by decide +kernel, by decide +kernel, (by decide +kernel : (parseMethodDescriptor "(I)I").map (fun d => d.parameters.length) = some 1)⟩ ⟨by omega, by omega⟩ ⟨by omega, by omega⟩ (Nat.le_of_ble_eq_true rfl) (hg_ov hn [0, 1, 5, 7, 8, 9, 10, 12] rfl) (hrx_P hn hPd [0, 1, 5, 7, 8, 9, 10, 12] rfl) (fun E g9 h => by obtain ⟨hv9, hg9⟩ := h; cases hv9) (fun v9 g9 hq hfr => ?_)
      obtain ⟨hv9, hg9⟩ := hq
      cases hv9
      subst hg9
      refine g_ovP [0, 1, 5, 7, 8, 9, 10, 12] [(x, .inr (5, [.ref xm, .ref xl, .ref xb, .ref xr, .ref xt, .int (nI c), .ref xg, .long sv, .int ps, .int bd])), (xm, .inr (2, [.ref m1, .ref m2, .ref m3, .int (nI n)])), (m1, .inl (.long, 24, .inr (.inl K))), (m2, .inl (.int, 24, .inl (fun q => nI (z q)))), (m3, .inl (.long, 24, .inr (.inl V))), (xl, .inr (1, [.ref l1, .int (nI u), .int (nI la), .int (nI le), .long lk, .int (nI ls), .long lw])), (l1, .inl (.byte, 1024, .inl (fun q => sb_b (L q)))), (xb, .inr (0, [.ref y, .ref s, .ref t, .int w])), (y, .inl (.byte, M * 32, .inl (fun q => sb_b (D q)))), (s, .inl (.int, M, .inl S)), (t, .inl (.int, M, .inl T)), (xr, .inr (4, [.ref xb, rt, .int (nI (b2n rb)), .int (nI ra), .int rft, .long rk, .int (nI rs), .long rv])), (xt, .inl (.object "RunStore$Table", 16, .inr (.inr (.inr (.inr rf))))), (xg, .inr (2, [.ref g1, .ref g2, .ref g3, .int (nI Gn)])), (g1, .inl (.long, NG, .inr (.inl GK))), (g2, .inl (.int, NG, .inl (fun q => nI (Gz q)))), (g3, .inl (.long, NG, .inr (.inl GV))), (h, .inr (6, [.int th, .int (nI M), .int (nI n), .ref y1, .ref y2, .ref y3, .int (nI u), .ref y4, .ref y5, .ref y6, .ref y7, .int (nI c), .ref y8, .ref y9, .ref y10, .ref y11, .ref y12, .int bd, .int w, .int ps, .int (nI pa), .int lc, .int (nI (b2n fb)), .long ek, .long ev, .int (nI el), .int (nI fn), .ref y13, .ref y14, .ref y15, .ref y16, .int (nI js), .ref y17, .int (nI (b2n ib))])), (y1, .inl (.long, 25, .inr (.inl K))), (y2, .inl (.long, 25, .inr (.inl V))), (y3, .inl (.int, 25, .inl (fun q => nI (z q)))), (y4, .inl (.int, 1024, .inl (fun q => nI (L q)))), (y5, .inl (.int, 4096, .inl (fun q => nI (D q)))), (y6, .inl (.int, 128, .inl S)), (y7, .inl (.boolean, 128, .inl Xt)), (y8, .inl (.int, 17, .inl (fun q => nI (lv q)))), (y9, .inl (.int, 17, .inl (fun q => nI (en q)))), (y10, .inl (.int, 17, .inl (fun q => nI (mn q)))), (y11, .inl (.int, 2176, .inl (fun q => nI (bk q)))), (y12, .inl (.long, 17, .inr (.inl fl))), (y13, .inl (.long, 500, .inr (.inl FK))), (y14, .inl (.long, 500, .inr (.inl FV))), (y15, .inl (.int, 500, .inl (fun q => nI (Fz q)))), (y16, .inl (.int, 4200, .inl (fun q => nI (J q)))), (y17, .inl (.int, 128, .inl (fun q => nI (pk q)))), (o, .inl (.long, 1, .inr (.inl O)))] rfl rfl hn ?_
      refine g_aload_n X d_LW_law_1277 2 rfl ?_
      refine g_aload_n X d_LW_law_1278 4 rfl ?_
      refine g_iload X d_LW_law_1279 0 rfl ?_
      refine g_iconst (nI 1) X d_LW_law_1281 (by decide) ?_
      refine g_iadd X d_LW_law_1282 ?_
      refine g_vi (nI (ix + 1)) (nI_add _ _) ?_
      refine s_iald X hScr d_LW_law_1283 (by omega) (by omega) ?_
      refine g_vi (nI 1) hv ?_
      refine g_callVf (As := [.int (nI 1)]) (st := [.int (nI n)]) X d_LW_law_1284 (c_MD_count_1 hst hnq hc16 (fun t ht => (hB t ht).2.1) (en455 hI.1) hX hM) (hl_ov 17 rfl hn) rfl rfl k_ml_LW_144 k_cd_MD_count k_in_MD k_im_MD_count k_se_MD_count ⟨by decide +kernel, by decide +kernel, (by decide +kernel : (parseMethodDescriptor "(I)I").map (fun d => d.parameters.length) = some 1)⟩ ⟨by omega, by omega⟩ ⟨by omega, by omega⟩ (Nat.le_of_ble_eq_true rfl) (hg_ov hn [17, 26, 24] rfl) hrx_0 (fun E g9 h => by obtain ⟨hv9, hg9⟩ := h; cases hv9) (fun v9 g9 hq hfr => ?_)
      obtain ⟨hv9, hg9⟩ := hq
      cases hv9
      subst hg9
      refine g_ovP [17, 26, 24] [(x, .inr (5, [.ref xm, .ref xl, .ref xb, .ref xr, .ref xt, .int (nI c), .ref xg, .long sv, .int ps, .int bd])), (xm, .inr (2, [.ref m1, .ref m2, .ref m3, .int (nI n)])), (m1, .inl (.long, 24, .inr (.inl K))), (m2, .inl (.int, 24, .inl (fun q => nI (z q)))), (m3, .inl (.long, 24, .inr (.inl V))), (xl, .inr (1, [.ref l1, .int (nI u), .int (nI la), .int (nI le), .long lk, .int (nI ls), .long lw])), (l1, .inl (.byte, 1024, .inl (fun q => sb_b (L q)))), (xb, .inr (0, [.ref y, .ref s, .ref t, .int w])), (y, .inl (.byte, M * 32, .inl (fun q => sb_b (D q)))), (s, .inl (.int, M, .inl S)), (t, .inl (.int, M, .inl T)), (xr, .inr (4, [.ref xb, rt, .int (nI (b2n rb)), .int (nI ra), .int rft, .long rk, .int (nI rs), .long rv])), (xt, .inl (.object "RunStore$Table", 16, .inr (.inr (.inr (.inr rf))))), (xg, .inr (2, [.ref g1, .ref g2, .ref g3, .int (nI Gn)])), (g1, .inl (.long, NG, .inr (.inl GK))), (g2, .inl (.int, NG, .inl (fun q => nI (Gz q)))), (g3, .inl (.long, NG, .inr (.inl GV))), (h, .inr (6, [.int (nI 0), .int (nI M), .int (nI n), .ref y1, .ref y2, .ref y3, .int (nI u), .ref y4, .ref y5, .ref y6, .ref y7, .int (nI c), .ref y8, .ref y9, .ref y10, .ref y11, .ref y12, .int bd, .int w, .int ps, .int (nI pa), .int lc, .int (nI (b2n fb)), .long ek, .long ev, .int (nI el), .int (nI fn), .ref y13, .ref y14, .ref y15, .ref y16, .int (nI js), .ref y17, .int (nI (b2n ib))])), (y1, .inl (.long, 25, .inr (.inl K))), (y2, .inl (.long, 25, .inr (.inl V))), (y3, .inl (.int, 25, .inl (fun q => nI (z q)))), (y4, .inl (.int, 1024, .inl (fun q => nI (L q)))), (y5, .inl (.int, 4096, .inl (fun q => nI (D q)))), (y6, .inl (.int, 128, .inl S)), (y7, .inl (.boolean, 128, .inl Xt)), (y8, .inl (.int, 17, .inl (fun q => nI (lv q)))), (y9, .inl (.int, 17, .inl (fun q => nI (en q)))), (y10, .inl (.int, 17, .inl (fun q => nI (mn q)))), (y11, .inl (.int, 2176, .inl (fun q => nI (bk q)))), (y12, .inl (.long, 17, .inr (.inl fl))), (y13, .inl (.long, 500, .inr (.inl FK))), (y14, .inl (.long, 500, .inr (.inl FV))), (y15, .inl (.int, 500, .inl (fun q => nI (Fz q)))), (y16, .inl (.int, 4200, .inl (fun q => nI (J q)))), (y17, .inl (.int, 128, .inl (fun q => nI (pk q)))), (o, .inl (.long, 1, .inr (.inl O)))] rfl rfl hn ?_
      refine g_icmp_eq 1292 X d_LW_law_1287 (by decide) (fun h1287 => ?_) (fun h1287 => ?_)
      · refine g_widen (ce' := ce + 5) (sl' := sl + 150) (by omega) (by omega) ?_
        exact kk _ ⟨_, _, _, _, _, _, _, _, _, _, _, _, _, _, _, _, _, _, _, _, _, _, _, _, _, _, _, _, _, _, _, _, _, _, _, _, _, _, _, _, _, _, _, _, _, _, _, _, _, _, _, _, _, _, _, _, _, rfl, hn24, hs, hz, hu, hL, hD, hc16, hP, hI, hB, hX, hPd⟩
      · exact absurd rfl h1287
    · refine g_aload_n X d_LW_law_1267 3 rfl ?_
      refine g_aload_n X d_LW_law_1268 4 rfl ?_
      refine g_iload X d_LW_law_1269 0 rfl ?_
      refine g_iconst (nI 1) X d_LW_law_1271 (by decide) ?_
      refine g_iadd X d_LW_law_1272 ?_
      refine g_vi (nI (ix + 1)) (nI_add _ _) ?_
      refine s_iald X hScr d_LW_law_1273 (by omega) (by omega) ?_
      refine g_vi (nI 2) hv ?_
      refine g_callVf (As := [.int (nI 2)]) (st := []) X d_LW_law_1274 (c_RS_count_2 hst hD hM hnC hP hc16) (hl_ov 0 rfl hn) rfl rfl k_ml_LW_141 k_cd_RS_count k_in_RS k_im_RS_count k_se_RS_count ⟨by decide +kernel, by decide +kernel, (by decide +kernel : (parseMethodDescriptor "(I)I").map (fun d => d.parameters.length) = some 1)⟩ ⟨by omega, by omega⟩ ⟨by omega, by omega⟩ (Nat.le_of_ble_eq_true rfl) (hg_ov hn [0, 1, 5, 7, 8, 9, 10, 12] rfl) (hrx_P hn hPd [0, 1, 5, 7, 8, 9, 10, 12] rfl) (fun E g9 h => by obtain ⟨hv9, hg9⟩ := h; cases hv9) (fun v9 g9 hq hfr => ?_)
      obtain ⟨hv9, hg9⟩ := hq
      cases hv9
      subst hg9
      refine g_ovP [0, 1, 5, 7, 8, 9, 10, 12] [(x, .inr (5, [.ref xm, .ref xl, .ref xb, .ref xr, .ref xt, .int (nI c), .ref xg, .long sv, .int ps, .int bd])), (xm, .inr (2, [.ref m1, .ref m2, .ref m3, .int (nI n)])), (m1, .inl (.long, 24, .inr (.inl K))), (m2, .inl (.int, 24, .inl (fun q => nI (z q)))), (m3, .inl (.long, 24, .inr (.inl V))), (xl, .inr (1, [.ref l1, .int (nI u), .int (nI la), .int (nI le), .long lk, .int (nI ls), .long lw])), (l1, .inl (.byte, 1024, .inl (fun q => sb_b (L q)))), (xb, .inr (0, [.ref y, .ref s, .ref t, .int w])), (y, .inl (.byte, M * 32, .inl (fun q => sb_b (D q)))), (s, .inl (.int, M, .inl S)), (t, .inl (.int, M, .inl T)), (xr, .inr (4, [.ref xb, rt, .int (nI (b2n rb)), .int (nI ra), .int rft, .long rk, .int (nI rs), .long rv])), (xt, .inl (.object "RunStore$Table", 16, .inr (.inr (.inr (.inr rf))))), (xg, .inr (2, [.ref g1, .ref g2, .ref g3, .int (nI Gn)])), (g1, .inl (.long, NG, .inr (.inl GK))), (g2, .inl (.int, NG, .inl (fun q => nI (Gz q)))), (g3, .inl (.long, NG, .inr (.inl GV))), (h, .inr (6, [.int th, .int (nI M), .int (nI n), .ref y1, .ref y2, .ref y3, .int (nI u), .ref y4, .ref y5, .ref y6, .ref y7, .int (nI c), .ref y8, .ref y9, .ref y10, .ref y11, .ref y12, .int bd, .int w, .int ps, .int (nI pa), .int lc, .int (nI (b2n fb)), .long ek, .long ev, .int (nI el), .int (nI fn), .ref y13, .ref y14, .ref y15, .ref y16, .int (nI js), .ref y17, .int (nI (b2n ib))])), (y1, .inl (.long, 25, .inr (.inl K))), (y2, .inl (.long, 25, .inr (.inl V))), (y3, .inl (.int, 25, .inl (fun q => nI (z q)))), (y4, .inl (.int, 1024, .inl (fun q => nI (L q)))), (y5, .inl (.int, 4096, .inl (fun q => nI (D q)))), (y6, .inl (.int, 128, .inl S)), (y7, .inl (.boolean, 128, .inl Xt)), (y8, .inl (.int, 17, .inl (fun q => nI (lv q)))), (y9, .inl (.int, 17, .inl (fun q => nI (en q)))), (y10, .inl (.int, 17, .inl (fun q => nI (mn q)))), (y11, .inl (.int, 2176, .inl (fun q => nI (bk q)))), (y12, .inl (.long, 17, .inr (.inl fl))), (y13, .inl (.long, 500, .inr (.inl FK))), (y14, .inl (.long, 500, .inr (.inl FV))), (y15, .inl (.int, 500, .inl (fun q => nI (Fz q)))), (y16, .inl (.int, 4200, .inl (fun q => nI (J q)))), (y17, .inl (.int, 128, .inl (fun q => nI (pk q)))), (o, .inl (.long, 1, .inr (.inl O)))] rfl rfl hn ?_
      refine g_aload_n X d_LW_law_1277 2 rfl ?_
      refine g_aload_n X d_LW_law_1278 4 rfl ?_
      refine g_iload X d_LW_law_1279 0 rfl ?_
      refine g_iconst (nI 1) X d_LW_law_1281 (by decide) ?_
      refine g_iadd X d_LW_law_1282 ?_
      refine g_vi (nI (ix + 1)) (nI_add _ _) ?_
      refine s_iald X hScr d_LW_law_1283 (by omega) (by omega) ?_
      refine g_vi (nI 2) hv ?_
      refine g_callVf (As := [.int (nI 2)]) (st := [.int (nI u)]) X d_LW_law_1284 (c_MD_count_2 hst hnq hc16 (fun t ht => (hB t ht).2.1) (en455 hI.1) hX hM) (hl_ov 17 rfl hn) rfl rfl k_ml_LW_144 k_cd_MD_count k_in_MD k_im_MD_count k_se_MD_count ⟨by decide +kernel, by decide +kernel, (by decide +kernel : (parseMethodDescriptor "(I)I").map (fun d => d.parameters.length) = some 1)⟩ ⟨by omega, by omega⟩ ⟨by omega, by omega⟩ (Nat.le_of_ble_eq_true rfl) (hg_ov hn [17, 26, 24] rfl) hrx_0 (fun E g9 h => by obtain ⟨hv9, hg9⟩ := h; cases hv9) (fun v9 g9 hq hfr => ?_)
      obtain ⟨hv9, hg9⟩ := hq
      cases hv9
      subst hg9
      refine g_ovP [17, 26, 24] [(x, .inr (5, [.ref xm, .ref xl, .ref xb, .ref xr, .ref xt, .int (nI c), .ref xg, .long sv, .int ps, .int bd])), (xm, .inr (2, [.ref m1, .ref m2, .ref m3, .int (nI n)])), (m1, .inl (.long, 24, .inr (.inl K))), (m2, .inl (.int, 24, .inl (fun q => nI (z q)))), (m3, .inl (.long, 24, .inr (.inl V))), (xl, .inr (1, [.ref l1, .int (nI u), .int (nI la), .int (nI le), .long lk, .int (nI ls), .long lw])), (l1, .inl (.byte, 1024, .inl (fun q => sb_b (L q)))), (xb, .inr (0, [.ref y, .ref s, .ref t, .int w])), (y, .inl (.byte, M * 32, .inl (fun q => sb_b (D q)))), (s, .inl (.int, M, .inl S)), (t, .inl (.int, M, .inl T)), (xr, .inr (4, [.ref xb, rt, .int (nI (b2n rb)), .int (nI ra), .int rft, .long rk, .int (nI rs), .long rv])), (xt, .inl (.object "RunStore$Table", 16, .inr (.inr (.inr (.inr rf))))), (xg, .inr (2, [.ref g1, .ref g2, .ref g3, .int (nI Gn)])), (g1, .inl (.long, NG, .inr (.inl GK))), (g2, .inl (.int, NG, .inl (fun q => nI (Gz q)))), (g3, .inl (.long, NG, .inr (.inl GV))), (h, .inr (6, [.int (nI 0), .int (nI M), .int (nI n), .ref y1, .ref y2, .ref y3, .int (nI u), .ref y4, .ref y5, .ref y6, .ref y7, .int (nI c), .ref y8, .ref y9, .ref y10, .ref y11, .ref y12, .int bd, .int w, .int ps, .int (nI pa), .int lc, .int (nI (b2n fb)), .long ek, .long ev, .int (nI el), .int (nI fn), .ref y13, .ref y14, .ref y15, .ref y16, .int (nI js), .ref y17, .int (nI (b2n ib))])), (y1, .inl (.long, 25, .inr (.inl K))), (y2, .inl (.long, 25, .inr (.inl V))), (y3, .inl (.int, 25, .inl (fun q => nI (z q)))), (y4, .inl (.int, 1024, .inl (fun q => nI (L q)))), (y5, .inl (.int, 4096, .inl (fun q => nI (D q)))), (y6, .inl (.int, 128, .inl S)), (y7, .inl (.boolean, 128, .inl Xt)), (y8, .inl (.int, 17, .inl (fun q => nI (lv q)))), (y9, .inl (.int, 17, .inl (fun q => nI (en q)))), (y10, .inl (.int, 17, .inl (fun q => nI (mn q)))), (y11, .inl (.int, 2176, .inl (fun q => nI (bk q)))), (y12, .inl (.long, 17, .inr (.inl fl))), (y13, .inl (.long, 500, .inr (.inl FK))), (y14, .inl (.long, 500, .inr (.inl FV))), (y15, .inl (.int, 500, .inl (fun q => nI (Fz q)))), (y16, .inl (.int, 4200, .inl (fun q => nI (J q)))), (y17, .inl (.int, 128, .inl (fun q => nI (pk q)))), (o, .inl (.long, 1, .inr (.inl O)))] rfl rfl hn ?_
      refine g_icmp_eq 1292 X d_LW_law_1287 (by decide) (fun h1287 => ?_) (fun h1287 => ?_)
      · refine g_widen (ce' := ce + 5) (sl' := sl + 150) (by omega) (by omega) ?_
        exact kk _ ⟨_, _, _, _, _, _, _, _, _, _, _, _, _, _, _, _, _, _, _, _, _, _, _, _, _, _, _, _, _, _, _, _, _, _, _, _, _, _, _, _, _, _, _, _, _, _, _, _, _, _, _, _, _, _, _, _, _, rfl, hn24, hs, hz, hu, hL, hD, hc16, hP, hI, hB, hX, hPd⟩
      · exact absurd rfl h1287
    · refine g_aload_n X d_LW_law_1267 3 rfl ?_
      refine g_aload_n X d_LW_law_1268 4 rfl ?_
      refine g_iload X d_LW_law_1269 0 rfl ?_
      refine g_iconst (nI 1) X d_LW_law_1271 (by decide) ?_
      refine g_iadd X d_LW_law_1272 ?_
      refine g_vi (nI (ix + 1)) (nI_add _ _) ?_
      refine s_iald X hScr d_LW_law_1273 (by omega) (by omega) ?_
      refine g_vi (nI 3) hv ?_
      refine g_callVf (As := [.int (nI 3)]) (st := []) X d_LW_law_1274 (c_RS_count_3 hst hD hM hnC hP hc16) (hl_ov 0 rfl hn) rfl rfl k_ml_LW_141 k_cd_RS_count k_in_RS k_im_RS_count k_se_RS_count ⟨by decide +kernel, by decide +kernel, (by decide +kernel : (parseMethodDescriptor "(I)I").map (fun d => d.parameters.length) = some 1)⟩ ⟨by omega, by omega⟩ ⟨by omega, by omega⟩ (Nat.le_of_ble_eq_true rfl) (hg_ov hn [0, 1, 5, 7, 8, 9, 10, 12] rfl) (hrx_P hn hPd [0, 1, 5, 7, 8, 9, 10, 12] rfl) (fun E g9 h => by obtain ⟨hv9, hg9⟩ := h; cases hv9) (fun v9 g9 hq hfr => ?_)
      obtain ⟨hv9, hg9⟩ := hq
      cases hv9
      subst hg9
      refine g_ovP [0, 1, 5, 7, 8, 9, 10, 12] [(x, .inr (5, [.ref xm, .ref xl, .ref xb, .ref xr, .ref xt, .int (nI c), .ref xg, .long sv, .int ps, .int bd])), (xm, .inr (2, [.ref m1, .ref m2, .ref m3, .int (nI n)])), (m1, .inl (.long, 24, .inr (.inl K))), (m2, .inl (.int, 24, .inl (fun q => nI (z q)))), (m3, .inl (.long, 24, .inr (.inl V))), (xl, .inr (1, [.ref l1, .int (nI u), .int (nI la), .int (nI le), .long lk, .int (nI ls), .long lw])), (l1, .inl (.byte, 1024, .inl (fun q => sb_b (L q)))), (xb, .inr (0, [.ref y, .ref s, .ref t, .int w])), (y, .inl (.byte, M * 32, .inl (fun q => sb_b (D q)))), (s, .inl (.int, M, .inl S)), (t, .inl (.int, M, .inl T)), (xr, .inr (4, [.ref xb, rt, .int (nI (b2n rb)), .int (nI ra), .int rft, .long rk, .int (nI rs), .long rv])), (xt, .inl (.object "RunStore$Table", 16, .inr (.inr (.inr (.inr rf))))), (xg, .inr (2, [.ref g1, .ref g2, .ref g3, .int (nI Gn)])), (g1, .inl (.long, NG, .inr (.inl GK))), (g2, .inl (.int, NG, .inl (fun q => nI (Gz q)))), (g3, .inl (.long, NG, .inr (.inl GV))), (h, .inr (6, [.int th, .int (nI M), .int (nI n), .ref y1, .ref y2, .ref y3, .int (nI u), .ref y4, .ref y5, .ref y6, .ref y7, .int (nI c), .ref y8, .ref y9, .ref y10, .ref y11, .ref y12, .int bd, .int w, .int ps, .int (nI pa), .int lc, .int (nI (b2n fb)), .long ek, .long ev, .int (nI el), .int (nI fn), .ref y13, .ref y14, .ref y15, .ref y16, .int (nI js), .ref y17, .int (nI (b2n ib))])), (y1, .inl (.long, 25, .inr (.inl K))), (y2, .inl (.long, 25, .inr (.inl V))), (y3, .inl (.int, 25, .inl (fun q => nI (z q)))), (y4, .inl (.int, 1024, .inl (fun q => nI (L q)))), (y5, .inl (.int, 4096, .inl (fun q => nI (D q)))), (y6, .inl (.int, 128, .inl S)), (y7, .inl (.boolean, 128, .inl Xt)), (y8, .inl (.int, 17, .inl (fun q => nI (lv q)))), (y9, .inl (.int, 17, .inl (fun q => nI (en q)))), (y10, .inl (.int, 17, .inl (fun q => nI (mn q)))), (y11, .inl (.int, 2176, .inl (fun q => nI (bk q)))), (y12, .inl (.long, 17, .inr (.inl fl))), (y13, .inl (.long, 500, .inr (.inl FK))), (y14, .inl (.long, 500, .inr (.inl FV))), (y15, .inl (.int, 500, .inl (fun q => nI (Fz q)))), (y16, .inl (.int, 4200, .inl (fun q => nI (J q)))), (y17, .inl (.int, 128, .inl (fun q => nI (pk q)))), (o, .inl (.long, 1, .inr (.inl O)))] rfl rfl hn ?_
      refine g_aload_n X d_LW_law_1277 2 rfl ?_
      refine g_aload_n X d_LW_law_1278 4 rfl ?_
      refine g_iload X d_LW_law_1279 0 rfl ?_
      refine g_iconst (nI 1) X d_LW_law_1281 (by decide) ?_
      refine g_iadd X d_LW_law_1282 ?_
      refine g_vi (nI (ix + 1)) (nI_add _ _) ?_
      refine s_iald X hScr d_LW_law_1283 (by omega) (by omega) ?_
      refine g_vi (nI 3) hv ?_
      refine g_callVf (As := [.int (nI 3)]) (st := [.int (nI c)]) X d_LW_law_1284 (c_MD_count_3 hst hnq hc16 (fun t ht => (hB t ht).2.1) (en455 hI.1) hX hM) (hl_ov 17 rfl hn) rfl rfl k_ml_LW_144 k_cd_MD_count k_in_MD k_im_MD_count k_se_MD_count ⟨by decide +kernel, by decide +kernel, (by decide +kernel : (parseMethodDescriptor "(I)I").map (fun d => d.parameters.length) = some 1)⟩ ⟨by omega, by omega⟩ ⟨by omega, by omega⟩ (Nat.le_of_ble_eq_true rfl) (hg_ov hn [17, 26, 24] rfl) hrx_0 (fun E g9 h => by obtain ⟨hv9, hg9⟩ := h; cases hv9) (fun v9 g9 hq hfr => ?_)
      obtain ⟨hv9, hg9⟩ := hq
      cases hv9
      subst hg9
      refine g_ovP [17, 26, 24] [(x, .inr (5, [.ref xm, .ref xl, .ref xb, .ref xr, .ref xt, .int (nI c), .ref xg, .long sv, .int ps, .int bd])), (xm, .inr (2, [.ref m1, .ref m2, .ref m3, .int (nI n)])), (m1, .inl (.long, 24, .inr (.inl K))), (m2, .inl (.int, 24, .inl (fun q => nI (z q)))), (m3, .inl (.long, 24, .inr (.inl V))), (xl, .inr (1, [.ref l1, .int (nI u), .int (nI la), .int (nI le), .long lk, .int (nI ls), .long lw])), (l1, .inl (.byte, 1024, .inl (fun q => sb_b (L q)))), (xb, .inr (0, [.ref y, .ref s, .ref t, .int w])), (y, .inl (.byte, M * 32, .inl (fun q => sb_b (D q)))), (s, .inl (.int, M, .inl S)), (t, .inl (.int, M, .inl T)), (xr, .inr (4, [.ref xb, rt, .int (nI (b2n rb)), .int (nI ra), .int rft, .long rk, .int (nI rs), .long rv])), (xt, .inl (.object "RunStore$Table", 16, .inr (.inr (.inr (.inr rf))))), (xg, .inr (2, [.ref g1, .ref g2, .ref g3, .int (nI Gn)])), (g1, .inl (.long, NG, .inr (.inl GK))), (g2, .inl (.int, NG, .inl (fun q => nI (Gz q)))), (g3, .inl (.long, NG, .inr (.inl GV))), (h, .inr (6, [.int (nI 0), .int (nI M), .int (nI n), .ref y1, .ref y2, .ref y3, .int (nI u), .ref y4, .ref y5, .ref y6, .ref y7, .int (nI c), .ref y8, .ref y9, .ref y10, .ref y11, .ref y12, .int bd, .int w, .int ps, .int (nI pa), .int lc, .int (nI (b2n fb)), .long ek, .long ev, .int (nI el), .int (nI fn), .ref y13, .ref y14, .ref y15, .ref y16, .int (nI js), .ref y17, .int (nI (b2n ib))])), (y1, .inl (.long, 25, .inr (.inl K))), (y2, .inl (.long, 25, .inr (.inl V))), (y3, .inl (.int, 25, .inl (fun q => nI (z q)))), (y4, .inl (.int, 1024, .inl (fun q => nI (L q)))), (y5, .inl (.int, 4096, .inl (fun q => nI (D q)))), (y6, .inl (.int, 128, .inl S)), (y7, .inl (.boolean, 128, .inl Xt)), (y8, .inl (.int, 17, .inl (fun q => nI (lv q)))), (y9, .inl (.int, 17, .inl (fun q => nI (en q)))), (y10, .inl (.int, 17, .inl (fun q => nI (mn q)))), (y11, .inl (.int, 2176, .inl (fun q => nI (bk q)))), (y12, .inl (.long, 17, .inr (.inl fl))), (y13, .inl (.long, 500, .inr (.inl FK))), (y14, .inl (.long, 500, .inr (.inl FV))), (y15, .inl (.int, 500, .inl (fun q => nI (Fz q)))), (y16, .inl (.int, 4200, .inl (fun q => nI (J q)))), (y17, .inl (.int, 128, .inl (fun q => nI (pk q)))), (o, .inl (.long, 1, .inr (.inl O)))] rfl rfl hn ?_
      refine g_icmp_eq 1292 X d_LW_law_1287 (by decide) (fun h1287 => ?_) (fun h1287 => ?_)
      · refine g_widen (ce' := ce + 5) (sl' := sl + 150) (by omega) (by omega) ?_
        exact kk _ ⟨_, _, _, _, _, _, _, _, _, _, _, _, _, _, _, _, _, _, _, _, _, _, _, _, _, _, _, _, _, _, _, _, _, _, _, _, _, _, _, _, _, _, _, _, _, _, _, _, _, _, _, _, _, _, _, _, _, rfl, hn24, hs, hz, hu, hL, hD, hc16, hP, hI, hB, hX, hPd⟩
      · exact absurd rfl h1287
    · refine g_aload_n X d_LW_law_1267 3 rfl ?_
      refine g_aload_n X d_LW_law_1268 4 rfl ?_
      refine g_iload X d_LW_law_1269 0 rfl ?_
      refine g_iconst (nI 1) X d_LW_law_1271 (by decide) ?_
      refine g_iadd X d_LW_law_1272 ?_
      refine g_vi (nI (ix + 1)) (nI_add _ _) ?_
      refine s_iald X hScr d_LW_law_1273 (by omega) (by omega) ?_
      refine g_vi (nI 4) hv ?_
      refine g_callVf (As := [.int (nI 4)]) (st := []) X d_LW_law_1274 (c_RS_count_4 hst hD hM hnC hP hc16) (hl_ov 0 rfl hn) rfl rfl k_ml_LW_141 k_cd_RS_count k_in_RS k_im_RS_count k_se_RS_count ⟨by decide +kernel, by decide +kernel, (by decide +kernel : (parseMethodDescriptor "(I)I").map (fun d => d.parameters.length) = some 1)⟩ ⟨by omega, by omega⟩ ⟨by omega, by omega⟩ (Nat.le_of_ble_eq_true rfl) (hg_ov hn [0, 1, 5, 7, 8, 9, 10, 12] rfl) (hrx_P hn hPd [0, 1, 5, 7, 8, 9, 10, 12] rfl) (fun E g9 h => by obtain ⟨hv9, hg9⟩ := h; cases hv9) (fun v9 g9 hq hfr => ?_)
      obtain ⟨hv9, hg9⟩ := hq
      cases hv9
      subst hg9
      refine g_ovP [0, 1, 5, 7, 8, 9, 10, 12] [(x, .inr (5, [.ref xm, .ref xl, .ref xb, .ref xr, .ref xt, .int (nI c), .ref xg, .long sv, .int ps, .int bd])), (xm, .inr (2, [.ref m1, .ref m2, .ref m3, .int (nI n)])), (m1, .inl (.long, 24, .inr (.inl K))), (m2, .inl (.int, 24, .inl (fun q => nI (z q)))), (m3, .inl (.long, 24, .inr (.inl V))), (xl, .inr (1, [.ref l1, .int (nI u), .int (nI la), .int (nI le), .long lk, .int (nI ls), .long lw])), (l1, .inl (.byte, 1024, .inl (fun q => sb_b (L q)))), (xb, .inr (0, [.ref y, .ref s, .ref t, .int w])), (y, .inl (.byte, M * 32, .inl (fun q => sb_b (D q)))), (s, .inl (.int, M, .inl S)), (t, .inl (.int, M, .inl T)), (xr, .inr (4, [.ref xb, rt, .int (nI (b2n rb)), .int (nI ra), .int rft, .long rk, .int (nI rs), .long rv])), (xt, .inl (.object "RunStore$Table", 16, .inr (.inr (.inr (.inr rf))))), (xg, .inr (2, [.ref g1, .ref g2, .ref g3, .int (nI Gn)])), (g1, .inl (.long, NG, .inr (.inl GK))), (g2, .inl (.int, NG, .inl (fun q => nI (Gz q)))), (g3, .inl (.long, NG, .inr (.inl GV))), (h, .inr (6, [.int th, .int (nI M), .int (nI n), .ref y1, .ref y2, .ref y3, .int (nI u), .ref y4, .ref y5, .ref y6, .ref y7, .int (nI c), .ref y8, .ref y9, .ref y10, .ref y11, .ref y12, .int bd, .int w, .int ps, .int (nI pa), .int lc, .int (nI (b2n fb)), .long ek, .long ev, .int (nI el), .int (nI fn), .ref y13, .ref y14, .ref y15, .ref y16, .int (nI js), .ref y17, .int (nI (b2n ib))])), (y1, .inl (.long, 25, .inr (.inl K))), (y2, .inl (.long, 25, .inr (.inl V))), (y3, .inl (.int, 25, .inl (fun q => nI (z q)))), (y4, .inl (.int, 1024, .inl (fun q => nI (L q)))), (y5, .inl (.int, 4096, .inl (fun q => nI (D q)))), (y6, .inl (.int, 128, .inl S)), (y7, .inl (.boolean, 128, .inl Xt)), (y8, .inl (.int, 17, .inl (fun q => nI (lv q)))), (y9, .inl (.int, 17, .inl (fun q => nI (en q)))), (y10, .inl (.int, 17, .inl (fun q => nI (mn q)))), (y11, .inl (.int, 2176, .inl (fun q => nI (bk q)))), (y12, .inl (.long, 17, .inr (.inl fl))), (y13, .inl (.long, 500, .inr (.inl FK))), (y14, .inl (.long, 500, .inr (.inl FV))), (y15, .inl (.int, 500, .inl (fun q => nI (Fz q)))), (y16, .inl (.int, 4200, .inl (fun q => nI (J q)))), (y17, .inl (.int, 128, .inl (fun q => nI (pk q)))), (o, .inl (.long, 1, .inr (.inl O)))] rfl rfl hn ?_
      refine g_aload_n X d_LW_law_1277 2 rfl ?_
      refine g_aload_n X d_LW_law_1278 4 rfl ?_
      refine g_iload X d_LW_law_1279 0 rfl ?_
      refine g_iconst (nI 1) X d_LW_law_1281 (by decide) ?_
      refine g_iadd X d_LW_law_1282 ?_
      refine g_vi (nI (ix + 1)) (nI_add _ _) ?_
      refine s_iald X hScr d_LW_law_1283 (by omega) (by omega) ?_
      refine g_vi (nI 4) hv ?_
      refine g_callVf (As := [.int (nI 4)]) (st := [.int (nI (fcn T M))]) X d_LW_law_1284 (c_MD_count_4 hst hnq hc16 (fun t ht => (hB t ht).2.1) (en455 hI.1) hX hM) (hl_ov 17 rfl hn) rfl rfl k_ml_LW_144 k_cd_MD_count k_in_MD k_im_MD_count k_se_MD_count ⟨by decide +kernel, by decide +kernel, (by decide +kernel : (parseMethodDescriptor "(I)I").map (fun d => d.parameters.length) = some 1)⟩ ⟨by omega, by omega⟩ ⟨by omega, by omega⟩ (Nat.le_of_ble_eq_true rfl) (hg_ov hn [17, 26, 24] rfl) hrx_0 (fun E g9 h => by obtain ⟨hv9, hg9⟩ := h; cases hv9) (fun v9 g9 hq hfr => ?_)
      obtain ⟨hv9, hg9⟩ := hq
      cases hv9
      subst hg9
      refine g_ovP [17, 26, 24] [(x, .inr (5, [.ref xm, .ref xl, .ref xb, .ref xr, .ref xt, .int (nI c), .ref xg, .long sv, .int ps, .int bd])), (xm, .inr (2, [.ref m1, .ref m2, .ref m3, .int (nI n)])), (m1, .inl (.long, 24, .inr (.inl K))), (m2, .inl (.int, 24, .inl (fun q => nI (z q)))), (m3, .inl (.long, 24, .inr (.inl V))), (xl, .inr (1, [.ref l1, .int (nI u), .int (nI la), .int (nI le), .long lk, .int (nI ls), .long lw])), (l1, .inl (.byte, 1024, .inl (fun q => sb_b (L q)))), (xb, .inr (0, [.ref y, .ref s, .ref t, .int w])), (y, .inl (.byte, M * 32, .inl (fun q => sb_b (D q)))), (s, .inl (.int, M, .inl S)), (t, .inl (.int, M, .inl T)), (xr, .inr (4, [.ref xb, rt, .int (nI (b2n rb)), .int (nI ra), .int rft, .long rk, .int (nI rs), .long rv])), (xt, .inl (.object "RunStore$Table", 16, .inr (.inr (.inr (.inr rf))))), (xg, .inr (2, [.ref g1, .ref g2, .ref g3, .int (nI Gn)])), (g1, .inl (.long, NG, .inr (.inl GK))), (g2, .inl (.int, NG, .inl (fun q => nI (Gz q)))), (g3, .inl (.long, NG, .inr (.inl GV))), (h, .inr (6, [.int (nI 0), .int (nI M), .int (nI n), .ref y1, .ref y2, .ref y3, .int (nI u), .ref y4, .ref y5, .ref y6, .ref y7, .int (nI c), .ref y8, .ref y9, .ref y10, .ref y11, .ref y12, .int bd, .int w, .int ps, .int (nI pa), .int lc, .int (nI (b2n fb)), .long ek, .long ev, .int (nI el), .int (nI fn), .ref y13, .ref y14, .ref y15, .ref y16, .int (nI js), .ref y17, .int (nI (b2n ib))])), (y1, .inl (.long, 25, .inr (.inl K))), (y2, .inl (.long, 25, .inr (.inl V))), (y3, .inl (.int, 25, .inl (fun q => nI (z q)))), (y4, .inl (.int, 1024, .inl (fun q => nI (L q)))), (y5, .inl (.int, 4096, .inl (fun q => nI (D q)))), (y6, .inl (.int, 128, .inl S)), (y7, .inl (.boolean, 128, .inl Xt)), (y8, .inl (.int, 17, .inl (fun q => nI (lv q)))), (y9, .inl (.int, 17, .inl (fun q => nI (en q)))), (y10, .inl (.int, 17, .inl (fun q => nI (mn q)))), (y11, .inl (.int, 2176, .inl (fun q => nI (bk q)))), (y12, .inl (.long, 17, .inr (.inl fl))), (y13, .inl (.long, 500, .inr (.inl FK))), (y14, .inl (.long, 500, .inr (.inl FV))), (y15, .inl (.int, 500, .inl (fun q => nI (Fz q)))), (y16, .inl (.int, 4200, .inl (fun q => nI (J q)))), (y17, .inl (.int, 128, .inl (fun q => nI (pk q)))), (o, .inl (.long, 1, .inr (.inl O)))] rfl rfl hn ?_
      refine g_icmp_eq 1292 X d_LW_law_1287 (by decide) (fun h1287 => ?_) (fun h1287 => ?_)
      · refine g_widen (ce' := ce + 5) (sl' := sl + 150) (by omega) (by omega) ?_
        exact kk _ ⟨_, _, _, _, _, _, _, _, _, _, _, _, _, _, _, _, _, _, _, _, _, _, _, _, _, _, _, _, _, _, _, _, _, _, _, _, _, _, _, _, _, _, _, _, _, _, _, _, _, _, _, _, _, _, _, _, _, rfl, hn24, hs, hz, hu, hL, hD, hc16, hP, hI, hB, hX, hPd⟩
      · exact absurd rfl h1287
    · refine g_aload_n X d_LW_law_1267 3 rfl ?_
      refine g_aload_n X d_LW_law_1268 4 rfl ?_
      refine g_iload X d_LW_law_1269 0 rfl ?_
      refine g_iconst (nI 1) X d_LW_law_1271 (by decide) ?_
      refine g_iadd X d_LW_law_1272 ?_
      refine g_vi (nI (ix + 1)) (nI_add _ _) ?_
      refine s_iald X hScr d_LW_law_1273 (by omega) (by omega) ?_
      refine g_vi (nI 5) hv ?_
      refine g_callVf (As := [.int (nI 5)]) (st := []) X d_LW_law_1274 (c_RS_count_5 hst hD hM hnC hP hc16) (hl_ov 0 rfl hn) rfl rfl k_ml_LW_141 k_cd_RS_count k_in_RS k_im_RS_count k_se_RS_count ⟨by decide +kernel, by decide +kernel, (by decide +kernel : (parseMethodDescriptor "(I)I").map (fun d => d.parameters.length) = some 1)⟩ ⟨by omega, by omega⟩ ⟨by omega, by omega⟩ (Nat.le_of_ble_eq_true rfl) (hg_ov hn [0, 1, 5, 7, 8, 9, 10, 12] rfl) (hrx_P hn hPd [0, 1, 5, 7, 8, 9, 10, 12] rfl) (fun E g9 h => by obtain ⟨hv9, hg9⟩ := h; cases hv9) (fun v9 g9 hq hfr => ?_)
      obtain ⟨hv9, hg9⟩ := hq
      cases hv9
      subst hg9
      refine g_ovP [0, 1, 5, 7, 8, 9, 10, 12] [(x, .inr (5, [.ref xm, .ref xl, .ref xb, .ref xr, .ref xt, .int (nI c), .ref xg, .long sv, .int ps, .int bd])), (xm, .inr (2, [.ref m1, .ref m2, .ref m3, .int (nI n)])), (m1, .inl (.long, 24, .inr (.inl K))), (m2, .inl (.int, 24, .inl (fun q => nI (z q)))), (m3, .inl (.long, 24, .inr (.inl V))), (xl, .inr (1, [.ref l1, .int (nI u), .int (nI la), .int (nI le), .long lk, .int (nI ls), .long lw])), (l1, .inl (.byte, 1024, .inl (fun q => sb_b (L q)))), (xb, .inr (0, [.ref y, .ref s, .ref t, .int w])), (y, .inl (.byte, M * 32, .inl (fun q => sb_b (D q)))), (s, .inl (.int, M, .inl S)), (t, .inl (.int, M, .inl T)), (xr, .inr (4, [.ref xb, rt, .int (nI (b2n rb)), .int (nI ra), .int rft, .long rk, .int (nI rs), .long rv])), (xt, .inl (.object "RunStore$Table", 16, .inr (.inr (.inr (.inr rf))))), (xg, .inr (2, [.ref g1, .ref g2, .ref g3, .int (nI Gn)])), (g1, .inl (.long, NG, .inr (.inl GK))), (g2, .inl (.int, NG, .inl (fun q => nI (Gz q)))), (g3, .inl (.long, NG, .inr (.inl GV))), (h, .inr (6, [.int th, .int (nI M), .int (nI n), .ref y1, .ref y2, .ref y3, .int (nI u), .ref y4, .ref y5, .ref y6, .ref y7, .int (nI c), .ref y8, .ref y9, .ref y10, .ref y11, .ref y12, .int bd, .int w, .int ps, .int (nI pa), .int lc, .int (nI (b2n fb)), .long ek, .long ev, .int (nI el), .int (nI fn), .ref y13, .ref y14, .ref y15, .ref y16, .int (nI js), .ref y17, .int (nI (b2n ib))])), (y1, .inl (.long, 25, .inr (.inl K))), (y2, .inl (.long, 25, .inr (.inl V))), (y3, .inl (.int, 25, .inl (fun q => nI (z q)))), (y4, .inl (.int, 1024, .inl (fun q => nI (L q)))), (y5, .inl (.int, 4096, .inl (fun q => nI (D q)))), (y6, .inl (.int, 128, .inl S)), (y7, .inl (.boolean, 128, .inl Xt)), (y8, .inl (.int, 17, .inl (fun q => nI (lv q)))), (y9, .inl (.int, 17, .inl (fun q => nI (en q)))), (y10, .inl (.int, 17, .inl (fun q => nI (mn q)))), (y11, .inl (.int, 2176, .inl (fun q => nI (bk q)))), (y12, .inl (.long, 17, .inr (.inl fl))), (y13, .inl (.long, 500, .inr (.inl FK))), (y14, .inl (.long, 500, .inr (.inl FV))), (y15, .inl (.int, 500, .inl (fun q => nI (Fz q)))), (y16, .inl (.int, 4200, .inl (fun q => nI (J q)))), (y17, .inl (.int, 128, .inl (fun q => nI (pk q)))), (o, .inl (.long, 1, .inr (.inl O)))] rfl rfl hn ?_
      refine g_aload_n X d_LW_law_1277 2 rfl ?_
      refine g_aload_n X d_LW_law_1278 4 rfl ?_
      refine g_iload X d_LW_law_1279 0 rfl ?_
      refine g_iconst (nI 1) X d_LW_law_1281 (by decide) ?_
      refine g_iadd X d_LW_law_1282 ?_
      refine g_vi (nI (ix + 1)) (nI_add _ _) ?_
      refine s_iald X hScr d_LW_law_1283 (by omega) (by omega) ?_
      refine g_vi (nI 5) hv ?_
      refine g_callVf (As := [.int (nI 5)]) (st := [.int w]) X d_LW_law_1284 (c_MD_count_5 hst hnq hc16 (fun t ht => (hB t ht).2.1) (en455 hI.1) hX hM) (hl_ov 17 rfl hn) rfl rfl k_ml_LW_144 k_cd_MD_count k_in_MD k_im_MD_count k_se_MD_count ⟨by decide +kernel, by decide +kernel, (by decide +kernel : (parseMethodDescriptor "(I)I").map (fun d => d.parameters.length) = some 1)⟩ ⟨by omega, by omega⟩ ⟨by omega, by omega⟩ (Nat.le_of_ble_eq_true rfl) (hg_ov hn [17, 26, 24] rfl) hrx_0 (fun E g9 h => by obtain ⟨hv9, hg9⟩ := h; cases hv9) (fun v9 g9 hq hfr => ?_)
      obtain ⟨hv9, hg9⟩ := hq
      cases hv9
      subst hg9
      refine g_ovP [17, 26, 24] [(x, .inr (5, [.ref xm, .ref xl, .ref xb, .ref xr, .ref xt, .int (nI c), .ref xg, .long sv, .int ps, .int bd])), (xm, .inr (2, [.ref m1, .ref m2, .ref m3, .int (nI n)])), (m1, .inl (.long, 24, .inr (.inl K))), (m2, .inl (.int, 24, .inl (fun q => nI (z q)))), (m3, .inl (.long, 24, .inr (.inl V))), (xl, .inr (1, [.ref l1, .int (nI u), .int (nI la), .int (nI le), .long lk, .int (nI ls), .long lw])), (l1, .inl (.byte, 1024, .inl (fun q => sb_b (L q)))), (xb, .inr (0, [.ref y, .ref s, .ref t, .int w])), (y, .inl (.byte, M * 32, .inl (fun q => sb_b (D q)))), (s, .inl (.int, M, .inl S)), (t, .inl (.int, M, .inl T)), (xr, .inr (4, [.ref xb, rt, .int (nI (b2n rb)), .int (nI ra), .int rft, .long rk, .int (nI rs), .long rv])), (xt, .inl (.object "RunStore$Table", 16, .inr (.inr (.inr (.inr rf))))), (xg, .inr (2, [.ref g1, .ref g2, .ref g3, .int (nI Gn)])), (g1, .inl (.long, NG, .inr (.inl GK))), (g2, .inl (.int, NG, .inl (fun q => nI (Gz q)))), (g3, .inl (.long, NG, .inr (.inl GV))), (h, .inr (6, [.int (nI 0), .int (nI M), .int (nI n), .ref y1, .ref y2, .ref y3, .int (nI u), .ref y4, .ref y5, .ref y6, .ref y7, .int (nI c), .ref y8, .ref y9, .ref y10, .ref y11, .ref y12, .int bd, .int w, .int ps, .int (nI pa), .int lc, .int (nI (b2n fb)), .long ek, .long ev, .int (nI el), .int (nI fn), .ref y13, .ref y14, .ref y15, .ref y16, .int (nI js), .ref y17, .int (nI (b2n ib))])), (y1, .inl (.long, 25, .inr (.inl K))), (y2, .inl (.long, 25, .inr (.inl V))), (y3, .inl (.int, 25, .inl (fun q => nI (z q)))), (y4, .inl (.int, 1024, .inl (fun q => nI (L q)))), (y5, .inl (.int, 4096, .inl (fun q => nI (D q)))), (y6, .inl (.int, 128, .inl S)), (y7, .inl (.boolean, 128, .inl Xt)), (y8, .inl (.int, 17, .inl (fun q => nI (lv q)))), (y9, .inl (.int, 17, .inl (fun q => nI (en q)))), (y10, .inl (.int, 17, .inl (fun q => nI (mn q)))), (y11, .inl (.int, 2176, .inl (fun q => nI (bk q)))), (y12, .inl (.long, 17, .inr (.inl fl))), (y13, .inl (.long, 500, .inr (.inl FK))), (y14, .inl (.long, 500, .inr (.inl FV))), (y15, .inl (.int, 500, .inl (fun q => nI (Fz q)))), (y16, .inl (.int, 4200, .inl (fun q => nI (J q)))), (y17, .inl (.int, 128, .inl (fun q => nI (pk q)))), (o, .inl (.long, 1, .inr (.inl O)))] rfl rfl hn ?_
      refine g_icmp_eq 1292 X d_LW_law_1287 (by decide) (fun h1287 => ?_) (fun h1287 => ?_)
      · refine g_widen (ce' := ce + 5) (sl' := sl + 150) (by omega) (by omega) ?_
        exact kk _ ⟨_, _, _, _, _, _, _, _, _, _, _, _, _, _, _, _, _, _, _, _, _, _, _, _, _, _, _, _, _, _, _, _, _, _, _, _, _, _, _, _, _, _, _, _, _, _, _, _, _, _, _, _, _, _, _, _, _, rfl, hn24, hs, hz, hu, hL, hD, hc16, hP, hI, hB, hX, hPd⟩
      · exact absurd rfl h1287
    · refine g_aload_n X d_LW_law_1267 3 rfl ?_
      refine g_aload_n X d_LW_law_1268 4 rfl ?_
      refine g_iload X d_LW_law_1269 0 rfl ?_
      refine g_iconst (nI 1) X d_LW_law_1271 (by decide) ?_
      refine g_iadd X d_LW_law_1272 ?_
      refine g_vi (nI (ix + 1)) (nI_add _ _) ?_
      refine s_iald X hScr d_LW_law_1273 (by omega) (by omega) ?_
      refine g_vi (nI 6) hv ?_
      refine g_callVf (As := [.int (nI 6)]) (st := []) X d_LW_law_1274 (c_RS_count_6 hst hD hM hnC hP hc16) (hl_ov 0 rfl hn) rfl rfl k_ml_LW_141 k_cd_RS_count k_in_RS k_im_RS_count k_se_RS_count ⟨by decide +kernel, by decide +kernel, (by decide +kernel : (parseMethodDescriptor "(I)I").map (fun d => d.parameters.length) = some 1)⟩ ⟨by omega, by omega⟩ ⟨by omega, by omega⟩ (Nat.le_of_ble_eq_true rfl) (hg_ov hn [0, 1, 5, 7, 8, 9, 10, 12] rfl) (hrx_P hn hPd [0, 1, 5, 7, 8, 9, 10, 12] rfl) (fun E g9 h => by obtain ⟨hv9, hg9⟩ := h; cases hv9) (fun v9 g9 hq hfr => ?_)
      obtain ⟨hv9, hg9⟩ := hq
      cases hv9
      subst hg9
      refine g_ovP [0, 1, 5, 7, 8, 9, 10, 12] [(x, .inr (5, [.ref xm, .ref xl, .ref xb, .ref xr, .ref xt, .int (nI c), .ref xg, .long sv, .int ps, .int bd])), (xm, .inr (2, [.ref m1, .ref m2, .ref m3, .int (nI n)])), (m1, .inl (.long, 24, .inr (.inl K))), (m2, .inl (.int, 24, .inl (fun q => nI (z q)))), (m3, .inl (.long, 24, .inr (.inl V))), (xl, .inr (1, [.ref l1, .int (nI u), .int (nI la), .int (nI le), .long lk, .int (nI ls), .long lw])), (l1, .inl (.byte, 1024, .inl (fun q => sb_b (L q)))), (xb, .inr (0, [.ref y, .ref s, .ref t, .int w])), (y, .inl (.byte, M * 32, .inl (fun q => sb_b (D q)))), (s, .inl (.int, M, .inl S)), (t, .inl (.int, M, .inl T)), (xr, .inr (4, [.ref xb, rt, .int (nI (b2n rb)), .int (nI ra), .int rft, .long rk, .int (nI rs), .long rv])), (xt, .inl (.object "RunStore$Table", 16, .inr (.inr (.inr (.inr rf))))), (xg, .inr (2, [.ref g1, .ref g2, .ref g3, .int (nI Gn)])), (g1, .inl (.long, NG, .inr (.inl GK))), (g2, .inl (.int, NG, .inl (fun q => nI (Gz q)))), (g3, .inl (.long, NG, .inr (.inl GV))), (h, .inr (6, [.int th, .int (nI M), .int (nI n), .ref y1, .ref y2, .ref y3, .int (nI u), .ref y4, .ref y5, .ref y6, .ref y7, .int (nI c), .ref y8, .ref y9, .ref y10, .ref y11, .ref y12, .int bd, .int w, .int ps, .int (nI pa), .int lc, .int (nI (b2n fb)), .long ek, .long ev, .int (nI el), .int (nI fn), .ref y13, .ref y14, .ref y15, .ref y16, .int (nI js), .ref y17, .int (nI (b2n ib))])), (y1, .inl (.long, 25, .inr (.inl K))), (y2, .inl (.long, 25, .inr (.inl V))), (y3, .inl (.int, 25, .inl (fun q => nI (z q)))), (y4, .inl (.int, 1024, .inl (fun q => nI (L q)))), (y5, .inl (.int, 4096, .inl (fun q => nI (D q)))), (y6, .inl (.int, 128, .inl S)), (y7, .inl (.boolean, 128, .inl Xt)), (y8, .inl (.int, 17, .inl (fun q => nI (lv q)))), (y9, .inl (.int, 17, .inl (fun q => nI (en q)))), (y10, .inl (.int, 17, .inl (fun q => nI (mn q)))), (y11, .inl (.int, 2176, .inl (fun q => nI (bk q)))), (y12, .inl (.long, 17, .inr (.inl fl))), (y13, .inl (.long, 500, .inr (.inl FK))), (y14, .inl (.long, 500, .inr (.inl FV))), (y15, .inl (.int, 500, .inl (fun q => nI (Fz q)))), (y16, .inl (.int, 4200, .inl (fun q => nI (J q)))), (y17, .inl (.int, 128, .inl (fun q => nI (pk q)))), (o, .inl (.long, 1, .inr (.inl O)))] rfl rfl hn ?_
      refine g_aload_n X d_LW_law_1277 2 rfl ?_
      refine g_aload_n X d_LW_law_1278 4 rfl ?_
      refine g_iload X d_LW_law_1279 0 rfl ?_
      refine g_iconst (nI 1) X d_LW_law_1281 (by decide) ?_
      refine g_iadd X d_LW_law_1282 ?_
      refine g_vi (nI (ix + 1)) (nI_add _ _) ?_
      refine s_iald X hScr d_LW_law_1283 (by omega) (by omega) ?_
      refine g_vi (nI 6) hv ?_
      refine g_callVf (As := [.int (nI 6)]) (st := [.int ps]) X d_LW_law_1284 (c_MD_count_6 hst hnq hc16 (fun t ht => (hB t ht).2.1) (en455 hI.1) hX hM) (hl_ov 17 rfl hn) rfl rfl k_ml_LW_144 k_cd_MD_count k_in_MD k_im_MD_count k_se_MD_count ⟨by decide +kernel, by decide +kernel, (by decide +kernel : (parseMethodDescriptor "(I)I").map (fun d => d.parameters.length) = some 1)⟩ ⟨by omega, by omega⟩ ⟨by omega, by omega⟩ (Nat.le_of_ble_eq_true rfl) (hg_ov hn [17, 26, 24] rfl) hrx_0 (fun E g9 h => by obtain ⟨hv9, hg9⟩ := h; cases hv9) (fun v9 g9 hq hfr => ?_)
      obtain ⟨hv9, hg9⟩ := hq
      cases hv9
      subst hg9
      refine g_ovP [17, 26, 24] [(x, .inr (5, [.ref xm, .ref xl, .ref xb, .ref xr, .ref xt, .int (nI c), .ref xg, .long sv, .int ps, .int bd])), (xm, .inr (2, [.ref m1, .ref m2, .ref m3, .int (nI n)])), (m1, .inl (.long, 24, .inr (.inl K))), (m2, .inl (.int, 24, .inl (fun q => nI (z q)))), (m3, .inl (.long, 24, .inr (.inl V))), (xl, .inr (1, [.ref l1, .int (nI u), .int (nI la), .int (nI le), .long lk, .int (nI ls), .long lw])), (l1, .inl (.byte, 1024, .inl (fun q => sb_b (L q)))), (xb, .inr (0, [.ref y, .ref s, .ref t, .int w])), (y, .inl (.byte, M * 32, .inl (fun q => sb_b (D q)))), (s, .inl (.int, M, .inl S)), (t, .inl (.int, M, .inl T)), (xr, .inr (4, [.ref xb, rt, .int (nI (b2n rb)), .int (nI ra), .int rft, .long rk, .int (nI rs), .long rv])), (xt, .inl (.object "RunStore$Table", 16, .inr (.inr (.inr (.inr rf))))), (xg, .inr (2, [.ref g1, .ref g2, .ref g3, .int (nI Gn)])), (g1, .inl (.long, NG, .inr (.inl GK))), (g2, .inl (.int, NG, .inl (fun q => nI (Gz q)))), (g3, .inl (.long, NG, .inr (.inl GV))), (h, .inr (6, [.int (nI 0), .int (nI M), .int (nI n), .ref y1, .ref y2, .ref y3, .int (nI u), .ref y4, .ref y5, .ref y6, .ref y7, .int (nI c), .ref y8, .ref y9, .ref y10, .ref y11, .ref y12, .int bd, .int w, .int ps, .int (nI pa), .int lc, .int (nI (b2n fb)), .long ek, .long ev, .int (nI el), .int (nI fn), .ref y13, .ref y14, .ref y15, .ref y16, .int (nI js), .ref y17, .int (nI (b2n ib))])), (y1, .inl (.long, 25, .inr (.inl K))), (y2, .inl (.long, 25, .inr (.inl V))), (y3, .inl (.int, 25, .inl (fun q => nI (z q)))), (y4, .inl (.int, 1024, .inl (fun q => nI (L q)))), (y5, .inl (.int, 4096, .inl (fun q => nI (D q)))), (y6, .inl (.int, 128, .inl S)), (y7, .inl (.boolean, 128, .inl Xt)), (y8, .inl (.int, 17, .inl (fun q => nI (lv q)))), (y9, .inl (.int, 17, .inl (fun q => nI (en q)))), (y10, .inl (.int, 17, .inl (fun q => nI (mn q)))), (y11, .inl (.int, 2176, .inl (fun q => nI (bk q)))), (y12, .inl (.long, 17, .inr (.inl fl))), (y13, .inl (.long, 500, .inr (.inl FK))), (y14, .inl (.long, 500, .inr (.inl FV))), (y15, .inl (.int, 500, .inl (fun q => nI (Fz q)))), (y16, .inl (.int, 4200, .inl (fun q => nI (J q)))), (y17, .inl (.int, 128, .inl (fun q => nI (pk q)))), (o, .inl (.long, 1, .inr (.inl O)))] rfl rfl hn ?_
      refine g_icmp_eq 1292 X d_LW_law_1287 (by decide) (fun h1287 => ?_) (fun h1287 => ?_)
      · refine g_widen (ce' := ce + 5) (sl' := sl + 150) (by omega) (by omega) ?_
        exact kk _ ⟨_, _, _, _, _, _, _, _, _, _, _, _, _, _, _, _, _, _, _, _, _, _, _, _, _, _, _, _, _, _, _, _, _, _, _, _, _, _, _, _, _, _, _, _, _, _, _, _, _, _, _, _, _, _, _, _, _, rfl, hn24, hs, hz, hu, hL, hD, hc16, hP, hI, hB, hX, hPd⟩
      · exact absurd rfl h1287
    · refine g_aload_n X d_LW_law_1267 3 rfl ?_
      refine g_aload_n X d_LW_law_1268 4 rfl ?_
      refine g_iload X d_LW_law_1269 0 rfl ?_
      refine g_iconst (nI 1) X d_LW_law_1271 (by decide) ?_
      refine g_iadd X d_LW_law_1272 ?_
      refine g_vi (nI (ix + 1)) (nI_add _ _) ?_
      refine s_iald X hScr d_LW_law_1273 (by omega) (by omega) ?_
      refine g_vi (nI 7) hv ?_
      refine g_callVf (As := [.int (nI 7)]) (st := []) X d_LW_law_1274 (c_RS_count_7 hst hD hM hnC hP hc16) (hl_ov 0 rfl hn) rfl rfl k_ml_LW_141 k_cd_RS_count k_in_RS k_im_RS_count k_se_RS_count ⟨by decide +kernel, by decide +kernel, (by decide +kernel : (parseMethodDescriptor "(I)I").map (fun d => d.parameters.length) = some 1)⟩ ⟨by omega, by omega⟩ ⟨by omega, by omega⟩ (Nat.le_of_ble_eq_true rfl) (hg_ov hn [0, 1, 5, 7, 8, 9, 10, 12] rfl) (hrx_P hn hPd [0, 1, 5, 7, 8, 9, 10, 12] rfl) (fun E g9 h => by obtain ⟨hv9, hg9⟩ := h; cases hv9) (fun v9 g9 hq hfr => ?_)
      obtain ⟨hv9, hg9⟩ := hq
      cases hv9
      subst hg9
      refine g_ovP [0, 1, 5, 7, 8, 9, 10, 12] [(x, .inr (5, [.ref xm, .ref xl, .ref xb, .ref xr, .ref xt, .int (nI c), .ref xg, .long sv, .int ps, .int bd])), (xm, .inr (2, [.ref m1, .ref m2, .ref m3, .int (nI n)])), (m1, .inl (.long, 24, .inr (.inl K))), (m2, .inl (.int, 24, .inl (fun q => nI (z q)))), (m3, .inl (.long, 24, .inr (.inl V))), (xl, .inr (1, [.ref l1, .int (nI u), .int (nI la), .int (nI le), .long lk, .int (nI ls), .long lw])), (l1, .inl (.byte, 1024, .inl (fun q => sb_b (L q)))), (xb, .inr (0, [.ref y, .ref s, .ref t, .int w])), (y, .inl (.byte, M * 32, .inl (fun q => sb_b (D q)))), (s, .inl (.int, M, .inl S)), (t, .inl (.int, M, .inl T)), (xr, .inr (4, [.ref xb, rt, .int (nI (b2n rb)), .int (nI ra), .int rft, .long rk, .int (nI rs), .long rv])), (xt, .inl (.object "RunStore$Table", 16, .inr (.inr (.inr (.inr rf))))), (xg, .inr (2, [.ref g1, .ref g2, .ref g3, .int (nI Gn)])), (g1, .inl (.long, NG, .inr (.inl GK))), (g2, .inl (.int, NG, .inl (fun q => nI (Gz q)))), (g3, .inl (.long, NG, .inr (.inl GV))), (h, .inr (6, [.int th, .int (nI M), .int (nI n), .ref y1, .ref y2, .ref y3, .int (nI u), .ref y4, .ref y5, .ref y6, .ref y7, .int (nI c), .ref y8, .ref y9, .ref y10, .ref y11, .ref y12, .int bd, .int w, .int ps, .int (nI pa), .int lc, .int (nI (b2n fb)), .long ek, .long ev, .int (nI el), .int (nI fn), .ref y13, .ref y14, .ref y15, .ref y16, .int (nI js), .ref y17, .int (nI (b2n ib))])), (y1, .inl (.long, 25, .inr (.inl K))), (y2, .inl (.long, 25, .inr (.inl V))), (y3, .inl (.int, 25, .inl (fun q => nI (z q)))), (y4, .inl (.int, 1024, .inl (fun q => nI (L q)))), (y5, .inl (.int, 4096, .inl (fun q => nI (D q)))), (y6, .inl (.int, 128, .inl S)), (y7, .inl (.boolean, 128, .inl Xt)), (y8, .inl (.int, 17, .inl (fun q => nI (lv q)))), (y9, .inl (.int, 17, .inl (fun q => nI (en q)))), (y10, .inl (.int, 17, .inl (fun q => nI (mn q)))), (y11, .inl (.int, 2176, .inl (fun q => nI (bk q)))), (y12, .inl (.long, 17, .inr (.inl fl))), (y13, .inl (.long, 500, .inr (.inl FK))), (y14, .inl (.long, 500, .inr (.inl FV))), (y15, .inl (.int, 500, .inl (fun q => nI (Fz q)))), (y16, .inl (.int, 4200, .inl (fun q => nI (J q)))), (y17, .inl (.int, 128, .inl (fun q => nI (pk q)))), (o, .inl (.long, 1, .inr (.inl O)))] rfl rfl hn ?_
      refine g_aload_n X d_LW_law_1277 2 rfl ?_
      refine g_aload_n X d_LW_law_1278 4 rfl ?_
      refine g_iload X d_LW_law_1279 0 rfl ?_
      refine g_iconst (nI 1) X d_LW_law_1281 (by decide) ?_
      refine g_iadd X d_LW_law_1282 ?_
      refine g_vi (nI (ix + 1)) (nI_add _ _) ?_
      refine s_iald X hScr d_LW_law_1283 (by omega) (by omega) ?_
      refine g_vi (nI 7) hv ?_
      refine g_callVf (As := [.int (nI 7)]) (st := [.int (nI (sEn tb c))]) X d_LW_law_1284 (c_MD_count_7 hst hnq hc16 (fun t ht => (hB t ht).2.1) (en455 hI.1) hX hM) (hl_ov 17 rfl hn) rfl rfl k_ml_LW_144 k_cd_MD_count k_in_MD k_im_MD_count k_se_MD_count ⟨by decide +kernel, by decide +kernel, (by decide +kernel : (parseMethodDescriptor "(I)I").map (fun d => d.parameters.length) = some 1)⟩ ⟨by omega, by omega⟩ ⟨by omega, by omega⟩ (Nat.le_of_ble_eq_true rfl) (hg_ov hn [17, 26, 24] rfl) hrx_0 (fun E g9 h => by obtain ⟨hv9, hg9⟩ := h; cases hv9) (fun v9 g9 hq hfr => ?_)
      obtain ⟨hv9, hg9⟩ := hq
      cases hv9
      subst hg9
      refine g_ovP [17, 26, 24] [(x, .inr (5, [.ref xm, .ref xl, .ref xb, .ref xr, .ref xt, .int (nI c), .ref xg, .long sv, .int ps, .int bd])), (xm, .inr (2, [.ref m1, .ref m2, .ref m3, .int (nI n)])), (m1, .inl (.long, 24, .inr (.inl K))), (m2, .inl (.int, 24, .inl (fun q => nI (z q)))), (m3, .inl (.long, 24, .inr (.inl V))), (xl, .inr (1, [.ref l1, .int (nI u), .int (nI la), .int (nI le), .long lk, .int (nI ls), .long lw])), (l1, .inl (.byte, 1024, .inl (fun q => sb_b (L q)))), (xb, .inr (0, [.ref y, .ref s, .ref t, .int w])), (y, .inl (.byte, M * 32, .inl (fun q => sb_b (D q)))), (s, .inl (.int, M, .inl S)), (t, .inl (.int, M, .inl T)), (xr, .inr (4, [.ref xb, rt, .int (nI (b2n rb)), .int (nI ra), .int rft, .long rk, .int (nI rs), .long rv])), (xt, .inl (.object "RunStore$Table", 16, .inr (.inr (.inr (.inr rf))))), (xg, .inr (2, [.ref g1, .ref g2, .ref g3, .int (nI Gn)])), (g1, .inl (.long, NG, .inr (.inl GK))), (g2, .inl (.int, NG, .inl (fun q => nI (Gz q)))), (g3, .inl (.long, NG, .inr (.inl GV))), (h, .inr (6, [.int (nI 0), .int (nI M), .int (nI n), .ref y1, .ref y2, .ref y3, .int (nI u), .ref y4, .ref y5, .ref y6, .ref y7, .int (nI c), .ref y8, .ref y9, .ref y10, .ref y11, .ref y12, .int bd, .int w, .int ps, .int (nI pa), .int lc, .int (nI (b2n fb)), .long ek, .long ev, .int (nI el), .int (nI fn), .ref y13, .ref y14, .ref y15, .ref y16, .int (nI js), .ref y17, .int (nI (b2n ib))])), (y1, .inl (.long, 25, .inr (.inl K))), (y2, .inl (.long, 25, .inr (.inl V))), (y3, .inl (.int, 25, .inl (fun q => nI (z q)))), (y4, .inl (.int, 1024, .inl (fun q => nI (L q)))), (y5, .inl (.int, 4096, .inl (fun q => nI (D q)))), (y6, .inl (.int, 128, .inl S)), (y7, .inl (.boolean, 128, .inl Xt)), (y8, .inl (.int, 17, .inl (fun q => nI (lv q)))), (y9, .inl (.int, 17, .inl (fun q => nI (en q)))), (y10, .inl (.int, 17, .inl (fun q => nI (mn q)))), (y11, .inl (.int, 2176, .inl (fun q => nI (bk q)))), (y12, .inl (.long, 17, .inr (.inl fl))), (y13, .inl (.long, 500, .inr (.inl FK))), (y14, .inl (.long, 500, .inr (.inl FV))), (y15, .inl (.int, 500, .inl (fun q => nI (Fz q)))), (y16, .inl (.int, 4200, .inl (fun q => nI (J q)))), (y17, .inl (.int, 128, .inl (fun q => nI (pk q)))), (o, .inl (.long, 1, .inr (.inl O)))] rfl rfl hn ?_
      refine g_icmp_eq 1292 X d_LW_law_1287 (by decide) (fun h1287 => ?_) (fun h1287 => ?_)
      · refine g_widen (ce' := ce + 5) (sl' := sl + 150) (by omega) (by omega) ?_
        exact kk _ ⟨_, _, _, _, _, _, _, _, _, _, _, _, _, _, _, _, _, _, _, _, _, _, _, _, _, _, _, _, _, _, _, _, _, _, _, _, _, _, _, _, _, _, _, _, _, _, _, _, _, _, _, _, _, _, _, _, _, rfl, hn24, hs, hz, hu, hL, hD, hc16, hP, hI, hB, hX, hPd⟩
      · exact absurd rfl h1287
  · refine g_aload_n X d_LW_law_1267 3 rfl ?_
    refine g_aload_n X d_LW_law_1268 4 rfl ?_
    refine g_iload X d_LW_law_1269 0 rfl ?_
    refine g_iconst (nI 1) X d_LW_law_1271 (by decide) ?_
    refine g_iadd X d_LW_law_1272 ?_
    refine g_vi (nI (ix + 1)) (nI_add _ _) ?_
    refine s_iald X hScr d_LW_law_1273 (by omega) (by omega) ?_
    refine g_callVf (As := [.int (xs (ix + 1))]) (st := []) X d_LW_law_1274 (c_RS_count_out hst hD hM hnC hP hc16 hv) (hl_ov 0 rfl hn) rfl rfl k_ml_LW_141 k_cd_RS_count k_in_RS k_im_RS_count k_se_RS_count ⟨by decide +kernel, by decide +kernel, (by decide +kernel : (parseMethodDescriptor "(I)I").map (fun d => d.parameters.length) = some 1)⟩ ⟨by omega, by omega⟩ ⟨by omega, by omega⟩ (Nat.le_of_ble_eq_true rfl) (hg_ov hn [0, 1, 5, 7, 8, 9, 10, 12] rfl) (hrx_P hn hPd [0, 1, 5, 7, 8, 9, 10, 12] rfl) (fun E g9 h => by obtain ⟨hv9, hg9⟩ := h; cases hv9) (fun v9 g9 hq hfr => ?_)
    obtain ⟨hv9, hg9⟩ := hq
    cases hv9
    subst hg9
    refine g_ovP [0, 1, 5, 7, 8, 9, 10, 12] [(x, .inr (5, [.ref xm, .ref xl, .ref xb, .ref xr, .ref xt, .int (nI c), .ref xg, .long sv, .int ps, .int bd])), (xm, .inr (2, [.ref m1, .ref m2, .ref m3, .int (nI n)])), (m1, .inl (.long, 24, .inr (.inl K))), (m2, .inl (.int, 24, .inl (fun q => nI (z q)))), (m3, .inl (.long, 24, .inr (.inl V))), (xl, .inr (1, [.ref l1, .int (nI u), .int (nI la), .int (nI le), .long lk, .int (nI ls), .long lw])), (l1, .inl (.byte, 1024, .inl (fun q => sb_b (L q)))), (xb, .inr (0, [.ref y, .ref s, .ref t, .int w])), (y, .inl (.byte, M * 32, .inl (fun q => sb_b (D q)))), (s, .inl (.int, M, .inl S)), (t, .inl (.int, M, .inl T)), (xr, .inr (4, [.ref xb, rt, .int (nI (b2n rb)), .int (nI ra), .int rft, .long rk, .int (nI rs), .long rv])), (xt, .inl (.object "RunStore$Table", 16, .inr (.inr (.inr (.inr rf))))), (xg, .inr (2, [.ref g1, .ref g2, .ref g3, .int (nI Gn)])), (g1, .inl (.long, NG, .inr (.inl GK))), (g2, .inl (.int, NG, .inl (fun q => nI (Gz q)))), (g3, .inl (.long, NG, .inr (.inl GV))), (h, .inr (6, [.int th, .int (nI M), .int (nI n), .ref y1, .ref y2, .ref y3, .int (nI u), .ref y4, .ref y5, .ref y6, .ref y7, .int (nI c), .ref y8, .ref y9, .ref y10, .ref y11, .ref y12, .int bd, .int w, .int ps, .int (nI pa), .int lc, .int (nI (b2n fb)), .long ek, .long ev, .int (nI el), .int (nI fn), .ref y13, .ref y14, .ref y15, .ref y16, .int (nI js), .ref y17, .int (nI (b2n ib))])), (y1, .inl (.long, 25, .inr (.inl K))), (y2, .inl (.long, 25, .inr (.inl V))), (y3, .inl (.int, 25, .inl (fun q => nI (z q)))), (y4, .inl (.int, 1024, .inl (fun q => nI (L q)))), (y5, .inl (.int, 4096, .inl (fun q => nI (D q)))), (y6, .inl (.int, 128, .inl S)), (y7, .inl (.boolean, 128, .inl Xt)), (y8, .inl (.int, 17, .inl (fun q => nI (lv q)))), (y9, .inl (.int, 17, .inl (fun q => nI (en q)))), (y10, .inl (.int, 17, .inl (fun q => nI (mn q)))), (y11, .inl (.int, 2176, .inl (fun q => nI (bk q)))), (y12, .inl (.long, 17, .inr (.inl fl))), (y13, .inl (.long, 500, .inr (.inl FK))), (y14, .inl (.long, 500, .inr (.inl FV))), (y15, .inl (.int, 500, .inl (fun q => nI (Fz q)))), (y16, .inl (.int, 4200, .inl (fun q => nI (J q)))), (y17, .inl (.int, 128, .inl (fun q => nI (pk q)))), (o, .inl (.long, 1, .inr (.inl O)))] rfl rfl hn ?_
    refine g_aload_n X d_LW_law_1277 2 rfl ?_
    refine g_aload_n X d_LW_law_1278 4 rfl ?_
    refine g_iload X d_LW_law_1279 0 rfl ?_
    refine g_iconst (nI 1) X d_LW_law_1281 (by decide) ?_
    refine g_iadd X d_LW_law_1282 ?_
    refine g_vi (nI (ix + 1)) (nI_add _ _) ?_
    refine s_iald X hScr d_LW_law_1283 (by omega) (by omega) ?_
    refine g_callVf (As := [.int (xs (ix + 1))]) (st := [.int (-1)]) X d_LW_law_1284 (c_MD_count_out hst hnq hc16 (fun t ht => (hB t ht).2.1) (en455 hI.1) hX hM hv) (hl_ov 17 rfl hn) rfl rfl k_ml_LW_144 k_cd_MD_count k_in_MD k_im_MD_count k_se_MD_count ⟨by decide +kernel, by decide +kernel, (by decide +kernel : (parseMethodDescriptor "(I)I").map (fun d => d.parameters.length) = some 1)⟩ ⟨by omega, by omega⟩ ⟨by omega, by omega⟩ (Nat.le_of_ble_eq_true rfl) (hg_ov hn [17, 26, 24] rfl) hrx_0 (fun E g9 h => by obtain ⟨hv9, hg9⟩ := h; cases hv9) (fun v9 g9 hq hfr => ?_)
    obtain ⟨hv9, hg9⟩ := hq
    cases hv9
    subst hg9
    refine g_ovP [17, 26, 24] [(x, .inr (5, [.ref xm, .ref xl, .ref xb, .ref xr, .ref xt, .int (nI c), .ref xg, .long sv, .int ps, .int bd])), (xm, .inr (2, [.ref m1, .ref m2, .ref m3, .int (nI n)])), (m1, .inl (.long, 24, .inr (.inl K))), (m2, .inl (.int, 24, .inl (fun q => nI (z q)))), (m3, .inl (.long, 24, .inr (.inl V))), (xl, .inr (1, [.ref l1, .int (nI u), .int (nI la), .int (nI le), .long lk, .int (nI ls), .long lw])), (l1, .inl (.byte, 1024, .inl (fun q => sb_b (L q)))), (xb, .inr (0, [.ref y, .ref s, .ref t, .int w])), (y, .inl (.byte, M * 32, .inl (fun q => sb_b (D q)))), (s, .inl (.int, M, .inl S)), (t, .inl (.int, M, .inl T)), (xr, .inr (4, [.ref xb, rt, .int (nI (b2n rb)), .int (nI ra), .int rft, .long rk, .int (nI rs), .long rv])), (xt, .inl (.object "RunStore$Table", 16, .inr (.inr (.inr (.inr rf))))), (xg, .inr (2, [.ref g1, .ref g2, .ref g3, .int (nI Gn)])), (g1, .inl (.long, NG, .inr (.inl GK))), (g2, .inl (.int, NG, .inl (fun q => nI (Gz q)))), (g3, .inl (.long, NG, .inr (.inl GV))), (h, .inr (6, [.int (nI 0), .int (nI M), .int (nI n), .ref y1, .ref y2, .ref y3, .int (nI u), .ref y4, .ref y5, .ref y6, .ref y7, .int (nI c), .ref y8, .ref y9, .ref y10, .ref y11, .ref y12, .int bd, .int w, .int ps, .int (nI pa), .int lc, .int (nI (b2n fb)), .long ek, .long ev, .int (nI el), .int (nI fn), .ref y13, .ref y14, .ref y15, .ref y16, .int (nI js), .ref y17, .int (nI (b2n ib))])), (y1, .inl (.long, 25, .inr (.inl K))), (y2, .inl (.long, 25, .inr (.inl V))), (y3, .inl (.int, 25, .inl (fun q => nI (z q)))), (y4, .inl (.int, 1024, .inl (fun q => nI (L q)))), (y5, .inl (.int, 4096, .inl (fun q => nI (D q)))), (y6, .inl (.int, 128, .inl S)), (y7, .inl (.boolean, 128, .inl Xt)), (y8, .inl (.int, 17, .inl (fun q => nI (lv q)))), (y9, .inl (.int, 17, .inl (fun q => nI (en q)))), (y10, .inl (.int, 17, .inl (fun q => nI (mn q)))), (y11, .inl (.int, 2176, .inl (fun q => nI (bk q)))), (y12, .inl (.long, 17, .inr (.inl fl))), (y13, .inl (.long, 500, .inr (.inl FK))), (y14, .inl (.long, 500, .inr (.inl FV))), (y15, .inl (.int, 500, .inl (fun q => nI (Fz q)))), (y16, .inl (.int, 4200, .inl (fun q => nI (J q)))), (y17, .inl (.int, 128, .inl (fun q => nI (pk q)))), (o, .inl (.long, 1, .inr (.inl O)))] rfl rfl hn ?_
    refine g_icmp_eq 1292 X d_LW_law_1287 (by decide) (fun h1287 => ?_) (fun h1287 => ?_)
    · refine g_widen (ce' := ce + 5) (sl' := sl + 150) (by omega) (by omega) ?_
      exact kk _ ⟨_, _, _, _, _, _, _, _, _, _, _, _, _, _, _, _, _, _, _, _, _, _, _, _, _, _, _, _, _, _, _, _, _, _, _, _, _, _, _, _, _, _, _, _, _, _, _, _, _, _, _, _, _, _, _, _, _, rfl, hn24, hs, hz, hu, hL, hD, hc16, hP, hI, hB, hX, hPd⟩
    · exact absurd rfl h1287

set_option maxRecDepth 100000 in
set_option maxHeartbeats 4000000 in
theorem law_put {mp : Program} {l : Launch} {me : Env} {mR : Room} {sm : State} {mm : MethodId} {margs : Array Value} {mbel : List Frame} {mmet : Method} {mcod : Code} {mD : va_G} {f9 : fh_M} {Q9 : State → Prop} {ce sl b0 Ls ix : Nat} {xs : Nat → Int32} (X : fh_X mp l sm mm margs mmet mcod mD fhCl fhT f9 (hp []) y_LW_law.cls b_LW_law 8) (hScr : lwX sm f9 b0 Ls xs) (hst : l.stackTraces = false) (hNw : lwN sm) (hRf : 12 ≤ mR.frames) (hRl : 438 ≤ mR.locals) (hRc : ce + 5 ≤ mR.cells) (hRs : sl + 150 ≤ mR.slots) {M NG x xm m1 m2 m3 xl l1 xb y s t xr xt xg g1 g2 g3 h y1 y2 y3 y4 y5 y6 y7 y8 y9 y10 y11 y12 y13 y14 y15 y16 y17 o : Nat} (hM4 : 4 ≤ M) (hM : M ≤ 128) (hNGe : NG = 24 + M * 32 / 9) (hn : [x, xm, m1, m2, m3, xl, l1, xb, y, s, t, xr, xt, xg, g1, g2, g3, h, y1, y2, y3, y4, y5, y6, y7, y8, y9, y10, y11, y12, y13, y14, y15, y16, y17, o].Nodup) (hLs : Ls ≤ 3073) (hix : ix + 5 < Ls) {f : fh_M} (hS : lwS M NG x xm m1 m2 m3 xl l1 xb y s t xr xt xg g1 g2 g3 h y1 y2 y3 y4 y5 y6 y7 y8 y9 y10 y11 y12 y13 y14 y15 y16 y17 o f)  (kk : ∀ f, lwS M NG x xm m1 m2 m3 xl l1 xb y s t xr xt xg g1 g2 g3 h y1 y2 y3 y4 y5 y6 y7 y8 y9 y10 y11 y12 y13 y14 y15 y16 y17 o f → fh_G mp l me mR sm mm margs mbel mmet mcod mD fhCl f9 8 Q9 (ce + 5) (sl + 150) f 1292 [(4, .int (nI ix)), (3, .ref o), (2, .ref h), (1, .ref x), (0, .ref b0)] []) : fh_G mp l me mR sm mm margs mbel mmet mcod mD fhCl f9 8 Q9 (ce) (sl) f 132 [(4, .int (nI ix)), (3, .ref o), (2, .ref h), (1, .ref x), (0, .ref b0)] [] := by
  refine lwS_elim (C9 := fun f => fh_G mp l me mR sm mm margs mbel mmet mcod mD fhCl f9 8 Q9 (ce) (sl) f 132 [(4, .int (nI ix)), (3, .ref o), (2, .ref h), (1, .ref x), (0, .ref b0)] []) hS (fun K z V n L u D S T tb c ps bd w sv la le lk ls lw rt rb ra rft rk rs rv rf tq ti P GK Gz GV Gn th pa lc fb ek ev el fn js ib Xt lv en mn fl bk FK FV Fz J pk O hn24 hs hz hu hL hD hc16 hP hI hB hX hPd => ?_)
  show fh_G mp l me mR sm mm margs mbel mmet mcod mD fhCl f9 8 Q9 (ce) (sl) (fh_ov (hp [(x, .inr (5, [.ref xm, .ref xl, .ref xb, .ref xr, .ref xt, .int (nI c), .ref xg, .long sv, .int ps, .int bd])), (xm, .inr (2, [.ref m1, .ref m2, .ref m3, .int (nI n)])), (m1, .inl (.long, 24, .inr (.inl K))), (m2, .inl (.int, 24, .inl (fun q => nI (z q)))), (m3, .inl (.long, 24, .inr (.inl V))), (xl, .inr (1, [.ref l1, .int (nI u), .int (nI la), .int (nI le), .long lk, .int (nI ls), .long lw])), (l1, .inl (.byte, 1024, .inl (fun q => sb_b (L q)))), (xb, .inr (0, [.ref y, .ref s, .ref t, .int w])), (y, .inl (.byte, M * 32, .inl (fun q => sb_b (D q)))), (s, .inl (.int, M, .inl S)), (t, .inl (.int, M, .inl T)), (xr, .inr (4, [.ref xb, rt, .int (nI (b2n rb)), .int (nI ra), .int rft, .long rk, .int (nI rs), .long rv])), (xt, .inl (.object "RunStore$Table", 16, .inr (.inr (.inr (.inr rf))))), (xg, .inr (2, [.ref g1, .ref g2, .ref g3, .int (nI Gn)])), (g1, .inl (.long, NG, .inr (.inl GK))), (g2, .inl (.int, NG, .inl (fun q => nI (Gz q)))), (g3, .inl (.long, NG, .inr (.inl GV))), (h, .inr (6, [.int th, .int (nI M), .int (nI n), .ref y1, .ref y2, .ref y3, .int (nI u), .ref y4, .ref y5, .ref y6, .ref y7, .int (nI c), .ref y8, .ref y9, .ref y10, .ref y11, .ref y12, .int bd, .int w, .int ps, .int (nI pa), .int lc, .int (nI (b2n fb)), .long ek, .long ev, .int (nI el), .int (nI fn), .ref y13, .ref y14, .ref y15, .ref y16, .int (nI js), .ref y17, .int (nI (b2n ib))])), (y1, .inl (.long, 25, .inr (.inl K))), (y2, .inl (.long, 25, .inr (.inl V))), (y3, .inl (.int, 25, .inl (fun q => nI (z q)))), (y4, .inl (.int, 1024, .inl (fun q => nI (L q)))), (y5, .inl (.int, 4096, .inl (fun q => nI (D q)))), (y6, .inl (.int, 128, .inl S)), (y7, .inl (.boolean, 128, .inl Xt)), (y8, .inl (.int, 17, .inl (fun q => nI (lv q)))), (y9, .inl (.int, 17, .inl (fun q => nI (en q)))), (y10, .inl (.int, 17, .inl (fun q => nI (mn q)))), (y11, .inl (.int, 2176, .inl (fun q => nI (bk q)))), (y12, .inl (.long, 17, .inr (.inl fl))), (y13, .inl (.long, 500, .inr (.inl FK))), (y14, .inl (.long, 500, .inr (.inl FV))), (y15, .inl (.int, 500, .inl (fun q => nI (Fz q)))), (y16, .inl (.int, 4200, .inl (fun q => nI (J q)))), (y17, .inl (.int, 128, .inl (fun q => nI (pk q)))), (o, .inl (.long, 1, .inr (.inl O)))]) P) 132 [(4, .int (nI ix)), (3, .ref o), (2, .ref h), (1, .ref x), (0, .ref b0)] []
  have hnh : [h].Nodup := nd_pick [x, xm, m1, m2, m3, xl, l1, xb, y, s, t, xr, xt, xg, g1, g2, g3, h, y1, y2, y3, y4, y5, y6, y7, y8, y9, y10, y11, y12, y13, y14, y15, y16, y17, o] [17] 36 hn (by decide) rfl (by decide)
  have hnm : [h, y1, y2, y3, y4].Nodup := nd_pick [x, xm, m1, m2, m3, xl, l1, xb, y, s, t, xr, xt, xg, g1, g2, g3, h, y1, y2, y3, y4, y5, y6, y7, y8, y9, y10, y11, y12, y13, y14, y15, y16, y17, o] [17, 18, 19, 20, 21] 36 hn (by decide) rfl (by decide)
  obtain ⟨k, h_k⟩ : ∃ k, lg2 (xs (ix + 1)) (xs (ix + 2)) = k := ⟨_, rfl⟩
  obtain ⟨v, h_v⟩ : ∃ v, lg2 (xs (ix + 3)) (xs (ix + 4)) = v := ⟨_, rfl⟩
  rcases rng (xs (ix + 5)) (b := 8) (by decide) with ⟨m, hm, hv⟩ | hv
  · cases hr9 : hrm K n u k m with
    | false =>
      have hn9 : [x, xm, m1, m2, m3, xl, l1, o].Nodup := nd_pick [x, xm, m1, m2, m3, xl, l1, xb, y, s, t, xr, xt, xg, g1, g2, g3, h, y1, y2, y3, y4, y5, y6, y7, y8, y9, y10, y11, y12, y13, y14, y15, y16, y17, o] [0, 1, 2, 3, 4, 5, 6, 35] 36 hn (by decide) rfl (by decide)
      refine g_aload_n X d_LW_law_132 3 rfl ?_
      refine g_aload_n X d_LW_law_133 4 rfl ?_
      refine g_iload X d_LW_law_134 0 rfl ?_
      refine g_iconst (nI 1) X d_LW_law_136 (by decide) ?_
      refine g_iadd X d_LW_law_137 ?_
      refine g_vi (nI (ix + 1)) (nI_add _ _) ?_
      refine s_iald X hScr d_LW_law_138 (by omega) (by omega) ?_
      refine g_i2l X d_LW_law_139 ?_
      refine g_bipush (nI 32) X d_LW_law_140 (by decide) ?_
      refine g_lshl X d_LW_law_142 ?_
      refine g_aload_n X d_LW_law_143 4 rfl ?_
      refine g_iload X d_LW_law_144 0 rfl ?_
      refine g_iconst (nI 2) X d_LW_law_146 (by decide) ?_
      refine g_iadd X d_LW_law_147 ?_
      refine g_vi (nI (ix + 2)) (nI_add _ _) ?_
      refine s_iald X hScr d_LW_law_148 (by omega) (by omega) ?_
      refine g_i2l X d_LW_law_149 ?_
      refine g_ldc2 X d_LW_law_150 k_ct_LW_79 ?_
      refine g_land X d_LW_law_153 ?_
      refine g_lor X d_LW_law_154 ?_
      refine g_vl k (h_k) ?_
      refine g_aload_n X d_LW_law_155 4 rfl ?_
      refine g_iload X d_LW_law_156 0 rfl ?_
      refine g_iconst (nI 3) X d_LW_law_158 (by decide) ?_
      refine g_iadd X d_LW_law_159 ?_
      refine g_vi (nI (ix + 3)) (nI_add _ _) ?_
      refine s_iald X hScr d_LW_law_160 (by omega) (by omega) ?_
      refine g_i2l X d_LW_law_161 ?_
      refine g_bipush (nI 32) X d_LW_law_162 (by decide) ?_
      refine g_lshl X d_LW_law_164 ?_
      refine g_aload_n X d_LW_law_165 4 rfl ?_
      refine g_iload X d_LW_law_166 0 rfl ?_
      refine g_iconst (nI 4) X d_LW_law_168 (by decide) ?_
      refine g_iadd X d_LW_law_169 ?_
      refine g_vi (nI (ix + 4)) (nI_add _ _) ?_
      refine s_iald X hScr d_LW_law_170 (by omega) (by omega) ?_
      refine g_i2l X d_LW_law_171 ?_
      refine g_ldc2 X d_LW_law_172 k_ct_LW_79 ?_
      refine g_land X d_LW_law_175 ?_
      refine g_lor X d_LW_law_176 ?_
      refine g_vl v (h_v) ?_
      refine g_aload_n X d_LW_law_177 4 rfl ?_
      refine g_iload X d_LW_law_178 0 rfl ?_
      refine g_iconst (nI 5) X d_LW_law_180 (by decide) ?_
      refine g_iadd X d_LW_law_181 ?_
      refine g_vi (nI (ix + 5)) (nI_add _ _) ?_
      refine s_iald X hScr d_LW_law_182 (by omega) (by omega) ?_
      refine g_vi (nI m) hv ?_
      refine g_aload_n X d_LW_law_183 1 rfl ?_
      refine g_callSW (As := [.ref x, .long k, .long v, .int (nI m), .ref o]) (st := []) X d_LW_law_184 (c_LW_put_no hst hs hn24 hL hu hn9 hm (hrm_f hr9)) lwN_s hNw rfl k_ml_LW_81 k_cd_LW_put k_in_LW k_st_LW_put ⟨by decide +kernel, by decide +kernel, (by decide +kernel : (parseMethodDescriptor "(LRunStore;JJI[J)I").map (fun d => d.parameters.length) = some 5)⟩ ⟨by omega, by omega⟩ ⟨by omega, by omega⟩ (Nat.le_of_ble_eq_true rfl) (hg_ov hn [0, 1, 2, 3, 4, 5, 6, 35] rfl) hrx_0 (fun E g9 h => by obtain ⟨hv9, hg9⟩ := h; cases hv9) (fun v9 g9 hq hfr => ?_)
      obtain ⟨hv9, hg9⟩ := hq
      cases hv9
      subst hg9
      refine g_ovP [0, 1, 2, 3, 4, 5, 6, 35] [(x, .inr (5, [.ref xm, .ref xl, .ref xb, .ref xr, .ref xt, .int (nI c), .ref xg, .long sv, .int ps, .int bd])), (xm, .inr (2, [.ref m1, .ref m2, .ref m3, .int (nI n)])), (m1, .inl (.long, 24, .inr (.inl K))), (m2, .inl (.int, 24, .inl (fun q => nI (z q)))), (m3, .inl (.long, 24, .inr (.inl V))), (xl, .inr (1, [.ref l1, .int (nI u), .int (nI la), .int (nI le), .long lk, .int (nI ls), .long lw])), (l1, .inl (.byte, 1024, .inl (fun q => sb_b (L q)))), (xb, .inr (0, [.ref y, .ref s, .ref t, .int w])), (y, .inl (.byte, M * 32, .inl (fun q => sb_b (D q)))), (s, .inl (.int, M, .inl S)), (t, .inl (.int, M, .inl T)), (xr, .inr (4, [.ref xb, rt, .int (nI (b2n rb)), .int (nI ra), .int rft, .long rk, .int (nI rs), .long rv])), (xt, .inl (.object "RunStore$Table", 16, .inr (.inr (.inr (.inr rf))))), (xg, .inr (2, [.ref g1, .ref g2, .ref g3, .int (nI Gn)])), (g1, .inl (.long, NG, .inr (.inl GK))), (g2, .inl (.int, NG, .inl (fun q => nI (Gz q)))), (g3, .inl (.long, NG, .inr (.inl GV))), (h, .inr (6, [.int th, .int (nI M), .int (nI n), .ref y1, .ref y2, .ref y3, .int (nI u), .ref y4, .ref y5, .ref y6, .ref y7, .int (nI c), .ref y8, .ref y9, .ref y10, .ref y11, .ref y12, .int bd, .int w, .int ps, .int (nI pa), .int lc, .int (nI (b2n fb)), .long ek, .long ev, .int (nI el), .int (nI fn), .ref y13, .ref y14, .ref y15, .ref y16, .int (nI js), .ref y17, .int (nI (b2n ib))])), (y1, .inl (.long, 25, .inr (.inl K))), (y2, .inl (.long, 25, .inr (.inl V))), (y3, .inl (.int, 25, .inl (fun q => nI (z q)))), (y4, .inl (.int, 1024, .inl (fun q => nI (L q)))), (y5, .inl (.int, 4096, .inl (fun q => nI (D q)))), (y6, .inl (.int, 128, .inl S)), (y7, .inl (.boolean, 128, .inl Xt)), (y8, .inl (.int, 17, .inl (fun q => nI (lv q)))), (y9, .inl (.int, 17, .inl (fun q => nI (en q)))), (y10, .inl (.int, 17, .inl (fun q => nI (mn q)))), (y11, .inl (.int, 2176, .inl (fun q => nI (bk q)))), (y12, .inl (.long, 17, .inr (.inl fl))), (y13, .inl (.long, 500, .inr (.inl FK))), (y14, .inl (.long, 500, .inr (.inl FV))), (y15, .inl (.int, 500, .inl (fun q => nI (Fz q)))), (y16, .inl (.int, 4200, .inl (fun q => nI (J q)))), (y17, .inl (.int, 128, .inl (fun q => nI (pk q)))), (o, .inl (.long, 1, .inr (.inl O)))] rfl rfl hn ?_
      refine g_istore [(5, .int (nI 2)), (4, .int (nI ix)), (3, .ref o), (2, .ref h), (1, .ref x), (0, .ref b0)] X d_LW_law_187 (by decide) rfl ?_
      refine g_aload_n X d_LW_law_189 3 rfl ?_
      refine g_aload_n X d_LW_law_190 5 rfl ?_
      refine g_iload X d_LW_law_191 1 rfl ?_
      refine g_iconst (nI 1) X d_LW_law_193 (by decide) ?_
      refine g_iadd X d_LW_law_194 ?_
      refine g_vi (nI (ix + 1)) (nI_add _ _) ?_
      refine s_iald X hScr d_LW_law_195 (by omega) (by omega) ?_
      refine g_i2l X d_LW_law_196 ?_
      refine g_bipush (nI 32) X d_LW_law_197 (by decide) ?_
      refine g_lshl X d_LW_law_199 ?_
      refine g_aload_n X d_LW_law_200 5 rfl ?_
      refine g_iload X d_LW_law_201 1 rfl ?_
      refine g_iconst (nI 2) X d_LW_law_203 (by decide) ?_
      refine g_iadd X d_LW_law_204 ?_
      refine g_vi (nI (ix + 2)) (nI_add _ _) ?_
      refine s_iald X hScr d_LW_law_205 (by omega) (by omega) ?_
      refine g_i2l X d_LW_law_206 ?_
      refine g_ldc2 X d_LW_law_207 k_ct_LW_79 ?_
      refine g_land X d_LW_law_210 ?_
      refine g_lor X d_LW_law_211 ?_
      refine g_vl k (h_k) ?_
      refine g_aload_n X d_LW_law_212 5 rfl ?_
      refine g_iload X d_LW_law_213 1 rfl ?_
      refine g_iconst (nI 3) X d_LW_law_215 (by decide) ?_
      refine g_iadd X d_LW_law_216 ?_
      refine g_vi (nI (ix + 3)) (nI_add _ _) ?_
      refine s_iald X hScr d_LW_law_217 (by omega) (by omega) ?_
      refine g_i2l X d_LW_law_218 ?_
      refine g_bipush (nI 32) X d_LW_law_219 (by decide) ?_
      refine g_lshl X d_LW_law_221 ?_
      refine g_aload_n X d_LW_law_222 5 rfl ?_
      refine g_iload X d_LW_law_223 1 rfl ?_
      refine g_iconst (nI 4) X d_LW_law_225 (by decide) ?_
      refine g_iadd X d_LW_law_226 ?_
      refine g_vi (nI (ix + 4)) (nI_add _ _) ?_
      refine s_iald X hScr d_LW_law_227 (by omega) (by omega) ?_
      refine g_i2l X d_LW_law_228 ?_
      refine g_ldc2 X d_LW_law_229 k_ct_LW_79 ?_
      refine g_land X d_LW_law_232 ?_
      refine g_lor X d_LW_law_233 ?_
      refine g_vl v (h_v) ?_
      refine g_aload_n X d_LW_law_234 5 rfl ?_
      refine g_iload X d_LW_law_235 1 rfl ?_
      refine g_iconst (nI 5) X d_LW_law_237 (by decide) ?_
      refine g_iadd X d_LW_law_238 ?_
      refine g_vi (nI (ix + 5)) (nI_add _ _) ?_
      refine s_iald X hScr d_LW_law_239 (by omega) (by omega) ?_
      refine g_vi (nI m) hv ?_
      refine g_callVf (As := [.long k, .long v, .int (nI m)]) (st := []) X d_LW_law_240 (c_MD_put_no hst hnm hm hu hn24 hr9) (hl_ov 17 rfl hn) rfl rfl k_ml_LW_84 k_cd_MD_put k_in_MD k_im_MD_put k_se_MD_put ⟨by decide +kernel, by decide +kernel, (by decide +kernel : (parseMethodDescriptor "(JJI)I").map (fun d => d.parameters.length) = some 3)⟩ ⟨by omega, by omega⟩ ⟨by omega, by omega⟩ (Nat.le_of_ble_eq_true rfl) (hg_ov hn [17, 18, 19, 20, 21] rfl) hrx_0 (fun E g9 h => by obtain ⟨hv9, hg9⟩ := h; cases hv9) (fun v9 g9 hq hfr => ?_)
      obtain ⟨hv9, hg9⟩ := hq
      cases hv9
      subst hg9
      refine g_ovP [17, 18, 19, 20, 21] [(x, .inr (5, [.ref xm, .ref xl, .ref xb, .ref xr, .ref xt, .int (nI c), .ref xg, .long sv, .int ps, .int bd])), (xm, .inr (2, [.ref m1, .ref m2, .ref m3, .int (nI n)])), (m1, .inl (.long, 24, .inr (.inl K))), (m2, .inl (.int, 24, .inl (fun q => nI (z q)))), (m3, .inl (.long, 24, .inr (.inl V))), (xl, .inr (1, [.ref l1, .int (nI u), .int (nI la), .int (nI le), .long lk, .int (nI ls), .long lw])), (l1, .inl (.byte, 1024, .inl (fun q => sb_b (L q)))), (xb, .inr (0, [.ref y, .ref s, .ref t, .int w])), (y, .inl (.byte, M * 32, .inl (fun q => sb_b (D q)))), (s, .inl (.int, M, .inl S)), (t, .inl (.int, M, .inl T)), (xr, .inr (4, [.ref xb, rt, .int (nI (b2n rb)), .int (nI ra), .int rft, .long rk, .int (nI rs), .long rv])), (xt, .inl (.object "RunStore$Table", 16, .inr (.inr (.inr (.inr rf))))), (xg, .inr (2, [.ref g1, .ref g2, .ref g3, .int (nI Gn)])), (g1, .inl (.long, NG, .inr (.inl GK))), (g2, .inl (.int, NG, .inl (fun q => nI (Gz q)))), (g3, .inl (.long, NG, .inr (.inl GV))), (h, .inr (6, [.int (nI 2), .int (nI M), .int (nI n), .ref y1, .ref y2, .ref y3, .int (nI u), .ref y4, .ref y5, .ref y6, .ref y7, .int (nI c), .ref y8, .ref y9, .ref y10, .ref y11, .ref y12, .int bd, .int w, .int ps, .int (nI pa), .int lc, .int (nI (b2n fb)), .long ek, .long ev, .int (nI el), .int (nI fn), .ref y13, .ref y14, .ref y15, .ref y16, .int (nI js), .ref y17, .int (nI (b2n ib))])), (y1, .inl (.long, 25, .inr (.inl K))), (y2, .inl (.long, 25, .inr (.inl V))), (y3, .inl (.int, 25, .inl (fun q => nI (z q)))), (y4, .inl (.int, 1024, .inl (fun q => nI (L q)))), (y5, .inl (.int, 4096, .inl (fun q => nI (D q)))), (y6, .inl (.int, 128, .inl S)), (y7, .inl (.boolean, 128, .inl Xt)), (y8, .inl (.int, 17, .inl (fun q => nI (lv q)))), (y9, .inl (.int, 17, .inl (fun q => nI (en q)))), (y10, .inl (.int, 17, .inl (fun q => nI (mn q)))), (y11, .inl (.int, 2176, .inl (fun q => nI (bk q)))), (y12, .inl (.long, 17, .inr (.inl fl))), (y13, .inl (.long, 500, .inr (.inl FK))), (y14, .inl (.long, 500, .inr (.inl FV))), (y15, .inl (.int, 500, .inl (fun q => nI (Fz q)))), (y16, .inl (.int, 4200, .inl (fun q => nI (J q)))), (y17, .inl (.int, 128, .inl (fun q => nI (pk q)))), (o, .inl (.long, 1, .inr (.inl O)))] rfl rfl hn ?_
      refine g_istore [(6, .int (nI 0)), (5, .int (nI 2)), (4, .int (nI ix)), (3, .ref o), (2, .ref h), (1, .ref x), (0, .ref b0)] X d_LW_law_243 (by decide) rfl ?_
      refine g_aload_n X d_LW_law_245 4 rfl ?_
      refine g_callVf (As := []) (st := []) X d_LW_law_246 (c_MD_thrown hst hnh) (hl_ov 17 rfl hn) rfl rfl k_ml_LW_85 k_cd_MD_thrown k_in_MD k_im_MD_thrown k_se_MD_thrown ⟨by decide +kernel, by decide +kernel, (by decide +kernel : (parseMethodDescriptor "()I").map (fun d => d.parameters.length) = some 0)⟩ ⟨by omega, by omega⟩ ⟨by omega, by omega⟩ (Nat.le_of_ble_eq_true rfl) (hg_ov hn [17] rfl) hrx_0 (fun E g9 h => by obtain ⟨hv9, hg9⟩ := h; cases hv9) (fun v9 g9 hq hfr => ?_)
      obtain ⟨hv9, hg9⟩ := hq
      cases hv9
      subst hg9
      refine g_ovP [17] [(x, .inr (5, [.ref xm, .ref xl, .ref xb, .ref xr, .ref xt, .int (nI c), .ref xg, .long sv, .int ps, .int bd])), (xm, .inr (2, [.ref m1, .ref m2, .ref m3, .int (nI n)])), (m1, .inl (.long, 24, .inr (.inl K))), (m2, .inl (.int, 24, .inl (fun q => nI (z q)))), (m3, .inl (.long, 24, .inr (.inl V))), (xl, .inr (1, [.ref l1, .int (nI u), .int (nI la), .int (nI le), .long lk, .int (nI ls), .long lw])), (l1, .inl (.byte, 1024, .inl (fun q => sb_b (L q)))), (xb, .inr (0, [.ref y, .ref s, .ref t, .int w])), (y, .inl (.byte, M * 32, .inl (fun q => sb_b (D q)))), (s, .inl (.int, M, .inl S)), (t, .inl (.int, M, .inl T)), (xr, .inr (4, [.ref xb, rt, .int (nI (b2n rb)), .int (nI ra), .int rft, .long rk, .int (nI rs), .long rv])), (xt, .inl (.object "RunStore$Table", 16, .inr (.inr (.inr (.inr rf))))), (xg, .inr (2, [.ref g1, .ref g2, .ref g3, .int (nI Gn)])), (g1, .inl (.long, NG, .inr (.inl GK))), (g2, .inl (.int, NG, .inl (fun q => nI (Gz q)))), (g3, .inl (.long, NG, .inr (.inl GV))), (h, .inr (6, [.int (nI 2), .int (nI M), .int (nI n), .ref y1, .ref y2, .ref y3, .int (nI u), .ref y4, .ref y5, .ref y6, .ref y7, .int (nI c), .ref y8, .ref y9, .ref y10, .ref y11, .ref y12, .int bd, .int w, .int ps, .int (nI pa), .int lc, .int (nI (b2n fb)), .long ek, .long ev, .int (nI el), .int (nI fn), .ref y13, .ref y14, .ref y15, .ref y16, .int (nI js), .ref y17, .int (nI (b2n ib))])), (y1, .inl (.long, 25, .inr (.inl K))), (y2, .inl (.long, 25, .inr (.inl V))), (y3, .inl (.int, 25, .inl (fun q => nI (z q)))), (y4, .inl (.int, 1024, .inl (fun q => nI (L q)))), (y5, .inl (.int, 4096, .inl (fun q => nI (D q)))), (y6, .inl (.int, 128, .inl S)), (y7, .inl (.boolean, 128, .inl Xt)), (y8, .inl (.int, 17, .inl (fun q => nI (lv q)))), (y9, .inl (.int, 17, .inl (fun q => nI (en q)))), (y10, .inl (.int, 17, .inl (fun q => nI (mn q)))), (y11, .inl (.int, 2176, .inl (fun q => nI (bk q)))), (y12, .inl (.long, 17, .inr (.inl fl))), (y13, .inl (.long, 500, .inr (.inl FK))), (y14, .inl (.long, 500, .inr (.inl FV))), (y15, .inl (.int, 500, .inl (fun q => nI (Fz q)))), (y16, .inl (.int, 4200, .inl (fun q => nI (J q)))), (y17, .inl (.int, 128, .inl (fun q => nI (pk q)))), (o, .inl (.long, 1, .inr (.inl O)))] rfl rfl hn ?_
      refine g_iload X d_LW_law_249 1 rfl ?_
      refine g_icmp_eq 256 X d_LW_law_251 (by decide) (fun h251 => ?_) (fun h251 => ?_)
      · have h251 := cv_eq (by omega) (by omega) h251
        refine g_iload X d_LW_law_256 1 rfl ?_
        refine g_if_ne 273 X d_LW_law_258 (by decide) (fun h258 => ?_) (fun h258 => ?_)
        · have h258 := cv_n0 (by omega) h258
          refine g_goto 1292 X d_LW_law_273 (by decide) ?_
          refine g_lv [2, 3, 4, 5, 6] [(4, .int (nI ix)), (3, .ref o), (2, .ref h), (1, .ref x), (0, .ref b0)] rfl ?_
          refine g_widen (ce' := ce + 5) (sl' := sl + 150) (by omega) (by omega) ?_
          exact kk _ ⟨_, _, _, _, _, _, _, _, _, _, _, _, _, _, _, _, _, _, _, _, _, _, _, _, _, _, _, _, _, _, _, _, _, _, _, _, _, _, _, _, _, _, _, _, _, _, _, _, _, _, _, _, _, _, _, _, _, rfl, hn24, hs, hz, hu, hL, hD, hc16, hP, hI, hB, hX, hPd⟩
        · have h258 := cv_e0 (by omega) h258
          omega
      · have h251 := cv_ne (by omega) (by omega) h251
        omega
    | true =>
      have hn9 : [x, xm, m1, m2, m3, xl, l1, o].Nodup := nd_pick [x, xm, m1, m2, m3, xl, l1, xb, y, s, t, xr, xt, xg, g1, g2, g3, h, y1, y2, y3, y4, y5, y6, y7, y8, y9, y10, y11, y12, y13, y14, y15, y16, y17, o] [0, 1, 2, 3, 4, 5, 6, 35] 36 hn (by decide) rfl (by decide)
      refine g_aload_n X d_LW_law_132 3 rfl ?_
      refine g_aload_n X d_LW_law_133 4 rfl ?_
      refine g_iload X d_LW_law_134 0 rfl ?_
      refine g_iconst (nI 1) X d_LW_law_136 (by decide) ?_
      refine g_iadd X d_LW_law_137 ?_
      refine g_vi (nI (ix + 1)) (nI_add _ _) ?_
      refine s_iald X hScr d_LW_law_138 (by omega) (by omega) ?_
      refine g_i2l X d_LW_law_139 ?_
      refine g_bipush (nI 32) X d_LW_law_140 (by decide) ?_
      refine g_lshl X d_LW_law_142 ?_
      refine g_aload_n X d_LW_law_143 4 rfl ?_
      refine g_iload X d_LW_law_144 0 rfl ?_
      refine g_iconst (nI 2) X d_LW_law_146 (by decide) ?_
      refine g_iadd X d_LW_law_147 ?_
      refine g_vi (nI (ix + 2)) (nI_add _ _) ?_
      refine s_iald X hScr d_LW_law_148 (by omega) (by omega) ?_
      refine g_i2l X d_LW_law_149 ?_
      refine g_ldc2 X d_LW_law_150 k_ct_LW_79 ?_
      refine g_land X d_LW_law_153 ?_
      refine g_lor X d_LW_law_154 ?_
      refine g_vl k (h_k) ?_
      refine g_aload_n X d_LW_law_155 4 rfl ?_
      refine g_iload X d_LW_law_156 0 rfl ?_
      refine g_iconst (nI 3) X d_LW_law_158 (by decide) ?_
      refine g_iadd X d_LW_law_159 ?_
      refine g_vi (nI (ix + 3)) (nI_add _ _) ?_
      refine s_iald X hScr d_LW_law_160 (by omega) (by omega) ?_
      refine g_i2l X d_LW_law_161 ?_
      refine g_bipush (nI 32) X d_LW_law_162 (by decide) ?_
      refine g_lshl X d_LW_law_164 ?_
      refine g_aload_n X d_LW_law_165 4 rfl ?_
      refine g_iload X d_LW_law_166 0 rfl ?_
      refine g_iconst (nI 4) X d_LW_law_168 (by decide) ?_
      refine g_iadd X d_LW_law_169 ?_
      refine g_vi (nI (ix + 4)) (nI_add _ _) ?_
      refine s_iald X hScr d_LW_law_170 (by omega) (by omega) ?_
      refine g_i2l X d_LW_law_171 ?_
      refine g_ldc2 X d_LW_law_172 k_ct_LW_79 ?_
      refine g_land X d_LW_law_175 ?_
      refine g_lor X d_LW_law_176 ?_
      refine g_vl v (h_v) ?_
      refine g_aload_n X d_LW_law_177 4 rfl ?_
      refine g_iload X d_LW_law_178 0 rfl ?_
      refine g_iconst (nI 5) X d_LW_law_180 (by decide) ?_
      refine g_iadd X d_LW_law_181 ?_
      refine g_vi (nI (ix + 5)) (nI_add _ _) ?_
      refine s_iald X hScr d_LW_law_182 (by omega) (by omega) ?_
      refine g_vi (nI m) hv ?_
      refine g_aload_n X d_LW_law_183 1 rfl ?_
      refine g_callSW (As := [.ref x, .long k, .long v, .int (nI m), .ref o]) (st := []) X d_LW_law_184 (c_LW_put_ok hst hs hn24 hL hu hn9 hm (hrm_t hr9).1 (hrm_t hr9).2) lwN_s hNw rfl k_ml_LW_81 k_cd_LW_put k_in_LW k_st_LW_put ⟨by decide +kernel, by decide +kernel, (by decide +kernel : (parseMethodDescriptor "(LRunStore;JJI[J)I").map (fun d => d.parameters.length) = some 5)⟩ ⟨by omega, by omega⟩ ⟨by omega, by omega⟩ (Nat.le_of_ble_eq_true rfl) (hg_ov hn [0, 1, 2, 3, 4, 5, 6, 35] rfl) hrx_0 (fun E g9 h => by obtain ⟨hv9, hg9⟩ := h; cases hv9) (fun v9 g9 hq hfr => ?_)
      obtain ⟨hv9, hg9⟩ := hq
      cases hv9
      subst hg9
      refine g_ovP [0, 1, 2, 3, 4, 5, 6, 35] [(x, .inr (5, [.ref xm, .ref xl, .ref xb, .ref xr, .ref xt, .int (nI c), .ref xg, .long sv, .int ps, .int bd])), (xm, .inr (2, [.ref m1, .ref m2, .ref m3, .int (nI ((stm (K, z, V, n) k m (lowb v m)).2.2.2))])), (m1, .inl (.long, 24, .inr (.inl ((stm (K, z, V, n) k m (lowb v m)).1)))), (m2, .inl (.int, 24, .inl (fun q => nI (((stm (K, z, V, n) k m (lowb v m)).2.1) q)))), (m3, .inl (.long, 24, .inr (.inl ((stm (K, z, V, n) k m (lowb v m)).2.2.1)))), (xl, .inr (1, [.ref l1, .int (nI (u + ebn m + 1)), .int (nI la), .int (nI le), .long lk, .int (nI ls), .long lw])), (l1, .inl (.byte, 1024, .inl (fun q => sb_b (((apB L u k m (lowb v m))) q)))), (xb, .inr (0, [.ref y, .ref s, .ref t, .int w])), (y, .inl (.byte, M * 32, .inl (fun q => sb_b (D q)))), (s, .inl (.int, M, .inl S)), (t, .inl (.int, M, .inl T)), (xr, .inr (4, [.ref xb, rt, .int (nI (b2n rb)), .int (nI ra), .int rft, .long rk, .int (nI rs), .long rv])), (xt, .inl (.object "RunStore$Table", 16, .inr (.inr (.inr (.inr rf))))), (xg, .inr (2, [.ref g1, .ref g2, .ref g3, .int (nI Gn)])), (g1, .inl (.long, NG, .inr (.inl GK))), (g2, .inl (.int, NG, .inl (fun q => nI (Gz q)))), (g3, .inl (.long, NG, .inr (.inl GV))), (h, .inr (6, [.int th, .int (nI M), .int (nI n), .ref y1, .ref y2, .ref y3, .int (nI u), .ref y4, .ref y5, .ref y6, .ref y7, .int (nI c), .ref y8, .ref y9, .ref y10, .ref y11, .ref y12, .int bd, .int w, .int ps, .int (nI pa), .int lc, .int (nI (b2n fb)), .long ek, .long ev, .int (nI el), .int (nI fn), .ref y13, .ref y14, .ref y15, .ref y16, .int (nI js), .ref y17, .int (nI (b2n ib))])), (y1, .inl (.long, 25, .inr (.inl K))), (y2, .inl (.long, 25, .inr (.inl V))), (y3, .inl (.int, 25, .inl (fun q => nI (z q)))), (y4, .inl (.int, 1024, .inl (fun q => nI (L q)))), (y5, .inl (.int, 4096, .inl (fun q => nI (D q)))), (y6, .inl (.int, 128, .inl S)), (y7, .inl (.boolean, 128, .inl Xt)), (y8, .inl (.int, 17, .inl (fun q => nI (lv q)))), (y9, .inl (.int, 17, .inl (fun q => nI (en q)))), (y10, .inl (.int, 17, .inl (fun q => nI (mn q)))), (y11, .inl (.int, 2176, .inl (fun q => nI (bk q)))), (y12, .inl (.long, 17, .inr (.inl fl))), (y13, .inl (.long, 500, .inr (.inl FK))), (y14, .inl (.long, 500, .inr (.inl FV))), (y15, .inl (.int, 500, .inl (fun q => nI (Fz q)))), (y16, .inl (.int, 4200, .inl (fun q => nI (J q)))), (y17, .inl (.int, 128, .inl (fun q => nI (pk q)))), (o, .inl (.long, 1, .inr (.inl (va_up O 0 ((nI (stm (K, z, V, n) k m (lowb v m)).2.2.2).toInt64)))))] rfl rfl hn ?_
      refine g_istore [(5, .int (nI 0)), (4, .int (nI ix)), (3, .ref o), (2, .ref h), (1, .ref x), (0, .ref b0)] X d_LW_law_187 (by decide) rfl ?_
      refine g_aload_n X d_LW_law_189 3 rfl ?_
      refine g_aload_n X d_LW_law_190 5 rfl ?_
      refine g_iload X d_LW_law_191 1 rfl ?_
      refine g_iconst (nI 1) X d_LW_law_193 (by decide) ?_
      refine g_iadd X d_LW_law_194 ?_
      refine g_vi (nI (ix + 1)) (nI_add _ _) ?_
      refine s_iald X hScr d_LW_law_195 (by omega) (by omega) ?_
      refine g_i2l X d_LW_law_196 ?_
      refine g_bipush (nI 32) X d_LW_law_197 (by decide) ?_
      refine g_lshl X d_LW_law_199 ?_
      refine g_aload_n X d_LW_law_200 5 rfl ?_
      refine g_iload X d_LW_law_201 1 rfl ?_
      refine g_iconst (nI 2) X d_LW_law_203 (by decide) ?_
      refine g_iadd X d_LW_law_204 ?_
      refine g_vi (nI (ix + 2)) (nI_add _ _) ?_
      refine s_iald X hScr d_LW_law_205 (by omega) (by omega) ?_
      refine g_i2l X d_LW_law_206 ?_
      refine g_ldc2 X d_LW_law_207 k_ct_LW_79 ?_
      refine g_land X d_LW_law_210 ?_
      refine g_lor X d_LW_law_211 ?_
      refine g_vl k (h_k) ?_
      refine g_aload_n X d_LW_law_212 5 rfl ?_
      refine g_iload X d_LW_law_213 1 rfl ?_
      refine g_iconst (nI 3) X d_LW_law_215 (by decide) ?_
      refine g_iadd X d_LW_law_216 ?_
      refine g_vi (nI (ix + 3)) (nI_add _ _) ?_
      refine s_iald X hScr d_LW_law_217 (by omega) (by omega) ?_
      refine g_i2l X d_LW_law_218 ?_
      refine g_bipush (nI 32) X d_LW_law_219 (by decide) ?_
      refine g_lshl X d_LW_law_221 ?_
      refine g_aload_n X d_LW_law_222 5 rfl ?_
      refine g_iload X d_LW_law_223 1 rfl ?_
      refine g_iconst (nI 4) X d_LW_law_225 (by decide) ?_
      refine g_iadd X d_LW_law_226 ?_
      refine g_vi (nI (ix + 4)) (nI_add _ _) ?_
      refine s_iald X hScr d_LW_law_227 (by omega) (by omega) ?_
      refine g_i2l X d_LW_law_228 ?_
      refine g_ldc2 X d_LW_law_229 k_ct_LW_79 ?_
      refine g_land X d_LW_law_232 ?_
      refine g_lor X d_LW_law_233 ?_
      refine g_vl v (h_v) ?_
      refine g_aload_n X d_LW_law_234 5 rfl ?_
      refine g_iload X d_LW_law_235 1 rfl ?_
      refine g_iconst (nI 5) X d_LW_law_237 (by decide) ?_
      refine g_iadd X d_LW_law_238 ?_
      refine g_vi (nI (ix + 5)) (nI_add _ _) ?_
      refine s_iald X hScr d_LW_law_239 (by omega) (by omega) ?_
      refine g_vi (nI m) hv ?_
      refine g_callVf (As := [.long k, .long v, .int (nI m)]) (st := []) X d_LW_law_240 (c_MD_put_ok hst hnm hm hu hL hn24 hr9) (hl_ov 17 rfl hn) rfl rfl k_ml_LW_84 k_cd_MD_put k_in_MD k_im_MD_put k_se_MD_put ⟨by decide +kernel, by decide +kernel, (by decide +kernel : (parseMethodDescriptor "(JJI)I").map (fun d => d.parameters.length) = some 3)⟩ ⟨by omega, by omega⟩ ⟨by omega, by omega⟩ (Nat.le_of_ble_eq_true rfl) (hg_ov hn [17, 18, 19, 20, 21] rfl) hrx_0 (fun E g9 h => by obtain ⟨hv9, hg9⟩ := h; cases hv9) (fun v9 g9 hq hfr => ?_)
      obtain ⟨hv9, hg9⟩ := hq
      cases hv9
      subst hg9
      refine g_ovP [17, 18, 19, 20, 21] [(x, .inr (5, [.ref xm, .ref xl, .ref xb, .ref xr, .ref xt, .int (nI c), .ref xg, .long sv, .int ps, .int bd])), (xm, .inr (2, [.ref m1, .ref m2, .ref m3, .int (nI ((stm (K, z, V, n) k m (lowb v m)).2.2.2))])), (m1, .inl (.long, 24, .inr (.inl ((stm (K, z, V, n) k m (lowb v m)).1)))), (m2, .inl (.int, 24, .inl (fun q => nI (((stm (K, z, V, n) k m (lowb v m)).2.1) q)))), (m3, .inl (.long, 24, .inr (.inl ((stm (K, z, V, n) k m (lowb v m)).2.2.1)))), (xl, .inr (1, [.ref l1, .int (nI (u + ebn m + 1)), .int (nI la), .int (nI le), .long lk, .int (nI ls), .long lw])), (l1, .inl (.byte, 1024, .inl (fun q => sb_b (((apB L u k m (lowb v m))) q)))), (xb, .inr (0, [.ref y, .ref s, .ref t, .int w])), (y, .inl (.byte, M * 32, .inl (fun q => sb_b (D q)))), (s, .inl (.int, M, .inl S)), (t, .inl (.int, M, .inl T)), (xr, .inr (4, [.ref xb, rt, .int (nI (b2n rb)), .int (nI ra), .int rft, .long rk, .int (nI rs), .long rv])), (xt, .inl (.object "RunStore$Table", 16, .inr (.inr (.inr (.inr rf))))), (xg, .inr (2, [.ref g1, .ref g2, .ref g3, .int (nI Gn)])), (g1, .inl (.long, NG, .inr (.inl GK))), (g2, .inl (.int, NG, .inl (fun q => nI (Gz q)))), (g3, .inl (.long, NG, .inr (.inl GV))), (h, .inr (6, [.int (nI 0), .int (nI M), .int (nI ((stm (K, z, V, n) k m (lowb v m)).2.2.2)), .ref y1, .ref y2, .ref y3, .int (nI (u + ebn m + 1)), .ref y4, .ref y5, .ref y6, .ref y7, .int (nI c), .ref y8, .ref y9, .ref y10, .ref y11, .ref y12, .int bd, .int w, .int ps, .int (nI pa), .int lc, .int (nI (b2n fb)), .long ek, .long ev, .int (nI el), .int (nI fn), .ref y13, .ref y14, .ref y15, .ref y16, .int (nI js), .ref y17, .int (nI (b2n ib))])), (y1, .inl (.long, 25, .inr (.inl ((stm (K, z, V, n) k m (lowb v m)).1)))), (y2, .inl (.long, 25, .inr (.inl ((stm (K, z, V, n) k m (lowb v m)).2.2.1)))), (y3, .inl (.int, 25, .inl (fun q => nI (((stm (K, z, V, n) k m (lowb v m)).2.1) q)))), (y4, .inl (.int, 1024, .inl (fun q => nI (((apB L u k m (lowb v m))) q)))), (y5, .inl (.int, 4096, .inl (fun q => nI (D q)))), (y6, .inl (.int, 128, .inl S)), (y7, .inl (.boolean, 128, .inl Xt)), (y8, .inl (.int, 17, .inl (fun q => nI (lv q)))), (y9, .inl (.int, 17, .inl (fun q => nI (en q)))), (y10, .inl (.int, 17, .inl (fun q => nI (mn q)))), (y11, .inl (.int, 2176, .inl (fun q => nI (bk q)))), (y12, .inl (.long, 17, .inr (.inl fl))), (y13, .inl (.long, 500, .inr (.inl FK))), (y14, .inl (.long, 500, .inr (.inl FV))), (y15, .inl (.int, 500, .inl (fun q => nI (Fz q)))), (y16, .inl (.int, 4200, .inl (fun q => nI (J q)))), (y17, .inl (.int, 128, .inl (fun q => nI (pk q)))), (o, .inl (.long, 1, .inr (.inl (va_up O 0 ((nI (stm (K, z, V, n) k m (lowb v m)).2.2.2).toInt64)))))] rfl rfl hn ?_
      refine g_istore [(6, .int (nI ((stm (K, z, V, n) k m (lowb v m)).2.2.2))), (5, .int (nI 0)), (4, .int (nI ix)), (3, .ref o), (2, .ref h), (1, .ref x), (0, .ref b0)] X d_LW_law_243 (by decide) rfl ?_
      refine g_aload_n X d_LW_law_245 4 rfl ?_
      refine g_callVf (As := []) (st := []) X d_LW_law_246 (c_MD_thrown hst hnh) (hl_ov 17 rfl hn) rfl rfl k_ml_LW_85 k_cd_MD_thrown k_in_MD k_im_MD_thrown k_se_MD_thrown ⟨by decide +kernel, by decide +kernel, (by decide +kernel : (parseMethodDescriptor "()I").map (fun d => d.parameters.length) = some 0)⟩ ⟨by omega, by omega⟩ ⟨by omega, by omega⟩ (Nat.le_of_ble_eq_true rfl) (hg_ov hn [17] rfl) hrx_0 (fun E g9 h => by obtain ⟨hv9, hg9⟩ := h; cases hv9) (fun v9 g9 hq hfr => ?_)
      obtain ⟨hv9, hg9⟩ := hq
      cases hv9
      subst hg9
      refine g_ovP [17] [(x, .inr (5, [.ref xm, .ref xl, .ref xb, .ref xr, .ref xt, .int (nI c), .ref xg, .long sv, .int ps, .int bd])), (xm, .inr (2, [.ref m1, .ref m2, .ref m3, .int (nI ((stm (K, z, V, n) k m (lowb v m)).2.2.2))])), (m1, .inl (.long, 24, .inr (.inl ((stm (K, z, V, n) k m (lowb v m)).1)))), (m2, .inl (.int, 24, .inl (fun q => nI (((stm (K, z, V, n) k m (lowb v m)).2.1) q)))), (m3, .inl (.long, 24, .inr (.inl ((stm (K, z, V, n) k m (lowb v m)).2.2.1)))), (xl, .inr (1, [.ref l1, .int (nI (u + ebn m + 1)), .int (nI la), .int (nI le), .long lk, .int (nI ls), .long lw])), (l1, .inl (.byte, 1024, .inl (fun q => sb_b (((apB L u k m (lowb v m))) q)))), (xb, .inr (0, [.ref y, .ref s, .ref t, .int w])), (y, .inl (.byte, M * 32, .inl (fun q => sb_b (D q)))), (s, .inl (.int, M, .inl S)), (t, .inl (.int, M, .inl T)), (xr, .inr (4, [.ref xb, rt, .int (nI (b2n rb)), .int (nI ra), .int rft, .long rk, .int (nI rs), .long rv])), (xt, .inl (.object "RunStore$Table", 16, .inr (.inr (.inr (.inr rf))))), (xg, .inr (2, [.ref g1, .ref g2, .ref g3, .int (nI Gn)])), (g1, .inl (.long, NG, .inr (.inl GK))), (g2, .inl (.int, NG, .inl (fun q => nI (Gz q)))), (g3, .inl (.long, NG, .inr (.inl GV))), (h, .inr (6, [.int (nI 0), .int (nI M), .int (nI ((stm (K, z, V, n) k m (lowb v m)).2.2.2)), .ref y1, .ref y2, .ref y3, .int (nI (u + ebn m + 1)), .ref y4, .ref y5, .ref y6, .ref y7, .int (nI c), .ref y8, .ref y9, .ref y10, .ref y11, .ref y12, .int bd, .int w, .int ps, .int (nI pa), .int lc, .int (nI (b2n fb)), .long ek, .long ev, .int (nI el), .int (nI fn), .ref y13, .ref y14, .ref y15, .ref y16, .int (nI js), .ref y17, .int (nI (b2n ib))])), (y1, .inl (.long, 25, .inr (.inl ((stm (K, z, V, n) k m (lowb v m)).1)))), (y2, .inl (.long, 25, .inr (.inl ((stm (K, z, V, n) k m (lowb v m)).2.2.1)))), (y3, .inl (.int, 25, .inl (fun q => nI (((stm (K, z, V, n) k m (lowb v m)).2.1) q)))), (y4, .inl (.int, 1024, .inl (fun q => nI (((apB L u k m (lowb v m))) q)))), (y5, .inl (.int, 4096, .inl (fun q => nI (D q)))), (y6, .inl (.int, 128, .inl S)), (y7, .inl (.boolean, 128, .inl Xt)), (y8, .inl (.int, 17, .inl (fun q => nI (lv q)))), (y9, .inl (.int, 17, .inl (fun q => nI (en q)))), (y10, .inl (.int, 17, .inl (fun q => nI (mn q)))), (y11, .inl (.int, 2176, .inl (fun q => nI (bk q)))), (y12, .inl (.long, 17, .inr (.inl fl))), (y13, .inl (.long, 500, .inr (.inl FK))), (y14, .inl (.long, 500, .inr (.inl FV))), (y15, .inl (.int, 500, .inl (fun q => nI (Fz q)))), (y16, .inl (.int, 4200, .inl (fun q => nI (J q)))), (y17, .inl (.int, 128, .inl (fun q => nI (pk q)))), (o, .inl (.long, 1, .inr (.inl (va_up O 0 ((nI (stm (K, z, V, n) k m (lowb v m)).2.2.2).toInt64)))))] rfl rfl hn ?_
      refine g_iload X d_LW_law_249 1 rfl ?_
      refine g_icmp_eq 256 X d_LW_law_251 (by decide) (fun h251 => ?_) (fun h251 => ?_)
      · have h251 := cv_eq (by omega) (by omega) h251
        refine g_iload X d_LW_law_256 1 rfl ?_
        refine g_if_ne 273 X d_LW_law_258 (by decide) (fun h258 => ?_) (fun h258 => ?_)
        · have h258 := cv_n0 (by omega) h258
          omega
        · have h258 := cv_e0 (by omega) h258
          refine g_aload_n X d_LW_law_261 3 rfl ?_
          refine g_iconst (nI 0) X d_LW_law_262 (by decide) ?_
          refine h_lald X d_LW_law_263 (hl_ov 35 rfl hn) (by omega) (by omega) ?_
          refine g_iload X d_LW_law_264 0 rfl ?_
          refine g_i2l X d_LW_law_266 ?_
          refine g_lcmp X d_LW_law_267 ?_
          refine g_if_eq 273 X d_LW_law_268 (by decide) (fun h268 => ?_) (fun h268 => ?_)
          · have h268 := (lg_cmp_eq ((va_up O 0 ((nI (stm (K, z, V, n) k m (lowb v m)).2.2.2).toInt64)) 0) ((nI ((stm (K, z, V, n) k m (lowb v m)).2.2.2)).toInt64)).mp h268
            refine g_goto 1292 X d_LW_law_273 (by decide) ?_
            refine g_lv [2, 3, 4, 5, 6] [(4, .int (nI ix)), (3, .ref o), (2, .ref h), (1, .ref x), (0, .ref b0)] rfl ?_
            refine g_widen (ce' := ce + 5) (sl' := sl + 150) (by omega) (by omega) ?_
            exact kk _ ⟨_, _, _, _, _, _, _, _, _, _, _, _, _, _, _, _, _, _, _, _, _, _, _, _, _, _, _, _, _, _, _, _, _, _, _, _, _, _, _, _, _, _, _, _, _, _, _, _, _, _, _, _, _, _, _, _, _, rfl, stm_n hn24 hr9, (stm_ok (R := (K, z, V, n)) ⟨hs, hz⟩ (Or.inl hm)).1, (stm_ok (R := (K, z, V, n)) ⟨hs, hz⟩ (Or.inl hm)).2, (hrm_t hr9).2, (fun q => apB_lt hL q), hD, hc16, hP, hI, hB, hX, hPd⟩
          · have h268 := fun z8 => h268 ((lg_cmp_eq ((va_up O 0 ((nI (stm (K, z, V, n) k m (lowb v m)).2.2.2).toInt64)) 0) ((nI ((stm (K, z, V, n) k m (lowb v m)).2.2.2)).toInt64)).mpr z8)
            exact absurd (va_up_self _ _ _) h268
      · have h251 := cv_ne (by omega) (by omega) h251
        omega
  · have hn9 : [x, xm, m1, m2, m3, xl, l1, o].Nodup := nd_pick [x, xm, m1, m2, m3, xl, l1, xb, y, s, t, xr, xt, xg, g1, g2, g3, h, y1, y2, y3, y4, y5, y6, y7, y8, y9, y10, y11, y12, y13, y14, y15, y16, y17, o] [0, 1, 2, 3, 4, 5, 6, 35] 36 hn (by decide) rfl (by decide)
    refine g_aload_n X d_LW_law_132 3 rfl ?_
    refine g_aload_n X d_LW_law_133 4 rfl ?_
    refine g_iload X d_LW_law_134 0 rfl ?_
    refine g_iconst (nI 1) X d_LW_law_136 (by decide) ?_
    refine g_iadd X d_LW_law_137 ?_
    refine g_vi (nI (ix + 1)) (nI_add _ _) ?_
    refine s_iald X hScr d_LW_law_138 (by omega) (by omega) ?_
    refine g_i2l X d_LW_law_139 ?_
    refine g_bipush (nI 32) X d_LW_law_140 (by decide) ?_
    refine g_lshl X d_LW_law_142 ?_
    refine g_aload_n X d_LW_law_143 4 rfl ?_
    refine g_iload X d_LW_law_144 0 rfl ?_
    refine g_iconst (nI 2) X d_LW_law_146 (by decide) ?_
    refine g_iadd X d_LW_law_147 ?_
    refine g_vi (nI (ix + 2)) (nI_add _ _) ?_
    refine s_iald X hScr d_LW_law_148 (by omega) (by omega) ?_
    refine g_i2l X d_LW_law_149 ?_
    refine g_ldc2 X d_LW_law_150 k_ct_LW_79 ?_
    refine g_land X d_LW_law_153 ?_
    refine g_lor X d_LW_law_154 ?_
    refine g_vl k (h_k) ?_
    refine g_aload_n X d_LW_law_155 4 rfl ?_
    refine g_iload X d_LW_law_156 0 rfl ?_
    refine g_iconst (nI 3) X d_LW_law_158 (by decide) ?_
    refine g_iadd X d_LW_law_159 ?_
    refine g_vi (nI (ix + 3)) (nI_add _ _) ?_
    refine s_iald X hScr d_LW_law_160 (by omega) (by omega) ?_
    refine g_i2l X d_LW_law_161 ?_
    refine g_bipush (nI 32) X d_LW_law_162 (by decide) ?_
    refine g_lshl X d_LW_law_164 ?_
    refine g_aload_n X d_LW_law_165 4 rfl ?_
    refine g_iload X d_LW_law_166 0 rfl ?_
    refine g_iconst (nI 4) X d_LW_law_168 (by decide) ?_
    refine g_iadd X d_LW_law_169 ?_
    refine g_vi (nI (ix + 4)) (nI_add _ _) ?_
    refine s_iald X hScr d_LW_law_170 (by omega) (by omega) ?_
    refine g_i2l X d_LW_law_171 ?_
    refine g_ldc2 X d_LW_law_172 k_ct_LW_79 ?_
    refine g_land X d_LW_law_175 ?_
    refine g_lor X d_LW_law_176 ?_
    refine g_vl v (h_v) ?_
    refine g_aload_n X d_LW_law_177 4 rfl ?_
    refine g_iload X d_LW_law_178 0 rfl ?_
    refine g_iconst (nI 5) X d_LW_law_180 (by decide) ?_
    refine g_iadd X d_LW_law_181 ?_
    refine g_vi (nI (ix + 5)) (nI_add _ _) ?_
    refine s_iald X hScr d_LW_law_182 (by omega) (by omega) ?_
    refine g_aload_n X d_LW_law_183 1 rfl ?_
    refine g_callSW (As := [.ref x, .long k, .long v, .int (xs (ix + 5)), .ref o]) (st := []) X d_LW_law_184 (c_LW_put_bad hst hs hn24 hL hu hn9 hv) lwN_s hNw rfl k_ml_LW_81 k_cd_LW_put k_in_LW k_st_LW_put ⟨by decide +kernel, by decide +kernel, (by decide +kernel : (parseMethodDescriptor "(LRunStore;JJI[J)I").map (fun d => d.parameters.length) = some 5)⟩ ⟨by omega, by omega⟩ ⟨by omega, by omega⟩ (Nat.le_of_ble_eq_true rfl) (hg_ov hn [0, 1, 2, 3, 4, 5, 6, 35] rfl) hrx_0 (fun E g9 h => by obtain ⟨hv9, hg9⟩ := h; cases hv9) (fun v9 g9 hq hfr => ?_)
    obtain ⟨hv9, hg9⟩ := hq
    cases hv9
    subst hg9
    refine g_ovP [0, 1, 2, 3, 4, 5, 6, 35] [(x, .inr (5, [.ref xm, .ref xl, .ref xb, .ref xr, .ref xt, .int (nI c), .ref xg, .long sv, .int ps, .int bd])), (xm, .inr (2, [.ref m1, .ref m2, .ref m3, .int (nI n)])), (m1, .inl (.long, 24, .inr (.inl K))), (m2, .inl (.int, 24, .inl (fun q => nI (z q)))), (m3, .inl (.long, 24, .inr (.inl V))), (xl, .inr (1, [.ref l1, .int (nI u), .int (nI la), .int (nI le), .long lk, .int (nI ls), .long lw])), (l1, .inl (.byte, 1024, .inl (fun q => sb_b (L q)))), (xb, .inr (0, [.ref y, .ref s, .ref t, .int w])), (y, .inl (.byte, M * 32, .inl (fun q => sb_b (D q)))), (s, .inl (.int, M, .inl S)), (t, .inl (.int, M, .inl T)), (xr, .inr (4, [.ref xb, rt, .int (nI (b2n rb)), .int (nI ra), .int rft, .long rk, .int (nI rs), .long rv])), (xt, .inl (.object "RunStore$Table", 16, .inr (.inr (.inr (.inr rf))))), (xg, .inr (2, [.ref g1, .ref g2, .ref g3, .int (nI Gn)])), (g1, .inl (.long, NG, .inr (.inl GK))), (g2, .inl (.int, NG, .inl (fun q => nI (Gz q)))), (g3, .inl (.long, NG, .inr (.inl GV))), (h, .inr (6, [.int th, .int (nI M), .int (nI n), .ref y1, .ref y2, .ref y3, .int (nI u), .ref y4, .ref y5, .ref y6, .ref y7, .int (nI c), .ref y8, .ref y9, .ref y10, .ref y11, .ref y12, .int bd, .int w, .int ps, .int (nI pa), .int lc, .int (nI (b2n fb)), .long ek, .long ev, .int (nI el), .int (nI fn), .ref y13, .ref y14, .ref y15, .ref y16, .int (nI js), .ref y17, .int (nI (b2n ib))])), (y1, .inl (.long, 25, .inr (.inl K))), (y2, .inl (.long, 25, .inr (.inl V))), (y3, .inl (.int, 25, .inl (fun q => nI (z q)))), (y4, .inl (.int, 1024, .inl (fun q => nI (L q)))), (y5, .inl (.int, 4096, .inl (fun q => nI (D q)))), (y6, .inl (.int, 128, .inl S)), (y7, .inl (.boolean, 128, .inl Xt)), (y8, .inl (.int, 17, .inl (fun q => nI (lv q)))), (y9, .inl (.int, 17, .inl (fun q => nI (en q)))), (y10, .inl (.int, 17, .inl (fun q => nI (mn q)))), (y11, .inl (.int, 2176, .inl (fun q => nI (bk q)))), (y12, .inl (.long, 17, .inr (.inl fl))), (y13, .inl (.long, 500, .inr (.inl FK))), (y14, .inl (.long, 500, .inr (.inl FV))), (y15, .inl (.int, 500, .inl (fun q => nI (Fz q)))), (y16, .inl (.int, 4200, .inl (fun q => nI (J q)))), (y17, .inl (.int, 128, .inl (fun q => nI (pk q)))), (o, .inl (.long, 1, .inr (.inl O)))] rfl rfl hn ?_
    refine g_istore [(5, .int (nI 1)), (4, .int (nI ix)), (3, .ref o), (2, .ref h), (1, .ref x), (0, .ref b0)] X d_LW_law_187 (by decide) rfl ?_
    refine g_aload_n X d_LW_law_189 3 rfl ?_
    refine g_aload_n X d_LW_law_190 5 rfl ?_
    refine g_iload X d_LW_law_191 1 rfl ?_
    refine g_iconst (nI 1) X d_LW_law_193 (by decide) ?_
    refine g_iadd X d_LW_law_194 ?_
    refine g_vi (nI (ix + 1)) (nI_add _ _) ?_
    refine s_iald X hScr d_LW_law_195 (by omega) (by omega) ?_
    refine g_i2l X d_LW_law_196 ?_
    refine g_bipush (nI 32) X d_LW_law_197 (by decide) ?_
    refine g_lshl X d_LW_law_199 ?_
    refine g_aload_n X d_LW_law_200 5 rfl ?_
    refine g_iload X d_LW_law_201 1 rfl ?_
    refine g_iconst (nI 2) X d_LW_law_203 (by decide) ?_
    refine g_iadd X d_LW_law_204 ?_
    refine g_vi (nI (ix + 2)) (nI_add _ _) ?_
    refine s_iald X hScr d_LW_law_205 (by omega) (by omega) ?_
    refine g_i2l X d_LW_law_206 ?_
    refine g_ldc2 X d_LW_law_207 k_ct_LW_79 ?_
    refine g_land X d_LW_law_210 ?_
    refine g_lor X d_LW_law_211 ?_
    refine g_vl k (h_k) ?_
    refine g_aload_n X d_LW_law_212 5 rfl ?_
    refine g_iload X d_LW_law_213 1 rfl ?_
    refine g_iconst (nI 3) X d_LW_law_215 (by decide) ?_
    refine g_iadd X d_LW_law_216 ?_
    refine g_vi (nI (ix + 3)) (nI_add _ _) ?_
    refine s_iald X hScr d_LW_law_217 (by omega) (by omega) ?_
    refine g_i2l X d_LW_law_218 ?_
    refine g_bipush (nI 32) X d_LW_law_219 (by decide) ?_
    refine g_lshl X d_LW_law_221 ?_
    refine g_aload_n X d_LW_law_222 5 rfl ?_
    refine g_iload X d_LW_law_223 1 rfl ?_
    refine g_iconst (nI 4) X d_LW_law_225 (by decide) ?_
    refine g_iadd X d_LW_law_226 ?_
    refine g_vi (nI (ix + 4)) (nI_add _ _) ?_
    refine s_iald X hScr d_LW_law_227 (by omega) (by omega) ?_
    refine g_i2l X d_LW_law_228 ?_
    refine g_ldc2 X d_LW_law_229 k_ct_LW_79 ?_
    refine g_land X d_LW_law_232 ?_
    refine g_lor X d_LW_law_233 ?_
    refine g_vl v (h_v) ?_
    refine g_aload_n X d_LW_law_234 5 rfl ?_
    refine g_iload X d_LW_law_235 1 rfl ?_
    refine g_iconst (nI 5) X d_LW_law_237 (by decide) ?_
    refine g_iadd X d_LW_law_238 ?_
    refine g_vi (nI (ix + 5)) (nI_add _ _) ?_
    refine s_iald X hScr d_LW_law_239 (by omega) (by omega) ?_
    refine g_callVf (As := [.long k, .long v, .int (xs (ix + 5))]) (st := []) X d_LW_law_240 (c_MD_put_bad hst hnm (win_k (b := 8) (by decide) hv (by decide))) (hl_ov 17 rfl hn) rfl rfl k_ml_LW_84 k_cd_MD_put k_in_MD k_im_MD_put k_se_MD_put ⟨by decide +kernel, by decide +kernel, (by decide +kernel : (parseMethodDescriptor "(JJI)I").map (fun d => d.parameters.length) = some 3)⟩ ⟨by omega, by omega⟩ ⟨by omega, by omega⟩ (Nat.le_of_ble_eq_true rfl) (hg_ov hn [17, 18, 19, 20, 21] rfl) hrx_0 (fun E g9 h => by obtain ⟨hv9, hg9⟩ := h; cases hv9) (fun v9 g9 hq hfr => ?_)
    obtain ⟨hv9, hg9⟩ := hq
    cases hv9
    subst hg9
    refine g_ovP [17, 18, 19, 20, 21] [(x, .inr (5, [.ref xm, .ref xl, .ref xb, .ref xr, .ref xt, .int (nI c), .ref xg, .long sv, .int ps, .int bd])), (xm, .inr (2, [.ref m1, .ref m2, .ref m3, .int (nI n)])), (m1, .inl (.long, 24, .inr (.inl K))), (m2, .inl (.int, 24, .inl (fun q => nI (z q)))), (m3, .inl (.long, 24, .inr (.inl V))), (xl, .inr (1, [.ref l1, .int (nI u), .int (nI la), .int (nI le), .long lk, .int (nI ls), .long lw])), (l1, .inl (.byte, 1024, .inl (fun q => sb_b (L q)))), (xb, .inr (0, [.ref y, .ref s, .ref t, .int w])), (y, .inl (.byte, M * 32, .inl (fun q => sb_b (D q)))), (s, .inl (.int, M, .inl S)), (t, .inl (.int, M, .inl T)), (xr, .inr (4, [.ref xb, rt, .int (nI (b2n rb)), .int (nI ra), .int rft, .long rk, .int (nI rs), .long rv])), (xt, .inl (.object "RunStore$Table", 16, .inr (.inr (.inr (.inr rf))))), (xg, .inr (2, [.ref g1, .ref g2, .ref g3, .int (nI Gn)])), (g1, .inl (.long, NG, .inr (.inl GK))), (g2, .inl (.int, NG, .inl (fun q => nI (Gz q)))), (g3, .inl (.long, NG, .inr (.inl GV))), (h, .inr (6, [.int (nI 1), .int (nI M), .int (nI n), .ref y1, .ref y2, .ref y3, .int (nI u), .ref y4, .ref y5, .ref y6, .ref y7, .int (nI c), .ref y8, .ref y9, .ref y10, .ref y11, .ref y12, .int bd, .int w, .int ps, .int (nI pa), .int lc, .int (nI (b2n fb)), .long ek, .long ev, .int (nI el), .int (nI fn), .ref y13, .ref y14, .ref y15, .ref y16, .int (nI js), .ref y17, .int (nI (b2n ib))])), (y1, .inl (.long, 25, .inr (.inl K))), (y2, .inl (.long, 25, .inr (.inl V))), (y3, .inl (.int, 25, .inl (fun q => nI (z q)))), (y4, .inl (.int, 1024, .inl (fun q => nI (L q)))), (y5, .inl (.int, 4096, .inl (fun q => nI (D q)))), (y6, .inl (.int, 128, .inl S)), (y7, .inl (.boolean, 128, .inl Xt)), (y8, .inl (.int, 17, .inl (fun q => nI (lv q)))), (y9, .inl (.int, 17, .inl (fun q => nI (en q)))), (y10, .inl (.int, 17, .inl (fun q => nI (mn q)))), (y11, .inl (.int, 2176, .inl (fun q => nI (bk q)))), (y12, .inl (.long, 17, .inr (.inl fl))), (y13, .inl (.long, 500, .inr (.inl FK))), (y14, .inl (.long, 500, .inr (.inl FV))), (y15, .inl (.int, 500, .inl (fun q => nI (Fz q)))), (y16, .inl (.int, 4200, .inl (fun q => nI (J q)))), (y17, .inl (.int, 128, .inl (fun q => nI (pk q)))), (o, .inl (.long, 1, .inr (.inl O)))] rfl rfl hn ?_
    refine g_istore [(6, .int (nI 0)), (5, .int (nI 1)), (4, .int (nI ix)), (3, .ref o), (2, .ref h), (1, .ref x), (0, .ref b0)] X d_LW_law_243 (by decide) rfl ?_
    refine g_aload_n X d_LW_law_245 4 rfl ?_
    refine g_callVf (As := []) (st := []) X d_LW_law_246 (c_MD_thrown hst hnh) (hl_ov 17 rfl hn) rfl rfl k_ml_LW_85 k_cd_MD_thrown k_in_MD k_im_MD_thrown k_se_MD_thrown ⟨by decide +kernel, by decide +kernel, (by decide +kernel : (parseMethodDescriptor "()I").map (fun d => d.parameters.length) = some 0)⟩ ⟨by omega, by omega⟩ ⟨by omega, by omega⟩ (Nat.le_of_ble_eq_true rfl) (hg_ov hn [17] rfl) hrx_0 (fun E g9 h => by obtain ⟨hv9, hg9⟩ := h; cases hv9) (fun v9 g9 hq hfr => ?_)
    obtain ⟨hv9, hg9⟩ := hq
    cases hv9
    subst hg9
    refine g_ovP [17] [(x, .inr (5, [.ref xm, .ref xl, .ref xb, .ref xr, .ref xt, .int (nI c), .ref xg, .long sv, .int ps, .int bd])), (xm, .inr (2, [.ref m1, .ref m2, .ref m3, .int (nI n)])), (m1, .inl (.long, 24, .inr (.inl K))), (m2, .inl (.int, 24, .inl (fun q => nI (z q)))), (m3, .inl (.long, 24, .inr (.inl V))), (xl, .inr (1, [.ref l1, .int (nI u), .int (nI la), .int (nI le), .long lk, .int (nI ls), .long lw])), (l1, .inl (.byte, 1024, .inl (fun q => sb_b (L q)))), (xb, .inr (0, [.ref y, .ref s, .ref t, .int w])), (y, .inl (.byte, M * 32, .inl (fun q => sb_b (D q)))), (s, .inl (.int, M, .inl S)), (t, .inl (.int, M, .inl T)), (xr, .inr (4, [.ref xb, rt, .int (nI (b2n rb)), .int (nI ra), .int rft, .long rk, .int (nI rs), .long rv])), (xt, .inl (.object "RunStore$Table", 16, .inr (.inr (.inr (.inr rf))))), (xg, .inr (2, [.ref g1, .ref g2, .ref g3, .int (nI Gn)])), (g1, .inl (.long, NG, .inr (.inl GK))), (g2, .inl (.int, NG, .inl (fun q => nI (Gz q)))), (g3, .inl (.long, NG, .inr (.inl GV))), (h, .inr (6, [.int (nI 1), .int (nI M), .int (nI n), .ref y1, .ref y2, .ref y3, .int (nI u), .ref y4, .ref y5, .ref y6, .ref y7, .int (nI c), .ref y8, .ref y9, .ref y10, .ref y11, .ref y12, .int bd, .int w, .int ps, .int (nI pa), .int lc, .int (nI (b2n fb)), .long ek, .long ev, .int (nI el), .int (nI fn), .ref y13, .ref y14, .ref y15, .ref y16, .int (nI js), .ref y17, .int (nI (b2n ib))])), (y1, .inl (.long, 25, .inr (.inl K))), (y2, .inl (.long, 25, .inr (.inl V))), (y3, .inl (.int, 25, .inl (fun q => nI (z q)))), (y4, .inl (.int, 1024, .inl (fun q => nI (L q)))), (y5, .inl (.int, 4096, .inl (fun q => nI (D q)))), (y6, .inl (.int, 128, .inl S)), (y7, .inl (.boolean, 128, .inl Xt)), (y8, .inl (.int, 17, .inl (fun q => nI (lv q)))), (y9, .inl (.int, 17, .inl (fun q => nI (en q)))), (y10, .inl (.int, 17, .inl (fun q => nI (mn q)))), (y11, .inl (.int, 2176, .inl (fun q => nI (bk q)))), (y12, .inl (.long, 17, .inr (.inl fl))), (y13, .inl (.long, 500, .inr (.inl FK))), (y14, .inl (.long, 500, .inr (.inl FV))), (y15, .inl (.int, 500, .inl (fun q => nI (Fz q)))), (y16, .inl (.int, 4200, .inl (fun q => nI (J q)))), (y17, .inl (.int, 128, .inl (fun q => nI (pk q)))), (o, .inl (.long, 1, .inr (.inl O)))] rfl rfl hn ?_
    refine g_iload X d_LW_law_249 1 rfl ?_
    refine g_icmp_eq 256 X d_LW_law_251 (by decide) (fun h251 => ?_) (fun h251 => ?_)
    · have h251 := cv_eq (by omega) (by omega) h251
      refine g_iload X d_LW_law_256 1 rfl ?_
      refine g_if_ne 273 X d_LW_law_258 (by decide) (fun h258 => ?_) (fun h258 => ?_)
      · have h258 := cv_n0 (by omega) h258
        refine g_goto 1292 X d_LW_law_273 (by decide) ?_
        refine g_lv [2, 3, 4, 5, 6] [(4, .int (nI ix)), (3, .ref o), (2, .ref h), (1, .ref x), (0, .ref b0)] rfl ?_
        refine g_widen (ce' := ce + 5) (sl' := sl + 150) (by omega) (by omega) ?_
        exact kk _ ⟨_, _, _, _, _, _, _, _, _, _, _, _, _, _, _, _, _, _, _, _, _, _, _, _, _, _, _, _, _, _, _, _, _, _, _, _, _, _, _, _, _, _, _, _, _, _, _, _, _, _, _, _, _, _, _, _, _, rfl, hn24, hs, hz, hu, hL, hD, hc16, hP, hI, hB, hX, hPd⟩
      · have h258 := cv_e0 (by omega) h258
        omega
    · have h251 := cv_ne (by omega) (by omega) h251
      omega

set_option maxRecDepth 100000 in
set_option maxHeartbeats 4000000 in
theorem law_drop {mp : Program} {l : Launch} {me : Env} {mR : Room} {sm : State} {mm : MethodId} {margs : Array Value} {mbel : List Frame} {mmet : Method} {mcod : Code} {mD : va_G} {f9 : fh_M} {Q9 : State → Prop} {ce sl b0 Ls ix : Nat} {xs : Nat → Int32} (X : fh_X mp l sm mm margs mmet mcod mD fhCl fhT f9 (hp []) y_LW_law.cls b_LW_law 8) (hScr : lwX sm f9 b0 Ls xs) (hst : l.stackTraces = false) (hNw : lwN sm) (hRf : 12 ≤ mR.frames) (hRl : 438 ≤ mR.locals) (hRc : ce + 5 ≤ mR.cells) (hRs : sl + 150 ≤ mR.slots) {M NG x xm m1 m2 m3 xl l1 xb y s t xr xt xg g1 g2 g3 h y1 y2 y3 y4 y5 y6 y7 y8 y9 y10 y11 y12 y13 y14 y15 y16 y17 o : Nat} (hM4 : 4 ≤ M) (hM : M ≤ 128) (hNGe : NG = 24 + M * 32 / 9) (hn : [x, xm, m1, m2, m3, xl, l1, xb, y, s, t, xr, xt, xg, g1, g2, g3, h, y1, y2, y3, y4, y5, y6, y7, y8, y9, y10, y11, y12, y13, y14, y15, y16, y17, o].Nodup) (hLs : Ls ≤ 3073) (hix : ix + 5 < Ls) {f : fh_M} (hS : lwS M NG x xm m1 m2 m3 xl l1 xb y s t xr xt xg g1 g2 g3 h y1 y2 y3 y4 y5 y6 y7 y8 y9 y10 y11 y12 y13 y14 y15 y16 y17 o f)  (kk : ∀ f, lwS M NG x xm m1 m2 m3 xl l1 xb y s t xr xt xg g1 g2 g3 h y1 y2 y3 y4 y5 y6 y7 y8 y9 y10 y11 y12 y13 y14 y15 y16 y17 o f → fh_G mp l me mR sm mm margs mbel mmet mcod mD fhCl f9 8 Q9 (ce + 5) (sl + 150) f 1292 [(4, .int (nI ix)), (3, .ref o), (2, .ref h), (1, .ref x), (0, .ref b0)] []) : fh_G mp l me mR sm mm margs mbel mmet mcod mD fhCl f9 8 Q9 (ce) (sl) f 276 [(4, .int (nI ix)), (3, .ref o), (2, .ref h), (1, .ref x), (0, .ref b0)] [] := by
  refine lwS_elim (C9 := fun f => fh_G mp l me mR sm mm margs mbel mmet mcod mD fhCl f9 8 Q9 (ce) (sl) f 276 [(4, .int (nI ix)), (3, .ref o), (2, .ref h), (1, .ref x), (0, .ref b0)] []) hS (fun K z V n L u D S T tb c ps bd w sv la le lk ls lw rt rb ra rft rk rs rv rf tq ti P GK Gz GV Gn th pa lc fb ek ev el fn js ib Xt lv en mn fl bk FK FV Fz J pk O hn24 hs hz hu hL hD hc16 hP hI hB hX hPd => ?_)
  show fh_G mp l me mR sm mm margs mbel mmet mcod mD fhCl f9 8 Q9 (ce) (sl) (fh_ov (hp [(x, .inr (5, [.ref xm, .ref xl, .ref xb, .ref xr, .ref xt, .int (nI c), .ref xg, .long sv, .int ps, .int bd])), (xm, .inr (2, [.ref m1, .ref m2, .ref m3, .int (nI n)])), (m1, .inl (.long, 24, .inr (.inl K))), (m2, .inl (.int, 24, .inl (fun q => nI (z q)))), (m3, .inl (.long, 24, .inr (.inl V))), (xl, .inr (1, [.ref l1, .int (nI u), .int (nI la), .int (nI le), .long lk, .int (nI ls), .long lw])), (l1, .inl (.byte, 1024, .inl (fun q => sb_b (L q)))), (xb, .inr (0, [.ref y, .ref s, .ref t, .int w])), (y, .inl (.byte, M * 32, .inl (fun q => sb_b (D q)))), (s, .inl (.int, M, .inl S)), (t, .inl (.int, M, .inl T)), (xr, .inr (4, [.ref xb, rt, .int (nI (b2n rb)), .int (nI ra), .int rft, .long rk, .int (nI rs), .long rv])), (xt, .inl (.object "RunStore$Table", 16, .inr (.inr (.inr (.inr rf))))), (xg, .inr (2, [.ref g1, .ref g2, .ref g3, .int (nI Gn)])), (g1, .inl (.long, NG, .inr (.inl GK))), (g2, .inl (.int, NG, .inl (fun q => nI (Gz q)))), (g3, .inl (.long, NG, .inr (.inl GV))), (h, .inr (6, [.int th, .int (nI M), .int (nI n), .ref y1, .ref y2, .ref y3, .int (nI u), .ref y4, .ref y5, .ref y6, .ref y7, .int (nI c), .ref y8, .ref y9, .ref y10, .ref y11, .ref y12, .int bd, .int w, .int ps, .int (nI pa), .int lc, .int (nI (b2n fb)), .long ek, .long ev, .int (nI el), .int (nI fn), .ref y13, .ref y14, .ref y15, .ref y16, .int (nI js), .ref y17, .int (nI (b2n ib))])), (y1, .inl (.long, 25, .inr (.inl K))), (y2, .inl (.long, 25, .inr (.inl V))), (y3, .inl (.int, 25, .inl (fun q => nI (z q)))), (y4, .inl (.int, 1024, .inl (fun q => nI (L q)))), (y5, .inl (.int, 4096, .inl (fun q => nI (D q)))), (y6, .inl (.int, 128, .inl S)), (y7, .inl (.boolean, 128, .inl Xt)), (y8, .inl (.int, 17, .inl (fun q => nI (lv q)))), (y9, .inl (.int, 17, .inl (fun q => nI (en q)))), (y10, .inl (.int, 17, .inl (fun q => nI (mn q)))), (y11, .inl (.int, 2176, .inl (fun q => nI (bk q)))), (y12, .inl (.long, 17, .inr (.inl fl))), (y13, .inl (.long, 500, .inr (.inl FK))), (y14, .inl (.long, 500, .inr (.inl FV))), (y15, .inl (.int, 500, .inl (fun q => nI (Fz q)))), (y16, .inl (.int, 4200, .inl (fun q => nI (J q)))), (y17, .inl (.int, 128, .inl (fun q => nI (pk q)))), (o, .inl (.long, 1, .inr (.inl O)))]) P) 276 [(4, .int (nI ix)), (3, .ref o), (2, .ref h), (1, .ref x), (0, .ref b0)] []
  have hnh : [h].Nodup := nd_pick [x, xm, m1, m2, m3, xl, l1, xb, y, s, t, xr, xt, xg, g1, g2, g3, h, y1, y2, y3, y4, y5, y6, y7, y8, y9, y10, y11, y12, y13, y14, y15, y16, y17, o] [17] 36 hn (by decide) rfl (by decide)
  have hnm : [h, y1, y2, y3, y4].Nodup := nd_pick [x, xm, m1, m2, m3, xl, l1, xb, y, s, t, xr, xt, xg, g1, g2, g3, h, y1, y2, y3, y4, y5, y6, y7, y8, y9, y10, y11, y12, y13, y14, y15, y16, y17, o] [17, 18, 19, 20, 21] 36 hn (by decide) rfl (by decide)
  obtain ⟨k, h_k⟩ : ∃ k, lg2 (xs (ix + 1)) (xs (ix + 2)) = k := ⟨_, rfl⟩
  cases hr9 : hrm K n u k 255 with
  | false =>
    have hn9 : [x, xm, m1, m2, m3, xl, l1, o].Nodup := nd_pick [x, xm, m1, m2, m3, xl, l1, xb, y, s, t, xr, xt, xg, g1, g2, g3, h, y1, y2, y3, y4, y5, y6, y7, y8, y9, y10, y11, y12, y13, y14, y15, y16, y17, o] [0, 1, 2, 3, 4, 5, 6, 35] 36 hn (by decide) rfl (by decide)
    refine g_aload_n X d_LW_law_276 3 rfl ?_
    refine g_aload_n X d_LW_law_277 4 rfl ?_
    refine g_iload X d_LW_law_278 0 rfl ?_
    refine g_iconst (nI 1) X d_LW_law_280 (by decide) ?_
    refine g_iadd X d_LW_law_281 ?_
    refine g_vi (nI (ix + 1)) (nI_add _ _) ?_
    refine s_iald X hScr d_LW_law_282 (by omega) (by omega) ?_
    refine g_i2l X d_LW_law_283 ?_
    refine g_bipush (nI 32) X d_LW_law_284 (by decide) ?_
    refine g_lshl X d_LW_law_286 ?_
    refine g_aload_n X d_LW_law_287 4 rfl ?_
    refine g_iload X d_LW_law_288 0 rfl ?_
    refine g_iconst (nI 2) X d_LW_law_290 (by decide) ?_
    refine g_iadd X d_LW_law_291 ?_
    refine g_vi (nI (ix + 2)) (nI_add _ _) ?_
    refine s_iald X hScr d_LW_law_292 (by omega) (by omega) ?_
    refine g_i2l X d_LW_law_293 ?_
    refine g_ldc2 X d_LW_law_294 k_ct_LW_79 ?_
    refine g_land X d_LW_law_297 ?_
    refine g_lor X d_LW_law_298 ?_
    refine g_vl k (h_k) ?_
    refine g_aload_n X d_LW_law_299 1 rfl ?_
    refine g_callSW (As := [.ref x, .long k, .ref o]) (st := []) X d_LW_law_300 (c_LW_drop_no hst hs hn24 hL hu hn9 (hrm_f hr9)) lwN_s hNw rfl k_ml_LW_88 k_cd_LW_drop k_in_LW k_st_LW_drop ⟨by decide +kernel, by decide +kernel, (by decide +kernel : (parseMethodDescriptor "(LRunStore;J[J)I").map (fun d => d.parameters.length) = some 3)⟩ ⟨by omega, by omega⟩ ⟨by omega, by omega⟩ (Nat.le_of_ble_eq_true rfl) (hg_ov hn [0, 1, 2, 3, 4, 5, 6, 35] rfl) hrx_0 (fun E g9 h => by obtain ⟨hv9, hg9⟩ := h; cases hv9) (fun v9 g9 hq hfr => ?_)
    obtain ⟨hv9, hg9⟩ := hq
    cases hv9
    subst hg9
    refine g_ovP [0, 1, 2, 3, 4, 5, 6, 35] [(x, .inr (5, [.ref xm, .ref xl, .ref xb, .ref xr, .ref xt, .int (nI c), .ref xg, .long sv, .int ps, .int bd])), (xm, .inr (2, [.ref m1, .ref m2, .ref m3, .int (nI n)])), (m1, .inl (.long, 24, .inr (.inl K))), (m2, .inl (.int, 24, .inl (fun q => nI (z q)))), (m3, .inl (.long, 24, .inr (.inl V))), (xl, .inr (1, [.ref l1, .int (nI u), .int (nI la), .int (nI le), .long lk, .int (nI ls), .long lw])), (l1, .inl (.byte, 1024, .inl (fun q => sb_b (L q)))), (xb, .inr (0, [.ref y, .ref s, .ref t, .int w])), (y, .inl (.byte, M * 32, .inl (fun q => sb_b (D q)))), (s, .inl (.int, M, .inl S)), (t, .inl (.int, M, .inl T)), (xr, .inr (4, [.ref xb, rt, .int (nI (b2n rb)), .int (nI ra), .int rft, .long rk, .int (nI rs), .long rv])), (xt, .inl (.object "RunStore$Table", 16, .inr (.inr (.inr (.inr rf))))), (xg, .inr (2, [.ref g1, .ref g2, .ref g3, .int (nI Gn)])), (g1, .inl (.long, NG, .inr (.inl GK))), (g2, .inl (.int, NG, .inl (fun q => nI (Gz q)))), (g3, .inl (.long, NG, .inr (.inl GV))), (h, .inr (6, [.int th, .int (nI M), .int (nI n), .ref y1, .ref y2, .ref y3, .int (nI u), .ref y4, .ref y5, .ref y6, .ref y7, .int (nI c), .ref y8, .ref y9, .ref y10, .ref y11, .ref y12, .int bd, .int w, .int ps, .int (nI pa), .int lc, .int (nI (b2n fb)), .long ek, .long ev, .int (nI el), .int (nI fn), .ref y13, .ref y14, .ref y15, .ref y16, .int (nI js), .ref y17, .int (nI (b2n ib))])), (y1, .inl (.long, 25, .inr (.inl K))), (y2, .inl (.long, 25, .inr (.inl V))), (y3, .inl (.int, 25, .inl (fun q => nI (z q)))), (y4, .inl (.int, 1024, .inl (fun q => nI (L q)))), (y5, .inl (.int, 4096, .inl (fun q => nI (D q)))), (y6, .inl (.int, 128, .inl S)), (y7, .inl (.boolean, 128, .inl Xt)), (y8, .inl (.int, 17, .inl (fun q => nI (lv q)))), (y9, .inl (.int, 17, .inl (fun q => nI (en q)))), (y10, .inl (.int, 17, .inl (fun q => nI (mn q)))), (y11, .inl (.int, 2176, .inl (fun q => nI (bk q)))), (y12, .inl (.long, 17, .inr (.inl fl))), (y13, .inl (.long, 500, .inr (.inl FK))), (y14, .inl (.long, 500, .inr (.inl FV))), (y15, .inl (.int, 500, .inl (fun q => nI (Fz q)))), (y16, .inl (.int, 4200, .inl (fun q => nI (J q)))), (y17, .inl (.int, 128, .inl (fun q => nI (pk q)))), (o, .inl (.long, 1, .inr (.inl O)))] rfl rfl hn ?_
    refine g_istore [(5, .int (nI 1)), (4, .int (nI ix)), (3, .ref o), (2, .ref h), (1, .ref x), (0, .ref b0)] X d_LW_law_303 (by decide) rfl ?_
    refine g_aload_n X d_LW_law_305 3 rfl ?_
    refine g_aload_n X d_LW_law_306 5 rfl ?_
    refine g_iload X d_LW_law_307 1 rfl ?_
    refine g_iconst (nI 1) X d_LW_law_309 (by decide) ?_
    refine g_iadd X d_LW_law_310 ?_
    refine g_vi (nI (ix + 1)) (nI_add _ _) ?_
    refine s_iald X hScr d_LW_law_311 (by omega) (by omega) ?_
    refine g_i2l X d_LW_law_312 ?_
    refine g_bipush (nI 32) X d_LW_law_313 (by decide) ?_
    refine g_lshl X d_LW_law_315 ?_
    refine g_aload_n X d_LW_law_316 5 rfl ?_
    refine g_iload X d_LW_law_317 1 rfl ?_
    refine g_iconst (nI 2) X d_LW_law_319 (by decide) ?_
    refine g_iadd X d_LW_law_320 ?_
    refine g_vi (nI (ix + 2)) (nI_add _ _) ?_
    refine s_iald X hScr d_LW_law_321 (by omega) (by omega) ?_
    refine g_i2l X d_LW_law_322 ?_
    refine g_ldc2 X d_LW_law_323 k_ct_LW_79 ?_
    refine g_land X d_LW_law_326 ?_
    refine g_lor X d_LW_law_327 ?_
    refine g_vl k (h_k) ?_
    refine g_callVf (As := [.long k]) (st := []) X d_LW_law_328 (c_MD_drop_no hst hnm hu hn24 hr9) (hl_ov 17 rfl hn) rfl rfl k_ml_LW_91 k_cd_MD_drop k_in_MD k_im_MD_drop k_se_MD_drop ⟨by decide +kernel, by decide +kernel, (by decide +kernel : (parseMethodDescriptor "(J)I").map (fun d => d.parameters.length) = some 1)⟩ ⟨by omega, by omega⟩ ⟨by omega, by omega⟩ (Nat.le_of_ble_eq_true rfl) (hg_ov hn [17, 18, 19, 20, 21] rfl) hrx_0 (fun E g9 h => by obtain ⟨hv9, hg9⟩ := h; cases hv9) (fun v9 g9 hq hfr => ?_)
    obtain ⟨hv9, hg9⟩ := hq
    cases hv9
    subst hg9
    refine g_ovP [17, 18, 19, 20, 21] [(x, .inr (5, [.ref xm, .ref xl, .ref xb, .ref xr, .ref xt, .int (nI c), .ref xg, .long sv, .int ps, .int bd])), (xm, .inr (2, [.ref m1, .ref m2, .ref m3, .int (nI n)])), (m1, .inl (.long, 24, .inr (.inl K))), (m2, .inl (.int, 24, .inl (fun q => nI (z q)))), (m3, .inl (.long, 24, .inr (.inl V))), (xl, .inr (1, [.ref l1, .int (nI u), .int (nI la), .int (nI le), .long lk, .int (nI ls), .long lw])), (l1, .inl (.byte, 1024, .inl (fun q => sb_b (L q)))), (xb, .inr (0, [.ref y, .ref s, .ref t, .int w])), (y, .inl (.byte, M * 32, .inl (fun q => sb_b (D q)))), (s, .inl (.int, M, .inl S)), (t, .inl (.int, M, .inl T)), (xr, .inr (4, [.ref xb, rt, .int (nI (b2n rb)), .int (nI ra), .int rft, .long rk, .int (nI rs), .long rv])), (xt, .inl (.object "RunStore$Table", 16, .inr (.inr (.inr (.inr rf))))), (xg, .inr (2, [.ref g1, .ref g2, .ref g3, .int (nI Gn)])), (g1, .inl (.long, NG, .inr (.inl GK))), (g2, .inl (.int, NG, .inl (fun q => nI (Gz q)))), (g3, .inl (.long, NG, .inr (.inl GV))), (h, .inr (6, [.int (nI 1), .int (nI M), .int (nI n), .ref y1, .ref y2, .ref y3, .int (nI u), .ref y4, .ref y5, .ref y6, .ref y7, .int (nI c), .ref y8, .ref y9, .ref y10, .ref y11, .ref y12, .int bd, .int w, .int ps, .int (nI pa), .int lc, .int (nI (b2n fb)), .long ek, .long ev, .int (nI el), .int (nI fn), .ref y13, .ref y14, .ref y15, .ref y16, .int (nI js), .ref y17, .int (nI (b2n ib))])), (y1, .inl (.long, 25, .inr (.inl K))), (y2, .inl (.long, 25, .inr (.inl V))), (y3, .inl (.int, 25, .inl (fun q => nI (z q)))), (y4, .inl (.int, 1024, .inl (fun q => nI (L q)))), (y5, .inl (.int, 4096, .inl (fun q => nI (D q)))), (y6, .inl (.int, 128, .inl S)), (y7, .inl (.boolean, 128, .inl Xt)), (y8, .inl (.int, 17, .inl (fun q => nI (lv q)))), (y9, .inl (.int, 17, .inl (fun q => nI (en q)))), (y10, .inl (.int, 17, .inl (fun q => nI (mn q)))), (y11, .inl (.int, 2176, .inl (fun q => nI (bk q)))), (y12, .inl (.long, 17, .inr (.inl fl))), (y13, .inl (.long, 500, .inr (.inl FK))), (y14, .inl (.long, 500, .inr (.inl FV))), (y15, .inl (.int, 500, .inl (fun q => nI (Fz q)))), (y16, .inl (.int, 4200, .inl (fun q => nI (J q)))), (y17, .inl (.int, 128, .inl (fun q => nI (pk q)))), (o, .inl (.long, 1, .inr (.inl O)))] rfl rfl hn ?_
    refine g_istore [(6, .int (nI 0)), (5, .int (nI 1)), (4, .int (nI ix)), (3, .ref o), (2, .ref h), (1, .ref x), (0, .ref b0)] X d_LW_law_331 (by decide) rfl ?_
    refine g_aload_n X d_LW_law_333 4 rfl ?_
    refine g_callVf (As := []) (st := []) X d_LW_law_334 (c_MD_thrown hst hnh) (hl_ov 17 rfl hn) rfl rfl k_ml_LW_85 k_cd_MD_thrown k_in_MD k_im_MD_thrown k_se_MD_thrown ⟨by decide +kernel, by decide +kernel, (by decide +kernel : (parseMethodDescriptor "()I").map (fun d => d.parameters.length) = some 0)⟩ ⟨by omega, by omega⟩ ⟨by omega, by omega⟩ (Nat.le_of_ble_eq_true rfl) (hg_ov hn [17] rfl) hrx_0 (fun E g9 h => by obtain ⟨hv9, hg9⟩ := h; cases hv9) (fun v9 g9 hq hfr => ?_)
    obtain ⟨hv9, hg9⟩ := hq
    cases hv9
    subst hg9
    refine g_ovP [17] [(x, .inr (5, [.ref xm, .ref xl, .ref xb, .ref xr, .ref xt, .int (nI c), .ref xg, .long sv, .int ps, .int bd])), (xm, .inr (2, [.ref m1, .ref m2, .ref m3, .int (nI n)])), (m1, .inl (.long, 24, .inr (.inl K))), (m2, .inl (.int, 24, .inl (fun q => nI (z q)))), (m3, .inl (.long, 24, .inr (.inl V))), (xl, .inr (1, [.ref l1, .int (nI u), .int (nI la), .int (nI le), .long lk, .int (nI ls), .long lw])), (l1, .inl (.byte, 1024, .inl (fun q => sb_b (L q)))), (xb, .inr (0, [.ref y, .ref s, .ref t, .int w])), (y, .inl (.byte, M * 32, .inl (fun q => sb_b (D q)))), (s, .inl (.int, M, .inl S)), (t, .inl (.int, M, .inl T)), (xr, .inr (4, [.ref xb, rt, .int (nI (b2n rb)), .int (nI ra), .int rft, .long rk, .int (nI rs), .long rv])), (xt, .inl (.object "RunStore$Table", 16, .inr (.inr (.inr (.inr rf))))), (xg, .inr (2, [.ref g1, .ref g2, .ref g3, .int (nI Gn)])), (g1, .inl (.long, NG, .inr (.inl GK))), (g2, .inl (.int, NG, .inl (fun q => nI (Gz q)))), (g3, .inl (.long, NG, .inr (.inl GV))), (h, .inr (6, [.int (nI 1), .int (nI M), .int (nI n), .ref y1, .ref y2, .ref y3, .int (nI u), .ref y4, .ref y5, .ref y6, .ref y7, .int (nI c), .ref y8, .ref y9, .ref y10, .ref y11, .ref y12, .int bd, .int w, .int ps, .int (nI pa), .int lc, .int (nI (b2n fb)), .long ek, .long ev, .int (nI el), .int (nI fn), .ref y13, .ref y14, .ref y15, .ref y16, .int (nI js), .ref y17, .int (nI (b2n ib))])), (y1, .inl (.long, 25, .inr (.inl K))), (y2, .inl (.long, 25, .inr (.inl V))), (y3, .inl (.int, 25, .inl (fun q => nI (z q)))), (y4, .inl (.int, 1024, .inl (fun q => nI (L q)))), (y5, .inl (.int, 4096, .inl (fun q => nI (D q)))), (y6, .inl (.int, 128, .inl S)), (y7, .inl (.boolean, 128, .inl Xt)), (y8, .inl (.int, 17, .inl (fun q => nI (lv q)))), (y9, .inl (.int, 17, .inl (fun q => nI (en q)))), (y10, .inl (.int, 17, .inl (fun q => nI (mn q)))), (y11, .inl (.int, 2176, .inl (fun q => nI (bk q)))), (y12, .inl (.long, 17, .inr (.inl fl))), (y13, .inl (.long, 500, .inr (.inl FK))), (y14, .inl (.long, 500, .inr (.inl FV))), (y15, .inl (.int, 500, .inl (fun q => nI (Fz q)))), (y16, .inl (.int, 4200, .inl (fun q => nI (J q)))), (y17, .inl (.int, 128, .inl (fun q => nI (pk q)))), (o, .inl (.long, 1, .inr (.inl O)))] rfl rfl hn ?_
    refine g_iload X d_LW_law_337 1 rfl ?_
    refine g_icmp_eq 344 X d_LW_law_339 (by decide) (fun h339 => ?_) (fun h339 => ?_)
    · have h339 := cv_eq (by omega) (by omega) h339
      refine g_iload X d_LW_law_344 1 rfl ?_
      refine g_if_ne 361 X d_LW_law_346 (by decide) (fun h346 => ?_) (fun h346 => ?_)
      · have h346 := cv_n0 (by omega) h346
        refine g_goto 1292 X d_LW_law_361 (by decide) ?_
        refine g_lv [2, 3, 4, 5, 6] [(4, .int (nI ix)), (3, .ref o), (2, .ref h), (1, .ref x), (0, .ref b0)] rfl ?_
        refine g_widen (ce' := ce + 5) (sl' := sl + 150) (by omega) (by omega) ?_
        exact kk _ ⟨_, _, _, _, _, _, _, _, _, _, _, _, _, _, _, _, _, _, _, _, _, _, _, _, _, _, _, _, _, _, _, _, _, _, _, _, _, _, _, _, _, _, _, _, _, _, _, _, _, _, _, _, _, _, _, _, _, rfl, hn24, hs, hz, hu, hL, hD, hc16, hP, hI, hB, hX, hPd⟩
      · have h346 := cv_e0 (by omega) h346
        omega
    · have h339 := cv_ne (by omega) (by omega) h339
      omega
  | true =>
    have hn9 : [x, xm, m1, m2, m3, xl, l1, o].Nodup := nd_pick [x, xm, m1, m2, m3, xl, l1, xb, y, s, t, xr, xt, xg, g1, g2, g3, h, y1, y2, y3, y4, y5, y6, y7, y8, y9, y10, y11, y12, y13, y14, y15, y16, y17, o] [0, 1, 2, 3, 4, 5, 6, 35] 36 hn (by decide) rfl (by decide)
    refine g_aload_n X d_LW_law_276 3 rfl ?_
    refine g_aload_n X d_LW_law_277 4 rfl ?_
    refine g_iload X d_LW_law_278 0 rfl ?_
    refine g_iconst (nI 1) X d_LW_law_280 (by decide) ?_
    refine g_iadd X d_LW_law_281 ?_
    refine g_vi (nI (ix + 1)) (nI_add _ _) ?_
    refine s_iald X hScr d_LW_law_282 (by omega) (by omega) ?_
    refine g_i2l X d_LW_law_283 ?_
    refine g_bipush (nI 32) X d_LW_law_284 (by decide) ?_
    refine g_lshl X d_LW_law_286 ?_
    refine g_aload_n X d_LW_law_287 4 rfl ?_
    refine g_iload X d_LW_law_288 0 rfl ?_
    refine g_iconst (nI 2) X d_LW_law_290 (by decide) ?_
    refine g_iadd X d_LW_law_291 ?_
    refine g_vi (nI (ix + 2)) (nI_add _ _) ?_
    refine s_iald X hScr d_LW_law_292 (by omega) (by omega) ?_
    refine g_i2l X d_LW_law_293 ?_
    refine g_ldc2 X d_LW_law_294 k_ct_LW_79 ?_
    refine g_land X d_LW_law_297 ?_
    refine g_lor X d_LW_law_298 ?_
    refine g_vl k (h_k) ?_
    refine g_aload_n X d_LW_law_299 1 rfl ?_
    refine g_callSW (As := [.ref x, .long k, .ref o]) (st := []) X d_LW_law_300 (c_LW_drop_ok hst hs hn24 hL hu hn9 (hrm_t hr9).1 (hrm_t hr9).2) lwN_s hNw rfl k_ml_LW_88 k_cd_LW_drop k_in_LW k_st_LW_drop ⟨by decide +kernel, by decide +kernel, (by decide +kernel : (parseMethodDescriptor "(LRunStore;J[J)I").map (fun d => d.parameters.length) = some 3)⟩ ⟨by omega, by omega⟩ ⟨by omega, by omega⟩ (Nat.le_of_ble_eq_true rfl) (hg_ov hn [0, 1, 2, 3, 4, 5, 6, 35] rfl) hrx_0 (fun E g9 h => by obtain ⟨hv9, hg9⟩ := h; cases hv9) (fun v9 g9 hq hfr => ?_)
    obtain ⟨hv9, hg9⟩ := hq
    cases hv9
    subst hg9
    refine g_ovP [0, 1, 2, 3, 4, 5, 6, 35] [(x, .inr (5, [.ref xm, .ref xl, .ref xb, .ref xr, .ref xt, .int (nI c), .ref xg, .long sv, .int ps, .int bd])), (xm, .inr (2, [.ref m1, .ref m2, .ref m3, .int (nI ((stm (K, z, V, n) k 255 (0)).2.2.2))])), (m1, .inl (.long, 24, .inr (.inl ((stm (K, z, V, n) k 255 (0)).1)))), (m2, .inl (.int, 24, .inl (fun q => nI (((stm (K, z, V, n) k 255 (0)).2.1) q)))), (m3, .inl (.long, 24, .inr (.inl ((stm (K, z, V, n) k 255 (0)).2.2.1)))), (xl, .inr (1, [.ref l1, .int (nI (u + ebn 255 + 1)), .int (nI la), .int (nI le), .long lk, .int (nI ls), .long lw])), (l1, .inl (.byte, 1024, .inl (fun q => sb_b (((apB L u k 255 (0))) q)))), (xb, .inr (0, [.ref y, .ref s, .ref t, .int w])), (y, .inl (.byte, M * 32, .inl (fun q => sb_b (D q)))), (s, .inl (.int, M, .inl S)), (t, .inl (.int, M, .inl T)), (xr, .inr (4, [.ref xb, rt, .int (nI (b2n rb)), .int (nI ra), .int rft, .long rk, .int (nI rs), .long rv])), (xt, .inl (.object "RunStore$Table", 16, .inr (.inr (.inr (.inr rf))))), (xg, .inr (2, [.ref g1, .ref g2, .ref g3, .int (nI Gn)])), (g1, .inl (.long, NG, .inr (.inl GK))), (g2, .inl (.int, NG, .inl (fun q => nI (Gz q)))), (g3, .inl (.long, NG, .inr (.inl GV))), (h, .inr (6, [.int th, .int (nI M), .int (nI n), .ref y1, .ref y2, .ref y3, .int (nI u), .ref y4, .ref y5, .ref y6, .ref y7, .int (nI c), .ref y8, .ref y9, .ref y10, .ref y11, .ref y12, .int bd, .int w, .int ps, .int (nI pa), .int lc, .int (nI (b2n fb)), .long ek, .long ev, .int (nI el), .int (nI fn), .ref y13, .ref y14, .ref y15, .ref y16, .int (nI js), .ref y17, .int (nI (b2n ib))])), (y1, .inl (.long, 25, .inr (.inl K))), (y2, .inl (.long, 25, .inr (.inl V))), (y3, .inl (.int, 25, .inl (fun q => nI (z q)))), (y4, .inl (.int, 1024, .inl (fun q => nI (L q)))), (y5, .inl (.int, 4096, .inl (fun q => nI (D q)))), (y6, .inl (.int, 128, .inl S)), (y7, .inl (.boolean, 128, .inl Xt)), (y8, .inl (.int, 17, .inl (fun q => nI (lv q)))), (y9, .inl (.int, 17, .inl (fun q => nI (en q)))), (y10, .inl (.int, 17, .inl (fun q => nI (mn q)))), (y11, .inl (.int, 2176, .inl (fun q => nI (bk q)))), (y12, .inl (.long, 17, .inr (.inl fl))), (y13, .inl (.long, 500, .inr (.inl FK))), (y14, .inl (.long, 500, .inr (.inl FV))), (y15, .inl (.int, 500, .inl (fun q => nI (Fz q)))), (y16, .inl (.int, 4200, .inl (fun q => nI (J q)))), (y17, .inl (.int, 128, .inl (fun q => nI (pk q)))), (o, .inl (.long, 1, .inr (.inl (va_up O 0 ((nI (stm (K, z, V, n) k 255 0).2.2.2).toInt64)))))] rfl rfl hn ?_
    refine g_istore [(5, .int (nI 0)), (4, .int (nI ix)), (3, .ref o), (2, .ref h), (1, .ref x), (0, .ref b0)] X d_LW_law_303 (by decide) rfl ?_
    refine g_aload_n X d_LW_law_305 3 rfl ?_
    refine g_aload_n X d_LW_law_306 5 rfl ?_
    refine g_iload X d_LW_law_307 1 rfl ?_
    refine g_iconst (nI 1) X d_LW_law_309 (by decide) ?_
    refine g_iadd X d_LW_law_310 ?_
    refine g_vi (nI (ix + 1)) (nI_add _ _) ?_
    refine s_iald X hScr d_LW_law_311 (by omega) (by omega) ?_
    refine g_i2l X d_LW_law_312 ?_
    refine g_bipush (nI 32) X d_LW_law_313 (by decide) ?_
    refine g_lshl X d_LW_law_315 ?_
    refine g_aload_n X d_LW_law_316 5 rfl ?_
    refine g_iload X d_LW_law_317 1 rfl ?_
    refine g_iconst (nI 2) X d_LW_law_319 (by decide) ?_
    refine g_iadd X d_LW_law_320 ?_
    refine g_vi (nI (ix + 2)) (nI_add _ _) ?_
    refine s_iald X hScr d_LW_law_321 (by omega) (by omega) ?_
    refine g_i2l X d_LW_law_322 ?_
    refine g_ldc2 X d_LW_law_323 k_ct_LW_79 ?_
    refine g_land X d_LW_law_326 ?_
    refine g_lor X d_LW_law_327 ?_
    refine g_vl k (h_k) ?_
    refine g_callVf (As := [.long k]) (st := []) X d_LW_law_328 (c_MD_drop_ok hst hnm hu hL hn24 hr9) (hl_ov 17 rfl hn) rfl rfl k_ml_LW_91 k_cd_MD_drop k_in_MD k_im_MD_drop k_se_MD_drop ⟨by decide +kernel, by decide +kernel, (by decide +kernel : (parseMethodDescriptor "(J)I").map (fun d => d.parameters.length) = some 1)⟩ ⟨by omega, by omega⟩ ⟨by omega, by omega⟩ (Nat.le_of_ble_eq_true rfl) (hg_ov hn [17, 18, 19, 20, 21] rfl) hrx_0 (fun E g9 h => by obtain ⟨hv9, hg9⟩ := h; cases hv9) (fun v9 g9 hq hfr => ?_)
    obtain ⟨hv9, hg9⟩ := hq
    cases hv9
    subst hg9
    refine g_ovP [17, 18, 19, 20, 21] [(x, .inr (5, [.ref xm, .ref xl, .ref xb, .ref xr, .ref xt, .int (nI c), .ref xg, .long sv, .int ps, .int bd])), (xm, .inr (2, [.ref m1, .ref m2, .ref m3, .int (nI ((stm (K, z, V, n) k 255 (0)).2.2.2))])), (m1, .inl (.long, 24, .inr (.inl ((stm (K, z, V, n) k 255 (0)).1)))), (m2, .inl (.int, 24, .inl (fun q => nI (((stm (K, z, V, n) k 255 (0)).2.1) q)))), (m3, .inl (.long, 24, .inr (.inl ((stm (K, z, V, n) k 255 (0)).2.2.1)))), (xl, .inr (1, [.ref l1, .int (nI (u + ebn 255 + 1)), .int (nI la), .int (nI le), .long lk, .int (nI ls), .long lw])), (l1, .inl (.byte, 1024, .inl (fun q => sb_b (((apB L u k 255 (0))) q)))), (xb, .inr (0, [.ref y, .ref s, .ref t, .int w])), (y, .inl (.byte, M * 32, .inl (fun q => sb_b (D q)))), (s, .inl (.int, M, .inl S)), (t, .inl (.int, M, .inl T)), (xr, .inr (4, [.ref xb, rt, .int (nI (b2n rb)), .int (nI ra), .int rft, .long rk, .int (nI rs), .long rv])), (xt, .inl (.object "RunStore$Table", 16, .inr (.inr (.inr (.inr rf))))), (xg, .inr (2, [.ref g1, .ref g2, .ref g3, .int (nI Gn)])), (g1, .inl (.long, NG, .inr (.inl GK))), (g2, .inl (.int, NG, .inl (fun q => nI (Gz q)))), (g3, .inl (.long, NG, .inr (.inl GV))), (h, .inr (6, [.int (nI 0), .int (nI M), .int (nI ((stm (K, z, V, n) k 255 0).2.2.2)), .ref y1, .ref y2, .ref y3, .int (nI (u + ebn 255 + 1)), .ref y4, .ref y5, .ref y6, .ref y7, .int (nI c), .ref y8, .ref y9, .ref y10, .ref y11, .ref y12, .int bd, .int w, .int ps, .int (nI pa), .int lc, .int (nI (b2n fb)), .long ek, .long ev, .int (nI el), .int (nI fn), .ref y13, .ref y14, .ref y15, .ref y16, .int (nI js), .ref y17, .int (nI (b2n ib))])), (y1, .inl (.long, 25, .inr (.inl ((stm (K, z, V, n) k 255 0).1)))), (y2, .inl (.long, 25, .inr (.inl ((stm (K, z, V, n) k 255 0).2.2.1)))), (y3, .inl (.int, 25, .inl (fun q => nI (((stm (K, z, V, n) k 255 0).2.1) q)))), (y4, .inl (.int, 1024, .inl (fun q => nI (((apB L u k 255 0)) q)))), (y5, .inl (.int, 4096, .inl (fun q => nI (D q)))), (y6, .inl (.int, 128, .inl S)), (y7, .inl (.boolean, 128, .inl Xt)), (y8, .inl (.int, 17, .inl (fun q => nI (lv q)))), (y9, .inl (.int, 17, .inl (fun q => nI (en q)))), (y10, .inl (.int, 17, .inl (fun q => nI (mn q)))), (y11, .inl (.int, 2176, .inl (fun q => nI (bk q)))), (y12, .inl (.long, 17, .inr (.inl fl))), (y13, .inl (.long, 500, .inr (.inl FK))), (y14, .inl (.long, 500, .inr (.inl FV))), (y15, .inl (.int, 500, .inl (fun q => nI (Fz q)))), (y16, .inl (.int, 4200, .inl (fun q => nI (J q)))), (y17, .inl (.int, 128, .inl (fun q => nI (pk q)))), (o, .inl (.long, 1, .inr (.inl (va_up O 0 ((nI (stm (K, z, V, n) k 255 0).2.2.2).toInt64)))))] rfl rfl hn ?_
    refine g_istore [(6, .int (nI ((stm (K, z, V, n) k 255 0).2.2.2))), (5, .int (nI 0)), (4, .int (nI ix)), (3, .ref o), (2, .ref h), (1, .ref x), (0, .ref b0)] X d_LW_law_331 (by decide) rfl ?_
    refine g_aload_n X d_LW_law_333 4 rfl ?_
    refine g_callVf (As := []) (st := []) X d_LW_law_334 (c_MD_thrown hst hnh) (hl_ov 17 rfl hn) rfl rfl k_ml_LW_85 k_cd_MD_thrown k_in_MD k_im_MD_thrown k_se_MD_thrown ⟨by decide +kernel, by decide +kernel, (by decide +kernel : (parseMethodDescriptor "()I").map (fun d => d.parameters.length) = some 0)⟩ ⟨by omega, by omega⟩ ⟨by omega, by omega⟩ (Nat.le_of_ble_eq_true rfl) (hg_ov hn [17] rfl) hrx_0 (fun E g9 h => by obtain ⟨hv9, hg9⟩ := h; cases hv9) (fun v9 g9 hq hfr => ?_)
    obtain ⟨hv9, hg9⟩ := hq
    cases hv9
    subst hg9
    refine g_ovP [17] [(x, .inr (5, [.ref xm, .ref xl, .ref xb, .ref xr, .ref xt, .int (nI c), .ref xg, .long sv, .int ps, .int bd])), (xm, .inr (2, [.ref m1, .ref m2, .ref m3, .int (nI ((stm (K, z, V, n) k 255 (0)).2.2.2))])), (m1, .inl (.long, 24, .inr (.inl ((stm (K, z, V, n) k 255 (0)).1)))), (m2, .inl (.int, 24, .inl (fun q => nI (((stm (K, z, V, n) k 255 (0)).2.1) q)))), (m3, .inl (.long, 24, .inr (.inl ((stm (K, z, V, n) k 255 (0)).2.2.1)))), (xl, .inr (1, [.ref l1, .int (nI (u + ebn 255 + 1)), .int (nI la), .int (nI le), .long lk, .int (nI ls), .long lw])), (l1, .inl (.byte, 1024, .inl (fun q => sb_b (((apB L u k 255 (0))) q)))), (xb, .inr (0, [.ref y, .ref s, .ref t, .int w])), (y, .inl (.byte, M * 32, .inl (fun q => sb_b (D q)))), (s, .inl (.int, M, .inl S)), (t, .inl (.int, M, .inl T)), (xr, .inr (4, [.ref xb, rt, .int (nI (b2n rb)), .int (nI ra), .int rft, .long rk, .int (nI rs), .long rv])), (xt, .inl (.object "RunStore$Table", 16, .inr (.inr (.inr (.inr rf))))), (xg, .inr (2, [.ref g1, .ref g2, .ref g3, .int (nI Gn)])), (g1, .inl (.long, NG, .inr (.inl GK))), (g2, .inl (.int, NG, .inl (fun q => nI (Gz q)))), (g3, .inl (.long, NG, .inr (.inl GV))), (h, .inr (6, [.int (nI 0), .int (nI M), .int (nI ((stm (K, z, V, n) k 255 0).2.2.2)), .ref y1, .ref y2, .ref y3, .int (nI (u + ebn 255 + 1)), .ref y4, .ref y5, .ref y6, .ref y7, .int (nI c), .ref y8, .ref y9, .ref y10, .ref y11, .ref y12, .int bd, .int w, .int ps, .int (nI pa), .int lc, .int (nI (b2n fb)), .long ek, .long ev, .int (nI el), .int (nI fn), .ref y13, .ref y14, .ref y15, .ref y16, .int (nI js), .ref y17, .int (nI (b2n ib))])), (y1, .inl (.long, 25, .inr (.inl ((stm (K, z, V, n) k 255 0).1)))), (y2, .inl (.long, 25, .inr (.inl ((stm (K, z, V, n) k 255 0).2.2.1)))), (y3, .inl (.int, 25, .inl (fun q => nI (((stm (K, z, V, n) k 255 0).2.1) q)))), (y4, .inl (.int, 1024, .inl (fun q => nI (((apB L u k 255 0)) q)))), (y5, .inl (.int, 4096, .inl (fun q => nI (D q)))), (y6, .inl (.int, 128, .inl S)), (y7, .inl (.boolean, 128, .inl Xt)), (y8, .inl (.int, 17, .inl (fun q => nI (lv q)))), (y9, .inl (.int, 17, .inl (fun q => nI (en q)))), (y10, .inl (.int, 17, .inl (fun q => nI (mn q)))), (y11, .inl (.int, 2176, .inl (fun q => nI (bk q)))), (y12, .inl (.long, 17, .inr (.inl fl))), (y13, .inl (.long, 500, .inr (.inl FK))), (y14, .inl (.long, 500, .inr (.inl FV))), (y15, .inl (.int, 500, .inl (fun q => nI (Fz q)))), (y16, .inl (.int, 4200, .inl (fun q => nI (J q)))), (y17, .inl (.int, 128, .inl (fun q => nI (pk q)))), (o, .inl (.long, 1, .inr (.inl (va_up O 0 ((nI (stm (K, z, V, n) k 255 0).2.2.2).toInt64)))))] rfl rfl hn ?_
    refine g_iload X d_LW_law_337 1 rfl ?_
    refine g_icmp_eq 344 X d_LW_law_339 (by decide) (fun h339 => ?_) (fun h339 => ?_)
    · have h339 := cv_eq (by omega) (by omega) h339
      refine g_iload X d_LW_law_344 1 rfl ?_
      refine g_if_ne 361 X d_LW_law_346 (by decide) (fun h346 => ?_) (fun h346 => ?_)
      · have h346 := cv_n0 (by omega) h346
        omega
      · have h346 := cv_e0 (by omega) h346
        refine g_aload_n X d_LW_law_349 3 rfl ?_
        refine g_iconst (nI 0) X d_LW_law_350 (by decide) ?_
        refine h_lald X d_LW_law_351 (hl_ov 35 rfl hn) (by omega) (by omega) ?_
        refine g_iload X d_LW_law_352 0 rfl ?_
        refine g_i2l X d_LW_law_354 ?_
        refine g_lcmp X d_LW_law_355 ?_
        refine g_if_eq 361 X d_LW_law_356 (by decide) (fun h356 => ?_) (fun h356 => ?_)
        · have h356 := (lg_cmp_eq ((va_up O 0 ((nI (stm (K, z, V, n) k 255 0).2.2.2).toInt64)) 0) ((nI ((stm (K, z, V, n) k 255 0).2.2.2)).toInt64)).mp h356
          refine g_goto 1292 X d_LW_law_361 (by decide) ?_
          refine g_lv [2, 3, 4, 5, 6] [(4, .int (nI ix)), (3, .ref o), (2, .ref h), (1, .ref x), (0, .ref b0)] rfl ?_
          refine g_widen (ce' := ce + 5) (sl' := sl + 150) (by omega) (by omega) ?_
          exact kk _ ⟨_, _, _, _, _, _, _, _, _, _, _, _, _, _, _, _, _, _, _, _, _, _, _, _, _, _, _, _, _, _, _, _, _, _, _, _, _, _, _, _, _, _, _, _, _, _, _, _, _, _, _, _, _, _, _, _, _, rfl, stm_n hn24 hr9, (stm_ok (R := (K, z, V, n)) ⟨hs, hz⟩ (Or.inr rfl)).1, (stm_ok (R := (K, z, V, n)) ⟨hs, hz⟩ (Or.inr rfl)).2, (hrm_t hr9).2, (fun q => apB_lt hL q), hD, hc16, hP, hI, hB, hX, hPd⟩
        · have h356 := fun z8 => h356 ((lg_cmp_eq ((va_up O 0 ((nI (stm (K, z, V, n) k 255 0).2.2.2).toInt64)) 0) ((nI ((stm (K, z, V, n) k 255 0).2.2.2)).toInt64)).mpr z8)
          exact absurd (va_up_self _ _ _) h356
    · have h339 := cv_ne (by omega) (by omega) h339
      omega

set_option maxRecDepth 100000 in
set_option maxHeartbeats 4000000 in
theorem law_table {mp : Program} {l : Launch} {me : Env} {mR : Room} {sm : State} {mm : MethodId} {margs : Array Value} {mbel : List Frame} {mmet : Method} {mcod : Code} {mD : va_G} {f9 : fh_M} {Q9 : State → Prop} {ce sl b0 Ls ix : Nat} {xs : Nat → Int32} (X : fh_X mp l sm mm margs mmet mcod mD fhCl fhT f9 (hp []) y_LW_law.cls b_LW_law 8) (hScr : lwX sm f9 b0 Ls xs) (hst : l.stackTraces = false) (hNw : lwN sm) (hRf : 12 ≤ mR.frames) (hRl : 438 ≤ mR.locals) (hRc : ce + 5 ≤ mR.cells) (hRs : sl + 150 ≤ mR.slots) {M NG x xm m1 m2 m3 xl l1 xb y s t xr xt xg g1 g2 g3 h y1 y2 y3 y4 y5 y6 y7 y8 y9 y10 y11 y12 y13 y14 y15 y16 y17 o : Nat} (hM4 : 4 ≤ M) (hM : M ≤ 128) (hNGe : NG = 24 + M * 32 / 9) (hn : [x, xm, m1, m2, m3, xl, l1, xb, y, s, t, xr, xt, xg, g1, g2, g3, h, y1, y2, y3, y4, y5, y6, y7, y8, y9, y10, y11, y12, y13, y14, y15, y16, y17, o].Nodup) (hLs : Ls ≤ 3073) (hix : ix + 5 < Ls) {f : fh_M} (hS : lwS M NG x xm m1 m2 m3 xl l1 xb y s t xr xt xg g1 g2 g3 h y1 y2 y3 y4 y5 y6 y7 y8 y9 y10 y11 y12 y13 y14 y15 y16 y17 o f)  (kk : ∀ f, lwS M NG x xm m1 m2 m3 xl l1 xb y s t xr xt xg g1 g2 g3 h y1 y2 y3 y4 y5 y6 y7 y8 y9 y10 y11 y12 y13 y14 y15 y16 y17 o f → fh_G mp l me mR sm mm margs mbel mmet mcod mD fhCl f9 8 Q9 (ce + 5) (sl + 150) f 1292 [(4, .int (nI ix)), (3, .ref o), (2, .ref h), (1, .ref x), (0, .ref b0)] []) : fh_G mp l me mR sm mm margs mbel mmet mcod mD fhCl f9 8 Q9 (ce) (sl) f 833 [(4, .int (nI ix)), (3, .ref o), (2, .ref h), (1, .ref x), (0, .ref b0)] [] := by
  refine lwS_elim (C9 := fun f => fh_G mp l me mR sm mm margs mbel mmet mcod mD fhCl f9 8 Q9 (ce) (sl) f 833 [(4, .int (nI ix)), (3, .ref o), (2, .ref h), (1, .ref x), (0, .ref b0)] []) hS (fun K z V n L u D S T tb c ps bd w sv la le lk ls lw rt rb ra rft rk rs rv rf tq ti P GK Gz GV Gn th pa lc fb ek ev el fn js ib Xt lv en mn fl bk FK FV Fz J pk O hn24 hs hz hu hL hD hc16 hP hI hB hX hPd => ?_)
  show fh_G mp l me mR sm mm margs mbel mmet mcod mD fhCl f9 8 Q9 (ce) (sl) (fh_ov (hp [(x, .inr (5, [.ref xm, .ref xl, .ref xb, .ref xr, .ref xt, .int (nI c), .ref xg, .long sv, .int ps, .int bd])), (xm, .inr (2, [.ref m1, .ref m2, .ref m3, .int (nI n)])), (m1, .inl (.long, 24, .inr (.inl K))), (m2, .inl (.int, 24, .inl (fun q => nI (z q)))), (m3, .inl (.long, 24, .inr (.inl V))), (xl, .inr (1, [.ref l1, .int (nI u), .int (nI la), .int (nI le), .long lk, .int (nI ls), .long lw])), (l1, .inl (.byte, 1024, .inl (fun q => sb_b (L q)))), (xb, .inr (0, [.ref y, .ref s, .ref t, .int w])), (y, .inl (.byte, M * 32, .inl (fun q => sb_b (D q)))), (s, .inl (.int, M, .inl S)), (t, .inl (.int, M, .inl T)), (xr, .inr (4, [.ref xb, rt, .int (nI (b2n rb)), .int (nI ra), .int rft, .long rk, .int (nI rs), .long rv])), (xt, .inl (.object "RunStore$Table", 16, .inr (.inr (.inr (.inr rf))))), (xg, .inr (2, [.ref g1, .ref g2, .ref g3, .int (nI Gn)])), (g1, .inl (.long, NG, .inr (.inl GK))), (g2, .inl (.int, NG, .inl (fun q => nI (Gz q)))), (g3, .inl (.long, NG, .inr (.inl GV))), (h, .inr (6, [.int th, .int (nI M), .int (nI n), .ref y1, .ref y2, .ref y3, .int (nI u), .ref y4, .ref y5, .ref y6, .ref y7, .int (nI c), .ref y8, .ref y9, .ref y10, .ref y11, .ref y12, .int bd, .int w, .int ps, .int (nI pa), .int lc, .int (nI (b2n fb)), .long ek, .long ev, .int (nI el), .int (nI fn), .ref y13, .ref y14, .ref y15, .ref y16, .int (nI js), .ref y17, .int (nI (b2n ib))])), (y1, .inl (.long, 25, .inr (.inl K))), (y2, .inl (.long, 25, .inr (.inl V))), (y3, .inl (.int, 25, .inl (fun q => nI (z q)))), (y4, .inl (.int, 1024, .inl (fun q => nI (L q)))), (y5, .inl (.int, 4096, .inl (fun q => nI (D q)))), (y6, .inl (.int, 128, .inl S)), (y7, .inl (.boolean, 128, .inl Xt)), (y8, .inl (.int, 17, .inl (fun q => nI (lv q)))), (y9, .inl (.int, 17, .inl (fun q => nI (en q)))), (y10, .inl (.int, 17, .inl (fun q => nI (mn q)))), (y11, .inl (.int, 2176, .inl (fun q => nI (bk q)))), (y12, .inl (.long, 17, .inr (.inl fl))), (y13, .inl (.long, 500, .inr (.inl FK))), (y14, .inl (.long, 500, .inr (.inl FV))), (y15, .inl (.int, 500, .inl (fun q => nI (Fz q)))), (y16, .inl (.int, 4200, .inl (fun q => nI (J q)))), (y17, .inl (.int, 128, .inl (fun q => nI (pk q)))), (o, .inl (.long, 1, .inr (.inl O)))]) P) 833 [(4, .int (nI ix)), (3, .ref o), (2, .ref h), (1, .ref x), (0, .ref b0)] []
  have hnh : [h].Nodup := nd_pick [x, xm, m1, m2, m3, xl, l1, xb, y, s, t, xr, xt, xg, g1, g2, g3, h, y1, y2, y3, y4, y5, y6, y7, y8, y9, y10, y11, y12, y13, y14, y15, y16, y17, o] [17] 36 hn (by decide) rfl (by decide)
  have hnm : [h, y8, y9, y10, y11].Nodup := nd_pick [x, xm, m1, m2, m3, xl, l1, xb, y, s, t, xr, xt, xg, g1, g2, g3, h, y1, y2, y3, y4, y5, y6, y7, y8, y9, y10, y11, y12, y13, y14, y15, y16, y17, o] [17, 25, 26, 27, 28] 36 hn (by decide) rfl (by decide)
  rcases rng0 (xs (ix + 1)) (c := c) (by omega) with ⟨j, hj, hv⟩ | hv
  · rcases rng (xs (ix + 2)) (b := 3) (by decide) with ⟨m, hm, hw9⟩ | hw9
    · have h8 : m = 0 ∨ m = 1 ∨ m = 2 ∨ m = 3 := by omega
      rcases h8 with rfl | rfl | rfl | rfl
      · have he9 : lv j = (tb j).lv := (hB j hj).1
        have hn9 : [x, xt, o].Nodup := nd_pick [x, xm, m1, m2, m3, xl, l1, xb, y, s, t, xr, xt, xg, g1, g2, g3, h, y1, y2, y3, y4, y5, y6, y7, y8, y9, y10, y11, y12, y13, y14, y15, y16, y17, o] [0, 12, 35] 36 hn (by decide) rfl (by decide)
        refine g_aload_n X d_LW_law_833 3 rfl ?_
        refine g_aload_n X d_LW_law_834 4 rfl ?_
        refine g_iload X d_LW_law_835 0 rfl ?_
        refine g_iconst (nI 1) X d_LW_law_837 (by decide) ?_
        refine g_iadd X d_LW_law_838 ?_
        refine g_vi (nI (ix + 1)) (nI_add _ _) ?_
        refine s_iald X hScr d_LW_law_839 (by omega) (by omega) ?_
        refine g_vi (nI j) hv ?_
        refine g_aload_n X d_LW_law_840 4 rfl ?_
        refine g_iload X d_LW_law_841 0 rfl ?_
        refine g_iconst (nI 2) X d_LW_law_843 (by decide) ?_
        refine g_iadd X d_LW_law_844 ?_
        refine g_vi (nI (ix + 2)) (nI_add _ _) ?_
        refine s_iald X hScr d_LW_law_845 (by omega) (by omega) ?_
        refine g_vi (nI 0) hw9 ?_
        refine g_aload_n X d_LW_law_846 1 rfl ?_
        refine g_callSW (As := [.ref x, .int (nI j), .int (nI 0), .ref o]) (st := []) X d_LW_law_847 (c_LW_table_0 hst hn9 hP hc16 hI.1 hj) lwN_s hNw rfl k_ml_LW_113 k_cd_LW_table k_in_LW k_st_LW_table ⟨by decide +kernel, by decide +kernel, (by decide +kernel : (parseMethodDescriptor "(LRunStore;II[J)I").map (fun d => d.parameters.length) = some 4)⟩ ⟨by omega, by omega⟩ ⟨by omega, by omega⟩ (Nat.le_of_ble_eq_true rfl) (hg_ov hn [0, 12, 35] rfl) (hrx_P hn hPd [0, 12, 35] rfl) (fun E g9 h => by obtain ⟨hv9, hg9⟩ := h; cases hv9) (fun v9 g9 hq hfr => ?_)
        obtain ⟨hv9, hg9⟩ := hq
        cases hv9
        subst hg9
        refine g_ovP [0, 12, 35] [(x, .inr (5, [.ref xm, .ref xl, .ref xb, .ref xr, .ref xt, .int (nI c), .ref xg, .long sv, .int ps, .int bd])), (xm, .inr (2, [.ref m1, .ref m2, .ref m3, .int (nI n)])), (m1, .inl (.long, 24, .inr (.inl K))), (m2, .inl (.int, 24, .inl (fun q => nI (z q)))), (m3, .inl (.long, 24, .inr (.inl V))), (xl, .inr (1, [.ref l1, .int (nI u), .int (nI la), .int (nI le), .long lk, .int (nI ls), .long lw])), (l1, .inl (.byte, 1024, .inl (fun q => sb_b (L q)))), (xb, .inr (0, [.ref y, .ref s, .ref t, .int w])), (y, .inl (.byte, M * 32, .inl (fun q => sb_b (D q)))), (s, .inl (.int, M, .inl S)), (t, .inl (.int, M, .inl T)), (xr, .inr (4, [.ref xb, rt, .int (nI (b2n rb)), .int (nI ra), .int rft, .long rk, .int (nI rs), .long rv])), (xt, .inl (.object "RunStore$Table", 16, .inr (.inr (.inr (.inr rf))))), (xg, .inr (2, [.ref g1, .ref g2, .ref g3, .int (nI Gn)])), (g1, .inl (.long, NG, .inr (.inl GK))), (g2, .inl (.int, NG, .inl (fun q => nI (Gz q)))), (g3, .inl (.long, NG, .inr (.inl GV))), (h, .inr (6, [.int th, .int (nI M), .int (nI n), .ref y1, .ref y2, .ref y3, .int (nI u), .ref y4, .ref y5, .ref y6, .ref y7, .int (nI c), .ref y8, .ref y9, .ref y10, .ref y11, .ref y12, .int bd, .int w, .int ps, .int (nI pa), .int lc, .int (nI (b2n fb)), .long ek, .long ev, .int (nI el), .int (nI fn), .ref y13, .ref y14, .ref y15, .ref y16, .int (nI js), .ref y17, .int (nI (b2n ib))])), (y1, .inl (.long, 25, .inr (.inl K))), (y2, .inl (.long, 25, .inr (.inl V))), (y3, .inl (.int, 25, .inl (fun q => nI (z q)))), (y4, .inl (.int, 1024, .inl (fun q => nI (L q)))), (y5, .inl (.int, 4096, .inl (fun q => nI (D q)))), (y6, .inl (.int, 128, .inl S)), (y7, .inl (.boolean, 128, .inl Xt)), (y8, .inl (.int, 17, .inl (fun q => nI (lv q)))), (y9, .inl (.int, 17, .inl (fun q => nI (en q)))), (y10, .inl (.int, 17, .inl (fun q => nI (mn q)))), (y11, .inl (.int, 2176, .inl (fun q => nI (bk q)))), (y12, .inl (.long, 17, .inr (.inl fl))), (y13, .inl (.long, 500, .inr (.inl FK))), (y14, .inl (.long, 500, .inr (.inl FV))), (y15, .inl (.int, 500, .inl (fun q => nI (Fz q)))), (y16, .inl (.int, 4200, .inl (fun q => nI (J q)))), (y17, .inl (.int, 128, .inl (fun q => nI (pk q)))), (o, .inl (.long, 1, .inr (.inl (va_up O 0 ((nI (tb j).lv).toInt64)))))] rfl rfl hn ?_
        refine g_istore [(5, .int (nI 0)), (4, .int (nI ix)), (3, .ref o), (2, .ref h), (1, .ref x), (0, .ref b0)] X d_LW_law_850 (by decide) rfl ?_
        refine g_aload_n X d_LW_law_852 3 rfl ?_
        refine g_aload_n X d_LW_law_853 5 rfl ?_
        refine g_iload X d_LW_law_854 1 rfl ?_
        refine g_iconst (nI 1) X d_LW_law_856 (by decide) ?_
        refine g_iadd X d_LW_law_857 ?_
        refine g_vi (nI (ix + 1)) (nI_add _ _) ?_
        refine s_iald X hScr d_LW_law_858 (by omega) (by omega) ?_
        refine g_vi (nI j) hv ?_
        refine g_aload_n X d_LW_law_859 5 rfl ?_
        refine g_iload X d_LW_law_860 1 rfl ?_
        refine g_iconst (nI 2) X d_LW_law_862 (by decide) ?_
        refine g_iadd X d_LW_law_863 ?_
        refine g_vi (nI (ix + 2)) (nI_add _ _) ?_
        refine s_iald X hScr d_LW_law_864 (by omega) (by omega) ?_
        refine g_vi (nI 0) hw9 ?_
        refine g_callVf (As := [.int (nI j), .int (nI 0)]) (st := []) X d_LW_law_865 (c_MD_table_0 hst hnm hj hc16) (hl_ov 17 rfl hn) rfl rfl k_ml_LW_116 k_cd_MD_table k_in_MD k_im_MD_table k_se_MD_table ⟨by decide +kernel, by decide +kernel, (by decide +kernel : (parseMethodDescriptor "(II)I").map (fun d => d.parameters.length) = some 2)⟩ ⟨by omega, by omega⟩ ⟨by omega, by omega⟩ (Nat.le_of_ble_eq_true rfl) (hg_ov hn [17, 25, 26, 27, 28] rfl) hrx_0 (fun E g9 h => by obtain ⟨hv9, hg9⟩ := h; cases hv9) (fun v9 g9 hq hfr => ?_)
        obtain ⟨hv9, hg9⟩ := hq
        cases hv9
        subst hg9
        refine g_ovP [17, 25, 26, 27, 28] [(x, .inr (5, [.ref xm, .ref xl, .ref xb, .ref xr, .ref xt, .int (nI c), .ref xg, .long sv, .int ps, .int bd])), (xm, .inr (2, [.ref m1, .ref m2, .ref m3, .int (nI n)])), (m1, .inl (.long, 24, .inr (.inl K))), (m2, .inl (.int, 24, .inl (fun q => nI (z q)))), (m3, .inl (.long, 24, .inr (.inl V))), (xl, .inr (1, [.ref l1, .int (nI u), .int (nI la), .int (nI le), .long lk, .int (nI ls), .long lw])), (l1, .inl (.byte, 1024, .inl (fun q => sb_b (L q)))), (xb, .inr (0, [.ref y, .ref s, .ref t, .int w])), (y, .inl (.byte, M * 32, .inl (fun q => sb_b (D q)))), (s, .inl (.int, M, .inl S)), (t, .inl (.int, M, .inl T)), (xr, .inr (4, [.ref xb, rt, .int (nI (b2n rb)), .int (nI ra), .int rft, .long rk, .int (nI rs), .long rv])), (xt, .inl (.object "RunStore$Table", 16, .inr (.inr (.inr (.inr rf))))), (xg, .inr (2, [.ref g1, .ref g2, .ref g3, .int (nI Gn)])), (g1, .inl (.long, NG, .inr (.inl GK))), (g2, .inl (.int, NG, .inl (fun q => nI (Gz q)))), (g3, .inl (.long, NG, .inr (.inl GV))), (h, .inr (6, [.int (nI 0), .int (nI M), .int (nI n), .ref y1, .ref y2, .ref y3, .int (nI u), .ref y4, .ref y5, .ref y6, .ref y7, .int (nI c), .ref y8, .ref y9, .ref y10, .ref y11, .ref y12, .int bd, .int w, .int ps, .int (nI pa), .int lc, .int (nI (b2n fb)), .long ek, .long ev, .int (nI el), .int (nI fn), .ref y13, .ref y14, .ref y15, .ref y16, .int (nI js), .ref y17, .int (nI (b2n ib))])), (y1, .inl (.long, 25, .inr (.inl K))), (y2, .inl (.long, 25, .inr (.inl V))), (y3, .inl (.int, 25, .inl (fun q => nI (z q)))), (y4, .inl (.int, 1024, .inl (fun q => nI (L q)))), (y5, .inl (.int, 4096, .inl (fun q => nI (D q)))), (y6, .inl (.int, 128, .inl S)), (y7, .inl (.boolean, 128, .inl Xt)), (y8, .inl (.int, 17, .inl (fun q => nI (lv q)))), (y9, .inl (.int, 17, .inl (fun q => nI (en q)))), (y10, .inl (.int, 17, .inl (fun q => nI (mn q)))), (y11, .inl (.int, 2176, .inl (fun q => nI (bk q)))), (y12, .inl (.long, 17, .inr (.inl fl))), (y13, .inl (.long, 500, .inr (.inl FK))), (y14, .inl (.long, 500, .inr (.inl FV))), (y15, .inl (.int, 500, .inl (fun q => nI (Fz q)))), (y16, .inl (.int, 4200, .inl (fun q => nI (J q)))), (y17, .inl (.int, 128, .inl (fun q => nI (pk q)))), (o, .inl (.long, 1, .inr (.inl (va_up O 0 ((nI (tb j).lv).toInt64)))))] rfl rfl hn ?_
        refine g_istore [(6, .int (nI (lv j))), (5, .int (nI 0)), (4, .int (nI ix)), (3, .ref o), (2, .ref h), (1, .ref x), (0, .ref b0)] X d_LW_law_868 (by decide) rfl ?_
        refine g_aload_n X d_LW_law_870 4 rfl ?_
        refine g_callVf (As := []) (st := []) X d_LW_law_871 (c_MD_thrown hst hnh) (hl_ov 17 rfl hn) rfl rfl k_ml_LW_85 k_cd_MD_thrown k_in_MD k_im_MD_thrown k_se_MD_thrown ⟨by decide +kernel, by decide +kernel, (by decide +kernel : (parseMethodDescriptor "()I").map (fun d => d.parameters.length) = some 0)⟩ ⟨by omega, by omega⟩ ⟨by omega, by omega⟩ (Nat.le_of_ble_eq_true rfl) (hg_ov hn [17] rfl) hrx_0 (fun E g9 h => by obtain ⟨hv9, hg9⟩ := h; cases hv9) (fun v9 g9 hq hfr => ?_)
        obtain ⟨hv9, hg9⟩ := hq
        cases hv9
        subst hg9
        refine g_ovP [17] [(x, .inr (5, [.ref xm, .ref xl, .ref xb, .ref xr, .ref xt, .int (nI c), .ref xg, .long sv, .int ps, .int bd])), (xm, .inr (2, [.ref m1, .ref m2, .ref m3, .int (nI n)])), (m1, .inl (.long, 24, .inr (.inl K))), (m2, .inl (.int, 24, .inl (fun q => nI (z q)))), (m3, .inl (.long, 24, .inr (.inl V))), (xl, .inr (1, [.ref l1, .int (nI u), .int (nI la), .int (nI le), .long lk, .int (nI ls), .long lw])), (l1, .inl (.byte, 1024, .inl (fun q => sb_b (L q)))), (xb, .inr (0, [.ref y, .ref s, .ref t, .int w])), (y, .inl (.byte, M * 32, .inl (fun q => sb_b (D q)))), (s, .inl (.int, M, .inl S)), (t, .inl (.int, M, .inl T)), (xr, .inr (4, [.ref xb, rt, .int (nI (b2n rb)), .int (nI ra), .int rft, .long rk, .int (nI rs), .long rv])), (xt, .inl (.object "RunStore$Table", 16, .inr (.inr (.inr (.inr rf))))), (xg, .inr (2, [.ref g1, .ref g2, .ref g3, .int (nI Gn)])), (g1, .inl (.long, NG, .inr (.inl GK))), (g2, .inl (.int, NG, .inl (fun q => nI (Gz q)))), (g3, .inl (.long, NG, .inr (.inl GV))), (h, .inr (6, [.int (nI 0), .int (nI M), .int (nI n), .ref y1, .ref y2, .ref y3, .int (nI u), .ref y4, .ref y5, .ref y6, .ref y7, .int (nI c), .ref y8, .ref y9, .ref y10, .ref y11, .ref y12, .int bd, .int w, .int ps, .int (nI pa), .int lc, .int (nI (b2n fb)), .long ek, .long ev, .int (nI el), .int (nI fn), .ref y13, .ref y14, .ref y15, .ref y16, .int (nI js), .ref y17, .int (nI (b2n ib))])), (y1, .inl (.long, 25, .inr (.inl K))), (y2, .inl (.long, 25, .inr (.inl V))), (y3, .inl (.int, 25, .inl (fun q => nI (z q)))), (y4, .inl (.int, 1024, .inl (fun q => nI (L q)))), (y5, .inl (.int, 4096, .inl (fun q => nI (D q)))), (y6, .inl (.int, 128, .inl S)), (y7, .inl (.boolean, 128, .inl Xt)), (y8, .inl (.int, 17, .inl (fun q => nI (lv q)))), (y9, .inl (.int, 17, .inl (fun q => nI (en q)))), (y10, .inl (.int, 17, .inl (fun q => nI (mn q)))), (y11, .inl (.int, 2176, .inl (fun q => nI (bk q)))), (y12, .inl (.long, 17, .inr (.inl fl))), (y13, .inl (.long, 500, .inr (.inl FK))), (y14, .inl (.long, 500, .inr (.inl FV))), (y15, .inl (.int, 500, .inl (fun q => nI (Fz q)))), (y16, .inl (.int, 4200, .inl (fun q => nI (J q)))), (y17, .inl (.int, 128, .inl (fun q => nI (pk q)))), (o, .inl (.long, 1, .inr (.inl (va_up O 0 ((nI (tb j).lv).toInt64)))))] rfl rfl hn ?_
        refine g_iload X d_LW_law_874 1 rfl ?_
        refine g_icmp_eq 881 X d_LW_law_876 (by decide) (fun h876 => ?_) (fun h876 => ?_)
        · have h876 := cv_eq (by omega) (by omega) h876
          refine g_iload X d_LW_law_881 1 rfl ?_
          refine g_if_ne 898 X d_LW_law_883 (by decide) (fun h883 => ?_) (fun h883 => ?_)
          · have h883 := cv_n0 (by omega) h883
            omega
          · have h883 := cv_e0 (by omega) h883
            refine g_aload_n X d_LW_law_886 3 rfl ?_
            refine g_iconst (nI 0) X d_LW_law_887 (by decide) ?_
            refine h_lald X d_LW_law_888 (hl_ov 35 rfl hn) (by omega) (by omega) ?_
            refine g_iload X d_LW_law_889 0 rfl ?_
            refine g_i2l X d_LW_law_891 ?_
            refine g_lcmp X d_LW_law_892 ?_
            refine g_if_eq 898 X d_LW_law_893 (by decide) (fun h893 => ?_) (fun h893 => ?_)
            · have h893 := (lg_cmp_eq ((va_up O 0 ((nI (tb j).lv).toInt64)) 0) ((nI (lv j)).toInt64)).mp h893
              refine g_goto 1292 X d_LW_law_898 (by decide) ?_
              refine g_lv [2, 3, 4, 5, 6] [(4, .int (nI ix)), (3, .ref o), (2, .ref h), (1, .ref x), (0, .ref b0)] rfl ?_
              refine g_widen (ce' := ce + 5) (sl' := sl + 150) (by omega) (by omega) ?_
              exact kk _ ⟨_, _, _, _, _, _, _, _, _, _, _, _, _, _, _, _, _, _, _, _, _, _, _, _, _, _, _, _, _, _, _, _, _, _, _, _, _, _, _, _, _, _, _, _, _, _, _, _, _, _, _, _, _, _, _, _, _, rfl, hn24, hs, hz, hu, hL, hD, hc16, hP, hI, hB, hX, hPd⟩
            · have h893 := fun z8 => h893 ((lg_cmp_eq ((va_up O 0 ((nI (tb j).lv).toInt64)) 0) ((nI (lv j)).toInt64)).mpr z8)
              exact absurd (by rw [va_up_self, he9]) h893
        · have h876 := cv_ne (by omega) (by omega) h876
          omega
      · have he9 : en j = (tb j).en := (hB j hj).2.1
        have hn9 : [x, xt, o].Nodup := nd_pick [x, xm, m1, m2, m3, xl, l1, xb, y, s, t, xr, xt, xg, g1, g2, g3, h, y1, y2, y3, y4, y5, y6, y7, y8, y9, y10, y11, y12, y13, y14, y15, y16, y17, o] [0, 12, 35] 36 hn (by decide) rfl (by decide)
        refine g_aload_n X d_LW_law_833 3 rfl ?_
        refine g_aload_n X d_LW_law_834 4 rfl ?_
        refine g_iload X d_LW_law_835 0 rfl ?_
        refine g_iconst (nI 1) X d_LW_law_837 (by decide) ?_
        refine g_iadd X d_LW_law_838 ?_
        refine g_vi (nI (ix + 1)) (nI_add _ _) ?_
        refine s_iald X hScr d_LW_law_839 (by omega) (by omega) ?_
        refine g_vi (nI j) hv ?_
        refine g_aload_n X d_LW_law_840 4 rfl ?_
        refine g_iload X d_LW_law_841 0 rfl ?_
        refine g_iconst (nI 2) X d_LW_law_843 (by decide) ?_
        refine g_iadd X d_LW_law_844 ?_
        refine g_vi (nI (ix + 2)) (nI_add _ _) ?_
        refine s_iald X hScr d_LW_law_845 (by omega) (by omega) ?_
        refine g_vi (nI 1) hw9 ?_
        refine g_aload_n X d_LW_law_846 1 rfl ?_
        refine g_callSW (As := [.ref x, .int (nI j), .int (nI 1), .ref o]) (st := []) X d_LW_law_847 (c_LW_table_1 hst hn9 hP hc16 hI.1 hj) lwN_s hNw rfl k_ml_LW_113 k_cd_LW_table k_in_LW k_st_LW_table ⟨by decide +kernel, by decide +kernel, (by decide +kernel : (parseMethodDescriptor "(LRunStore;II[J)I").map (fun d => d.parameters.length) = some 4)⟩ ⟨by omega, by omega⟩ ⟨by omega, by omega⟩ (Nat.le_of_ble_eq_true rfl) (hg_ov hn [0, 12, 35] rfl) (hrx_P hn hPd [0, 12, 35] rfl) (fun E g9 h => by obtain ⟨hv9, hg9⟩ := h; cases hv9) (fun v9 g9 hq hfr => ?_)
        obtain ⟨hv9, hg9⟩ := hq
        cases hv9
        subst hg9
        refine g_ovP [0, 12, 35] [(x, .inr (5, [.ref xm, .ref xl, .ref xb, .ref xr, .ref xt, .int (nI c), .ref xg, .long sv, .int ps, .int bd])), (xm, .inr (2, [.ref m1, .ref m2, .ref m3, .int (nI n)])), (m1, .inl (.long, 24, .inr (.inl K))), (m2, .inl (.int, 24, .inl (fun q => nI (z q)))), (m3, .inl (.long, 24, .inr (.inl V))), (xl, .inr (1, [.ref l1, .int (nI u), .int (nI la), .int (nI le), .long lk, .int (nI ls), .long lw])), (l1, .inl (.byte, 1024, .inl (fun q => sb_b (L q)))), (xb, .inr (0, [.ref y, .ref s, .ref t, .int w])), (y, .inl (.byte, M * 32, .inl (fun q => sb_b (D q)))), (s, .inl (.int, M, .inl S)), (t, .inl (.int, M, .inl T)), (xr, .inr (4, [.ref xb, rt, .int (nI (b2n rb)), .int (nI ra), .int rft, .long rk, .int (nI rs), .long rv])), (xt, .inl (.object "RunStore$Table", 16, .inr (.inr (.inr (.inr rf))))), (xg, .inr (2, [.ref g1, .ref g2, .ref g3, .int (nI Gn)])), (g1, .inl (.long, NG, .inr (.inl GK))), (g2, .inl (.int, NG, .inl (fun q => nI (Gz q)))), (g3, .inl (.long, NG, .inr (.inl GV))), (h, .inr (6, [.int th, .int (nI M), .int (nI n), .ref y1, .ref y2, .ref y3, .int (nI u), .ref y4, .ref y5, .ref y6, .ref y7, .int (nI c), .ref y8, .ref y9, .ref y10, .ref y11, .ref y12, .int bd, .int w, .int ps, .int (nI pa), .int lc, .int (nI (b2n fb)), .long ek, .long ev, .int (nI el), .int (nI fn), .ref y13, .ref y14, .ref y15, .ref y16, .int (nI js), .ref y17, .int (nI (b2n ib))])), (y1, .inl (.long, 25, .inr (.inl K))), (y2, .inl (.long, 25, .inr (.inl V))), (y3, .inl (.int, 25, .inl (fun q => nI (z q)))), (y4, .inl (.int, 1024, .inl (fun q => nI (L q)))), (y5, .inl (.int, 4096, .inl (fun q => nI (D q)))), (y6, .inl (.int, 128, .inl S)), (y7, .inl (.boolean, 128, .inl Xt)), (y8, .inl (.int, 17, .inl (fun q => nI (lv q)))), (y9, .inl (.int, 17, .inl (fun q => nI (en q)))), (y10, .inl (.int, 17, .inl (fun q => nI (mn q)))), (y11, .inl (.int, 2176, .inl (fun q => nI (bk q)))), (y12, .inl (.long, 17, .inr (.inl fl))), (y13, .inl (.long, 500, .inr (.inl FK))), (y14, .inl (.long, 500, .inr (.inl FV))), (y15, .inl (.int, 500, .inl (fun q => nI (Fz q)))), (y16, .inl (.int, 4200, .inl (fun q => nI (J q)))), (y17, .inl (.int, 128, .inl (fun q => nI (pk q)))), (o, .inl (.long, 1, .inr (.inl (va_up O 0 ((nI (tb j).en).toInt64)))))] rfl rfl hn ?_
        refine g_istore [(5, .int (nI 0)), (4, .int (nI ix)), (3, .ref o), (2, .ref h), (1, .ref x), (0, .ref b0)] X d_LW_law_850 (by decide) rfl ?_
        refine g_aload_n X d_LW_law_852 3 rfl ?_
        refine g_aload_n X d_LW_law_853 5 rfl ?_
        refine g_iload X d_LW_law_854 1 rfl ?_
        refine g_iconst (nI 1) X d_LW_law_856 (by decide) ?_
        refine g_iadd X d_LW_law_857 ?_
        refine g_vi (nI (ix + 1)) (nI_add _ _) ?_
        refine s_iald X hScr d_LW_law_858 (by omega) (by omega) ?_
        refine g_vi (nI j) hv ?_
        refine g_aload_n X d_LW_law_859 5 rfl ?_
        refine g_iload X d_LW_law_860 1 rfl ?_
        refine g_iconst (nI 2) X d_LW_law_862 (by decide) ?_
        refine g_iadd X d_LW_law_863 ?_
        refine g_vi (nI (ix + 2)) (nI_add _ _) ?_
        refine s_iald X hScr d_LW_law_864 (by omega) (by omega) ?_
        refine g_vi (nI 1) hw9 ?_
        refine g_callVf (As := [.int (nI j), .int (nI 1)]) (st := []) X d_LW_law_865 (c_MD_table_1 hst hnm hj hc16) (hl_ov 17 rfl hn) rfl rfl k_ml_LW_116 k_cd_MD_table k_in_MD k_im_MD_table k_se_MD_table ⟨by decide +kernel, by decide +kernel, (by decide +kernel : (parseMethodDescriptor "(II)I").map (fun d => d.parameters.length) = some 2)⟩ ⟨by omega, by omega⟩ ⟨by omega, by omega⟩ (Nat.le_of_ble_eq_true rfl) (hg_ov hn [17, 25, 26, 27, 28] rfl) hrx_0 (fun E g9 h => by obtain ⟨hv9, hg9⟩ := h; cases hv9) (fun v9 g9 hq hfr => ?_)
        obtain ⟨hv9, hg9⟩ := hq
        cases hv9
        subst hg9
        refine g_ovP [17, 25, 26, 27, 28] [(x, .inr (5, [.ref xm, .ref xl, .ref xb, .ref xr, .ref xt, .int (nI c), .ref xg, .long sv, .int ps, .int bd])), (xm, .inr (2, [.ref m1, .ref m2, .ref m3, .int (nI n)])), (m1, .inl (.long, 24, .inr (.inl K))), (m2, .inl (.int, 24, .inl (fun q => nI (z q)))), (m3, .inl (.long, 24, .inr (.inl V))), (xl, .inr (1, [.ref l1, .int (nI u), .int (nI la), .int (nI le), .long lk, .int (nI ls), .long lw])), (l1, .inl (.byte, 1024, .inl (fun q => sb_b (L q)))), (xb, .inr (0, [.ref y, .ref s, .ref t, .int w])), (y, .inl (.byte, M * 32, .inl (fun q => sb_b (D q)))), (s, .inl (.int, M, .inl S)), (t, .inl (.int, M, .inl T)), (xr, .inr (4, [.ref xb, rt, .int (nI (b2n rb)), .int (nI ra), .int rft, .long rk, .int (nI rs), .long rv])), (xt, .inl (.object "RunStore$Table", 16, .inr (.inr (.inr (.inr rf))))), (xg, .inr (2, [.ref g1, .ref g2, .ref g3, .int (nI Gn)])), (g1, .inl (.long, NG, .inr (.inl GK))), (g2, .inl (.int, NG, .inl (fun q => nI (Gz q)))), (g3, .inl (.long, NG, .inr (.inl GV))), (h, .inr (6, [.int (nI 0), .int (nI M), .int (nI n), .ref y1, .ref y2, .ref y3, .int (nI u), .ref y4, .ref y5, .ref y6, .ref y7, .int (nI c), .ref y8, .ref y9, .ref y10, .ref y11, .ref y12, .int bd, .int w, .int ps, .int (nI pa), .int lc, .int (nI (b2n fb)), .long ek, .long ev, .int (nI el), .int (nI fn), .ref y13, .ref y14, .ref y15, .ref y16, .int (nI js), .ref y17, .int (nI (b2n ib))])), (y1, .inl (.long, 25, .inr (.inl K))), (y2, .inl (.long, 25, .inr (.inl V))), (y3, .inl (.int, 25, .inl (fun q => nI (z q)))), (y4, .inl (.int, 1024, .inl (fun q => nI (L q)))), (y5, .inl (.int, 4096, .inl (fun q => nI (D q)))), (y6, .inl (.int, 128, .inl S)), (y7, .inl (.boolean, 128, .inl Xt)), (y8, .inl (.int, 17, .inl (fun q => nI (lv q)))), (y9, .inl (.int, 17, .inl (fun q => nI (en q)))), (y10, .inl (.int, 17, .inl (fun q => nI (mn q)))), (y11, .inl (.int, 2176, .inl (fun q => nI (bk q)))), (y12, .inl (.long, 17, .inr (.inl fl))), (y13, .inl (.long, 500, .inr (.inl FK))), (y14, .inl (.long, 500, .inr (.inl FV))), (y15, .inl (.int, 500, .inl (fun q => nI (Fz q)))), (y16, .inl (.int, 4200, .inl (fun q => nI (J q)))), (y17, .inl (.int, 128, .inl (fun q => nI (pk q)))), (o, .inl (.long, 1, .inr (.inl (va_up O 0 ((nI (tb j).en).toInt64)))))] rfl rfl hn ?_
        refine g_istore [(6, .int (nI (en j))), (5, .int (nI 0)), (4, .int (nI ix)), (3, .ref o), (2, .ref h), (1, .ref x), (0, .ref b0)] X d_LW_law_868 (by decide) rfl ?_
        refine g_aload_n X d_LW_law_870 4 rfl ?_
        refine g_callVf (As := []) (st := []) X d_LW_law_871 (c_MD_thrown hst hnh) (hl_ov 17 rfl hn) rfl rfl k_ml_LW_85 k_cd_MD_thrown k_in_MD k_im_MD_thrown k_se_MD_thrown ⟨by decide +kernel, by decide +kernel, (by decide +kernel : (parseMethodDescriptor "()I").map (fun d => d.parameters.length) = some 0)⟩ ⟨by omega, by omega⟩ ⟨by omega, by omega⟩ (Nat.le_of_ble_eq_true rfl) (hg_ov hn [17] rfl) hrx_0 (fun E g9 h => by obtain ⟨hv9, hg9⟩ := h; cases hv9) (fun v9 g9 hq hfr => ?_)
        obtain ⟨hv9, hg9⟩ := hq
        cases hv9
        subst hg9
        refine g_ovP [17] [(x, .inr (5, [.ref xm, .ref xl, .ref xb, .ref xr, .ref xt, .int (nI c), .ref xg, .long sv, .int ps, .int bd])), (xm, .inr (2, [.ref m1, .ref m2, .ref m3, .int (nI n)])), (m1, .inl (.long, 24, .inr (.inl K))), (m2, .inl (.int, 24, .inl (fun q => nI (z q)))), (m3, .inl (.long, 24, .inr (.inl V))), (xl, .inr (1, [.ref l1, .int (nI u), .int (nI la), .int (nI le), .long lk, .int (nI ls), .long lw])), (l1, .inl (.byte, 1024, .inl (fun q => sb_b (L q)))), (xb, .inr (0, [.ref y, .ref s, .ref t, .int w])), (y, .inl (.byte, M * 32, .inl (fun q => sb_b (D q)))), (s, .inl (.int, M, .inl S)), (t, .inl (.int, M, .inl T)), (xr, .inr (4, [.ref xb, rt, .int (nI (b2n rb)), .int (nI ra), .int rft, .long rk, .int (nI rs), .long rv])), (xt, .inl (.object "RunStore$Table", 16, .inr (.inr (.inr (.inr rf))))), (xg, .inr (2, [.ref g1, .ref g2, .ref g3, .int (nI Gn)])), (g1, .inl (.long, NG, .inr (.inl GK))), (g2, .inl (.int, NG, .inl (fun q => nI (Gz q)))), (g3, .inl (.long, NG, .inr (.inl GV))), (h, .inr (6, [.int (nI 0), .int (nI M), .int (nI n), .ref y1, .ref y2, .ref y3, .int (nI u), .ref y4, .ref y5, .ref y6, .ref y7, .int (nI c), .ref y8, .ref y9, .ref y10, .ref y11, .ref y12, .int bd, .int w, .int ps, .int (nI pa), .int lc, .int (nI (b2n fb)), .long ek, .long ev, .int (nI el), .int (nI fn), .ref y13, .ref y14, .ref y15, .ref y16, .int (nI js), .ref y17, .int (nI (b2n ib))])), (y1, .inl (.long, 25, .inr (.inl K))), (y2, .inl (.long, 25, .inr (.inl V))), (y3, .inl (.int, 25, .inl (fun q => nI (z q)))), (y4, .inl (.int, 1024, .inl (fun q => nI (L q)))), (y5, .inl (.int, 4096, .inl (fun q => nI (D q)))), (y6, .inl (.int, 128, .inl S)), (y7, .inl (.boolean, 128, .inl Xt)), (y8, .inl (.int, 17, .inl (fun q => nI (lv q)))), (y9, .inl (.int, 17, .inl (fun q => nI (en q)))), (y10, .inl (.int, 17, .inl (fun q => nI (mn q)))), (y11, .inl (.int, 2176, .inl (fun q => nI (bk q)))), (y12, .inl (.long, 17, .inr (.inl fl))), (y13, .inl (.long, 500, .inr (.inl FK))), (y14, .inl (.long, 500, .inr (.inl FV))), (y15, .inl (.int, 500, .inl (fun q => nI (Fz q)))), (y16, .inl (.int, 4200, .inl (fun q => nI (J q)))), (y17, .inl (.int, 128, .inl (fun q => nI (pk q)))), (o, .inl (.long, 1, .inr (.inl (va_up O 0 ((nI (tb j).en).toInt64)))))] rfl rfl hn ?_
        refine g_iload X d_LW_law_874 1 rfl ?_
        refine g_icmp_eq 881 X d_LW_law_876 (by decide) (fun h876 => ?_) (fun h876 => ?_)
        · have h876 := cv_eq (by omega) (by omega) h876
          refine g_iload X d_LW_law_881 1 rfl ?_
          refine g_if_ne 898 X d_LW_law_883 (by decide) (fun h883 => ?_) (fun h883 => ?_)
          · have h883 := cv_n0 (by omega) h883
            omega
          · have h883 := cv_e0 (by omega) h883
            refine g_aload_n X d_LW_law_886 3 rfl ?_
            refine g_iconst (nI 0) X d_LW_law_887 (by decide) ?_
            refine h_lald X d_LW_law_888 (hl_ov 35 rfl hn) (by omega) (by omega) ?_
            refine g_iload X d_LW_law_889 0 rfl ?_
            refine g_i2l X d_LW_law_891 ?_
            refine g_lcmp X d_LW_law_892 ?_
            refine g_if_eq 898 X d_LW_law_893 (by decide) (fun h893 => ?_) (fun h893 => ?_)
            · have h893 := (lg_cmp_eq ((va_up O 0 ((nI (tb j).en).toInt64)) 0) ((nI (en j)).toInt64)).mp h893
              refine g_goto 1292 X d_LW_law_898 (by decide) ?_
              refine g_lv [2, 3, 4, 5, 6] [(4, .int (nI ix)), (3, .ref o), (2, .ref h), (1, .ref x), (0, .ref b0)] rfl ?_
              refine g_widen (ce' := ce + 5) (sl' := sl + 150) (by omega) (by omega) ?_
              exact kk _ ⟨_, _, _, _, _, _, _, _, _, _, _, _, _, _, _, _, _, _, _, _, _, _, _, _, _, _, _, _, _, _, _, _, _, _, _, _, _, _, _, _, _, _, _, _, _, _, _, _, _, _, _, _, _, _, _, _, _, rfl, hn24, hs, hz, hu, hL, hD, hc16, hP, hI, hB, hX, hPd⟩
            · have h893 := fun z8 => h893 ((lg_cmp_eq ((va_up O 0 ((nI (tb j).en).toInt64)) 0) ((nI (en j)).toInt64)).mpr z8)
              exact absurd (by rw [va_up_self, he9]) h893
        · have h876 := cv_ne (by omega) (by omega) h876
          omega
      · have he9 : mn j = (tb j).mn := (hB j hj).2.2.1
        have hn9 : [x, xt, o].Nodup := nd_pick [x, xm, m1, m2, m3, xl, l1, xb, y, s, t, xr, xt, xg, g1, g2, g3, h, y1, y2, y3, y4, y5, y6, y7, y8, y9, y10, y11, y12, y13, y14, y15, y16, y17, o] [0, 12, 35] 36 hn (by decide) rfl (by decide)
        refine g_aload_n X d_LW_law_833 3 rfl ?_
        refine g_aload_n X d_LW_law_834 4 rfl ?_
        refine g_iload X d_LW_law_835 0 rfl ?_
        refine g_iconst (nI 1) X d_LW_law_837 (by decide) ?_
        refine g_iadd X d_LW_law_838 ?_
        refine g_vi (nI (ix + 1)) (nI_add _ _) ?_
        refine s_iald X hScr d_LW_law_839 (by omega) (by omega) ?_
        refine g_vi (nI j) hv ?_
        refine g_aload_n X d_LW_law_840 4 rfl ?_
        refine g_iload X d_LW_law_841 0 rfl ?_
        refine g_iconst (nI 2) X d_LW_law_843 (by decide) ?_
        refine g_iadd X d_LW_law_844 ?_
        refine g_vi (nI (ix + 2)) (nI_add _ _) ?_
        refine s_iald X hScr d_LW_law_845 (by omega) (by omega) ?_
        refine g_vi (nI 2) hw9 ?_
        refine g_aload_n X d_LW_law_846 1 rfl ?_
        refine g_callSW (As := [.ref x, .int (nI j), .int (nI 2), .ref o]) (st := []) X d_LW_law_847 (c_LW_table_2 hst hn9 hP hc16 hI.1 hj) lwN_s hNw rfl k_ml_LW_113 k_cd_LW_table k_in_LW k_st_LW_table ⟨by decide +kernel, by decide +kernel, (by decide +kernel : (parseMethodDescriptor "(LRunStore;II[J)I").map (fun d => d.parameters.length) = some 4)⟩ ⟨by omega, by omega⟩ ⟨by omega, by omega⟩ (Nat.le_of_ble_eq_true rfl) (hg_ov hn [0, 12, 35] rfl) (hrx_P hn hPd [0, 12, 35] rfl) (fun E g9 h => by obtain ⟨hv9, hg9⟩ := h; cases hv9) (fun v9 g9 hq hfr => ?_)
        obtain ⟨hv9, hg9⟩ := hq
        cases hv9
        subst hg9
        refine g_ovP [0, 12, 35] [(x, .inr (5, [.ref xm, .ref xl, .ref xb, .ref xr, .ref xt, .int (nI c), .ref xg, .long sv, .int ps, .int bd])), (xm, .inr (2, [.ref m1, .ref m2, .ref m3, .int (nI n)])), (m1, .inl (.long, 24, .inr (.inl K))), (m2, .inl (.int, 24, .inl (fun q => nI (z q)))), (m3, .inl (.long, 24, .inr (.inl V))), (xl, .inr (1, [.ref l1, .int (nI u), .int (nI la), .int (nI le), .long lk, .int (nI ls), .long lw])), (l1, .inl (.byte, 1024, .inl (fun q => sb_b (L q)))), (xb, .inr (0, [.ref y, .ref s, .ref t, .int w])), (y, .inl (.byte, M * 32, .inl (fun q => sb_b (D q)))), (s, .inl (.int, M, .inl S)), (t, .inl (.int, M, .inl T)), (xr, .inr (4, [.ref xb, rt, .int (nI (b2n rb)), .int (nI ra), .int rft, .long rk, .int (nI rs), .long rv])), (xt, .inl (.object "RunStore$Table", 16, .inr (.inr (.inr (.inr rf))))), (xg, .inr (2, [.ref g1, .ref g2, .ref g3, .int (nI Gn)])), (g1, .inl (.long, NG, .inr (.inl GK))), (g2, .inl (.int, NG, .inl (fun q => nI (Gz q)))), (g3, .inl (.long, NG, .inr (.inl GV))), (h, .inr (6, [.int th, .int (nI M), .int (nI n), .ref y1, .ref y2, .ref y3, .int (nI u), .ref y4, .ref y5, .ref y6, .ref y7, .int (nI c), .ref y8, .ref y9, .ref y10, .ref y11, .ref y12, .int bd, .int w, .int ps, .int (nI pa), .int lc, .int (nI (b2n fb)), .long ek, .long ev, .int (nI el), .int (nI fn), .ref y13, .ref y14, .ref y15, .ref y16, .int (nI js), .ref y17, .int (nI (b2n ib))])), (y1, .inl (.long, 25, .inr (.inl K))), (y2, .inl (.long, 25, .inr (.inl V))), (y3, .inl (.int, 25, .inl (fun q => nI (z q)))), (y4, .inl (.int, 1024, .inl (fun q => nI (L q)))), (y5, .inl (.int, 4096, .inl (fun q => nI (D q)))), (y6, .inl (.int, 128, .inl S)), (y7, .inl (.boolean, 128, .inl Xt)), (y8, .inl (.int, 17, .inl (fun q => nI (lv q)))), (y9, .inl (.int, 17, .inl (fun q => nI (en q)))), (y10, .inl (.int, 17, .inl (fun q => nI (mn q)))), (y11, .inl (.int, 2176, .inl (fun q => nI (bk q)))), (y12, .inl (.long, 17, .inr (.inl fl))), (y13, .inl (.long, 500, .inr (.inl FK))), (y14, .inl (.long, 500, .inr (.inl FV))), (y15, .inl (.int, 500, .inl (fun q => nI (Fz q)))), (y16, .inl (.int, 4200, .inl (fun q => nI (J q)))), (y17, .inl (.int, 128, .inl (fun q => nI (pk q)))), (o, .inl (.long, 1, .inr (.inl (va_up O 0 ((nI (tb j).mn).toInt64)))))] rfl rfl hn ?_
        refine g_istore [(5, .int (nI 0)), (4, .int (nI ix)), (3, .ref o), (2, .ref h), (1, .ref x), (0, .ref b0)] X d_LW_law_850 (by decide) rfl ?_
        refine g_aload_n X d_LW_law_852 3 rfl ?_
        refine g_aload_n X d_LW_law_853 5 rfl ?_
        refine g_iload X d_LW_law_854 1 rfl ?_
        refine g_iconst (nI 1) X d_LW_law_856 (by decide) ?_
        refine g_iadd X d_LW_law_857 ?_
        refine g_vi (nI (ix + 1)) (nI_add _ _) ?_
        refine s_iald X hScr d_LW_law_858 (by omega) (by omega) ?_
        refine g_vi (nI j) hv ?_
        refine g_aload_n X d_LW_law_859 5 rfl ?_
        refine g_iload X d_LW_law_860 1 rfl ?_
        refine g_iconst (nI 2) X d_LW_law_862 (by decide) ?_
        refine g_iadd X d_LW_law_863 ?_
        refine g_vi (nI (ix + 2)) (nI_add _ _) ?_
        refine s_iald X hScr d_LW_law_864 (by omega) (by omega) ?_
        refine g_vi (nI 2) hw9 ?_
        refine g_callVf (As := [.int (nI j), .int (nI 2)]) (st := []) X d_LW_law_865 (c_MD_table_2 hst hnm hj hc16) (hl_ov 17 rfl hn) rfl rfl k_ml_LW_116 k_cd_MD_table k_in_MD k_im_MD_table k_se_MD_table ⟨by decide +kernel, by decide +kernel, (by decide +kernel : (parseMethodDescriptor "(II)I").map (fun d => d.parameters.length) = some 2)⟩ ⟨by omega, by omega⟩ ⟨by omega, by omega⟩ (Nat.le_of_ble_eq_true rfl) (hg_ov hn [17, 25, 26, 27, 28] rfl) hrx_0 (fun E g9 h => by obtain ⟨hv9, hg9⟩ := h; cases hv9) (fun v9 g9 hq hfr => ?_)
        obtain ⟨hv9, hg9⟩ := hq
        cases hv9
        subst hg9
        refine g_ovP [17, 25, 26, 27, 28] [(x, .inr (5, [.ref xm, .ref xl, .ref xb, .ref xr, .ref xt, .int (nI c), .ref xg, .long sv, .int ps, .int bd])), (xm, .inr (2, [.ref m1, .ref m2, .ref m3, .int (nI n)])), (m1, .inl (.long, 24, .inr (.inl K))), (m2, .inl (.int, 24, .inl (fun q => nI (z q)))), (m3, .inl (.long, 24, .inr (.inl V))), (xl, .inr (1, [.ref l1, .int (nI u), .int (nI la), .int (nI le), .long lk, .int (nI ls), .long lw])), (l1, .inl (.byte, 1024, .inl (fun q => sb_b (L q)))), (xb, .inr (0, [.ref y, .ref s, .ref t, .int w])), (y, .inl (.byte, M * 32, .inl (fun q => sb_b (D q)))), (s, .inl (.int, M, .inl S)), (t, .inl (.int, M, .inl T)), (xr, .inr (4, [.ref xb, rt, .int (nI (b2n rb)), .int (nI ra), .int rft, .long rk, .int (nI rs), .long rv])), (xt, .inl (.object "RunStore$Table", 16, .inr (.inr (.inr (.inr rf))))), (xg, .inr (2, [.ref g1, .ref g2, .ref g3, .int (nI Gn)])), (g1, .inl (.long, NG, .inr (.inl GK))), (g2, .inl (.int, NG, .inl (fun q => nI (Gz q)))), (g3, .inl (.long, NG, .inr (.inl GV))), (h, .inr (6, [.int (nI 0), .int (nI M), .int (nI n), .ref y1, .ref y2, .ref y3, .int (nI u), .ref y4, .ref y5, .ref y6, .ref y7, .int (nI c), .ref y8, .ref y9, .ref y10, .ref y11, .ref y12, .int bd, .int w, .int ps, .int (nI pa), .int lc, .int (nI (b2n fb)), .long ek, .long ev, .int (nI el), .int (nI fn), .ref y13, .ref y14, .ref y15, .ref y16, .int (nI js), .ref y17, .int (nI (b2n ib))])), (y1, .inl (.long, 25, .inr (.inl K))), (y2, .inl (.long, 25, .inr (.inl V))), (y3, .inl (.int, 25, .inl (fun q => nI (z q)))), (y4, .inl (.int, 1024, .inl (fun q => nI (L q)))), (y5, .inl (.int, 4096, .inl (fun q => nI (D q)))), (y6, .inl (.int, 128, .inl S)), (y7, .inl (.boolean, 128, .inl Xt)), (y8, .inl (.int, 17, .inl (fun q => nI (lv q)))), (y9, .inl (.int, 17, .inl (fun q => nI (en q)))), (y10, .inl (.int, 17, .inl (fun q => nI (mn q)))), (y11, .inl (.int, 2176, .inl (fun q => nI (bk q)))), (y12, .inl (.long, 17, .inr (.inl fl))), (y13, .inl (.long, 500, .inr (.inl FK))), (y14, .inl (.long, 500, .inr (.inl FV))), (y15, .inl (.int, 500, .inl (fun q => nI (Fz q)))), (y16, .inl (.int, 4200, .inl (fun q => nI (J q)))), (y17, .inl (.int, 128, .inl (fun q => nI (pk q)))), (o, .inl (.long, 1, .inr (.inl (va_up O 0 ((nI (tb j).mn).toInt64)))))] rfl rfl hn ?_
        refine g_istore [(6, .int (nI (mn j))), (5, .int (nI 0)), (4, .int (nI ix)), (3, .ref o), (2, .ref h), (1, .ref x), (0, .ref b0)] X d_LW_law_868 (by decide) rfl ?_
        refine g_aload_n X d_LW_law_870 4 rfl ?_
        refine g_callVf (As := []) (st := []) X d_LW_law_871 (c_MD_thrown hst hnh) (hl_ov 17 rfl hn) rfl rfl k_ml_LW_85 k_cd_MD_thrown k_in_MD k_im_MD_thrown k_se_MD_thrown ⟨by decide +kernel, by decide +kernel, (by decide +kernel : (parseMethodDescriptor "()I").map (fun d => d.parameters.length) = some 0)⟩ ⟨by omega, by omega⟩ ⟨by omega, by omega⟩ (Nat.le_of_ble_eq_true rfl) (hg_ov hn [17] rfl) hrx_0 (fun E g9 h => by obtain ⟨hv9, hg9⟩ := h; cases hv9) (fun v9 g9 hq hfr => ?_)
        obtain ⟨hv9, hg9⟩ := hq
        cases hv9
        subst hg9
        refine g_ovP [17] [(x, .inr (5, [.ref xm, .ref xl, .ref xb, .ref xr, .ref xt, .int (nI c), .ref xg, .long sv, .int ps, .int bd])), (xm, .inr (2, [.ref m1, .ref m2, .ref m3, .int (nI n)])), (m1, .inl (.long, 24, .inr (.inl K))), (m2, .inl (.int, 24, .inl (fun q => nI (z q)))), (m3, .inl (.long, 24, .inr (.inl V))), (xl, .inr (1, [.ref l1, .int (nI u), .int (nI la), .int (nI le), .long lk, .int (nI ls), .long lw])), (l1, .inl (.byte, 1024, .inl (fun q => sb_b (L q)))), (xb, .inr (0, [.ref y, .ref s, .ref t, .int w])), (y, .inl (.byte, M * 32, .inl (fun q => sb_b (D q)))), (s, .inl (.int, M, .inl S)), (t, .inl (.int, M, .inl T)), (xr, .inr (4, [.ref xb, rt, .int (nI (b2n rb)), .int (nI ra), .int rft, .long rk, .int (nI rs), .long rv])), (xt, .inl (.object "RunStore$Table", 16, .inr (.inr (.inr (.inr rf))))), (xg, .inr (2, [.ref g1, .ref g2, .ref g3, .int (nI Gn)])), (g1, .inl (.long, NG, .inr (.inl GK))), (g2, .inl (.int, NG, .inl (fun q => nI (Gz q)))), (g3, .inl (.long, NG, .inr (.inl GV))), (h, .inr (6, [.int (nI 0), .int (nI M), .int (nI n), .ref y1, .ref y2, .ref y3, .int (nI u), .ref y4, .ref y5, .ref y6, .ref y7, .int (nI c), .ref y8, .ref y9, .ref y10, .ref y11, .ref y12, .int bd, .int w, .int ps, .int (nI pa), .int lc, .int (nI (b2n fb)), .long ek, .long ev, .int (nI el), .int (nI fn), .ref y13, .ref y14, .ref y15, .ref y16, .int (nI js), .ref y17, .int (nI (b2n ib))])), (y1, .inl (.long, 25, .inr (.inl K))), (y2, .inl (.long, 25, .inr (.inl V))), (y3, .inl (.int, 25, .inl (fun q => nI (z q)))), (y4, .inl (.int, 1024, .inl (fun q => nI (L q)))), (y5, .inl (.int, 4096, .inl (fun q => nI (D q)))), (y6, .inl (.int, 128, .inl S)), (y7, .inl (.boolean, 128, .inl Xt)), (y8, .inl (.int, 17, .inl (fun q => nI (lv q)))), (y9, .inl (.int, 17, .inl (fun q => nI (en q)))), (y10, .inl (.int, 17, .inl (fun q => nI (mn q)))), (y11, .inl (.int, 2176, .inl (fun q => nI (bk q)))), (y12, .inl (.long, 17, .inr (.inl fl))), (y13, .inl (.long, 500, .inr (.inl FK))), (y14, .inl (.long, 500, .inr (.inl FV))), (y15, .inl (.int, 500, .inl (fun q => nI (Fz q)))), (y16, .inl (.int, 4200, .inl (fun q => nI (J q)))), (y17, .inl (.int, 128, .inl (fun q => nI (pk q)))), (o, .inl (.long, 1, .inr (.inl (va_up O 0 ((nI (tb j).mn).toInt64)))))] rfl rfl hn ?_
        refine g_iload X d_LW_law_874 1 rfl ?_
        refine g_icmp_eq 881 X d_LW_law_876 (by decide) (fun h876 => ?_) (fun h876 => ?_)
        · have h876 := cv_eq (by omega) (by omega) h876
          refine g_iload X d_LW_law_881 1 rfl ?_
          refine g_if_ne 898 X d_LW_law_883 (by decide) (fun h883 => ?_) (fun h883 => ?_)
          · have h883 := cv_n0 (by omega) h883
            omega
          · have h883 := cv_e0 (by omega) h883
            refine g_aload_n X d_LW_law_886 3 rfl ?_
            refine g_iconst (nI 0) X d_LW_law_887 (by decide) ?_
            refine h_lald X d_LW_law_888 (hl_ov 35 rfl hn) (by omega) (by omega) ?_
            refine g_iload X d_LW_law_889 0 rfl ?_
            refine g_i2l X d_LW_law_891 ?_
            refine g_lcmp X d_LW_law_892 ?_
            refine g_if_eq 898 X d_LW_law_893 (by decide) (fun h893 => ?_) (fun h893 => ?_)
            · have h893 := (lg_cmp_eq ((va_up O 0 ((nI (tb j).mn).toInt64)) 0) ((nI (mn j)).toInt64)).mp h893
              refine g_goto 1292 X d_LW_law_898 (by decide) ?_
              refine g_lv [2, 3, 4, 5, 6] [(4, .int (nI ix)), (3, .ref o), (2, .ref h), (1, .ref x), (0, .ref b0)] rfl ?_
              refine g_widen (ce' := ce + 5) (sl' := sl + 150) (by omega) (by omega) ?_
              exact kk _ ⟨_, _, _, _, _, _, _, _, _, _, _, _, _, _, _, _, _, _, _, _, _, _, _, _, _, _, _, _, _, _, _, _, _, _, _, _, _, _, _, _, _, _, _, _, _, _, _, _, _, _, _, _, _, _, _, _, _, rfl, hn24, hs, hz, hu, hL, hD, hc16, hP, hI, hB, hX, hPd⟩
            · have h893 := fun z8 => h893 ((lg_cmp_eq ((va_up O 0 ((nI (tb j).mn).toInt64)) 0) ((nI (mn j)).toInt64)).mpr z8)
              exact absurd (by rw [va_up_self, he9]) h893
        · have h876 := cv_ne (by omega) (by omega) h876
          omega
      · have he9 : bk (128 * j) = (tb j).id 0 := (hB j hj).2.2.2.2 0 (hI.1 j hj).1
        have hn9 : [x, xt, o].Nodup := nd_pick [x, xm, m1, m2, m3, xl, l1, xb, y, s, t, xr, xt, xg, g1, g2, g3, h, y1, y2, y3, y4, y5, y6, y7, y8, y9, y10, y11, y12, y13, y14, y15, y16, y17, o] [0, 12, 35] 36 hn (by decide) rfl (by decide)
        refine g_aload_n X d_LW_law_833 3 rfl ?_
        refine g_aload_n X d_LW_law_834 4 rfl ?_
        refine g_iload X d_LW_law_835 0 rfl ?_
        refine g_iconst (nI 1) X d_LW_law_837 (by decide) ?_
        refine g_iadd X d_LW_law_838 ?_
        refine g_vi (nI (ix + 1)) (nI_add _ _) ?_
        refine s_iald X hScr d_LW_law_839 (by omega) (by omega) ?_
        refine g_vi (nI j) hv ?_
        refine g_aload_n X d_LW_law_840 4 rfl ?_
        refine g_iload X d_LW_law_841 0 rfl ?_
        refine g_iconst (nI 2) X d_LW_law_843 (by decide) ?_
        refine g_iadd X d_LW_law_844 ?_
        refine g_vi (nI (ix + 2)) (nI_add _ _) ?_
        refine s_iald X hScr d_LW_law_845 (by omega) (by omega) ?_
        refine g_vi (nI 3) hw9 ?_
        refine g_aload_n X d_LW_law_846 1 rfl ?_
        refine g_callSW (As := [.ref x, .int (nI j), .int (nI 3), .ref o]) (st := []) X d_LW_law_847 (c_LW_table_3 hst hn9 hP hc16 hI.1 hj) lwN_s hNw rfl k_ml_LW_113 k_cd_LW_table k_in_LW k_st_LW_table ⟨by decide +kernel, by decide +kernel, (by decide +kernel : (parseMethodDescriptor "(LRunStore;II[J)I").map (fun d => d.parameters.length) = some 4)⟩ ⟨by omega, by omega⟩ ⟨by omega, by omega⟩ (Nat.le_of_ble_eq_true rfl) (hg_ov hn [0, 12, 35] rfl) (hrx_P hn hPd [0, 12, 35] rfl) (fun E g9 h => by obtain ⟨hv9, hg9⟩ := h; cases hv9) (fun v9 g9 hq hfr => ?_)
        obtain ⟨hv9, hg9⟩ := hq
        cases hv9
        subst hg9
        refine g_ovP [0, 12, 35] [(x, .inr (5, [.ref xm, .ref xl, .ref xb, .ref xr, .ref xt, .int (nI c), .ref xg, .long sv, .int ps, .int bd])), (xm, .inr (2, [.ref m1, .ref m2, .ref m3, .int (nI n)])), (m1, .inl (.long, 24, .inr (.inl K))), (m2, .inl (.int, 24, .inl (fun q => nI (z q)))), (m3, .inl (.long, 24, .inr (.inl V))), (xl, .inr (1, [.ref l1, .int (nI u), .int (nI la), .int (nI le), .long lk, .int (nI ls), .long lw])), (l1, .inl (.byte, 1024, .inl (fun q => sb_b (L q)))), (xb, .inr (0, [.ref y, .ref s, .ref t, .int w])), (y, .inl (.byte, M * 32, .inl (fun q => sb_b (D q)))), (s, .inl (.int, M, .inl S)), (t, .inl (.int, M, .inl T)), (xr, .inr (4, [.ref xb, rt, .int (nI (b2n rb)), .int (nI ra), .int rft, .long rk, .int (nI rs), .long rv])), (xt, .inl (.object "RunStore$Table", 16, .inr (.inr (.inr (.inr rf))))), (xg, .inr (2, [.ref g1, .ref g2, .ref g3, .int (nI Gn)])), (g1, .inl (.long, NG, .inr (.inl GK))), (g2, .inl (.int, NG, .inl (fun q => nI (Gz q)))), (g3, .inl (.long, NG, .inr (.inl GV))), (h, .inr (6, [.int th, .int (nI M), .int (nI n), .ref y1, .ref y2, .ref y3, .int (nI u), .ref y4, .ref y5, .ref y6, .ref y7, .int (nI c), .ref y8, .ref y9, .ref y10, .ref y11, .ref y12, .int bd, .int w, .int ps, .int (nI pa), .int lc, .int (nI (b2n fb)), .long ek, .long ev, .int (nI el), .int (nI fn), .ref y13, .ref y14, .ref y15, .ref y16, .int (nI js), .ref y17, .int (nI (b2n ib))])), (y1, .inl (.long, 25, .inr (.inl K))), (y2, .inl (.long, 25, .inr (.inl V))), (y3, .inl (.int, 25, .inl (fun q => nI (z q)))), (y4, .inl (.int, 1024, .inl (fun q => nI (L q)))), (y5, .inl (.int, 4096, .inl (fun q => nI (D q)))), (y6, .inl (.int, 128, .inl S)), (y7, .inl (.boolean, 128, .inl Xt)), (y8, .inl (.int, 17, .inl (fun q => nI (lv q)))), (y9, .inl (.int, 17, .inl (fun q => nI (en q)))), (y10, .inl (.int, 17, .inl (fun q => nI (mn q)))), (y11, .inl (.int, 2176, .inl (fun q => nI (bk q)))), (y12, .inl (.long, 17, .inr (.inl fl))), (y13, .inl (.long, 500, .inr (.inl FK))), (y14, .inl (.long, 500, .inr (.inl FV))), (y15, .inl (.int, 500, .inl (fun q => nI (Fz q)))), (y16, .inl (.int, 4200, .inl (fun q => nI (J q)))), (y17, .inl (.int, 128, .inl (fun q => nI (pk q)))), (o, .inl (.long, 1, .inr (.inl (va_up O 0 ((nI ((tb j).id 0)).toInt64)))))] rfl rfl hn ?_
        refine g_istore [(5, .int (nI 0)), (4, .int (nI ix)), (3, .ref o), (2, .ref h), (1, .ref x), (0, .ref b0)] X d_LW_law_850 (by decide) rfl ?_
        refine g_aload_n X d_LW_law_852 3 rfl ?_
        refine g_aload_n X d_LW_law_853 5 rfl ?_
        refine g_iload X d_LW_law_854 1 rfl ?_
        refine g_iconst (nI 1) X d_LW_law_856 (by decide) ?_
        refine g_iadd X d_LW_law_857 ?_
        refine g_vi (nI (ix + 1)) (nI_add _ _) ?_
        refine s_iald X hScr d_LW_law_858 (by omega) (by omega) ?_
        refine g_vi (nI j) hv ?_
        refine g_aload_n X d_LW_law_859 5 rfl ?_
        refine g_iload X d_LW_law_860 1 rfl ?_
        refine g_iconst (nI 2) X d_LW_law_862 (by decide) ?_
        refine g_iadd X d_LW_law_863 ?_
        refine g_vi (nI (ix + 2)) (nI_add _ _) ?_
        refine s_iald X hScr d_LW_law_864 (by omega) (by omega) ?_
        refine g_vi (nI 3) hw9 ?_
        refine g_callVf (As := [.int (nI j), .int (nI 3)]) (st := []) X d_LW_law_865 (c_MD_table_3 hst hnm hj hc16) (hl_ov 17 rfl hn) rfl rfl k_ml_LW_116 k_cd_MD_table k_in_MD k_im_MD_table k_se_MD_table ⟨by decide +kernel, by decide +kernel, (by decide +kernel : (parseMethodDescriptor "(II)I").map (fun d => d.parameters.length) = some 2)⟩ ⟨by omega, by omega⟩ ⟨by omega, by omega⟩ (Nat.le_of_ble_eq_true rfl) (hg_ov hn [17, 25, 26, 27, 28] rfl) hrx_0 (fun E g9 h => by obtain ⟨hv9, hg9⟩ := h; cases hv9) (fun v9 g9 hq hfr => ?_)
        obtain ⟨hv9, hg9⟩ := hq
        cases hv9
        subst hg9
        refine g_ovP [17, 25, 26, 27, 28] [(x, .inr (5, [.ref xm, .ref xl, .ref xb, .ref xr, .ref xt, .int (nI c), .ref xg, .long sv, .int ps, .int bd])), (xm, .inr (2, [.ref m1, .ref m2, .ref m3, .int (nI n)])), (m1, .inl (.long, 24, .inr (.inl K))), (m2, .inl (.int, 24, .inl (fun q => nI (z q)))), (m3, .inl (.long, 24, .inr (.inl V))), (xl, .inr (1, [.ref l1, .int (nI u), .int (nI la), .int (nI le), .long lk, .int (nI ls), .long lw])), (l1, .inl (.byte, 1024, .inl (fun q => sb_b (L q)))), (xb, .inr (0, [.ref y, .ref s, .ref t, .int w])), (y, .inl (.byte, M * 32, .inl (fun q => sb_b (D q)))), (s, .inl (.int, M, .inl S)), (t, .inl (.int, M, .inl T)), (xr, .inr (4, [.ref xb, rt, .int (nI (b2n rb)), .int (nI ra), .int rft, .long rk, .int (nI rs), .long rv])), (xt, .inl (.object "RunStore$Table", 16, .inr (.inr (.inr (.inr rf))))), (xg, .inr (2, [.ref g1, .ref g2, .ref g3, .int (nI Gn)])), (g1, .inl (.long, NG, .inr (.inl GK))), (g2, .inl (.int, NG, .inl (fun q => nI (Gz q)))), (g3, .inl (.long, NG, .inr (.inl GV))), (h, .inr (6, [.int (nI 0), .int (nI M), .int (nI n), .ref y1, .ref y2, .ref y3, .int (nI u), .ref y4, .ref y5, .ref y6, .ref y7, .int (nI c), .ref y8, .ref y9, .ref y10, .ref y11, .ref y12, .int bd, .int w, .int ps, .int (nI pa), .int lc, .int (nI (b2n fb)), .long ek, .long ev, .int (nI el), .int (nI fn), .ref y13, .ref y14, .ref y15, .ref y16, .int (nI js), .ref y17, .int (nI (b2n ib))])), (y1, .inl (.long, 25, .inr (.inl K))), (y2, .inl (.long, 25, .inr (.inl V))), (y3, .inl (.int, 25, .inl (fun q => nI (z q)))), (y4, .inl (.int, 1024, .inl (fun q => nI (L q)))), (y5, .inl (.int, 4096, .inl (fun q => nI (D q)))), (y6, .inl (.int, 128, .inl S)), (y7, .inl (.boolean, 128, .inl Xt)), (y8, .inl (.int, 17, .inl (fun q => nI (lv q)))), (y9, .inl (.int, 17, .inl (fun q => nI (en q)))), (y10, .inl (.int, 17, .inl (fun q => nI (mn q)))), (y11, .inl (.int, 2176, .inl (fun q => nI (bk q)))), (y12, .inl (.long, 17, .inr (.inl fl))), (y13, .inl (.long, 500, .inr (.inl FK))), (y14, .inl (.long, 500, .inr (.inl FV))), (y15, .inl (.int, 500, .inl (fun q => nI (Fz q)))), (y16, .inl (.int, 4200, .inl (fun q => nI (J q)))), (y17, .inl (.int, 128, .inl (fun q => nI (pk q)))), (o, .inl (.long, 1, .inr (.inl (va_up O 0 ((nI ((tb j).id 0)).toInt64)))))] rfl rfl hn ?_
        refine g_istore [(6, .int (nI (bk (128 * j)))), (5, .int (nI 0)), (4, .int (nI ix)), (3, .ref o), (2, .ref h), (1, .ref x), (0, .ref b0)] X d_LW_law_868 (by decide) rfl ?_
        refine g_aload_n X d_LW_law_870 4 rfl ?_
        refine g_callVf (As := []) (st := []) X d_LW_law_871 (c_MD_thrown hst hnh) (hl_ov 17 rfl hn) rfl rfl k_ml_LW_85 k_cd_MD_thrown k_in_MD k_im_MD_thrown k_se_MD_thrown ⟨by decide +kernel, by decide +kernel, (by decide +kernel : (parseMethodDescriptor "()I").map (fun d => d.parameters.length) = some 0)⟩ ⟨by omega, by omega⟩ ⟨by omega, by omega⟩ (Nat.le_of_ble_eq_true rfl) (hg_ov hn [17] rfl) hrx_0 (fun E g9 h => by obtain ⟨hv9, hg9⟩ := h; cases hv9) (fun v9 g9 hq hfr => ?_)
        obtain ⟨hv9, hg9⟩ := hq
        cases hv9
        subst hg9
        refine g_ovP [17] [(x, .inr (5, [.ref xm, .ref xl, .ref xb, .ref xr, .ref xt, .int (nI c), .ref xg, .long sv, .int ps, .int bd])), (xm, .inr (2, [.ref m1, .ref m2, .ref m3, .int (nI n)])), (m1, .inl (.long, 24, .inr (.inl K))), (m2, .inl (.int, 24, .inl (fun q => nI (z q)))), (m3, .inl (.long, 24, .inr (.inl V))), (xl, .inr (1, [.ref l1, .int (nI u), .int (nI la), .int (nI le), .long lk, .int (nI ls), .long lw])), (l1, .inl (.byte, 1024, .inl (fun q => sb_b (L q)))), (xb, .inr (0, [.ref y, .ref s, .ref t, .int w])), (y, .inl (.byte, M * 32, .inl (fun q => sb_b (D q)))), (s, .inl (.int, M, .inl S)), (t, .inl (.int, M, .inl T)), (xr, .inr (4, [.ref xb, rt, .int (nI (b2n rb)), .int (nI ra), .int rft, .long rk, .int (nI rs), .long rv])), (xt, .inl (.object "RunStore$Table", 16, .inr (.inr (.inr (.inr rf))))), (xg, .inr (2, [.ref g1, .ref g2, .ref g3, .int (nI Gn)])), (g1, .inl (.long, NG, .inr (.inl GK))), (g2, .inl (.int, NG, .inl (fun q => nI (Gz q)))), (g3, .inl (.long, NG, .inr (.inl GV))), (h, .inr (6, [.int (nI 0), .int (nI M), .int (nI n), .ref y1, .ref y2, .ref y3, .int (nI u), .ref y4, .ref y5, .ref y6, .ref y7, .int (nI c), .ref y8, .ref y9, .ref y10, .ref y11, .ref y12, .int bd, .int w, .int ps, .int (nI pa), .int lc, .int (nI (b2n fb)), .long ek, .long ev, .int (nI el), .int (nI fn), .ref y13, .ref y14, .ref y15, .ref y16, .int (nI js), .ref y17, .int (nI (b2n ib))])), (y1, .inl (.long, 25, .inr (.inl K))), (y2, .inl (.long, 25, .inr (.inl V))), (y3, .inl (.int, 25, .inl (fun q => nI (z q)))), (y4, .inl (.int, 1024, .inl (fun q => nI (L q)))), (y5, .inl (.int, 4096, .inl (fun q => nI (D q)))), (y6, .inl (.int, 128, .inl S)), (y7, .inl (.boolean, 128, .inl Xt)), (y8, .inl (.int, 17, .inl (fun q => nI (lv q)))), (y9, .inl (.int, 17, .inl (fun q => nI (en q)))), (y10, .inl (.int, 17, .inl (fun q => nI (mn q)))), (y11, .inl (.int, 2176, .inl (fun q => nI (bk q)))), (y12, .inl (.long, 17, .inr (.inl fl))), (y13, .inl (.long, 500, .inr (.inl FK))), (y14, .inl (.long, 500, .inr (.inl FV))), (y15, .inl (.int, 500, .inl (fun q => nI (Fz q)))), (y16, .inl (.int, 4200, .inl (fun q => nI (J q)))), (y17, .inl (.int, 128, .inl (fun q => nI (pk q)))), (o, .inl (.long, 1, .inr (.inl (va_up O 0 ((nI ((tb j).id 0)).toInt64)))))] rfl rfl hn ?_
        refine g_iload X d_LW_law_874 1 rfl ?_
        refine g_icmp_eq 881 X d_LW_law_876 (by decide) (fun h876 => ?_) (fun h876 => ?_)
        · have h876 := cv_eq (by omega) (by omega) h876
          refine g_iload X d_LW_law_881 1 rfl ?_
          refine g_if_ne 898 X d_LW_law_883 (by decide) (fun h883 => ?_) (fun h883 => ?_)
          · have h883 := cv_n0 (by omega) h883
            omega
          · have h883 := cv_e0 (by omega) h883
            refine g_aload_n X d_LW_law_886 3 rfl ?_
            refine g_iconst (nI 0) X d_LW_law_887 (by decide) ?_
            refine h_lald X d_LW_law_888 (hl_ov 35 rfl hn) (by omega) (by omega) ?_
            refine g_iload X d_LW_law_889 0 rfl ?_
            refine g_i2l X d_LW_law_891 ?_
            refine g_lcmp X d_LW_law_892 ?_
            refine g_if_eq 898 X d_LW_law_893 (by decide) (fun h893 => ?_) (fun h893 => ?_)
            · have h893 := (lg_cmp_eq ((va_up O 0 ((nI ((tb j).id 0)).toInt64)) 0) ((nI (bk (128 * j))).toInt64)).mp h893
              refine g_goto 1292 X d_LW_law_898 (by decide) ?_
              refine g_lv [2, 3, 4, 5, 6] [(4, .int (nI ix)), (3, .ref o), (2, .ref h), (1, .ref x), (0, .ref b0)] rfl ?_
              refine g_widen (ce' := ce + 5) (sl' := sl + 150) (by omega) (by omega) ?_
              exact kk _ ⟨_, _, _, _, _, _, _, _, _, _, _, _, _, _, _, _, _, _, _, _, _, _, _, _, _, _, _, _, _, _, _, _, _, _, _, _, _, _, _, _, _, _, _, _, _, _, _, _, _, _, _, _, _, _, _, _, _, rfl, hn24, hs, hz, hu, hL, hD, hc16, hP, hI, hB, hX, hPd⟩
            · have h893 := fun z8 => h893 ((lg_cmp_eq ((va_up O 0 ((nI ((tb j).id 0)).toInt64)) 0) ((nI (bk (128 * j))).toInt64)).mpr z8)
              exact absurd (by rw [va_up_self, he9]) h893
        · have h876 := cv_ne (by omega) (by omega) h876
          omega
    · have hn9 : [x, xt, o].Nodup := nd_pick [x, xm, m1, m2, m3, xl, l1, xb, y, s, t, xr, xt, xg, g1, g2, g3, h, y1, y2, y3, y4, y5, y6, y7, y8, y9, y10, y11, y12, y13, y14, y15, y16, y17, o] [0, 12, 35] 36 hn (by decide) rfl (by decide)
      refine g_aload_n X d_LW_law_833 3 rfl ?_
      refine g_aload_n X d_LW_law_834 4 rfl ?_
      refine g_iload X d_LW_law_835 0 rfl ?_
      refine g_iconst (nI 1) X d_LW_law_837 (by decide) ?_
      refine g_iadd X d_LW_law_838 ?_
      refine g_vi (nI (ix + 1)) (nI_add _ _) ?_
      refine s_iald X hScr d_LW_law_839 (by omega) (by omega) ?_
      refine g_vi (nI j) hv ?_
      refine g_aload_n X d_LW_law_840 4 rfl ?_
      refine g_iload X d_LW_law_841 0 rfl ?_
      refine g_iconst (nI 2) X d_LW_law_843 (by decide) ?_
      refine g_iadd X d_LW_law_844 ?_
      refine g_vi (nI (ix + 2)) (nI_add _ _) ?_
      refine s_iald X hScr d_LW_law_845 (by omega) (by omega) ?_
      refine g_aload_n X d_LW_law_846 1 rfl ?_
      refine g_callSW (As := [.ref x, .int (nI j), .int (xs (ix + 2)), .ref o]) (st := []) X d_LW_law_847 (c_LW_table_bad hst hn9 hP hc16 hj hw9) lwN_s hNw rfl k_ml_LW_113 k_cd_LW_table k_in_LW k_st_LW_table ⟨by decide +kernel, by decide +kernel, (by decide +kernel : (parseMethodDescriptor "(LRunStore;II[J)I").map (fun d => d.parameters.length) = some 4)⟩ ⟨by omega, by omega⟩ ⟨by omega, by omega⟩ (Nat.le_of_ble_eq_true rfl) (hg_ov hn [0, 12, 35] rfl) (hrx_P hn hPd [0, 12, 35] rfl) (fun E g9 h => by obtain ⟨hv9, hg9⟩ := h; cases hv9) (fun v9 g9 hq hfr => ?_)
      obtain ⟨hv9, hg9⟩ := hq
      cases hv9
      subst hg9
      refine g_ovP [0, 12, 35] [(x, .inr (5, [.ref xm, .ref xl, .ref xb, .ref xr, .ref xt, .int (nI c), .ref xg, .long sv, .int ps, .int bd])), (xm, .inr (2, [.ref m1, .ref m2, .ref m3, .int (nI n)])), (m1, .inl (.long, 24, .inr (.inl K))), (m2, .inl (.int, 24, .inl (fun q => nI (z q)))), (m3, .inl (.long, 24, .inr (.inl V))), (xl, .inr (1, [.ref l1, .int (nI u), .int (nI la), .int (nI le), .long lk, .int (nI ls), .long lw])), (l1, .inl (.byte, 1024, .inl (fun q => sb_b (L q)))), (xb, .inr (0, [.ref y, .ref s, .ref t, .int w])), (y, .inl (.byte, M * 32, .inl (fun q => sb_b (D q)))), (s, .inl (.int, M, .inl S)), (t, .inl (.int, M, .inl T)), (xr, .inr (4, [.ref xb, rt, .int (nI (b2n rb)), .int (nI ra), .int rft, .long rk, .int (nI rs), .long rv])), (xt, .inl (.object "RunStore$Table", 16, .inr (.inr (.inr (.inr rf))))), (xg, .inr (2, [.ref g1, .ref g2, .ref g3, .int (nI Gn)])), (g1, .inl (.long, NG, .inr (.inl GK))), (g2, .inl (.int, NG, .inl (fun q => nI (Gz q)))), (g3, .inl (.long, NG, .inr (.inl GV))), (h, .inr (6, [.int th, .int (nI M), .int (nI n), .ref y1, .ref y2, .ref y3, .int (nI u), .ref y4, .ref y5, .ref y6, .ref y7, .int (nI c), .ref y8, .ref y9, .ref y10, .ref y11, .ref y12, .int bd, .int w, .int ps, .int (nI pa), .int lc, .int (nI (b2n fb)), .long ek, .long ev, .int (nI el), .int (nI fn), .ref y13, .ref y14, .ref y15, .ref y16, .int (nI js), .ref y17, .int (nI (b2n ib))])), (y1, .inl (.long, 25, .inr (.inl K))), (y2, .inl (.long, 25, .inr (.inl V))), (y3, .inl (.int, 25, .inl (fun q => nI (z q)))), (y4, .inl (.int, 1024, .inl (fun q => nI (L q)))), (y5, .inl (.int, 4096, .inl (fun q => nI (D q)))), (y6, .inl (.int, 128, .inl S)), (y7, .inl (.boolean, 128, .inl Xt)), (y8, .inl (.int, 17, .inl (fun q => nI (lv q)))), (y9, .inl (.int, 17, .inl (fun q => nI (en q)))), (y10, .inl (.int, 17, .inl (fun q => nI (mn q)))), (y11, .inl (.int, 2176, .inl (fun q => nI (bk q)))), (y12, .inl (.long, 17, .inr (.inl fl))), (y13, .inl (.long, 500, .inr (.inl FK))), (y14, .inl (.long, 500, .inr (.inl FV))), (y15, .inl (.int, 500, .inl (fun q => nI (Fz q)))), (y16, .inl (.int, 4200, .inl (fun q => nI (J q)))), (y17, .inl (.int, 128, .inl (fun q => nI (pk q)))), (o, .inl (.long, 1, .inr (.inl O)))] rfl rfl hn ?_
      refine g_istore [(5, .int (nI 1)), (4, .int (nI ix)), (3, .ref o), (2, .ref h), (1, .ref x), (0, .ref b0)] X d_LW_law_850 (by decide) rfl ?_
      refine g_aload_n X d_LW_law_852 3 rfl ?_
      refine g_aload_n X d_LW_law_853 5 rfl ?_
      refine g_iload X d_LW_law_854 1 rfl ?_
      refine g_iconst (nI 1) X d_LW_law_856 (by decide) ?_
      refine g_iadd X d_LW_law_857 ?_
      refine g_vi (nI (ix + 1)) (nI_add _ _) ?_
      refine s_iald X hScr d_LW_law_858 (by omega) (by omega) ?_
      refine g_vi (nI j) hv ?_
      refine g_aload_n X d_LW_law_859 5 rfl ?_
      refine g_iload X d_LW_law_860 1 rfl ?_
      refine g_iconst (nI 2) X d_LW_law_862 (by decide) ?_
      refine g_iadd X d_LW_law_863 ?_
      refine g_vi (nI (ix + 2)) (nI_add _ _) ?_
      refine s_iald X hScr d_LW_law_864 (by omega) (by omega) ?_
      refine g_callVf (As := [.int (nI j), .int (xs (ix + 2))]) (st := []) X d_LW_law_865 (c_MD_table_bad hst hnm hj hw9 hc16) (hl_ov 17 rfl hn) rfl rfl k_ml_LW_116 k_cd_MD_table k_in_MD k_im_MD_table k_se_MD_table ⟨by decide +kernel, by decide +kernel, (by decide +kernel : (parseMethodDescriptor "(II)I").map (fun d => d.parameters.length) = some 2)⟩ ⟨by omega, by omega⟩ ⟨by omega, by omega⟩ (Nat.le_of_ble_eq_true rfl) (hg_ov hn [17, 25, 26, 27, 28] rfl) hrx_0 (fun E g9 h => by obtain ⟨hv9, hg9⟩ := h; cases hv9) (fun v9 g9 hq hfr => ?_)
      obtain ⟨hv9, hg9⟩ := hq
      cases hv9
      subst hg9
      refine g_ovP [17, 25, 26, 27, 28] [(x, .inr (5, [.ref xm, .ref xl, .ref xb, .ref xr, .ref xt, .int (nI c), .ref xg, .long sv, .int ps, .int bd])), (xm, .inr (2, [.ref m1, .ref m2, .ref m3, .int (nI n)])), (m1, .inl (.long, 24, .inr (.inl K))), (m2, .inl (.int, 24, .inl (fun q => nI (z q)))), (m3, .inl (.long, 24, .inr (.inl V))), (xl, .inr (1, [.ref l1, .int (nI u), .int (nI la), .int (nI le), .long lk, .int (nI ls), .long lw])), (l1, .inl (.byte, 1024, .inl (fun q => sb_b (L q)))), (xb, .inr (0, [.ref y, .ref s, .ref t, .int w])), (y, .inl (.byte, M * 32, .inl (fun q => sb_b (D q)))), (s, .inl (.int, M, .inl S)), (t, .inl (.int, M, .inl T)), (xr, .inr (4, [.ref xb, rt, .int (nI (b2n rb)), .int (nI ra), .int rft, .long rk, .int (nI rs), .long rv])), (xt, .inl (.object "RunStore$Table", 16, .inr (.inr (.inr (.inr rf))))), (xg, .inr (2, [.ref g1, .ref g2, .ref g3, .int (nI Gn)])), (g1, .inl (.long, NG, .inr (.inl GK))), (g2, .inl (.int, NG, .inl (fun q => nI (Gz q)))), (g3, .inl (.long, NG, .inr (.inl GV))), (h, .inr (6, [.int (nI 1), .int (nI M), .int (nI n), .ref y1, .ref y2, .ref y3, .int (nI u), .ref y4, .ref y5, .ref y6, .ref y7, .int (nI c), .ref y8, .ref y9, .ref y10, .ref y11, .ref y12, .int bd, .int w, .int ps, .int (nI pa), .int lc, .int (nI (b2n fb)), .long ek, .long ev, .int (nI el), .int (nI fn), .ref y13, .ref y14, .ref y15, .ref y16, .int (nI js), .ref y17, .int (nI (b2n ib))])), (y1, .inl (.long, 25, .inr (.inl K))), (y2, .inl (.long, 25, .inr (.inl V))), (y3, .inl (.int, 25, .inl (fun q => nI (z q)))), (y4, .inl (.int, 1024, .inl (fun q => nI (L q)))), (y5, .inl (.int, 4096, .inl (fun q => nI (D q)))), (y6, .inl (.int, 128, .inl S)), (y7, .inl (.boolean, 128, .inl Xt)), (y8, .inl (.int, 17, .inl (fun q => nI (lv q)))), (y9, .inl (.int, 17, .inl (fun q => nI (en q)))), (y10, .inl (.int, 17, .inl (fun q => nI (mn q)))), (y11, .inl (.int, 2176, .inl (fun q => nI (bk q)))), (y12, .inl (.long, 17, .inr (.inl fl))), (y13, .inl (.long, 500, .inr (.inl FK))), (y14, .inl (.long, 500, .inr (.inl FV))), (y15, .inl (.int, 500, .inl (fun q => nI (Fz q)))), (y16, .inl (.int, 4200, .inl (fun q => nI (J q)))), (y17, .inl (.int, 128, .inl (fun q => nI (pk q)))), (o, .inl (.long, 1, .inr (.inl O)))] rfl rfl hn ?_
      refine g_istore [(6, .int (nI 0)), (5, .int (nI 1)), (4, .int (nI ix)), (3, .ref o), (2, .ref h), (1, .ref x), (0, .ref b0)] X d_LW_law_868 (by decide) rfl ?_
      refine g_aload_n X d_LW_law_870 4 rfl ?_
      refine g_callVf (As := []) (st := []) X d_LW_law_871 (c_MD_thrown hst hnh) (hl_ov 17 rfl hn) rfl rfl k_ml_LW_85 k_cd_MD_thrown k_in_MD k_im_MD_thrown k_se_MD_thrown ⟨by decide +kernel, by decide +kernel, (by decide +kernel : (parseMethodDescriptor "()I").map (fun d => d.parameters.length) = some 0)⟩ ⟨by omega, by omega⟩ ⟨by omega, by omega⟩ (Nat.le_of_ble_eq_true rfl) (hg_ov hn [17] rfl) hrx_0 (fun E g9 h => by obtain ⟨hv9, hg9⟩ := h; cases hv9) (fun v9 g9 hq hfr => ?_)
      obtain ⟨hv9, hg9⟩ := hq
      cases hv9
      subst hg9
      refine g_ovP [17] [(x, .inr (5, [.ref xm, .ref xl, .ref xb, .ref xr, .ref xt, .int (nI c), .ref xg, .long sv, .int ps, .int bd])), (xm, .inr (2, [.ref m1, .ref m2, .ref m3, .int (nI n)])), (m1, .inl (.long, 24, .inr (.inl K))), (m2, .inl (.int, 24, .inl (fun q => nI (z q)))), (m3, .inl (.long, 24, .inr (.inl V))), (xl, .inr (1, [.ref l1, .int (nI u), .int (nI la), .int (nI le), .long lk, .int (nI ls), .long lw])), (l1, .inl (.byte, 1024, .inl (fun q => sb_b (L q)))), (xb, .inr (0, [.ref y, .ref s, .ref t, .int w])), (y, .inl (.byte, M * 32, .inl (fun q => sb_b (D q)))), (s, .inl (.int, M, .inl S)), (t, .inl (.int, M, .inl T)), (xr, .inr (4, [.ref xb, rt, .int (nI (b2n rb)), .int (nI ra), .int rft, .long rk, .int (nI rs), .long rv])), (xt, .inl (.object "RunStore$Table", 16, .inr (.inr (.inr (.inr rf))))), (xg, .inr (2, [.ref g1, .ref g2, .ref g3, .int (nI Gn)])), (g1, .inl (.long, NG, .inr (.inl GK))), (g2, .inl (.int, NG, .inl (fun q => nI (Gz q)))), (g3, .inl (.long, NG, .inr (.inl GV))), (h, .inr (6, [.int (nI 1), .int (nI M), .int (nI n), .ref y1, .ref y2, .ref y3, .int (nI u), .ref y4, .ref y5, .ref y6, .ref y7, .int (nI c), .ref y8, .ref y9, .ref y10, .ref y11, .ref y12, .int bd, .int w, .int ps, .int (nI pa), .int lc, .int (nI (b2n fb)), .long ek, .long ev, .int (nI el), .int (nI fn), .ref y13, .ref y14, .ref y15, .ref y16, .int (nI js), .ref y17, .int (nI (b2n ib))])), (y1, .inl (.long, 25, .inr (.inl K))), (y2, .inl (.long, 25, .inr (.inl V))), (y3, .inl (.int, 25, .inl (fun q => nI (z q)))), (y4, .inl (.int, 1024, .inl (fun q => nI (L q)))), (y5, .inl (.int, 4096, .inl (fun q => nI (D q)))), (y6, .inl (.int, 128, .inl S)), (y7, .inl (.boolean, 128, .inl Xt)), (y8, .inl (.int, 17, .inl (fun q => nI (lv q)))), (y9, .inl (.int, 17, .inl (fun q => nI (en q)))), (y10, .inl (.int, 17, .inl (fun q => nI (mn q)))), (y11, .inl (.int, 2176, .inl (fun q => nI (bk q)))), (y12, .inl (.long, 17, .inr (.inl fl))), (y13, .inl (.long, 500, .inr (.inl FK))), (y14, .inl (.long, 500, .inr (.inl FV))), (y15, .inl (.int, 500, .inl (fun q => nI (Fz q)))), (y16, .inl (.int, 4200, .inl (fun q => nI (J q)))), (y17, .inl (.int, 128, .inl (fun q => nI (pk q)))), (o, .inl (.long, 1, .inr (.inl O)))] rfl rfl hn ?_
      refine g_iload X d_LW_law_874 1 rfl ?_
      refine g_icmp_eq 881 X d_LW_law_876 (by decide) (fun h876 => ?_) (fun h876 => ?_)
      · have h876 := cv_eq (by omega) (by omega) h876
        refine g_iload X d_LW_law_881 1 rfl ?_
        refine g_if_ne 898 X d_LW_law_883 (by decide) (fun h883 => ?_) (fun h883 => ?_)
        · have h883 := cv_n0 (by omega) h883
          refine g_goto 1292 X d_LW_law_898 (by decide) ?_
          refine g_lv [2, 3, 4, 5, 6] [(4, .int (nI ix)), (3, .ref o), (2, .ref h), (1, .ref x), (0, .ref b0)] rfl ?_
          refine g_widen (ce' := ce + 5) (sl' := sl + 150) (by omega) (by omega) ?_
          exact kk _ ⟨_, _, _, _, _, _, _, _, _, _, _, _, _, _, _, _, _, _, _, _, _, _, _, _, _, _, _, _, _, _, _, _, _, _, _, _, _, _, _, _, _, _, _, _, _, _, _, _, _, _, _, _, _, _, _, _, _, rfl, hn24, hs, hz, hu, hL, hD, hc16, hP, hI, hB, hX, hPd⟩
        · have h883 := cv_e0 (by omega) h883
          omega
      · have h876 := cv_ne (by omega) (by omega) h876
        omega
  · have hn9 : [x, xt, o].Nodup := nd_pick [x, xm, m1, m2, m3, xl, l1, xb, y, s, t, xr, xt, xg, g1, g2, g3, h, y1, y2, y3, y4, y5, y6, y7, y8, y9, y10, y11, y12, y13, y14, y15, y16, y17, o] [0, 12, 35] 36 hn (by decide) rfl (by decide)
    refine g_aload_n X d_LW_law_833 3 rfl ?_
    refine g_aload_n X d_LW_law_834 4 rfl ?_
    refine g_iload X d_LW_law_835 0 rfl ?_
    refine g_iconst (nI 1) X d_LW_law_837 (by decide) ?_
    refine g_iadd X d_LW_law_838 ?_
    refine g_vi (nI (ix + 1)) (nI_add _ _) ?_
    refine s_iald X hScr d_LW_law_839 (by omega) (by omega) ?_
    refine g_aload_n X d_LW_law_840 4 rfl ?_
    refine g_iload X d_LW_law_841 0 rfl ?_
    refine g_iconst (nI 2) X d_LW_law_843 (by decide) ?_
    refine g_iadd X d_LW_law_844 ?_
    refine g_vi (nI (ix + 2)) (nI_add _ _) ?_
    refine s_iald X hScr d_LW_law_845 (by omega) (by omega) ?_
    refine g_aload_n X d_LW_law_846 1 rfl ?_
    refine g_callSW (As := [.ref x, .int (xs (ix + 1)), .int (xs (ix + 2)), .ref o]) (st := []) X d_LW_law_847 (c_LW_table_no hst hn9 hP hc16 hv) lwN_s hNw rfl k_ml_LW_113 k_cd_LW_table k_in_LW k_st_LW_table ⟨by decide +kernel, by decide +kernel, (by decide +kernel : (parseMethodDescriptor "(LRunStore;II[J)I").map (fun d => d.parameters.length) = some 4)⟩ ⟨by omega, by omega⟩ ⟨by omega, by omega⟩ (Nat.le_of_ble_eq_true rfl) (hg_ov hn [0, 12, 35] rfl) (hrx_P hn hPd [0, 12, 35] rfl) (fun E g9 h => by obtain ⟨hv9, hg9⟩ := h; cases hv9) (fun v9 g9 hq hfr => ?_)
    obtain ⟨hv9, hg9⟩ := hq
    cases hv9
    subst hg9
    refine g_ovP [0, 12, 35] [(x, .inr (5, [.ref xm, .ref xl, .ref xb, .ref xr, .ref xt, .int (nI c), .ref xg, .long sv, .int ps, .int bd])), (xm, .inr (2, [.ref m1, .ref m2, .ref m3, .int (nI n)])), (m1, .inl (.long, 24, .inr (.inl K))), (m2, .inl (.int, 24, .inl (fun q => nI (z q)))), (m3, .inl (.long, 24, .inr (.inl V))), (xl, .inr (1, [.ref l1, .int (nI u), .int (nI la), .int (nI le), .long lk, .int (nI ls), .long lw])), (l1, .inl (.byte, 1024, .inl (fun q => sb_b (L q)))), (xb, .inr (0, [.ref y, .ref s, .ref t, .int w])), (y, .inl (.byte, M * 32, .inl (fun q => sb_b (D q)))), (s, .inl (.int, M, .inl S)), (t, .inl (.int, M, .inl T)), (xr, .inr (4, [.ref xb, rt, .int (nI (b2n rb)), .int (nI ra), .int rft, .long rk, .int (nI rs), .long rv])), (xt, .inl (.object "RunStore$Table", 16, .inr (.inr (.inr (.inr rf))))), (xg, .inr (2, [.ref g1, .ref g2, .ref g3, .int (nI Gn)])), (g1, .inl (.long, NG, .inr (.inl GK))), (g2, .inl (.int, NG, .inl (fun q => nI (Gz q)))), (g3, .inl (.long, NG, .inr (.inl GV))), (h, .inr (6, [.int th, .int (nI M), .int (nI n), .ref y1, .ref y2, .ref y3, .int (nI u), .ref y4, .ref y5, .ref y6, .ref y7, .int (nI c), .ref y8, .ref y9, .ref y10, .ref y11, .ref y12, .int bd, .int w, .int ps, .int (nI pa), .int lc, .int (nI (b2n fb)), .long ek, .long ev, .int (nI el), .int (nI fn), .ref y13, .ref y14, .ref y15, .ref y16, .int (nI js), .ref y17, .int (nI (b2n ib))])), (y1, .inl (.long, 25, .inr (.inl K))), (y2, .inl (.long, 25, .inr (.inl V))), (y3, .inl (.int, 25, .inl (fun q => nI (z q)))), (y4, .inl (.int, 1024, .inl (fun q => nI (L q)))), (y5, .inl (.int, 4096, .inl (fun q => nI (D q)))), (y6, .inl (.int, 128, .inl S)), (y7, .inl (.boolean, 128, .inl Xt)), (y8, .inl (.int, 17, .inl (fun q => nI (lv q)))), (y9, .inl (.int, 17, .inl (fun q => nI (en q)))), (y10, .inl (.int, 17, .inl (fun q => nI (mn q)))), (y11, .inl (.int, 2176, .inl (fun q => nI (bk q)))), (y12, .inl (.long, 17, .inr (.inl fl))), (y13, .inl (.long, 500, .inr (.inl FK))), (y14, .inl (.long, 500, .inr (.inl FV))), (y15, .inl (.int, 500, .inl (fun q => nI (Fz q)))), (y16, .inl (.int, 4200, .inl (fun q => nI (J q)))), (y17, .inl (.int, 128, .inl (fun q => nI (pk q)))), (o, .inl (.long, 1, .inr (.inl O)))] rfl rfl hn ?_
    refine g_istore [(5, .int (nI 1)), (4, .int (nI ix)), (3, .ref o), (2, .ref h), (1, .ref x), (0, .ref b0)] X d_LW_law_850 (by decide) rfl ?_
    refine g_aload_n X d_LW_law_852 3 rfl ?_
    refine g_aload_n X d_LW_law_853 5 rfl ?_
    refine g_iload X d_LW_law_854 1 rfl ?_
    refine g_iconst (nI 1) X d_LW_law_856 (by decide) ?_
    refine g_iadd X d_LW_law_857 ?_
    refine g_vi (nI (ix + 1)) (nI_add _ _) ?_
    refine s_iald X hScr d_LW_law_858 (by omega) (by omega) ?_
    refine g_aload_n X d_LW_law_859 5 rfl ?_
    refine g_iload X d_LW_law_860 1 rfl ?_
    refine g_iconst (nI 2) X d_LW_law_862 (by decide) ?_
    refine g_iadd X d_LW_law_863 ?_
    refine g_vi (nI (ix + 2)) (nI_add _ _) ?_
    refine s_iald X hScr d_LW_law_864 (by omega) (by omega) ?_
    refine g_callVf (As := [.int (xs (ix + 1)), .int (xs (ix + 2))]) (st := []) X d_LW_law_865 (c_MD_table_no hst hnm hv hc16) (hl_ov 17 rfl hn) rfl rfl k_ml_LW_116 k_cd_MD_table k_in_MD k_im_MD_table k_se_MD_table ⟨by decide +kernel, by decide +kernel, (by decide +kernel : (parseMethodDescriptor "(II)I").map (fun d => d.parameters.length) = some 2)⟩ ⟨by omega, by omega⟩ ⟨by omega, by omega⟩ (Nat.le_of_ble_eq_true rfl) (hg_ov hn [17, 25, 26, 27, 28] rfl) hrx_0 (fun E g9 h => by obtain ⟨hv9, hg9⟩ := h; cases hv9) (fun v9 g9 hq hfr => ?_)
    obtain ⟨hv9, hg9⟩ := hq
    cases hv9
    subst hg9
    refine g_ovP [17, 25, 26, 27, 28] [(x, .inr (5, [.ref xm, .ref xl, .ref xb, .ref xr, .ref xt, .int (nI c), .ref xg, .long sv, .int ps, .int bd])), (xm, .inr (2, [.ref m1, .ref m2, .ref m3, .int (nI n)])), (m1, .inl (.long, 24, .inr (.inl K))), (m2, .inl (.int, 24, .inl (fun q => nI (z q)))), (m3, .inl (.long, 24, .inr (.inl V))), (xl, .inr (1, [.ref l1, .int (nI u), .int (nI la), .int (nI le), .long lk, .int (nI ls), .long lw])), (l1, .inl (.byte, 1024, .inl (fun q => sb_b (L q)))), (xb, .inr (0, [.ref y, .ref s, .ref t, .int w])), (y, .inl (.byte, M * 32, .inl (fun q => sb_b (D q)))), (s, .inl (.int, M, .inl S)), (t, .inl (.int, M, .inl T)), (xr, .inr (4, [.ref xb, rt, .int (nI (b2n rb)), .int (nI ra), .int rft, .long rk, .int (nI rs), .long rv])), (xt, .inl (.object "RunStore$Table", 16, .inr (.inr (.inr (.inr rf))))), (xg, .inr (2, [.ref g1, .ref g2, .ref g3, .int (nI Gn)])), (g1, .inl (.long, NG, .inr (.inl GK))), (g2, .inl (.int, NG, .inl (fun q => nI (Gz q)))), (g3, .inl (.long, NG, .inr (.inl GV))), (h, .inr (6, [.int (nI 1), .int (nI M), .int (nI n), .ref y1, .ref y2, .ref y3, .int (nI u), .ref y4, .ref y5, .ref y6, .ref y7, .int (nI c), .ref y8, .ref y9, .ref y10, .ref y11, .ref y12, .int bd, .int w, .int ps, .int (nI pa), .int lc, .int (nI (b2n fb)), .long ek, .long ev, .int (nI el), .int (nI fn), .ref y13, .ref y14, .ref y15, .ref y16, .int (nI js), .ref y17, .int (nI (b2n ib))])), (y1, .inl (.long, 25, .inr (.inl K))), (y2, .inl (.long, 25, .inr (.inl V))), (y3, .inl (.int, 25, .inl (fun q => nI (z q)))), (y4, .inl (.int, 1024, .inl (fun q => nI (L q)))), (y5, .inl (.int, 4096, .inl (fun q => nI (D q)))), (y6, .inl (.int, 128, .inl S)), (y7, .inl (.boolean, 128, .inl Xt)), (y8, .inl (.int, 17, .inl (fun q => nI (lv q)))), (y9, .inl (.int, 17, .inl (fun q => nI (en q)))), (y10, .inl (.int, 17, .inl (fun q => nI (mn q)))), (y11, .inl (.int, 2176, .inl (fun q => nI (bk q)))), (y12, .inl (.long, 17, .inr (.inl fl))), (y13, .inl (.long, 500, .inr (.inl FK))), (y14, .inl (.long, 500, .inr (.inl FV))), (y15, .inl (.int, 500, .inl (fun q => nI (Fz q)))), (y16, .inl (.int, 4200, .inl (fun q => nI (J q)))), (y17, .inl (.int, 128, .inl (fun q => nI (pk q)))), (o, .inl (.long, 1, .inr (.inl O)))] rfl rfl hn ?_
    refine g_istore [(6, .int (nI 0)), (5, .int (nI 1)), (4, .int (nI ix)), (3, .ref o), (2, .ref h), (1, .ref x), (0, .ref b0)] X d_LW_law_868 (by decide) rfl ?_
    refine g_aload_n X d_LW_law_870 4 rfl ?_
    refine g_callVf (As := []) (st := []) X d_LW_law_871 (c_MD_thrown hst hnh) (hl_ov 17 rfl hn) rfl rfl k_ml_LW_85 k_cd_MD_thrown k_in_MD k_im_MD_thrown k_se_MD_thrown ⟨by decide +kernel, by decide +kernel, (by decide +kernel : (parseMethodDescriptor "()I").map (fun d => d.parameters.length) = some 0)⟩ ⟨by omega, by omega⟩ ⟨by omega, by omega⟩ (Nat.le_of_ble_eq_true rfl) (hg_ov hn [17] rfl) hrx_0 (fun E g9 h => by obtain ⟨hv9, hg9⟩ := h; cases hv9) (fun v9 g9 hq hfr => ?_)
    obtain ⟨hv9, hg9⟩ := hq
    cases hv9
    subst hg9
    refine g_ovP [17] [(x, .inr (5, [.ref xm, .ref xl, .ref xb, .ref xr, .ref xt, .int (nI c), .ref xg, .long sv, .int ps, .int bd])), (xm, .inr (2, [.ref m1, .ref m2, .ref m3, .int (nI n)])), (m1, .inl (.long, 24, .inr (.inl K))), (m2, .inl (.int, 24, .inl (fun q => nI (z q)))), (m3, .inl (.long, 24, .inr (.inl V))), (xl, .inr (1, [.ref l1, .int (nI u), .int (nI la), .int (nI le), .long lk, .int (nI ls), .long lw])), (l1, .inl (.byte, 1024, .inl (fun q => sb_b (L q)))), (xb, .inr (0, [.ref y, .ref s, .ref t, .int w])), (y, .inl (.byte, M * 32, .inl (fun q => sb_b (D q)))), (s, .inl (.int, M, .inl S)), (t, .inl (.int, M, .inl T)), (xr, .inr (4, [.ref xb, rt, .int (nI (b2n rb)), .int (nI ra), .int rft, .long rk, .int (nI rs), .long rv])), (xt, .inl (.object "RunStore$Table", 16, .inr (.inr (.inr (.inr rf))))), (xg, .inr (2, [.ref g1, .ref g2, .ref g3, .int (nI Gn)])), (g1, .inl (.long, NG, .inr (.inl GK))), (g2, .inl (.int, NG, .inl (fun q => nI (Gz q)))), (g3, .inl (.long, NG, .inr (.inl GV))), (h, .inr (6, [.int (nI 1), .int (nI M), .int (nI n), .ref y1, .ref y2, .ref y3, .int (nI u), .ref y4, .ref y5, .ref y6, .ref y7, .int (nI c), .ref y8, .ref y9, .ref y10, .ref y11, .ref y12, .int bd, .int w, .int ps, .int (nI pa), .int lc, .int (nI (b2n fb)), .long ek, .long ev, .int (nI el), .int (nI fn), .ref y13, .ref y14, .ref y15, .ref y16, .int (nI js), .ref y17, .int (nI (b2n ib))])), (y1, .inl (.long, 25, .inr (.inl K))), (y2, .inl (.long, 25, .inr (.inl V))), (y3, .inl (.int, 25, .inl (fun q => nI (z q)))), (y4, .inl (.int, 1024, .inl (fun q => nI (L q)))), (y5, .inl (.int, 4096, .inl (fun q => nI (D q)))), (y6, .inl (.int, 128, .inl S)), (y7, .inl (.boolean, 128, .inl Xt)), (y8, .inl (.int, 17, .inl (fun q => nI (lv q)))), (y9, .inl (.int, 17, .inl (fun q => nI (en q)))), (y10, .inl (.int, 17, .inl (fun q => nI (mn q)))), (y11, .inl (.int, 2176, .inl (fun q => nI (bk q)))), (y12, .inl (.long, 17, .inr (.inl fl))), (y13, .inl (.long, 500, .inr (.inl FK))), (y14, .inl (.long, 500, .inr (.inl FV))), (y15, .inl (.int, 500, .inl (fun q => nI (Fz q)))), (y16, .inl (.int, 4200, .inl (fun q => nI (J q)))), (y17, .inl (.int, 128, .inl (fun q => nI (pk q)))), (o, .inl (.long, 1, .inr (.inl O)))] rfl rfl hn ?_
    refine g_iload X d_LW_law_874 1 rfl ?_
    refine g_icmp_eq 881 X d_LW_law_876 (by decide) (fun h876 => ?_) (fun h876 => ?_)
    · have h876 := cv_eq (by omega) (by omega) h876
      refine g_iload X d_LW_law_881 1 rfl ?_
      refine g_if_ne 898 X d_LW_law_883 (by decide) (fun h883 => ?_) (fun h883 => ?_)
      · have h883 := cv_n0 (by omega) h883
        refine g_goto 1292 X d_LW_law_898 (by decide) ?_
        refine g_lv [2, 3, 4, 5, 6] [(4, .int (nI ix)), (3, .ref o), (2, .ref h), (1, .ref x), (0, .ref b0)] rfl ?_
        refine g_widen (ce' := ce + 5) (sl' := sl + 150) (by omega) (by omega) ?_
        exact kk _ ⟨_, _, _, _, _, _, _, _, _, _, _, _, _, _, _, _, _, _, _, _, _, _, _, _, _, _, _, _, _, _, _, _, _, _, _, _, _, _, _, _, _, _, _, _, _, _, _, _, _, _, _, _, _, _, _, _, _, rfl, hn24, hs, hz, hu, hL, hD, hc16, hP, hI, hB, hX, hPd⟩
      · have h883 := cv_e0 (by omega) h883
        omega
    · have h876 := cv_ne (by omega) (by omega) h876
      omega

set_option maxRecDepth 100000 in
set_option maxHeartbeats 4000000 in
theorem law_sum {mp : Program} {l : Launch} {me : Env} {mR : Room} {sm : State} {mm : MethodId} {margs : Array Value} {mbel : List Frame} {mmet : Method} {mcod : Code} {mD : va_G} {f9 : fh_M} {Q9 : State → Prop} {ce sl b0 Ls ix : Nat} {xs : Nat → Int32} (X : fh_X mp l sm mm margs mmet mcod mD fhCl fhT f9 (hp []) y_LW_law.cls b_LW_law 8) (hScr : lwX sm f9 b0 Ls xs) (hst : l.stackTraces = false) (hNw : lwN sm) (hRf : 12 ≤ mR.frames) (hRl : 438 ≤ mR.locals) (hRc : ce + 5 ≤ mR.cells) (hRs : sl + 150 ≤ mR.slots) {M NG x xm m1 m2 m3 xl l1 xb y s t xr xt xg g1 g2 g3 h y1 y2 y3 y4 y5 y6 y7 y8 y9 y10 y11 y12 y13 y14 y15 y16 y17 o : Nat} (hM4 : 4 ≤ M) (hM : M ≤ 128) (hNGe : NG = 24 + M * 32 / 9) (hn : [x, xm, m1, m2, m3, xl, l1, xb, y, s, t, xr, xt, xg, g1, g2, g3, h, y1, y2, y3, y4, y5, y6, y7, y8, y9, y10, y11, y12, y13, y14, y15, y16, y17, o].Nodup) (hLs : Ls ≤ 3073) (hix : ix + 5 < Ls) {f : fh_M} (hS : lwS M NG x xm m1 m2 m3 xl l1 xb y s t xr xt xg g1 g2 g3 h y1 y2 y3 y4 y5 y6 y7 y8 y9 y10 y11 y12 y13 y14 y15 y16 y17 o f)  (kk : ∀ f, lwS M NG x xm m1 m2 m3 xl l1 xb y s t xr xt xg g1 g2 g3 h y1 y2 y3 y4 y5 y6 y7 y8 y9 y10 y11 y12 y13 y14 y15 y16 y17 o f → fh_G mp l me mR sm mm margs mbel mmet mcod mD fhCl f9 8 Q9 (ce + 5) (sl + 150) f 1292 [(4, .int (nI ix)), (3, .ref o), (2, .ref h), (1, .ref x), (0, .ref b0)] []) : fh_G mp l me mR sm mm margs mbel mmet mcod mD fhCl f9 8 Q9 (ce) (sl) f 1049 [(4, .int (nI ix)), (3, .ref o), (2, .ref h), (1, .ref x), (0, .ref b0)] [] := by
  refine lwS_elim (C9 := fun f => fh_G mp l me mR sm mm margs mbel mmet mcod mD fhCl f9 8 Q9 (ce) (sl) f 1049 [(4, .int (nI ix)), (3, .ref o), (2, .ref h), (1, .ref x), (0, .ref b0)] []) hS (fun K z V n L u D S T tb c ps bd w sv la le lk ls lw rt rb ra rft rk rs rv rf tq ti P GK Gz GV Gn th pa lc fb ek ev el fn js ib Xt lv en mn fl bk FK FV Fz J pk O hn24 hs hz hu hL hD hc16 hP hI hB hX hPd => ?_)
  show fh_G mp l me mR sm mm margs mbel mmet mcod mD fhCl f9 8 Q9 (ce) (sl) (fh_ov (hp [(x, .inr (5, [.ref xm, .ref xl, .ref xb, .ref xr, .ref xt, .int (nI c), .ref xg, .long sv, .int ps, .int bd])), (xm, .inr (2, [.ref m1, .ref m2, .ref m3, .int (nI n)])), (m1, .inl (.long, 24, .inr (.inl K))), (m2, .inl (.int, 24, .inl (fun q => nI (z q)))), (m3, .inl (.long, 24, .inr (.inl V))), (xl, .inr (1, [.ref l1, .int (nI u), .int (nI la), .int (nI le), .long lk, .int (nI ls), .long lw])), (l1, .inl (.byte, 1024, .inl (fun q => sb_b (L q)))), (xb, .inr (0, [.ref y, .ref s, .ref t, .int w])), (y, .inl (.byte, M * 32, .inl (fun q => sb_b (D q)))), (s, .inl (.int, M, .inl S)), (t, .inl (.int, M, .inl T)), (xr, .inr (4, [.ref xb, rt, .int (nI (b2n rb)), .int (nI ra), .int rft, .long rk, .int (nI rs), .long rv])), (xt, .inl (.object "RunStore$Table", 16, .inr (.inr (.inr (.inr rf))))), (xg, .inr (2, [.ref g1, .ref g2, .ref g3, .int (nI Gn)])), (g1, .inl (.long, NG, .inr (.inl GK))), (g2, .inl (.int, NG, .inl (fun q => nI (Gz q)))), (g3, .inl (.long, NG, .inr (.inl GV))), (h, .inr (6, [.int th, .int (nI M), .int (nI n), .ref y1, .ref y2, .ref y3, .int (nI u), .ref y4, .ref y5, .ref y6, .ref y7, .int (nI c), .ref y8, .ref y9, .ref y10, .ref y11, .ref y12, .int bd, .int w, .int ps, .int (nI pa), .int lc, .int (nI (b2n fb)), .long ek, .long ev, .int (nI el), .int (nI fn), .ref y13, .ref y14, .ref y15, .ref y16, .int (nI js), .ref y17, .int (nI (b2n ib))])), (y1, .inl (.long, 25, .inr (.inl K))), (y2, .inl (.long, 25, .inr (.inl V))), (y3, .inl (.int, 25, .inl (fun q => nI (z q)))), (y4, .inl (.int, 1024, .inl (fun q => nI (L q)))), (y5, .inl (.int, 4096, .inl (fun q => nI (D q)))), (y6, .inl (.int, 128, .inl S)), (y7, .inl (.boolean, 128, .inl Xt)), (y8, .inl (.int, 17, .inl (fun q => nI (lv q)))), (y9, .inl (.int, 17, .inl (fun q => nI (en q)))), (y10, .inl (.int, 17, .inl (fun q => nI (mn q)))), (y11, .inl (.int, 2176, .inl (fun q => nI (bk q)))), (y12, .inl (.long, 17, .inr (.inl fl))), (y13, .inl (.long, 500, .inr (.inl FK))), (y14, .inl (.long, 500, .inr (.inl FV))), (y15, .inl (.int, 500, .inl (fun q => nI (Fz q)))), (y16, .inl (.int, 4200, .inl (fun q => nI (J q)))), (y17, .inl (.int, 128, .inl (fun q => nI (pk q)))), (o, .inl (.long, 1, .inr (.inl O)))]) P) 1049 [(4, .int (nI ix)), (3, .ref o), (2, .ref h), (1, .ref x), (0, .ref b0)] []
  have hnh : [h].Nodup := nd_pick [x, xm, m1, m2, m3, xl, l1, xb, y, s, t, xr, xt, xg, g1, g2, g3, h, y1, y2, y3, y4, y5, y6, y7, y8, y9, y10, y11, y12, y13, y14, y15, y16, y17, o] [17] 36 hn (by decide) rfl (by decide)
  have hnm : [h, y6].Nodup := nd_pick [x, xm, m1, m2, m3, xl, l1, xb, y, s, t, xr, xt, xg, g1, g2, g3, h, y1, y2, y3, y4, y5, y6, y7, y8, y9, y10, y11, y12, y13, y14, y15, y16, y17, o] [17, 23] 36 hn (by decide) rfl (by decide)
  rcases rng0 (xs (ix + 1)) (c := M) (by omega) with ⟨j, hj, hv⟩ | hv
  · have hn9 : [x, xb, y, s, t, o].Nodup := nd_pick [x, xm, m1, m2, m3, xl, l1, xb, y, s, t, xr, xt, xg, g1, g2, g3, h, y1, y2, y3, y4, y5, y6, y7, y8, y9, y10, y11, y12, y13, y14, y15, y16, y17, o] [0, 7, 8, 9, 10, 35] 36 hn (by decide) rfl (by decide)
    refine g_aload_n X d_LW_law_1049 3 rfl ?_
    refine g_aload_n X d_LW_law_1050 4 rfl ?_
    refine g_iload X d_LW_law_1051 0 rfl ?_
    refine g_iconst (nI 1) X d_LW_law_1053 (by decide) ?_
    refine g_iadd X d_LW_law_1054 ?_
    refine g_vi (nI (ix + 1)) (nI_add _ _) ?_
    refine s_iald X hScr d_LW_law_1055 (by omega) (by omega) ?_
    refine g_vi (nI j) hv ?_
    refine g_aload_n X d_LW_law_1056 1 rfl ?_
    refine g_callSW (As := [.ref x, .int (nI j), .ref o]) (st := []) X d_LW_law_1057 (c_LW_sum_in hst hD hM hn9 hj) lwN_s hNw rfl k_ml_LW_124 k_cd_LW_sum k_in_LW k_st_LW_sum ⟨by decide +kernel, by decide +kernel, (by decide +kernel : (parseMethodDescriptor "(LRunStore;I[J)I").map (fun d => d.parameters.length) = some 3)⟩ ⟨by omega, by omega⟩ ⟨by omega, by omega⟩ (Nat.le_of_ble_eq_true rfl) (hg_ov hn [0, 7, 8, 9, 10, 35] rfl) hrx_0 (fun E g9 h => by obtain ⟨hv9, hg9⟩ := h; cases hv9) (fun v9 g9 hq hfr => ?_)
    obtain ⟨hv9, hg9⟩ := hq
    cases hv9
    subst hg9
    refine g_ovP [0, 7, 8, 9, 10, 35] [(x, .inr (5, [.ref xm, .ref xl, .ref xb, .ref xr, .ref xt, .int (nI c), .ref xg, .long sv, .int ps, .int bd])), (xm, .inr (2, [.ref m1, .ref m2, .ref m3, .int (nI n)])), (m1, .inl (.long, 24, .inr (.inl K))), (m2, .inl (.int, 24, .inl (fun q => nI (z q)))), (m3, .inl (.long, 24, .inr (.inl V))), (xl, .inr (1, [.ref l1, .int (nI u), .int (nI la), .int (nI le), .long lk, .int (nI ls), .long lw])), (l1, .inl (.byte, 1024, .inl (fun q => sb_b (L q)))), (xb, .inr (0, [.ref y, .ref s, .ref t, .int w])), (y, .inl (.byte, M * 32, .inl (fun q => sb_b (D q)))), (s, .inl (.int, M, .inl S)), (t, .inl (.int, M, .inl T)), (xr, .inr (4, [.ref xb, rt, .int (nI (b2n rb)), .int (nI ra), .int rft, .long rk, .int (nI rs), .long rv])), (xt, .inl (.object "RunStore$Table", 16, .inr (.inr (.inr (.inr rf))))), (xg, .inr (2, [.ref g1, .ref g2, .ref g3, .int (nI Gn)])), (g1, .inl (.long, NG, .inr (.inl GK))), (g2, .inl (.int, NG, .inl (fun q => nI (Gz q)))), (g3, .inl (.long, NG, .inr (.inl GV))), (h, .inr (6, [.int th, .int (nI M), .int (nI n), .ref y1, .ref y2, .ref y3, .int (nI u), .ref y4, .ref y5, .ref y6, .ref y7, .int (nI c), .ref y8, .ref y9, .ref y10, .ref y11, .ref y12, .int bd, .int w, .int ps, .int (nI pa), .int lc, .int (nI (b2n fb)), .long ek, .long ev, .int (nI el), .int (nI fn), .ref y13, .ref y14, .ref y15, .ref y16, .int (nI js), .ref y17, .int (nI (b2n ib))])), (y1, .inl (.long, 25, .inr (.inl K))), (y2, .inl (.long, 25, .inr (.inl V))), (y3, .inl (.int, 25, .inl (fun q => nI (z q)))), (y4, .inl (.int, 1024, .inl (fun q => nI (L q)))), (y5, .inl (.int, 4096, .inl (fun q => nI (D q)))), (y6, .inl (.int, 128, .inl S)), (y7, .inl (.boolean, 128, .inl Xt)), (y8, .inl (.int, 17, .inl (fun q => nI (lv q)))), (y9, .inl (.int, 17, .inl (fun q => nI (en q)))), (y10, .inl (.int, 17, .inl (fun q => nI (mn q)))), (y11, .inl (.int, 2176, .inl (fun q => nI (bk q)))), (y12, .inl (.long, 17, .inr (.inl fl))), (y13, .inl (.long, 500, .inr (.inl FK))), (y14, .inl (.long, 500, .inr (.inl FV))), (y15, .inl (.int, 500, .inl (fun q => nI (Fz q)))), (y16, .inl (.int, 4200, .inl (fun q => nI (J q)))), (y17, .inl (.int, 128, .inl (fun q => nI (pk q)))), (o, .inl (.long, 1, .inr (.inl (va_up O 0 ((S j).toInt64)))))] rfl rfl hn ?_
    refine g_istore [(5, .int (nI 0)), (4, .int (nI ix)), (3, .ref o), (2, .ref h), (1, .ref x), (0, .ref b0)] X d_LW_law_1060 (by decide) rfl ?_
    refine g_aload_n X d_LW_law_1062 3 rfl ?_
    refine g_aload_n X d_LW_law_1063 5 rfl ?_
    refine g_iload X d_LW_law_1064 1 rfl ?_
    refine g_iconst (nI 1) X d_LW_law_1066 (by decide) ?_
    refine g_iadd X d_LW_law_1067 ?_
    refine g_vi (nI (ix + 1)) (nI_add _ _) ?_
    refine s_iald X hScr d_LW_law_1068 (by omega) (by omega) ?_
    refine g_vi (nI j) hv ?_
    refine g_callVf (As := [.int (nI j)]) (st := []) X d_LW_law_1069 (c_MD_sum_in hst hnm hj hM) (hl_ov 17 rfl hn) rfl rfl k_ml_LW_126 k_cd_MD_sum k_in_MD k_im_MD_sum k_se_MD_sum ⟨by decide +kernel, by decide +kernel, (by decide +kernel : (parseMethodDescriptor "(I)I").map (fun d => d.parameters.length) = some 1)⟩ ⟨by omega, by omega⟩ ⟨by omega, by omega⟩ (Nat.le_of_ble_eq_true rfl) (hg_ov hn [17, 23] rfl) hrx_0 (fun E g9 h => by obtain ⟨hv9, hg9⟩ := h; cases hv9) (fun v9 g9 hq hfr => ?_)
    obtain ⟨hv9, hg9⟩ := hq
    cases hv9
    subst hg9
    refine g_ovP [17, 23] [(x, .inr (5, [.ref xm, .ref xl, .ref xb, .ref xr, .ref xt, .int (nI c), .ref xg, .long sv, .int ps, .int bd])), (xm, .inr (2, [.ref m1, .ref m2, .ref m3, .int (nI n)])), (m1, .inl (.long, 24, .inr (.inl K))), (m2, .inl (.int, 24, .inl (fun q => nI (z q)))), (m3, .inl (.long, 24, .inr (.inl V))), (xl, .inr (1, [.ref l1, .int (nI u), .int (nI la), .int (nI le), .long lk, .int (nI ls), .long lw])), (l1, .inl (.byte, 1024, .inl (fun q => sb_b (L q)))), (xb, .inr (0, [.ref y, .ref s, .ref t, .int w])), (y, .inl (.byte, M * 32, .inl (fun q => sb_b (D q)))), (s, .inl (.int, M, .inl S)), (t, .inl (.int, M, .inl T)), (xr, .inr (4, [.ref xb, rt, .int (nI (b2n rb)), .int (nI ra), .int rft, .long rk, .int (nI rs), .long rv])), (xt, .inl (.object "RunStore$Table", 16, .inr (.inr (.inr (.inr rf))))), (xg, .inr (2, [.ref g1, .ref g2, .ref g3, .int (nI Gn)])), (g1, .inl (.long, NG, .inr (.inl GK))), (g2, .inl (.int, NG, .inl (fun q => nI (Gz q)))), (g3, .inl (.long, NG, .inr (.inl GV))), (h, .inr (6, [.int (nI 0), .int (nI M), .int (nI n), .ref y1, .ref y2, .ref y3, .int (nI u), .ref y4, .ref y5, .ref y6, .ref y7, .int (nI c), .ref y8, .ref y9, .ref y10, .ref y11, .ref y12, .int bd, .int w, .int ps, .int (nI pa), .int lc, .int (nI (b2n fb)), .long ek, .long ev, .int (nI el), .int (nI fn), .ref y13, .ref y14, .ref y15, .ref y16, .int (nI js), .ref y17, .int (nI (b2n ib))])), (y1, .inl (.long, 25, .inr (.inl K))), (y2, .inl (.long, 25, .inr (.inl V))), (y3, .inl (.int, 25, .inl (fun q => nI (z q)))), (y4, .inl (.int, 1024, .inl (fun q => nI (L q)))), (y5, .inl (.int, 4096, .inl (fun q => nI (D q)))), (y6, .inl (.int, 128, .inl S)), (y7, .inl (.boolean, 128, .inl Xt)), (y8, .inl (.int, 17, .inl (fun q => nI (lv q)))), (y9, .inl (.int, 17, .inl (fun q => nI (en q)))), (y10, .inl (.int, 17, .inl (fun q => nI (mn q)))), (y11, .inl (.int, 2176, .inl (fun q => nI (bk q)))), (y12, .inl (.long, 17, .inr (.inl fl))), (y13, .inl (.long, 500, .inr (.inl FK))), (y14, .inl (.long, 500, .inr (.inl FV))), (y15, .inl (.int, 500, .inl (fun q => nI (Fz q)))), (y16, .inl (.int, 4200, .inl (fun q => nI (J q)))), (y17, .inl (.int, 128, .inl (fun q => nI (pk q)))), (o, .inl (.long, 1, .inr (.inl (va_up O 0 ((S j).toInt64)))))] rfl rfl hn ?_
    refine g_istore [(6, .int (S j)), (5, .int (nI 0)), (4, .int (nI ix)), (3, .ref o), (2, .ref h), (1, .ref x), (0, .ref b0)] X d_LW_law_1072 (by decide) rfl ?_
    refine g_aload_n X d_LW_law_1074 4 rfl ?_
    refine g_callVf (As := []) (st := []) X d_LW_law_1075 (c_MD_thrown hst hnh) (hl_ov 17 rfl hn) rfl rfl k_ml_LW_85 k_cd_MD_thrown k_in_MD k_im_MD_thrown k_se_MD_thrown ⟨by decide +kernel, by decide +kernel, (by decide +kernel : (parseMethodDescriptor "()I").map (fun d => d.parameters.length) = some 0)⟩ ⟨by omega, by omega⟩ ⟨by omega, by omega⟩ (Nat.le_of_ble_eq_true rfl) (hg_ov hn [17] rfl) hrx_0 (fun E g9 h => by obtain ⟨hv9, hg9⟩ := h; cases hv9) (fun v9 g9 hq hfr => ?_)
    obtain ⟨hv9, hg9⟩ := hq
    cases hv9
    subst hg9
    refine g_ovP [17] [(x, .inr (5, [.ref xm, .ref xl, .ref xb, .ref xr, .ref xt, .int (nI c), .ref xg, .long sv, .int ps, .int bd])), (xm, .inr (2, [.ref m1, .ref m2, .ref m3, .int (nI n)])), (m1, .inl (.long, 24, .inr (.inl K))), (m2, .inl (.int, 24, .inl (fun q => nI (z q)))), (m3, .inl (.long, 24, .inr (.inl V))), (xl, .inr (1, [.ref l1, .int (nI u), .int (nI la), .int (nI le), .long lk, .int (nI ls), .long lw])), (l1, .inl (.byte, 1024, .inl (fun q => sb_b (L q)))), (xb, .inr (0, [.ref y, .ref s, .ref t, .int w])), (y, .inl (.byte, M * 32, .inl (fun q => sb_b (D q)))), (s, .inl (.int, M, .inl S)), (t, .inl (.int, M, .inl T)), (xr, .inr (4, [.ref xb, rt, .int (nI (b2n rb)), .int (nI ra), .int rft, .long rk, .int (nI rs), .long rv])), (xt, .inl (.object "RunStore$Table", 16, .inr (.inr (.inr (.inr rf))))), (xg, .inr (2, [.ref g1, .ref g2, .ref g3, .int (nI Gn)])), (g1, .inl (.long, NG, .inr (.inl GK))), (g2, .inl (.int, NG, .inl (fun q => nI (Gz q)))), (g3, .inl (.long, NG, .inr (.inl GV))), (h, .inr (6, [.int (nI 0), .int (nI M), .int (nI n), .ref y1, .ref y2, .ref y3, .int (nI u), .ref y4, .ref y5, .ref y6, .ref y7, .int (nI c), .ref y8, .ref y9, .ref y10, .ref y11, .ref y12, .int bd, .int w, .int ps, .int (nI pa), .int lc, .int (nI (b2n fb)), .long ek, .long ev, .int (nI el), .int (nI fn), .ref y13, .ref y14, .ref y15, .ref y16, .int (nI js), .ref y17, .int (nI (b2n ib))])), (y1, .inl (.long, 25, .inr (.inl K))), (y2, .inl (.long, 25, .inr (.inl V))), (y3, .inl (.int, 25, .inl (fun q => nI (z q)))), (y4, .inl (.int, 1024, .inl (fun q => nI (L q)))), (y5, .inl (.int, 4096, .inl (fun q => nI (D q)))), (y6, .inl (.int, 128, .inl S)), (y7, .inl (.boolean, 128, .inl Xt)), (y8, .inl (.int, 17, .inl (fun q => nI (lv q)))), (y9, .inl (.int, 17, .inl (fun q => nI (en q)))), (y10, .inl (.int, 17, .inl (fun q => nI (mn q)))), (y11, .inl (.int, 2176, .inl (fun q => nI (bk q)))), (y12, .inl (.long, 17, .inr (.inl fl))), (y13, .inl (.long, 500, .inr (.inl FK))), (y14, .inl (.long, 500, .inr (.inl FV))), (y15, .inl (.int, 500, .inl (fun q => nI (Fz q)))), (y16, .inl (.int, 4200, .inl (fun q => nI (J q)))), (y17, .inl (.int, 128, .inl (fun q => nI (pk q)))), (o, .inl (.long, 1, .inr (.inl (va_up O 0 ((S j).toInt64)))))] rfl rfl hn ?_
    refine g_iload X d_LW_law_1078 1 rfl ?_
    refine g_icmp_eq 1085 X d_LW_law_1080 (by decide) (fun h1080 => ?_) (fun h1080 => ?_)
    · have h1080 := cv_eq (by omega) (by omega) h1080
      refine g_iload X d_LW_law_1085 1 rfl ?_
      refine g_if_ne 1102 X d_LW_law_1087 (by decide) (fun h1087 => ?_) (fun h1087 => ?_)
      · have h1087 := cv_n0 (by omega) h1087
        omega
      · have h1087 := cv_e0 (by omega) h1087
        refine g_aload_n X d_LW_law_1090 3 rfl ?_
        refine g_iconst (nI 0) X d_LW_law_1091 (by decide) ?_
        refine h_lald X d_LW_law_1092 (hl_ov 35 rfl hn) (by omega) (by omega) ?_
        refine g_iload X d_LW_law_1093 0 rfl ?_
        refine g_i2l X d_LW_law_1095 ?_
        refine g_lcmp X d_LW_law_1096 ?_
        refine g_if_eq 1102 X d_LW_law_1097 (by decide) (fun h1097 => ?_) (fun h1097 => ?_)
        · have h1097 := (lg_cmp_eq ((va_up O 0 ((S j).toInt64)) 0) ((S j).toInt64)).mp h1097
          refine g_goto 1292 X d_LW_law_1102 (by decide) ?_
          refine g_lv [2, 3, 4, 5, 6] [(4, .int (nI ix)), (3, .ref o), (2, .ref h), (1, .ref x), (0, .ref b0)] rfl ?_
          refine g_widen (ce' := ce + 5) (sl' := sl + 150) (by omega) (by omega) ?_
          exact kk _ ⟨_, _, _, _, _, _, _, _, _, _, _, _, _, _, _, _, _, _, _, _, _, _, _, _, _, _, _, _, _, _, _, _, _, _, _, _, _, _, _, _, _, _, _, _, _, _, _, _, _, _, _, _, _, _, _, _, _, rfl, hn24, hs, hz, hu, hL, hD, hc16, hP, hI, hB, hX, hPd⟩
        · have h1097 := fun z8 => h1097 ((lg_cmp_eq ((va_up O 0 ((S j).toInt64)) 0) ((S j).toInt64)).mpr z8)
          exact absurd (va_up_self _ _ _) h1097
    · have h1080 := cv_ne (by omega) (by omega) h1080
      omega
  · have hn9 : [x, xb, y, s, t, o].Nodup := nd_pick [x, xm, m1, m2, m3, xl, l1, xb, y, s, t, xr, xt, xg, g1, g2, g3, h, y1, y2, y3, y4, y5, y6, y7, y8, y9, y10, y11, y12, y13, y14, y15, y16, y17, o] [0, 7, 8, 9, 10, 35] 36 hn (by decide) rfl (by decide)
    refine g_aload_n X d_LW_law_1049 3 rfl ?_
    refine g_aload_n X d_LW_law_1050 4 rfl ?_
    refine g_iload X d_LW_law_1051 0 rfl ?_
    refine g_iconst (nI 1) X d_LW_law_1053 (by decide) ?_
    refine g_iadd X d_LW_law_1054 ?_
    refine g_vi (nI (ix + 1)) (nI_add _ _) ?_
    refine s_iald X hScr d_LW_law_1055 (by omega) (by omega) ?_
    refine g_aload_n X d_LW_law_1056 1 rfl ?_
    refine g_callSW (As := [.ref x, .int (xs (ix + 1)), .ref o]) (st := []) X d_LW_law_1057 (c_LW_sum_no hst hD hM hn9 hv) lwN_s hNw rfl k_ml_LW_124 k_cd_LW_sum k_in_LW k_st_LW_sum ⟨by decide +kernel, by decide +kernel, (by decide +kernel : (parseMethodDescriptor "(LRunStore;I[J)I").map (fun d => d.parameters.length) = some 3)⟩ ⟨by omega, by omega⟩ ⟨by omega, by omega⟩ (Nat.le_of_ble_eq_true rfl) (hg_ov hn [0, 7, 8, 9, 10, 35] rfl) hrx_0 (fun E g9 h => by obtain ⟨hv9, hg9⟩ := h; cases hv9) (fun v9 g9 hq hfr => ?_)
    obtain ⟨hv9, hg9⟩ := hq
    cases hv9
    subst hg9
    refine g_ovP [0, 7, 8, 9, 10, 35] [(x, .inr (5, [.ref xm, .ref xl, .ref xb, .ref xr, .ref xt, .int (nI c), .ref xg, .long sv, .int ps, .int bd])), (xm, .inr (2, [.ref m1, .ref m2, .ref m3, .int (nI n)])), (m1, .inl (.long, 24, .inr (.inl K))), (m2, .inl (.int, 24, .inl (fun q => nI (z q)))), (m3, .inl (.long, 24, .inr (.inl V))), (xl, .inr (1, [.ref l1, .int (nI u), .int (nI la), .int (nI le), .long lk, .int (nI ls), .long lw])), (l1, .inl (.byte, 1024, .inl (fun q => sb_b (L q)))), (xb, .inr (0, [.ref y, .ref s, .ref t, .int w])), (y, .inl (.byte, M * 32, .inl (fun q => sb_b (D q)))), (s, .inl (.int, M, .inl S)), (t, .inl (.int, M, .inl T)), (xr, .inr (4, [.ref xb, rt, .int (nI (b2n rb)), .int (nI ra), .int rft, .long rk, .int (nI rs), .long rv])), (xt, .inl (.object "RunStore$Table", 16, .inr (.inr (.inr (.inr rf))))), (xg, .inr (2, [.ref g1, .ref g2, .ref g3, .int (nI Gn)])), (g1, .inl (.long, NG, .inr (.inl GK))), (g2, .inl (.int, NG, .inl (fun q => nI (Gz q)))), (g3, .inl (.long, NG, .inr (.inl GV))), (h, .inr (6, [.int th, .int (nI M), .int (nI n), .ref y1, .ref y2, .ref y3, .int (nI u), .ref y4, .ref y5, .ref y6, .ref y7, .int (nI c), .ref y8, .ref y9, .ref y10, .ref y11, .ref y12, .int bd, .int w, .int ps, .int (nI pa), .int lc, .int (nI (b2n fb)), .long ek, .long ev, .int (nI el), .int (nI fn), .ref y13, .ref y14, .ref y15, .ref y16, .int (nI js), .ref y17, .int (nI (b2n ib))])), (y1, .inl (.long, 25, .inr (.inl K))), (y2, .inl (.long, 25, .inr (.inl V))), (y3, .inl (.int, 25, .inl (fun q => nI (z q)))), (y4, .inl (.int, 1024, .inl (fun q => nI (L q)))), (y5, .inl (.int, 4096, .inl (fun q => nI (D q)))), (y6, .inl (.int, 128, .inl S)), (y7, .inl (.boolean, 128, .inl Xt)), (y8, .inl (.int, 17, .inl (fun q => nI (lv q)))), (y9, .inl (.int, 17, .inl (fun q => nI (en q)))), (y10, .inl (.int, 17, .inl (fun q => nI (mn q)))), (y11, .inl (.int, 2176, .inl (fun q => nI (bk q)))), (y12, .inl (.long, 17, .inr (.inl fl))), (y13, .inl (.long, 500, .inr (.inl FK))), (y14, .inl (.long, 500, .inr (.inl FV))), (y15, .inl (.int, 500, .inl (fun q => nI (Fz q)))), (y16, .inl (.int, 4200, .inl (fun q => nI (J q)))), (y17, .inl (.int, 128, .inl (fun q => nI (pk q)))), (o, .inl (.long, 1, .inr (.inl O)))] rfl rfl hn ?_
    refine g_istore [(5, .int (nI 1)), (4, .int (nI ix)), (3, .ref o), (2, .ref h), (1, .ref x), (0, .ref b0)] X d_LW_law_1060 (by decide) rfl ?_
    refine g_aload_n X d_LW_law_1062 3 rfl ?_
    refine g_aload_n X d_LW_law_1063 5 rfl ?_
    refine g_iload X d_LW_law_1064 1 rfl ?_
    refine g_iconst (nI 1) X d_LW_law_1066 (by decide) ?_
    refine g_iadd X d_LW_law_1067 ?_
    refine g_vi (nI (ix + 1)) (nI_add _ _) ?_
    refine s_iald X hScr d_LW_law_1068 (by omega) (by omega) ?_
    refine g_callVf (As := [.int (xs (ix + 1))]) (st := []) X d_LW_law_1069 (c_MD_sum_no hst hnm hv hM) (hl_ov 17 rfl hn) rfl rfl k_ml_LW_126 k_cd_MD_sum k_in_MD k_im_MD_sum k_se_MD_sum ⟨by decide +kernel, by decide +kernel, (by decide +kernel : (parseMethodDescriptor "(I)I").map (fun d => d.parameters.length) = some 1)⟩ ⟨by omega, by omega⟩ ⟨by omega, by omega⟩ (Nat.le_of_ble_eq_true rfl) (hg_ov hn [17, 23] rfl) hrx_0 (fun E g9 h => by obtain ⟨hv9, hg9⟩ := h; cases hv9) (fun v9 g9 hq hfr => ?_)
    obtain ⟨hv9, hg9⟩ := hq
    cases hv9
    subst hg9
    refine g_ovP [17, 23] [(x, .inr (5, [.ref xm, .ref xl, .ref xb, .ref xr, .ref xt, .int (nI c), .ref xg, .long sv, .int ps, .int bd])), (xm, .inr (2, [.ref m1, .ref m2, .ref m3, .int (nI n)])), (m1, .inl (.long, 24, .inr (.inl K))), (m2, .inl (.int, 24, .inl (fun q => nI (z q)))), (m3, .inl (.long, 24, .inr (.inl V))), (xl, .inr (1, [.ref l1, .int (nI u), .int (nI la), .int (nI le), .long lk, .int (nI ls), .long lw])), (l1, .inl (.byte, 1024, .inl (fun q => sb_b (L q)))), (xb, .inr (0, [.ref y, .ref s, .ref t, .int w])), (y, .inl (.byte, M * 32, .inl (fun q => sb_b (D q)))), (s, .inl (.int, M, .inl S)), (t, .inl (.int, M, .inl T)), (xr, .inr (4, [.ref xb, rt, .int (nI (b2n rb)), .int (nI ra), .int rft, .long rk, .int (nI rs), .long rv])), (xt, .inl (.object "RunStore$Table", 16, .inr (.inr (.inr (.inr rf))))), (xg, .inr (2, [.ref g1, .ref g2, .ref g3, .int (nI Gn)])), (g1, .inl (.long, NG, .inr (.inl GK))), (g2, .inl (.int, NG, .inl (fun q => nI (Gz q)))), (g3, .inl (.long, NG, .inr (.inl GV))), (h, .inr (6, [.int (nI 1), .int (nI M), .int (nI n), .ref y1, .ref y2, .ref y3, .int (nI u), .ref y4, .ref y5, .ref y6, .ref y7, .int (nI c), .ref y8, .ref y9, .ref y10, .ref y11, .ref y12, .int bd, .int w, .int ps, .int (nI pa), .int lc, .int (nI (b2n fb)), .long ek, .long ev, .int (nI el), .int (nI fn), .ref y13, .ref y14, .ref y15, .ref y16, .int (nI js), .ref y17, .int (nI (b2n ib))])), (y1, .inl (.long, 25, .inr (.inl K))), (y2, .inl (.long, 25, .inr (.inl V))), (y3, .inl (.int, 25, .inl (fun q => nI (z q)))), (y4, .inl (.int, 1024, .inl (fun q => nI (L q)))), (y5, .inl (.int, 4096, .inl (fun q => nI (D q)))), (y6, .inl (.int, 128, .inl S)), (y7, .inl (.boolean, 128, .inl Xt)), (y8, .inl (.int, 17, .inl (fun q => nI (lv q)))), (y9, .inl (.int, 17, .inl (fun q => nI (en q)))), (y10, .inl (.int, 17, .inl (fun q => nI (mn q)))), (y11, .inl (.int, 2176, .inl (fun q => nI (bk q)))), (y12, .inl (.long, 17, .inr (.inl fl))), (y13, .inl (.long, 500, .inr (.inl FK))), (y14, .inl (.long, 500, .inr (.inl FV))), (y15, .inl (.int, 500, .inl (fun q => nI (Fz q)))), (y16, .inl (.int, 4200, .inl (fun q => nI (J q)))), (y17, .inl (.int, 128, .inl (fun q => nI (pk q)))), (o, .inl (.long, 1, .inr (.inl O)))] rfl rfl hn ?_
    refine g_istore [(6, .int (nI 0)), (5, .int (nI 1)), (4, .int (nI ix)), (3, .ref o), (2, .ref h), (1, .ref x), (0, .ref b0)] X d_LW_law_1072 (by decide) rfl ?_
    refine g_aload_n X d_LW_law_1074 4 rfl ?_
    refine g_callVf (As := []) (st := []) X d_LW_law_1075 (c_MD_thrown hst hnh) (hl_ov 17 rfl hn) rfl rfl k_ml_LW_85 k_cd_MD_thrown k_in_MD k_im_MD_thrown k_se_MD_thrown ⟨by decide +kernel, by decide +kernel, (by decide +kernel : (parseMethodDescriptor "()I").map (fun d => d.parameters.length) = some 0)⟩ ⟨by omega, by omega⟩ ⟨by omega, by omega⟩ (Nat.le_of_ble_eq_true rfl) (hg_ov hn [17] rfl) hrx_0 (fun E g9 h => by obtain ⟨hv9, hg9⟩ := h; cases hv9) (fun v9 g9 hq hfr => ?_)
    obtain ⟨hv9, hg9⟩ := hq
    cases hv9
    subst hg9
    refine g_ovP [17] [(x, .inr (5, [.ref xm, .ref xl, .ref xb, .ref xr, .ref xt, .int (nI c), .ref xg, .long sv, .int ps, .int bd])), (xm, .inr (2, [.ref m1, .ref m2, .ref m3, .int (nI n)])), (m1, .inl (.long, 24, .inr (.inl K))), (m2, .inl (.int, 24, .inl (fun q => nI (z q)))), (m3, .inl (.long, 24, .inr (.inl V))), (xl, .inr (1, [.ref l1, .int (nI u), .int (nI la), .int (nI le), .long lk, .int (nI ls), .long lw])), (l1, .inl (.byte, 1024, .inl (fun q => sb_b (L q)))), (xb, .inr (0, [.ref y, .ref s, .ref t, .int w])), (y, .inl (.byte, M * 32, .inl (fun q => sb_b (D q)))), (s, .inl (.int, M, .inl S)), (t, .inl (.int, M, .inl T)), (xr, .inr (4, [.ref xb, rt, .int (nI (b2n rb)), .int (nI ra), .int rft, .long rk, .int (nI rs), .long rv])), (xt, .inl (.object "RunStore$Table", 16, .inr (.inr (.inr (.inr rf))))), (xg, .inr (2, [.ref g1, .ref g2, .ref g3, .int (nI Gn)])), (g1, .inl (.long, NG, .inr (.inl GK))), (g2, .inl (.int, NG, .inl (fun q => nI (Gz q)))), (g3, .inl (.long, NG, .inr (.inl GV))), (h, .inr (6, [.int (nI 1), .int (nI M), .int (nI n), .ref y1, .ref y2, .ref y3, .int (nI u), .ref y4, .ref y5, .ref y6, .ref y7, .int (nI c), .ref y8, .ref y9, .ref y10, .ref y11, .ref y12, .int bd, .int w, .int ps, .int (nI pa), .int lc, .int (nI (b2n fb)), .long ek, .long ev, .int (nI el), .int (nI fn), .ref y13, .ref y14, .ref y15, .ref y16, .int (nI js), .ref y17, .int (nI (b2n ib))])), (y1, .inl (.long, 25, .inr (.inl K))), (y2, .inl (.long, 25, .inr (.inl V))), (y3, .inl (.int, 25, .inl (fun q => nI (z q)))), (y4, .inl (.int, 1024, .inl (fun q => nI (L q)))), (y5, .inl (.int, 4096, .inl (fun q => nI (D q)))), (y6, .inl (.int, 128, .inl S)), (y7, .inl (.boolean, 128, .inl Xt)), (y8, .inl (.int, 17, .inl (fun q => nI (lv q)))), (y9, .inl (.int, 17, .inl (fun q => nI (en q)))), (y10, .inl (.int, 17, .inl (fun q => nI (mn q)))), (y11, .inl (.int, 2176, .inl (fun q => nI (bk q)))), (y12, .inl (.long, 17, .inr (.inl fl))), (y13, .inl (.long, 500, .inr (.inl FK))), (y14, .inl (.long, 500, .inr (.inl FV))), (y15, .inl (.int, 500, .inl (fun q => nI (Fz q)))), (y16, .inl (.int, 4200, .inl (fun q => nI (J q)))), (y17, .inl (.int, 128, .inl (fun q => nI (pk q)))), (o, .inl (.long, 1, .inr (.inl O)))] rfl rfl hn ?_
    refine g_iload X d_LW_law_1078 1 rfl ?_
    refine g_icmp_eq 1085 X d_LW_law_1080 (by decide) (fun h1080 => ?_) (fun h1080 => ?_)
    · have h1080 := cv_eq (by omega) (by omega) h1080
      refine g_iload X d_LW_law_1085 1 rfl ?_
      refine g_if_ne 1102 X d_LW_law_1087 (by decide) (fun h1087 => ?_) (fun h1087 => ?_)
      · have h1087 := cv_n0 (by omega) h1087
        refine g_goto 1292 X d_LW_law_1102 (by decide) ?_
        refine g_lv [2, 3, 4, 5, 6] [(4, .int (nI ix)), (3, .ref o), (2, .ref h), (1, .ref x), (0, .ref b0)] rfl ?_
        refine g_widen (ce' := ce + 5) (sl' := sl + 150) (by omega) (by omega) ?_
        exact kk _ ⟨_, _, _, _, _, _, _, _, _, _, _, _, _, _, _, _, _, _, _, _, _, _, _, _, _, _, _, _, _, _, _, _, _, _, _, _, _, _, _, _, _, _, _, _, _, _, _, _, _, _, _, _, _, _, _, _, _, rfl, hn24, hs, hz, hu, hL, hD, hc16, hP, hI, hB, hX, hPd⟩
      · have h1087 := cv_e0 (by omega) h1087
        omega
    · have h1080 := cv_ne (by omega) (by omega) h1080
      omega

set_option maxRecDepth 100000 in
set_option maxHeartbeats 4000000 in
theorem law_logged {mp : Program} {l : Launch} {me : Env} {mR : Room} {sm : State} {mm : MethodId} {margs : Array Value} {mbel : List Frame} {mmet : Method} {mcod : Code} {mD : va_G} {f9 : fh_M} {Q9 : State → Prop} {ce sl b0 Ls ix : Nat} {xs : Nat → Int32} (X : fh_X mp l sm mm margs mmet mcod mD fhCl fhT f9 (hp []) y_LW_law.cls b_LW_law 8) (hScr : lwX sm f9 b0 Ls xs) (hst : l.stackTraces = false) (hNw : lwN sm) (hRf : 12 ≤ mR.frames) (hRl : 438 ≤ mR.locals) (hRc : ce + 5 ≤ mR.cells) (hRs : sl + 150 ≤ mR.slots) {M NG x xm m1 m2 m3 xl l1 xb y s t xr xt xg g1 g2 g3 h y1 y2 y3 y4 y5 y6 y7 y8 y9 y10 y11 y12 y13 y14 y15 y16 y17 o : Nat} (hM4 : 4 ≤ M) (hM : M ≤ 128) (hNGe : NG = 24 + M * 32 / 9) (hn : [x, xm, m1, m2, m3, xl, l1, xb, y, s, t, xr, xt, xg, g1, g2, g3, h, y1, y2, y3, y4, y5, y6, y7, y8, y9, y10, y11, y12, y13, y14, y15, y16, y17, o].Nodup) (hLs : Ls ≤ 3073) (hix : ix + 5 < Ls) {f : fh_M} (hS : lwS M NG x xm m1 m2 m3 xl l1 xb y s t xr xt xg g1 g2 g3 h y1 y2 y3 y4 y5 y6 y7 y8 y9 y10 y11 y12 y13 y14 y15 y16 y17 o f)  (kk : ∀ f, lwS M NG x xm m1 m2 m3 xl l1 xb y s t xr xt xg g1 g2 g3 h y1 y2 y3 y4 y5 y6 y7 y8 y9 y10 y11 y12 y13 y14 y15 y16 y17 o f → fh_G mp l me mR sm mm margs mbel mmet mcod mD fhCl f9 8 Q9 (ce + 5) (sl + 150) f 1292 [(4, .int (nI ix)), (3, .ref o), (2, .ref h), (1, .ref x), (0, .ref b0)] []) : fh_G mp l me mR sm mm margs mbel mmet mcod mD fhCl f9 8 Q9 (ce) (sl) f 1105 [(4, .int (nI ix)), (3, .ref o), (2, .ref h), (1, .ref x), (0, .ref b0)] [] := by
  refine lwS_elim (C9 := fun f => fh_G mp l me mR sm mm margs mbel mmet mcod mD fhCl f9 8 Q9 (ce) (sl) f 1105 [(4, .int (nI ix)), (3, .ref o), (2, .ref h), (1, .ref x), (0, .ref b0)] []) hS (fun K z V n L u D S T tb c ps bd w sv la le lk ls lw rt rb ra rft rk rs rv rf tq ti P GK Gz GV Gn th pa lc fb ek ev el fn js ib Xt lv en mn fl bk FK FV Fz J pk O hn24 hs hz hu hL hD hc16 hP hI hB hX hPd => ?_)
  show fh_G mp l me mR sm mm margs mbel mmet mcod mD fhCl f9 8 Q9 (ce) (sl) (fh_ov (hp [(x, .inr (5, [.ref xm, .ref xl, .ref xb, .ref xr, .ref xt, .int (nI c), .ref xg, .long sv, .int ps, .int bd])), (xm, .inr (2, [.ref m1, .ref m2, .ref m3, .int (nI n)])), (m1, .inl (.long, 24, .inr (.inl K))), (m2, .inl (.int, 24, .inl (fun q => nI (z q)))), (m3, .inl (.long, 24, .inr (.inl V))), (xl, .inr (1, [.ref l1, .int (nI u), .int (nI la), .int (nI le), .long lk, .int (nI ls), .long lw])), (l1, .inl (.byte, 1024, .inl (fun q => sb_b (L q)))), (xb, .inr (0, [.ref y, .ref s, .ref t, .int w])), (y, .inl (.byte, M * 32, .inl (fun q => sb_b (D q)))), (s, .inl (.int, M, .inl S)), (t, .inl (.int, M, .inl T)), (xr, .inr (4, [.ref xb, rt, .int (nI (b2n rb)), .int (nI ra), .int rft, .long rk, .int (nI rs), .long rv])), (xt, .inl (.object "RunStore$Table", 16, .inr (.inr (.inr (.inr rf))))), (xg, .inr (2, [.ref g1, .ref g2, .ref g3, .int (nI Gn)])), (g1, .inl (.long, NG, .inr (.inl GK))), (g2, .inl (.int, NG, .inl (fun q => nI (Gz q)))), (g3, .inl (.long, NG, .inr (.inl GV))), (h, .inr (6, [.int th, .int (nI M), .int (nI n), .ref y1, .ref y2, .ref y3, .int (nI u), .ref y4, .ref y5, .ref y6, .ref y7, .int (nI c), .ref y8, .ref y9, .ref y10, .ref y11, .ref y12, .int bd, .int w, .int ps, .int (nI pa), .int lc, .int (nI (b2n fb)), .long ek, .long ev, .int (nI el), .int (nI fn), .ref y13, .ref y14, .ref y15, .ref y16, .int (nI js), .ref y17, .int (nI (b2n ib))])), (y1, .inl (.long, 25, .inr (.inl K))), (y2, .inl (.long, 25, .inr (.inl V))), (y3, .inl (.int, 25, .inl (fun q => nI (z q)))), (y4, .inl (.int, 1024, .inl (fun q => nI (L q)))), (y5, .inl (.int, 4096, .inl (fun q => nI (D q)))), (y6, .inl (.int, 128, .inl S)), (y7, .inl (.boolean, 128, .inl Xt)), (y8, .inl (.int, 17, .inl (fun q => nI (lv q)))), (y9, .inl (.int, 17, .inl (fun q => nI (en q)))), (y10, .inl (.int, 17, .inl (fun q => nI (mn q)))), (y11, .inl (.int, 2176, .inl (fun q => nI (bk q)))), (y12, .inl (.long, 17, .inr (.inl fl))), (y13, .inl (.long, 500, .inr (.inl FK))), (y14, .inl (.long, 500, .inr (.inl FV))), (y15, .inl (.int, 500, .inl (fun q => nI (Fz q)))), (y16, .inl (.int, 4200, .inl (fun q => nI (J q)))), (y17, .inl (.int, 128, .inl (fun q => nI (pk q)))), (o, .inl (.long, 1, .inr (.inl O)))]) P) 1105 [(4, .int (nI ix)), (3, .ref o), (2, .ref h), (1, .ref x), (0, .ref b0)] []
  have hnh : [h].Nodup := nd_pick [x, xm, m1, m2, m3, xl, l1, xb, y, s, t, xr, xt, xg, g1, g2, g3, h, y1, y2, y3, y4, y5, y6, y7, y8, y9, y10, y11, y12, y13, y14, y15, y16, y17, o] [17] 36 hn (by decide) rfl (by decide)
  have hnm : [h, y4].Nodup := nd_pick [x, xm, m1, m2, m3, xl, l1, xb, y, s, t, xr, xt, xg, g1, g2, g3, h, y1, y2, y3, y4, y5, y6, y7, y8, y9, y10, y11, y12, y13, y14, y15, y16, y17, o] [17, 21] 36 hn (by decide) rfl (by decide)
  rcases rng0 (xs (ix + 1)) (c := u) (by omega) with ⟨j, hj, hv⟩ | hv
  · have hn9 : [x, xl, l1, o].Nodup := nd_pick [x, xm, m1, m2, m3, xl, l1, xb, y, s, t, xr, xt, xg, g1, g2, g3, h, y1, y2, y3, y4, y5, y6, y7, y8, y9, y10, y11, y12, y13, y14, y15, y16, y17, o] [0, 5, 6, 35] 36 hn (by decide) rfl (by decide)
    refine g_aload_n X d_LW_law_1105 3 rfl ?_
    refine g_aload_n X d_LW_law_1106 4 rfl ?_
    refine g_iload X d_LW_law_1107 0 rfl ?_
    refine g_iconst (nI 1) X d_LW_law_1109 (by decide) ?_
    refine g_iadd X d_LW_law_1110 ?_
    refine g_vi (nI (ix + 1)) (nI_add _ _) ?_
    refine s_iald X hScr d_LW_law_1111 (by omega) (by omega) ?_
    refine g_vi (nI j) hv ?_
    refine g_aload_n X d_LW_law_1112 1 rfl ?_
    refine g_callSW (As := [.ref x, .int (nI j), .ref o]) (st := []) X d_LW_law_1113 (c_LW_logged_in hst hL hu hn9 hj) lwN_s hNw rfl k_ml_LW_127 k_cd_LW_logged k_in_LW k_st_LW_logged ⟨by decide +kernel, by decide +kernel, (by decide +kernel : (parseMethodDescriptor "(LRunStore;I[J)I").map (fun d => d.parameters.length) = some 3)⟩ ⟨by omega, by omega⟩ ⟨by omega, by omega⟩ (Nat.le_of_ble_eq_true rfl) (hg_ov hn [0, 5, 6, 35] rfl) hrx_0 (fun E g9 h => by obtain ⟨hv9, hg9⟩ := h; cases hv9) (fun v9 g9 hq hfr => ?_)
    obtain ⟨hv9, hg9⟩ := hq
    cases hv9
    subst hg9
    refine g_ovP [0, 5, 6, 35] [(x, .inr (5, [.ref xm, .ref xl, .ref xb, .ref xr, .ref xt, .int (nI c), .ref xg, .long sv, .int ps, .int bd])), (xm, .inr (2, [.ref m1, .ref m2, .ref m3, .int (nI n)])), (m1, .inl (.long, 24, .inr (.inl K))), (m2, .inl (.int, 24, .inl (fun q => nI (z q)))), (m3, .inl (.long, 24, .inr (.inl V))), (xl, .inr (1, [.ref l1, .int (nI u), .int (nI la), .int (nI le), .long lk, .int (nI ls), .long lw])), (l1, .inl (.byte, 1024, .inl (fun q => sb_b (L q)))), (xb, .inr (0, [.ref y, .ref s, .ref t, .int w])), (y, .inl (.byte, M * 32, .inl (fun q => sb_b (D q)))), (s, .inl (.int, M, .inl S)), (t, .inl (.int, M, .inl T)), (xr, .inr (4, [.ref xb, rt, .int (nI (b2n rb)), .int (nI ra), .int rft, .long rk, .int (nI rs), .long rv])), (xt, .inl (.object "RunStore$Table", 16, .inr (.inr (.inr (.inr rf))))), (xg, .inr (2, [.ref g1, .ref g2, .ref g3, .int (nI Gn)])), (g1, .inl (.long, NG, .inr (.inl GK))), (g2, .inl (.int, NG, .inl (fun q => nI (Gz q)))), (g3, .inl (.long, NG, .inr (.inl GV))), (h, .inr (6, [.int th, .int (nI M), .int (nI n), .ref y1, .ref y2, .ref y3, .int (nI u), .ref y4, .ref y5, .ref y6, .ref y7, .int (nI c), .ref y8, .ref y9, .ref y10, .ref y11, .ref y12, .int bd, .int w, .int ps, .int (nI pa), .int lc, .int (nI (b2n fb)), .long ek, .long ev, .int (nI el), .int (nI fn), .ref y13, .ref y14, .ref y15, .ref y16, .int (nI js), .ref y17, .int (nI (b2n ib))])), (y1, .inl (.long, 25, .inr (.inl K))), (y2, .inl (.long, 25, .inr (.inl V))), (y3, .inl (.int, 25, .inl (fun q => nI (z q)))), (y4, .inl (.int, 1024, .inl (fun q => nI (L q)))), (y5, .inl (.int, 4096, .inl (fun q => nI (D q)))), (y6, .inl (.int, 128, .inl S)), (y7, .inl (.boolean, 128, .inl Xt)), (y8, .inl (.int, 17, .inl (fun q => nI (lv q)))), (y9, .inl (.int, 17, .inl (fun q => nI (en q)))), (y10, .inl (.int, 17, .inl (fun q => nI (mn q)))), (y11, .inl (.int, 2176, .inl (fun q => nI (bk q)))), (y12, .inl (.long, 17, .inr (.inl fl))), (y13, .inl (.long, 500, .inr (.inl FK))), (y14, .inl (.long, 500, .inr (.inl FV))), (y15, .inl (.int, 500, .inl (fun q => nI (Fz q)))), (y16, .inl (.int, 4200, .inl (fun q => nI (J q)))), (y17, .inl (.int, 128, .inl (fun q => nI (pk q)))), (o, .inl (.long, 1, .inr (.inl (va_up O 0 ((nI (L j)).toInt64)))))] rfl rfl hn ?_
    refine g_istore [(5, .int (nI 0)), (4, .int (nI ix)), (3, .ref o), (2, .ref h), (1, .ref x), (0, .ref b0)] X d_LW_law_1116 (by decide) rfl ?_
    refine g_aload_n X d_LW_law_1118 3 rfl ?_
    refine g_aload_n X d_LW_law_1119 5 rfl ?_
    refine g_iload X d_LW_law_1120 1 rfl ?_
    refine g_iconst (nI 1) X d_LW_law_1122 (by decide) ?_
    refine g_iadd X d_LW_law_1123 ?_
    refine g_vi (nI (ix + 1)) (nI_add _ _) ?_
    refine s_iald X hScr d_LW_law_1124 (by omega) (by omega) ?_
    refine g_vi (nI j) hv ?_
    refine g_callVf (As := [.int (nI j)]) (st := []) X d_LW_law_1125 (c_MD_logged_in hst hnm hj hu) (hl_ov 17 rfl hn) rfl rfl k_ml_LW_129 k_cd_MD_logged k_in_MD k_im_MD_logged k_se_MD_logged ⟨by decide +kernel, by decide +kernel, (by decide +kernel : (parseMethodDescriptor "(I)I").map (fun d => d.parameters.length) = some 1)⟩ ⟨by omega, by omega⟩ ⟨by omega, by omega⟩ (Nat.le_of_ble_eq_true rfl) (hg_ov hn [17, 21] rfl) hrx_0 (fun E g9 h => by obtain ⟨hv9, hg9⟩ := h; cases hv9) (fun v9 g9 hq hfr => ?_)
    obtain ⟨hv9, hg9⟩ := hq
    cases hv9
    subst hg9
    refine g_ovP [17, 21] [(x, .inr (5, [.ref xm, .ref xl, .ref xb, .ref xr, .ref xt, .int (nI c), .ref xg, .long sv, .int ps, .int bd])), (xm, .inr (2, [.ref m1, .ref m2, .ref m3, .int (nI n)])), (m1, .inl (.long, 24, .inr (.inl K))), (m2, .inl (.int, 24, .inl (fun q => nI (z q)))), (m3, .inl (.long, 24, .inr (.inl V))), (xl, .inr (1, [.ref l1, .int (nI u), .int (nI la), .int (nI le), .long lk, .int (nI ls), .long lw])), (l1, .inl (.byte, 1024, .inl (fun q => sb_b (L q)))), (xb, .inr (0, [.ref y, .ref s, .ref t, .int w])), (y, .inl (.byte, M * 32, .inl (fun q => sb_b (D q)))), (s, .inl (.int, M, .inl S)), (t, .inl (.int, M, .inl T)), (xr, .inr (4, [.ref xb, rt, .int (nI (b2n rb)), .int (nI ra), .int rft, .long rk, .int (nI rs), .long rv])), (xt, .inl (.object "RunStore$Table", 16, .inr (.inr (.inr (.inr rf))))), (xg, .inr (2, [.ref g1, .ref g2, .ref g3, .int (nI Gn)])), (g1, .inl (.long, NG, .inr (.inl GK))), (g2, .inl (.int, NG, .inl (fun q => nI (Gz q)))), (g3, .inl (.long, NG, .inr (.inl GV))), (h, .inr (6, [.int (nI 0), .int (nI M), .int (nI n), .ref y1, .ref y2, .ref y3, .int (nI u), .ref y4, .ref y5, .ref y6, .ref y7, .int (nI c), .ref y8, .ref y9, .ref y10, .ref y11, .ref y12, .int bd, .int w, .int ps, .int (nI pa), .int lc, .int (nI (b2n fb)), .long ek, .long ev, .int (nI el), .int (nI fn), .ref y13, .ref y14, .ref y15, .ref y16, .int (nI js), .ref y17, .int (nI (b2n ib))])), (y1, .inl (.long, 25, .inr (.inl K))), (y2, .inl (.long, 25, .inr (.inl V))), (y3, .inl (.int, 25, .inl (fun q => nI (z q)))), (y4, .inl (.int, 1024, .inl (fun q => nI (L q)))), (y5, .inl (.int, 4096, .inl (fun q => nI (D q)))), (y6, .inl (.int, 128, .inl S)), (y7, .inl (.boolean, 128, .inl Xt)), (y8, .inl (.int, 17, .inl (fun q => nI (lv q)))), (y9, .inl (.int, 17, .inl (fun q => nI (en q)))), (y10, .inl (.int, 17, .inl (fun q => nI (mn q)))), (y11, .inl (.int, 2176, .inl (fun q => nI (bk q)))), (y12, .inl (.long, 17, .inr (.inl fl))), (y13, .inl (.long, 500, .inr (.inl FK))), (y14, .inl (.long, 500, .inr (.inl FV))), (y15, .inl (.int, 500, .inl (fun q => nI (Fz q)))), (y16, .inl (.int, 4200, .inl (fun q => nI (J q)))), (y17, .inl (.int, 128, .inl (fun q => nI (pk q)))), (o, .inl (.long, 1, .inr (.inl (va_up O 0 ((nI (L j)).toInt64)))))] rfl rfl hn ?_
    refine g_istore [(6, .int (nI (L j))), (5, .int (nI 0)), (4, .int (nI ix)), (3, .ref o), (2, .ref h), (1, .ref x), (0, .ref b0)] X d_LW_law_1128 (by decide) rfl ?_
    refine g_aload_n X d_LW_law_1130 4 rfl ?_
    refine g_callVf (As := []) (st := []) X d_LW_law_1131 (c_MD_thrown hst hnh) (hl_ov 17 rfl hn) rfl rfl k_ml_LW_85 k_cd_MD_thrown k_in_MD k_im_MD_thrown k_se_MD_thrown ⟨by decide +kernel, by decide +kernel, (by decide +kernel : (parseMethodDescriptor "()I").map (fun d => d.parameters.length) = some 0)⟩ ⟨by omega, by omega⟩ ⟨by omega, by omega⟩ (Nat.le_of_ble_eq_true rfl) (hg_ov hn [17] rfl) hrx_0 (fun E g9 h => by obtain ⟨hv9, hg9⟩ := h; cases hv9) (fun v9 g9 hq hfr => ?_)
    obtain ⟨hv9, hg9⟩ := hq
    cases hv9
    subst hg9
    refine g_ovP [17] [(x, .inr (5, [.ref xm, .ref xl, .ref xb, .ref xr, .ref xt, .int (nI c), .ref xg, .long sv, .int ps, .int bd])), (xm, .inr (2, [.ref m1, .ref m2, .ref m3, .int (nI n)])), (m1, .inl (.long, 24, .inr (.inl K))), (m2, .inl (.int, 24, .inl (fun q => nI (z q)))), (m3, .inl (.long, 24, .inr (.inl V))), (xl, .inr (1, [.ref l1, .int (nI u), .int (nI la), .int (nI le), .long lk, .int (nI ls), .long lw])), (l1, .inl (.byte, 1024, .inl (fun q => sb_b (L q)))), (xb, .inr (0, [.ref y, .ref s, .ref t, .int w])), (y, .inl (.byte, M * 32, .inl (fun q => sb_b (D q)))), (s, .inl (.int, M, .inl S)), (t, .inl (.int, M, .inl T)), (xr, .inr (4, [.ref xb, rt, .int (nI (b2n rb)), .int (nI ra), .int rft, .long rk, .int (nI rs), .long rv])), (xt, .inl (.object "RunStore$Table", 16, .inr (.inr (.inr (.inr rf))))), (xg, .inr (2, [.ref g1, .ref g2, .ref g3, .int (nI Gn)])), (g1, .inl (.long, NG, .inr (.inl GK))), (g2, .inl (.int, NG, .inl (fun q => nI (Gz q)))), (g3, .inl (.long, NG, .inr (.inl GV))), (h, .inr (6, [.int (nI 0), .int (nI M), .int (nI n), .ref y1, .ref y2, .ref y3, .int (nI u), .ref y4, .ref y5, .ref y6, .ref y7, .int (nI c), .ref y8, .ref y9, .ref y10, .ref y11, .ref y12, .int bd, .int w, .int ps, .int (nI pa), .int lc, .int (nI (b2n fb)), .long ek, .long ev, .int (nI el), .int (nI fn), .ref y13, .ref y14, .ref y15, .ref y16, .int (nI js), .ref y17, .int (nI (b2n ib))])), (y1, .inl (.long, 25, .inr (.inl K))), (y2, .inl (.long, 25, .inr (.inl V))), (y3, .inl (.int, 25, .inl (fun q => nI (z q)))), (y4, .inl (.int, 1024, .inl (fun q => nI (L q)))), (y5, .inl (.int, 4096, .inl (fun q => nI (D q)))), (y6, .inl (.int, 128, .inl S)), (y7, .inl (.boolean, 128, .inl Xt)), (y8, .inl (.int, 17, .inl (fun q => nI (lv q)))), (y9, .inl (.int, 17, .inl (fun q => nI (en q)))), (y10, .inl (.int, 17, .inl (fun q => nI (mn q)))), (y11, .inl (.int, 2176, .inl (fun q => nI (bk q)))), (y12, .inl (.long, 17, .inr (.inl fl))), (y13, .inl (.long, 500, .inr (.inl FK))), (y14, .inl (.long, 500, .inr (.inl FV))), (y15, .inl (.int, 500, .inl (fun q => nI (Fz q)))), (y16, .inl (.int, 4200, .inl (fun q => nI (J q)))), (y17, .inl (.int, 128, .inl (fun q => nI (pk q)))), (o, .inl (.long, 1, .inr (.inl (va_up O 0 ((nI (L j)).toInt64)))))] rfl rfl hn ?_
    refine g_iload X d_LW_law_1134 1 rfl ?_
    refine g_icmp_eq 1141 X d_LW_law_1136 (by decide) (fun h1136 => ?_) (fun h1136 => ?_)
    · have h1136 := cv_eq (by omega) (by omega) h1136
      refine g_iload X d_LW_law_1141 1 rfl ?_
      refine g_if_ne 1158 X d_LW_law_1143 (by decide) (fun h1143 => ?_) (fun h1143 => ?_)
      · have h1143 := cv_n0 (by omega) h1143
        omega
      · have h1143 := cv_e0 (by omega) h1143
        refine g_aload_n X d_LW_law_1146 3 rfl ?_
        refine g_iconst (nI 0) X d_LW_law_1147 (by decide) ?_
        refine h_lald X d_LW_law_1148 (hl_ov 35 rfl hn) (by omega) (by omega) ?_
        refine g_iload X d_LW_law_1149 0 rfl ?_
        refine g_i2l X d_LW_law_1151 ?_
        refine g_lcmp X d_LW_law_1152 ?_
        refine g_if_eq 1158 X d_LW_law_1153 (by decide) (fun h1153 => ?_) (fun h1153 => ?_)
        · have h1153 := (lg_cmp_eq ((va_up O 0 ((nI (L j)).toInt64)) 0) ((nI (L j)).toInt64)).mp h1153
          refine g_goto 1292 X d_LW_law_1158 (by decide) ?_
          refine g_lv [2, 3, 4, 5, 6] [(4, .int (nI ix)), (3, .ref o), (2, .ref h), (1, .ref x), (0, .ref b0)] rfl ?_
          refine g_widen (ce' := ce + 5) (sl' := sl + 150) (by omega) (by omega) ?_
          exact kk _ ⟨_, _, _, _, _, _, _, _, _, _, _, _, _, _, _, _, _, _, _, _, _, _, _, _, _, _, _, _, _, _, _, _, _, _, _, _, _, _, _, _, _, _, _, _, _, _, _, _, _, _, _, _, _, _, _, _, _, rfl, hn24, hs, hz, hu, hL, hD, hc16, hP, hI, hB, hX, hPd⟩
        · have h1153 := fun z8 => h1153 ((lg_cmp_eq ((va_up O 0 ((nI (L j)).toInt64)) 0) ((nI (L j)).toInt64)).mpr z8)
          exact absurd (va_up_self _ _ _) h1153
    · have h1136 := cv_ne (by omega) (by omega) h1136
      omega
  · have hn9 : [x, xl, l1, o].Nodup := nd_pick [x, xm, m1, m2, m3, xl, l1, xb, y, s, t, xr, xt, xg, g1, g2, g3, h, y1, y2, y3, y4, y5, y6, y7, y8, y9, y10, y11, y12, y13, y14, y15, y16, y17, o] [0, 5, 6, 35] 36 hn (by decide) rfl (by decide)
    refine g_aload_n X d_LW_law_1105 3 rfl ?_
    refine g_aload_n X d_LW_law_1106 4 rfl ?_
    refine g_iload X d_LW_law_1107 0 rfl ?_
    refine g_iconst (nI 1) X d_LW_law_1109 (by decide) ?_
    refine g_iadd X d_LW_law_1110 ?_
    refine g_vi (nI (ix + 1)) (nI_add _ _) ?_
    refine s_iald X hScr d_LW_law_1111 (by omega) (by omega) ?_
    refine g_aload_n X d_LW_law_1112 1 rfl ?_
    refine g_callSW (As := [.ref x, .int (xs (ix + 1)), .ref o]) (st := []) X d_LW_law_1113 (c_LW_logged_no hst hL hu hn9 hv) lwN_s hNw rfl k_ml_LW_127 k_cd_LW_logged k_in_LW k_st_LW_logged ⟨by decide +kernel, by decide +kernel, (by decide +kernel : (parseMethodDescriptor "(LRunStore;I[J)I").map (fun d => d.parameters.length) = some 3)⟩ ⟨by omega, by omega⟩ ⟨by omega, by omega⟩ (Nat.le_of_ble_eq_true rfl) (hg_ov hn [0, 5, 6, 35] rfl) hrx_0 (fun E g9 h => by obtain ⟨hv9, hg9⟩ := h; cases hv9) (fun v9 g9 hq hfr => ?_)
    obtain ⟨hv9, hg9⟩ := hq
    cases hv9
    subst hg9
    refine g_ovP [0, 5, 6, 35] [(x, .inr (5, [.ref xm, .ref xl, .ref xb, .ref xr, .ref xt, .int (nI c), .ref xg, .long sv, .int ps, .int bd])), (xm, .inr (2, [.ref m1, .ref m2, .ref m3, .int (nI n)])), (m1, .inl (.long, 24, .inr (.inl K))), (m2, .inl (.int, 24, .inl (fun q => nI (z q)))), (m3, .inl (.long, 24, .inr (.inl V))), (xl, .inr (1, [.ref l1, .int (nI u), .int (nI la), .int (nI le), .long lk, .int (nI ls), .long lw])), (l1, .inl (.byte, 1024, .inl (fun q => sb_b (L q)))), (xb, .inr (0, [.ref y, .ref s, .ref t, .int w])), (y, .inl (.byte, M * 32, .inl (fun q => sb_b (D q)))), (s, .inl (.int, M, .inl S)), (t, .inl (.int, M, .inl T)), (xr, .inr (4, [.ref xb, rt, .int (nI (b2n rb)), .int (nI ra), .int rft, .long rk, .int (nI rs), .long rv])), (xt, .inl (.object "RunStore$Table", 16, .inr (.inr (.inr (.inr rf))))), (xg, .inr (2, [.ref g1, .ref g2, .ref g3, .int (nI Gn)])), (g1, .inl (.long, NG, .inr (.inl GK))), (g2, .inl (.int, NG, .inl (fun q => nI (Gz q)))), (g3, .inl (.long, NG, .inr (.inl GV))), (h, .inr (6, [.int th, .int (nI M), .int (nI n), .ref y1, .ref y2, .ref y3, .int (nI u), .ref y4, .ref y5, .ref y6, .ref y7, .int (nI c), .ref y8, .ref y9, .ref y10, .ref y11, .ref y12, .int bd, .int w, .int ps, .int (nI pa), .int lc, .int (nI (b2n fb)), .long ek, .long ev, .int (nI el), .int (nI fn), .ref y13, .ref y14, .ref y15, .ref y16, .int (nI js), .ref y17, .int (nI (b2n ib))])), (y1, .inl (.long, 25, .inr (.inl K))), (y2, .inl (.long, 25, .inr (.inl V))), (y3, .inl (.int, 25, .inl (fun q => nI (z q)))), (y4, .inl (.int, 1024, .inl (fun q => nI (L q)))), (y5, .inl (.int, 4096, .inl (fun q => nI (D q)))), (y6, .inl (.int, 128, .inl S)), (y7, .inl (.boolean, 128, .inl Xt)), (y8, .inl (.int, 17, .inl (fun q => nI (lv q)))), (y9, .inl (.int, 17, .inl (fun q => nI (en q)))), (y10, .inl (.int, 17, .inl (fun q => nI (mn q)))), (y11, .inl (.int, 2176, .inl (fun q => nI (bk q)))), (y12, .inl (.long, 17, .inr (.inl fl))), (y13, .inl (.long, 500, .inr (.inl FK))), (y14, .inl (.long, 500, .inr (.inl FV))), (y15, .inl (.int, 500, .inl (fun q => nI (Fz q)))), (y16, .inl (.int, 4200, .inl (fun q => nI (J q)))), (y17, .inl (.int, 128, .inl (fun q => nI (pk q)))), (o, .inl (.long, 1, .inr (.inl O)))] rfl rfl hn ?_
    refine g_istore [(5, .int (nI 1)), (4, .int (nI ix)), (3, .ref o), (2, .ref h), (1, .ref x), (0, .ref b0)] X d_LW_law_1116 (by decide) rfl ?_
    refine g_aload_n X d_LW_law_1118 3 rfl ?_
    refine g_aload_n X d_LW_law_1119 5 rfl ?_
    refine g_iload X d_LW_law_1120 1 rfl ?_
    refine g_iconst (nI 1) X d_LW_law_1122 (by decide) ?_
    refine g_iadd X d_LW_law_1123 ?_
    refine g_vi (nI (ix + 1)) (nI_add _ _) ?_
    refine s_iald X hScr d_LW_law_1124 (by omega) (by omega) ?_
    refine g_callVf (As := [.int (xs (ix + 1))]) (st := []) X d_LW_law_1125 (c_MD_logged_no hst hnm hv hu) (hl_ov 17 rfl hn) rfl rfl k_ml_LW_129 k_cd_MD_logged k_in_MD k_im_MD_logged k_se_MD_logged ⟨by decide +kernel, by decide +kernel, (by decide +kernel : (parseMethodDescriptor "(I)I").map (fun d => d.parameters.length) = some 1)⟩ ⟨by omega, by omega⟩ ⟨by omega, by omega⟩ (Nat.le_of_ble_eq_true rfl) (hg_ov hn [17, 21] rfl) hrx_0 (fun E g9 h => by obtain ⟨hv9, hg9⟩ := h; cases hv9) (fun v9 g9 hq hfr => ?_)
    obtain ⟨hv9, hg9⟩ := hq
    cases hv9
    subst hg9
    refine g_ovP [17, 21] [(x, .inr (5, [.ref xm, .ref xl, .ref xb, .ref xr, .ref xt, .int (nI c), .ref xg, .long sv, .int ps, .int bd])), (xm, .inr (2, [.ref m1, .ref m2, .ref m3, .int (nI n)])), (m1, .inl (.long, 24, .inr (.inl K))), (m2, .inl (.int, 24, .inl (fun q => nI (z q)))), (m3, .inl (.long, 24, .inr (.inl V))), (xl, .inr (1, [.ref l1, .int (nI u), .int (nI la), .int (nI le), .long lk, .int (nI ls), .long lw])), (l1, .inl (.byte, 1024, .inl (fun q => sb_b (L q)))), (xb, .inr (0, [.ref y, .ref s, .ref t, .int w])), (y, .inl (.byte, M * 32, .inl (fun q => sb_b (D q)))), (s, .inl (.int, M, .inl S)), (t, .inl (.int, M, .inl T)), (xr, .inr (4, [.ref xb, rt, .int (nI (b2n rb)), .int (nI ra), .int rft, .long rk, .int (nI rs), .long rv])), (xt, .inl (.object "RunStore$Table", 16, .inr (.inr (.inr (.inr rf))))), (xg, .inr (2, [.ref g1, .ref g2, .ref g3, .int (nI Gn)])), (g1, .inl (.long, NG, .inr (.inl GK))), (g2, .inl (.int, NG, .inl (fun q => nI (Gz q)))), (g3, .inl (.long, NG, .inr (.inl GV))), (h, .inr (6, [.int (nI 1), .int (nI M), .int (nI n), .ref y1, .ref y2, .ref y3, .int (nI u), .ref y4, .ref y5, .ref y6, .ref y7, .int (nI c), .ref y8, .ref y9, .ref y10, .ref y11, .ref y12, .int bd, .int w, .int ps, .int (nI pa), .int lc, .int (nI (b2n fb)), .long ek, .long ev, .int (nI el), .int (nI fn), .ref y13, .ref y14, .ref y15, .ref y16, .int (nI js), .ref y17, .int (nI (b2n ib))])), (y1, .inl (.long, 25, .inr (.inl K))), (y2, .inl (.long, 25, .inr (.inl V))), (y3, .inl (.int, 25, .inl (fun q => nI (z q)))), (y4, .inl (.int, 1024, .inl (fun q => nI (L q)))), (y5, .inl (.int, 4096, .inl (fun q => nI (D q)))), (y6, .inl (.int, 128, .inl S)), (y7, .inl (.boolean, 128, .inl Xt)), (y8, .inl (.int, 17, .inl (fun q => nI (lv q)))), (y9, .inl (.int, 17, .inl (fun q => nI (en q)))), (y10, .inl (.int, 17, .inl (fun q => nI (mn q)))), (y11, .inl (.int, 2176, .inl (fun q => nI (bk q)))), (y12, .inl (.long, 17, .inr (.inl fl))), (y13, .inl (.long, 500, .inr (.inl FK))), (y14, .inl (.long, 500, .inr (.inl FV))), (y15, .inl (.int, 500, .inl (fun q => nI (Fz q)))), (y16, .inl (.int, 4200, .inl (fun q => nI (J q)))), (y17, .inl (.int, 128, .inl (fun q => nI (pk q)))), (o, .inl (.long, 1, .inr (.inl O)))] rfl rfl hn ?_
    refine g_istore [(6, .int (nI 0)), (5, .int (nI 1)), (4, .int (nI ix)), (3, .ref o), (2, .ref h), (1, .ref x), (0, .ref b0)] X d_LW_law_1128 (by decide) rfl ?_
    refine g_aload_n X d_LW_law_1130 4 rfl ?_
    refine g_callVf (As := []) (st := []) X d_LW_law_1131 (c_MD_thrown hst hnh) (hl_ov 17 rfl hn) rfl rfl k_ml_LW_85 k_cd_MD_thrown k_in_MD k_im_MD_thrown k_se_MD_thrown ⟨by decide +kernel, by decide +kernel, (by decide +kernel : (parseMethodDescriptor "()I").map (fun d => d.parameters.length) = some 0)⟩ ⟨by omega, by omega⟩ ⟨by omega, by omega⟩ (Nat.le_of_ble_eq_true rfl) (hg_ov hn [17] rfl) hrx_0 (fun E g9 h => by obtain ⟨hv9, hg9⟩ := h; cases hv9) (fun v9 g9 hq hfr => ?_)
    obtain ⟨hv9, hg9⟩ := hq
    cases hv9
    subst hg9
    refine g_ovP [17] [(x, .inr (5, [.ref xm, .ref xl, .ref xb, .ref xr, .ref xt, .int (nI c), .ref xg, .long sv, .int ps, .int bd])), (xm, .inr (2, [.ref m1, .ref m2, .ref m3, .int (nI n)])), (m1, .inl (.long, 24, .inr (.inl K))), (m2, .inl (.int, 24, .inl (fun q => nI (z q)))), (m3, .inl (.long, 24, .inr (.inl V))), (xl, .inr (1, [.ref l1, .int (nI u), .int (nI la), .int (nI le), .long lk, .int (nI ls), .long lw])), (l1, .inl (.byte, 1024, .inl (fun q => sb_b (L q)))), (xb, .inr (0, [.ref y, .ref s, .ref t, .int w])), (y, .inl (.byte, M * 32, .inl (fun q => sb_b (D q)))), (s, .inl (.int, M, .inl S)), (t, .inl (.int, M, .inl T)), (xr, .inr (4, [.ref xb, rt, .int (nI (b2n rb)), .int (nI ra), .int rft, .long rk, .int (nI rs), .long rv])), (xt, .inl (.object "RunStore$Table", 16, .inr (.inr (.inr (.inr rf))))), (xg, .inr (2, [.ref g1, .ref g2, .ref g3, .int (nI Gn)])), (g1, .inl (.long, NG, .inr (.inl GK))), (g2, .inl (.int, NG, .inl (fun q => nI (Gz q)))), (g3, .inl (.long, NG, .inr (.inl GV))), (h, .inr (6, [.int (nI 1), .int (nI M), .int (nI n), .ref y1, .ref y2, .ref y3, .int (nI u), .ref y4, .ref y5, .ref y6, .ref y7, .int (nI c), .ref y8, .ref y9, .ref y10, .ref y11, .ref y12, .int bd, .int w, .int ps, .int (nI pa), .int lc, .int (nI (b2n fb)), .long ek, .long ev, .int (nI el), .int (nI fn), .ref y13, .ref y14, .ref y15, .ref y16, .int (nI js), .ref y17, .int (nI (b2n ib))])), (y1, .inl (.long, 25, .inr (.inl K))), (y2, .inl (.long, 25, .inr (.inl V))), (y3, .inl (.int, 25, .inl (fun q => nI (z q)))), (y4, .inl (.int, 1024, .inl (fun q => nI (L q)))), (y5, .inl (.int, 4096, .inl (fun q => nI (D q)))), (y6, .inl (.int, 128, .inl S)), (y7, .inl (.boolean, 128, .inl Xt)), (y8, .inl (.int, 17, .inl (fun q => nI (lv q)))), (y9, .inl (.int, 17, .inl (fun q => nI (en q)))), (y10, .inl (.int, 17, .inl (fun q => nI (mn q)))), (y11, .inl (.int, 2176, .inl (fun q => nI (bk q)))), (y12, .inl (.long, 17, .inr (.inl fl))), (y13, .inl (.long, 500, .inr (.inl FK))), (y14, .inl (.long, 500, .inr (.inl FV))), (y15, .inl (.int, 500, .inl (fun q => nI (Fz q)))), (y16, .inl (.int, 4200, .inl (fun q => nI (J q)))), (y17, .inl (.int, 128, .inl (fun q => nI (pk q)))), (o, .inl (.long, 1, .inr (.inl O)))] rfl rfl hn ?_
    refine g_iload X d_LW_law_1134 1 rfl ?_
    refine g_icmp_eq 1141 X d_LW_law_1136 (by decide) (fun h1136 => ?_) (fun h1136 => ?_)
    · have h1136 := cv_eq (by omega) (by omega) h1136
      refine g_iload X d_LW_law_1141 1 rfl ?_
      refine g_if_ne 1158 X d_LW_law_1143 (by decide) (fun h1143 => ?_) (fun h1143 => ?_)
      · have h1143 := cv_n0 (by omega) h1143
        refine g_goto 1292 X d_LW_law_1158 (by decide) ?_
        refine g_lv [2, 3, 4, 5, 6] [(4, .int (nI ix)), (3, .ref o), (2, .ref h), (1, .ref x), (0, .ref b0)] rfl ?_
        refine g_widen (ce' := ce + 5) (sl' := sl + 150) (by omega) (by omega) ?_
        exact kk _ ⟨_, _, _, _, _, _, _, _, _, _, _, _, _, _, _, _, _, _, _, _, _, _, _, _, _, _, _, _, _, _, _, _, _, _, _, _, _, _, _, _, _, _, _, _, _, _, _, _, _, _, _, _, _, _, _, _, _, rfl, hn24, hs, hz, hu, hL, hD, hc16, hP, hI, hB, hX, hPd⟩
      · have h1143 := cv_e0 (by omega) h1143
        omega
    · have h1136 := cv_ne (by omega) (by omega) h1136
      omega

set_option maxRecDepth 100000 in
set_option maxHeartbeats 4000000 in
theorem law_byteAt {mp : Program} {l : Launch} {me : Env} {mR : Room} {sm : State} {mm : MethodId} {margs : Array Value} {mbel : List Frame} {mmet : Method} {mcod : Code} {mD : va_G} {f9 : fh_M} {Q9 : State → Prop} {ce sl b0 Ls ix : Nat} {xs : Nat → Int32} (X : fh_X mp l sm mm margs mmet mcod mD fhCl fhT f9 (hp []) y_LW_law.cls b_LW_law 8) (hScr : lwX sm f9 b0 Ls xs) (hst : l.stackTraces = false) (hNw : lwN sm) (hRf : 12 ≤ mR.frames) (hRl : 438 ≤ mR.locals) (hRc : ce + 5 ≤ mR.cells) (hRs : sl + 150 ≤ mR.slots) {M NG x xm m1 m2 m3 xl l1 xb y s t xr xt xg g1 g2 g3 h y1 y2 y3 y4 y5 y6 y7 y8 y9 y10 y11 y12 y13 y14 y15 y16 y17 o : Nat} (hM4 : 4 ≤ M) (hM : M ≤ 128) (hNGe : NG = 24 + M * 32 / 9) (hn : [x, xm, m1, m2, m3, xl, l1, xb, y, s, t, xr, xt, xg, g1, g2, g3, h, y1, y2, y3, y4, y5, y6, y7, y8, y9, y10, y11, y12, y13, y14, y15, y16, y17, o].Nodup) (hLs : Ls ≤ 3073) (hix : ix + 5 < Ls) {f : fh_M} (hS : lwS M NG x xm m1 m2 m3 xl l1 xb y s t xr xt xg g1 g2 g3 h y1 y2 y3 y4 y5 y6 y7 y8 y9 y10 y11 y12 y13 y14 y15 y16 y17 o f)  (kk : ∀ f, lwS M NG x xm m1 m2 m3 xl l1 xb y s t xr xt xg g1 g2 g3 h y1 y2 y3 y4 y5 y6 y7 y8 y9 y10 y11 y12 y13 y14 y15 y16 y17 o f → fh_G mp l me mR sm mm margs mbel mmet mcod mD fhCl f9 8 Q9 (ce + 5) (sl + 150) f 1292 [(4, .int (nI ix)), (3, .ref o), (2, .ref h), (1, .ref x), (0, .ref b0)] []) : fh_G mp l me mR sm mm margs mbel mmet mcod mD fhCl f9 8 Q9 (ce) (sl) f 901 [(4, .int (nI ix)), (3, .ref o), (2, .ref h), (1, .ref x), (0, .ref b0)] [] := by
  refine lwS_elim (C9 := fun f => fh_G mp l me mR sm mm margs mbel mmet mcod mD fhCl f9 8 Q9 (ce) (sl) f 901 [(4, .int (nI ix)), (3, .ref o), (2, .ref h), (1, .ref x), (0, .ref b0)] []) hS (fun K z V n L u D S T tb c ps bd w sv la le lk ls lw rt rb ra rft rk rs rv rf tq ti P GK Gz GV Gn th pa lc fb ek ev el fn js ib Xt lv en mn fl bk FK FV Fz J pk O hn24 hs hz hu hL hD hc16 hP hI hB hX hPd => ?_)
  show fh_G mp l me mR sm mm margs mbel mmet mcod mD fhCl f9 8 Q9 (ce) (sl) (fh_ov (hp [(x, .inr (5, [.ref xm, .ref xl, .ref xb, .ref xr, .ref xt, .int (nI c), .ref xg, .long sv, .int ps, .int bd])), (xm, .inr (2, [.ref m1, .ref m2, .ref m3, .int (nI n)])), (m1, .inl (.long, 24, .inr (.inl K))), (m2, .inl (.int, 24, .inl (fun q => nI (z q)))), (m3, .inl (.long, 24, .inr (.inl V))), (xl, .inr (1, [.ref l1, .int (nI u), .int (nI la), .int (nI le), .long lk, .int (nI ls), .long lw])), (l1, .inl (.byte, 1024, .inl (fun q => sb_b (L q)))), (xb, .inr (0, [.ref y, .ref s, .ref t, .int w])), (y, .inl (.byte, M * 32, .inl (fun q => sb_b (D q)))), (s, .inl (.int, M, .inl S)), (t, .inl (.int, M, .inl T)), (xr, .inr (4, [.ref xb, rt, .int (nI (b2n rb)), .int (nI ra), .int rft, .long rk, .int (nI rs), .long rv])), (xt, .inl (.object "RunStore$Table", 16, .inr (.inr (.inr (.inr rf))))), (xg, .inr (2, [.ref g1, .ref g2, .ref g3, .int (nI Gn)])), (g1, .inl (.long, NG, .inr (.inl GK))), (g2, .inl (.int, NG, .inl (fun q => nI (Gz q)))), (g3, .inl (.long, NG, .inr (.inl GV))), (h, .inr (6, [.int th, .int (nI M), .int (nI n), .ref y1, .ref y2, .ref y3, .int (nI u), .ref y4, .ref y5, .ref y6, .ref y7, .int (nI c), .ref y8, .ref y9, .ref y10, .ref y11, .ref y12, .int bd, .int w, .int ps, .int (nI pa), .int lc, .int (nI (b2n fb)), .long ek, .long ev, .int (nI el), .int (nI fn), .ref y13, .ref y14, .ref y15, .ref y16, .int (nI js), .ref y17, .int (nI (b2n ib))])), (y1, .inl (.long, 25, .inr (.inl K))), (y2, .inl (.long, 25, .inr (.inl V))), (y3, .inl (.int, 25, .inl (fun q => nI (z q)))), (y4, .inl (.int, 1024, .inl (fun q => nI (L q)))), (y5, .inl (.int, 4096, .inl (fun q => nI (D q)))), (y6, .inl (.int, 128, .inl S)), (y7, .inl (.boolean, 128, .inl Xt)), (y8, .inl (.int, 17, .inl (fun q => nI (lv q)))), (y9, .inl (.int, 17, .inl (fun q => nI (en q)))), (y10, .inl (.int, 17, .inl (fun q => nI (mn q)))), (y11, .inl (.int, 2176, .inl (fun q => nI (bk q)))), (y12, .inl (.long, 17, .inr (.inl fl))), (y13, .inl (.long, 500, .inr (.inl FK))), (y14, .inl (.long, 500, .inr (.inl FV))), (y15, .inl (.int, 500, .inl (fun q => nI (Fz q)))), (y16, .inl (.int, 4200, .inl (fun q => nI (J q)))), (y17, .inl (.int, 128, .inl (fun q => nI (pk q)))), (o, .inl (.long, 1, .inr (.inl O)))]) P) 901 [(4, .int (nI ix)), (3, .ref o), (2, .ref h), (1, .ref x), (0, .ref b0)] []
  have hnh : [h].Nodup := nd_pick [x, xm, m1, m2, m3, xl, l1, xb, y, s, t, xr, xt, xg, g1, g2, g3, h, y1, y2, y3, y4, y5, y6, y7, y8, y9, y10, y11, y12, y13, y14, y15, y16, y17, o] [17] 36 hn (by decide) rfl (by decide)
  have hnm : [h, y5].Nodup := nd_pick [x, xm, m1, m2, m3, xl, l1, xb, y, s, t, xr, xt, xg, g1, g2, g3, h, y1, y2, y3, y4, y5, y6, y7, y8, y9, y10, y11, y12, y13, y14, y15, y16, y17, o] [17, 22] 36 hn (by decide) rfl (by decide)
  rcases rng0 (xs (ix + 1)) (c := M) (by omega) with ⟨j, hj, hv⟩ | hv
  · rcases rng0 (xs (ix + 2)) (c := 32) (by decide) with ⟨k, hk, hw9⟩ | hw9
    · have hn9 : [x, xb, y, s, t, o].Nodup := nd_pick [x, xm, m1, m2, m3, xl, l1, xb, y, s, t, xr, xt, xg, g1, g2, g3, h, y1, y2, y3, y4, y5, y6, y7, y8, y9, y10, y11, y12, y13, y14, y15, y16, y17, o] [0, 7, 8, 9, 10, 35] 36 hn (by decide) rfl (by decide)
      refine g_aload_n X d_LW_law_901 3 rfl ?_
      refine g_aload_n X d_LW_law_902 4 rfl ?_
      refine g_iload X d_LW_law_903 0 rfl ?_
      refine g_iconst (nI 1) X d_LW_law_905 (by decide) ?_
      refine g_iadd X d_LW_law_906 ?_
      refine g_vi (nI (ix + 1)) (nI_add _ _) ?_
      refine s_iald X hScr d_LW_law_907 (by omega) (by omega) ?_
      refine g_vi (nI j) hv ?_
      refine g_aload_n X d_LW_law_908 4 rfl ?_
      refine g_iload X d_LW_law_909 0 rfl ?_
      refine g_iconst (nI 2) X d_LW_law_911 (by decide) ?_
      refine g_iadd X d_LW_law_912 ?_
      refine g_vi (nI (ix + 2)) (nI_add _ _) ?_
      refine s_iald X hScr d_LW_law_913 (by omega) (by omega) ?_
      refine g_vi (nI k) hw9 ?_
      refine g_aload_n X d_LW_law_914 1 rfl ?_
      refine g_callSW (As := [.ref x, .int (nI j), .int (nI k), .ref o]) (st := []) X d_LW_law_915 (c_LW_byteAt_in hst hD hM hn9 hj hk) lwN_s hNw rfl k_ml_LW_117 k_cd_LW_byteAt k_in_LW k_st_LW_byteAt ⟨by decide +kernel, by decide +kernel, (by decide +kernel : (parseMethodDescriptor "(LRunStore;II[J)I").map (fun d => d.parameters.length) = some 4)⟩ ⟨by omega, by omega⟩ ⟨by omega, by omega⟩ (Nat.le_of_ble_eq_true rfl) (hg_ov hn [0, 7, 8, 9, 10, 35] rfl) hrx_0 (fun E g9 h => by obtain ⟨hv9, hg9⟩ := h; cases hv9) (fun v9 g9 hq hfr => ?_)
      obtain ⟨hv9, hg9⟩ := hq
      cases hv9
      subst hg9
      refine g_ovP [0, 7, 8, 9, 10, 35] [(x, .inr (5, [.ref xm, .ref xl, .ref xb, .ref xr, .ref xt, .int (nI c), .ref xg, .long sv, .int ps, .int bd])), (xm, .inr (2, [.ref m1, .ref m2, .ref m3, .int (nI n)])), (m1, .inl (.long, 24, .inr (.inl K))), (m2, .inl (.int, 24, .inl (fun q => nI (z q)))), (m3, .inl (.long, 24, .inr (.inl V))), (xl, .inr (1, [.ref l1, .int (nI u), .int (nI la), .int (nI le), .long lk, .int (nI ls), .long lw])), (l1, .inl (.byte, 1024, .inl (fun q => sb_b (L q)))), (xb, .inr (0, [.ref y, .ref s, .ref t, .int w])), (y, .inl (.byte, M * 32, .inl (fun q => sb_b (D q)))), (s, .inl (.int, M, .inl S)), (t, .inl (.int, M, .inl T)), (xr, .inr (4, [.ref xb, rt, .int (nI (b2n rb)), .int (nI ra), .int rft, .long rk, .int (nI rs), .long rv])), (xt, .inl (.object "RunStore$Table", 16, .inr (.inr (.inr (.inr rf))))), (xg, .inr (2, [.ref g1, .ref g2, .ref g3, .int (nI Gn)])), (g1, .inl (.long, NG, .inr (.inl GK))), (g2, .inl (.int, NG, .inl (fun q => nI (Gz q)))), (g3, .inl (.long, NG, .inr (.inl GV))), (h, .inr (6, [.int th, .int (nI M), .int (nI n), .ref y1, .ref y2, .ref y3, .int (nI u), .ref y4, .ref y5, .ref y6, .ref y7, .int (nI c), .ref y8, .ref y9, .ref y10, .ref y11, .ref y12, .int bd, .int w, .int ps, .int (nI pa), .int lc, .int (nI (b2n fb)), .long ek, .long ev, .int (nI el), .int (nI fn), .ref y13, .ref y14, .ref y15, .ref y16, .int (nI js), .ref y17, .int (nI (b2n ib))])), (y1, .inl (.long, 25, .inr (.inl K))), (y2, .inl (.long, 25, .inr (.inl V))), (y3, .inl (.int, 25, .inl (fun q => nI (z q)))), (y4, .inl (.int, 1024, .inl (fun q => nI (L q)))), (y5, .inl (.int, 4096, .inl (fun q => nI (D q)))), (y6, .inl (.int, 128, .inl S)), (y7, .inl (.boolean, 128, .inl Xt)), (y8, .inl (.int, 17, .inl (fun q => nI (lv q)))), (y9, .inl (.int, 17, .inl (fun q => nI (en q)))), (y10, .inl (.int, 17, .inl (fun q => nI (mn q)))), (y11, .inl (.int, 2176, .inl (fun q => nI (bk q)))), (y12, .inl (.long, 17, .inr (.inl fl))), (y13, .inl (.long, 500, .inr (.inl FK))), (y14, .inl (.long, 500, .inr (.inl FV))), (y15, .inl (.int, 500, .inl (fun q => nI (Fz q)))), (y16, .inl (.int, 4200, .inl (fun q => nI (J q)))), (y17, .inl (.int, 128, .inl (fun q => nI (pk q)))), (o, .inl (.long, 1, .inr (.inl (va_up O 0 ((nI (D (j * 32 + k))).toInt64)))))] rfl rfl hn ?_
      refine g_istore [(5, .int (nI 0)), (4, .int (nI ix)), (3, .ref o), (2, .ref h), (1, .ref x), (0, .ref b0)] X d_LW_law_918 (by decide) rfl ?_
      refine g_aload_n X d_LW_law_920 3 rfl ?_
      refine g_aload_n X d_LW_law_921 5 rfl ?_
      refine g_iload X d_LW_law_922 1 rfl ?_
      refine g_iconst (nI 1) X d_LW_law_924 (by decide) ?_
      refine g_iadd X d_LW_law_925 ?_
      refine g_vi (nI (ix + 1)) (nI_add _ _) ?_
      refine s_iald X hScr d_LW_law_926 (by omega) (by omega) ?_
      refine g_vi (nI j) hv ?_
      refine g_aload_n X d_LW_law_927 5 rfl ?_
      refine g_iload X d_LW_law_928 1 rfl ?_
      refine g_iconst (nI 2) X d_LW_law_930 (by decide) ?_
      refine g_iadd X d_LW_law_931 ?_
      refine g_vi (nI (ix + 2)) (nI_add _ _) ?_
      refine s_iald X hScr d_LW_law_932 (by omega) (by omega) ?_
      refine g_vi (nI k) hw9 ?_
      refine g_callVf (As := [.int (nI j), .int (nI k)]) (st := []) X d_LW_law_933 (c_MD_byteAt_in hst hnm hj hk hM) (hl_ov 17 rfl hn) rfl rfl k_ml_LW_119 k_cd_MD_byteAt k_in_MD k_im_MD_byteAt k_se_MD_byteAt ⟨by decide +kernel, by decide +kernel, (by decide +kernel : (parseMethodDescriptor "(II)I").map (fun d => d.parameters.length) = some 2)⟩ ⟨by omega, by omega⟩ ⟨by omega, by omega⟩ (Nat.le_of_ble_eq_true rfl) (hg_ov hn [17, 22] rfl) hrx_0 (fun E g9 h => by obtain ⟨hv9, hg9⟩ := h; cases hv9) (fun v9 g9 hq hfr => ?_)
      obtain ⟨hv9, hg9⟩ := hq
      cases hv9
      subst hg9
      refine g_ovP [17, 22] [(x, .inr (5, [.ref xm, .ref xl, .ref xb, .ref xr, .ref xt, .int (nI c), .ref xg, .long sv, .int ps, .int bd])), (xm, .inr (2, [.ref m1, .ref m2, .ref m3, .int (nI n)])), (m1, .inl (.long, 24, .inr (.inl K))), (m2, .inl (.int, 24, .inl (fun q => nI (z q)))), (m3, .inl (.long, 24, .inr (.inl V))), (xl, .inr (1, [.ref l1, .int (nI u), .int (nI la), .int (nI le), .long lk, .int (nI ls), .long lw])), (l1, .inl (.byte, 1024, .inl (fun q => sb_b (L q)))), (xb, .inr (0, [.ref y, .ref s, .ref t, .int w])), (y, .inl (.byte, M * 32, .inl (fun q => sb_b (D q)))), (s, .inl (.int, M, .inl S)), (t, .inl (.int, M, .inl T)), (xr, .inr (4, [.ref xb, rt, .int (nI (b2n rb)), .int (nI ra), .int rft, .long rk, .int (nI rs), .long rv])), (xt, .inl (.object "RunStore$Table", 16, .inr (.inr (.inr (.inr rf))))), (xg, .inr (2, [.ref g1, .ref g2, .ref g3, .int (nI Gn)])), (g1, .inl (.long, NG, .inr (.inl GK))), (g2, .inl (.int, NG, .inl (fun q => nI (Gz q)))), (g3, .inl (.long, NG, .inr (.inl GV))), (h, .inr (6, [.int (nI 0), .int (nI M), .int (nI n), .ref y1, .ref y2, .ref y3, .int (nI u), .ref y4, .ref y5, .ref y6, .ref y7, .int (nI c), .ref y8, .ref y9, .ref y10, .ref y11, .ref y12, .int bd, .int w, .int ps, .int (nI pa), .int lc, .int (nI (b2n fb)), .long ek, .long ev, .int (nI el), .int (nI fn), .ref y13, .ref y14, .ref y15, .ref y16, .int (nI js), .ref y17, .int (nI (b2n ib))])), (y1, .inl (.long, 25, .inr (.inl K))), (y2, .inl (.long, 25, .inr (.inl V))), (y3, .inl (.int, 25, .inl (fun q => nI (z q)))), (y4, .inl (.int, 1024, .inl (fun q => nI (L q)))), (y5, .inl (.int, 4096, .inl (fun q => nI (D q)))), (y6, .inl (.int, 128, .inl S)), (y7, .inl (.boolean, 128, .inl Xt)), (y8, .inl (.int, 17, .inl (fun q => nI (lv q)))), (y9, .inl (.int, 17, .inl (fun q => nI (en q)))), (y10, .inl (.int, 17, .inl (fun q => nI (mn q)))), (y11, .inl (.int, 2176, .inl (fun q => nI (bk q)))), (y12, .inl (.long, 17, .inr (.inl fl))), (y13, .inl (.long, 500, .inr (.inl FK))), (y14, .inl (.long, 500, .inr (.inl FV))), (y15, .inl (.int, 500, .inl (fun q => nI (Fz q)))), (y16, .inl (.int, 4200, .inl (fun q => nI (J q)))), (y17, .inl (.int, 128, .inl (fun q => nI (pk q)))), (o, .inl (.long, 1, .inr (.inl (va_up O 0 ((nI (D (j * 32 + k))).toInt64)))))] rfl rfl hn ?_
      refine g_istore [(6, .int (nI (D (j * 32 + k)))), (5, .int (nI 0)), (4, .int (nI ix)), (3, .ref o), (2, .ref h), (1, .ref x), (0, .ref b0)] X d_LW_law_936 (by decide) rfl ?_
      refine g_aload_n X d_LW_law_938 4 rfl ?_
      refine g_callVf (As := []) (st := []) X d_LW_law_939 (c_MD_thrown hst hnh) (hl_ov 17 rfl hn) rfl rfl k_ml_LW_85 k_cd_MD_thrown k_in_MD k_im_MD_thrown k_se_MD_thrown ⟨by decide +kernel, by decide +kernel, (by decide +kernel : (parseMethodDescriptor "()I").map (fun d => d.parameters.length) = some 0)⟩ ⟨by omega, by omega⟩ ⟨by omega, by omega⟩ (Nat.le_of_ble_eq_true rfl) (hg_ov hn [17] rfl) hrx_0 (fun E g9 h => by obtain ⟨hv9, hg9⟩ := h; cases hv9) (fun v9 g9 hq hfr => ?_)
      obtain ⟨hv9, hg9⟩ := hq
      cases hv9
      subst hg9
      refine g_ovP [17] [(x, .inr (5, [.ref xm, .ref xl, .ref xb, .ref xr, .ref xt, .int (nI c), .ref xg, .long sv, .int ps, .int bd])), (xm, .inr (2, [.ref m1, .ref m2, .ref m3, .int (nI n)])), (m1, .inl (.long, 24, .inr (.inl K))), (m2, .inl (.int, 24, .inl (fun q => nI (z q)))), (m3, .inl (.long, 24, .inr (.inl V))), (xl, .inr (1, [.ref l1, .int (nI u), .int (nI la), .int (nI le), .long lk, .int (nI ls), .long lw])), (l1, .inl (.byte, 1024, .inl (fun q => sb_b (L q)))), (xb, .inr (0, [.ref y, .ref s, .ref t, .int w])), (y, .inl (.byte, M * 32, .inl (fun q => sb_b (D q)))), (s, .inl (.int, M, .inl S)), (t, .inl (.int, M, .inl T)), (xr, .inr (4, [.ref xb, rt, .int (nI (b2n rb)), .int (nI ra), .int rft, .long rk, .int (nI rs), .long rv])), (xt, .inl (.object "RunStore$Table", 16, .inr (.inr (.inr (.inr rf))))), (xg, .inr (2, [.ref g1, .ref g2, .ref g3, .int (nI Gn)])), (g1, .inl (.long, NG, .inr (.inl GK))), (g2, .inl (.int, NG, .inl (fun q => nI (Gz q)))), (g3, .inl (.long, NG, .inr (.inl GV))), (h, .inr (6, [.int (nI 0), .int (nI M), .int (nI n), .ref y1, .ref y2, .ref y3, .int (nI u), .ref y4, .ref y5, .ref y6, .ref y7, .int (nI c), .ref y8, .ref y9, .ref y10, .ref y11, .ref y12, .int bd, .int w, .int ps, .int (nI pa), .int lc, .int (nI (b2n fb)), .long ek, .long ev, .int (nI el), .int (nI fn), .ref y13, .ref y14, .ref y15, .ref y16, .int (nI js), .ref y17, .int (nI (b2n ib))])), (y1, .inl (.long, 25, .inr (.inl K))), (y2, .inl (.long, 25, .inr (.inl V))), (y3, .inl (.int, 25, .inl (fun q => nI (z q)))), (y4, .inl (.int, 1024, .inl (fun q => nI (L q)))), (y5, .inl (.int, 4096, .inl (fun q => nI (D q)))), (y6, .inl (.int, 128, .inl S)), (y7, .inl (.boolean, 128, .inl Xt)), (y8, .inl (.int, 17, .inl (fun q => nI (lv q)))), (y9, .inl (.int, 17, .inl (fun q => nI (en q)))), (y10, .inl (.int, 17, .inl (fun q => nI (mn q)))), (y11, .inl (.int, 2176, .inl (fun q => nI (bk q)))), (y12, .inl (.long, 17, .inr (.inl fl))), (y13, .inl (.long, 500, .inr (.inl FK))), (y14, .inl (.long, 500, .inr (.inl FV))), (y15, .inl (.int, 500, .inl (fun q => nI (Fz q)))), (y16, .inl (.int, 4200, .inl (fun q => nI (J q)))), (y17, .inl (.int, 128, .inl (fun q => nI (pk q)))), (o, .inl (.long, 1, .inr (.inl (va_up O 0 ((nI (D (j * 32 + k))).toInt64)))))] rfl rfl hn ?_
      refine g_iload X d_LW_law_942 1 rfl ?_
      refine g_icmp_eq 949 X d_LW_law_944 (by decide) (fun h944 => ?_) (fun h944 => ?_)
      · have h944 := cv_eq (by omega) (by omega) h944
        refine g_iload X d_LW_law_949 1 rfl ?_
        refine g_if_ne 966 X d_LW_law_951 (by decide) (fun h951 => ?_) (fun h951 => ?_)
        · have h951 := cv_n0 (by omega) h951
          omega
        · have h951 := cv_e0 (by omega) h951
          refine g_aload_n X d_LW_law_954 3 rfl ?_
          refine g_iconst (nI 0) X d_LW_law_955 (by decide) ?_
          refine h_lald X d_LW_law_956 (hl_ov 35 rfl hn) (by omega) (by omega) ?_
          refine g_iload X d_LW_law_957 0 rfl ?_
          refine g_i2l X d_LW_law_959 ?_
          refine g_lcmp X d_LW_law_960 ?_
          refine g_if_eq 966 X d_LW_law_961 (by decide) (fun h961 => ?_) (fun h961 => ?_)
          · have h961 := (lg_cmp_eq ((va_up O 0 ((nI (D (j * 32 + k))).toInt64)) 0) ((nI (D (j * 32 + k))).toInt64)).mp h961
            refine g_goto 1292 X d_LW_law_966 (by decide) ?_
            refine g_lv [2, 3, 4, 5, 6] [(4, .int (nI ix)), (3, .ref o), (2, .ref h), (1, .ref x), (0, .ref b0)] rfl ?_
            refine g_widen (ce' := ce + 5) (sl' := sl + 150) (by omega) (by omega) ?_
            exact kk _ ⟨_, _, _, _, _, _, _, _, _, _, _, _, _, _, _, _, _, _, _, _, _, _, _, _, _, _, _, _, _, _, _, _, _, _, _, _, _, _, _, _, _, _, _, _, _, _, _, _, _, _, _, _, _, _, _, _, _, rfl, hn24, hs, hz, hu, hL, hD, hc16, hP, hI, hB, hX, hPd⟩
          · have h961 := fun z8 => h961 ((lg_cmp_eq ((va_up O 0 ((nI (D (j * 32 + k))).toInt64)) 0) ((nI (D (j * 32 + k))).toInt64)).mpr z8)
            exact absurd (va_up_self _ _ _) h961
      · have h944 := cv_ne (by omega) (by omega) h944
        omega
    · have hn9 : [x, xb, y, s, t, o].Nodup := nd_pick [x, xm, m1, m2, m3, xl, l1, xb, y, s, t, xr, xt, xg, g1, g2, g3, h, y1, y2, y3, y4, y5, y6, y7, y8, y9, y10, y11, y12, y13, y14, y15, y16, y17, o] [0, 7, 8, 9, 10, 35] 36 hn (by decide) rfl (by decide)
      refine g_aload_n X d_LW_law_901 3 rfl ?_
      refine g_aload_n X d_LW_law_902 4 rfl ?_
      refine g_iload X d_LW_law_903 0 rfl ?_
      refine g_iconst (nI 1) X d_LW_law_905 (by decide) ?_
      refine g_iadd X d_LW_law_906 ?_
      refine g_vi (nI (ix + 1)) (nI_add _ _) ?_
      refine s_iald X hScr d_LW_law_907 (by omega) (by omega) ?_
      refine g_aload_n X d_LW_law_908 4 rfl ?_
      refine g_iload X d_LW_law_909 0 rfl ?_
      refine g_iconst (nI 2) X d_LW_law_911 (by decide) ?_
      refine g_iadd X d_LW_law_912 ?_
      refine g_vi (nI (ix + 2)) (nI_add _ _) ?_
      refine s_iald X hScr d_LW_law_913 (by omega) (by omega) ?_
      refine g_aload_n X d_LW_law_914 1 rfl ?_
      refine g_callSW (As := [.ref x, .int (xs (ix + 1)), .int (xs (ix + 2)), .ref o]) (st := []) X d_LW_law_915 (c_LW_byteAt_no hst hD hM hn9 (fun j7 h7 e7 h8 h9 => hw9.elim (fun z8 => h8 z8) (fun z8 => i32_nlt z8 h9))) lwN_s hNw rfl k_ml_LW_117 k_cd_LW_byteAt k_in_LW k_st_LW_byteAt ⟨by decide +kernel, by decide +kernel, (by decide +kernel : (parseMethodDescriptor "(LRunStore;II[J)I").map (fun d => d.parameters.length) = some 4)⟩ ⟨by omega, by omega⟩ ⟨by omega, by omega⟩ (Nat.le_of_ble_eq_true rfl) (hg_ov hn [0, 7, 8, 9, 10, 35] rfl) hrx_0 (fun E g9 h => by obtain ⟨hv9, hg9⟩ := h; cases hv9) (fun v9 g9 hq hfr => ?_)
      obtain ⟨hv9, hg9⟩ := hq
      cases hv9
      subst hg9
      refine g_ovP [0, 7, 8, 9, 10, 35] [(x, .inr (5, [.ref xm, .ref xl, .ref xb, .ref xr, .ref xt, .int (nI c), .ref xg, .long sv, .int ps, .int bd])), (xm, .inr (2, [.ref m1, .ref m2, .ref m3, .int (nI n)])), (m1, .inl (.long, 24, .inr (.inl K))), (m2, .inl (.int, 24, .inl (fun q => nI (z q)))), (m3, .inl (.long, 24, .inr (.inl V))), (xl, .inr (1, [.ref l1, .int (nI u), .int (nI la), .int (nI le), .long lk, .int (nI ls), .long lw])), (l1, .inl (.byte, 1024, .inl (fun q => sb_b (L q)))), (xb, .inr (0, [.ref y, .ref s, .ref t, .int w])), (y, .inl (.byte, M * 32, .inl (fun q => sb_b (D q)))), (s, .inl (.int, M, .inl S)), (t, .inl (.int, M, .inl T)), (xr, .inr (4, [.ref xb, rt, .int (nI (b2n rb)), .int (nI ra), .int rft, .long rk, .int (nI rs), .long rv])), (xt, .inl (.object "RunStore$Table", 16, .inr (.inr (.inr (.inr rf))))), (xg, .inr (2, [.ref g1, .ref g2, .ref g3, .int (nI Gn)])), (g1, .inl (.long, NG, .inr (.inl GK))), (g2, .inl (.int, NG, .inl (fun q => nI (Gz q)))), (g3, .inl (.long, NG, .inr (.inl GV))), (h, .inr (6, [.int th, .int (nI M), .int (nI n), .ref y1, .ref y2, .ref y3, .int (nI u), .ref y4, .ref y5, .ref y6, .ref y7, .int (nI c), .ref y8, .ref y9, .ref y10, .ref y11, .ref y12, .int bd, .int w, .int ps, .int (nI pa), .int lc, .int (nI (b2n fb)), .long ek, .long ev, .int (nI el), .int (nI fn), .ref y13, .ref y14, .ref y15, .ref y16, .int (nI js), .ref y17, .int (nI (b2n ib))])), (y1, .inl (.long, 25, .inr (.inl K))), (y2, .inl (.long, 25, .inr (.inl V))), (y3, .inl (.int, 25, .inl (fun q => nI (z q)))), (y4, .inl (.int, 1024, .inl (fun q => nI (L q)))), (y5, .inl (.int, 4096, .inl (fun q => nI (D q)))), (y6, .inl (.int, 128, .inl S)), (y7, .inl (.boolean, 128, .inl Xt)), (y8, .inl (.int, 17, .inl (fun q => nI (lv q)))), (y9, .inl (.int, 17, .inl (fun q => nI (en q)))), (y10, .inl (.int, 17, .inl (fun q => nI (mn q)))), (y11, .inl (.int, 2176, .inl (fun q => nI (bk q)))), (y12, .inl (.long, 17, .inr (.inl fl))), (y13, .inl (.long, 500, .inr (.inl FK))), (y14, .inl (.long, 500, .inr (.inl FV))), (y15, .inl (.int, 500, .inl (fun q => nI (Fz q)))), (y16, .inl (.int, 4200, .inl (fun q => nI (J q)))), (y17, .inl (.int, 128, .inl (fun q => nI (pk q)))), (o, .inl (.long, 1, .inr (.inl O)))] rfl rfl hn ?_
      refine g_istore [(5, .int (nI 1)), (4, .int (nI ix)), (3, .ref o), (2, .ref h), (1, .ref x), (0, .ref b0)] X d_LW_law_918 (by decide) rfl ?_
      refine g_aload_n X d_LW_law_920 3 rfl ?_
      refine g_aload_n X d_LW_law_921 5 rfl ?_
      refine g_iload X d_LW_law_922 1 rfl ?_
      refine g_iconst (nI 1) X d_LW_law_924 (by decide) ?_
      refine g_iadd X d_LW_law_925 ?_
      refine g_vi (nI (ix + 1)) (nI_add _ _) ?_
      refine s_iald X hScr d_LW_law_926 (by omega) (by omega) ?_
      refine g_aload_n X d_LW_law_927 5 rfl ?_
      refine g_iload X d_LW_law_928 1 rfl ?_
      refine g_iconst (nI 2) X d_LW_law_930 (by decide) ?_
      refine g_iadd X d_LW_law_931 ?_
      refine g_vi (nI (ix + 2)) (nI_add _ _) ?_
      refine s_iald X hScr d_LW_law_932 (by omega) (by omega) ?_
      refine g_callVf (As := [.int (xs (ix + 1)), .int (xs (ix + 2))]) (st := []) X d_LW_law_933 (c_MD_byteAt_no hst hnm (fun h8 h9 => by rw [win_k (b := 31) (by decide) hw9 (by decide)] at h9; cases h9) hM) (hl_ov 17 rfl hn) rfl rfl k_ml_LW_119 k_cd_MD_byteAt k_in_MD k_im_MD_byteAt k_se_MD_byteAt ⟨by decide +kernel, by decide +kernel, (by decide +kernel : (parseMethodDescriptor "(II)I").map (fun d => d.parameters.length) = some 2)⟩ ⟨by omega, by omega⟩ ⟨by omega, by omega⟩ (Nat.le_of_ble_eq_true rfl) (hg_ov hn [17, 22] rfl) hrx_0 (fun E g9 h => by obtain ⟨hv9, hg9⟩ := h; cases hv9) (fun v9 g9 hq hfr => ?_)
      obtain ⟨hv9, hg9⟩ := hq
      cases hv9
      subst hg9
      refine g_ovP [17, 22] [(x, .inr (5, [.ref xm, .ref xl, .ref xb, .ref xr, .ref xt, .int (nI c), .ref xg, .long sv, .int ps, .int bd])), (xm, .inr (2, [.ref m1, .ref m2, .ref m3, .int (nI n)])), (m1, .inl (.long, 24, .inr (.inl K))), (m2, .inl (.int, 24, .inl (fun q => nI (z q)))), (m3, .inl (.long, 24, .inr (.inl V))), (xl, .inr (1, [.ref l1, .int (nI u), .int (nI la), .int (nI le), .long lk, .int (nI ls), .long lw])), (l1, .inl (.byte, 1024, .inl (fun q => sb_b (L q)))), (xb, .inr (0, [.ref y, .ref s, .ref t, .int w])), (y, .inl (.byte, M * 32, .inl (fun q => sb_b (D q)))), (s, .inl (.int, M, .inl S)), (t, .inl (.int, M, .inl T)), (xr, .inr (4, [.ref xb, rt, .int (nI (b2n rb)), .int (nI ra), .int rft, .long rk, .int (nI rs), .long rv])), (xt, .inl (.object "RunStore$Table", 16, .inr (.inr (.inr (.inr rf))))), (xg, .inr (2, [.ref g1, .ref g2, .ref g3, .int (nI Gn)])), (g1, .inl (.long, NG, .inr (.inl GK))), (g2, .inl (.int, NG, .inl (fun q => nI (Gz q)))), (g3, .inl (.long, NG, .inr (.inl GV))), (h, .inr (6, [.int (nI 1), .int (nI M), .int (nI n), .ref y1, .ref y2, .ref y3, .int (nI u), .ref y4, .ref y5, .ref y6, .ref y7, .int (nI c), .ref y8, .ref y9, .ref y10, .ref y11, .ref y12, .int bd, .int w, .int ps, .int (nI pa), .int lc, .int (nI (b2n fb)), .long ek, .long ev, .int (nI el), .int (nI fn), .ref y13, .ref y14, .ref y15, .ref y16, .int (nI js), .ref y17, .int (nI (b2n ib))])), (y1, .inl (.long, 25, .inr (.inl K))), (y2, .inl (.long, 25, .inr (.inl V))), (y3, .inl (.int, 25, .inl (fun q => nI (z q)))), (y4, .inl (.int, 1024, .inl (fun q => nI (L q)))), (y5, .inl (.int, 4096, .inl (fun q => nI (D q)))), (y6, .inl (.int, 128, .inl S)), (y7, .inl (.boolean, 128, .inl Xt)), (y8, .inl (.int, 17, .inl (fun q => nI (lv q)))), (y9, .inl (.int, 17, .inl (fun q => nI (en q)))), (y10, .inl (.int, 17, .inl (fun q => nI (mn q)))), (y11, .inl (.int, 2176, .inl (fun q => nI (bk q)))), (y12, .inl (.long, 17, .inr (.inl fl))), (y13, .inl (.long, 500, .inr (.inl FK))), (y14, .inl (.long, 500, .inr (.inl FV))), (y15, .inl (.int, 500, .inl (fun q => nI (Fz q)))), (y16, .inl (.int, 4200, .inl (fun q => nI (J q)))), (y17, .inl (.int, 128, .inl (fun q => nI (pk q)))), (o, .inl (.long, 1, .inr (.inl O)))] rfl rfl hn ?_
      refine g_istore [(6, .int (nI 0)), (5, .int (nI 1)), (4, .int (nI ix)), (3, .ref o), (2, .ref h), (1, .ref x), (0, .ref b0)] X d_LW_law_936 (by decide) rfl ?_
      refine g_aload_n X d_LW_law_938 4 rfl ?_
      refine g_callVf (As := []) (st := []) X d_LW_law_939 (c_MD_thrown hst hnh) (hl_ov 17 rfl hn) rfl rfl k_ml_LW_85 k_cd_MD_thrown k_in_MD k_im_MD_thrown k_se_MD_thrown ⟨by decide +kernel, by decide +kernel, (by decide +kernel : (parseMethodDescriptor "()I").map (fun d => d.parameters.length) = some 0)⟩ ⟨by omega, by omega⟩ ⟨by omega, by omega⟩ (Nat.le_of_ble_eq_true rfl) (hg_ov hn [17] rfl) hrx_0 (fun E g9 h => by obtain ⟨hv9, hg9⟩ := h; cases hv9) (fun v9 g9 hq hfr => ?_)
      obtain ⟨hv9, hg9⟩ := hq
      cases hv9
      subst hg9
      refine g_ovP [17] [(x, .inr (5, [.ref xm, .ref xl, .ref xb, .ref xr, .ref xt, .int (nI c), .ref xg, .long sv, .int ps, .int bd])), (xm, .inr (2, [.ref m1, .ref m2, .ref m3, .int (nI n)])), (m1, .inl (.long, 24, .inr (.inl K))), (m2, .inl (.int, 24, .inl (fun q => nI (z q)))), (m3, .inl (.long, 24, .inr (.inl V))), (xl, .inr (1, [.ref l1, .int (nI u), .int (nI la), .int (nI le), .long lk, .int (nI ls), .long lw])), (l1, .inl (.byte, 1024, .inl (fun q => sb_b (L q)))), (xb, .inr (0, [.ref y, .ref s, .ref t, .int w])), (y, .inl (.byte, M * 32, .inl (fun q => sb_b (D q)))), (s, .inl (.int, M, .inl S)), (t, .inl (.int, M, .inl T)), (xr, .inr (4, [.ref xb, rt, .int (nI (b2n rb)), .int (nI ra), .int rft, .long rk, .int (nI rs), .long rv])), (xt, .inl (.object "RunStore$Table", 16, .inr (.inr (.inr (.inr rf))))), (xg, .inr (2, [.ref g1, .ref g2, .ref g3, .int (nI Gn)])), (g1, .inl (.long, NG, .inr (.inl GK))), (g2, .inl (.int, NG, .inl (fun q => nI (Gz q)))), (g3, .inl (.long, NG, .inr (.inl GV))), (h, .inr (6, [.int (nI 1), .int (nI M), .int (nI n), .ref y1, .ref y2, .ref y3, .int (nI u), .ref y4, .ref y5, .ref y6, .ref y7, .int (nI c), .ref y8, .ref y9, .ref y10, .ref y11, .ref y12, .int bd, .int w, .int ps, .int (nI pa), .int lc, .int (nI (b2n fb)), .long ek, .long ev, .int (nI el), .int (nI fn), .ref y13, .ref y14, .ref y15, .ref y16, .int (nI js), .ref y17, .int (nI (b2n ib))])), (y1, .inl (.long, 25, .inr (.inl K))), (y2, .inl (.long, 25, .inr (.inl V))), (y3, .inl (.int, 25, .inl (fun q => nI (z q)))), (y4, .inl (.int, 1024, .inl (fun q => nI (L q)))), (y5, .inl (.int, 4096, .inl (fun q => nI (D q)))), (y6, .inl (.int, 128, .inl S)), (y7, .inl (.boolean, 128, .inl Xt)), (y8, .inl (.int, 17, .inl (fun q => nI (lv q)))), (y9, .inl (.int, 17, .inl (fun q => nI (en q)))), (y10, .inl (.int, 17, .inl (fun q => nI (mn q)))), (y11, .inl (.int, 2176, .inl (fun q => nI (bk q)))), (y12, .inl (.long, 17, .inr (.inl fl))), (y13, .inl (.long, 500, .inr (.inl FK))), (y14, .inl (.long, 500, .inr (.inl FV))), (y15, .inl (.int, 500, .inl (fun q => nI (Fz q)))), (y16, .inl (.int, 4200, .inl (fun q => nI (J q)))), (y17, .inl (.int, 128, .inl (fun q => nI (pk q)))), (o, .inl (.long, 1, .inr (.inl O)))] rfl rfl hn ?_
      refine g_iload X d_LW_law_942 1 rfl ?_
      refine g_icmp_eq 949 X d_LW_law_944 (by decide) (fun h944 => ?_) (fun h944 => ?_)
      · have h944 := cv_eq (by omega) (by omega) h944
        refine g_iload X d_LW_law_949 1 rfl ?_
        refine g_if_ne 966 X d_LW_law_951 (by decide) (fun h951 => ?_) (fun h951 => ?_)
        · have h951 := cv_n0 (by omega) h951
          refine g_goto 1292 X d_LW_law_966 (by decide) ?_
          refine g_lv [2, 3, 4, 5, 6] [(4, .int (nI ix)), (3, .ref o), (2, .ref h), (1, .ref x), (0, .ref b0)] rfl ?_
          refine g_widen (ce' := ce + 5) (sl' := sl + 150) (by omega) (by omega) ?_
          exact kk _ ⟨_, _, _, _, _, _, _, _, _, _, _, _, _, _, _, _, _, _, _, _, _, _, _, _, _, _, _, _, _, _, _, _, _, _, _, _, _, _, _, _, _, _, _, _, _, _, _, _, _, _, _, _, _, _, _, _, _, rfl, hn24, hs, hz, hu, hL, hD, hc16, hP, hI, hB, hX, hPd⟩
        · have h951 := cv_e0 (by omega) h951
          omega
      · have h944 := cv_ne (by omega) (by omega) h944
        omega
  · have hn9 : [x, xb, y, s, t, o].Nodup := nd_pick [x, xm, m1, m2, m3, xl, l1, xb, y, s, t, xr, xt, xg, g1, g2, g3, h, y1, y2, y3, y4, y5, y6, y7, y8, y9, y10, y11, y12, y13, y14, y15, y16, y17, o] [0, 7, 8, 9, 10, 35] 36 hn (by decide) rfl (by decide)
    refine g_aload_n X d_LW_law_901 3 rfl ?_
    refine g_aload_n X d_LW_law_902 4 rfl ?_
    refine g_iload X d_LW_law_903 0 rfl ?_
    refine g_iconst (nI 1) X d_LW_law_905 (by decide) ?_
    refine g_iadd X d_LW_law_906 ?_
    refine g_vi (nI (ix + 1)) (nI_add _ _) ?_
    refine s_iald X hScr d_LW_law_907 (by omega) (by omega) ?_
    refine g_aload_n X d_LW_law_908 4 rfl ?_
    refine g_iload X d_LW_law_909 0 rfl ?_
    refine g_iconst (nI 2) X d_LW_law_911 (by decide) ?_
    refine g_iadd X d_LW_law_912 ?_
    refine g_vi (nI (ix + 2)) (nI_add _ _) ?_
    refine s_iald X hScr d_LW_law_913 (by omega) (by omega) ?_
    refine g_aload_n X d_LW_law_914 1 rfl ?_
    refine g_callSW (As := [.ref x, .int (xs (ix + 1)), .int (xs (ix + 2)), .ref o]) (st := []) X d_LW_law_915 (c_LW_byteAt_no hst hD hM hn9 (fun j7 h7 e7 h8 h9 => by rw [e7] at hv; exact hv.elim (fun z8 => cv_l0 (by omega) z8) (fun z8 => absurd (cv_le (by omega) (by omega) z8) (by omega)))) lwN_s hNw rfl k_ml_LW_117 k_cd_LW_byteAt k_in_LW k_st_LW_byteAt ⟨by decide +kernel, by decide +kernel, (by decide +kernel : (parseMethodDescriptor "(LRunStore;II[J)I").map (fun d => d.parameters.length) = some 4)⟩ ⟨by omega, by omega⟩ ⟨by omega, by omega⟩ (Nat.le_of_ble_eq_true rfl) (hg_ov hn [0, 7, 8, 9, 10, 35] rfl) hrx_0 (fun E g9 h => by obtain ⟨hv9, hg9⟩ := h; cases hv9) (fun v9 g9 hq hfr => ?_)
    obtain ⟨hv9, hg9⟩ := hq
    cases hv9
    subst hg9
    refine g_ovP [0, 7, 8, 9, 10, 35] [(x, .inr (5, [.ref xm, .ref xl, .ref xb, .ref xr, .ref xt, .int (nI c), .ref xg, .long sv, .int ps, .int bd])), (xm, .inr (2, [.ref m1, .ref m2, .ref m3, .int (nI n)])), (m1, .inl (.long, 24, .inr (.inl K))), (m2, .inl (.int, 24, .inl (fun q => nI (z q)))), (m3, .inl (.long, 24, .inr (.inl V))), (xl, .inr (1, [.ref l1, .int (nI u), .int (nI la), .int (nI le), .long lk, .int (nI ls), .long lw])), (l1, .inl (.byte, 1024, .inl (fun q => sb_b (L q)))), (xb, .inr (0, [.ref y, .ref s, .ref t, .int w])), (y, .inl (.byte, M * 32, .inl (fun q => sb_b (D q)))), (s, .inl (.int, M, .inl S)), (t, .inl (.int, M, .inl T)), (xr, .inr (4, [.ref xb, rt, .int (nI (b2n rb)), .int (nI ra), .int rft, .long rk, .int (nI rs), .long rv])), (xt, .inl (.object "RunStore$Table", 16, .inr (.inr (.inr (.inr rf))))), (xg, .inr (2, [.ref g1, .ref g2, .ref g3, .int (nI Gn)])), (g1, .inl (.long, NG, .inr (.inl GK))), (g2, .inl (.int, NG, .inl (fun q => nI (Gz q)))), (g3, .inl (.long, NG, .inr (.inl GV))), (h, .inr (6, [.int th, .int (nI M), .int (nI n), .ref y1, .ref y2, .ref y3, .int (nI u), .ref y4, .ref y5, .ref y6, .ref y7, .int (nI c), .ref y8, .ref y9, .ref y10, .ref y11, .ref y12, .int bd, .int w, .int ps, .int (nI pa), .int lc, .int (nI (b2n fb)), .long ek, .long ev, .int (nI el), .int (nI fn), .ref y13, .ref y14, .ref y15, .ref y16, .int (nI js), .ref y17, .int (nI (b2n ib))])), (y1, .inl (.long, 25, .inr (.inl K))), (y2, .inl (.long, 25, .inr (.inl V))), (y3, .inl (.int, 25, .inl (fun q => nI (z q)))), (y4, .inl (.int, 1024, .inl (fun q => nI (L q)))), (y5, .inl (.int, 4096, .inl (fun q => nI (D q)))), (y6, .inl (.int, 128, .inl S)), (y7, .inl (.boolean, 128, .inl Xt)), (y8, .inl (.int, 17, .inl (fun q => nI (lv q)))), (y9, .inl (.int, 17, .inl (fun q => nI (en q)))), (y10, .inl (.int, 17, .inl (fun q => nI (mn q)))), (y11, .inl (.int, 2176, .inl (fun q => nI (bk q)))), (y12, .inl (.long, 17, .inr (.inl fl))), (y13, .inl (.long, 500, .inr (.inl FK))), (y14, .inl (.long, 500, .inr (.inl FV))), (y15, .inl (.int, 500, .inl (fun q => nI (Fz q)))), (y16, .inl (.int, 4200, .inl (fun q => nI (J q)))), (y17, .inl (.int, 128, .inl (fun q => nI (pk q)))), (o, .inl (.long, 1, .inr (.inl O)))] rfl rfl hn ?_
    refine g_istore [(5, .int (nI 1)), (4, .int (nI ix)), (3, .ref o), (2, .ref h), (1, .ref x), (0, .ref b0)] X d_LW_law_918 (by decide) rfl ?_
    refine g_aload_n X d_LW_law_920 3 rfl ?_
    refine g_aload_n X d_LW_law_921 5 rfl ?_
    refine g_iload X d_LW_law_922 1 rfl ?_
    refine g_iconst (nI 1) X d_LW_law_924 (by decide) ?_
    refine g_iadd X d_LW_law_925 ?_
    refine g_vi (nI (ix + 1)) (nI_add _ _) ?_
    refine s_iald X hScr d_LW_law_926 (by omega) (by omega) ?_
    refine g_aload_n X d_LW_law_927 5 rfl ?_
    refine g_iload X d_LW_law_928 1 rfl ?_
    refine g_iconst (nI 2) X d_LW_law_930 (by decide) ?_
    refine g_iadd X d_LW_law_931 ?_
    refine g_vi (nI (ix + 2)) (nI_add _ _) ?_
    refine s_iald X hScr d_LW_law_932 (by omega) (by omega) ?_
    refine g_callVf (As := [.int (xs (ix + 1)), .int (xs (ix + 2))]) (st := []) X d_LW_law_933 (c_MD_byteAt_no hst hnm (fun h8 h9 => by rw [win_no (by omega) hv] at h8; cases h8) hM) (hl_ov 17 rfl hn) rfl rfl k_ml_LW_119 k_cd_MD_byteAt k_in_MD k_im_MD_byteAt k_se_MD_byteAt ⟨by decide +kernel, by decide +kernel, (by decide +kernel : (parseMethodDescriptor "(II)I").map (fun d => d.parameters.length) = some 2)⟩ ⟨by omega, by omega⟩ ⟨by omega, by omega⟩ (Nat.le_of_ble_eq_true rfl) (hg_ov hn [17, 22] rfl) hrx_0 (fun E g9 h => by obtain ⟨hv9, hg9⟩ := h; cases hv9) (fun v9 g9 hq hfr => ?_)
    obtain ⟨hv9, hg9⟩ := hq
    cases hv9
    subst hg9
    refine g_ovP [17, 22] [(x, .inr (5, [.ref xm, .ref xl, .ref xb, .ref xr, .ref xt, .int (nI c), .ref xg, .long sv, .int ps, .int bd])), (xm, .inr (2, [.ref m1, .ref m2, .ref m3, .int (nI n)])), (m1, .inl (.long, 24, .inr (.inl K))), (m2, .inl (.int, 24, .inl (fun q => nI (z q)))), (m3, .inl (.long, 24, .inr (.inl V))), (xl, .inr (1, [.ref l1, .int (nI u), .int (nI la), .int (nI le), .long lk, .int (nI ls), .long lw])), (l1, .inl (.byte, 1024, .inl (fun q => sb_b (L q)))), (xb, .inr (0, [.ref y, .ref s, .ref t, .int w])), (y, .inl (.byte, M * 32, .inl (fun q => sb_b (D q)))), (s, .inl (.int, M, .inl S)), (t, .inl (.int, M, .inl T)), (xr, .inr (4, [.ref xb, rt, .int (nI (b2n rb)), .int (nI ra), .int rft, .long rk, .int (nI rs), .long rv])), (xt, .inl (.object "RunStore$Table", 16, .inr (.inr (.inr (.inr rf))))), (xg, .inr (2, [.ref g1, .ref g2, .ref g3, .int (nI Gn)])), (g1, .inl (.long, NG, .inr (.inl GK))), (g2, .inl (.int, NG, .inl (fun q => nI (Gz q)))), (g3, .inl (.long, NG, .inr (.inl GV))), (h, .inr (6, [.int (nI 1), .int (nI M), .int (nI n), .ref y1, .ref y2, .ref y3, .int (nI u), .ref y4, .ref y5, .ref y6, .ref y7, .int (nI c), .ref y8, .ref y9, .ref y10, .ref y11, .ref y12, .int bd, .int w, .int ps, .int (nI pa), .int lc, .int (nI (b2n fb)), .long ek, .long ev, .int (nI el), .int (nI fn), .ref y13, .ref y14, .ref y15, .ref y16, .int (nI js), .ref y17, .int (nI (b2n ib))])), (y1, .inl (.long, 25, .inr (.inl K))), (y2, .inl (.long, 25, .inr (.inl V))), (y3, .inl (.int, 25, .inl (fun q => nI (z q)))), (y4, .inl (.int, 1024, .inl (fun q => nI (L q)))), (y5, .inl (.int, 4096, .inl (fun q => nI (D q)))), (y6, .inl (.int, 128, .inl S)), (y7, .inl (.boolean, 128, .inl Xt)), (y8, .inl (.int, 17, .inl (fun q => nI (lv q)))), (y9, .inl (.int, 17, .inl (fun q => nI (en q)))), (y10, .inl (.int, 17, .inl (fun q => nI (mn q)))), (y11, .inl (.int, 2176, .inl (fun q => nI (bk q)))), (y12, .inl (.long, 17, .inr (.inl fl))), (y13, .inl (.long, 500, .inr (.inl FK))), (y14, .inl (.long, 500, .inr (.inl FV))), (y15, .inl (.int, 500, .inl (fun q => nI (Fz q)))), (y16, .inl (.int, 4200, .inl (fun q => nI (J q)))), (y17, .inl (.int, 128, .inl (fun q => nI (pk q)))), (o, .inl (.long, 1, .inr (.inl O)))] rfl rfl hn ?_
    refine g_istore [(6, .int (nI 0)), (5, .int (nI 1)), (4, .int (nI ix)), (3, .ref o), (2, .ref h), (1, .ref x), (0, .ref b0)] X d_LW_law_936 (by decide) rfl ?_
    refine g_aload_n X d_LW_law_938 4 rfl ?_
    refine g_callVf (As := []) (st := []) X d_LW_law_939 (c_MD_thrown hst hnh) (hl_ov 17 rfl hn) rfl rfl k_ml_LW_85 k_cd_MD_thrown k_in_MD k_im_MD_thrown k_se_MD_thrown ⟨by decide +kernel, by decide +kernel, (by decide +kernel : (parseMethodDescriptor "()I").map (fun d => d.parameters.length) = some 0)⟩ ⟨by omega, by omega⟩ ⟨by omega, by omega⟩ (Nat.le_of_ble_eq_true rfl) (hg_ov hn [17] rfl) hrx_0 (fun E g9 h => by obtain ⟨hv9, hg9⟩ := h; cases hv9) (fun v9 g9 hq hfr => ?_)
    obtain ⟨hv9, hg9⟩ := hq
    cases hv9
    subst hg9
    refine g_ovP [17] [(x, .inr (5, [.ref xm, .ref xl, .ref xb, .ref xr, .ref xt, .int (nI c), .ref xg, .long sv, .int ps, .int bd])), (xm, .inr (2, [.ref m1, .ref m2, .ref m3, .int (nI n)])), (m1, .inl (.long, 24, .inr (.inl K))), (m2, .inl (.int, 24, .inl (fun q => nI (z q)))), (m3, .inl (.long, 24, .inr (.inl V))), (xl, .inr (1, [.ref l1, .int (nI u), .int (nI la), .int (nI le), .long lk, .int (nI ls), .long lw])), (l1, .inl (.byte, 1024, .inl (fun q => sb_b (L q)))), (xb, .inr (0, [.ref y, .ref s, .ref t, .int w])), (y, .inl (.byte, M * 32, .inl (fun q => sb_b (D q)))), (s, .inl (.int, M, .inl S)), (t, .inl (.int, M, .inl T)), (xr, .inr (4, [.ref xb, rt, .int (nI (b2n rb)), .int (nI ra), .int rft, .long rk, .int (nI rs), .long rv])), (xt, .inl (.object "RunStore$Table", 16, .inr (.inr (.inr (.inr rf))))), (xg, .inr (2, [.ref g1, .ref g2, .ref g3, .int (nI Gn)])), (g1, .inl (.long, NG, .inr (.inl GK))), (g2, .inl (.int, NG, .inl (fun q => nI (Gz q)))), (g3, .inl (.long, NG, .inr (.inl GV))), (h, .inr (6, [.int (nI 1), .int (nI M), .int (nI n), .ref y1, .ref y2, .ref y3, .int (nI u), .ref y4, .ref y5, .ref y6, .ref y7, .int (nI c), .ref y8, .ref y9, .ref y10, .ref y11, .ref y12, .int bd, .int w, .int ps, .int (nI pa), .int lc, .int (nI (b2n fb)), .long ek, .long ev, .int (nI el), .int (nI fn), .ref y13, .ref y14, .ref y15, .ref y16, .int (nI js), .ref y17, .int (nI (b2n ib))])), (y1, .inl (.long, 25, .inr (.inl K))), (y2, .inl (.long, 25, .inr (.inl V))), (y3, .inl (.int, 25, .inl (fun q => nI (z q)))), (y4, .inl (.int, 1024, .inl (fun q => nI (L q)))), (y5, .inl (.int, 4096, .inl (fun q => nI (D q)))), (y6, .inl (.int, 128, .inl S)), (y7, .inl (.boolean, 128, .inl Xt)), (y8, .inl (.int, 17, .inl (fun q => nI (lv q)))), (y9, .inl (.int, 17, .inl (fun q => nI (en q)))), (y10, .inl (.int, 17, .inl (fun q => nI (mn q)))), (y11, .inl (.int, 2176, .inl (fun q => nI (bk q)))), (y12, .inl (.long, 17, .inr (.inl fl))), (y13, .inl (.long, 500, .inr (.inl FK))), (y14, .inl (.long, 500, .inr (.inl FV))), (y15, .inl (.int, 500, .inl (fun q => nI (Fz q)))), (y16, .inl (.int, 4200, .inl (fun q => nI (J q)))), (y17, .inl (.int, 128, .inl (fun q => nI (pk q)))), (o, .inl (.long, 1, .inr (.inl O)))] rfl rfl hn ?_
    refine g_iload X d_LW_law_942 1 rfl ?_
    refine g_icmp_eq 949 X d_LW_law_944 (by decide) (fun h944 => ?_) (fun h944 => ?_)
    · have h944 := cv_eq (by omega) (by omega) h944
      refine g_iload X d_LW_law_949 1 rfl ?_
      refine g_if_ne 966 X d_LW_law_951 (by decide) (fun h951 => ?_) (fun h951 => ?_)
      · have h951 := cv_n0 (by omega) h951
        refine g_goto 1292 X d_LW_law_966 (by decide) ?_
        refine g_lv [2, 3, 4, 5, 6] [(4, .int (nI ix)), (3, .ref o), (2, .ref h), (1, .ref x), (0, .ref b0)] rfl ?_
        refine g_widen (ce' := ce + 5) (sl' := sl + 150) (by omega) (by omega) ?_
        exact kk _ ⟨_, _, _, _, _, _, _, _, _, _, _, _, _, _, _, _, _, _, _, _, _, _, _, _, _, _, _, _, _, _, _, _, _, _, _, _, _, _, _, _, _, _, _, _, _, _, _, _, _, _, _, _, _, _, _, _, _, rfl, hn24, hs, hz, hu, hL, hD, hc16, hP, hI, hB, hX, hPd⟩
      · have h951 := cv_e0 (by omega) h951
        omega
    · have h944 := cv_ne (by omega) (by omega) h944
      omega

set_option maxRecDepth 100000 in
set_option maxHeartbeats 4000000 in
theorem law_poke {mp : Program} {l : Launch} {me : Env} {mR : Room} {sm : State} {mm : MethodId} {margs : Array Value} {mbel : List Frame} {mmet : Method} {mcod : Code} {mD : va_G} {f9 : fh_M} {Q9 : State → Prop} {ce sl b0 Ls ix : Nat} {xs : Nat → Int32} (X : fh_X mp l sm mm margs mmet mcod mD fhCl fhT f9 (hp []) y_LW_law.cls b_LW_law 8) (hScr : lwX sm f9 b0 Ls xs) (hst : l.stackTraces = false) (hNw : lwN sm) (hRf : 12 ≤ mR.frames) (hRl : 438 ≤ mR.locals) (hRc : ce + 5 ≤ mR.cells) (hRs : sl + 150 ≤ mR.slots) {M NG x xm m1 m2 m3 xl l1 xb y s t xr xt xg g1 g2 g3 h y1 y2 y3 y4 y5 y6 y7 y8 y9 y10 y11 y12 y13 y14 y15 y16 y17 o : Nat} (hM4 : 4 ≤ M) (hM : M ≤ 128) (hNGe : NG = 24 + M * 32 / 9) (hn : [x, xm, m1, m2, m3, xl, l1, xb, y, s, t, xr, xt, xg, g1, g2, g3, h, y1, y2, y3, y4, y5, y6, y7, y8, y9, y10, y11, y12, y13, y14, y15, y16, y17, o].Nodup) (hLs : Ls ≤ 3073) (hix : ix + 5 < Ls) {f : fh_M} (hS : lwS M NG x xm m1 m2 m3 xl l1 xb y s t xr xt xg g1 g2 g3 h y1 y2 y3 y4 y5 y6 y7 y8 y9 y10 y11 y12 y13 y14 y15 y16 y17 o f)  (kk : ∀ f, lwS M NG x xm m1 m2 m3 xl l1 xb y s t xr xt xg g1 g2 g3 h y1 y2 y3 y4 y5 y6 y7 y8 y9 y10 y11 y12 y13 y14 y15 y16 y17 o f → fh_G mp l me mR sm mm margs mbel mmet mcod mD fhCl f9 8 Q9 (ce + 5) (sl + 150) f 1292 [(4, .int (nI ix)), (3, .ref o), (2, .ref h), (1, .ref x), (0, .ref b0)] []) : fh_G mp l me mR sm mm margs mbel mmet mcod mD fhCl f9 8 Q9 (ce) (sl) f 969 [(4, .int (nI ix)), (3, .ref o), (2, .ref h), (1, .ref x), (0, .ref b0)] [] := by
  refine lwS_elim (C9 := fun f => fh_G mp l me mR sm mm margs mbel mmet mcod mD fhCl f9 8 Q9 (ce) (sl) f 969 [(4, .int (nI ix)), (3, .ref o), (2, .ref h), (1, .ref x), (0, .ref b0)] []) hS (fun K z V n L u D S T tb c ps bd w sv la le lk ls lw rt rb ra rft rk rs rv rf tq ti P GK Gz GV Gn th pa lc fb ek ev el fn js ib Xt lv en mn fl bk FK FV Fz J pk O hn24 hs hz hu hL hD hc16 hP hI hB hX hPd => ?_)
  show fh_G mp l me mR sm mm margs mbel mmet mcod mD fhCl f9 8 Q9 (ce) (sl) (fh_ov (hp [(x, .inr (5, [.ref xm, .ref xl, .ref xb, .ref xr, .ref xt, .int (nI c), .ref xg, .long sv, .int ps, .int bd])), (xm, .inr (2, [.ref m1, .ref m2, .ref m3, .int (nI n)])), (m1, .inl (.long, 24, .inr (.inl K))), (m2, .inl (.int, 24, .inl (fun q => nI (z q)))), (m3, .inl (.long, 24, .inr (.inl V))), (xl, .inr (1, [.ref l1, .int (nI u), .int (nI la), .int (nI le), .long lk, .int (nI ls), .long lw])), (l1, .inl (.byte, 1024, .inl (fun q => sb_b (L q)))), (xb, .inr (0, [.ref y, .ref s, .ref t, .int w])), (y, .inl (.byte, M * 32, .inl (fun q => sb_b (D q)))), (s, .inl (.int, M, .inl S)), (t, .inl (.int, M, .inl T)), (xr, .inr (4, [.ref xb, rt, .int (nI (b2n rb)), .int (nI ra), .int rft, .long rk, .int (nI rs), .long rv])), (xt, .inl (.object "RunStore$Table", 16, .inr (.inr (.inr (.inr rf))))), (xg, .inr (2, [.ref g1, .ref g2, .ref g3, .int (nI Gn)])), (g1, .inl (.long, NG, .inr (.inl GK))), (g2, .inl (.int, NG, .inl (fun q => nI (Gz q)))), (g3, .inl (.long, NG, .inr (.inl GV))), (h, .inr (6, [.int th, .int (nI M), .int (nI n), .ref y1, .ref y2, .ref y3, .int (nI u), .ref y4, .ref y5, .ref y6, .ref y7, .int (nI c), .ref y8, .ref y9, .ref y10, .ref y11, .ref y12, .int bd, .int w, .int ps, .int (nI pa), .int lc, .int (nI (b2n fb)), .long ek, .long ev, .int (nI el), .int (nI fn), .ref y13, .ref y14, .ref y15, .ref y16, .int (nI js), .ref y17, .int (nI (b2n ib))])), (y1, .inl (.long, 25, .inr (.inl K))), (y2, .inl (.long, 25, .inr (.inl V))), (y3, .inl (.int, 25, .inl (fun q => nI (z q)))), (y4, .inl (.int, 1024, .inl (fun q => nI (L q)))), (y5, .inl (.int, 4096, .inl (fun q => nI (D q)))), (y6, .inl (.int, 128, .inl S)), (y7, .inl (.boolean, 128, .inl Xt)), (y8, .inl (.int, 17, .inl (fun q => nI (lv q)))), (y9, .inl (.int, 17, .inl (fun q => nI (en q)))), (y10, .inl (.int, 17, .inl (fun q => nI (mn q)))), (y11, .inl (.int, 2176, .inl (fun q => nI (bk q)))), (y12, .inl (.long, 17, .inr (.inl fl))), (y13, .inl (.long, 500, .inr (.inl FK))), (y14, .inl (.long, 500, .inr (.inl FV))), (y15, .inl (.int, 500, .inl (fun q => nI (Fz q)))), (y16, .inl (.int, 4200, .inl (fun q => nI (J q)))), (y17, .inl (.int, 128, .inl (fun q => nI (pk q)))), (o, .inl (.long, 1, .inr (.inl O)))]) P) 969 [(4, .int (nI ix)), (3, .ref o), (2, .ref h), (1, .ref x), (0, .ref b0)] []
  have hnh : [h].Nodup := nd_pick [x, xm, m1, m2, m3, xl, l1, xb, y, s, t, xr, xt, xg, g1, g2, g3, h, y1, y2, y3, y4, y5, y6, y7, y8, y9, y10, y11, y12, y13, y14, y15, y16, y17, o] [17] 36 hn (by decide) rfl (by decide)
  have hnm : [h, y5].Nodup := nd_pick [x, xm, m1, m2, m3, xl, l1, xb, y, s, t, xr, xt, xg, g1, g2, g3, h, y1, y2, y3, y4, y5, y6, y7, y8, y9, y10, y11, y12, y13, y14, y15, y16, y17, o] [17, 22] 36 hn (by decide) rfl (by decide)
  obtain ⟨wm, h_wm⟩ : ∃ wm, xs (ix + 3) = wm := ⟨_, rfl⟩
  rcases rng0 (xs (ix + 1)) (c := M) (by omega) with ⟨j, hj, hv⟩ | hv
  · rcases rng0 (xs (ix + 2)) (c := 32) (by decide) with ⟨k, hk, hw9⟩ | hw9
    · have hn9 : [x, xb, y, s, t, o].Nodup := nd_pick [x, xm, m1, m2, m3, xl, l1, xb, y, s, t, xr, xt, xg, g1, g2, g3, h, y1, y2, y3, y4, y5, y6, y7, y8, y9, y10, y11, y12, y13, y14, y15, y16, y17, o] [0, 7, 8, 9, 10, 35] 36 hn (by decide) rfl (by decide)
      refine g_aload_n X d_LW_law_969 3 rfl ?_
      refine g_aload_n X d_LW_law_970 4 rfl ?_
      refine g_iload X d_LW_law_971 0 rfl ?_
      refine g_iconst (nI 1) X d_LW_law_973 (by decide) ?_
      refine g_iadd X d_LW_law_974 ?_
      refine g_vi (nI (ix + 1)) (nI_add _ _) ?_
      refine s_iald X hScr d_LW_law_975 (by omega) (by omega) ?_
      refine g_vi (nI j) hv ?_
      refine g_aload_n X d_LW_law_976 4 rfl ?_
      refine g_iload X d_LW_law_977 0 rfl ?_
      refine g_iconst (nI 2) X d_LW_law_979 (by decide) ?_
      refine g_iadd X d_LW_law_980 ?_
      refine g_vi (nI (ix + 2)) (nI_add _ _) ?_
      refine s_iald X hScr d_LW_law_981 (by omega) (by omega) ?_
      refine g_vi (nI k) hw9 ?_
      refine g_aload_n X d_LW_law_982 4 rfl ?_
      refine g_iload X d_LW_law_983 0 rfl ?_
      refine g_iconst (nI 3) X d_LW_law_985 (by decide) ?_
      refine g_iadd X d_LW_law_986 ?_
      refine g_vi (nI (ix + 3)) (nI_add _ _) ?_
      refine s_iald X hScr d_LW_law_987 (by omega) (by omega) ?_
      refine g_vi wm h_wm ?_
      refine g_aload_n X d_LW_law_988 1 rfl ?_
      refine g_callSW (As := [.ref x, .int (nI j), .int (nI k), .int wm, .ref o]) (st := []) X d_LW_law_989 (c_LW_poke_in hst hD hM hn9 hj hk) lwN_s hNw rfl k_ml_LW_120 k_cd_LW_poke k_in_LW k_st_LW_poke ⟨by decide +kernel, by decide +kernel, (by decide +kernel : (parseMethodDescriptor "(LRunStore;III[J)I").map (fun d => d.parameters.length) = some 5)⟩ ⟨by omega, by omega⟩ ⟨by omega, by omega⟩ (Nat.le_of_ble_eq_true rfl) (hg_ov hn [0, 7, 8, 9, 10, 35] rfl) hrx_0 (fun E g9 h => by obtain ⟨hv9, hg9⟩ := h; cases hv9) (fun v9 g9 hq hfr => ?_)
      obtain ⟨hv9, hg9⟩ := hq
      cases hv9
      subst hg9
      refine g_ovP [0, 7, 8, 9, 10, 35] [(x, .inr (5, [.ref xm, .ref xl, .ref xb, .ref xr, .ref xt, .int (nI c), .ref xg, .long sv, .int ps, .int bd])), (xm, .inr (2, [.ref m1, .ref m2, .ref m3, .int (nI n)])), (m1, .inl (.long, 24, .inr (.inl K))), (m2, .inl (.int, 24, .inl (fun q => nI (z q)))), (m3, .inl (.long, 24, .inr (.inl V))), (xl, .inr (1, [.ref l1, .int (nI u), .int (nI la), .int (nI le), .long lk, .int (nI ls), .long lw])), (l1, .inl (.byte, 1024, .inl (fun q => sb_b (L q)))), (xb, .inr (0, [.ref y, .ref s, .ref t, .int w])), (y, .inl (.byte, M * 32, .inl (fun q => sb_b (((va_up D (j * 32 + k) (xrb (D (j * 32 + k)) wm))) q)))), (s, .inl (.int, M, .inl S)), (t, .inl (.int, M, .inl T)), (xr, .inr (4, [.ref xb, rt, .int (nI (b2n rb)), .int (nI ra), .int rft, .long rk, .int (nI rs), .long rv])), (xt, .inl (.object "RunStore$Table", 16, .inr (.inr (.inr (.inr rf))))), (xg, .inr (2, [.ref g1, .ref g2, .ref g3, .int (nI Gn)])), (g1, .inl (.long, NG, .inr (.inl GK))), (g2, .inl (.int, NG, .inl (fun q => nI (Gz q)))), (g3, .inl (.long, NG, .inr (.inl GV))), (h, .inr (6, [.int th, .int (nI M), .int (nI n), .ref y1, .ref y2, .ref y3, .int (nI u), .ref y4, .ref y5, .ref y6, .ref y7, .int (nI c), .ref y8, .ref y9, .ref y10, .ref y11, .ref y12, .int bd, .int w, .int ps, .int (nI pa), .int lc, .int (nI (b2n fb)), .long ek, .long ev, .int (nI el), .int (nI fn), .ref y13, .ref y14, .ref y15, .ref y16, .int (nI js), .ref y17, .int (nI (b2n ib))])), (y1, .inl (.long, 25, .inr (.inl K))), (y2, .inl (.long, 25, .inr (.inl V))), (y3, .inl (.int, 25, .inl (fun q => nI (z q)))), (y4, .inl (.int, 1024, .inl (fun q => nI (L q)))), (y5, .inl (.int, 4096, .inl (fun q => nI (D q)))), (y6, .inl (.int, 128, .inl S)), (y7, .inl (.boolean, 128, .inl Xt)), (y8, .inl (.int, 17, .inl (fun q => nI (lv q)))), (y9, .inl (.int, 17, .inl (fun q => nI (en q)))), (y10, .inl (.int, 17, .inl (fun q => nI (mn q)))), (y11, .inl (.int, 2176, .inl (fun q => nI (bk q)))), (y12, .inl (.long, 17, .inr (.inl fl))), (y13, .inl (.long, 500, .inr (.inl FK))), (y14, .inl (.long, 500, .inr (.inl FV))), (y15, .inl (.int, 500, .inl (fun q => nI (Fz q)))), (y16, .inl (.int, 4200, .inl (fun q => nI (J q)))), (y17, .inl (.int, 128, .inl (fun q => nI (pk q)))), (o, .inl (.long, 1, .inr (.inl (va_up O 0 ((nI (xrb (D (j * 32 + k)) wm)).toInt64)))))] rfl rfl hn ?_
      refine g_istore [(5, .int (nI 0)), (4, .int (nI ix)), (3, .ref o), (2, .ref h), (1, .ref x), (0, .ref b0)] X d_LW_law_992 (by decide) rfl ?_
      refine g_aload_n X d_LW_law_994 3 rfl ?_
      refine g_aload_n X d_LW_law_995 5 rfl ?_
      refine g_iload X d_LW_law_996 1 rfl ?_
      refine g_iconst (nI 1) X d_LW_law_998 (by decide) ?_
      refine g_iadd X d_LW_law_999 ?_
      refine g_vi (nI (ix + 1)) (nI_add _ _) ?_
      refine s_iald X hScr d_LW_law_1000 (by omega) (by omega) ?_
      refine g_vi (nI j) hv ?_
      refine g_aload_n X d_LW_law_1001 5 rfl ?_
      refine g_iload X d_LW_law_1002 1 rfl ?_
      refine g_iconst (nI 2) X d_LW_law_1004 (by decide) ?_
      refine g_iadd X d_LW_law_1005 ?_
      refine g_vi (nI (ix + 2)) (nI_add _ _) ?_
      refine s_iald X hScr d_LW_law_1006 (by omega) (by omega) ?_
      refine g_vi (nI k) hw9 ?_
      refine g_aload_n X d_LW_law_1007 5 rfl ?_
      refine g_iload X d_LW_law_1008 1 rfl ?_
      refine g_iconst (nI 3) X d_LW_law_1010 (by decide) ?_
      refine g_iadd X d_LW_law_1011 ?_
      refine g_vi (nI (ix + 3)) (nI_add _ _) ?_
      refine s_iald X hScr d_LW_law_1012 (by omega) (by omega) ?_
      refine g_vi wm h_wm ?_
      refine g_callVf (As := [.int (nI j), .int (nI k), .int wm]) (st := []) X d_LW_law_1013 (c_MD_poke_in hst hnm hj hk hM hD) (hl_ov 17 rfl hn) rfl rfl k_ml_LW_123 k_cd_MD_poke k_in_MD k_im_MD_poke k_se_MD_poke ⟨by decide +kernel, by decide +kernel, (by decide +kernel : (parseMethodDescriptor "(III)I").map (fun d => d.parameters.length) = some 3)⟩ ⟨by omega, by omega⟩ ⟨by omega, by omega⟩ (Nat.le_of_ble_eq_true rfl) (hg_ov hn [17, 22] rfl) hrx_0 (fun E g9 h => by obtain ⟨hv9, hg9⟩ := h; cases hv9) (fun v9 g9 hq hfr => ?_)
      obtain ⟨hv9, hg9⟩ := hq
      cases hv9
      subst hg9
      refine g_ovP [17, 22] [(x, .inr (5, [.ref xm, .ref xl, .ref xb, .ref xr, .ref xt, .int (nI c), .ref xg, .long sv, .int ps, .int bd])), (xm, .inr (2, [.ref m1, .ref m2, .ref m3, .int (nI n)])), (m1, .inl (.long, 24, .inr (.inl K))), (m2, .inl (.int, 24, .inl (fun q => nI (z q)))), (m3, .inl (.long, 24, .inr (.inl V))), (xl, .inr (1, [.ref l1, .int (nI u), .int (nI la), .int (nI le), .long lk, .int (nI ls), .long lw])), (l1, .inl (.byte, 1024, .inl (fun q => sb_b (L q)))), (xb, .inr (0, [.ref y, .ref s, .ref t, .int w])), (y, .inl (.byte, M * 32, .inl (fun q => sb_b (((va_up D (j * 32 + k) (xrb (D (j * 32 + k)) wm))) q)))), (s, .inl (.int, M, .inl S)), (t, .inl (.int, M, .inl T)), (xr, .inr (4, [.ref xb, rt, .int (nI (b2n rb)), .int (nI ra), .int rft, .long rk, .int (nI rs), .long rv])), (xt, .inl (.object "RunStore$Table", 16, .inr (.inr (.inr (.inr rf))))), (xg, .inr (2, [.ref g1, .ref g2, .ref g3, .int (nI Gn)])), (g1, .inl (.long, NG, .inr (.inl GK))), (g2, .inl (.int, NG, .inl (fun q => nI (Gz q)))), (g3, .inl (.long, NG, .inr (.inl GV))), (h, .inr (6, [.int (nI 0), .int (nI M), .int (nI n), .ref y1, .ref y2, .ref y3, .int (nI u), .ref y4, .ref y5, .ref y6, .ref y7, .int (nI c), .ref y8, .ref y9, .ref y10, .ref y11, .ref y12, .int bd, .int w, .int ps, .int (nI pa), .int lc, .int (nI (b2n fb)), .long ek, .long ev, .int (nI el), .int (nI fn), .ref y13, .ref y14, .ref y15, .ref y16, .int (nI js), .ref y17, .int (nI (b2n ib))])), (y1, .inl (.long, 25, .inr (.inl K))), (y2, .inl (.long, 25, .inr (.inl V))), (y3, .inl (.int, 25, .inl (fun q => nI (z q)))), (y4, .inl (.int, 1024, .inl (fun q => nI (L q)))), (y5, .inl (.int, 4096, .inl (fun q => nI (((va_up D (j * 32 + k) (xrb (D (j * 32 + k)) wm))) q)))), (y6, .inl (.int, 128, .inl S)), (y7, .inl (.boolean, 128, .inl Xt)), (y8, .inl (.int, 17, .inl (fun q => nI (lv q)))), (y9, .inl (.int, 17, .inl (fun q => nI (en q)))), (y10, .inl (.int, 17, .inl (fun q => nI (mn q)))), (y11, .inl (.int, 2176, .inl (fun q => nI (bk q)))), (y12, .inl (.long, 17, .inr (.inl fl))), (y13, .inl (.long, 500, .inr (.inl FK))), (y14, .inl (.long, 500, .inr (.inl FV))), (y15, .inl (.int, 500, .inl (fun q => nI (Fz q)))), (y16, .inl (.int, 4200, .inl (fun q => nI (J q)))), (y17, .inl (.int, 128, .inl (fun q => nI (pk q)))), (o, .inl (.long, 1, .inr (.inl (va_up O 0 ((nI (xrb (D (j * 32 + k)) wm)).toInt64)))))] rfl rfl hn ?_
      refine g_istore [(6, .int (nI (xrb (D (j * 32 + k)) wm))), (5, .int (nI 0)), (4, .int (nI ix)), (3, .ref o), (2, .ref h), (1, .ref x), (0, .ref b0)] X d_LW_law_1016 (by decide) rfl ?_
      refine g_aload_n X d_LW_law_1018 4 rfl ?_
      refine g_callVf (As := []) (st := []) X d_LW_law_1019 (c_MD_thrown hst hnh) (hl_ov 17 rfl hn) rfl rfl k_ml_LW_85 k_cd_MD_thrown k_in_MD k_im_MD_thrown k_se_MD_thrown ⟨by decide +kernel, by decide +kernel, (by decide +kernel : (parseMethodDescriptor "()I").map (fun d => d.parameters.length) = some 0)⟩ ⟨by omega, by omega⟩ ⟨by omega, by omega⟩ (Nat.le_of_ble_eq_true rfl) (hg_ov hn [17] rfl) hrx_0 (fun E g9 h => by obtain ⟨hv9, hg9⟩ := h; cases hv9) (fun v9 g9 hq hfr => ?_)
      obtain ⟨hv9, hg9⟩ := hq
      cases hv9
      subst hg9
      refine g_ovP [17] [(x, .inr (5, [.ref xm, .ref xl, .ref xb, .ref xr, .ref xt, .int (nI c), .ref xg, .long sv, .int ps, .int bd])), (xm, .inr (2, [.ref m1, .ref m2, .ref m3, .int (nI n)])), (m1, .inl (.long, 24, .inr (.inl K))), (m2, .inl (.int, 24, .inl (fun q => nI (z q)))), (m3, .inl (.long, 24, .inr (.inl V))), (xl, .inr (1, [.ref l1, .int (nI u), .int (nI la), .int (nI le), .long lk, .int (nI ls), .long lw])), (l1, .inl (.byte, 1024, .inl (fun q => sb_b (L q)))), (xb, .inr (0, [.ref y, .ref s, .ref t, .int w])), (y, .inl (.byte, M * 32, .inl (fun q => sb_b (((va_up D (j * 32 + k) (xrb (D (j * 32 + k)) wm))) q)))), (s, .inl (.int, M, .inl S)), (t, .inl (.int, M, .inl T)), (xr, .inr (4, [.ref xb, rt, .int (nI (b2n rb)), .int (nI ra), .int rft, .long rk, .int (nI rs), .long rv])), (xt, .inl (.object "RunStore$Table", 16, .inr (.inr (.inr (.inr rf))))), (xg, .inr (2, [.ref g1, .ref g2, .ref g3, .int (nI Gn)])), (g1, .inl (.long, NG, .inr (.inl GK))), (g2, .inl (.int, NG, .inl (fun q => nI (Gz q)))), (g3, .inl (.long, NG, .inr (.inl GV))), (h, .inr (6, [.int (nI 0), .int (nI M), .int (nI n), .ref y1, .ref y2, .ref y3, .int (nI u), .ref y4, .ref y5, .ref y6, .ref y7, .int (nI c), .ref y8, .ref y9, .ref y10, .ref y11, .ref y12, .int bd, .int w, .int ps, .int (nI pa), .int lc, .int (nI (b2n fb)), .long ek, .long ev, .int (nI el), .int (nI fn), .ref y13, .ref y14, .ref y15, .ref y16, .int (nI js), .ref y17, .int (nI (b2n ib))])), (y1, .inl (.long, 25, .inr (.inl K))), (y2, .inl (.long, 25, .inr (.inl V))), (y3, .inl (.int, 25, .inl (fun q => nI (z q)))), (y4, .inl (.int, 1024, .inl (fun q => nI (L q)))), (y5, .inl (.int, 4096, .inl (fun q => nI (((va_up D (j * 32 + k) (xrb (D (j * 32 + k)) wm))) q)))), (y6, .inl (.int, 128, .inl S)), (y7, .inl (.boolean, 128, .inl Xt)), (y8, .inl (.int, 17, .inl (fun q => nI (lv q)))), (y9, .inl (.int, 17, .inl (fun q => nI (en q)))), (y10, .inl (.int, 17, .inl (fun q => nI (mn q)))), (y11, .inl (.int, 2176, .inl (fun q => nI (bk q)))), (y12, .inl (.long, 17, .inr (.inl fl))), (y13, .inl (.long, 500, .inr (.inl FK))), (y14, .inl (.long, 500, .inr (.inl FV))), (y15, .inl (.int, 500, .inl (fun q => nI (Fz q)))), (y16, .inl (.int, 4200, .inl (fun q => nI (J q)))), (y17, .inl (.int, 128, .inl (fun q => nI (pk q)))), (o, .inl (.long, 1, .inr (.inl (va_up O 0 ((nI (xrb (D (j * 32 + k)) wm)).toInt64)))))] rfl rfl hn ?_
      refine g_iload X d_LW_law_1022 1 rfl ?_
      refine g_icmp_eq 1029 X d_LW_law_1024 (by decide) (fun h1024 => ?_) (fun h1024 => ?_)
      · have h1024 := cv_eq (by omega) (by omega) h1024
        refine g_iload X d_LW_law_1029 1 rfl ?_
        refine g_if_ne 1046 X d_LW_law_1031 (by decide) (fun h1031 => ?_) (fun h1031 => ?_)
        · have h1031 := cv_n0 (by omega) h1031
          omega
        · have h1031 := cv_e0 (by omega) h1031
          refine g_aload_n X d_LW_law_1034 3 rfl ?_
          refine g_iconst (nI 0) X d_LW_law_1035 (by decide) ?_
          refine h_lald X d_LW_law_1036 (hl_ov 35 rfl hn) (by omega) (by omega) ?_
          refine g_iload X d_LW_law_1037 0 rfl ?_
          refine g_i2l X d_LW_law_1039 ?_
          refine g_lcmp X d_LW_law_1040 ?_
          refine g_if_eq 1046 X d_LW_law_1041 (by decide) (fun h1041 => ?_) (fun h1041 => ?_)
          · have h1041 := (lg_cmp_eq ((va_up O 0 ((nI (xrb (D (j * 32 + k)) wm)).toInt64)) 0) ((nI (xrb (D (j * 32 + k)) wm)).toInt64)).mp h1041
            refine g_goto 1292 X d_LW_law_1046 (by decide) ?_
            refine g_lv [2, 3, 4, 5, 6] [(4, .int (nI ix)), (3, .ref o), (2, .ref h), (1, .ref x), (0, .ref b0)] rfl ?_
            refine g_widen (ce' := ce + 5) (sl' := sl + 150) (by omega) (by omega) ?_
            exact kk _ ⟨_, _, _, _, _, _, _, _, _, _, _, _, _, _, _, _, _, _, _, _, _, _, _, _, _, _, _, _, _, _, _, _, _, _, _, _, _, _, _, _, _, _, _, _, _, _, _, _, _, _, _, _, _, _, _, _, _, rfl, hn24, hs, hz, hu, hL, (up_lt hD (xrb_lt _ _)), hc16, hP, hI, hB, hX, hPd⟩
          · have h1041 := fun z8 => h1041 ((lg_cmp_eq ((va_up O 0 ((nI (xrb (D (j * 32 + k)) wm)).toInt64)) 0) ((nI (xrb (D (j * 32 + k)) wm)).toInt64)).mpr z8)
            exact absurd (va_up_self _ _ _) h1041
      · have h1024 := cv_ne (by omega) (by omega) h1024
        omega
    · have hn9 : [x, xb, y, s, t, o].Nodup := nd_pick [x, xm, m1, m2, m3, xl, l1, xb, y, s, t, xr, xt, xg, g1, g2, g3, h, y1, y2, y3, y4, y5, y6, y7, y8, y9, y10, y11, y12, y13, y14, y15, y16, y17, o] [0, 7, 8, 9, 10, 35] 36 hn (by decide) rfl (by decide)
      refine g_aload_n X d_LW_law_969 3 rfl ?_
      refine g_aload_n X d_LW_law_970 4 rfl ?_
      refine g_iload X d_LW_law_971 0 rfl ?_
      refine g_iconst (nI 1) X d_LW_law_973 (by decide) ?_
      refine g_iadd X d_LW_law_974 ?_
      refine g_vi (nI (ix + 1)) (nI_add _ _) ?_
      refine s_iald X hScr d_LW_law_975 (by omega) (by omega) ?_
      refine g_aload_n X d_LW_law_976 4 rfl ?_
      refine g_iload X d_LW_law_977 0 rfl ?_
      refine g_iconst (nI 2) X d_LW_law_979 (by decide) ?_
      refine g_iadd X d_LW_law_980 ?_
      refine g_vi (nI (ix + 2)) (nI_add _ _) ?_
      refine s_iald X hScr d_LW_law_981 (by omega) (by omega) ?_
      refine g_aload_n X d_LW_law_982 4 rfl ?_
      refine g_iload X d_LW_law_983 0 rfl ?_
      refine g_iconst (nI 3) X d_LW_law_985 (by decide) ?_
      refine g_iadd X d_LW_law_986 ?_
      refine g_vi (nI (ix + 3)) (nI_add _ _) ?_
      refine s_iald X hScr d_LW_law_987 (by omega) (by omega) ?_
      refine g_vi wm h_wm ?_
      refine g_aload_n X d_LW_law_988 1 rfl ?_
      refine g_callSW (As := [.ref x, .int (xs (ix + 1)), .int (xs (ix + 2)), .int wm, .ref o]) (st := []) X d_LW_law_989 (c_LW_poke_no hst hD hM hn9 (fun j7 h7 e7 h8 h9 => hw9.elim (fun z8 => h8 z8) (fun z8 => i32_nlt z8 h9))) lwN_s hNw rfl k_ml_LW_120 k_cd_LW_poke k_in_LW k_st_LW_poke ⟨by decide +kernel, by decide +kernel, (by decide +kernel : (parseMethodDescriptor "(LRunStore;III[J)I").map (fun d => d.parameters.length) = some 5)⟩ ⟨by omega, by omega⟩ ⟨by omega, by omega⟩ (Nat.le_of_ble_eq_true rfl) (hg_ov hn [0, 7, 8, 9, 10, 35] rfl) hrx_0 (fun E g9 h => by obtain ⟨hv9, hg9⟩ := h; cases hv9) (fun v9 g9 hq hfr => ?_)
      obtain ⟨hv9, hg9⟩ := hq
      cases hv9
      subst hg9
      refine g_ovP [0, 7, 8, 9, 10, 35] [(x, .inr (5, [.ref xm, .ref xl, .ref xb, .ref xr, .ref xt, .int (nI c), .ref xg, .long sv, .int ps, .int bd])), (xm, .inr (2, [.ref m1, .ref m2, .ref m3, .int (nI n)])), (m1, .inl (.long, 24, .inr (.inl K))), (m2, .inl (.int, 24, .inl (fun q => nI (z q)))), (m3, .inl (.long, 24, .inr (.inl V))), (xl, .inr (1, [.ref l1, .int (nI u), .int (nI la), .int (nI le), .long lk, .int (nI ls), .long lw])), (l1, .inl (.byte, 1024, .inl (fun q => sb_b (L q)))), (xb, .inr (0, [.ref y, .ref s, .ref t, .int w])), (y, .inl (.byte, M * 32, .inl (fun q => sb_b (D q)))), (s, .inl (.int, M, .inl S)), (t, .inl (.int, M, .inl T)), (xr, .inr (4, [.ref xb, rt, .int (nI (b2n rb)), .int (nI ra), .int rft, .long rk, .int (nI rs), .long rv])), (xt, .inl (.object "RunStore$Table", 16, .inr (.inr (.inr (.inr rf))))), (xg, .inr (2, [.ref g1, .ref g2, .ref g3, .int (nI Gn)])), (g1, .inl (.long, NG, .inr (.inl GK))), (g2, .inl (.int, NG, .inl (fun q => nI (Gz q)))), (g3, .inl (.long, NG, .inr (.inl GV))), (h, .inr (6, [.int th, .int (nI M), .int (nI n), .ref y1, .ref y2, .ref y3, .int (nI u), .ref y4, .ref y5, .ref y6, .ref y7, .int (nI c), .ref y8, .ref y9, .ref y10, .ref y11, .ref y12, .int bd, .int w, .int ps, .int (nI pa), .int lc, .int (nI (b2n fb)), .long ek, .long ev, .int (nI el), .int (nI fn), .ref y13, .ref y14, .ref y15, .ref y16, .int (nI js), .ref y17, .int (nI (b2n ib))])), (y1, .inl (.long, 25, .inr (.inl K))), (y2, .inl (.long, 25, .inr (.inl V))), (y3, .inl (.int, 25, .inl (fun q => nI (z q)))), (y4, .inl (.int, 1024, .inl (fun q => nI (L q)))), (y5, .inl (.int, 4096, .inl (fun q => nI (D q)))), (y6, .inl (.int, 128, .inl S)), (y7, .inl (.boolean, 128, .inl Xt)), (y8, .inl (.int, 17, .inl (fun q => nI (lv q)))), (y9, .inl (.int, 17, .inl (fun q => nI (en q)))), (y10, .inl (.int, 17, .inl (fun q => nI (mn q)))), (y11, .inl (.int, 2176, .inl (fun q => nI (bk q)))), (y12, .inl (.long, 17, .inr (.inl fl))), (y13, .inl (.long, 500, .inr (.inl FK))), (y14, .inl (.long, 500, .inr (.inl FV))), (y15, .inl (.int, 500, .inl (fun q => nI (Fz q)))), (y16, .inl (.int, 4200, .inl (fun q => nI (J q)))), (y17, .inl (.int, 128, .inl (fun q => nI (pk q)))), (o, .inl (.long, 1, .inr (.inl O)))] rfl rfl hn ?_
      refine g_istore [(5, .int (nI 1)), (4, .int (nI ix)), (3, .ref o), (2, .ref h), (1, .ref x), (0, .ref b0)] X d_LW_law_992 (by decide) rfl ?_
      refine g_aload_n X d_LW_law_994 3 rfl ?_
      refine g_aload_n X d_LW_law_995 5 rfl ?_
      refine g_iload X d_LW_law_996 1 rfl ?_
      refine g_iconst (nI 1) X d_LW_law_998 (by decide) ?_
      refine g_iadd X d_LW_law_999 ?_
      refine g_vi (nI (ix + 1)) (nI_add _ _) ?_
      refine s_iald X hScr d_LW_law_1000 (by omega) (by omega) ?_
      refine g_aload_n X d_LW_law_1001 5 rfl ?_
      refine g_iload X d_LW_law_1002 1 rfl ?_
      refine g_iconst (nI 2) X d_LW_law_1004 (by decide) ?_
      refine g_iadd X d_LW_law_1005 ?_
      refine g_vi (nI (ix + 2)) (nI_add _ _) ?_
      refine s_iald X hScr d_LW_law_1006 (by omega) (by omega) ?_
      refine g_aload_n X d_LW_law_1007 5 rfl ?_
      refine g_iload X d_LW_law_1008 1 rfl ?_
      refine g_iconst (nI 3) X d_LW_law_1010 (by decide) ?_
      refine g_iadd X d_LW_law_1011 ?_
      refine g_vi (nI (ix + 3)) (nI_add _ _) ?_
      refine s_iald X hScr d_LW_law_1012 (by omega) (by omega) ?_
      refine g_vi wm h_wm ?_
      refine g_callVf (As := [.int (xs (ix + 1)), .int (xs (ix + 2)), .int wm]) (st := []) X d_LW_law_1013 (c_MD_poke_no hst hnm (fun h8 h9 => by rw [win_k (b := 31) (by decide) hw9 (by decide)] at h9; cases h9) hM) (hl_ov 17 rfl hn) rfl rfl k_ml_LW_123 k_cd_MD_poke k_in_MD k_im_MD_poke k_se_MD_poke ⟨by decide +kernel, by decide +kernel, (by decide +kernel : (parseMethodDescriptor "(III)I").map (fun d => d.parameters.length) = some 3)⟩ ⟨by omega, by omega⟩ ⟨by omega, by omega⟩ (Nat.le_of_ble_eq_true rfl) (hg_ov hn [17, 22] rfl) hrx_0 (fun E g9 h => by obtain ⟨hv9, hg9⟩ := h; cases hv9) (fun v9 g9 hq hfr => ?_)
      obtain ⟨hv9, hg9⟩ := hq
      cases hv9
      subst hg9
      refine g_ovP [17, 22] [(x, .inr (5, [.ref xm, .ref xl, .ref xb, .ref xr, .ref xt, .int (nI c), .ref xg, .long sv, .int ps, .int bd])), (xm, .inr (2, [.ref m1, .ref m2, .ref m3, .int (nI n)])), (m1, .inl (.long, 24, .inr (.inl K))), (m2, .inl (.int, 24, .inl (fun q => nI (z q)))), (m3, .inl (.long, 24, .inr (.inl V))), (xl, .inr (1, [.ref l1, .int (nI u), .int (nI la), .int (nI le), .long lk, .int (nI ls), .long lw])), (l1, .inl (.byte, 1024, .inl (fun q => sb_b (L q)))), (xb, .inr (0, [.ref y, .ref s, .ref t, .int w])), (y, .inl (.byte, M * 32, .inl (fun q => sb_b (D q)))), (s, .inl (.int, M, .inl S)), (t, .inl (.int, M, .inl T)), (xr, .inr (4, [.ref xb, rt, .int (nI (b2n rb)), .int (nI ra), .int rft, .long rk, .int (nI rs), .long rv])), (xt, .inl (.object "RunStore$Table", 16, .inr (.inr (.inr (.inr rf))))), (xg, .inr (2, [.ref g1, .ref g2, .ref g3, .int (nI Gn)])), (g1, .inl (.long, NG, .inr (.inl GK))), (g2, .inl (.int, NG, .inl (fun q => nI (Gz q)))), (g3, .inl (.long, NG, .inr (.inl GV))), (h, .inr (6, [.int (nI 1), .int (nI M), .int (nI n), .ref y1, .ref y2, .ref y3, .int (nI u), .ref y4, .ref y5, .ref y6, .ref y7, .int (nI c), .ref y8, .ref y9, .ref y10, .ref y11, .ref y12, .int bd, .int w, .int ps, .int (nI pa), .int lc, .int (nI (b2n fb)), .long ek, .long ev, .int (nI el), .int (nI fn), .ref y13, .ref y14, .ref y15, .ref y16, .int (nI js), .ref y17, .int (nI (b2n ib))])), (y1, .inl (.long, 25, .inr (.inl K))), (y2, .inl (.long, 25, .inr (.inl V))), (y3, .inl (.int, 25, .inl (fun q => nI (z q)))), (y4, .inl (.int, 1024, .inl (fun q => nI (L q)))), (y5, .inl (.int, 4096, .inl (fun q => nI (D q)))), (y6, .inl (.int, 128, .inl S)), (y7, .inl (.boolean, 128, .inl Xt)), (y8, .inl (.int, 17, .inl (fun q => nI (lv q)))), (y9, .inl (.int, 17, .inl (fun q => nI (en q)))), (y10, .inl (.int, 17, .inl (fun q => nI (mn q)))), (y11, .inl (.int, 2176, .inl (fun q => nI (bk q)))), (y12, .inl (.long, 17, .inr (.inl fl))), (y13, .inl (.long, 500, .inr (.inl FK))), (y14, .inl (.long, 500, .inr (.inl FV))), (y15, .inl (.int, 500, .inl (fun q => nI (Fz q)))), (y16, .inl (.int, 4200, .inl (fun q => nI (J q)))), (y17, .inl (.int, 128, .inl (fun q => nI (pk q)))), (o, .inl (.long, 1, .inr (.inl O)))] rfl rfl hn ?_
      refine g_istore [(6, .int (nI 0)), (5, .int (nI 1)), (4, .int (nI ix)), (3, .ref o), (2, .ref h), (1, .ref x), (0, .ref b0)] X d_LW_law_1016 (by decide) rfl ?_
      refine g_aload_n X d_LW_law_1018 4 rfl ?_
      refine g_callVf (As := []) (st := []) X d_LW_law_1019 (c_MD_thrown hst hnh) (hl_ov 17 rfl hn) rfl rfl k_ml_LW_85 k_cd_MD_thrown k_in_MD k_im_MD_thrown k_se_MD_thrown ⟨by decide +kernel, by decide +kernel, (by decide +kernel : (parseMethodDescriptor "()I").map (fun d => d.parameters.length) = some 0)⟩ ⟨by omega, by omega⟩ ⟨by omega, by omega⟩ (Nat.le_of_ble_eq_true rfl) (hg_ov hn [17] rfl) hrx_0 (fun E g9 h => by obtain ⟨hv9, hg9⟩ := h; cases hv9) (fun v9 g9 hq hfr => ?_)
      obtain ⟨hv9, hg9⟩ := hq
      cases hv9
      subst hg9
      refine g_ovP [17] [(x, .inr (5, [.ref xm, .ref xl, .ref xb, .ref xr, .ref xt, .int (nI c), .ref xg, .long sv, .int ps, .int bd])), (xm, .inr (2, [.ref m1, .ref m2, .ref m3, .int (nI n)])), (m1, .inl (.long, 24, .inr (.inl K))), (m2, .inl (.int, 24, .inl (fun q => nI (z q)))), (m3, .inl (.long, 24, .inr (.inl V))), (xl, .inr (1, [.ref l1, .int (nI u), .int (nI la), .int (nI le), .long lk, .int (nI ls), .long lw])), (l1, .inl (.byte, 1024, .inl (fun q => sb_b (L q)))), (xb, .inr (0, [.ref y, .ref s, .ref t, .int w])), (y, .inl (.byte, M * 32, .inl (fun q => sb_b (D q)))), (s, .inl (.int, M, .inl S)), (t, .inl (.int, M, .inl T)), (xr, .inr (4, [.ref xb, rt, .int (nI (b2n rb)), .int (nI ra), .int rft, .long rk, .int (nI rs), .long rv])), (xt, .inl (.object "RunStore$Table", 16, .inr (.inr (.inr (.inr rf))))), (xg, .inr (2, [.ref g1, .ref g2, .ref g3, .int (nI Gn)])), (g1, .inl (.long, NG, .inr (.inl GK))), (g2, .inl (.int, NG, .inl (fun q => nI (Gz q)))), (g3, .inl (.long, NG, .inr (.inl GV))), (h, .inr (6, [.int (nI 1), .int (nI M), .int (nI n), .ref y1, .ref y2, .ref y3, .int (nI u), .ref y4, .ref y5, .ref y6, .ref y7, .int (nI c), .ref y8, .ref y9, .ref y10, .ref y11, .ref y12, .int bd, .int w, .int ps, .int (nI pa), .int lc, .int (nI (b2n fb)), .long ek, .long ev, .int (nI el), .int (nI fn), .ref y13, .ref y14, .ref y15, .ref y16, .int (nI js), .ref y17, .int (nI (b2n ib))])), (y1, .inl (.long, 25, .inr (.inl K))), (y2, .inl (.long, 25, .inr (.inl V))), (y3, .inl (.int, 25, .inl (fun q => nI (z q)))), (y4, .inl (.int, 1024, .inl (fun q => nI (L q)))), (y5, .inl (.int, 4096, .inl (fun q => nI (D q)))), (y6, .inl (.int, 128, .inl S)), (y7, .inl (.boolean, 128, .inl Xt)), (y8, .inl (.int, 17, .inl (fun q => nI (lv q)))), (y9, .inl (.int, 17, .inl (fun q => nI (en q)))), (y10, .inl (.int, 17, .inl (fun q => nI (mn q)))), (y11, .inl (.int, 2176, .inl (fun q => nI (bk q)))), (y12, .inl (.long, 17, .inr (.inl fl))), (y13, .inl (.long, 500, .inr (.inl FK))), (y14, .inl (.long, 500, .inr (.inl FV))), (y15, .inl (.int, 500, .inl (fun q => nI (Fz q)))), (y16, .inl (.int, 4200, .inl (fun q => nI (J q)))), (y17, .inl (.int, 128, .inl (fun q => nI (pk q)))), (o, .inl (.long, 1, .inr (.inl O)))] rfl rfl hn ?_
      refine g_iload X d_LW_law_1022 1 rfl ?_
      refine g_icmp_eq 1029 X d_LW_law_1024 (by decide) (fun h1024 => ?_) (fun h1024 => ?_)
      · have h1024 := cv_eq (by omega) (by omega) h1024
        refine g_iload X d_LW_law_1029 1 rfl ?_
        refine g_if_ne 1046 X d_LW_law_1031 (by decide) (fun h1031 => ?_) (fun h1031 => ?_)
        · have h1031 := cv_n0 (by omega) h1031
          refine g_goto 1292 X d_LW_law_1046 (by decide) ?_
          refine g_lv [2, 3, 4, 5, 6] [(4, .int (nI ix)), (3, .ref o), (2, .ref h), (1, .ref x), (0, .ref b0)] rfl ?_
          refine g_widen (ce' := ce + 5) (sl' := sl + 150) (by omega) (by omega) ?_
          exact kk _ ⟨_, _, _, _, _, _, _, _, _, _, _, _, _, _, _, _, _, _, _, _, _, _, _, _, _, _, _, _, _, _, _, _, _, _, _, _, _, _, _, _, _, _, _, _, _, _, _, _, _, _, _, _, _, _, _, _, _, rfl, hn24, hs, hz, hu, hL, hD, hc16, hP, hI, hB, hX, hPd⟩
        · have h1031 := cv_e0 (by omega) h1031
          omega
      · have h1024 := cv_ne (by omega) (by omega) h1024
        omega
  · have hn9 : [x, xb, y, s, t, o].Nodup := nd_pick [x, xm, m1, m2, m3, xl, l1, xb, y, s, t, xr, xt, xg, g1, g2, g3, h, y1, y2, y3, y4, y5, y6, y7, y8, y9, y10, y11, y12, y13, y14, y15, y16, y17, o] [0, 7, 8, 9, 10, 35] 36 hn (by decide) rfl (by decide)
    refine g_aload_n X d_LW_law_969 3 rfl ?_
    refine g_aload_n X d_LW_law_970 4 rfl ?_
    refine g_iload X d_LW_law_971 0 rfl ?_
    refine g_iconst (nI 1) X d_LW_law_973 (by decide) ?_
    refine g_iadd X d_LW_law_974 ?_
    refine g_vi (nI (ix + 1)) (nI_add _ _) ?_
    refine s_iald X hScr d_LW_law_975 (by omega) (by omega) ?_
    refine g_aload_n X d_LW_law_976 4 rfl ?_
    refine g_iload X d_LW_law_977 0 rfl ?_
    refine g_iconst (nI 2) X d_LW_law_979 (by decide) ?_
    refine g_iadd X d_LW_law_980 ?_
    refine g_vi (nI (ix + 2)) (nI_add _ _) ?_
    refine s_iald X hScr d_LW_law_981 (by omega) (by omega) ?_
    refine g_aload_n X d_LW_law_982 4 rfl ?_
    refine g_iload X d_LW_law_983 0 rfl ?_
    refine g_iconst (nI 3) X d_LW_law_985 (by decide) ?_
    refine g_iadd X d_LW_law_986 ?_
    refine g_vi (nI (ix + 3)) (nI_add _ _) ?_
    refine s_iald X hScr d_LW_law_987 (by omega) (by omega) ?_
    refine g_vi wm h_wm ?_
    refine g_aload_n X d_LW_law_988 1 rfl ?_
    refine g_callSW (As := [.ref x, .int (xs (ix + 1)), .int (xs (ix + 2)), .int wm, .ref o]) (st := []) X d_LW_law_989 (c_LW_poke_no hst hD hM hn9 (fun j7 h7 e7 h8 h9 => by rw [e7] at hv; exact hv.elim (fun z8 => cv_l0 (by omega) z8) (fun z8 => absurd (cv_le (by omega) (by omega) z8) (by omega)))) lwN_s hNw rfl k_ml_LW_120 k_cd_LW_poke k_in_LW k_st_LW_poke ⟨by decide +kernel, by decide +kernel, (by decide +kernel : (parseMethodDescriptor "(LRunStore;III[J)I").map (fun d => d.parameters.length) = some 5)⟩ ⟨by omega, by omega⟩ ⟨by omega, by omega⟩ (Nat.le_of_ble_eq_true rfl) (hg_ov hn [0, 7, 8, 9, 10, 35] rfl) hrx_0 (fun E g9 h => by obtain ⟨hv9, hg9⟩ := h; cases hv9) (fun v9 g9 hq hfr => ?_)
    obtain ⟨hv9, hg9⟩ := hq
    cases hv9
    subst hg9
    refine g_ovP [0, 7, 8, 9, 10, 35] [(x, .inr (5, [.ref xm, .ref xl, .ref xb, .ref xr, .ref xt, .int (nI c), .ref xg, .long sv, .int ps, .int bd])), (xm, .inr (2, [.ref m1, .ref m2, .ref m3, .int (nI n)])), (m1, .inl (.long, 24, .inr (.inl K))), (m2, .inl (.int, 24, .inl (fun q => nI (z q)))), (m3, .inl (.long, 24, .inr (.inl V))), (xl, .inr (1, [.ref l1, .int (nI u), .int (nI la), .int (nI le), .long lk, .int (nI ls), .long lw])), (l1, .inl (.byte, 1024, .inl (fun q => sb_b (L q)))), (xb, .inr (0, [.ref y, .ref s, .ref t, .int w])), (y, .inl (.byte, M * 32, .inl (fun q => sb_b (D q)))), (s, .inl (.int, M, .inl S)), (t, .inl (.int, M, .inl T)), (xr, .inr (4, [.ref xb, rt, .int (nI (b2n rb)), .int (nI ra), .int rft, .long rk, .int (nI rs), .long rv])), (xt, .inl (.object "RunStore$Table", 16, .inr (.inr (.inr (.inr rf))))), (xg, .inr (2, [.ref g1, .ref g2, .ref g3, .int (nI Gn)])), (g1, .inl (.long, NG, .inr (.inl GK))), (g2, .inl (.int, NG, .inl (fun q => nI (Gz q)))), (g3, .inl (.long, NG, .inr (.inl GV))), (h, .inr (6, [.int th, .int (nI M), .int (nI n), .ref y1, .ref y2, .ref y3, .int (nI u), .ref y4, .ref y5, .ref y6, .ref y7, .int (nI c), .ref y8, .ref y9, .ref y10, .ref y11, .ref y12, .int bd, .int w, .int ps, .int (nI pa), .int lc, .int (nI (b2n fb)), .long ek, .long ev, .int (nI el), .int (nI fn), .ref y13, .ref y14, .ref y15, .ref y16, .int (nI js), .ref y17, .int (nI (b2n ib))])), (y1, .inl (.long, 25, .inr (.inl K))), (y2, .inl (.long, 25, .inr (.inl V))), (y3, .inl (.int, 25, .inl (fun q => nI (z q)))), (y4, .inl (.int, 1024, .inl (fun q => nI (L q)))), (y5, .inl (.int, 4096, .inl (fun q => nI (D q)))), (y6, .inl (.int, 128, .inl S)), (y7, .inl (.boolean, 128, .inl Xt)), (y8, .inl (.int, 17, .inl (fun q => nI (lv q)))), (y9, .inl (.int, 17, .inl (fun q => nI (en q)))), (y10, .inl (.int, 17, .inl (fun q => nI (mn q)))), (y11, .inl (.int, 2176, .inl (fun q => nI (bk q)))), (y12, .inl (.long, 17, .inr (.inl fl))), (y13, .inl (.long, 500, .inr (.inl FK))), (y14, .inl (.long, 500, .inr (.inl FV))), (y15, .inl (.int, 500, .inl (fun q => nI (Fz q)))), (y16, .inl (.int, 4200, .inl (fun q => nI (J q)))), (y17, .inl (.int, 128, .inl (fun q => nI (pk q)))), (o, .inl (.long, 1, .inr (.inl O)))] rfl rfl hn ?_
    refine g_istore [(5, .int (nI 1)), (4, .int (nI ix)), (3, .ref o), (2, .ref h), (1, .ref x), (0, .ref b0)] X d_LW_law_992 (by decide) rfl ?_
    refine g_aload_n X d_LW_law_994 3 rfl ?_
    refine g_aload_n X d_LW_law_995 5 rfl ?_
    refine g_iload X d_LW_law_996 1 rfl ?_
    refine g_iconst (nI 1) X d_LW_law_998 (by decide) ?_
    refine g_iadd X d_LW_law_999 ?_
    refine g_vi (nI (ix + 1)) (nI_add _ _) ?_
    refine s_iald X hScr d_LW_law_1000 (by omega) (by omega) ?_
    refine g_aload_n X d_LW_law_1001 5 rfl ?_
    refine g_iload X d_LW_law_1002 1 rfl ?_
    refine g_iconst (nI 2) X d_LW_law_1004 (by decide) ?_
    refine g_iadd X d_LW_law_1005 ?_
    refine g_vi (nI (ix + 2)) (nI_add _ _) ?_
    refine s_iald X hScr d_LW_law_1006 (by omega) (by omega) ?_
    refine g_aload_n X d_LW_law_1007 5 rfl ?_
    refine g_iload X d_LW_law_1008 1 rfl ?_
    refine g_iconst (nI 3) X d_LW_law_1010 (by decide) ?_
    refine g_iadd X d_LW_law_1011 ?_
    refine g_vi (nI (ix + 3)) (nI_add _ _) ?_
    refine s_iald X hScr d_LW_law_1012 (by omega) (by omega) ?_
    refine g_vi wm h_wm ?_
    refine g_callVf (As := [.int (xs (ix + 1)), .int (xs (ix + 2)), .int wm]) (st := []) X d_LW_law_1013 (c_MD_poke_no hst hnm (fun h8 h9 => by rw [win_no (by omega) hv] at h8; cases h8) hM) (hl_ov 17 rfl hn) rfl rfl k_ml_LW_123 k_cd_MD_poke k_in_MD k_im_MD_poke k_se_MD_poke ⟨by decide +kernel, by decide +kernel, (by decide +kernel : (parseMethodDescriptor "(III)I").map (fun d => d.parameters.length) = some 3)⟩ ⟨by omega, by omega⟩ ⟨by omega, by omega⟩ (Nat.le_of_ble_eq_true rfl) (hg_ov hn [17, 22] rfl) hrx_0 (fun E g9 h => by obtain ⟨hv9, hg9⟩ := h; cases hv9) (fun v9 g9 hq hfr => ?_)
    obtain ⟨hv9, hg9⟩ := hq
    cases hv9
    subst hg9
    refine g_ovP [17, 22] [(x, .inr (5, [.ref xm, .ref xl, .ref xb, .ref xr, .ref xt, .int (nI c), .ref xg, .long sv, .int ps, .int bd])), (xm, .inr (2, [.ref m1, .ref m2, .ref m3, .int (nI n)])), (m1, .inl (.long, 24, .inr (.inl K))), (m2, .inl (.int, 24, .inl (fun q => nI (z q)))), (m3, .inl (.long, 24, .inr (.inl V))), (xl, .inr (1, [.ref l1, .int (nI u), .int (nI la), .int (nI le), .long lk, .int (nI ls), .long lw])), (l1, .inl (.byte, 1024, .inl (fun q => sb_b (L q)))), (xb, .inr (0, [.ref y, .ref s, .ref t, .int w])), (y, .inl (.byte, M * 32, .inl (fun q => sb_b (D q)))), (s, .inl (.int, M, .inl S)), (t, .inl (.int, M, .inl T)), (xr, .inr (4, [.ref xb, rt, .int (nI (b2n rb)), .int (nI ra), .int rft, .long rk, .int (nI rs), .long rv])), (xt, .inl (.object "RunStore$Table", 16, .inr (.inr (.inr (.inr rf))))), (xg, .inr (2, [.ref g1, .ref g2, .ref g3, .int (nI Gn)])), (g1, .inl (.long, NG, .inr (.inl GK))), (g2, .inl (.int, NG, .inl (fun q => nI (Gz q)))), (g3, .inl (.long, NG, .inr (.inl GV))), (h, .inr (6, [.int (nI 1), .int (nI M), .int (nI n), .ref y1, .ref y2, .ref y3, .int (nI u), .ref y4, .ref y5, .ref y6, .ref y7, .int (nI c), .ref y8, .ref y9, .ref y10, .ref y11, .ref y12, .int bd, .int w, .int ps, .int (nI pa), .int lc, .int (nI (b2n fb)), .long ek, .long ev, .int (nI el), .int (nI fn), .ref y13, .ref y14, .ref y15, .ref y16, .int (nI js), .ref y17, .int (nI (b2n ib))])), (y1, .inl (.long, 25, .inr (.inl K))), (y2, .inl (.long, 25, .inr (.inl V))), (y3, .inl (.int, 25, .inl (fun q => nI (z q)))), (y4, .inl (.int, 1024, .inl (fun q => nI (L q)))), (y5, .inl (.int, 4096, .inl (fun q => nI (D q)))), (y6, .inl (.int, 128, .inl S)), (y7, .inl (.boolean, 128, .inl Xt)), (y8, .inl (.int, 17, .inl (fun q => nI (lv q)))), (y9, .inl (.int, 17, .inl (fun q => nI (en q)))), (y10, .inl (.int, 17, .inl (fun q => nI (mn q)))), (y11, .inl (.int, 2176, .inl (fun q => nI (bk q)))), (y12, .inl (.long, 17, .inr (.inl fl))), (y13, .inl (.long, 500, .inr (.inl FK))), (y14, .inl (.long, 500, .inr (.inl FV))), (y15, .inl (.int, 500, .inl (fun q => nI (Fz q)))), (y16, .inl (.int, 4200, .inl (fun q => nI (J q)))), (y17, .inl (.int, 128, .inl (fun q => nI (pk q)))), (o, .inl (.long, 1, .inr (.inl O)))] rfl rfl hn ?_
    refine g_istore [(6, .int (nI 0)), (5, .int (nI 1)), (4, .int (nI ix)), (3, .ref o), (2, .ref h), (1, .ref x), (0, .ref b0)] X d_LW_law_1016 (by decide) rfl ?_
    refine g_aload_n X d_LW_law_1018 4 rfl ?_
    refine g_callVf (As := []) (st := []) X d_LW_law_1019 (c_MD_thrown hst hnh) (hl_ov 17 rfl hn) rfl rfl k_ml_LW_85 k_cd_MD_thrown k_in_MD k_im_MD_thrown k_se_MD_thrown ⟨by decide +kernel, by decide +kernel, (by decide +kernel : (parseMethodDescriptor "()I").map (fun d => d.parameters.length) = some 0)⟩ ⟨by omega, by omega⟩ ⟨by omega, by omega⟩ (Nat.le_of_ble_eq_true rfl) (hg_ov hn [17] rfl) hrx_0 (fun E g9 h => by obtain ⟨hv9, hg9⟩ := h; cases hv9) (fun v9 g9 hq hfr => ?_)
    obtain ⟨hv9, hg9⟩ := hq
    cases hv9
    subst hg9
    refine g_ovP [17] [(x, .inr (5, [.ref xm, .ref xl, .ref xb, .ref xr, .ref xt, .int (nI c), .ref xg, .long sv, .int ps, .int bd])), (xm, .inr (2, [.ref m1, .ref m2, .ref m3, .int (nI n)])), (m1, .inl (.long, 24, .inr (.inl K))), (m2, .inl (.int, 24, .inl (fun q => nI (z q)))), (m3, .inl (.long, 24, .inr (.inl V))), (xl, .inr (1, [.ref l1, .int (nI u), .int (nI la), .int (nI le), .long lk, .int (nI ls), .long lw])), (l1, .inl (.byte, 1024, .inl (fun q => sb_b (L q)))), (xb, .inr (0, [.ref y, .ref s, .ref t, .int w])), (y, .inl (.byte, M * 32, .inl (fun q => sb_b (D q)))), (s, .inl (.int, M, .inl S)), (t, .inl (.int, M, .inl T)), (xr, .inr (4, [.ref xb, rt, .int (nI (b2n rb)), .int (nI ra), .int rft, .long rk, .int (nI rs), .long rv])), (xt, .inl (.object "RunStore$Table", 16, .inr (.inr (.inr (.inr rf))))), (xg, .inr (2, [.ref g1, .ref g2, .ref g3, .int (nI Gn)])), (g1, .inl (.long, NG, .inr (.inl GK))), (g2, .inl (.int, NG, .inl (fun q => nI (Gz q)))), (g3, .inl (.long, NG, .inr (.inl GV))), (h, .inr (6, [.int (nI 1), .int (nI M), .int (nI n), .ref y1, .ref y2, .ref y3, .int (nI u), .ref y4, .ref y5, .ref y6, .ref y7, .int (nI c), .ref y8, .ref y9, .ref y10, .ref y11, .ref y12, .int bd, .int w, .int ps, .int (nI pa), .int lc, .int (nI (b2n fb)), .long ek, .long ev, .int (nI el), .int (nI fn), .ref y13, .ref y14, .ref y15, .ref y16, .int (nI js), .ref y17, .int (nI (b2n ib))])), (y1, .inl (.long, 25, .inr (.inl K))), (y2, .inl (.long, 25, .inr (.inl V))), (y3, .inl (.int, 25, .inl (fun q => nI (z q)))), (y4, .inl (.int, 1024, .inl (fun q => nI (L q)))), (y5, .inl (.int, 4096, .inl (fun q => nI (D q)))), (y6, .inl (.int, 128, .inl S)), (y7, .inl (.boolean, 128, .inl Xt)), (y8, .inl (.int, 17, .inl (fun q => nI (lv q)))), (y9, .inl (.int, 17, .inl (fun q => nI (en q)))), (y10, .inl (.int, 17, .inl (fun q => nI (mn q)))), (y11, .inl (.int, 2176, .inl (fun q => nI (bk q)))), (y12, .inl (.long, 17, .inr (.inl fl))), (y13, .inl (.long, 500, .inr (.inl FK))), (y14, .inl (.long, 500, .inr (.inl FV))), (y15, .inl (.int, 500, .inl (fun q => nI (Fz q)))), (y16, .inl (.int, 4200, .inl (fun q => nI (J q)))), (y17, .inl (.int, 128, .inl (fun q => nI (pk q)))), (o, .inl (.long, 1, .inr (.inl O)))] rfl rfl hn ?_
    refine g_iload X d_LW_law_1022 1 rfl ?_
    refine g_icmp_eq 1029 X d_LW_law_1024 (by decide) (fun h1024 => ?_) (fun h1024 => ?_)
    · have h1024 := cv_eq (by omega) (by omega) h1024
      refine g_iload X d_LW_law_1029 1 rfl ?_
      refine g_if_ne 1046 X d_LW_law_1031 (by decide) (fun h1031 => ?_) (fun h1031 => ?_)
      · have h1031 := cv_n0 (by omega) h1031
        refine g_goto 1292 X d_LW_law_1046 (by decide) ?_
        refine g_lv [2, 3, 4, 5, 6] [(4, .int (nI ix)), (3, .ref o), (2, .ref h), (1, .ref x), (0, .ref b0)] rfl ?_
        refine g_widen (ce' := ce + 5) (sl' := sl + 150) (by omega) (by omega) ?_
        exact kk _ ⟨_, _, _, _, _, _, _, _, _, _, _, _, _, _, _, _, _, _, _, _, _, _, _, _, _, _, _, _, _, _, _, _, _, _, _, _, _, _, _, _, _, _, _, _, _, _, _, _, _, _, _, _, _, _, _, _, _, rfl, hn24, hs, hz, hu, hL, hD, hc16, hP, hI, hB, hX, hPd⟩
      · have h1031 := cv_e0 (by omega) h1031
        omega
    · have h1024 := cv_ne (by omega) (by omega) h1024
      omega
