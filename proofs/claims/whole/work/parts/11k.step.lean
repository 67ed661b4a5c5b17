set_option maxRecDepth 100000 in
set_option maxHeartbeats 4000000 in
theorem law_step {mp : Program} {l : Launch} {me : Env} {mR : Room} {sm : State} {mm : MethodId} {margs : Array Value} {mbel : List Frame} {mmet : Method} {mcod : Code} {mD : va_G} {f9 : fh_M} {Q9 : State → Prop} {ce sl b0 Ls ix : Nat} {xs : Nat → Int32} (X : fh_X mp l sm mm margs mmet mcod mD fhCl fhT f9 (hp []) y_LW_law.cls b_LW_law 8) (hScr : lwX sm f9 b0 Ls xs) (hst : l.stackTraces = false) (hNw : lwN sm) (hRf : 12 ≤ mR.frames) (hRl : 438 ≤ mR.locals) (hRc : ce + 5 ≤ mR.cells) (hRs : sl + 150 ≤ mR.slots) {M NG x xm m1 m2 m3 xl l1 xb y s t xr xt xg g1 g2 g3 h y1 y2 y3 y4 y5 y6 y7 y8 y9 y10 y11 y12 y13 y14 y15 y16 y17 o : Nat} (hM4 : 4 ≤ M) (hM : M ≤ 128) (hNGe : NG = 24 + M * 32 / 9) (hn : [x, xm, m1, m2, m3, xl, l1, xb, y, s, t, xr, xt, xg, g1, g2, g3, h, y1, y2, y3, y4, y5, y6, y7, y8, y9, y10, y11, y12, y13, y14, y15, y16, y17, o].Nodup) (hLs : Ls ≤ 3073) (hix : ix + 5 < Ls) {f : fh_M} (hS : lwS M NG x xm m1 m2 m3 xl l1 xb y s t xr xt xg g1 g2 g3 h y1 y2 y3 y4 y5 y6 y7 y8 y9 y10 y11 y12 y13 y14 y15 y16 y17 o f) (kk : ∀ f, lwS M NG x xm m1 m2 m3 xl l1 xb y s t xr xt xg g1 g2 g3 h y1 y2 y3 y4 y5 y6 y7 y8 y9 y10 y11 y12 y13 y14 y15 y16 y17 o f → fh_G mp l me mR sm mm margs mbel mmet mcod mD fhCl f9 8 Q9 (ce + 5) (sl + 150) f 1292 [(4, .int (nI ix)), (3, .ref o), (2, .ref h), (1, .ref x), (0, .ref b0)] []) : fh_G mp l me mR sm mm margs mbel mmet mcod mD fhCl f9 8 Q9 (ce) (sl) f 43 [(4, .int (nI ix)), (3, .ref o), (2, .ref h), (1, .ref x), (0, .ref b0)] [] := by
  refine g_aload_n X d_LW_law_43 4 rfl ?_
  refine g_iload X d_LW_law_44 0 rfl ?_
  refine s_iald X hScr d_LW_law_46 (by omega) (by omega) ?_
  refine g_bipush (nI 31) X d_LW_law_47 (by decide) ?_
  refine g_iand X d_LW_law_49 ?_
  obtain ⟨m, hm, hv⟩ : ∃ m, m < 32 ∧ (xs ix &&& nI 31) = nI m := ⟨_, Nat.mod_lt _ (by decide), pk_and _ 5 (by decide)⟩
  refine g_vi (nI m) hv ?_
  have h8 : m = 0 ∨ m = 1 ∨ m = 2 ∨ m = 3 ∨ m = 4 ∨ m = 5 ∨ m = 6 ∨ m = 7 ∨ m = 8 ∨ m = 9 ∨ m = 10 ∨ m = 11 ∨ m = 12 ∨ m = 13 ∨ m = 14 ∨ m = 15 ∨ m = 16 ∨ 17 ≤ m := by omega
  rcases h8 with rfl | rfl | rfl | rfl | rfl | rfl | rfl | rfl | rfl | rfl | rfl | rfl | rfl | rfl | rfl | rfl | rfl | h8
  · refine g_tableIn (off := 82) 132 X d_LW_law_50 (by decide) (by decide) (by decide) (by decide) ?_
    exact law_put X hScr hst hNw hRf hRl hRc hRs hM4 hM hNGe hn hLs hix hS kk
  · refine g_tableIn (off := 226) 276 X d_LW_law_50 (by decide) (by decide) (by decide) (by decide) ?_
    exact law_drop X hScr hst hNw hRf hRl hRc hRs hM4 hM hNGe hn hLs hix hS kk
  · refine g_tableIn (off := 314) 364 X d_LW_law_50 (by decide) (by decide) (by decide) (by decide) ?_
    exact law_flush X hScr hst hNw hRf hRl hRc hRs hM4 hM hNGe hn hLs hix hS kk
  · refine g_tableIn (off := 358) 408 X d_LW_law_50 (by decide) (by decide) (by decide) (by decide) ?_
    exact law_join X hScr hst hNw hRf hRl hRc hRs hM4 hM hNGe hn hLs hix hS kk
  · refine g_tableIn (off := 414) 464 X d_LW_law_50 (by decide) (by decide) (by decide) (by decide) ?_
    exact law_find X hScr hst hNw hRf hRl hRc hRs hM4 hM hNGe hn hLs hix hS kk
  · refine g_tableIn (off := 501) 551 X d_LW_law_50 (by decide) (by decide) (by decide) (by decide) ?_
    exact law_length X hScr hst hNw hRf hRl hRc hRs hM4 hM hNGe hn hLs hix hS kk
  · refine g_tableIn (off := 589) 639 X d_LW_law_50 (by decide) (by decide) (by decide) (by decide) ?_
    exact law_after X hScr hst hNw hRf hRl hRc hRs hM4 hM hNGe hn hLs hix hS kk
  · refine g_tableIn (off := 676) 726 X d_LW_law_50 (by decide) (by decide) (by decide) (by decide) ?_
    exact law_may X hScr hst hNw hRf hRl hRc hRs hM4 hM hNGe hn hLs hix hS kk
  · refine g_tableIn (off := 783) 833 X d_LW_law_50 (by decide) (by decide) (by decide) (by decide) ?_
    exact law_table X hScr hst hNw hRf hRl hRc hRs hM4 hM hNGe hn hLs hix hS kk
  · refine g_tableIn (off := 851) 901 X d_LW_law_50 (by decide) (by decide) (by decide) (by decide) ?_
    exact law_byteAt X hScr hst hNw hRf hRl hRc hRs hM4 hM hNGe hn hLs hix hS kk
  · refine g_tableIn (off := 919) 969 X d_LW_law_50 (by decide) (by decide) (by decide) (by decide) ?_
    exact law_poke X hScr hst hNw hRf hRl hRc hRs hM4 hM hNGe hn hLs hix hS kk
  · refine g_tableIn (off := 999) 1049 X d_LW_law_50 (by decide) (by decide) (by decide) (by decide) ?_
    exact law_sum X hScr hst hNw hRf hRl hRc hRs hM4 hM hNGe hn hLs hix hS kk
  · refine g_tableIn (off := 1055) 1105 X d_LW_law_50 (by decide) (by decide) (by decide) (by decide) ?_
    exact law_logged X hScr hst hNw hRf hRl hRc hRs hM4 hM hNGe hn hLs hix hS kk
  · refine g_tableIn (off := 1111) 1161 X d_LW_law_50 (by decide) (by decide) (by decide) (by decide) ?_
    exact law_crash X hScr hst hNw hRf hRl hRc hRs hM4 hM hNGe hn hLs hix hS kk
  · refine g_tableIn (off := 1191) 1241 X d_LW_law_50 (by decide) (by decide) (by decide) (by decide) ?_
    exact law_badAt X hScr hst hNw hRf hRl hRc hRs hM4 hM hNGe hn hLs hix hS kk
  · refine g_tableIn (off := 1204) 1254 X d_LW_law_50 (by decide) (by decide) (by decide) (by decide) ?_
    exact law_check X hScr hst hNw hRf hRl hRc hRs hM4 hM hNGe hn hLs hix hS kk
  · refine g_tableIn (off := 1217) 1267 X d_LW_law_50 (by decide) (by decide) (by decide) (by decide) ?_
    exact law_count X hScr hst hNw hRf hRl hRc hRs hM4 hM hNGe hn hLs hix hS kk
  · refine g_tableOut 1292 X d_LW_law_50 (i32_out (Or.inr ((nI_leI (by decide) (by omega)).mpr h8))) (by decide) ?_
    refine g_widen (ce' := ce + 5) (sl' := sl + 150) (by omega) (by omega) ?_
    exact kk f hS
