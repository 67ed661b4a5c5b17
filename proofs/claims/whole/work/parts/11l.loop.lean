theorem ixle {ix Ls : Nat} (h1 : ix < 2 ^ 20) (h2 : Ls < 2 ^ 20) (h : ¬ nI Ls - nI 6 < nI ix) : ix + 6 ≤ Ls := by
  have e1 : (nI Ls - nI 6).toInt = (Ls : Int) - 6 := by
    rw [Int32.toInt_sub, nI_toInt (by omega), show (nI 6).toInt = 6 by decide]
    exact bm32 (by omega) (by omega)
  rw [Int32.lt_iff_toInt_lt, e1, nI_toInt (by omega)] at h
  omega
set_option maxRecDepth 100000 in
set_option maxHeartbeats 4000000 in
theorem law_loop {mp : Program} {l : Launch} {me : Env} {mR : Room} {sm : State} {mm : MethodId} {margs : Array Value} {mbel : List Frame} {mmet : Method} {mcod : Code} {mD : va_G} {f9 : fh_M} {Q9 : State → Prop} {b0 Ls : Nat} {xs : Nat → Int32} (X : fh_X mp l sm mm margs mmet mcod mD fhCl fhT f9 (hp []) y_LW_law.cls b_LW_law 8) (hScr : lwX sm f9 b0 Ls xs) (hst : l.stackTraces = false) (hNw : lwN sm) (hRf : 12 ≤ mR.frames) (hRl : 438 ≤ mR.locals) {M NG x xm m1 m2 m3 xl l1 xb y s t xr xt xg g1 g2 g3 h y1 y2 y3 y4 y5 y6 y7 y8 y9 y10 y11 y12 y13 y14 y15 y16 y17 o : Nat} (hM4 : 4 ≤ M) (hM : M ≤ 128) (hNGe : NG = 24 + M * 32 / 9) (hn : [x, xm, m1, m2, m3, xl, l1, xb, y, s, t, xr, xt, xg, g1, g2, g3, h, y1, y2, y3, y4, y5, y6, y7, y8, y9, y10, y11, y12, y13, y14, y15, y16, y17, o].Nodup) (hLs : Ls ≤ 3073) (kend : ∀ (ce sl ix : Nat) (f : fh_M), ce ≤ mR.cells → sl ≤ mR.slots → lwS M NG x xm m1 m2 m3 xl l1 xb y s t xr xt xg g1 g2 g3 h y1 y2 y3 y4 y5 y6 y7 y8 y9 y10 y11 y12 y13 y14 y15 y16 y17 o f → fh_G mp l me mR sm mm margs mbel mmet mcod mD fhCl f9 8 Q9 (ce) (sl) f 1298 [(4, .int (nI ix)), (3, .ref o), (2, .ref h), (1, .ref x), (0, .ref b0)] []) : ∀ (fu ce sl ix : Nat) (f : fh_M), Ls - ix < fu → ix < 2 ^ 20 → ce + 5 * (Ls - ix) ≤ mR.cells → sl + 150 * (Ls - ix) ≤ mR.slots → lwS M NG x xm m1 m2 m3 xl l1 xb y s t xr xt xg g1 g2 g3 h y1 y2 y3 y4 y5 y6 y7 y8 y9 y10 y11 y12 y13 y14 y15 y16 y17 o f → fh_G mp l me mR sm mm margs mbel mmet mcod mD fhCl f9 8 Q9 (ce) (sl) f 33 [(4, .int (nI ix)), (3, .ref o), (2, .ref h), (1, .ref x), (0, .ref b0)] [] := by
  intro fu
  induction fu with
  | zero => intro ce sl ix f h; exact absurd h (Nat.not_lt_zero _)
  | succ fu ih =>
    intro ce sl ix f hfu hix hc9 hs9 hS
    refine g_iload X d_LW_law_33 0 rfl ?_
    refine g_aload_n X d_LW_law_35 4 rfl ?_
    refine s_alen X hScr d_LW_law_36 ?_
    refine g_bipush (nI 6) X d_LW_law_37 (by decide) ?_
    refine g_isub X d_LW_law_39 ?_
    refine g_icmp_gt 1298 X d_LW_law_40 (by decide) (fun h40 => ?_) (fun h40 => ?_)
    · exact kend ce sl ix f (by omega) (by omega) hS
    · have h6 := ixle hix (by omega) h40
      refine law_step X hScr hst hNw hRf hRl (by omega) (by omega) hM4 hM hNGe hn hLs (by omega) hS (fun f hS => ?_)
      refine g_iinc (nI (ix + 6)) 0 [(4, .int (nI (ix + 6))), (3, .ref o), (2, .ref h), (1, .ref x), (0, .ref b0)] X d_LW_law_1292 rfl (nI_add _ 6) (by decide) rfl ?_
      refine g_goto 33 X d_LW_law_1295 (by decide) ?_
      exact ih (ce + 5) (sl + 150) (ix + 6) f (by omega) (by omega) (by omega) (by omega) hS
