/-! values of the script -/
def lg2 (a b : Int32) : Int64 := (a.toInt64 <<< ((nI 32).toInt64 &&& 63)) ||| (b.toInt64 &&& 4294967295)
theorem rng (v : Int32) {b : Nat} (hb : b + 1 < 2 ^ 31) : (∃ m, m ≤ b ∧ v = nI m) ∨ (v < 0 ∨ nI (b + 1) ≤ v) := by
  by_cases h0 : v < 0
  · exact Or.inr (Or.inl h0)
  · by_cases h1 : nI (b + 1) ≤ v
    · exact Or.inr (Or.inr h1)
    · left
      rw [Int32.lt_iff_toInt_lt, show (0 : Int32).toInt = 0 by decide] at h0
      rw [Int32.le_iff_toInt_le, nI_toInt (by omega)] at h1
      refine ⟨v.toInt.toNat, by omega, ?_⟩
      apply Int32.toInt_inj.mp
      rw [nI_toInt (by omega)]
      omega
theorem rng0 (v : Int32) {c : Nat} (hc : c < 2 ^ 31) : (∃ j, j < c ∧ v = nI j) ∨ (v < 0 ∨ nI c ≤ v) := by
  cases c with
  | zero =>
    right
    by_cases h0 : v < 0
    · exact Or.inl h0
    · exact Or.inr (by rw [nI_0]; exact Int32.not_lt.mp h0)
  | succ c =>
    rcases rng v hc with ⟨m, h1, h2⟩ | h
    · exact Or.inl ⟨m, by omega, h2⟩
    · exact Or.inr h
theorem hrm_t {K : Nat → Int64} {n u m : Nat} {k : Int64} (h : hrm K n u k m = true) : (decide (n < 24) || isIn K n k) = true ∧ u + ebn m + 1 ≤ 1024 := by
  unfold hrm at h
  rw [Bool.and_eq_true, decide_eq_true_eq] at h
  refine ⟨by rw [Bool.or_comm]; exact h.1, ?_⟩
  rw [ebn_bOf]
  have := h.2
  omega
theorem hrm_f {K : Nat → Int64} {n u m : Nat} {k : Int64} (h : hrm K n u k m = false) : (decide (n < 24) || isIn K n k) = true → ¬ u + ebn m + 1 ≤ 1024 := by
  intro h1 h2
  unfold hrm at h
  rw [Bool.or_comm] at h1
  rw [h1, Bool.true_and] at h
  have := of_decide_eq_false h
  rw [ebn_bOf] at h2
  omega
theorem stm_n {K V : Nat → Int64} {z : Nat → Nat} {n m u : Nat} {k v : Int64} (hn : n ≤ 24) (h : hrm K n u k m = true) : (stm (K, z, V, n) k m v).2.2.2 ≤ 24 := by
  have h1 := (hrm_t h).1
  rw [Bool.or_eq_true, decide_eq_true_eq] at h1
  exact stm_cnt (R := (K, z, V, n)) hn (h1.elim Or.inr Or.inl)
theorem en455 {M c : Nat} {tb : Nat → TBr} (h : ∀ t, t < c → tbOk M (tb t)) : ∀ t, t < c → (tb t).en ≤ 455 := fun t ht => by
  have h1 := (h t ht).2.2.2.1
  have h2 := (h t ht).2.1
  omega
/-- class and model side by side, between two calls -/
def lwS (M NG x xm m1 m2 m3 xl l1 xb y s t xr xt xg g1 g2 g3 h y1 y2 y3 y4 y5 y6 y7 y8 y9 y10 y11 y12 y13 y14 y15 y16 y17 o : Nat) (f : fh_M) : Prop := ∃ (K : Nat → Int64) (z : Nat → Nat) (V : Nat → Int64) (n : Nat) (L : Nat → Nat) (u : Nat) (D : Nat → Nat) (S : Nat → Int32) (T : Nat → Int32) (tb : Nat → TBr) (c : Nat) (ps : Int32) (bd : Int32) (w : Int32) (sv : Int64) (la : Nat) (le : Nat) (lk : Int64) (ls : Nat) (lw : Int64) (rt : Value) (rb : Bool) (ra : Nat) (rft : Int32) (rk : Int64) (rs : Nat) (rv : Int64) (rf : Nat → Option Nat) (tq : Nat → Nat) (ti : Nat → Nat) (P : fh_M) (GK : Nat → Int64) (Gz : Nat → Nat) (GV : Nat → Int64) (Gn : Nat) (th : Int32) (pa : Nat) (lc : Int32) (fb : Bool) (ek : Int64) (ev : Int64) (el : Nat) (fn : Nat) (js : Nat) (ib : Bool) (Xt : Nat → Int32) (lv : Nat → Nat) (en : Nat → Nat) (mn : Nat → Nat) (fl : Nat → Int64) (bk : Nat → Nat) (FK : Nat → Int64) (FV : Nat → Int64) (Fz : Nat → Nat) (J : Nat → Nat) (pk : Nat → Nat) (O : Nat → Int64), f = fh_ov (hp [(x, .inr (5, [.ref xm, .ref xl, .ref xb, .ref xr, .ref xt, .int (nI c), .ref xg, .long sv, .int ps, .int bd])), (xm, .inr (2, [.ref m1, .ref m2, .ref m3, .int (nI n)])), (m1, .inl (.long, 24, .inr (.inl K))), (m2, .inl (.int, 24, .inl (fun q => nI (z q)))), (m3, .inl (.long, 24, .inr (.inl V))), (xl, .inr (1, [.ref l1, .int (nI u), .int (nI la), .int (nI le), .long lk, .int (nI ls), .long lw])), (l1, .inl (.byte, 1024, .inl (fun q => sb_b (L q)))), (xb, .inr (0, [.ref y, .ref s, .ref t, .int w])), (y, .inl (.byte, M * 32, .inl (fun q => sb_b (D q)))), (s, .inl (.int, M, .inl S)), (t, .inl (.int, M, .inl T)), (xr, .inr (4, [.ref xb, rt, .int (nI (b2n rb)), .int (nI ra), .int rft, .long rk, .int (nI rs), .long rv])), (xt, .inl (.object "RunStore$Table", 16, .inr (.inr (.inr (.inr rf))))), (xg, .inr (2, [.ref g1, .ref g2, .ref g3, .int (nI Gn)])), (g1, .inl (.long, NG, .inr (.inl GK))), (g2, .inl (.int, NG, .inl (fun q => nI (Gz q)))), (g3, .inl (.long, NG, .inr (.inl GV))), (h, .inr (6, [.int th, .int (nI M), .int (nI n), .ref y1, .ref y2, .ref y3, .int (nI u), .ref y4, .ref y5, .ref y6, .ref y7, .int (nI c), .ref y8, .ref y9, .ref y10, .ref y11, .ref y12, .int bd, .int w, .int ps, .int (nI pa), .int lc, .int (nI (b2n fb)), .long ek, .long ev, .int (nI el), .int (nI fn), .ref y13, .ref y14, .ref y15, .ref y16, .int (nI js), .ref y17, .int (nI (b2n ib))])), (y1, .inl (.long, 25, .inr (.inl K))), (y2, .inl (.long, 25, .inr (.inl V))), (y3, .inl (.int, 25, .inl (fun q => nI (z q)))), (y4, .inl (.int, 1024, .inl (fun q => nI (L q)))), (y5, .inl (.int, 4096, .inl (fun q => nI (D q)))), (y6, .inl (.int, 128, .inl S)), (y7, .inl (.boolean, 128, .inl Xt)), (y8, .inl (.int, 17, .inl (fun q => nI (lv q)))), (y9, .inl (.int, 17, .inl (fun q => nI (en q)))), (y10, .inl (.int, 17, .inl (fun q => nI (mn q)))), (y11, .inl (.int, 2176, .inl (fun q => nI (bk q)))), (y12, .inl (.long, 17, .inr (.inl fl))), (y13, .inl (.long, 500, .inr (.inl FK))), (y14, .inl (.long, 500, .inr (.inl FV))), (y15, .inl (.int, 500, .inl (fun q => nI (Fz q)))), (y16, .inl (.int, 4200, .inl (fun q => nI (J q)))), (y17, .inl (.int, 128, .inl (fun q => nI (pk q)))), (o, .inl (.long, 1, .inr (.inl O)))]) P ∧ (n ≤ 24) ∧ (srt K n) ∧ (∀ i, i < n → okn (z i)) ∧ (u ≤ 1024) ∧ (∀ q, L q < 256) ∧ (∀ q, D q < 256) ∧ (c ≤ 16) ∧ (pool P rf tq ti tb c) ∧ (tInv M T tb c) ∧ (tbA lv en mn fl bk tb c) ∧ (rX Xt T M) ∧ (dj P [x, xm, m1, m2, m3, xl, l1, xb, y, s, t, xr, xt, xg, g1, g2, g3, h, y1, y2, y3, y4, y5, y6, y7, y8, y9, y10, y11, y12, y13, y14, y15, y16, y17, o])
set_option maxRecDepth 100000 in
set_option maxHeartbeats 4000000 in
theorem lwS_elim {M NG x xm m1 m2 m3 xl l1 xb y s t xr xt xg g1 g2 g3 h y1 y2 y3 y4 y5 y6 y7 y8 y9 y10 y11 y12 y13 y14 y15 y16 y17 o : Nat} {f : fh_M} {C9 : fh_M → Prop} (hS : lwS M NG x xm m1 m2 m3 xl l1 xb y s t xr xt xg g1 g2 g3 h y1 y2 y3 y4 y5 y6 y7 y8 y9 y10 y11 y12 y13 y14 y15 y16 y17 o f) (k : ∀ (K : Nat → Int64) (z : Nat → Nat) (V : Nat → Int64) (n : Nat) (L : Nat → Nat) (u : Nat) (D : Nat → Nat) (S : Nat → Int32) (T : Nat → Int32) (tb : Nat → TBr) (c : Nat) (ps : Int32) (bd : Int32) (w : Int32) (sv : Int64) (la : Nat) (le : Nat) (lk : Int64) (ls : Nat) (lw : Int64) (rt : Value) (rb : Bool) (ra : Nat) (rft : Int32) (rk : Int64) (rs : Nat) (rv : Int64) (rf : Nat → Option Nat) (tq : Nat → Nat) (ti : Nat → Nat) (P : fh_M) (GK : Nat → Int64) (Gz : Nat → Nat) (GV : Nat → Int64) (Gn : Nat) (th : Int32) (pa : Nat) (lc : Int32) (fb : Bool) (ek : Int64) (ev : Int64) (el : Nat) (fn : Nat) (js : Nat) (ib : Bool) (Xt : Nat → Int32) (lv : Nat → Nat) (en : Nat → Nat) (mn : Nat → Nat) (fl : Nat → Int64) (bk : Nat → Nat) (FK : Nat → Int64) (FV : Nat → Int64) (Fz : Nat → Nat) (J : Nat → Nat) (pk : Nat → Nat) (O : Nat → Int64), (n ≤ 24) → (srt K n) → (∀ i, i < n → okn (z i)) → (u ≤ 1024) → (∀ q, L q < 256) → (∀ q, D q < 256) → (c ≤ 16) → (pool P rf tq ti tb c) → (tInv M T tb c) → (tbA lv en mn fl bk tb c) → (rX Xt T M) → (dj P [x, xm, m1, m2, m3, xl, l1, xb, y, s, t, xr, xt, xg, g1, g2, g3, h, y1, y2, y3, y4, y5, y6, y7, y8, y9, y10, y11, y12, y13, y14, y15, y16, y17, o]) → C9 (fh_ov (hp [(x, .inr (5, [.ref xm, .ref xl, .ref xb, .ref xr, .ref xt, .int (nI c), .ref xg, .long sv, .int ps, .int bd])), (xm, .inr (2, [.ref m1, .ref m2, .ref m3, .int (nI n)])), (m1, .inl (.long, 24, .inr (.inl K))), (m2, .inl (.int, 24, .inl (fun q => nI (z q)))), (m3, .inl (.long, 24, .inr (.inl V))), (xl, .inr (1, [.ref l1, .int (nI u), .int (nI la), .int (nI le), .long lk, .int (nI ls), .long lw])), (l1, .inl (.byte, 1024, .inl (fun q => sb_b (L q)))), (xb, .inr (0, [.ref y, .ref s, .ref t, .int w])), (y, .inl (.byte, M * 32, .inl (fun q => sb_b (D q)))), (s, .inl (.int, M, .inl S)), (t, .inl (.int, M, .inl T)), (xr, .inr (4, [.ref xb, rt, .int (nI (b2n rb)), .int (nI ra), .int rft, .long rk, .int (nI rs), .long rv])), (xt, .inl (.object "RunStore$Table", 16, .inr (.inr (.inr (.inr rf))))), (xg, .inr (2, [.ref g1, .ref g2, .ref g3, .int (nI Gn)])), (g1, .inl (.long, NG, .inr (.inl GK))), (g2, .inl (.int, NG, .inl (fun q => nI (Gz q)))), (g3, .inl (.long, NG, .inr (.inl GV))), (h, .inr (6, [.int th, .int (nI M), .int (nI n), .ref y1, .ref y2, .ref y3, .int (nI u), .ref y4, .ref y5, .ref y6, .ref y7, .int (nI c), .ref y8, .ref y9, .ref y10, .ref y11, .ref y12, .int bd, .int w, .int ps, .int (nI pa), .int lc, .int (nI (b2n fb)), .long ek, .long ev, .int (nI el), .int (nI fn), .ref y13, .ref y14, .ref y15, .ref y16, .int (nI js), .ref y17, .int (nI (b2n ib))])), (y1, .inl (.long, 25, .inr (.inl K))), (y2, .inl (.long, 25, .inr (.inl V))), (y3, .inl (.int, 25, .inl (fun q => nI (z q)))), (y4, .inl (.int, 1024, .inl (fun q => nI (L q)))), (y5, .inl (.int, 4096, .inl (fun q => nI (D q)))), (y6, .inl (.int, 128, .inl S)), (y7, .inl (.boolean, 128, .inl Xt)), (y8, .inl (.int, 17, .inl (fun q => nI (lv q)))), (y9, .inl (.int, 17, .inl (fun q => nI (en q)))), (y10, .inl (.int, 17, .inl (fun q => nI (mn q)))), (y11, .inl (.int, 2176, .inl (fun q => nI (bk q)))), (y12, .inl (.long, 17, .inr (.inl fl))), (y13, .inl (.long, 500, .inr (.inl FK))), (y14, .inl (.long, 500, .inr (.inl FV))), (y15, .inl (.int, 500, .inl (fun q => nI (Fz q)))), (y16, .inl (.int, 4200, .inl (fun q => nI (J q)))), (y17, .inl (.int, 128, .inl (fun q => nI (pk q)))), (o, .inl (.long, 1, .inr (.inl O)))]) P)) : C9 f := by
  unfold lwS at hS
  refine hS.elim (fun K hS => ?_)
  refine hS.elim (fun z hS => ?_)
  refine hS.elim (fun V hS => ?_)
  refine hS.elim (fun n hS => ?_)
  refine hS.elim (fun L hS => ?_)
  refine hS.elim (fun u hS => ?_)
  refine hS.elim (fun D hS => ?_)
  refine hS.elim (fun S hS => ?_)
  refine hS.elim (fun T hS => ?_)
  refine hS.elim (fun tb hS => ?_)
  refine hS.elim (fun c hS => ?_)
  refine hS.elim (fun ps hS => ?_)
  refine hS.elim (fun bd hS => ?_)
  refine hS.elim (fun w hS => ?_)
  refine hS.elim (fun sv hS => ?_)
  refine hS.elim (fun la hS => ?_)
  refine hS.elim (fun le hS => ?_)
  refine hS.elim (fun lk hS => ?_)
  refine hS.elim (fun ls hS => ?_)
  refine hS.elim (fun lw hS => ?_)
  refine hS.elim (fun rt hS => ?_)
  refine hS.elim (fun rb hS => ?_)
  refine hS.elim (fun ra hS => ?_)
  refine hS.elim (fun rft hS => ?_)
  refine hS.elim (fun rk hS => ?_)
  refine hS.elim (fun rs hS => ?_)
  refine hS.elim (fun rv hS => ?_)
  refine hS.elim (fun rf hS => ?_)
  refine hS.elim (fun tq hS => ?_)
  refine hS.elim (fun ti hS => ?_)
  refine hS.elim (fun P hS => ?_)
  refine hS.elim (fun GK hS => ?_)
  refine hS.elim (fun Gz hS => ?_)
  refine hS.elim (fun GV hS => ?_)
  refine hS.elim (fun Gn hS => ?_)
  refine hS.elim (fun th hS => ?_)
  refine hS.elim (fun pa hS => ?_)
  refine hS.elim (fun lc hS => ?_)
  refine hS.elim (fun fb hS => ?_)
  refine hS.elim (fun ek hS => ?_)
  refine hS.elim (fun ev hS => ?_)
  refine hS.elim (fun el hS => ?_)
  refine hS.elim (fun fn hS => ?_)
  refine hS.elim (fun js hS => ?_)
  refine hS.elim (fun ib hS => ?_)
  refine hS.elim (fun Xt hS => ?_)
  refine hS.elim (fun lv hS => ?_)
  refine hS.elim (fun en hS => ?_)
  refine hS.elim (fun mn hS => ?_)
  refine hS.elim (fun fl hS => ?_)
  refine hS.elim (fun bk hS => ?_)
  refine hS.elim (fun FK hS => ?_)
  refine hS.elim (fun FV hS => ?_)
  refine hS.elim (fun Fz hS => ?_)
  refine hS.elim (fun J hS => ?_)
  refine hS.elim (fun pk hS => ?_)
  refine hS.elim (fun O hS => ?_)
  obtain ⟨rfl, hn24, hs, hz, hu, hL, hD, hc16, hP, hI, hB, hX, hPd⟩ := hS
  exact k K z V n L u D S T tb c ps bd w sv la le lk ls lw rt rb ra rft rk rs rv rf tq ti P GK Gz GV Gn th pa lc fb ek ev el fn js ib Xt lv en mn fl bk FK FV Fz J pk O hn24 hs hz hu hL hD hc16 hP hI hB hX hPd
