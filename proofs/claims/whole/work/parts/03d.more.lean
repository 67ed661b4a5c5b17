/-! arrays whose ints are numbers (nI), or bytes of numbers below 256 (sb_b) -/
theorem nI_up (z : Nat → Nat) (k v : Nat) : upd (fun q => nI (z q)) k (nI v) = fun q => nI (va_up z k v q) := by
  funext q
  unfold upd va_up
  by_cases h : q = k
  · rw [if_pos h, if_pos h]
  · rw [if_neg h, if_neg h]
theorem nI_cpy (z : Nat → Nat) (sp dp k : Nat) : va_cpy (fun q => nI (z q)) (fun q => nI (z q)) sp dp k = fun q => nI (va_cpy z z sp dp k q) := by
  funext q
  unfold va_cpy
  by_cases h : dp ≤ q ∧ q < dp + k
  · rw [if_pos h, if_pos h]
  · rw [if_neg h, if_neg h]
theorem sb_mod (v : Nat) : (nI v).toInt8.toInt32 = sb_b (v % 256) := by
  unfold sb_b nI
  rw [Int32.toInt8_ofNat', Int32.toInt8_ofNat']
  congr 1
  apply Int8.toBitVec_inj.mp
  show BitVec.ofNat 8 v = BitVec.ofNat 8 (v % 256)
  apply BitVec.eq_of_toNat_eq
  simp
theorem sb_up (z : Nat → Nat) (k v : Nat) : upd (fun q => sb_b (z q)) k (vp_nar .byte (nI v)) = fun q => sb_b (va_up z k (v % 256) q) := by
  funext q
  rw [vp_nar_byte, sb_mod]
  unfold upd va_up
  by_cases h : q = k
  · rw [if_pos h, if_pos h]
  · rw [if_neg h, if_neg h]
theorem sb_upB (z : Nat → Nat) (k v : Nat) : upd (fun q => sb_b (z q)) k (vp_nar .byte ((nI v).toInt8.toInt32)) = fun q => sb_b (va_up z k (v % 256) q) := by
  funext q
  rw [pk_vb, sb_mod]
  unfold upd va_up
  by_cases h : q = k
  · rw [if_pos h, if_pos h]
  · rw [if_neg h, if_neg h]
theorem sb_upS (z : Nat → Nat) (k v : Nat) : upd (fun q => sb_b (z q)) k (vp_nar .byte (sb_b v)) = fun q => sb_b (va_up z k v q) := by
  funext q
  unfold sb_b
  rw [pk_vb]
  unfold upd va_up
  by_cases h : q = k
  · rw [if_pos h, if_pos h]
  · rw [if_neg h, if_neg h]
theorem sb_and {c : Nat} (h : c < 256) : sb_b c &&& nI 255 = nI c := (sb_byte c h).1
theorem hl_w {ws : List (Nat × fh_E)} {r : fh_M} {a : Nat} {y : fh_E} (i : Nat) (hi : ws[i]? = some (a, y)) (hn : nd ws) : fh_l (hp ws) r a y := Or.inl (hp_get hn i hi)
theorem hl_r {ws : List (Nat × fh_E)} {f : fh_M} {a : Nat} {y : fh_E} (i : Nat) (hi : ws[i]? = some (a, y)) (hn : nd ws) : fh_l f (hp ws) a y := Or.inr (hp_get hn i hi)
section FHM
variable {p : Program} {l : Launch} {e : Env} {R : Room} {s : State} {m : MethodId} {args : Array Value} {below : List Frame} {meth : Method} {c : Code} {D : va_G} {cl : List vw_C} {Ts : List Cond} {f0 r : fh_M} {own : String} {cc : ByteArray} {nL : Nat} {Q : State → Prop} {ce sl pc : Nat} {lv : List (Nat × Value)} {st : List Value} {ws : List (Nat × fh_E)}
theorem h_iastN {a n k v : Nat} {g : Nat → Nat} (i : Nat) (ws' : List (Nat × fh_E)) (X : fh_X p l s m args meth c D cl Ts f0 r own cc nL) (d : decode cc pc = .ok (.iastore, 1)) (hn : nd ws) (hi : ws[i]? = some (a, .inl (.int, n, .inl (fun q => nI (g q))))) (hk : k < n) (hN : n < 2 ^ 31) (hw : ws.set i (a, .inl (.int, n, .inl (fun q => nI (va_up g k v q)))) = ws') (kk : fh_G p l e R s m args below meth c D cl f0 nL Q ce sl (hp ws') (pc + 1) lv (st)) : fh_G p l e R s m args below meth c D cl f0 nL Q ce sl (hp ws) (pc) lv (.int (nI v) :: .int (nI k) :: .ref a :: st) :=
  h_iast i ws' X d hn hi hk hN (by rw [nI_up]; exact hw) kk
theorem h_bastN {a n k v : Nat} {g : Nat → Nat} (i : Nat) (ws' : List (Nat × fh_E)) (X : fh_X p l s m args meth c D cl Ts f0 r own cc nL) (d : decode cc pc = .ok (.bastore, 1)) (hn : nd ws) (hi : ws[i]? = some (a, .inl (.byte, n, .inl (fun q => sb_b (g q))))) (hk : k < n) (hN : n < 2 ^ 31) (hw : ws.set i (a, .inl (.byte, n, .inl (fun q => sb_b (va_up g k (v % 256) q)))) = ws') (kk : fh_G p l e R s m args below meth c D cl f0 nL Q ce sl (hp ws') (pc + 1) lv (st)) : fh_G p l e R s m args below meth c D cl f0 nL Q ce sl (hp ws) (pc) lv (.int (nI v) :: .int (nI k) :: .ref a :: st) :=
  h_bast i ws' X d hn hi hk hN (by rw [sb_up]; exact hw) kk
theorem h_bastB {a n k v : Nat} {g : Nat → Nat} (i : Nat) (ws' : List (Nat × fh_E)) (X : fh_X p l s m args meth c D cl Ts f0 r own cc nL) (d : decode cc pc = .ok (.bastore, 1)) (hn : nd ws) (hi : ws[i]? = some (a, .inl (.byte, n, .inl (fun q => sb_b (g q))))) (hk : k < n) (hN : n < 2 ^ 31) (hw : ws.set i (a, .inl (.byte, n, .inl (fun q => sb_b (va_up g k (v % 256) q)))) = ws') (kk : fh_G p l e R s m args below meth c D cl f0 nL Q ce sl (hp ws') (pc + 1) lv (st)) : fh_G p l e R s m args below meth c D cl f0 nL Q ce sl (hp ws) (pc) lv (.int ((nI v).toInt8.toInt32) :: .int (nI k) :: .ref a :: st) :=
  h_bast i ws' X d hn hi hk hN (by rw [sb_upB]; exact hw) kk
theorem h_bastS {a n k v : Nat} {g : Nat → Nat} (i : Nat) (ws' : List (Nat × fh_E)) (X : fh_X p l s m args meth c D cl Ts f0 r own cc nL) (d : decode cc pc = .ok (.bastore, 1)) (hn : nd ws) (hi : ws[i]? = some (a, .inl (.byte, n, .inl (fun q => sb_b (g q))))) (hk : k < n) (hN : n < 2 ^ 31) (hw : ws.set i (a, .inl (.byte, n, .inl (fun q => sb_b (va_up g k v q)))) = ws') (kk : fh_G p l e R s m args below meth c D cl f0 nL Q ce sl (hp ws') (pc + 1) lv (st)) : fh_G p l e R s m args below meth c D cl f0 nL Q ce sl (hp ws) (pc) lv (.int (sb_b v) :: .int (nI k) :: .ref a :: st) :=
  h_bast i ws' X d hn hi hk hN (by rw [sb_upS]; exact hw) kk
theorem h_copyl {a n index : Nat} {ty : FieldType} {g : Nat → Int64} {sp dp k : Nat} (i : Nat) (ws' : List (Nat × fh_E)) (X : fh_X p l s m args meth c D cl Ts f0 r own cc nL) (d : decode cc pc = .ok (.invokestatic index, 3)) (hlink : Cond.methodLink own index arraycopyName ∈ Ts) (hnat : Cond.native arraycopyName ∈ Ts) (hstat : Cond.static arraycopyName ∈ Ts) (hini : Cond.initialized "java/lang/System" ∈ Ts) (hn : nd ws) (hi : ws[i]? = some (a, .inl (ty, n, .inr (.inl (g))))) (hprim : refKind ty = false) (hfit : ∀ x, fits ty (.long x) = true) (hN : n < 2 ^ 31) (h4 : sp + k ≤ n) (h5 : dp + k ≤ n) (hfr : 1 ≤ R.frames) (hlo : (st.map fun v => v.category).sum + (nativeFrameWords "java/lang/System" "arraycopy" 5 + 11) ≤ R.locals) (hw : ws.set i (a, .inl (ty, n, .inr (.inl (va_cpy g g sp dp k)))) = ws') (kk : fh_G p l e R s m args below meth c D cl f0 nL Q ce sl (hp ws') (pc + 3) lv (st)) : fh_G p l e R s m args below meth c D cl f0 nL Q ce sl (hp ws) (pc) lv (.int (nI k) :: .int (nI dp) :: .ref a :: .int (nI sp) :: .ref a :: st) := by
  refine g_copyl X d hlink hnat hstat hini (hp_get hn i hi) hprim hfit hN h4 h5 hfr hlo ?_
  rw [hp_put hn i hi, hw]
  exact kk
theorem h_copyi {a n index : Nat} {ty : FieldType} {g : Nat → Int32} {sp dp k : Nat} (i : Nat) (ws' : List (Nat × fh_E)) (X : fh_X p l s m args meth c D cl Ts f0 r own cc nL) (d : decode cc pc = .ok (.invokestatic index, 3)) (hlink : Cond.methodLink own index arraycopyName ∈ Ts) (hnat : Cond.native arraycopyName ∈ Ts) (hstat : Cond.static arraycopyName ∈ Ts) (hini : Cond.initialized "java/lang/System" ∈ Ts) (hn : nd ws) (hi : ws[i]? = some (a, .inl (ty, n, .inl (g)))) (hprim : refKind ty = false) (hfit : ∀ x, fits ty (.int x) = true) (hN : n < 2 ^ 31) (h4 : sp + k ≤ n) (h5 : dp + k ≤ n) (hfr : 1 ≤ R.frames) (hlo : (st.map fun v => v.category).sum + (nativeFrameWords "java/lang/System" "arraycopy" 5 + 11) ≤ R.locals) (hw : ws.set i (a, .inl (ty, n, .inl (va_cpy g g sp dp k))) = ws') (kk : fh_G p l e R s m args below meth c D cl f0 nL Q ce sl (hp ws') (pc + 3) lv (st)) : fh_G p l e R s m args below meth c D cl f0 nL Q ce sl (hp ws) (pc) lv (.int (nI k) :: .int (nI dp) :: .ref a :: .int (nI sp) :: .ref a :: st) := by
  refine g_copyi X d hlink hnat hstat hini (hp_get hn i hi) hprim hfit hN h4 h5 hfr hlo ?_
  rw [hp_put hn i hi, hw]
  exact kk
theorem h_copyN {a n index : Nat} {g : Nat → Nat} {sp dp k : Nat} (i : Nat) (ws' : List (Nat × fh_E)) (X : fh_X p l s m args meth c D cl Ts f0 r own cc nL) (d : decode cc pc = .ok (.invokestatic index, 3)) (hlink : Cond.methodLink own index arraycopyName ∈ Ts) (hnat : Cond.native arraycopyName ∈ Ts) (hstat : Cond.static arraycopyName ∈ Ts) (hini : Cond.initialized "java/lang/System" ∈ Ts) (hn : nd ws) (hi : ws[i]? = some (a, .inl (.int, n, .inl (fun q => nI (g q))))) (hN : n < 2 ^ 31) (h4 : sp + k ≤ n) (h5 : dp + k ≤ n) (hfr : 1 ≤ R.frames) (hlo : (st.map fun v => v.category).sum + (nativeFrameWords "java/lang/System" "arraycopy" 5 + 11) ≤ R.locals) (hw : ws.set i (a, .inl (.int, n, .inl (fun q => nI (va_cpy g g sp dp k q)))) = ws') (kk : fh_G p l e R s m args below meth c D cl f0 nL Q ce sl (hp ws') (pc + 3) lv (st)) : fh_G p l e R s m args below meth c D cl f0 nL Q ce sl (hp ws) (pc) lv (.int (nI k) :: .int (nI dp) :: .ref a :: .int (nI sp) :: .ref a :: st) :=
  h_copyi i ws' X d hlink hnat hstat hini hn hi rfl (fun _ => rfl) hN h4 h5 hfr hlo (by rw [nI_cpy]; exact hw) kk
theorem h_new {index N ci : Nat} {C : String} {T : u_T} (fs : List Value) (X : fh_X p l s m args meth c D cl Ts f0 r own cc nL) (d : decode cc pc = .ok (.new index, 3)) (hn : nd ws) (hc : cl[ci]? = some (C, T, N)) (hin : ∀ w ∈ u_ws C T N, w ∈ Ts) (ty0 : Nat → FieldType) (hty : ∀ k, k < N → parseFieldDescriptor (T k).2.2.1 = some (ty0 k)) (hlink : Cond.classLink own index C ∈ Ts) (hinst : Cond.instantiable C N ∈ Ts) (hini : Cond.initialized C ∈ Ts) (hfs : ∀ j, j < N → defaultValue (ty0 j) = vp_V fs j) (h1 : ce + 1 ≤ R.cells) (h2 : sl + N ≤ R.slots) (kk : ∀ q : Nat, nd (ws ++ [(q, .inr (ci, fs))]) → hp ws q = none ∧ r q = none → fh_G p l e R s m args below meth c D cl f0 nL Q (ce + 1) (sl + N) (hp (ws ++ [(q, .inr (ci, fs))])) (pc + 3) lv (.ref q :: st)) : fh_G p l e R s m args below meth c D cl f0 nL Q ce sl (hp ws) (pc) lv (st) := by
  refine g_new fs X d hc hin ty0 hty hlink hinst hini hfs h1 h2 (fun q hq => ?_)
  rw [hp_add hq.1]
  exact kk q (nd_add hn hq.1) hq
theorem h_newa {n : Int32} {N9 : Nat} {atype : ArrayType} {ty : FieldType} (a0 : vp_A) (X : fh_X p l s m args meth c D cl Ts f0 r own cc nL) (d : decode cc pc = .ok (.newarray atype, 2)) (hn9 : nd ws) (hty : newarray.typeOf atype = ty) (hcl : Cond.arrayClass ty ∈ Ts) (hz : ∀ cA : ClassId, vp_cell cA a0 = arrV cA N9 (fun _ => defaultValue ty)) (hn : n = nI N9) (hN : N9 < 2 ^ 20) (h1 : ce + 1 ≤ R.cells) (h2 : sl + N9 ≤ R.slots) (kk : ∀ q : Nat, nd (ws ++ [(q, .inl (ty, a0))]) → hp ws q = none ∧ r q = none → fh_G p l e R s m args below meth c D cl f0 nL Q (ce + 1) (sl + N9) (hp (ws ++ [(q, .inl (ty, a0))])) (pc + 2) lv (.ref q :: st)) : fh_G p l e R s m args below meth c D cl f0 nL Q ce sl (hp ws) (pc) lv (.int n :: st) := by
  refine g_newa a0 X d hty hcl hz hn hN h1 h2 (fun q hq => ?_)
  rw [hp_add hq.1]
  exact kk q (nd_add hn9 hq.1) hq
theorem g_hp {ws' : List (Nat × fh_E)} (h : ws = ws') (k : fh_G p l e R s m args below meth c D cl f0 nL Q ce sl (hp ws') (pc) lv (st)) : fh_G p l e R s m args below meth c D cl f0 nL Q ce sl (hp ws) (pc) lv (st) := h ▸ k
theorem g_lve {f : fh_M} {lv' : List (Nat × Value)} (h : lv = lv') (k : fh_G p l e R s m args below meth c D cl f0 nL Q ce sl f (pc) lv' (st)) : fh_G p l e R s m args below meth c D cl f0 nL Q ce sl f (pc) lv (st) := h ▸ k
theorem g_ov {u : List (Nat × fh_E)} (is : List Nat) (ws' : List (Nat × fh_E)) (hiu : is.map (fun i => (ws[i]?).map Prod.fst) = u.map (fun c => some c.1)) (hw : hp_sets is u ws = ws') (hn : nd ws) (k : fh_G p l e R s m args below meth c D cl f0 nL Q ce sl (hp ws') (pc) lv (st)) : fh_G p l e R s m args below meth c D cl f0 nL Q ce sl (fh_ov (hp u) (hp ws)) (pc) lv (st) := by
  rw [hp_over hn is u hiu, hw]
  exact k
end FHM
