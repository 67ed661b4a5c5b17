/-! THE SCRIPT: an array of ints that somebody else made; only its ints and its length are known -/
def lwX (s : State) (f0 : fh_M) (b n : Nat) (xs : Nat → Int32) : Prop := va_X b n xs s s.heap ∧ b < s.heap.size ∧ ¬ fh_A f0 s b
theorem code_whole {A : Array Value} {s : State} {y : MethodName} {bytes : ByteArray} {maxL : Nat} {ret : Option FieldType} (h : (Cond.code y bytes maxL ret).before A s = true) : ∃ (mk : MethodId) (methM : Method) (cM : Code), s.methodNamed? y = some mk ∧ s.vm.method? mk = some methM ∧ methM.code = some cM ∧ cM.maxLocals = maxL ∧ parseMethodDescriptor y.desc = some methM.sig := by
  obtain ⟨mk, hn⟩ := Cond.code_named h
  obtain ⟨methM, cM, h1, h2, -, h4, -, -, -, h8⟩ := Cond.code_spec hn h
  exact ⟨mk, methM, cM, hn, h1, h2, h4, h8⟩
/-- a body that reads a script -/
theorem fh_enterX {N : State → Prop} {l : Launch} {cl : List vw_C} {Ts : List Cond} {y : MethodName} {cc : ByteArray} {maxL : Nat} {ret : Option FieldType} {fr lo : Nat} {As : List Value} {f r : fh_M} {mc ms : Nat} {Qm : fh_R → fh_M → Prop}
    (hy : plainName y.cls = true) (hst : l.stackTraces = false) (hlen : (lg_sl As).length ≤ maxL)
    (body : ∀ (D : va_G) (p : Program) (e : Env) (s : State) (m : MethodId) (args : Array Value) (below : List Frame) (meth : Method) (c : Code), fh_X p l s m args meth c D cl Ts f r y.cls cc maxL → meth.sig.returnType = ret → meth.name = y.name → c.exceptionTable.isEmpty = true → N s → fh_W D cl s f s.heap →
      fh_G p l e (fh_rm fr lo mc ms) s m args below meth c D cl f maxL (fh_MQ below D cl f Qm args s mc ms) 0 0 f 0 (lv_args 0 As) []) :
    fh_CN l cl Ts y (.code y cc maxL ret) fr lo As f r mc ms N Qm := by
  intro D sz
  refine MetFree.of_bodyS (code := cc) (maxLocals := maxL) (ret := ret) hy ?_ ?_
  · intro args s m h hn
    obtain ⟨meth, c, h1, h2, h3, h4, h5, h6, -, -⟩ := Cond.code_spec hn (atoms_spec (ws := [.code y cc maxL ret]) h _ List.mem_cons_self)
    exact ⟨meth, c, h1, h2, h3, h4, h5, h6⟩
  · intro p e s m args below meth c s₁ B hml hP _
    obtain ⟨rfl, ⟨rfl, hts, hK, hf, hr, hd, hZ⟩, hN9⟩ := hP
    have hh0 : s₁.heap = s.heap := by rw [B.state]; rfl
    have X : fh_X p l s m As.toArray meth c D cl Ts f r y.cls cc maxL := by
      refine ⟨B.exec, B.bytes, hml, findClass_of_methodNamed B.named, hts, hK, B.notSynchronized, hr, fun q hq hA => ?_, fh_Zof hZ (fun q h1 h2 => ?_), hst, hf⟩
      · rcases hA with h | h
        · exact h (hd q hq)
        · exact hq (fh_none hr h)
      · rcases h2 with h | h
        · exact h
        · omega
    have hnoh : c.exceptionTable.isEmpty = true := B.noHandlers (atoms_spec (ws := [.code y cc maxL ret]) B.pre _ List.mem_cons_self)
    have K := body D p e s m As.toArray below meth c X B.returns (name_of_methodNamed B.named B.method).1 hnoh hN9 hf s.heap [] _ ⟨hf, va_S.rf, fun q hq => Or.inl hq, fun q hq => hq⟩ (lv_entry As hlen)
    rw [← lg_entry_eq] at K
    obtain ⟨t, a1, o, b1, b2, b3⟩ := K s₁ hh0 (Stand.of_body B)
    exact ⟨t, o, a1, b1, b2, b3⟩
section SCRR
variable {p : Program} {l : Launch} {e : Env} {R : Room} {s : State} {m : MethodId} {args : Array Value} {below : List Frame} {meth : Method} {c : Code} {D : va_G} {cl : List vw_C} {Ts : List Cond} {f0 r f : fh_M} {own : String} {cc : ByteArray} {nL : Nat} {Q : State → Prop} {ce sl pc : Nat} {lv : List (Nat × Value)} {st : List Value} {Qm : fh_R → fh_M → Prop} {mc ms : Nat}
theorem s_iald {a n k : Nat} {g : Nat → Int32} (X : fh_X p l s m args meth c D cl Ts f0 r own cc nL) (hScr : lwX s f0 a n g) (d : decode cc pc = .ok (.iaload, 1)) (hk : k < n) (hN : n < 2 ^ 31) (kk : fh_G p l e R s m args below meth c D cl f0 nL Q ce sl f (pc + 1) lv (.int (g k) :: st)) : fh_G p l e R s m args below meth c D cl f0 nL Q ce sl f (pc) lv (.int (nI k) :: .ref a :: st) := fun H locs ls hI hl => by
  refine va_sld X.1 X.2.1 hScr.1 hScr.2.1 hScr.2.2 hI.2.1 (vp_in_nI hk hN) d ?_
  rw [nI_clamp (Nat.lt_trans hk hN)]
  exact kk H locs ls hI hl
theorem s_alen {a n : Nat} {g : Nat → Int32} (X : fh_X p l s m args meth c D cl Ts f0 r own cc nL) (hScr : lwX s f0 a n g) (d : decode cc pc = .ok (.arraylength, 1)) (kk : fh_G p l e R s m args below meth c D cl f0 nL Q ce sl f (pc + 1) lv (.int (nI n) :: st)) : fh_G p l e R s m args below meth c D cl f0 nL Q ce sl f pc lv (.ref a :: st) := fun H locs ls hI hl =>
  va_slen X.1 X.2.1 hScr.1 hScr.2.1 hScr.2.2 hI.2.1 d (kk H locs ls hI hl)
theorem g_callSX {N : State → Prop} {index maxL fr lo : Nat} {y : MethodName} {bytes : ByteArray} {ret : Option FieldType} {As : List Value} {g rg : fh_M} {st0 : List Value} (X : fh_X p l s m args meth c D cl Ts f0 r own cc nL) (d : decode cc pc = .ok (.invokestatic index, 3)) (hM : fh_CN l cl Ts y (.code y bytes maxL ret) fr lo (As) g rg mc ms N Qm) (hN0 : ∀ (H : Heap) (locs : List Loc) (U : State), va_S (fh_A f0 s) s.heap H locs → U.heap = H → s.vm.Alike U.vm → N U) (hs : st0 = As.reverse ++ st) (hlink : Cond.methodLink own index y ∈ Ts) (hcode : Cond.code y bytes maxL ret ∈ Ts) (hini : Cond.initialized y.cls ∈ Ts) (hstt : Cond.static y ∈ Ts) (hd : y.cls ≠ "java/lang/invoke/MethodHandle" ∧ y.cls ≠ "java/lang/invoke/VarHandle" ∧ (parseMethodDescriptor y.desc).map (fun d => d.parameters.length) = some As.length) (hR : fr + 1 ≤ R.frames ∧ 8 + (maxL + 11) + lo ≤ R.locals) (hcs : ce + mc ≤ R.cells ∧ sl + ms ≤ R.slots) (h8 : (st.map fun v => v.category).sum ≤ 8) (hg : ∀ q x, g q = some x → f q = some x) (hrx : ∀ q x, rg q = some x → r q = some x ∨ (f q = some x ∧ g q = none)) (hn : ∀ E g', ¬ Qm (.inr E) g') (kk : ∀ (v : Option Value) (g' : fh_M), Qm (.inl v) g' → (∀ q, g' q ≠ none → g q = none → f q = none ∧ r q = none) → fh_G p l e R s m args below meth c D cl f0 nL Q (ce + mc) (sl + ms) (fh_ov g' f) (pc + 3) lv (v.toList ++ st)) : fh_G p l e R s m args below meth c D cl f0 nL Q ce sl f (pc) lv (st0) := fun H locs ls hI hl => by
  subst hs
  have hP := fh_pre (As := As) X hI hg (fun q y h => (hrx q y h).elim Or.inr (fun z => Or.inl z.1)) (fh_disF X hI hg hrx)
  intro T hT X9
  have hy : y.cls ≠ "java/lang/invoke/MethodHandle" ∧ y.cls ≠ "java/lang/invoke/VarHandle" := ⟨hd.1, hd.2.1⟩
  obtain ⟨mk, methM, cM, hnamed, hmethM, -, -, hsigM⟩ := code_whole (X.words _ hcode)
  have hstM : methM.isStatic = true := Cond.static_spec hnamed hmethM (X.words _ hstt)
  obtain ⟨kP, hkP, -⟩ := className_of_methodNamed hnamed
  have hkPi : kP.init = .initialized := Cond.initialized_spec (findClass_of_methodNamed hnamed) hkP (X.words _ hini)
  have d' : decode c.code pc = .ok (.invokestatic index, 3) := by rw [X.2.1]; exact d
  have hlen : As.length = methM.sig.parameters.length := by
    have h2 := hd.2.2
    rw [hsigM] at h2
    exact (Option.some.inj h2).symm
  obtain ⟨vm₁, X₁, hstep₁⟩ := X9.invokestatic X.1 X.home (X.words _ hlink) hnamed hmethM hstM hkP hkPi hy (g := F0 m pc ls (As.reverse ++ st)) rfl (argsL := As) (rest := st) hlen rfl d'
  have hU : (T.setVm vm₁).heap = H := hT
  have hW1 : s.WarmedH (T.setVm vm₁).vm := X₁.warmed
  have hn1 := X₁.named hnamed
  have hcd : (Cond.code y bytes maxL ret).before As.toArray (T.setVm vm₁) = true := fh_okw_at (X.2.2.2.2.1 _ hcode).1 hW1 (X.words _ hcode)
  have hin : (Cond.initialized y.cls).before As.toArray (T.setVm vm₁) = true := fh_okw_at (X.2.2.2.2.1 _ hini).1 hW1 (X.words _ hini)
  obtain ⟨m8, methY, cY, hn8, hmY, hcY, hlY, -⟩ := code_whole hcd
  cases Option.some.inj (hn8.symm.trans hn1)
  have hPN := hP.1 _ _ (F0 m pc ls st) mk (hP.2 (T.setVm vm₁) hU hW1)
  have hh0 : ((T.setVm vm₁).calling (F0 m pc ls st) mk As.toArray).heap = H := hU
  obtain ⟨o, t, hsteps, hend, ⟨x, g', hq, ho, hW', hF, hdom, hkeep⟩, hwm, L, hsame, hL⟩ := fh_come X₁ (hM D H.size) (mk := mk) (a := As.toArray) (g := F0 m pc ls st) rfl (by rw [X.2.2.1]; exact hl.1) (W9 := 8) (maxL := maxL) d' (lv_room h8) hn1 hmY hcY hlY hin hcd hR.1 hR.2 hcs.1 hcs.2 ⟨hPN.1, hPN.2, hN0 H locs _ hI.2.1 hh0 (X₁.warmed.alike)⟩
  obtain ⟨hz, hk⟩ := hF
  rw [hh0] at hz hk
  cases x with
  | inl v =>
    cases ho
    obtain ⟨T', X', hw9, -, ht⟩ := X₁.outOf (g := F0 m pc ls st) rfl d' hend hwm hsame
    have e1 : T'.heap = t.heap := by rw [ht]; rfl
    have hvm : s.vm.Alike t.vm := by rw [ht]; exact X'.warmed.alike
    obtain ⟨t2, a1, b1⟩ := kk v g' hq (fh_newF X hI hdom) T'.heap (locs ++ L) ls (hI.over hg hvm e1 hW' hz hk hdom hkeep hL) hl T' rfl X'
    exact ⟨t2, hstep₁ _ fun acts => by rw [doInvoke_state]; rw [ht] at hsteps; exact hsteps.trans a1, b1⟩
  | inr E => exact absurd hq (hn E g')
end SCRR
theorem lwX_at {s : State} {f0 : fh_M} {b n : Nat} {xs : Nat → Int32} (h : lwX s f0 b n xs) : ∀ (H : Heap) (locs : List Loc) (U : State), va_S (fh_A f0 s) s.heap H locs → U.heap = H → s.vm.Alike U.vm → va_X b n xs U U.heap := fun H locs U hS hU hv => by
  rw [hU]
  exact (h.1.kept (hS.2.1 b h.2.1 h.2.2)).moved hv
theorem lwX_0 {s : State} {b n : Nat} {xs : Nat → Int32} (h : va_X b n xs s s.heap) : lwX s (hp []) b n xs := by
  obtain ⟨scr, h1, h2⟩ := id h
  have hl : b < s.heap.size := (Array.getElem?_eq_some_iff.mp h1).1
  exact ⟨h, hl, fun z => z.elim (fun z => z rfl) (fun z => by omega)⟩
set_option maxRecDepth 100000 in
set_option maxHeartbeats 1000000 in
theorem c_LW_cell {l : Launch} (hst : l.stackTraces = false) {b0 Ls : Nat} {xs : Nat → Int32} (hLs : Ls ≤ 3073) : fh_CN l fhCl fhT y_LW_cell (.code y_LW_cell b_LW_cell 2 (some .int)) 0 0 [.ref b0, .int (nI 0)] (hp []) (hp []) 0 0 (fun U => va_X b0 Ls xs U U.heap) (fh_ret (some (.int (if 0 < Ls then xs 0 else 0))) []) := by
  refine fh_enterX (by decide) hst (Nat.le_of_ble_eq_true rfl) ?_
  intro mD mp me sm mm margs mbel mmet mcod X hr hnm hno hN9 hf0
  have hScr := lwX_0 hN9
  show fh_G mp l me (fh_rm 0 0 0 0) sm mm margs mbel mmet mcod mD fhCl (hp []) 2 _ 0 0 (hp []) 0 [(0, .ref b0), (1, .int (nI 0))] []
  refine g_iload_n X d_LW_cell_0 1 rfl ?_
  refine g_aload_n X d_LW_cell_1 0 rfl ?_
  refine s_alen X hScr d_LW_cell_2 ?_
  refine g_icmp_ge 12 X d_LW_cell_3 (by decide) (fun h3 => ?_) (fun h3 => ?_)
  · have h3 := cv_le (by omega) (by omega) h3
    have hw9 : (if 0 < Ls then xs 0 else 0) = nI 0 := by rw [if_neg (by omega)]; rfl
    refine g_iconst (nI 0) X d_LW_cell_12 (by decide) ?_
    exact g_iret X hr d_LW_cell_13 (Nat.le_of_ble_eq_true rfl) (Nat.le_of_ble_eq_true rfl) (⟨by rw [hw9], rfl⟩)
  · have h3 := cv_nle (by omega) (by omega) h3
    have hw9 : (if 0 < Ls then xs 0 else 0) = xs 0 := if_pos (by omega)
    refine g_aload_n X d_LW_cell_6 0 rfl ?_
    refine g_iload_n X d_LW_cell_7 1 rfl ?_
    refine s_iald X hScr d_LW_cell_8 (by omega) (by omega) ?_
    refine g_goto 13 X d_LW_cell_9 (by decide) ?_
    exact g_iret X hr d_LW_cell_13 (Nat.le_of_ble_eq_true rfl) (Nat.le_of_ble_eq_true rfl) (⟨by rw [hw9], rfl⟩)
