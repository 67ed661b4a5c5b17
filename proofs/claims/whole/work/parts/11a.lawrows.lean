/-! THE LAW's rows: methods with handlers -/
def fh_CN (l : Launch) (cl : List vw_C) (Ts : List Cond) (y : MethodName) (w0 : Cond) (fr lo : Nat) (As : List Value) (f r : fh_M) (mc ms : Nat) (N : State → Prop) (Qm : fh_R → fh_M → Prop) : Prop :=
  ∀ (D : va_G) (sz : Nat), MetFree l y (headSpec [w0] (fh_rm fr lo mc ms)) (fun v U => v = As.toArray ∧ fh_P D cl Ts f r sz U ∧ N U) (fun _ _ _ _ _ => True) (fun a st o t => fh_Q D cl f Qm sz a st o t ∧ st.WarmedH t.vm ∧ ∃ L : List Loc, st.sameButNew ({ t with vm := st.vm } : State) L mc ms ∧ ∀ q ∈ L, fh_B f sz q.base)
/-- the table of handlers as the word says it -/
theorem fh_tab {p : Program} {l : Launch} {y : MethodName} {S : Spec} {cc : ByteArray} {maxL : Nat} {ret : Option FieldType} {e : Env} {s s₁ : State} {m : MethodId} {args : Array Value} {below : List Frame} {meth : Method} {c : Code} {hh : List (Nat × Nat × Nat × Nat)} (B : BodyLoose p l y S cc maxL ret e s m args below meth c s₁) (h : (Cond.codeWith y cc maxL ret hh).before args s = true) : c.exceptionTable.toList = tableOf hh := by
  obtain ⟨m9, meth9, c9, g0, g1, g2, -, -, g6, -⟩ := Cond.codeWith_spec h
  cases Option.some.inj (g0.symm.trans B.named)
  cases Option.some.inj (g1.symm.trans B.method)
  cases Option.some.inj (g2.symm.trans (Stand.of_body B).code)
  rw [← g6, table_eq]
/-- the same for a body with handlers, and with a word more of the state -/
theorem fh_enterN {hh : List (Nat × Nat × Nat × Nat)} {N : State → Prop} {l : Launch} {cl : List vw_C} {Ts : List Cond} {y : MethodName} {cc : ByteArray} {maxL : Nat} {ret : Option FieldType} {fr lo : Nat} {As : List Value} {f r : fh_M} {mc ms : Nat} {Qm : fh_R → fh_M → Prop}
    (hy : plainName y.cls = true) (hst : l.stackTraces = false) (hlen : (lg_sl As).length ≤ maxL)
    (body : ∀ (D : va_G) (p : Program) (e : Env) (s : State) (m : MethodId) (args : Array Value) (below : List Frame) (meth : Method) (c : Code), fh_X p l s m args meth c D cl Ts f r y.cls cc maxL → meth.sig.returnType = ret → meth.name = y.name → c.exceptionTable.toList = tableOf hh → N s → fh_W D cl s f s.heap →
      fh_G p l e (fh_rm fr lo mc ms) s m args below meth c D cl f maxL (fh_MQ below D cl f Qm args s mc ms) 0 0 f 0 (lv_args 0 As) []) :
    fh_CN l cl Ts y (.codeWith y cc maxL ret hh) fr lo As f r mc ms N Qm := by
  intro D sz
  refine MetFree.of_bodyS (code := cc) (maxLocals := maxL) (ret := ret) hy ?_ ?_
  · intro args s m h hn
    obtain ⟨m9, meth, c, hn9, h1, h2, h3, h4, -, h5, h6, -⟩ := Cond.codeWith_spec (atoms_spec (ws := [.codeWith y cc maxL ret hh]) h _ List.mem_cons_self)
    cases Option.some.inj (hn9.symm.trans hn)
    exact ⟨meth, c, h1, h2, h3, h4, h5, h6⟩
  · intro p e s m args below meth c s₁ B hml hP _
    obtain ⟨rfl, ⟨rfl, hts, hK, hf, hr, hd, hZ⟩, hN9⟩ := hP
    have hh0 : s₁.heap = s.heap := by rw [B.state]; rfl
    have X : fh_X p l s m As.toArray meth c D cl Ts f r y.cls cc maxL := by
      refine ⟨B.exec, B.bytes, hml, findClass_of_methodNamed B.named, hts, hK, B.notSynchronized, hr, fun q hq hA => ?_, fh_Zof hZ (fun q h1 h2 => ?_), hst, hf⟩
      · rcases hA with h | h
        · exact h (hd q hq)
        · exact hq (fh_none hr h)
      · rcases h2 with h | h
        · exact h
        · omega
    have hnoh : c.exceptionTable.toList = tableOf hh := fh_tab (hh := hh) B (atoms_spec (ws := [.codeWith y cc maxL ret hh]) B.pre _ List.mem_cons_self)
    have K := body D p e s m As.toArray below meth c X B.returns (name_of_methodNamed B.named B.method).1 hnoh hN9 hf s.heap [] _ ⟨hf, va_S.rf, fun q hq => Or.inl hq, fun q hq => hq⟩ (lv_entry As hlen)
    rw [← lg_entry_eq] at K
    obtain ⟨t, a1, o, b1, b2, b3⟩ := K s₁ hh0 (Stand.of_body B)
    exact ⟨t, o, a1, b1, b2, b3⟩
section LAWR
variable {p : Program} {l : Launch} {e : Env} {R : Room} {s : State} {m : MethodId} {args : Array Value} {below : List Frame} {meth : Method} {c : Code} {D : va_G} {cl : List vw_C} {Ts : List Cond} {f0 r f : fh_M} {own : String} {cc : ByteArray} {nL : Nat} {Q : State → Prop} {ce sl pc : Nat} {lv : List (Nat × Value)} {st : List Value} {Qm : fh_R → fh_M → Prop} {mc ms : Nat}
theorem g_callSW {hh : List (Nat × Nat × Nat × Nat)} {N : State → Prop} {index maxL fr lo : Nat} {y : MethodName} {bytes : ByteArray} {ret : Option FieldType} {As : List Value} {g rg : fh_M} {st0 : List Value}  (X : fh_X p l s m args meth c D cl Ts f0 r own cc nL) (d : decode cc pc = .ok (.invokestatic index, 3)) (hM : fh_CN l cl Ts y (.codeWith y bytes maxL ret hh) fr lo (As) g rg mc ms N Qm) (hNs : ∀ U V : State, U.vm.Alike V.vm → N U → N V) (hN0 : N s)  (hs : st0 = As.reverse ++ st) (hlink : Cond.methodLink own index y ∈ Ts) (hcode : Cond.codeWith y bytes maxL ret hh ∈ Ts) (hini : Cond.initialized y.cls ∈ Ts) (hstt : Cond.static y ∈ Ts) (hd : y.cls ≠ "java/lang/invoke/MethodHandle" ∧ y.cls ≠ "java/lang/invoke/VarHandle" ∧ (parseMethodDescriptor y.desc).map (fun d => d.parameters.length) = some As.length) (hR : fr + 1 ≤ R.frames ∧ 8 + (maxL + 11) + lo ≤ R.locals) (hcs : ce + mc ≤ R.cells ∧ sl + ms ≤ R.slots) (h8 : (st.map fun v => v.category).sum ≤ 8) (hg : ∀ q x, g q = some x → f q = some x) (hrx : ∀ q x, rg q = some x → r q = some x ∨ (f q = some x ∧ g q = none)) (hn : ∀ E g', ¬ Qm (.inr E) g') (kk : ∀ (v : Option Value) (g' : fh_M), Qm (.inl v) g' → (∀ q, g' q ≠ none → g q = none → f q = none ∧ r q = none) → fh_G p l e R s m args below meth c D cl f0 nL Q (ce + mc) (sl + ms) (fh_ov g' f) (pc + 3) lv (v.toList ++ st)) : fh_G p l e R s m args below meth c D cl f0 nL Q ce sl f (pc) lv (st0) := fun H locs ls hI hl => by
  subst hs
  have hP := fh_pre (As := As) X hI hg (fun q y h => (hrx q y h).elim Or.inr (fun z => Or.inl z.1)) (fh_disF X hI hg hrx)
  intro T hT X9
  have hy : y.cls ≠ "java/lang/invoke/MethodHandle" ∧ y.cls ≠ "java/lang/invoke/VarHandle" := ⟨hd.1, hd.2.1⟩
  obtain ⟨mk, methM, cM, hnamed, hmethM, -, -, -, -, -, -, hsigM⟩ := Cond.codeWith_spec (X.words _ hcode)
  have hstM : methM.isStatic = true := Cond.static_spec hnamed hmethM (X.words _ hstt)
  obtain ⟨kP, hkP, -⟩ := className_of_methodNamed hnamed
  have hkPi : kP.init = .initialized := Cond.initialized_spec (findClass_of_methodNamed hnamed) hkP (X.words _ hini)
  have d' : decode c.code pc = .ok (.invokestatic index, 3) := by rw [X.2.1]; exact d
  have hlen : As.length = methM.sig.parameters.length := by
    have h2 := hd.2.2
    rw [hsigM] at h2
    exact (Option.some.inj h2).symm
  obtain ⟨vm₁, X₁, hstep₁⟩ := X9.invokestatic X.1 X.home (X.words _ hlink) hnamed hmethM hstM hkP hkPi hy (g := F0 m pc ls (As.reverse ++ st)) rfl (argsL := As) (rest := st) hlen rfl d'
  have hU : (T.setVm vm₁).heap = H := hT
  have hW1 : s.WarmedH (T.setVm vm₁).vm := X₁.warmed
  have hn1 := X₁.named hnamed
  have hcd : (Cond.codeWith y bytes maxL ret hh).before As.toArray (T.setVm vm₁) = true := fh_okw_at (X.2.2.2.2.1 _ hcode).1 hW1 (X.words _ hcode)
  have hin : (Cond.initialized y.cls).before As.toArray (T.setVm vm₁) = true := fh_okw_at (X.2.2.2.2.1 _ hini).1 hW1 (X.words _ hini)
  obtain ⟨m8, methY, cY, hn8, hmY, hcY, -, hlY, -⟩ := Cond.codeWith_spec hcd
  cases Option.some.inj (hn8.symm.trans hn1)
  have hPN := hP.1 _ _ (F0 m pc ls st) mk (hP.2 (T.setVm vm₁) hU hW1)
  obtain ⟨o, t, hsteps, hend, ⟨x, g', hq, ho, hW', hF, hdom, hkeep⟩, hwm, L, hsame, hL⟩ := fh_come X₁ (hM D H.size) (mk := mk) (a := As.toArray) (g := F0 m pc ls st) rfl (by rw [X.2.2.1]; exact hl.1) (W9 := 8) (maxL := maxL) d' (lv_room h8) hn1 hmY hcY hlY hin hcd hR.1 hR.2 hcs.1 hcs.2 ⟨hPN.1, hPN.2, hNs s _ (X₁.warmed.alike) hN0⟩
  obtain ⟨hz, hk⟩ := hF
  have hh0 : ((T.setVm vm₁).calling (F0 m pc ls st) mk As.toArray).heap = H := hU
  rw [hh0] at hz hk
  cases x with
  | inl v =>
    cases ho
    obtain ⟨T', X', hw9, -, ht⟩ := X₁.outOf (g := F0 m pc ls st) rfl d' hend hwm hsame
    have e1 : T'.heap = t.heap := by rw [ht]; rfl
    have hvm : s.vm.Alike t.vm := by rw [ht]; exact X'.warmed.alike
    obtain ⟨t2, a1, b1⟩ := kk v g' hq (fh_newF X hI hdom) T'.heap (locs ++ L) ls (hI.over hg hvm e1 hW' hz hk hdom hkeep hL) hl T' rfl X'
    exact ⟨t2, hstep₁ _ fun acts => by rw [doInvoke_state]; rw [ht] at hsteps; exact hsteps.trans a1, b1⟩
  | inr E => exact absurd hq (hn E g')
/-- what was thrown is caught -/
theorem g_catch {E name : String} (X : fh_X p l s m args meth c D cl Ts f0 r own cc nL) (pre : List ExceptionTableEntry) (x : ExceptionTableEntry) (suf : List ExceptionTableEntry) (hsplit : c.exceptionTable.toList = pre ++ x :: suf) (hpass : ∀ z ∈ pre, covers z pc = false ∨ (z.catchType ≠ 0 ∧ ∃ nm : String, Cond.classLink own z.catchType nm ∈ Ts ∧ va_Nc E nm s)) (hx : covers x pc = true) (h0 : x.catchType ≠ 0) (hlink : Cond.classLink own x.catchType name ∈ Ts) (hcast : Cond.castable E name ∈ Ts)
    (kk : ∀ q : Nat, fh_G p l e R s m args below meth c D cl f0 nL Q ce sl f x.handlerPc lv [.ref q]) : fh_T p l e R s m args below meth c D cl f0 nL Q E ce sl f pc lv st := by
  intro H locs ls q cell hI hl hcell hvm hcls T hT X9
  have hpl : e.platform.magicAccessors = ({} : Platform).magicAccessors := by rw [X9.admits.platform]
  obtain ⟨c3, c4, hc3, hc4, hasg⟩ := Cond.castable_spec (X.words _ hcast)
  cases Option.some.inj (hc3.symm.trans hcls)
  obtain ⟨c5, hc5, hcl5⟩ := Cond.classLink_spec X.home (X.words _ hlink) e.platform hpl
  cases Option.some.inj (hc4.symm.trans hc5)
  have hk9 : ∃ k, s.vm.classes[cell.cls]? = some k := by
    obtain ⟨k9, h9, -⟩ := Vm.findClass_spec hcls
    exact ⟨k9, h9⟩
  obtain ⟨vm', X', st9⟩ := X9.thenCaughtThrough q (g := F0 m pc ls st) rfl (Steps.refl _) (by rw [hT]; exact hcell) (by rw [hvm]; rfl) hk9 pre x suf hsplit
    (fun z hz => by
      rcases hpass z hz with h | ⟨hz0, nm, hl1, a8, b8, h1, h2, h3⟩
      · exact Or.inl h
      · obtain ⟨c6, hc6, hcl6⟩ := Cond.classLink_spec X.home (X.words _ hl1) e.platform hpl
        cases Option.some.inj (h1.symm.trans hcls)
        cases Option.some.inj (h2.symm.trans hc6)
        exact Or.inr ⟨hz0, _, hcl6, h3⟩) hx (Or.inr ⟨h0, c4, hcl5, hasg⟩)
  obtain ⟨t, a1, b1⟩ := kk q H locs ls hI hl (T.setVm vm') hT X'
  exact ⟨t, st9.trans a1, b1⟩
end LAWR
theorem k_ca_EA : Cond.castable "java/lang/IllegalArgumentException" "java/lang/IllegalArgumentException" ∈ fhT := List.mem_filter.mpr ⟨List.mem_of_getElem? (i := 283) (by decide +kernel), by decide +kernel⟩
theorem k_ca_EU : Cond.castable "java/lang/UnsupportedOperationException" "java/lang/UnsupportedOperationException" ∈ fhT := List.mem_filter.mpr ⟨List.mem_of_getElem? (i := 366) (by decide +kernel), by decide +kernel⟩
theorem k_ca_ES : Cond.castable "java/lang/IllegalStateException" "java/lang/IllegalStateException" ∈ fhT := List.mem_filter.mpr ⟨List.mem_of_getElem? (i := 432) (by decide +kernel), by decide +kernel⟩
theorem k_ca_EI : Cond.castable "java/lang/IndexOutOfBoundsException" "java/lang/IndexOutOfBoundsException" ∈ fhT := List.mem_filter.mpr ⟨List.mem_of_getElem? (i := 681) (by decide +kernel), by decide +kernel⟩
/-- which exceptions are not those of others -/
def lwN (U : State) : Prop := va_Nc nEU nEA U ∧ va_Nc nEU nES U ∧ va_Nc nES nEA U
theorem lwN_s : ∀ U V : State, U.vm.Alike V.vm → lwN U → lwN V := fun _ _ h ⟨a, b, c⟩ => ⟨a.moved h, b.moved h, c.moved h⟩
