/-! METHODS THAT THROW (launches without stack traces). The walk of 'throw new E(text)' is the library's ctorThrowS; it is asked from the state as it now stands (fh_base), so that the cells written so far stay known. -/
def fh_T (p : Program) (l : Launch) (e : Env) (R : Room) (s : State) (m : MethodId) (args : Array Value) (below : List Frame) (meth : Method) (c : Code) (D : va_G) (cl : List vw_C) (f0 : fh_M) (nL : Nat) (Q : State → Prop) (E : String) (ce sl : Nat) (f : fh_M) (pc : Nat) (lv : List (Nat × Value)) (st : List Value) : Prop :=
  ∀ (H : Heap) (locs : List Loc) (ls : Array Slot) (q : Addr) (cell : Cell), fh_I D cl s f0 f H locs → lv_has ls nL lv → H[q]? = some cell → cell.vm = .none → s.vm.findClass E = some cell.cls →
    ∀ T : State, T.heap = H → Stand p l e R s m args below meth c T locs ce sl → ∃ t, Steps p.tables e below ((T.setTop (F0 m pc ls st)).pushFrame (.throwing q)) t ∧ Q t
def fh_stW : List Cond := [.isRef (.static "java/lang/Throwable" "UNASSIGNED_STACK" "[Ljava/lang/StackTraceElement;"), .isRef (.static "java/lang/Throwable" "SUPPRESSED_SENTINEL" "Ljava/util/List;"), .laysStatic "java/lang/Throwable" "UNASSIGNED_STACK" "[Ljava/lang/StackTraceElement;", .laysStatic "java/lang/Throwable" "SUPPRESSED_SENTINEL" "Ljava/util/List;"]
theorem fh_stW_at {A : Nat → Prop} {U : State} {args : Array Value} (h : fh_Z A U U.heap) : ∀ w ∈ fh_stW, w.before args U = true := by
  intro w hw
  simp only [fh_stW, List.mem_cons, List.not_mem_nil, or_false] at hw
  rcases hw with rfl | rfl | rfl | rfl
  · exact h.1.isRef
  · exact h.2.isRef
  · exact h.1.lays
  · exact h.2.lays
section FHT
variable {p : Program} {l : Launch} {e : Env} {R : Room} {s : State} {m : MethodId} {args : Array Value} {below : List Frame} {meth : Method} {c : Code} {D : va_G} {cl : List vw_C} {Ts : List Cond} {f0 r f : fh_M} {own : String} {cc : ByteArray} {nL : Nat} {Q : State → Prop} {ce sl pc : Nat} {lv : List (Nat × Value)} {st : List Value} {Qm : fh_R → fh_M → Prop} {mc ms : Nat}
theorem fh_noH (h : c.exceptionTable.isEmpty = true) (pc : Nat) : ∀ x ∈ c.exceptionTable.toList, covers x pc = false := by
  have h1 : c.exceptionTable.toList = [] := by
    have h0 : c.exceptionTable.size = 0 := by simpa [Array.isEmpty] using h
    exact List.eq_nil_of_length_eq_zero (by simpa using h0)
  intro x hx
  rw [h1] at hx
  cases hx
/-- the exception leaves the method -/
theorem g_out {E : String} (X : fh_X p l s m args meth c D cl Ts f0 r own cc nL) (hno : c.exceptionTable.isEmpty = true) (hc : ce ≤ mc) (hs : sl ≤ ms) (hq : Qm (.inr E) f) : fh_T p l e R s m args below meth c D cl f0 nL (fh_MQ below D cl f0 Qm args s mc ms) E ce sl f pc lv st := by
  intro H locs ls q cell hI hl hcell hvm hcls T hT X9
  obtain ⟨hwalk, hrun, hend, hW, hsame⟩ := X9.leaveThrown q (g := F0 m pc ls st) rfl rfl rfl (fh_noH hno pc) X.free
  have hheap : (T.setFrames (.throwing q :: below)).heap = H := hT
  refine ⟨_, hwalk, .threw q, hrun, hend, ⟨.inr E, f, hq, ⟨q, cell, rfl, by rw [hheap]; exact hcell, hvm, by rw [hW.alike.findClass]; exact hcls⟩, by rw [hheap]; exact hI.1.moved hW.alike, ⟨by rw [hheap]; exact hI.2.1.1, fun z a b => by rw [hheap]; exact hI.2.1.2.1 z a b⟩, hI.2.2.1, hI.2.2.2⟩, hW, locs, hsame.mono hc hs, hI.2.1.2.2⟩
/-- the walk as one that begins here: a Stand over the state as it now is -/
theorem fh_base {T : State} {locs : List Loc} (X : Stand p l e R s m args below meth c T locs ce sl) {R' : Room} (hf : R'.frames ≤ R.frames) (hl : R'.locals ≤ R.locals) (hc : ce + R'.cells ≤ R.cells) (hs : sl + R'.slots ≤ R.slots) :
    Stand p l e R' ((T.setVm s.vm).setFrames (.invoking m args :: below)) m args below meth c T [] 0 0 := by
  obtain ⟨g₀, hr⟩ := X.frames_eq
  obtain ⟨th, hth, -⟩ := State.frames_cons hr
  have hcur : T.cur < T.threads.size := State.cur_lt_of_frames hr
  have hF : ((T.setVm s.vm).setFrames (.invoking m args :: below)).frames = .invoking m args :: below := State.frames_setFrames _ hcur
  have e1 : e.platform.stackLimits ((T.setVm s.vm).setFrames (.invoking m args :: below)).me = e.platform.stackLimits T.me := by rw [State.stackLimits_setFrames]; rfl
  have e2 : ((T.setVm s.vm).setFrames (.invoking m args :: below)).me.stackBytes = T.me.stackBytes := by rw [State.stackBytes_setFrames]; rfl
  have hroom : ((T.setVm s.vm).setFrames (.invoking m args :: below)).hasRoom e.platform R' = true := by
    have h := X.room
    have hu : ((T.setVm s.vm).setFrames (.invoking m args :: below)).localsInUse = s.localsInUse :=
      (State.localsInUse_invoking hF (meth := meth) (c := c) X.method X.code).trans (State.localsInUse_invoking X.frames X.method X.code).symm
    have q1 : T.heap.size ≤ s.heap.size + ce := X.heapSize
    have q2 : T.slotsUsed ≤ s.slotsUsed + sl := X.used
    have q3 : (T.setFrames (.invoking m args :: below)).heap.size = T.heap.size := rfl
    simp only [State.hasRoom, Bool.and_eq_true, decide_eq_true_eq, X.frames, List.length_cons] at h
    obtain ⟨⟨⟨⟨h1, h2, h3, h4, h5, h6⟩, h7⟩, h8⟩, h9⟩ := h
    simp only [State.hasRoom, Bool.and_eq_true, decide_eq_true_eq, hF, hu, e1, e2, X.limits, X.bytes, List.length_cons]
    refine ⟨⟨⟨⟨by omega, by omega, by omega, by omega, by omega, h6⟩, ?_⟩, ?_⟩, X.book⟩
    · show T.heap.size + R'.cells ≤ _
      omega
    · show T.slotsUsed + R'.slots ≤ _
      omega
  have hnil : T.heap.toList.drop T.heap.size = [] := List.drop_eq_nil_of_le (Nat.le_of_eq Array.length_toList)
  refine ⟨X.admits, X.cas, X.clock, hF, hroom, X.hears, X.method, X.code, X.here, X.tail, X.warmed, e1.symm, e2.symm, ?_, Nat.le_refl _, Nat.le_refl _, ?_, ?_, fun a c9 h9 => ⟨c9, h9, rfl, rfl, fun _ _ => rfl⟩⟩
  · have hself : (T.setVm s.vm).setFrames (T.setVm s.vm).frames = T.setVm s.vm := State.setFrames_self (s := T.setVm s.vm) hth
    show T.setVm s.vm = { ((T.setVm s.vm).setFrames (.invoking m args :: below)).setFrames (T.setVm s.vm).frames with heap := T.heap, slotsUsed := T.slotsUsed }
    rw [State.setFrames_setFrames, hself]
    rfl
  · show T.slotsUsed = T.slotsUsed + ((T.heap.toList.drop T.heap.size).map (·.slots.size)).sum
    rw [hnil]
    rfl
  · show ((T.heap.toList.drop T.heap.size).map (·.slots.size)).sum ≤ 0
    rw [hnil]
    exact Nat.le_refl _
/-- a call's walk, whatever its end -/
theorem fh_come {y : MethodName} {w0 : Cond} {rm : Room} {Pc : Array Value → State → Prop} {Qx : Array Value → State → Outcome → State → Prop} {T : State} {locs : List Loc} (X : Stand p l e R s m args below meth c T locs ce sl) (hM : MetFree l y (headSpec [w0] rm) Pc (fun _ _ _ _ _ => True) Qx)
    {mk : MethodId} {a : Array Value} {g : JFrame} (hg : g.method = m) (hsize : g.locals.size = c.maxLocals) {ig : Instr} {len W9 maxL : Nat} (hdg : decode c.code g.pc = .ok (ig, len)) (hW : 2 * g.monitorRoom + (g.stack.map fun v => v.category).sum ≤ W9) (hn : T.methodNamed? y = some mk)
    {methY : Method} {cY : Code} (hmY : T.vm.method? mk = some methY) (hcY : methY.code = some cY) (hlY : cY.maxLocals = maxL) (hini : (Cond.initialized y.cls).before a T = true) (hpre : w0.before a T = true)
    (hfr : rm.frames + 1 ≤ R.frames) (hlo : W9 + (maxL + 11) + rm.locals ≤ R.locals) (hce : ce + rm.cells ≤ R.cells) (hsl : sl + rm.slots ≤ R.slots) (hPc : Pc a (T.calling g mk a)) :
    ∃ (o : Outcome) (t : State), Steps p.tables e below (doInvoke e (T.setTop g) [] mk a).1 t ∧ Ended t (.java g :: below) o ∧ Qx a (T.calling g mk a) o t := by
  obtain ⟨kY, hkY, -⟩ := className_of_methodNamed hn
  have hinitY : kY.init = .initialized := Cond.initialized_spec (findClass_of_methodNamed hn) hkY hini
  have h : At T g.method c below := by rw [hg]; exact X.here
  have happ : (headSpec [w0] rm).appliesLoose y e.platform (T.calling g mk a) = true :=
    Spec.appliesLoose_calling (g := g) h hdg hn hkY hinitY (X.room_calling (g := g) (R' := rm) hsize hmY hcY hfr (by rw [hlY]; omega) hce hsl) (atoms_intro (ws := [w0]) fun w hw => by rw [List.mem_singleton.mp hw]; exact hpre)
  have hfr9 : (T.setTop g).frames = [.java g] ++ below := by rw [State.frames_setTop' g h.top, X.tail]; rfl
  obtain ⟨o, t, hsteps, -, hend, hq⟩ := Steps.callFree hM p X.admits X.cas X.clock (acts := []) hfr9 happ hPc trivial
  rw [hfr9] at hend
  exact ⟨o, t, hsteps, hend, hq⟩
/-- a call of a method that may throw -/
theorem g_callX {index maxL fr lo : Nat} {y : MethodName} {bytes : ByteArray} {ret : Option FieldType} {As : List Value} {g rg : fh_M} {st0 : List Value} {b ci : Nat} {fs : List Value} {qc : vw_C} (X : fh_X p l s m args meth c D cl Ts f0 r own cc nL) (d : decode cc pc = .ok (.invokevirtual index, 3)) (hM : fh_C l cl Ts y (.code y bytes maxL ret) fr lo (.ref b :: As) g rg mc ms Qm) (hb : fh_l f r b (.inr (ci, fs))) (hc : cl[ci]? = some qc) (hs : st0 = As.reverse ++ .ref b :: st) (hlink : Cond.methodLink own index y ∈ Ts) (hcode : Cond.code y bytes maxL ret ∈ Ts) (hini : Cond.initialized y.cls ∈ Ts) (hinst : Cond.instanceMethod y ∈ Ts) (hsel : Cond.selects qc.1 y y ∈ Ts) (hd : y.cls ≠ "java/lang/invoke/MethodHandle" ∧ y.cls ≠ "java/lang/invoke/VarHandle" ∧ (parseMethodDescriptor y.desc).map (fun d => d.parameters.length) = some As.length) (hR : fr + 1 ≤ R.frames ∧ 8 + (maxL + 11) + lo ≤ R.locals) (hcs : ce + mc ≤ R.cells ∧ sl + ms ≤ R.slots) (h8 : (st.map fun v => v.category).sum ≤ 8) (hg : ∀ q x, g q = some x → f q = some x) (hrg : ∀ q x, rg q = some x → fh_l f r q x) (hdis : ∀ q, rg q ≠ none → g q = none)
    (kk : ∀ (v : Option Value) (g' : fh_M), Qm (.inl v) g' → fh_G p l e R s m args below meth c D cl f0 nL Q (ce + mc) (sl + ms) (fh_ov g' f) (pc + 3) lv (v.toList ++ st))
    (kx : ∀ (E : String) (g' : fh_M), Qm (.inr E) g' → fh_T p l e R s m args below meth c D cl f0 nL Q E (ce + mc) (sl + ms) (fh_ov g' f) pc lv st) : fh_G p l e R s m args below meth c D cl f0 nL Q ce sl f (pc) lv (st0) := fun H locs ls hI hl => by
  subst hs
  have hP := fh_pre (As := .ref b :: As) X hI hg hrg hdis
  obtain ⟨r9, hr9, cell, g1, g2, g3, -⟩ := fh_look X hI hb
  have hclB : s.vm.findClass qc.1 = some cell.cls := by rw [g2]; exact (X.known.1 ci qc hc).2.1
  intro T hT X9
  have hy : y.cls ≠ "java/lang/invoke/MethodHandle" ∧ y.cls ≠ "java/lang/invoke/VarHandle" := ⟨hd.1, hd.2.1⟩
  obtain ⟨mk, methM, hnamed, hmethM, hstM, habM⟩ := Cond.instanceMethod_spec (X.words _ hinst)
  obtain ⟨methM', cM, hmethM', -, -, -, -, -, -, hsigM⟩ := Cond.code_spec hnamed (X.words _ hcode)
  cases hmethM.symm.trans hmethM'
  obtain ⟨c2, r2, m2, q1, q2, q3, q4, kP, hkP, hkPi⟩ := Cond.selects_spec (X.words _ hsel)
  cases hclB.symm.trans q1
  cases (State.methodFound?_of_named hnamed hy).symm.trans q2
  cases hnamed.symm.trans q3
  have hselP : selectMethod e.platform s.vm cell.cls mk = .method mk := by rw [Launch.admits_selectMethod X9.admits]; exact q4
  have d' : decode c.code pc = .ok (.invokevirtual index, 3) := by rw [X.2.1]; exact d
  have hlen : As.length = methM.sig.parameters.length := by
    have h2 := hd.2.2
    rw [hsigM] at h2
    exact (Option.some.inj h2).symm
  obtain ⟨vm₁, X₁, hstep₁⟩ := X9.invokevirtual X.1 X.home (X.words _ hlink) hnamed hmethM hstM hkP hkPi hy (a := b) (cell := cell) (by rw [hT]; exact g1) (fun z h => by rw [g3] at h; cases h) hselP hmethM habM hkP hkPi (g := F0 m pc ls (As.reverse ++ .ref b :: st)) rfl (argsL := As) (rest := st) hlen rfl d'
  have hU : (T.setVm vm₁).heap = H := hT
  have hW1 : s.WarmedH (T.setVm vm₁).vm := X₁.warmed
  have hn1 := X₁.named hnamed
  have hcd : (Cond.code y bytes maxL ret).before (Value.ref b :: As).toArray (T.setVm vm₁) = true := fh_okw_at (X.2.2.2.2.1 _ hcode).1 hW1 (X.words _ hcode)
  have hin : (Cond.initialized y.cls).before (Value.ref b :: As).toArray (T.setVm vm₁) = true := fh_okw_at (X.2.2.2.2.1 _ hini).1 hW1 (X.words _ hini)
  obtain ⟨methY, cY, hmY, hcY, -, hlY, -, -, -, -⟩ := Cond.code_spec hn1 hcd
  obtain ⟨o, t, hsteps, hend, ⟨x, g', hq, ho, hW', hF, hdom, hkeep⟩, hwm, L, hsame, hL⟩ := fh_come X₁ (hM D H.size) (mk := mk) (a := (Value.ref b :: As).toArray) (g := F0 m pc ls st) rfl (by rw [X.2.2.1]; exact hl.1) (W9 := 8) (maxL := maxL) d' (lv_room h8) hn1 hmY hcY hlY hin hcd hR.1 hR.2 hcs.1 hcs.2 (hP.1 _ _ _ _ (hP.2 (T.setVm vm₁) hU hW1))
  obtain ⟨hz, hk⟩ := hF
  have hh0 : ((T.setVm vm₁).calling (F0 m pc ls st) mk (Value.ref b :: As).toArray).heap = H := hU
  rw [hh0] at hz hk
  cases x with
  | inl v =>
    cases ho
    obtain ⟨T', X', hw9, -, ht⟩ := X₁.outOf (g := F0 m pc ls st) rfl d' hend hwm hsame
    have e1 : T'.heap = t.heap := by rw [ht]; rfl
    have hvm : s.vm.Alike t.vm := by rw [ht]; exact X'.warmed.alike
    obtain ⟨t2, a1, b1⟩ := kk v g' hq T'.heap (locs ++ L) ls (hI.over hg hvm e1 hW' hz hk hdom hkeep hL) hl T' rfl X'
    exact ⟨t2, hstep₁ _ fun acts => by rw [doInvoke_state]; rw [ht] at hsteps; exact hsteps.trans a1, b1⟩
  | inr E =>
    obtain ⟨q, ce9, ho1, hcell, hcv, hcc⟩ := ho
    subst ho1
    obtain ⟨T', X', hw9, -, ht⟩ := X₁.outOfThrown (g := F0 m pc ls st) rfl hend hwm hsame
    have e1 : T'.heap = t.heap := by rw [ht]; rfl
    have hvm : s.vm.Alike t.vm := by rw [ht]; exact X'.warmed.alike
    obtain ⟨t2, a1, b1⟩ := kx E g' hq T'.heap (locs ++ L) ls q ce9 (hI.over hg hvm e1 hW' hz hk hdom hkeep hL) hl (by rw [e1]; exact hcell) hcv (by rw [← hvm.findClass]; exact hcc) T' rfl X'
    exact ⟨t2, hstep₁ _ fun acts => by rw [doInvoke_state]; rw [ht] at hsteps; exact hsteps.trans a1, b1⟩
/-- 'throw new E(text)' -/
theorem g_throwS {cls text : String} {names : List String} {ik is ic : Nat} (X : fh_X p l s m args meth c D cl Ts f0 r own cc nL) (hno : c.exceptionTable.isEmpty = true) (d0 : decode cc pc = .ok (.new ik, 3)) (d3 : decode cc (pc + 3) = .ok (.dup, 1)) (d4 : decode cc (pc + 4) = .ok (.ldc is, 2)) (d6 : decode cc (pc + 6) = .ok (.invokespecial ic, 3)) (d9 : decode cc (pc + 9) = .ok (.athrow, 1))
    (hcls : Bundle.fit cls = true) (hnames : ∀ n ∈ names, Bundle.fit n = true) (hk : Cond.classLink own ik cls ∈ Ts) (hini : Cond.initialized cls ∈ Ts) (hstr : Cond.stringRef own is text ∈ Ts) (hat : ∀ w ∈ Bundle.ownAtoms own ic cls names, w ∈ Ts ∨ w ∈ fh_stW)
    (hRf : names.length + 3 < R.frames) (hRl : (st.map fun v => v.category).sum + (13 * (names.length + 1) + 43) ≤ R.locals) (hRc : ce + 1 ≤ R.cells) (hRs : sl + 6 ≤ R.slots) (hc : ce + 1 ≤ mc) (hs : sl + 6 ≤ ms) (hq : Qm (.inr cls) f) : fh_G p l e R s m args below meth c D cl f0 nL (fh_MQ below D cl f0 Qm args s mc ms) ce sl f (pc) lv (st) := fun H locs ls hI hl => by
  intro T hT X9
  have htr : e.platform.stackTraces = false := (show e.platform.stackTraces = l.stackTraces by rw [X9.admits.platform]).trans X.still
  have Y := fh_base X9 (R' := { frames := R.frames, locals := R.locals, cells := 1, slots := 6 }) (Nat.le_refl _) (Nat.le_refl _) hRc hRs
  obtain ⟨s', hs'⟩ : ∃ z, z = (T.setVm s.vm).setFrames (.invoking m args :: below) := ⟨_, rfl⟩
  rw [← hs'] at Y
  have hvm : s'.vm = s.vm := by rw [hs']; rfl
  have hhp : s'.heap = H := by rw [hs']; exact hT
  have hW0 : s.WarmedH s'.vm := by rw [hvm]; exact State.WarmedH.refl s
  have wd : ∀ w ∈ Ts, w.before args s' = true := fun w hw => fh_okw_at (X.2.2.2.2.1 w hw).1 hW0 (X.words w hw)
  have hZ := X.statics
  have h : ∀ w ∈ Bundle.ownAtoms own ic cls names, w.before args s' = true := fun w hw => by
    rcases hat w hw with h1 | h1
    · exact wd w h1
    · exact fh_stW_at (A := fh_A f0 s) (by rw [hhp]; exact ⟨(hZ.1.kept hI.2.1.2.1).moved hW0.alike, (hZ.2.kept hI.2.1.2.1).moved hW0.alike⟩) w h1
  have hown' : s'.vm.findClass own = some m.cls := by rw [hvm]; exact X.home
  have hins : (Cond.instantiable cls 6).before args s' = true := h _ (by simp [Bundle.ownAtoms])
  obtain ⟨vm₁, cX, kX, hfX, hkX, -, -, X₁, st1⟩ := Y.newCold X.1 (own := own) (C := cls) (index := ik) (n := 6) hown' (wd _ hk) hins (wd _ hini) (g := F0 m pc ls st) rfl (by rw [X.2.1]; exact d0) (Nat.le_refl _) (Nat.le_refl _)
  generalize hT1 : (T.setVm vm₁).pushCell { cls := cX, slots := kX.instanceTypes.map defaultValue, vm := .none } = T1 at X₁ st1
  have hcellA : T1.heap[T.heap.size]? = some (freshCell cX kX) := by rw [← hT1]; exact State.heap_pushCell_size _ _
  have d3' : decode c.code (pc + 3) = .ok (.dup, 1) := by rw [X.2.1]; exact d3
  have d4' : decode c.code (pc + 4) = .ok (.ldc is, 2) := by rw [X.2.1]; exact d4
  have hs9 : (Cond.stringRef own is text).before args s' = true := wd _ hstr
  obtain ⟨-, -, -, sa, -, -, -, -, -, hev⟩ := Cond.stringRef_spec hown' hs9
  have hcat : (Value.ref T.heap.size).category = 1 := rfl
  obtain ⟨U, hsteps, hrun, hend, hW, hsame, ce9, hce, hO⟩ := X₁.ctorThrowS X.1 htr (own := own) (cls := cls) (names := names) (ic := ic) hown' hcls hnames h (fun x hx => nomatch hx) hfX hkX hcellA (by rw [hhp, hT]; exact Nat.le_refl _) (msg := .ref sa) rfl
    (g := { method := m, pc := pc + 6, locals := ls, stack := .ref sa :: .ref T.heap.size :: .ref T.heap.size :: st, locked := none }) rfl (by rw [X.2.2.1]; exact hl.1) rfl rfl (rest := st) rfl (by rw [X.2.1]; exact d6) (by rw [X.2.1]; exact d9) (fh_noH hno _) hRf (by simp only [List.map_cons, List.sum_cons, hcat]; show 2 * 0 + _ + _ ≤ _; omega) X.free
  have hWs : s.WarmedH U.vm := State.WarmedH.trans hW0 hW
  have hold : ∀ q : Nat, q < H.size → U.heap[q]? = H[q]? := fun q hq9 => by
    obtain ⟨c1, k1, k2, k3, k4⟩ := hsame.2.2.2.2.2 q H[q] (by rw [hhp]; exact Array.getElem?_eq_getElem hq9)
    have hsl : c1.slots = (H[q]).slots := Array.ext_getElem? fun i => k4 i (fun hm => nomatch hm)
    have hc1 : c1 = H[q] := by rw [hsl] at k2; exact k2
    have hu : U.heap[q]? = some c1 := k1
    rw [hu, hc1, Array.getElem?_eq_getElem hq9]
  have hbig : H.size ≤ U.heap.size := by have h2 := hsame.2.1; rw [hhp] at h2; exact h2
  have hall : s.sameButNew ({ U with vm := s.vm } : State) locs mc ms := by
    subst hs'
    obtain ⟨e1, e2⟩ := hsame
    rw [State.setFrames_setFrames] at e1
    have h2 : (T.setVm s.vm).sameButNew ({ U with vm := s.vm } : State) [] (0 + 1) (0 + 6) := ⟨e1, e2⟩
    have h3 := X9.same.trans h2
    rw [List.append_nil] at h3
    exact h3.mono hc hs
  refine ⟨U, ?_, .threw T.heap.size, hrun, hend, ⟨.inr cls, f, hq, ⟨T.heap.size, ce9, rfl, hce, hO.vm, by rw [hWs.alike.findClass, ← hvm]; exact hO.cls⟩, fun b w hw => ((hI.1 b w hw).kept (hold b (hI.1 b w hw).lt)).moved hWs.alike, ⟨Nat.le_trans hI.2.1.1 hbig, fun z h1 h2 => (hold z (Nat.lt_of_lt_of_le h1 hI.2.1.1)).trans (hI.2.1.2.1 z h1 h2)⟩, hI.2.2.1, hI.2.2.2⟩, hWs, locs, hall, hI.2.1.2.2⟩
  refine st1 _ ?_
  show Steps p.tables e below (T1.setTop { method := m, pc := pc + 3, locals := ls, stack := .ref T.heap.size :: st, locked := none }) _
  jvm_step X₁.here [X₁.here.top, X.1, d3', Value.category]
  exact X₁.ldcString X.1 (own := own) (text := text) (index := is) (a := sa) hown' hs9 hev (g := { method := m, pc := pc + 4, locals := ls, stack := .ref T.heap.size :: .ref T.heap.size :: st, locked := none }) rfl d4' _ hsteps
end FHT
