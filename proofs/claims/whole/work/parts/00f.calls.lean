/-! calls of methods that return -/
theorem fh_ov_l {g f : fh_M} {q : Nat} {x : fh_E} (h : g q = some x) : fh_ov g f q = some x := by simp [fh_ov, h]
theorem fh_ov_r {g f : fh_M} {q : Nat} (h : g q = none) : fh_ov g f q = f q := by simp [fh_ov, h]
section FHC
variable {p : Program} {l : Launch} {e : Env} {R : Room} {s : State} {m : MethodId} {args : Array Value} {below : List Frame} {meth : Method} {c : Code} {D : va_G} {cl : List vw_C} {Ts : List Cond} {f0 r f : fh_M} {own : String} {cc : ByteArray} {nL : Nat} {Q : State → Prop} {ce sl pc : Nat} {lv : List (Nat × Value)} {st : List Value} {Qm : fh_R → fh_M → Prop} {mc ms : Nat}
/-- behind a call: the callee's cells as it left them, the others as they were -/
theorem fh_I.over {g g' : fh_M} {H : Heap} {locs L : List Loc} {t T' : State} (hI : fh_I D cl s f0 f H locs) (hg : ∀ q x, g q = some x → f q = some x) (hvm : s.vm.Alike t.vm) (e1 : T'.heap = t.heap) (hW : fh_W D cl t g' t.heap) (hz : H.size ≤ t.heap.size) (hk : ∀ q : Nat, q < H.size → ¬ fh_B g H.size q → t.heap[q]? = H[q]?) (hdom : ∀ q, g' q ≠ none → fh_B g H.size q) (hkeep : ∀ q, g q ≠ none → g' q ≠ none) (hL : ∀ q ∈ L, fh_B g H.size q.base) : fh_I D cl s f0 (fh_ov g' f) T'.heap (locs ++ L) := by
  have hgA : ∀ q, fh_B g H.size q → fh_A f0 s q := fun q h => by
    rcases h with h | h
    · cases hq : g q with
      | none => exact absurd hq h
      | some x => exact hI.2.2.1 q (by rw [hg q x hq]; exact fun z => by cases z)
    · exact Or.inr (Nat.le_trans hI.2.1.1 h)
  rw [e1]
  refine ⟨fun b w hw => ?_, ⟨Nat.le_trans hI.2.1.1 hz, fun q h1 h2 => ?_, fun q hq => ?_⟩, fun q hq => ?_, fun q hq => ?_⟩
  · cases hb : g' b with
    | some x =>
      rw [fh_ov_l hb] at hw
      exact (hW b w (hb.trans hw)).moved hvm.symm
    | none =>
      rw [fh_ov_r hb] at hw
      have h0 := hI.1 b w hw
      refine h0.kept (hk b h0.lt (fun h => ?_))
      rcases h with h | h
      · exact hkeep b h hb
      · exact absurd h0.lt (by omega)
  · rw [hk q (Nat.lt_of_lt_of_le h1 hI.2.1.1) (fun h => h2 (hgA q h))]
    exact hI.2.1.2.1 q h1 h2
  · rcases List.mem_append.mp hq with h | h
    · exact hI.2.1.2.2 q h
    · exact hgA _ (hL q h)
  · cases hb : g' q with
    | some x => exact hgA q (hdom q (by rw [hb]; exact fun z => by cases z))
    | none =>
      rw [fh_ov_r hb] at hq
      exact hI.2.2.1 q hq
  · cases hb : g' q with
    | some x => rw [fh_ov_l hb]; exact fun z => by cases z
    | none => rw [fh_ov_r hb]; exact hI.2.2.2 q hq
theorem fh_call {g : fh_M} {H : Heap} {locs : List Loc} {ls : Array Slot} {st0 : List Value} {a : Array Value} (hI : fh_I D cl s f0 f H locs) (hl : lv_has ls nL lv) (hg : ∀ q x, g q = some x → f q = some x)
    (hr : va_Run p l e R s m args below meth c H locs ce sl mc ms (F0 m pc ls st0) st (fh_Q D cl g Qm H.size a) (fh_B g H.size))
    (kk : ∀ (v : Option Value) (g' : fh_M), Qm (.inl v) g' → fh_G p l e R s m args below meth c D cl f0 nL Q (ce + mc) (sl + ms) (fh_ov g' f) (pc + 3) lv (v.toList ++ st)) : W p l e R s m args below meth c H locs ce sl Q (F0 m pc ls st0) := by
  intro T hT X
  obtain ⟨v, st₀, t, T', L, h0, X', hL, e1, e2, ⟨x, g', hq, ho, hW, hF, hdom, hkeep⟩, st9⟩ := hr T hT X
  cases x with
  | inr E =>
    obtain ⟨q, ce9, h1, -⟩ := ho
    cases h1
  | inl v' =>
    have hv : v = v' := by cases ho; rfl
    subst hv
    obtain ⟨hz, hk⟩ := hF
    rw [h0] at hz hk
    have hvm : s.vm.Alike t.vm := by rw [← e2]; exact X'.warmed.alike
    obtain ⟨t2, a1, b1⟩ := kk v g' hq T'.heap (locs ++ L) ls (hI.over hg hvm e1 hW hz hk hdom hkeep hL) hl T' rfl X'
    exact ⟨t2, st9 t2 a1, b1⟩
/-- what the callee asks -/
theorem fh_pre {g rg : fh_M} {H : Heap} {locs : List Loc} {As : List Value} (X : fh_X p l s m args meth c D cl Ts f0 r own cc nL) (hI : fh_I D cl s f0 f H locs) (hg : ∀ q x, g q = some x → f q = some x) (hrg : ∀ q x, rg q = some x → fh_l f r q x) (hdis : ∀ q, rg q ≠ none → g q = none) :
    FrameBlind (fun v U => v = As.toArray ∧ fh_P D cl Ts g rg H.size U) ∧ ∀ U : State, U.heap = H → s.WarmedH U.vm → (As.toArray = As.toArray ∧ fh_P D cl Ts g rg H.size U) := by
  refine ⟨fun a U g9 mk h => ?_, fun U hU hW => ⟨rfl, ?_⟩⟩
  · obtain ⟨h1, h2, h3, h4, h5, h6, h7, h8⟩ := h
    have hvm : U.vm.Alike (U.calling g9 mk a).vm := Vm.Alike.refl U.vm
    exact ⟨h1, h2, fun w hw => ⟨(h3 w hw).1, fun a' => fh_okw_at (h3 w hw).1 (U := U.calling g9 mk a) (State.WarmedH.refl U) ((h3 w hw).2 #[])⟩, va_K.moved hvm h4, fh_W.moved hvm h5, fh_W.moved hvm h6, h7, h8.1.moved hvm, h8.2.moved hvm⟩
  · have hvm := hW.alike
    have hA : ∀ q, g q ≠ none → fh_A f0 s q := fun q h => by
      cases hq : g q with
      | none => exact absurd hq h
      | some x => exact hI.2.2.1 q (by rw [hg q x hq]; exact fun z => by cases z)
    have hZ := X.statics
    refine ⟨by rw [hU], fun w hw => ⟨(X.2.2.2.2.1 w hw).1, fun a' => fh_okw_at (X.2.2.2.2.1 w hw).1 hW ((X.2.2.2.2.1 w hw).2 #[])⟩, va_K.moved hvm X.known, ?_, ?_, hdis, ?_⟩
    · rw [hU]; exact (hI.1.sub hg).moved hvm
    · rw [hU]; exact fun a x hx => (fh_look X hI (hrg a x hx)).moved hvm
    · rw [hU]
      exact ⟨((hZ.1.kept hI.2.1.2.1).narrow (fun q _ => hA q)).moved hvm, ((hZ.2.kept hI.2.1.2.1).narrow (fun q _ => hA q)).moved hvm⟩
theorem fh_C.met {y : MethodName} {w0 : Cond} {fr lo : Nat} {As : List Value} {g rg : fh_M} {sz : Nat} (h : fh_C l cl Ts y w0 fr lo As g rg mc ms Qm) (hn : ∀ E g', ¬ Qm (.inr E) g') : Met l y [w0] (fh_rm fr lo mc ms) (fun v U => v = As.toArray ∧ fh_P D cl Ts g rg sz U) (fh_Q D cl g Qm sz) mc ms (fh_B g sz) :=
  MetFree.mono (h D sz) (fun _ _ h => h) (fun _ _ _ _ _ h => h) (fun a s o t _ ⟨hq, hW, L, hs, hL⟩ => ⟨hq, L, ⟨by
    obtain ⟨x, g', h1, h2, -⟩ := hq
    cases x with
    | inl v => exact ⟨v, h2⟩
    | inr E => exact absurd h1 (hn E g'), hW, hs⟩, hL⟩)
theorem fh_wd {w : Cond} (X : fh_X p l s m args meth c D cl Ts f0 r own cc nL) (h : w ∈ Ts) : ∀ w' ∈ [w], ∀ (a' : Array Value) (U : State), s.WarmedH U.vm → w'.before a' U = true := fun w' hw a' U hW => by
  rw [List.mem_singleton.mp hw]
  exact fh_okw_at (X.2.2.2.2.1 w h).1 hW ((X.2.2.2.2.1 w h).2 #[])
theorem g_callV {index maxL fr lo : Nat} {y : MethodName} {bytes : ByteArray} {ret : Option FieldType} {As : List Value} {g rg : fh_M} {st0 : List Value} {b ci : Nat} {fs : List Value} {qc : vw_C}  (X : fh_X p l s m args meth c D cl Ts f0 r own cc nL) (d : decode cc pc = .ok (.invokevirtual index, 3)) (hM : fh_C l cl Ts y (.code y bytes maxL ret) fr lo (.ref b :: As) g rg mc ms Qm) (hb : fh_l f r b (.inr (ci, fs))) (hc : cl[ci]? = some qc) (hs : st0 = As.reverse ++ .ref b :: st) (hlink : Cond.methodLink own index y ∈ Ts) (hcode : Cond.code y bytes maxL ret ∈ Ts) (hini : Cond.initialized y.cls ∈ Ts) (hinst : Cond.instanceMethod y ∈ Ts) (hsel : Cond.selects qc.1 y y ∈ Ts) (hd : y.cls ≠ "java/lang/invoke/MethodHandle" ∧ y.cls ≠ "java/lang/invoke/VarHandle" ∧ (parseMethodDescriptor y.desc).map (fun d => d.parameters.length) = some As.length) (hR : fr + 1 ≤ R.frames ∧ 8 + (maxL + 11) + lo ≤ R.locals) (hcs : ce + mc ≤ R.cells ∧ sl + ms ≤ R.slots) (h8 : (st.map fun v => v.category).sum ≤ 8) (hg : ∀ q x, g q = some x → f q = some x) (hrg : ∀ q x, rg q = some x → fh_l f r q x) (hdis : ∀ q, rg q ≠ none → g q = none) (hn : ∀ E g', ¬ Qm (.inr E) g') (kk : ∀ (v : Option Value) (g' : fh_M), Qm (.inl v) g' → fh_G p l e R s m args below meth c D cl f0 nL Q (ce + mc) (sl + ms) (fh_ov g' f) (pc + 3) lv (v.toList ++ st)) : fh_G p l e R s m args below meth c D cl f0 nL Q ce sl f (pc) lv (st0) := fun H locs ls hI hl => by
  subst hs
  have hP := fh_pre (As := .ref b :: As) X hI hg hrg hdis
  obtain ⟨r9, hr9, cell, g1, g2, g3, -⟩ := fh_look X hI hb
  have hrc : r9 = qc := Option.some.inj (hr9.symm.trans hc)
  have hrec : ∃ cellB : Cell, H[b]? = some cellB ∧ cellB.vm.isStatics = false ∧ s.vm.findClass qc.1 = some cellB.cls := ⟨cell, g1, by rw [g3]; rfl, by rw [g2]; exact (X.known.1 ci qc hc).2.1⟩
  exact fh_call hI hl hg (va_runV (As := As) (rest := st) ⟨X.1, X.2.1, X.2.2.1, X.home, X.words⟩ (hM.met (D := D) (sz := H.size) hn) ⟨⟨rfl, rfl, hR.1, hR.2, fh_wd X hcode, List.mem_singleton.mpr rfl, X.words _ hcode, X.words _ hini, ⟨hd.1, hd.2.1⟩, fun sig h => by have h2 := hd.2.2; rw [h] at h2; exact (Option.some.inj h2).symm, X.words _ hlink⟩, X.words _ hinst, X.words _ hsel⟩ ⟨hP.1, hrec, hP.2⟩ rfl rfl hl.1 rfl (lv_room h8) d hcs) kk
theorem g_callVN {index maxL fr lo : Nat} {y : MethodName} {bytes : ByteArray} {ret : Option FieldType} {As : List Value} {g rg : fh_M} {st0 : List Value} {b ci : Nat} {fs : List Value} {qc : vw_C} {host : String} (X : fh_X p l s m args meth c D cl Ts f0 r own cc nL) (d : decode cc pc = .ok (.invokevirtual index, 3)) (hM : fh_C l cl Ts y (.code y bytes maxL ret) fr lo (.ref b :: As) g rg mc ms Qm) (hb : fh_l f r b (.inr (ci, fs))) (hc : cl[ci]? = some qc) (hs : st0 = As.reverse ++ .ref b :: st) (hlink : Cond.methodLinkNest own index y host ∈ Ts) (hcode : Cond.code y bytes maxL ret ∈ Ts) (hini : Cond.initialized y.cls ∈ Ts) (hinst : Cond.instanceMethod y ∈ Ts) (hsel : Cond.selects qc.1 y y ∈ Ts) (hd : y.cls ≠ "java/lang/invoke/MethodHandle" ∧ y.cls ≠ "java/lang/invoke/VarHandle" ∧ (parseMethodDescriptor y.desc).map (fun d => d.parameters.length) = some As.length) (hR : fr + 1 ≤ R.frames ∧ 8 + (maxL + 11) + lo ≤ R.locals) (hcs : ce + mc ≤ R.cells ∧ sl + ms ≤ R.slots) (h8 : (st.map fun v => v.category).sum ≤ 8) (hg : ∀ q x, g q = some x → f q = some x) (hrg : ∀ q x, rg q = some x → fh_l f r q x) (hdis : ∀ q, rg q ≠ none → g q = none) (hn : ∀ E g', ¬ Qm (.inr E) g') (kk : ∀ (v : Option Value) (g' : fh_M), Qm (.inl v) g' → fh_G p l e R s m args below meth c D cl f0 nL Q (ce + mc) (sl + ms) (fh_ov g' f) (pc + 3) lv (v.toList ++ st)) : fh_G p l e R s m args below meth c D cl f0 nL Q ce sl f (pc) lv (st0) := fun H locs ls hI hl => by
  subst hs
  have hP := fh_pre (As := .ref b :: As) X hI hg hrg hdis
  obtain ⟨r9, hr9, cell, g1, g2, g3, -⟩ := fh_look X hI hb
  have hrc : r9 = qc := Option.some.inj (hr9.symm.trans hc)
  have hrec : ∃ cellB : Cell, H[b]? = some cellB ∧ cellB.vm.isStatics = false ∧ s.vm.findClass qc.1 = some cellB.cls := ⟨cell, g1, by rw [g3]; rfl, by rw [g2]; exact (X.known.1 ci qc hc).2.1⟩
  exact fh_call hI hl hg (va_runVN (As := As) (rest := st) ⟨X.1, X.2.1, X.2.2.1, X.home, X.words⟩ (hM.met (D := D) (sz := H.size) hn) ⟨⟨⟨rfl, rfl, hR.1, hR.2, fh_wd X hcode, List.mem_singleton.mpr rfl⟩, X.words _ hcode, X.words _ hini, ⟨hd.1, hd.2.1⟩, fun sig h => by have h2 := hd.2.2; rw [h] at h2; exact (Option.some.inj h2).symm, X.words _ hlink⟩, X.words _ hinst, X.words _ hsel⟩ ⟨hP.1, hrec, hP.2⟩ rfl rfl hl.1 rfl (lv_room h8) d hcs) kk
theorem g_callS {index maxL fr lo : Nat} {y : MethodName} {bytes : ByteArray} {ret : Option FieldType} {As : List Value} {g rg : fh_M} {st0 : List Value}  (X : fh_X p l s m args meth c D cl Ts f0 r own cc nL) (d : decode cc pc = .ok (.invokestatic index, 3)) (hM : fh_C l cl Ts y (.code y bytes maxL ret) fr lo (As) g rg mc ms Qm)  (hs : st0 = As.reverse ++ st) (hlink : Cond.methodLink own index y ∈ Ts) (hcode : Cond.code y bytes maxL ret ∈ Ts) (hini : Cond.initialized y.cls ∈ Ts) (hstt : Cond.static y ∈ Ts) (hd : y.cls ≠ "java/lang/invoke/MethodHandle" ∧ y.cls ≠ "java/lang/invoke/VarHandle" ∧ (parseMethodDescriptor y.desc).map (fun d => d.parameters.length) = some As.length) (hR : fr + 1 ≤ R.frames ∧ 8 + (maxL + 11) + lo ≤ R.locals) (hcs : ce + mc ≤ R.cells ∧ sl + ms ≤ R.slots) (h8 : (st.map fun v => v.category).sum ≤ 8) (hg : ∀ q x, g q = some x → f q = some x) (hrg : ∀ q x, rg q = some x → fh_l f r q x) (hdis : ∀ q, rg q ≠ none → g q = none) (hn : ∀ E g', ¬ Qm (.inr E) g') (kk : ∀ (v : Option Value) (g' : fh_M), Qm (.inl v) g' → fh_G p l e R s m args below meth c D cl f0 nL Q (ce + mc) (sl + ms) (fh_ov g' f) (pc + 3) lv (v.toList ++ st)) : fh_G p l e R s m args below meth c D cl f0 nL Q ce sl f (pc) lv (st0) := fun H locs ls hI hl => by
  subst hs
  have hP := fh_pre (As := As) X hI hg hrg hdis
  exact fh_call hI hl hg (va_runS (As := As) (rest := st) ⟨X.1, X.2.1, X.2.2.1, X.home, X.words⟩ (hM.met (D := D) (sz := H.size) hn) ⟨⟨rfl, rfl, hR.1, hR.2, fh_wd X hcode, List.mem_singleton.mpr rfl, X.words _ hcode, X.words _ hini, ⟨hd.1, hd.2.1⟩, fun sig h => by have h2 := hd.2.2; rw [h] at h2; exact (Option.some.inj h2).symm, X.words _ hlink⟩, X.words _ hstt⟩ hP rfl rfl hl.1 rfl (lv_room h8) d hcs) kk
theorem g_callSN {index maxL fr lo : Nat} {y : MethodName} {bytes : ByteArray} {ret : Option FieldType} {As : List Value} {g rg : fh_M} {st0 : List Value} {host : String} (X : fh_X p l s m args meth c D cl Ts f0 r own cc nL) (d : decode cc pc = .ok (.invokestatic index, 3)) (hM : fh_C l cl Ts y (.code y bytes maxL ret) fr lo (As) g rg mc ms Qm)  (hs : st0 = As.reverse ++ st) (hlink : Cond.methodLinkNest own index y host ∈ Ts) (hcode : Cond.code y bytes maxL ret ∈ Ts) (hini : Cond.initialized y.cls ∈ Ts) (hstt : Cond.static y ∈ Ts) (hd : y.cls ≠ "java/lang/invoke/MethodHandle" ∧ y.cls ≠ "java/lang/invoke/VarHandle" ∧ (parseMethodDescriptor y.desc).map (fun d => d.parameters.length) = some As.length) (hR : fr + 1 ≤ R.frames ∧ 8 + (maxL + 11) + lo ≤ R.locals) (hcs : ce + mc ≤ R.cells ∧ sl + ms ≤ R.slots) (h8 : (st.map fun v => v.category).sum ≤ 8) (hg : ∀ q x, g q = some x → f q = some x) (hrg : ∀ q x, rg q = some x → fh_l f r q x) (hdis : ∀ q, rg q ≠ none → g q = none) (hn : ∀ E g', ¬ Qm (.inr E) g') (kk : ∀ (v : Option Value) (g' : fh_M), Qm (.inl v) g' → fh_G p l e R s m args below meth c D cl f0 nL Q (ce + mc) (sl + ms) (fh_ov g' f) (pc + 3) lv (v.toList ++ st)) : fh_G p l e R s m args below meth c D cl f0 nL Q ce sl f (pc) lv (st0) := fun H locs ls hI hl => by
  subst hs
  have hP := fh_pre (As := As) X hI hg hrg hdis
  exact fh_call hI hl hg (va_runSN (As := As) (rest := st) ⟨X.1, X.2.1, X.2.2.1, X.home, X.words⟩ (hM.met (D := D) (sz := H.size) hn) ⟨⟨⟨rfl, rfl, hR.1, hR.2, fh_wd X hcode, List.mem_singleton.mpr rfl⟩, X.words _ hcode, X.words _ hini, ⟨hd.1, hd.2.1⟩, fun sig h => by have h2 := hd.2.2; rw [h] at h2; exact (Option.some.inj h2).symm, X.words _ hlink⟩, X.words _ hstt, trivial⟩ hP rfl rfl hl.1 rfl (lv_room h8) d hcs) kk
theorem g_callI {index maxL fr lo : Nat} {y : MethodName} {bytes : ByteArray} {As : List Value} {g rg : fh_M} {st0 : List Value}  {b : Nat} (X : fh_X p l s m args meth c D cl Ts f0 r own cc nL) (d : decode cc pc = .ok (.invokespecial index, 3)) (hM : fh_C l cl Ts y (.code y bytes maxL none) fr lo (.ref b :: As) g rg mc ms Qm) (hs : st0 = As.reverse ++ .ref b :: st) (hlink : Cond.methodLink own index y ∈ Ts) (hcode : Cond.code y bytes maxL none ∈ Ts) (hini : Cond.initialized y.cls ∈ Ts) (hinst : Cond.instanceMethod y ∈ Ts) (hnm : y.name = "<init>") (hd : y.cls ≠ "java/lang/invoke/MethodHandle" ∧ y.cls ≠ "java/lang/invoke/VarHandle" ∧ (parseMethodDescriptor y.desc).map (fun d => d.parameters.length) = some As.length) (hR : fr + 1 ≤ R.frames ∧ 8 + (maxL + 11) + lo ≤ R.locals) (hcs : ce + mc ≤ R.cells ∧ sl + ms ≤ R.slots) (h8 : (st.map fun v => v.category).sum ≤ 8) (hg : ∀ q x, g q = some x → f q = some x) (hrg : ∀ q x, rg q = some x → fh_l f r q x) (hdis : ∀ q, rg q ≠ none → g q = none) (hn : ∀ E g', ¬ Qm (.inr E) g') (kk : ∀ (v : Option Value) (g' : fh_M), Qm (.inl v) g' → fh_G p l e R s m args below meth c D cl f0 nL Q (ce + mc) (sl + ms) (fh_ov g' f) (pc + 3) lv (v.toList ++ st)) : fh_G p l e R s m args below meth c D cl f0 nL Q ce sl f (pc) lv (st0) := fun H locs ls hI hl => by
  subst hs
  have hP := fh_pre (As := .ref b :: As) X hI hg hrg hdis
  exact fh_call hI hl hg (va_runI (As := As) (rest := st) ⟨X.1, X.2.1, X.2.2.1, X.home, X.words⟩ (hM.met (D := D) (sz := H.size) hn) ⟨⟨rfl, rfl, hR.1, hR.2, fh_wd X hcode, List.mem_singleton.mpr rfl, X.words _ hcode, X.words _ hini, ⟨hd.1, hd.2.1⟩, fun sig h => by have h2 := hd.2.2; rw [h] at h2; exact (Option.some.inj h2).symm, X.words _ hlink⟩, hnm, X.words _ hinst⟩ hP rfl rfl hl.1 rfl (lv_room h8) d hcs) kk
theorem g_callIN {index maxL fr lo : Nat} {y : MethodName} {bytes : ByteArray} {As : List Value} {g rg : fh_M} {st0 : List Value} {host : String} {b : Nat} (X : fh_X p l s m args meth c D cl Ts f0 r own cc nL) (d : decode cc pc = .ok (.invokespecial index, 3)) (hM : fh_C l cl Ts y (.code y bytes maxL none) fr lo (.ref b :: As) g rg mc ms Qm) (hs : st0 = As.reverse ++ .ref b :: st) (hlink : Cond.methodLinkNest own index y host ∈ Ts) (hcode : Cond.code y bytes maxL none ∈ Ts) (hini : Cond.initialized y.cls ∈ Ts) (hinst : Cond.instanceMethod y ∈ Ts) (hnm : y.name = "<init>") (hd : y.cls ≠ "java/lang/invoke/MethodHandle" ∧ y.cls ≠ "java/lang/invoke/VarHandle" ∧ (parseMethodDescriptor y.desc).map (fun d => d.parameters.length) = some As.length) (hR : fr + 1 ≤ R.frames ∧ 8 + (maxL + 11) + lo ≤ R.locals) (hcs : ce + mc ≤ R.cells ∧ sl + ms ≤ R.slots) (h8 : (st.map fun v => v.category).sum ≤ 8) (hg : ∀ q x, g q = some x → f q = some x) (hrg : ∀ q x, rg q = some x → fh_l f r q x) (hdis : ∀ q, rg q ≠ none → g q = none) (hn : ∀ E g', ¬ Qm (.inr E) g') (kk : ∀ (v : Option Value) (g' : fh_M), Qm (.inl v) g' → fh_G p l e R s m args below meth c D cl f0 nL Q (ce + mc) (sl + ms) (fh_ov g' f) (pc + 3) lv (v.toList ++ st)) : fh_G p l e R s m args below meth c D cl f0 nL Q ce sl f (pc) lv (st0) := fun H locs ls hI hl => by
  subst hs
  have hP := fh_pre (As := .ref b :: As) X hI hg hrg hdis
  exact fh_call hI hl hg (va_runIN (As := As) (rest := st) ⟨X.1, X.2.1, X.2.2.1, X.home, X.words⟩ (hM.met (D := D) (sz := H.size) hn) ⟨⟨⟨rfl, rfl, hR.1, hR.2, fh_wd X hcode, List.mem_singleton.mpr rfl⟩, X.words _ hcode, X.words _ hini, ⟨hd.1, hd.2.1⟩, fun sig h => by have h2 := hd.2.2; rw [h] at h2; exact (Option.some.inj h2).symm, X.words _ hlink⟩, hnm, X.words _ hinst⟩ hP rfl rfl hl.1 rfl (lv_room h8) d hcs) kk
theorem g_callU {index maxL fr lo : Nat} {y : MethodName} {bytes : ByteArray} {ret : Option FieldType} {As : List Value} {g rg : fh_M} {st0 : List Value} {x : MethodName} {owner : String} {b ci : Nat} {fs : List Value} {qc : vw_C} (X : fh_X p l s m args meth c D cl Ts f0 r own cc nL) (d : decode cc pc = .ok (.invokevirtual index, 3)) (hM : fh_C l cl Ts y (.code y bytes maxL ret) fr lo (.ref b :: As) g rg mc ms Qm) (hb : fh_l f r b (.inr (ci, fs))) (hc : cl[ci]? = some qc) (hs : st0 = As.reverse ++ .ref b :: st) (hlink : Cond.methodLink own index x ∈ Ts) (hsm : Cond.sameMethod x.cls owner x.name x.desc ∈ Ts) (hdecl : va_Decl s ⟨owner, x.name, x.desc⟩) (hcode : Cond.code y bytes maxL ret ∈ Ts) (hini : Cond.initialized y.cls ∈ Ts) (hinst : Cond.instanceMethod y ∈ Ts) (hsel : Cond.selects qc.1 x y ∈ Ts) (hd : owner ≠ "java/lang/invoke/MethodHandle" ∧ owner ≠ "java/lang/invoke/VarHandle" ∧ (parseMethodDescriptor x.desc).map (fun d => d.parameters.length) = some As.length) (hR : fr + 1 ≤ R.frames ∧ 8 + (maxL + 11) + lo ≤ R.locals) (hcs : ce + mc ≤ R.cells ∧ sl + ms ≤ R.slots) (h8 : (st.map fun v => v.category).sum ≤ 8) (hg : ∀ q x, g q = some x → f q = some x) (hrg : ∀ q x, rg q = some x → fh_l f r q x) (hdis : ∀ q, rg q ≠ none → g q = none) (hn : ∀ E g', ¬ Qm (.inr E) g') (kk : ∀ (v : Option Value) (g' : fh_M), Qm (.inl v) g' → fh_G p l e R s m args below meth c D cl f0 nL Q (ce + mc) (sl + ms) (fh_ov g' f) (pc + 3) lv (v.toList ++ st)) : fh_G p l e R s m args below meth c D cl f0 nL Q ce sl f (pc) lv (st0) := fun H locs ls hI hl => by
  subst hs
  have hP := fh_pre (As := .ref b :: As) X hI hg hrg hdis
  obtain ⟨r9, hr9, cell, g1, g2, g3, -⟩ := fh_look X hI hb
  have hrec : ∃ cellB : Cell, H[b]? = some cellB ∧ cellB.vm.isStatics = false ∧ s.vm.findClass qc.1 = some cellB.cls := ⟨cell, g1, by rw [g3]; rfl, by rw [g2]; exact (X.known.1 ci qc hc).2.1⟩
  exact fh_call hI hl hg (va_runU (As := As) (rest := st) ⟨X.1, X.2.1, X.2.2.1, X.home, X.words⟩ (hM.met (D := D) (sz := H.size) hn) ⟨⟨rfl, rfl, hR.1, hR.2, fh_wd X hcode, List.mem_singleton.mpr rfl⟩, X.words _ hcode, X.words _ hini, ⟨hd.1, hd.2.1⟩, fun sig h => by have h2 := hd.2.2; rw [h] at h2; exact (Option.some.inj h2).symm, X.words _ hlink, X.words _ hsm, hdecl, X.words _ hsel, X.words _ hinst⟩ ⟨hP.1, hrec, hP.2⟩ rfl rfl hl.1 rfl (lv_room h8) d hcs) kk
end FHC
