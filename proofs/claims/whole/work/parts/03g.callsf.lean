section FHCF
variable {p : Program} {l : Launch} {e : Env} {R : Room} {s : State} {m : MethodId} {args : Array Value} {below : List Frame} {meth : Method} {c : Code} {D : va_G} {cl : List vw_C} {Ts : List Cond} {f0 r f : fh_M} {own : String} {cc : ByteArray} {nL : Nat} {Q : State → Prop} {ce sl pc : Nat} {lv : List (Nat × Value)} {st : List Value} {Qm : fh_R → fh_M → Prop} {mc ms : Nat}
theorem fh_newF {g g' : fh_M} {H : Heap} {locs : List Loc} (X : fh_X p l s m args meth c D cl Ts f0 r own cc nL) (hI : fh_I D cl s f0 f H locs) (hdom : ∀ q, g' q ≠ none → fh_B g H.size q) : ∀ q, g' q ≠ none → g q = none → f q = none ∧ r q = none := by
  intro q hq hg
  have hq2 : H.size ≤ q := by
    rcases hdom q hq with h | h
    · exact absurd hg h
    · exact h
  refine ⟨?_, ?_⟩
  · cases h1 : f q with
    | none => rfl
    | some x => exact absurd (hI.1 q x h1).lt (by omega)
  · cases h1 : r q with
    | none => rfl
    | some x =>
      have h2 := (X.ro q x h1).lt
      have h3 : s.heap.size ≤ H.size := hI.2.1.1
      exact absurd h2 (by omega)
theorem fh_disF {g rg : fh_M} {H : Heap} {locs : List Loc} (X : fh_X p l s m args meth c D cl Ts f0 r own cc nL) (hI : fh_I D cl s f0 f H locs) (hg : ∀ q x, g q = some x → f q = some x) (hrx : ∀ q x, rg q = some x → r q = some x ∨ (f q = some x ∧ g q = none)) : ∀ q, rg q ≠ none → g q = none := by
  intro q hq
  cases h1 : rg q with
  | none => exact absurd h1 hq
  | some y =>
    rcases hrx q y h1 with h3 | h3
    · cases h2 : g q with
      | none => rfl
      | some z => exact absurd (hI.2.2.1 q (by rw [hg q z h2]; exact fun h => by cases h)) (X.apart q (by rw [h3]; exact fun h => by cases h))
    · exact h3.2
theorem fh_callF {g : fh_M} {H : Heap} {locs : List Loc} {ls : Array Slot} {st0 : List Value} {a : Array Value} (X0 : fh_X p l s m args meth c D cl Ts f0 r own cc nL) (hI : fh_I D cl s f0 f H locs) (hl : lv_has ls nL lv) (hg : ∀ q x, g q = some x → f q = some x)
    (hr : va_Run p l e R s m args below meth c H locs ce sl mc ms (F0 m pc ls st0) st (fh_Q D cl g Qm H.size a) (fh_B g H.size))
    (kk : ∀ (v : Option Value) (g' : fh_M), Qm (.inl v) g' → (∀ q, g' q ≠ none → g q = none → f q = none ∧ r q = none) → fh_G p l e R s m args below meth c D cl f0 nL Q (ce + mc) (sl + ms) (fh_ov g' f) (pc + 3) lv (v.toList ++ st)) : W p l e R s m args below meth c H locs ce sl Q (F0 m pc ls st0) := by
  intro T hT X
  obtain ⟨v, st₀, t, T', L, h0, X', hL, e1, e2, ⟨x, g', hq, ho, hW, hF, hdom, hkeep⟩, st9⟩ := hr T hT X
  cases x with
  | inr E =>
    obtain ⟨q, ce9, h1, -⟩ := ho
    cases h1
  | inl v' =>
    have hv : v = v' := by cases ho; rfl
    subst hv
    obtain ⟨hz, hk⟩ := hF
    rw [h0] at hz hk
    have hvm : s.vm.Alike t.vm := by rw [← e2]; exact X'.warmed.alike
    obtain ⟨t2, a1, b1⟩ := kk v g' hq (fh_newF X0 hI hdom) T'.heap (locs ++ L) ls (hI.over hg hvm e1 hW hz hk hdom hkeep hL) hl T' rfl X'
    exact ⟨t2, st9 t2 a1, b1⟩
theorem g_callVf {index maxL fr lo : Nat} {y : MethodName} {bytes : ByteArray} {ret : Option FieldType} {As : List Value} {g rg : fh_M} {st0 : List Value} {b ci : Nat} {fs : List Value} {qc : vw_C}  (X : fh_X p l s m args meth c D cl Ts f0 r own cc nL) (d : decode cc pc = .ok (.invokevirtual index, 3)) (hM : fh_C l cl Ts y (.code y bytes maxL ret) fr lo (.ref b :: As) g rg mc ms Qm) (hb : fh_l f r b (.inr (ci, fs))) (hc : cl[ci]? = some qc) (hs : st0 = As.reverse ++ .ref b :: st) (hlink : Cond.methodLink own index y ∈ Ts) (hcode : Cond.code y bytes maxL ret ∈ Ts) (hini : Cond.initialized y.cls ∈ Ts) (hinst : Cond.instanceMethod y ∈ Ts) (hsel : Cond.selects qc.1 y y ∈ Ts) (hd : y.cls ≠ "java/lang/invoke/MethodHandle" ∧ y.cls ≠ "java/lang/invoke/VarHandle" ∧ (parseMethodDescriptor y.desc).map (fun d => d.parameters.length) = some As.length) (hR : fr + 1 ≤ R.frames ∧ 8 + (maxL + 11) + lo ≤ R.locals) (hcs : ce + mc ≤ R.cells ∧ sl + ms ≤ R.slots) (h8 : (st.map fun v => v.category).sum ≤ 8) (hg : ∀ q x, g q = some x → f q = some x) (hrx : ∀ q x, rg q = some x → r q = some x ∨ (f q = some x ∧ g q = none)) (hn : ∀ E g', ¬ Qm (.inr E) g') (kk : ∀ (v : Option Value) (g' : fh_M), Qm (.inl v) g' → (∀ q, g' q ≠ none → g q = none → f q = none ∧ r q = none) → fh_G p l e R s m args below meth c D cl f0 nL Q (ce + mc) (sl + ms) (fh_ov g' f) (pc + 3) lv (v.toList ++ st)) : fh_G p l e R s m args below meth c D cl f0 nL Q ce sl f (pc) lv (st0) := fun H locs ls hI hl => by
  subst hs
  have hP := fh_pre (As := .ref b :: As) X hI hg (fun q y h => (hrx q y h).elim Or.inr (fun z => Or.inl z.1)) (fh_disF X hI hg hrx)
  obtain ⟨r9, hr9, cell, g1, g2, g3, -⟩ := fh_look X hI hb
  have hrc : r9 = qc := Option.some.inj (hr9.symm.trans hc)
  have hrec : ∃ cellB : Cell, H[b]? = some cellB ∧ cellB.vm.isStatics = false ∧ s.vm.findClass qc.1 = some cellB.cls := ⟨cell, g1, by rw [g3]; rfl, by rw [g2]; exact (X.known.1 ci qc hc).2.1⟩
  exact fh_callF X hI hl hg (va_runV (As := As) (rest := st) ⟨X.1, X.2.1, X.2.2.1, X.home, X.words⟩ (hM.met (D := D) (sz := H.size) hn) ⟨⟨rfl, rfl, hR.1, hR.2, fh_wd X hcode, List.mem_singleton.mpr rfl, X.words _ hcode, X.words _ hini, ⟨hd.1, hd.2.1⟩, fun sig h => by have h2 := hd.2.2; rw [h] at h2; exact (Option.some.inj h2).symm, X.words _ hlink⟩, X.words _ hinst, X.words _ hsel⟩ ⟨hP.1, hrec, hP.2⟩ rfl rfl hl.1 rfl (lv_room h8) d hcs) kk
theorem g_callVNf {index maxL fr lo : Nat} {y : MethodName} {bytes : ByteArray} {ret : Option FieldType} {As : List Value} {g rg : fh_M} {st0 : List Value} {b ci : Nat} {fs : List Value} {qc : vw_C} {host : String} (X : fh_X p l s m args meth c D cl Ts f0 r own cc nL) (d : decode cc pc = .ok (.invokevirtual index, 3)) (hM : fh_C l cl Ts y (.code y bytes maxL ret) fr lo (.ref b :: As) g rg mc ms Qm) (hb : fh_l f r b (.inr (ci, fs))) (hc : cl[ci]? = some qc) (hs : st0 = As.reverse ++ .ref b :: st) (hlink : Cond.methodLinkNest own index y host ∈ Ts) (hcode : Cond.code y bytes maxL ret ∈ Ts) (hini : Cond.initialized y.cls ∈ Ts) (hinst : Cond.instanceMethod y ∈ Ts) (hsel : Cond.selects qc.1 y y ∈ Ts) (hd : y.cls ≠ "java/lang/invoke/MethodHandle" ∧ y.cls ≠ "java/lang/invoke/VarHandle" ∧ (parseMethodDescriptor y.desc).map (fun d => d.parameters.length) = some As.length) (hR : fr + 1 ≤ R.frames ∧ 8 + (maxL + 11) + lo ≤ R.locals) (hcs : ce + mc ≤ R.cells ∧ sl + ms ≤ R.slots) (h8 : (st.map fun v => v.category).sum ≤ 8) (hg : ∀ q x, g q = some x → f q = some x) (hrx : ∀ q x, rg q = some x → r q = some x ∨ (f q = some x ∧ g q = none)) (hn : ∀ E g', ¬ Qm (.inr E) g') (kk : ∀ (v : Option Value) (g' : fh_M), Qm (.inl v) g' → (∀ q, g' q ≠ none → g q = none → f q = none ∧ r q = none) → fh_G p l e R s m args below meth c D cl f0 nL Q (ce + mc) (sl + ms) (fh_ov g' f) (pc + 3) lv (v.toList ++ st)) : fh_G p l e R s m args below meth c D cl f0 nL Q ce sl f (pc) lv (st0) := fun H locs ls hI hl => by
  subst hs
  have hP := fh_pre (As := .ref b :: As) X hI hg (fun q y h => (hrx q y h).elim Or.inr (fun z => Or.inl z.1)) (fh_disF X hI hg hrx)
  obtain ⟨r9, hr9, cell, g1, g2, g3, -⟩ := fh_look X hI hb
  have hrc : r9 = qc := Option.some.inj (hr9.symm.trans hc)
  have hrec : ∃ cellB : Cell, H[b]? = some cellB ∧ cellB.vm.isStatics = false ∧ s.vm.findClass qc.1 = some cellB.cls := ⟨cell, g1, by rw [g3]; rfl, by rw [g2]; exact (X.known.1 ci qc hc).2.1⟩
  exact fh_callF X hI hl hg (va_runVN (As := As) (rest := st) ⟨X.1, X.2.1, X.2.2.1, X.home, X.words⟩ (hM.met (D := D) (sz := H.size) hn) ⟨⟨⟨rfl, rfl, hR.1, hR.2, fh_wd X hcode, List.mem_singleton.mpr rfl⟩, X.words _ hcode, X.words _ hini, ⟨hd.1, hd.2.1⟩, fun sig h => by have h2 := hd.2.2; rw [h] at h2; exact (Option.some.inj h2).symm, X.words _ hlink⟩, X.words _ hinst, X.words _ hsel⟩ ⟨hP.1, hrec, hP.2⟩ rfl rfl hl.1 rfl (lv_room h8) d hcs) kk
theorem g_callSf {index maxL fr lo : Nat} {y : MethodName} {bytes : ByteArray} {ret : Option FieldType} {As : List Value} {g rg : fh_M} {st0 : List Value}  (X : fh_X p l s m args meth c D cl Ts f0 r own cc nL) (d : decode cc pc = .ok (.invokestatic index, 3)) (hM : fh_C l cl Ts y (.code y bytes maxL ret) fr lo (As) g rg mc ms Qm)  (hs : st0 = As.reverse ++ st) (hlink : Cond.methodLink own index y ∈ Ts) (hcode : Cond.code y bytes maxL ret ∈ Ts) (hini : Cond.initialized y.cls ∈ Ts) (hstt : Cond.static y ∈ Ts) (hd : y.cls ≠ "java/lang/invoke/MethodHandle" ∧ y.cls ≠ "java/lang/invoke/VarHandle" ∧ (parseMethodDescriptor y.desc).map (fun d => d.parameters.length) = some As.length) (hR : fr + 1 ≤ R.frames ∧ 8 + (maxL + 11) + lo ≤ R.locals) (hcs : ce + mc ≤ R.cells ∧ sl + ms ≤ R.slots) (h8 : (st.map fun v => v.category).sum ≤ 8) (hg : ∀ q x, g q = some x → f q = some x) (hrx : ∀ q x, rg q = some x → r q = some x ∨ (f q = some x ∧ g q = none)) (hn : ∀ E g', ¬ Qm (.inr E) g') (kk : ∀ (v : Option Value) (g' : fh_M), Qm (.inl v) g' → (∀ q, g' q ≠ none → g q = none → f q = none ∧ r q = none) → fh_G p l e R s m args below meth c D cl f0 nL Q (ce + mc) (sl + ms) (fh_ov g' f) (pc + 3) lv (v.toList ++ st)) : fh_G p l e R s m args below meth c D cl f0 nL Q ce sl f (pc) lv (st0) := fun H locs ls hI hl => by
  subst hs
  have hP := fh_pre (As := As) X hI hg (fun q y h => (hrx q y h).elim Or.inr (fun z => Or.inl z.1)) (fh_disF X hI hg hrx)
  exact fh_callF X hI hl hg (va_runS (As := As) (rest := st) ⟨X.1, X.2.1, X.2.2.1, X.home, X.words⟩ (hM.met (D := D) (sz := H.size) hn) ⟨⟨rfl, rfl, hR.1, hR.2, fh_wd X hcode, List.mem_singleton.mpr rfl, X.words _ hcode, X.words _ hini, ⟨hd.1, hd.2.1⟩, fun sig h => by have h2 := hd.2.2; rw [h] at h2; exact (Option.some.inj h2).symm, X.words _ hlink⟩, X.words _ hstt⟩ hP rfl rfl hl.1 rfl (lv_room h8) d hcs) kk
theorem g_callSNf {index maxL fr lo : Nat} {y : MethodName} {bytes : ByteArray} {ret : Option FieldType} {As : List Value} {g rg : fh_M} {st0 : List Value} {host : String} (X : fh_X p l s m args meth c D cl Ts f0 r own cc nL) (d : decode cc pc = .ok (.invokestatic index, 3)) (hM : fh_C l cl Ts y (.code y bytes maxL ret) fr lo (As) g rg mc ms Qm)  (hs : st0 = As.reverse ++ st) (hlink : Cond.methodLinkNest own index y host ∈ Ts) (hcode : Cond.code y bytes maxL ret ∈ Ts) (hini : Cond.initialized y.cls ∈ Ts) (hstt : Cond.static y ∈ Ts) (hd : y.cls ≠ "java/lang/invoke/MethodHandle" ∧ y.cls ≠ "java/lang/invoke/VarHandle" ∧ (parseMethodDescriptor y.desc).map (fun d => d.parameters.length) = some As.length) (hR : fr + 1 ≤ R.frames ∧ 8 + (maxL + 11) + lo ≤ R.locals) (hcs : ce + mc ≤ R.cells ∧ sl + ms ≤ R.slots) (h8 : (st.map fun v => v.category).sum ≤ 8) (hg : ∀ q x, g q = some x → f q = some x) (hrx : ∀ q x, rg q = some x → r q = some x ∨ (f q = some x ∧ g q = none)) (hn : ∀ E g', ¬ Qm (.inr E) g') (kk : ∀ (v : Option Value) (g' : fh_M), Qm (.inl v) g' → (∀ q, g' q ≠ none → g q = none → f q = none ∧ r q = none) → fh_G p l e R s m args below meth c D cl f0 nL Q (ce + mc) (sl + ms) (fh_ov g' f) (pc + 3) lv (v.toList ++ st)) : fh_G p l e R s m args below meth c D cl f0 nL Q ce sl f (pc) lv (st0) := fun H locs ls hI hl => by
  subst hs
  have hP := fh_pre (As := As) X hI hg (fun q y h => (hrx q y h).elim Or.inr (fun z => Or.inl z.1)) (fh_disF X hI hg hrx)
  exact fh_callF X hI hl hg (va_runSN (As := As) (rest := st) ⟨X.1, X.2.1, X.2.2.1, X.home, X.words⟩ (hM.met (D := D) (sz := H.size) hn) ⟨⟨⟨rfl, rfl, hR.1, hR.2, fh_wd X hcode, List.mem_singleton.mpr rfl⟩, X.words _ hcode, X.words _ hini, ⟨hd.1, hd.2.1⟩, fun sig h => by have h2 := hd.2.2; rw [h] at h2; exact (Option.some.inj h2).symm, X.words _ hlink⟩, X.words _ hstt, trivial⟩ hP rfl rfl hl.1 rfl (lv_room h8) d hcs) kk
theorem g_callIf {index maxL fr lo : Nat} {y : MethodName} {bytes : ByteArray} {As : List Value} {g rg : fh_M} {st0 : List Value}  {b : Nat} (X : fh_X p l s m args meth c D cl Ts f0 r own cc nL) (d : decode cc pc = .ok (.invokespecial index, 3)) (hM : fh_C l cl Ts y (.code y bytes maxL none) fr lo (.ref b :: As) g rg mc ms Qm) (hs : st0 = As.reverse ++ .ref b :: st) (hlink : Cond.methodLink own index y ∈ Ts) (hcode : Cond.code y bytes maxL none ∈ Ts) (hini : Cond.initialized y.cls ∈ Ts) (hinst : Cond.instanceMethod y ∈ Ts) (hnm : y.name = "<init>") (hd : y.cls ≠ "java/lang/invoke/MethodHandle" ∧ y.cls ≠ "java/lang/invoke/VarHandle" ∧ (parseMethodDescriptor y.desc).map (fun d => d.parameters.length) = some As.length) (hR : fr + 1 ≤ R.frames ∧ 8 + (maxL + 11) + lo ≤ R.locals) (hcs : ce + mc ≤ R.cells ∧ sl + ms ≤ R.slots) (h8 : (st.map fun v => v.category).sum ≤ 8) (hg : ∀ q x, g q = some x → f q = some x) (hrx : ∀ q x, rg q = some x → r q = some x ∨ (f q = some x ∧ g q = none)) (hn : ∀ E g', ¬ Qm (.inr E) g') (kk : ∀ (v : Option Value) (g' : fh_M), Qm (.inl v) g' → (∀ q, g' q ≠ none → g q = none → f q = none ∧ r q = none) → fh_G p l e R s m args below meth c D cl f0 nL Q (ce + mc) (sl + ms) (fh_ov g' f) (pc + 3) lv (v.toList ++ st)) : fh_G p l e R s m args below meth c D cl f0 nL Q ce sl f (pc) lv (st0) := fun H locs ls hI hl => by
  subst hs
  have hP := fh_pre (As := .ref b :: As) X hI hg (fun q y h => (hrx q y h).elim Or.inr (fun z => Or.inl z.1)) (fh_disF X hI hg hrx)
  exact fh_callF X hI hl hg (va_runI (As := As) (rest := st) ⟨X.1, X.2.1, X.2.2.1, X.home, X.words⟩ (hM.met (D := D) (sz := H.size) hn) ⟨⟨rfl, rfl, hR.1, hR.2, fh_wd X hcode, List.mem_singleton.mpr rfl, X.words _ hcode, X.words _ hini, ⟨hd.1, hd.2.1⟩, fun sig h => by have h2 := hd.2.2; rw [h] at h2; exact (Option.some.inj h2).symm, X.words _ hlink⟩, hnm, X.words _ hinst⟩ hP rfl rfl hl.1 rfl (lv_room h8) d hcs) kk
theorem g_callINf {index maxL fr lo : Nat} {y : MethodName} {bytes : ByteArray} {As : List Value} {g rg : fh_M} {st0 : List Value} {host : String} {b : Nat} (X : fh_X p l s m args meth c D cl Ts f0 r own cc nL) (d : decode cc pc = .ok (.invokespecial index, 3)) (hM : fh_C l cl Ts y (.code y bytes maxL none) fr lo (.ref b :: As) g rg mc ms Qm) (hs : st0 = As.reverse ++ .ref b :: st) (hlink : Cond.methodLinkNest own index y host ∈ Ts) (hcode : Cond.code y bytes maxL none ∈ Ts) (hini : Cond.initialized y.cls ∈ Ts) (hinst : Cond.instanceMethod y ∈ Ts) (hnm : y.name = "<init>") (hd : y.cls ≠ "java/lang/invoke/MethodHandle" ∧ y.cls ≠ "java/lang/invoke/VarHandle" ∧ (parseMethodDescriptor y.desc).map (fun d => d.parameters.length) = some As.length) (hR : fr + 1 ≤ R.frames ∧ 8 + (maxL + 11) + lo ≤ R.locals) (hcs : ce + mc ≤ R.cells ∧ sl + ms ≤ R.slots) (h8 : (st.map fun v => v.category).sum ≤ 8) (hg : ∀ q x, g q = some x → f q = some x) (hrx : ∀ q x, rg q = some x → r q = some x ∨ (f q = some x ∧ g q = none)) (hn : ∀ E g', ¬ Qm (.inr E) g') (kk : ∀ (v : Option Value) (g' : fh_M), Qm (.inl v) g' → (∀ q, g' q ≠ none → g q = none → f q = none ∧ r q = none) → fh_G p l e R s m args below meth c D cl f0 nL Q (ce + mc) (sl + ms) (fh_ov g' f) (pc + 3) lv (v.toList ++ st)) : fh_G p l e R s m args below meth c D cl f0 nL Q ce sl f (pc) lv (st0) := fun H locs ls hI hl => by
  subst hs
  have hP := fh_pre (As := .ref b :: As) X hI hg (fun q y h => (hrx q y h).elim Or.inr (fun z => Or.inl z.1)) (fh_disF X hI hg hrx)
  exact fh_callF X hI hl hg (va_runIN (As := As) (rest := st) ⟨X.1, X.2.1, X.2.2.1, X.home, X.words⟩ (hM.met (D := D) (sz := H.size) hn) ⟨⟨⟨rfl, rfl, hR.1, hR.2, fh_wd X hcode, List.mem_singleton.mpr rfl⟩, X.words _ hcode, X.words _ hini, ⟨hd.1, hd.2.1⟩, fun sig h => by have h2 := hd.2.2; rw [h] at h2; exact (Option.some.inj h2).symm, X.words _ hlink⟩, hnm, X.words _ hinst⟩ hP rfl rfl hl.1 rfl (lv_room h8) d hcs) kk
theorem g_callUf {index maxL fr lo : Nat} {y : MethodName} {bytes : ByteArray} {ret : Option FieldType} {As : List Value} {g rg : fh_M} {st0 : List Value} {x : MethodName} {owner : String} {b ci : Nat} {fs : List Value} {qc : vw_C} (X : fh_X p l s m args meth c D cl Ts f0 r own cc nL) (d : decode cc pc = .ok (.invokevirtual index, 3)) (hM : fh_C l cl Ts y (.code y bytes maxL ret) fr lo (.ref b :: As) g rg mc ms Qm) (hb : fh_l f r b (.inr (ci, fs))) (hc : cl[ci]? = some qc) (hs : st0 = As.reverse ++ .ref b :: st) (hlink : Cond.methodLink own index x ∈ Ts) (hsm : Cond.sameMethod x.cls owner x.name x.desc ∈ Ts) (hdecl : va_Decl s ⟨owner, x.name, x.desc⟩) (hcode : Cond.code y bytes maxL ret ∈ Ts) (hini : Cond.initialized y.cls ∈ Ts) (hinst : Cond.instanceMethod y ∈ Ts) (hsel : Cond.selects qc.1 x y ∈ Ts) (hd : owner ≠ "java/lang/invoke/MethodHandle" ∧ owner ≠ "java/lang/invoke/VarHandle" ∧ (parseMethodDescriptor x.desc).map (fun d => d.parameters.length) = some As.length) (hR : fr + 1 ≤ R.frames ∧ 8 + (maxL + 11) + lo ≤ R.locals) (hcs : ce + mc ≤ R.cells ∧ sl + ms ≤ R.slots) (h8 : (st.map fun v => v.category).sum ≤ 8) (hg : ∀ q x, g q = some x → f q = some x) (hrx : ∀ q x, rg q = some x → r q = some x ∨ (f q = some x ∧ g q = none)) (hn : ∀ E g', ¬ Qm (.inr E) g') (kk : ∀ (v : Option Value) (g' : fh_M), Qm (.inl v) g' → (∀ q, g' q ≠ none → g q = none → f q = none ∧ r q = none) → fh_G p l e R s m args below meth c D cl f0 nL Q (ce + mc) (sl + ms) (fh_ov g' f) (pc + 3) lv (v.toList ++ st)) : fh_G p l e R s m args below meth c D cl f0 nL Q ce sl f (pc) lv (st0) := fun H locs ls hI hl => by
  subst hs
  have hP := fh_pre (As := .ref b :: As) X hI hg (fun q y h => (hrx q y h).elim Or.inr (fun z => Or.inl z.1)) (fh_disF X hI hg hrx)
  obtain ⟨r9, hr9, cell, g1, g2, g3, -⟩ := fh_look X hI hb
  have hrec : ∃ cellB : Cell, H[b]? = some cellB ∧ cellB.vm.isStatics = false ∧ s.vm.findClass qc.1 = some cellB.cls := ⟨cell, g1, by rw [g3]; rfl, by rw [g2]; exact (X.known.1 ci qc hc).2.1⟩
  exact fh_callF X hI hl hg (va_runU (As := As) (rest := st) ⟨X.1, X.2.1, X.2.2.1, X.home, X.words⟩ (hM.met (D := D) (sz := H.size) hn) ⟨⟨rfl, rfl, hR.1, hR.2, fh_wd X hcode, List.mem_singleton.mpr rfl⟩, X.words _ hcode, X.words _ hini, ⟨hd.1, hd.2.1⟩, fun sig h => by have h2 := hd.2.2; rw [h] at h2; exact (Option.some.inj h2).symm, X.words _ hlink, X.words _ hsm, hdecl, X.words _ hsel, X.words _ hinst⟩ ⟨hP.1, hrec, hP.2⟩ rfl rfl hl.1 rfl (lv_room h8) d hcs) kk
end FHCF
section FHXF
variable {p : Program} {l : Launch} {e : Env} {R : Room} {s : State} {m : MethodId} {args : Array Value} {below : List Frame} {meth : Method} {c : Code} {D : va_G} {cl : List vw_C} {Ts : List Cond} {f0 r f : fh_M} {own : String} {cc : ByteArray} {nL : Nat} {Q : State → Prop} {ce sl pc : Nat} {lv : List (Nat × Value)} {st : List Value} {Qm : fh_R → fh_M → Prop} {mc ms : Nat}
theorem g_callXf {index maxL fr lo : Nat} {y : MethodName} {bytes : ByteArray} {ret : Option FieldType} {As : List Value} {g rg : fh_M} {st0 : List Value} {b ci : Nat} {fs : List Value} {qc : vw_C} (X : fh_X p l s m args meth c D cl Ts f0 r own cc nL) (d : decode cc pc = .ok (.invokevirtual index, 3)) (hM : fh_C l cl Ts y (.code y bytes maxL ret) fr lo (.ref b :: As) g rg mc ms Qm) (hb : fh_l f r b (.inr (ci, fs))) (hc : cl[ci]? = some qc) (hs : st0 = As.reverse ++ .ref b :: st) (hlink : Cond.methodLink own index y ∈ Ts) (hcode : Cond.code y bytes maxL ret ∈ Ts) (hini : Cond.initialized y.cls ∈ Ts) (hinst : Cond.instanceMethod y ∈ Ts) (hsel : Cond.selects qc.1 y y ∈ Ts) (hd : y.cls ≠ "java/lang/invoke/MethodHandle" ∧ y.cls ≠ "java/lang/invoke/VarHandle" ∧ (parseMethodDescriptor y.desc).map (fun d => d.parameters.length) = some As.length) (hR : fr + 1 ≤ R.frames ∧ 8 + (maxL + 11) + lo ≤ R.locals) (hcs : ce + mc ≤ R.cells ∧ sl + ms ≤ R.slots) (h8 : (st.map fun v => v.category).sum ≤ 8) (hg : ∀ q x, g q = some x → f q = some x) (hrx : ∀ q x, rg q = some x → r q = some x ∨ (f q = some x ∧ g q = none))
    (kk : ∀ (v : Option Value) (g' : fh_M), Qm (.inl v) g' → (∀ q, g' q ≠ none → g q = none → f q = none ∧ r q = none) → fh_G p l e R s m args below meth c D cl f0 nL Q (ce + mc) (sl + ms) (fh_ov g' f) (pc + 3) lv (v.toList ++ st))
    (kx : ∀ (E : String) (g' : fh_M), Qm (.inr E) g' → fh_T p l e R s m args below meth c D cl f0 nL Q E (ce + mc) (sl + ms) (fh_ov g' f) pc lv st) : fh_G p l e R s m args below meth c D cl f0 nL Q ce sl f (pc) lv (st0) := fun H locs ls hI hl => by
  subst hs
  have hP := fh_pre (As := .ref b :: As) X hI hg (fun q y h => (hrx q y h).elim Or.inr (fun z => Or.inl z.1)) (fh_disF X hI hg hrx)
  obtain ⟨r9, hr9, cell, g1, g2, g3, -⟩ := fh_look X hI hb
  have hclB : s.vm.findClass qc.1 = some cell.cls := by rw [g2]; exact (X.known.1 ci qc hc).2.1
  intro T hT X9
  have hy : y.cls ≠ "java/lang/invoke/MethodHandle" ∧ y.cls ≠ "java/lang/invoke/VarHandle" := ⟨hd.1, hd.2.1⟩
  obtain ⟨mk, methM, hnamed, hmethM, hstM, habM⟩ := Cond.instanceMethod_spec (X.words _ hinst)
  obtain ⟨methM', cM, hmethM', -, -, -, -, -, -, hsigM⟩ := Cond.code_spec hnamed (X.words _ hcode)
  cases hmethM.symm.trans hmethM'
  obtain ⟨c2, r2, m2, q1, q2, q3, q4, kP, hkP, hkPi⟩ := Cond.selects_spec (X.words _ hsel)
  cases hclB.symm.trans q1
  cases (State.methodFound?_of_named hnamed hy).symm.trans q2
  cases hnamed.symm.trans q3
  have hselP : selectMethod e.platform s.vm cell.cls mk = .method mk := by rw [Launch.admits_selectMethod X9.admits]; exact q4
  have d' : decode c.code pc = .ok (.invokevirtual index, 3) := by rw [X.2.1]; exact d
  have hlen : As.length = methM.sig.parameters.length := by
    have h2 := hd.2.2
    rw [hsigM] at h2
    exact (Option.some.inj h2).symm
  obtain ⟨vm₁, X₁, hstep₁⟩ := X9.invokevirtual X.1 X.home (X.words _ hlink) hnamed hmethM hstM hkP hkPi hy (a := b) (cell := cell) (by rw [hT]; exact g1) (fun z h => by rw [g3] at h; cases h) hselP hmethM habM hkP hkPi (g := F0 m pc ls (As.reverse ++ .ref b :: st)) rfl (argsL := As) (rest := st) hlen rfl d'
  have hU : (T.setVm vm₁).heap = H := hT
  have hW1 : s.WarmedH (T.setVm vm₁).vm := X₁.warmed
  have hn1 := X₁.named hnamed
  have hcd : (Cond.code y bytes maxL ret).before (Value.ref b :: As).toArray (T.setVm vm₁) = true := fh_okw_at (X.2.2.2.2.1 _ hcode).1 hW1 (X.words _ hcode)
  have hin : (Cond.initialized y.cls).before (Value.ref b :: As).toArray (T.setVm vm₁) = true := fh_okw_at (X.2.2.2.2.1 _ hini).1 hW1 (X.words _ hini)
  obtain ⟨methY, cY, hmY, hcY, -, hlY, -, -, -, -⟩ := Cond.code_spec hn1 hcd
  obtain ⟨o, t, hsteps, hend, ⟨x, g', hq, ho, hW', hF, hdom, hkeep⟩, hwm, L, hsame, hL⟩ := fh_come X₁ (hM D H.size) (mk := mk) (a := (Value.ref b :: As).toArray) (g := F0 m pc ls st) rfl (by rw [X.2.2.1]; exact hl.1) (W9 := 8) (maxL := maxL) d' (lv_room h8) hn1 hmY hcY hlY hin hcd hR.1 hR.2 hcs.1 hcs.2 (hP.1 _ _ _ _ (hP.2 (T.setVm vm₁) hU hW1))
  obtain ⟨hz, hk⟩ := hF
  have hh0 : ((T.setVm vm₁).calling (F0 m pc ls st) mk (Value.ref b :: As).toArray).heap = H := hU
  rw [hh0] at hz hk
  cases x with
  | inl v =>
    cases ho
    obtain ⟨T', X', hw9, -, ht⟩ := X₁.outOf (g := F0 m pc ls st) rfl d' hend hwm hsame
    have e1 : T'.heap = t.heap := by rw [ht]; rfl
    have hvm : s.vm.Alike t.vm := by rw [ht]; exact X'.warmed.alike
    obtain ⟨t2, a1, b1⟩ := kk v g' hq (fh_newF X hI hdom) T'.heap (locs ++ L) ls (hI.over hg hvm e1 hW' hz hk hdom hkeep hL) hl T' rfl X'
    exact ⟨t2, hstep₁ _ fun acts => by rw [doInvoke_state]; rw [ht] at hsteps; exact hsteps.trans a1, b1⟩
  | inr E =>
    obtain ⟨q, ce9, ho1, hcell, hcv, hcc⟩ := ho
    subst ho1
    obtain ⟨T', X', hw9, -, ht⟩ := X₁.outOfThrown (g := F0 m pc ls st) rfl hend hwm hsame
    have e1 : T'.heap = t.heap := by rw [ht]; rfl
    have hvm : s.vm.Alike t.vm := by rw [ht]; exact X'.warmed.alike
    obtain ⟨t2, a1, b1⟩ := kx E g' hq T'.heap (locs ++ L) ls q ce9 (hI.over hg hvm e1 hW' hz hk hdom hkeep hL) hl (by rw [e1]; exact hcell) hcv (by rw [← hvm.findClass]; exact hcc) T' rfl X'
    exact ⟨t2, hstep₁ _ fun acts => by rw [doInvoke_state]; rw [ht] at hsteps; exact hsteps.trans a1, b1⟩
end FHXF
theorem hrx_no {f r g : fh_M} : ∀ q x, hp [] q = some x → r q = some x ∨ (f q = some x ∧ g q = none) := fun q x h => by cases h
theorem hrx_r {f r g rg : fh_M} (h : ∀ q x, rg q = some x → r q = some x) : ∀ q x, rg q = some x → r q = some x ∨ (f q = some x ∧ g q = none) := fun q x z => Or.inl (h q x z)
/-- read-only cells of a callee among our own list -/
theorem hrx_in {ws wc u : List (Nat × fh_E)} {r : fh_M} (hn : nd ws) (is : List Nat) (h : is.map (fun i => ws[i]?) = u.map some) (hd : ∀ a ∈ u.map Prod.fst, a ∉ wc.map Prod.fst) : ∀ q x, hp u q = some x → r q = some x ∨ (hp ws q = some x ∧ hp wc q = none) := fun q x z => Or.inr ⟨hp_sub hn is h q x z, hp_none (hd q (List.mem_map.mpr ⟨_, hp_mem z, rfl⟩))⟩
theorem hp_fresh {ws : List (Nat × fh_E)} {q : Nat} (h : hp ws q = none) : q ∉ ws.map Prod.fst := fun hm => by
  induction ws with
  | nil => cases hm
  | cons c u ih =>
    unfold hp at h
    by_cases hq : q = c.1
    · rw [if_pos hq] at h; cases h
    · rw [if_neg hq] at h
      rcases List.mem_cons.mp hm with h1 | h1
      · exact hq h1
      · exact ih h h1
theorem hp_app (a b : List (Nat × fh_E)) (q : Nat) : hp (a ++ b) q = match hp a q with | some x => some x | none => hp b q := by
  induction a with
  | nil => rfl
  | cons c u ih =>
    show (if q = c.1 then some c.2 else hp (u ++ b) q) = match (if q = c.1 then some c.2 else hp u q) with | some x => some x | none => hp b q
    by_cases h : q = c.1
    · rw [if_pos h, if_pos h]
    · rw [if_neg h, if_neg h]; exact ih
theorem hp_overN {ws u wn : List (Nat × fh_E)} (hn : nd ws) (is : List Nat) (hiu : is.map (fun i => (ws[i]?).map Prod.fst) = u.map (fun c => some c.1)) (hf : ∀ q, hp wn q ≠ none → hp ws q = none) : fh_ov (hp (u ++ wn)) (hp ws) = hp (hp_sets is u ws ++ wn) := by
  have h1 := hp_over hn is u hiu
  funext q
  rw [hp_app, ← h1]
  cases hu : hp u q with
  | some x => rw [fh_ov_l (x := x) (by rw [hp_app, hu]), fh_ov_l hu]
  | none =>
    rw [fh_ov_r hu]
    cases hw : hp wn q with
    | some y =>
      rw [fh_ov_l (x := y) (by rw [hp_app, hu]; exact hw), hf q (by rw [hw]; exact fun z => by cases z)]
    | none =>
      rw [fh_ov_r (by rw [hp_app, hu]; exact hw)]
      cases hp ws q <;> rfl
theorem nd_overN {ws u wn : List (Nat × fh_E)} (hn : nd ws) (is : List Nat) (hiu : is.map (fun i => (ws[i]?).map Prod.fst) = u.map (fun c => some c.1)) (hnn : nd wn) (hf : ∀ q, hp wn q ≠ none → hp ws q = none) : nd (hp_sets is u ws ++ wn) := by
  unfold nd
  rw [List.map_append, hp_sets_fst is u ws hiu, List.nodup_append]
  refine ⟨hn, hnn, fun a ha b hb e9 => ?_⟩
  subst e9
  obtain ⟨⟨b, y⟩, hb2, rfl⟩ := List.mem_map.mp hb
  exact hp_fresh (hf b (by rw [hp_of_mem hnn hb2]; exact fun z => by cases z)) ha
theorem nd_right {u v : List (Nat × fh_E)} (h : nd (u ++ v)) : nd v := by
  unfold nd at h
  rw [List.map_append, List.nodup_append] at h
  exact h.2.1
theorem hp_apart {u v : List (Nat × fh_E)} (h : nd (u ++ v)) : ∀ q, hp v q ≠ none → hp u q = none := by
  intro q hq
  unfold nd at h
  rw [List.map_append, List.nodup_append] at h
  apply hp_none
  intro hm
  cases hv : hp v q with
  | none => exact hq hv
  | some y => exact h.2.2 q hm q (List.mem_map.mpr ⟨_, hp_mem hv, rfl⟩) rfl
theorem hp_ne {ws : List (Nat × fh_E)} {q : Nat} (h : q ∈ ws.map Prod.fst) : hp ws q ≠ none := fun hz => hp_fresh hz h
section FHON
variable {p : Program} {l : Launch} {e : Env} {R : Room} {s : State} {m : MethodId} {args : Array Value} {below : List Frame} {meth : Method} {c : Code} {D : va_G} {cl : List vw_C} {Ts : List Cond} {f0 r : fh_M} {own : String} {cc : ByteArray} {nL : Nat} {Q : State → Prop} {ce sl pc : Nat} {lv : List (Nat × Value)} {st : List Value} {ws : List (Nat × fh_E)}
theorem g_ovN {u wn wc : List (Nat × fh_E)} (is : List Nat) (ws' : List (Nat × fh_E)) (hiu : is.map (fun i => (ws[i]?).map Prod.fst) = u.map (fun c => some c.1)) (hw : hp_sets is u ws ++ wn = ws') (hn : nd ws) (hnn : nd (u ++ wn)) (hwc : wc.map Prod.fst = u.map Prod.fst) (hfr : ∀ q, hp (u ++ wn) q ≠ none → hp wc q = none → hp ws q = none ∧ r q = none) (k : nd ws' → (∀ q, hp wn q ≠ none → r q = none) → fh_G p l e R s m args below meth c D cl f0 nL Q ce sl (hp ws') (pc) lv (st)) : fh_G p l e R s m args below meth c D cl f0 nL Q ce sl (fh_ov (hp (u ++ wn)) (hp ws)) (pc) lv (st) := by
  have hA : ∀ q, hp wn q ≠ none → hp ws q = none ∧ r q = none := fun q hq => by
    have h1 := hp_apart hnn q hq
    refine hfr q (by rw [hp_app, h1]; exact hq) (hp_none ?_)
    rw [hwc]
    exact hp_fresh h1
  rw [hp_overN hn is hiu (fun q hq => (hA q hq).1), hw]
  exact k (by rw [← hw]; exact nd_overN hn is hiu (nd_right hnn) (fun q hq => (hA q hq).1)) (fun q hq => (hA q hq).2)
end FHON
