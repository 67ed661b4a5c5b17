/-! CONTRACTS: a method on the cells that it may change (f) and those that it reads alone (r) -/
/-- what a method answers: a value, nothing, or the name of the class that it throws -/
abbrev fh_R : Type := Option Value ⊕ String
def fh_out (x : fh_R) (o : Outcome) (t : State) : Prop := match x with
  | .inl v => o = .returned v
  | .inr E => ∃ (q : Addr) (ce : Cell), o = .threw q ∧ t.heap[q]? = some ce ∧ ce.vm = .none ∧ t.vm.findClass E = some ce.cls
def fh_Q (D : va_G) (cl : List vw_C) (f : fh_M) (Qm : fh_R → fh_M → Prop) (sz : Nat) : Array Value → State → Outcome → State → Prop := fun _ st o t =>
  ∃ (x : fh_R) (f' : fh_M), Qm x f' ∧ fh_out x o t ∧ fh_W D cl t f' t.heap ∧ va_F (fh_B f sz) st t ∧ (∀ q, f' q ≠ none → fh_B f sz q) ∧ (∀ q, f q ≠ none → f' q ≠ none)
def fh_P (D : va_G) (cl : List vw_C) (Ts : List Cond) (f r : fh_M) (sz : Nat) (U : State) : Prop := U.heap.size = sz ∧ (∀ w ∈ Ts, fh_okw w = true ∧ ∀ a : Array Value, w.before a U = true) ∧ va_K D cl [] U ∧ fh_W D cl U f U.heap ∧ fh_W D cl U r U.heap ∧ (∀ q, r q ≠ none → f q = none) ∧ fh_Z (fun q => f q ≠ none) U U.heap
def fh_rm (fr lo mc ms : Nat) : Room := { frames := fr, cells := mc, slots := ms, locals := lo }
/-- the contract, with what the machine asks beside -/
def fh_C (l : Launch) (cl : List vw_C) (Ts : List Cond) (y : MethodName) (w0 : Cond) (fr lo : Nat) (As : List Value) (f r : fh_M) (mc ms : Nat) (Qm : fh_R → fh_M → Prop) : Prop :=
  ∀ (D : va_G) (sz : Nat), MetFree l y (headSpec [w0] (fh_rm fr lo mc ms)) (fun v U => v = As.toArray ∧ fh_P D cl Ts f r sz U) (fun _ _ _ _ _ => True) (fun a st o t => fh_Q D cl f Qm sz a st o t ∧ st.WarmedH t.vm ∧ ∃ L : List Loc, st.sameButNew ({ t with vm := st.vm } : State) L mc ms ∧ ∀ q ∈ L, fh_B f sz q.base)
def fh_MQ (below : List Frame) (D : va_G) (cl : List vw_C) (f : fh_M) (Qm : fh_R → fh_M → Prop) (args : Array Value) (s : State) (mc ms : Nat) : State → Prop := fun t =>
  ∃ o, t.status = .running ∧ Ended t below o ∧ fh_Q D cl f Qm s.heap.size args s o t ∧ s.WarmedH t.vm ∧ ∃ L : List Loc, s.sameButNew ({ t with vm := s.vm } : State) L mc ms ∧ ∀ q ∈ L, fh_B f s.heap.size q.base
/-- a contract may say less -/
theorem fh_C.mono {l : Launch} {cl : List vw_C} {Ts : List Cond} {y : MethodName} {w0 : Cond} {fr lo : Nat} {As : List Value} {f r : fh_M} {mc ms : Nat} {Qm Qm' : fh_R → fh_M → Prop} (h : fh_C l cl Ts y w0 fr lo As f r mc ms Qm) (hq : ∀ x g, Qm x g → Qm' x g) : fh_C l cl Ts y w0 fr lo As f r mc ms Qm' := fun D sz =>
  MetFree.mono (h D sz) (fun _ _ h => h) (fun _ _ _ _ _ h => h) (fun a s o t _ ⟨⟨x, g, h1, h2⟩, h3⟩ => ⟨⟨x, g, hq x g h1, h2⟩, h3⟩)
theorem fh_Zof {A : Nat → Prop} {f : fh_M} {s : State} (h : fh_Z (fun q => f q ≠ none) s s.heap) (hA : ∀ q, q < s.heap.size → A q → f q ≠ none) : fh_Z A s s.heap := ⟨h.1.narrow hA, h.2.narrow hA⟩
/-- a method's body is walked: its contract -/
theorem fh_enter {l : Launch} {cl : List vw_C} {Ts : List Cond} {y : MethodName} {cc : ByteArray} {maxL : Nat} {ret : Option FieldType} {fr lo : Nat} {As : List Value} {f r : fh_M} {mc ms : Nat} {Qm : fh_R → fh_M → Prop}
    (hy : plainName y.cls = true) (hst : l.stackTraces = false) (hlen : (lg_sl As).length ≤ maxL)
    (body : ∀ (D : va_G) (p : Program) (e : Env) (s : State) (m : MethodId) (args : Array Value) (below : List Frame) (meth : Method) (c : Code), fh_X p l s m args meth c D cl Ts f r y.cls cc maxL → meth.sig.returnType = ret → meth.name = y.name → c.exceptionTable.isEmpty = true → fh_W D cl s f s.heap →
      fh_G p l e (fh_rm fr lo mc ms) s m args below meth c D cl f maxL (fh_MQ below D cl f Qm args s mc ms) 0 0 f 0 (lv_args 0 As) []) :
    fh_C l cl Ts y (.code y cc maxL ret) fr lo As f r mc ms Qm := by
  intro D sz
  refine MetFree.of_bodyS (code := cc) (maxLocals := maxL) (ret := ret) hy ?_ ?_
  · intro args s m h hn
    obtain ⟨meth, c, h1, h2, h3, h4, h5, h6, -, -⟩ := Cond.code_spec hn (atoms_spec (ws := [.code y cc maxL ret]) h _ List.mem_cons_self)
    exact ⟨meth, c, h1, h2, h3, h4, h5, h6⟩
  · intro p e s m args below meth c s₁ B hml hP _
    obtain ⟨rfl, rfl, hts, hK, hf, hr, hd, hZ⟩ := hP
    have hh0 : s₁.heap = s.heap := by rw [B.state]; rfl
    have X : fh_X p l s m As.toArray meth c D cl Ts f r y.cls cc maxL := by
      refine ⟨B.exec, B.bytes, hml, findClass_of_methodNamed B.named, hts, hK, B.notSynchronized, hr, fun q hq hA => ?_, fh_Zof hZ (fun q h1 h2 => ?_), hst, hf⟩
      · rcases hA with h | h
        · exact h (hd q hq)
        · exact hq (fh_none hr h)
      · rcases h2 with h | h
        · exact h
        · omega
    have hnoh : c.exceptionTable.isEmpty = true := B.noHandlers (atoms_spec (ws := [.code y cc maxL ret]) B.pre _ List.mem_cons_self)
    have K := body D p e s m As.toArray below meth c X B.returns (name_of_methodNamed B.named B.method).1 hnoh hf s.heap [] _ ⟨hf, va_S.rf, fun q hq => Or.inl hq, fun q hq => hq⟩ (lv_entry As hlen)
    rw [← lg_entry_eq] at K
    obtain ⟨t, a1, o, b1, b2, b3⟩ := K s₁ hh0 (Stand.of_body B)
    exact ⟨t, o, a1, b1, b2, b3⟩
section FHE
variable {p : Program} {l : Launch} {e : Env} {R : Room} {s : State} {m : MethodId} {args : Array Value} {below : List Frame} {meth : Method} {c : Code} {D : va_G} {cl : List vw_C} {Ts : List Cond} {f0 r f : fh_M} {own : String} {cc : ByteArray} {nL : Nat} {Q : State → Prop} {ce sl pc : Nat} {lv : List (Nat × Value)} {st : List Value} {Qm : fh_R → fh_M → Prop} {mc ms : Nat}
theorem fh_mono {H : Heap} {locs : List Loc} {g : JFrame} {Q' : State → Prop} (h : ∀ t, Q t → Q' t) (k : W p l e R s m args below meth c H locs ce sl Q g) : W p l e R s m args below meth c H locs ce sl Q' g := fun T hT X => by
  obtain ⟨t, a, b⟩ := k T hT X
  exact ⟨t, a, h t b⟩
theorem fh_done {H : Heap} {locs : List Loc} {v : Option Value} (hI : fh_I D cl s f0 f H locs) (hq : Qm (.inl v) f) : ∀ t, MQ below (fun _ _ o t => o = .returned v ∧ t.heap = H) args s mc ms (fh_A f0 s) t → fh_MQ below D cl f0 Qm args s mc ms t := by
  intro t ⟨o, h1, h2, ⟨h3, h4⟩, L, hF, hL⟩
  subst h3
  exact ⟨_, h1, h2, ⟨.inl v, f, hq, rfl, (by rw [h4]; exact hI.1.moved hF.2.1.alike), ⟨by rw [h4]; exact hI.2.1.1, fun q a b => by rw [h4]; exact hI.2.1.2.1 q a b⟩, hI.2.2.1, hI.2.2.2⟩, hF.2.1, L, hF.2.2, hL⟩
theorem g_iret {v : Int32} (X : fh_X p l s m args meth c D cl Ts f0 r own cc nL) (hr : meth.sig.returnType = some .int) (d : decode cc pc = .ok (.ireturn, 1)) (hc : ce ≤ mc) (hs : sl ≤ ms) (hq : Qm (.inl (some (.int v))) f) : fh_G p l e R s m args below meth c D cl f0 nL (fh_MQ below D cl f0 Qm args s mc ms) ce sl f pc lv [.int v] := fun H locs ls hI hl =>
  W.widen hc hs (fh_mono (fh_done hI hq) (W.iret X.1 X.2.1 hr (fun t ht _ => ⟨rfl, ht⟩) hI.2.1.2.2 d X.free))
theorem g_zret {v : Int32} (X : fh_X p l s m args meth c D cl Ts f0 r own cc nL) (hr : meth.sig.returnType = some .boolean) (hn : narrow .boolean (.int v) = .int v) (d : decode cc pc = .ok (.ireturn, 1)) (hc : ce ≤ mc) (hs : sl ≤ ms) (hq : Qm (.inl (some (.int v))) f) : fh_G p l e R s m args below meth c D cl f0 nL (fh_MQ below D cl f0 Qm args s mc ms) ce sl f pc lv [.int v] := fun H locs ls hI hl =>
  W.widen hc hs (fh_mono (fh_done hI hq) (W.zret X.1 X.2.1 hr hn (fun t ht _ => ⟨rfl, ht⟩) hI.2.1.2.2 d X.free))
theorem g_lret {v : Int64} (X : fh_X p l s m args meth c D cl Ts f0 r own cc nL) (hr : meth.sig.returnType = some .long) (d : decode cc pc = .ok (.lreturn, 1)) (hc : ce ≤ mc) (hs : sl ≤ ms) (hq : Qm (.inl (some (.long v))) f) : fh_G p l e R s m args below meth c D cl f0 nL (fh_MQ below D cl f0 Qm args s mc ms) ce sl f pc lv [.long v] := fun H locs ls hI hl =>
  W.widen hc hs (fh_mono (fh_done hI hq) (W.lret X.1 X.2.1 hr (fun t ht _ => ⟨rfl, ht⟩) hI.2.1.2.2 d X.free))
theorem g_vret (X : fh_X p l s m args meth c D cl Ts f0 r own cc nL) (hr : meth.sig.returnType = none) (d : decode cc pc = .ok (.return_, 1)) (hc : ce ≤ mc) (hs : sl ≤ ms) (hq : Qm (.inl none) f) : fh_G p l e R s m args below meth c D cl f0 nL (fh_MQ below D cl f0 Qm args s mc ms) ce sl f pc lv [] := fun H locs ls hI hl =>
  W.widen hc hs (fh_mono (fh_done hI hq) (W.vret X.1 X.2.1 hr (fun t ht _ => ⟨rfl, ht⟩) hI.2.1.2.2 d X.free))
end FHE
