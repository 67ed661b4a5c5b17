/-- the same for a class whose name is not plain -/
theorem fh_enterF {l : Launch} {cl : List vw_C} {Ts : List Cond} {y : MethodName} {cc : ByteArray} {maxL : Nat} {ret : Option FieldType} {fr lo : Nat} {As : List Value} {f r : fh_M} {mc ms : Nat} {Qm : fh_R → fh_M → Prop}
    (hy : plainFor y = true) (hst : l.stackTraces = false) (hlen : (lg_sl As).length ≤ maxL)
    (body : ∀ (D : va_G) (p : Program) (e : Env) (s : State) (m : MethodId) (args : Array Value) (below : List Frame) (meth : Method) (c : Code), fh_X p l s m args meth c D cl Ts f r y.cls cc maxL → meth.sig.returnType = ret → meth.name = y.name → c.exceptionTable.isEmpty = true → fh_W D cl s f s.heap →
      fh_G p l e (fh_rm fr lo mc ms) s m args below meth c D cl f maxL (fh_MQ below D cl f Qm args s mc ms) 0 0 f 0 (lv_args 0 As) []) :
    fh_C l cl Ts y (.code y cc maxL ret) fr lo As f r mc ms Qm := by
  intro D sz
  refine MetFree.of_bodySF (code := cc) (maxLocals := maxL) (ret := ret) hy ?_ ?_
  · intro args s m h hn
    obtain ⟨meth, c, h1, h2, h3, h4, h5, h6, -, -⟩ := Cond.code_spec hn (atoms_spec (ws := [.code y cc maxL ret]) h _ List.mem_cons_self)
    exact ⟨meth, c, h1, h2, h3, h4, h5, h6⟩
  · intro p e s m args below meth c s₁ B hml hP _
    obtain ⟨rfl, rfl, hts, hK, hf, hr, hd, hZ⟩ := hP
    have hh0 : s₁.heap = s.heap := by rw [B.state]; rfl
    have X : fh_X p l s m As.toArray meth c D cl Ts f r y.cls cc maxL := by
      refine ⟨B.exec, B.bytes, hml, findClass_of_methodNamed B.named, hts, hK, B.notSynchronized, hr, fun q hq hA => ?_, fh_Zof hZ (fun q h1 h2 => ?_), hst, hf⟩
      · rcases hA with h | h
        · exact h (hd q hq)
        · exact hq (fh_none hr h)
      · rcases h2 with h | h
        · exact h
        · omega
    have hnoh : c.exceptionTable.isEmpty = true := B.noHandlers (atoms_spec (ws := [.code y cc maxL ret]) B.pre _ List.mem_cons_self)
    have K := body D p e s m As.toArray below meth c X B.returns (name_of_methodNamed B.named B.method).1 hnoh hf s.heap [] _ ⟨hf, va_S.rf, fun q hq => Or.inl hq, fun q hq => hq⟩ (lv_entry As hlen)
    rw [← lg_entry_eq] at K
    obtain ⟨t, a1, o, b1, b2, b3⟩ := K s₁ hh0 (Stand.of_body B)
    exact ⟨t, o, a1, b1, b2, b3⟩
