section FHTW
variable {p : Program} {l : Launch} {e : Env} {R : Room} {s : State} {m : MethodId} {args : Array Value} {below : List Frame} {meth : Method} {c : Code} {D : va_G} {cl : List vw_C} {Ts : List Cond} {f0 r f : fh_M} {own : String} {cc : ByteArray} {nL : Nat} {Q : State → Prop} {ce sl pc : Nat} {lv : List (Nat × Value)} {st : List Value} {Qm : fh_R → fh_M → Prop} {mc ms : Nat}
/-- 'throw new E(text)' -/
theorem g_throwSW {cls text : String} {names : List String} {ik is ic : Nat} (X : fh_X p l s m args meth c D cl Ts f0 r own cc nL) (hno : c.exceptionTable.isEmpty = true) (d0 : decode cc pc = .ok (.new ik, 3)) (d3 : decode cc (pc + 3) = .ok (.dup, 1)) (d4 : decode cc (pc + 4) = .ok (.ldc_w is, 3)) (d6 : decode cc (pc + 7) = .ok (.invokespecial ic, 3)) (d9 : decode cc (pc + 10) = .ok (.athrow, 1))
    (hcls : Bundle.fit cls = true) (hnames : ∀ n ∈ names, Bundle.fit n = true) (hk : Cond.classLink own ik cls ∈ Ts) (hini : Cond.initialized cls ∈ Ts) (hstr : Cond.stringRef own is text ∈ Ts) (hat : ∀ w ∈ Bundle.ownAtoms own ic cls names, w ∈ Ts ∨ w ∈ fh_stW)
    (hRf : names.length + 3 < R.frames) (hRl : (st.map fun v => v.category).sum + (13 * (names.length + 1) + 43) ≤ R.locals) (hRc : ce + 1 ≤ R.cells) (hRs : sl + 6 ≤ R.slots) (hc : ce + 1 ≤ mc) (hs : sl + 6 ≤ ms) (hq : Qm (.inr cls) f) : fh_G p l e R s m args below meth c D cl f0 nL (fh_MQ below D cl f0 Qm args s mc ms) ce sl f (pc) lv (st) := fun H locs ls hI hl => by
  intro T hT X9
  have htr : e.platform.stackTraces = false := (show e.platform.stackTraces = l.stackTraces by rw [X9.admits.platform]).trans X.still
  have Y := fh_base X9 (R' := { frames := R.frames, locals := R.locals, cells := 1, slots := 6 }) (Nat.le_refl _) (Nat.le_refl _) hRc hRs
  obtain ⟨s', hs'⟩ : ∃ z, z = (T.setVm s.vm).setFrames (.invoking m args :: below) := ⟨_, rfl⟩
  rw [← hs'] at Y
  have hvm : s'.vm = s.vm := by rw [hs']; rfl
  have hhp : s'.heap = H := by rw [hs']; exact hT
  have hW0 : s.WarmedH s'.vm := by rw [hvm]; exact State.WarmedH.refl s
  have wd : ∀ w ∈ Ts, w.before args s' = true := fun w hw => fh_okw_at (X.2.2.2.2.1 w hw).1 hW0 (X.words w hw)
  have hZ := X.statics
  have h : ∀ w ∈ Bundle.ownAtoms own ic cls names, w.before args s' = true := fun w hw => by
    rcases hat w hw with h1 | h1
    · exact wd w h1
    · exact fh_stW_at (A := fh_A f0 s) (by rw [hhp]; exact ⟨(hZ.1.kept hI.2.1.2.1).moved hW0.alike, (hZ.2.kept hI.2.1.2.1).moved hW0.alike⟩) w h1
  have hown' : s'.vm.findClass own = some m.cls := by rw [hvm]; exact X.home
  have hins : (Cond.instantiable cls 6).before args s' = true := h _ (by simp [Bundle.ownAtoms])
  obtain ⟨vm₁, cX, kX, hfX, hkX, -, -, X₁, st1⟩ := Y.newCold X.1 (own := own) (C := cls) (index := ik) (n := 6) hown' (wd _ hk) hins (wd _ hini) (g := F0 m pc ls st) rfl (by rw [X.2.1]; exact d0) (Nat.le_refl _) (Nat.le_refl _)
  generalize hT1 : (T.setVm vm₁).pushCell { cls := cX, slots := kX.instanceTypes.map defaultValue, vm := .none } = T1 at X₁ st1
  have hcellA : T1.heap[T.heap.size]? = some (freshCell cX kX) := by rw [← hT1]; exact State.heap_pushCell_size _ _
  have d3' : decode c.code (pc + 3) = .ok (.dup, 1) := by rw [X.2.1]; exact d3
  have d4' : decode c.code (pc + 4) = .ok (.ldc_w is, 3) := by rw [X.2.1]; exact d4
  have hs9 : (Cond.stringRef own is text).before args s' = true := wd _ hstr
  obtain ⟨-, -, -, sa, -, -, -, -, -, hev⟩ := Cond.stringRef_spec hown' hs9
  have hcat : (Value.ref T.heap.size).category = 1 := rfl
  obtain ⟨U, hsteps, hrun, hend, hW, hsame, ce9, hce, hO⟩ := X₁.ctorThrowS X.1 htr (own := own) (cls := cls) (names := names) (ic := ic) hown' hcls hnames h (fun x hx => nomatch hx) hfX hkX hcellA (by rw [hhp, hT]; exact Nat.le_refl _) (msg := .ref sa) rfl
    (g := { method := m, pc := pc + 7, locals := ls, stack := .ref sa :: .ref T.heap.size :: .ref T.heap.size :: st, locked := none }) rfl (by rw [X.2.2.1]; exact hl.1) rfl rfl (rest := st) rfl (by rw [X.2.1]; exact d6) (by rw [X.2.1]; exact d9) (fh_noH hno _) hRf (by simp only [List.map_cons, List.sum_cons, hcat]; show 2 * 0 + _ + _ ≤ _; omega) X.free
  have hWs : s.WarmedH U.vm := State.WarmedH.trans hW0 hW
  have hold : ∀ q : Nat, q < H.size → U.heap[q]? = H[q]? := fun q hq9 => by
    obtain ⟨c1, k1, k2, k3, k4⟩ := hsame.2.2.2.2.2 q H[q] (by rw [hhp]; exact Array.getElem?_eq_getElem hq9)
    have hsl : c1.slots = (H[q]).slots := Array.ext_getElem? fun i => k4 i (fun hm => nomatch hm)
    have hc1 : c1 = H[q] := by rw [hsl] at k2; exact k2
    have hu : U.heap[q]? = some c1 := k1
    rw [hu, hc1, Array.getElem?_eq_getElem hq9]
  have hbig : H.size ≤ U.heap.size := by have h2 := hsame.2.1; rw [hhp] at h2; exact h2
  have hall : s.sameButNew ({ U with vm := s.vm } : State) locs mc ms := by
    subst hs'
    obtain ⟨e1, e2⟩ := hsame
    rw [State.setFrames_setFrames] at e1
    have h2 : (T.setVm s.vm).sameButNew ({ U with vm := s.vm } : State) [] (0 + 1) (0 + 6) := ⟨e1, e2⟩
    have h3 := X9.same.trans h2
    rw [List.append_nil] at h3
    exact h3.mono hc hs
  refine ⟨U, ?_, .threw T.heap.size, hrun, hend, ⟨.inr cls, f, hq, ⟨T.heap.size, ce9, rfl, hce, hO.vm, by rw [hWs.alike.findClass, ← hvm]; exact hO.cls⟩, fun b w hw => ((hI.1 b w hw).kept (hold b (hI.1 b w hw).lt)).moved hWs.alike, ⟨Nat.le_trans hI.2.1.1 hbig, fun z h1 h2 => (hold z (Nat.lt_of_lt_of_le h1 hI.2.1.1)).trans (hI.2.1.2.1 z h1 h2)⟩, hI.2.2.1, hI.2.2.2⟩, hWs, locs, hall, hI.2.1.2.2⟩
  refine st1 _ ?_
  show Steps p.tables e below (T1.setTop { method := m, pc := pc + 3, locals := ls, stack := .ref T.heap.size :: st, locked := none }) _
  jvm_step X₁.here [X₁.here.top, X.1, d3', Value.category]
  exact X₁.ldcStringW X.1 (own := own) (text := text) (index := is) (a := sa) hown' hs9 hev (g := { method := m, pc := pc + 4, locals := ls, stack := .ref T.heap.size :: .ref T.heap.size :: st, locked := none }) rfl d4' _ hsteps
end FHTW
section FHVV
variable {p : Program} {l : Launch} {e : Env} {R : Room} {s : State} {m : MethodId} {args : Array Value} {below : List Frame} {meth : Method} {c : Code} {D : va_G} {cl : List vw_C} {Ts : List Cond} {f0 r : fh_M} {own : String} {cc : ByteArray} {nL : Nat} {Q : State → Prop} {ce sl pc : Nat} {lv : List (Nat × Value)} {st : List Value} {ws : List (Nat × fh_E)}
theorem g_vv {f : fh_M} {v : Value} (v' : Value) (h : v = v') (k : fh_G p l e R s m args below meth c D cl f0 nL Q ce sl f pc lv (v' :: st)) : fh_G p l e R s m args below meth c D cl f0 nL Q ce sl f pc lv (v :: st) := h ▸ k
theorem h_aastN {a n k : Nat} {C : String} {g : Nat → Option Nat} (i : Nat) (ws' : List (Nat × fh_E)) (X : fh_X p l s m args meth c D cl Ts f0 r own cc nL) (d : decode cc pc = .ok (.aastore, 1)) (hn : nd ws) (hi : ws[i]? = some (a, .inl (.object C, n, .inr (.inr (.inr (.inr g)))))) (hk : k < n) (hN : n < 2 ^ 31) (hw : ws.set i (a, .inl (.object C, n, .inr (.inr (.inr (.inr (va_up g k none)))))) = ws') (kk : fh_G p l e R s m args below meth c D cl f0 nL Q ce sl (hp ws') (pc + 1) lv st) : fh_G p l e R s m args below meth c D cl f0 nL Q ce sl (hp ws) pc lv (.null :: .int (nI k) :: .ref a :: st) := by
  refine g_aastN X d (hp_get hn i hi) (vp_in_nI hk hN) ?_
  rw [nI_clamp (Nat.lt_trans hk hN), hp_put hn i hi, hw]
  exact kk
theorem h_aast {a n k v ci : Nat} {q : vw_C} {vs : List Value} {g : Nat → Option Nat} (i : Nat) (ws' : List (Nat × fh_E)) (X : fh_X p l s m args meth c D cl Ts f0 r own cc nL) (d : decode cc pc = .ok (.aastore, 1)) (hn : nd ws) (hi : ws[i]? = some (a, .inl (.object q.1, n, .inr (.inr (.inr (.inr g)))))) (hv : fh_l (hp ws) r v (.inr (ci, vs))) (hc : cl[ci]? = some q) (hk : k < n) (hN : n < 2 ^ 31) (hw : ws.set i (a, .inl (.object q.1, n, .inr (.inr (.inr (.inr (va_up g k (some v))))))) = ws') (kk : fh_G p l e R s m args below meth c D cl f0 nL Q ce sl (hp ws') (pc + 1) lv st) : fh_G p l e R s m args below meth c D cl f0 nL Q ce sl (hp ws) pc lv (.ref v :: .int (nI k) :: .ref a :: st) := by
  refine g_aast X d (hp_get hn i hi) hv hc (vp_in_nI hk hN) ?_
  rw [nI_clamp (Nat.lt_trans hk hN), hp_put hn i hi, hw]
  exact kk
theorem h_newq {index N9 : Nat} {C : String} (X : fh_X p l s m args meth c D cl Ts f0 r own cc nL) (d : decode cc pc = .ok (.anewarray index, 3)) (hn9 : nd ws) (hlink : Cond.classLink own index C ∈ Ts) (hov : Cond.arrayOver (.object C) ∈ Ts) (hN : N9 < 2 ^ 20) (h1 : ce + 1 ≤ R.cells) (h2 : sl + N9 ≤ R.slots) (kk : ∀ q : Nat, nd (ws ++ [(q, .inl (.object C, N9, .inr (.inr (.inr (.inr (fun _ => none))))))]) → fh_G p l e R s m args below meth c D cl f0 nL Q (ce + 1) (sl + N9) (hp (ws ++ [(q, .inl (.object C, N9, .inr (.inr (.inr (.inr (fun _ => none))))))])) (pc + 3) lv (.ref q :: st)) : fh_G p l e R s m args below meth c D cl f0 nL Q ce sl (hp ws) pc lv (.int (nI N9) :: st) := by
  refine g_newq X d hlink hov hN h1 h2 (fun q hq => ?_)
  rw [hp_add hq]
  exact kk q (nd_add hn9 hq)
end FHVV
def thrEA : List String := ["java/lang/RuntimeException", "java/lang/Exception"]

