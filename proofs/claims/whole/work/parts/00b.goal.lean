/-! THE GOAL: pc, locals, stack and the known heap; all else is hidden -/
/-- words that stay true while the machine links what it meets -/
def fh_okw (w : Cond) : Bool := (w.onTables && w.keeps) || (match w with
  | .arrayClass _ => true
  | .fieldLinkNest .. => true
  | .methodLinkNest .. => true
  | .declares _ => true
  | .stringRef .. => true
  | .castable .. => true
  | .arrayOver (.object _) => true
  | _ => false)
theorem fh_okw_at {w : Cond} (hw : fh_okw w = true) {A B : Array Value} {s U : State} (hW : s.WarmedH U.vm) (h : w.before A s = true) : w.before B U = true := by
  unfold fh_okw at hw
  rw [Bool.or_eq_true] at hw
  rcases hw with hw | hw
  · exact word_at hW (Or.inl hw) h
  · split at hw
    · exact word_at hW (Or.inr ⟨_, rfl⟩) h
    · exact va_Nw.use rfl (va_Nw.warmF hW (va_Nw.of rfl h))
    · exact va_Nw.use rfl (va_Nw.warmM hW (va_Nw.of rfl h))
    · exact va_Nw.use rfl (va_Nw.warmD hW (va_Nw.of rfl h))
    · rename_i own k tx
      have h1 : (Cond.stringRef own k tx).before #[] (s.setVm U.vm) = true := Cond.stringRef_warmed hW h
      first
        | exact va_tabs rfl rfl h1
        | (simp only [Cond.before, Cond.holds, Cond.value, State.names, State.poolOf?, State.resolvedAt?] at h1 ⊢; exact h1)
    · exact va_Nw.use rfl (va_Nw.warmC hW (va_Nw.of rfl h))
    · exact va_AO.use (va_AO.moved hW.alike (va_AO.of h))
    · cases hw
def fh_B (f : fh_M) (sz : Nat) : Nat → Prop := fun q => f q ≠ none ∨ sz ≤ q
abbrev fh_A (f0 : fh_M) (s : State) : Nat → Prop := fh_B f0 s.heap.size
/-- a static reference that nobody writes: where it lies, that it is laid there, that it holds null or a reference -/
def fh_S1 (C n d : String) (A : Nat → Prop) (U : State) (H : Heap) : Prop := ∃ (c : ClassId) (k : Class) (i : Nat) (fd : Field) (a : Nat) (cell : Cell) (v : Value), U.fieldFound? C n d = some (c, k, i, fd) ∧ H[a]? = some cell ∧ ¬ A a ∧ U.vm.findClass C = some c ∧ k.statics = some a ∧ k.staticTypes[fd.slot]? = some fd.type ∧ fd.isStatic = true ∧ cell.vm.isStatics = true ∧ cell.cls = c ∧ fd.slot < cell.slots.size ∧ cell.slots[fd.slot]? = some v ∧ v.isRef = true
theorem fh_S1.moved {C n d : String} {A : Nat → Prop} {u U : State} {H : Heap} (hvm : u.vm.Alike U.vm) (h : fh_S1 C n d A u H) : fh_S1 C n d A U H := by
  obtain ⟨c, k, i, fd, a, cell, v, h1, h2, h3, h4, h5, h6, h7⟩ := h
  obtain ⟨k', g1, g2⟩ := State.fieldFound?_setVm hvm h1
  exact ⟨c, k', i, fd, a, cell, v, g1, h2, h3, by rw [hvm.findClass]; exact h4, by rw [g2]; exact h5, by rw [g2]; exact h6, h7⟩
theorem fh_S1.kept {C n d : String} {A : Nat → Prop} {U : State} {H H1 : Heap} (h : fh_S1 C n d A U H) (hq : ∀ a : Nat, a < H.size → ¬ A a → H1[a]? = H[a]?) : fh_S1 C n d A U H1 := by
  obtain ⟨c, k, i, fd, a, cell, v, h1, h2, h3, h4⟩ := h
  exact ⟨c, k, i, fd, a, cell, v, h1, (hq a (Array.getElem?_eq_some_iff.mp h2).1 h3).trans h2, h3, h4⟩
theorem fh_S1.narrow {C n d : String} {A B : Nat → Prop} {U : State} {H : Heap} (h : fh_S1 C n d A U H) (hAB : ∀ q, q < H.size → B q → A q) : fh_S1 C n d B U H := by
  obtain ⟨c, k, i, fd, a, cell, v, h1, h2, h3, h4⟩ := h
  exact ⟨c, k, i, fd, a, cell, v, h1, h2, fun z => h3 (hAB a (Array.getElem?_eq_some_iff.mp h2).1 z), h4⟩
theorem fh_S1.lays {C n d : String} {A : Nat → Prop} {U : State} {args : Array Value} (h : fh_S1 C n d A U U.heap) : (Cond.laysStatic C n d).before args U = true := by
  obtain ⟨c, k, i, fd, a, cell, v, h1, h2, h3, h4, h5, h6, h7, h8, h9, h10, -⟩ := h
  exact Cond.laysStatic_of h4 h1 h7 h5 h2 h8 h9 h10 h6
theorem fh_S1.isRef {C n d : String} {A : Nat → Prop} {U : State} {args : Array Value} (h : fh_S1 C n d A U U.heap) : (Cond.isRef (.static C n d)).before args U = true := by
  obtain ⟨c, k, i, fd, a, cell, v, h1, h2, h3, h4, h5, h6, h7, h8, h9, h10, h11, h12⟩ := h
  have he : (Term.static C n d).eval args U none [] U = some v := by simp [Term.eval, State.fieldNamed?, h1, h7, h5, h2, h8, h11]
  cases v <;> simp_all [Cond.before, Cond.holds, Cond.value, Value.isRef]
/-- the two statics that Throwable's constructor reads -/
def fh_Z (A : Nat → Prop) (U : State) (H : Heap) : Prop := fh_S1 "java/lang/Throwable" "UNASSIGNED_STACK" "[Ljava/lang/StackTraceElement;" A U H ∧ fh_S1 "java/lang/Throwable" "SUPPRESSED_SENTINEL" "Ljava/util/List;" A U H
/-- what holds through a whole method -/
def fh_X (p : Program) (l : Launch) (s : State) (m : MethodId) (args : Array Value) (meth : Method) (c : Code) (D : va_G) (cl : List vw_C) (Ts : List Cond) (f0 r : fh_M) (own : String) (cc : ByteArray) (nL : Nat) : Prop :=
  p.tables.exec = Jvm.exec ∧ c.code = cc ∧ c.maxLocals = nL ∧ s.vm.findClass own = some m.cls ∧ (∀ w ∈ Ts, fh_okw w = true ∧ ∀ a : Array Value, w.before a s = true) ∧ va_K D cl [] s ∧ meth.locks = false ∧ fh_W D cl s r s.heap ∧ (∀ q, r q ≠ none → ¬ fh_A f0 s q) ∧ fh_Z (fh_A f0 s) s s.heap ∧ l.stackTraces = false ∧ fh_W D cl s f0 s.heap
def fh_I (D : va_G) (cl : List vw_C) (s : State) (f0 f : fh_M) (H : Heap) (locs : List Loc) : Prop := fh_W D cl s f H ∧ va_S (fh_A f0 s) s.heap H locs ∧ (∀ q, f q ≠ none → fh_A f0 s q) ∧ ∀ q, f0 q ≠ none → f q ≠ none
def fh_G (p : Program) (l : Launch) (e : Env) (R : Room) (s : State) (m : MethodId) (args : Array Value) (below : List Frame) (meth : Method) (c : Code) (D : va_G) (cl : List vw_C) (f0 : fh_M) (nL : Nat) (Q : State → Prop) (ce sl : Nat) (f : fh_M) (pc : Nat) (lv : List (Nat × Value)) (st : List Value) : Prop :=
  ∀ (H : Heap) (locs : List Loc) (ls : Array Slot), fh_I D cl s f0 f H locs → lv_has ls nL lv → W p l e R s m args below meth c H locs ce sl Q (F0 m pc ls st)
def fh_l (f r : fh_M) (a : Nat) (x : fh_E) : Prop := f a = some x ∨ r a = some x
section FHX
variable {p : Program} {l : Launch} {e : Env} {R : Room} {s : State} {m : MethodId} {args : Array Value} {below : List Frame} {meth : Method} {c : Code} {D : va_G} {cl : List vw_C} {Ts : List Cond} {f0 r f : fh_M} {own : String} {cc : ByteArray} {nL : Nat} {Q : State → Prop} {ce sl pc : Nat} {lv : List (Nat × Value)} {st : List Value}
theorem fh_X.home (X : fh_X p l s m args meth c D cl Ts f0 r own cc nL) : s.vm.findClass own = some m.cls := X.2.2.2.1
theorem fh_X.words (X : fh_X p l s m args meth c D cl Ts f0 r own cc nL) : ∀ w ∈ Ts, w.before args s = true := fun w h => (X.2.2.2.2.1 w h).2 args
theorem fh_X.known (X : fh_X p l s m args meth c D cl Ts f0 r own cc nL) : va_K D cl [] s := X.2.2.2.2.2.1
theorem fh_X.free (X : fh_X p l s m args meth c D cl Ts f0 r own cc nL) : meth.locks = false := X.2.2.2.2.2.2.1
theorem fh_X.ro (X : fh_X p l s m args meth c D cl Ts f0 r own cc nL) : fh_W D cl s r s.heap := X.2.2.2.2.2.2.2.1
theorem fh_X.apart (X : fh_X p l s m args meth c D cl Ts f0 r own cc nL) : ∀ q, r q ≠ none → ¬ fh_A f0 s q := X.2.2.2.2.2.2.2.2.1
theorem fh_X.statics (X : fh_X p l s m args meth c D cl Ts f0 r own cc nL) : fh_Z (fh_A f0 s) s s.heap := X.2.2.2.2.2.2.2.2.2.1
theorem fh_X.still (X : fh_X p l s m args meth c D cl Ts f0 r own cc nL) : l.stackTraces = false := X.2.2.2.2.2.2.2.2.2.2.1
theorem fh_A.new {f0 : fh_M} {s : State} : ∀ q : Nat, s.heap.size ≤ q → fh_A f0 s q := fun _ h => Or.inr h
theorem fh_look {H : Heap} {locs : List Loc} {a : Nat} {x : fh_E} (X : fh_X p l s m args meth c D cl Ts f0 r own cc nL) (hI : fh_I D cl s f0 f H locs) (h : fh_l f r a x) : fh_at D cl s a x H := by
  rcases h with h | h
  · exact hI.1 a x h
  · have h1 := X.ro a x h
    exact h1.kept (hI.2.1.2.1 a h1.lt (X.apart a (by rw [h]; exact fun z => by cases z)))
/-- one cell as the kit's world -/
theorem fh_one {H : Heap} {a ci : Nat} {fs : List Value} (h : fh_at D cl s a (.inr (ci, fs)) H) : va_P D cl [(a, .inr (ci, fs))] H := by
  intro k q hk
  have hz : k < 1 := (List.getElem?_eq_some_iff.mp hk).1
  rw [show k = 0 by omega] at hk
  cases hk
  exact h
theorem fh_oneA {H : Heap} {a : Nat} {cA : ClassId} {t : vp_A} (h : H[a]? = some (vp_cell cA t)) : va_P D cl [(a, .inl (cA, t))] H := by
  intro k q hk
  have hz : k < 1 := (List.getElem?_eq_some_iff.mp hk).1
  rw [show k = 0 by omega] at hk
  cases hk
  exact h
theorem fh_tys {cA : ClassId} {ty : FieldType} (hK : va_K D cl [] s) (h : ArrOfT s cA ty ∧ va_RA s cA ty) : va_K D cl [(cA, ty)] s := by
  refine ⟨hK.1, fun k q hk => ?_⟩
  have hz : k < 1 := (List.getElem?_eq_some_iff.mp hk).1
  rw [show k = 0 by omega] at hk
  cases hk
  exact h
theorem fh_upA {A : Nat → Prop} {f : fh_M} {a : Nat} {z : fh_E} (h : ∀ q, f q ≠ none → A q) (ha : A a) : ∀ q, fh_up f a z q ≠ none → A q := fun q hq => by
  by_cases e : q = a
  · rw [e]; exact ha
  · rw [fh_up_ne _ _ e] at hq
    exact h q hq
theorem fh_upK {f0 f : fh_M} {a : Nat} {z : fh_E} (h : ∀ q, f0 q ≠ none → f q ≠ none) : ∀ q, f0 q ≠ none → fh_up f a z q ≠ none := fun q hq => by
  by_cases e : q = a
  · rw [e, fh_up_self]; exact fun z => by cases z
  · rw [fh_up_ne _ _ e]; exact h q hq
/-- a cell that was changed: the goal's hidden part again -/
theorem fh_I.set {H H1 : Heap} {locs locs1 : List Loc} {k a : Nat} {x z : fh_E} {y : va_E} (hI : fh_I D cl s f0 f H locs) (hk : (fh_li H f)[k]? = some (a, fh_re H a x)) (hx : f a = some x) (hP : va_P D cl ((fh_li H f).set k (a, y)) H1) (hS : va_S (fh_A f0 s) s.heap H1 locs1) (hz : va_at D cl (a, y) H1 → fh_at D cl s a z H1) : fh_I D cl s f0 (fh_up f a z) H1 locs1 := by
  refine ⟨fh_close hI.1 hk hP hz, hS, fh_upA hI.2.2.1 (hI.2.2.1 a (by rw [hx]; exact fun h => by cases h)), fh_upK hI.2.2.2⟩
theorem fh_I.add {H H1 : Heap} {locs1 locs : List Loc} {a : Nat} {z : fh_E} {y : va_E} (hI : fh_I D cl s f0 f H locs) (hP : va_P D cl (fh_li H f ++ [(a, y)]) H1) (hA : fh_A f0 s a) (hS : va_S (fh_A f0 s) s.heap H1 locs1) (hz : va_at D cl (a, y) H1 → fh_at D cl s a z H1) : fh_I D cl s f0 (fh_up f a z) H1 locs1 := by
  exact ⟨fh_more (A := fh_A f0 s) hI.1 hP hz, hS, fh_upA hI.2.2.1 hA, fh_upK hI.2.2.2⟩
-- reads
theorem g_getf {a ci index N k : Nat} {fs : List Value} {v : Value} {C ref : String} {T : u_T} (X : fh_X p l s m args meth c D cl Ts f0 r own cc nL) (d : decode cc pc = .ok (.getfield index, 3)) (ha : fh_l f r a (.inr (ci, fs))) (hc : cl[ci]? = some (C, T, N)) (hin : ∀ w ∈ u_ws C T N, w ∈ Ts) (hk : k < N) (hlink : Cond.fieldLink own index ref (T k).2.1 (T k).2.2.1 ∈ Ts) (hsame : ∀ x, s.fieldFound? (T k).1 (T k).2.1 (T k).2.2.1 = some x → s.fieldFound? ref (T k).2.1 (T k).2.2.1 = some x) (hv : fs[k]? = some v) (kk : fh_G p l e R s m args below meth c D cl f0 nL Q ce sl f (pc + 3) lv (v :: st)) : fh_G p l e R s m args below meth c D cl f0 nL Q ce sl f pc lv (.ref a :: st) :=
  fun H locs ls hI hl => va_get X.1 X.2.1 X.words hin X.home X.known (fh_one (fh_look X hI ha)) 0 rfl hc k hk (X.words _ hlink) hsame hv d (kk H locs ls hI hl)
theorem g_getN {a ci index N k : Nat} {fs : List Value} {v : Value} {C ref host : String} {T : u_T} (X : fh_X p l s m args meth c D cl Ts f0 r own cc nL) (d : decode cc pc = .ok (.getfield index, 3)) (ha : fh_l f r a (.inr (ci, fs))) (hc : cl[ci]? = some (C, T, N)) (hin : ∀ w ∈ u_ws C T N, w ∈ Ts) (hk : k < N) (hlink : Cond.fieldLinkNest own index ref (T k).2.1 (T k).2.2.1 host ∈ Ts) (hsame : ∀ x, s.fieldFound? (T k).1 (T k).2.1 (T k).2.2.1 = some x → s.fieldFound? ref (T k).2.1 (T k).2.2.1 = some x) (hv : fs[k]? = some v) (kk : fh_G p l e R s m args below meth c D cl f0 nL Q ce sl f (pc + 3) lv (v :: st)) : fh_G p l e R s m args below meth c D cl f0 nL Q ce sl f pc lv (.ref a :: st) :=
  fun H locs ls hI hl => va_getN X.1 X.2.1 X.words hin X.home X.known (fh_one (fh_look X hI ha)) 0 rfl hc k hk (X.words _ hlink) hsame hv d (kk H locs ls hI hl)
theorem g_alen {a n : Nat} {ty : FieldType} {x : (Nat → Int32) ⊕ (Nat → Int64) ⊕ (Nat → UInt32) ⊕ (Nat → UInt64) ⊕ (Nat → Option Nat)} (X : fh_X p l s m args meth c D cl Ts f0 r own cc nL) (d : decode cc pc = .ok (.arraylength, 1)) (ha : fh_l f r a (.inl (ty, n, x))) (kk : fh_G p l e R s m args below meth c D cl f0 nL Q ce sl f (pc + 1) lv (.int (nI n) :: st)) : fh_G p l e R s m args below meth c D cl f0 nL Q ce sl f pc lv (.ref a :: st) := fun H locs ls hI hl => by
  obtain ⟨cA, h1, h2⟩ := fh_look X hI ha
  exact va_alen X.1 X.2.1 (fh_tys X.known h1) (fh_oneA h2) 0 0 rfl rfl rfl d (kk H locs ls hI hl)
theorem g_iald {a n : Nat} {g : Nat → Int32} {i : Int32} (X : fh_X p l s m args meth c D cl Ts f0 r own cc nL) (d : decode cc pc = .ok (.iaload, 1)) (ha : fh_l f r a (.inl (.int, n, .inl g))) (hin : vp_in i n) (kk : fh_G p l e R s m args below meth c D cl f0 nL Q ce sl f (pc + 1) lv (.int (g i.toNatClampNeg) :: st)) : fh_G p l e R s m args below meth c D cl f0 nL Q ce sl f pc lv (.int i :: .ref a :: st) := fun H locs ls hI hl => by
  obtain ⟨cA, h1, h2⟩ := fh_look X hI ha
  exact va_iald X.1 X.2.1 (fh_tys X.known h1) (fh_oneA h2) 0 0 rfl rfl hin d (kk H locs ls hI hl)
theorem g_bald {a n : Nat} {g : Nat → Int32} {i : Int32} (X : fh_X p l s m args meth c D cl Ts f0 r own cc nL) (d : decode cc pc = .ok (.baload, 1)) (ha : fh_l f r a (.inl (.byte, n, .inl g))) (hin : vp_in i n) (kk : fh_G p l e R s m args below meth c D cl f0 nL Q ce sl f (pc + 1) lv (.int (g i.toNatClampNeg) :: st)) : fh_G p l e R s m args below meth c D cl f0 nL Q ce sl f pc lv (.int i :: .ref a :: st) := fun H locs ls hI hl => by
  obtain ⟨cA, h1, h2⟩ := fh_look X hI ha
  exact va_bald X.1 X.2.1 (fh_tys X.known h1) (fh_oneA h2) 0 0 rfl rfl hin d (kk H locs ls hI hl)
theorem g_zald {a n : Nat} {g : Nat → Int32} {i : Int32} (X : fh_X p l s m args meth c D cl Ts f0 r own cc nL) (d : decode cc pc = .ok (.baload, 1)) (ha : fh_l f r a (.inl (.boolean, n, .inl g))) (hin : vp_in i n) (kk : fh_G p l e R s m args below meth c D cl f0 nL Q ce sl f (pc + 1) lv (.int (g i.toNatClampNeg) :: st)) : fh_G p l e R s m args below meth c D cl f0 nL Q ce sl f pc lv (.int i :: .ref a :: st) := fun H locs ls hI hl => by
  obtain ⟨cA, h1, h2⟩ := fh_look X hI ha
  exact va_zald X.1 X.2.1 (fh_tys X.known h1) (fh_oneA h2) 0 0 rfl rfl hin d (kk H locs ls hI hl)
theorem g_lald {a n : Nat} {g : Nat → Int64} {i : Int32} (X : fh_X p l s m args meth c D cl Ts f0 r own cc nL) (d : decode cc pc = .ok (.laload, 1)) (ha : fh_l f r a (.inl (.long, n, .inr (.inl g)))) (hin : vp_in i n) (kk : fh_G p l e R s m args below meth c D cl f0 nL Q ce sl f (pc + 1) lv (.long (g i.toNatClampNeg) :: st)) : fh_G p l e R s m args below meth c D cl f0 nL Q ce sl f pc lv (.int i :: .ref a :: st) := fun H locs ls hI hl => by
  obtain ⟨cA, h1, h2⟩ := fh_look X hI ha
  exact va_lald X.1 X.2.1 (fh_tys X.known h1) (fh_oneA h2) 0 0 rfl rfl hin d (kk H locs ls hI hl)
theorem g_aald {a n : Nat} {C : String} {g : Nat → Option Nat} {i : Int32} (X : fh_X p l s m args meth c D cl Ts f0 r own cc nL) (d : decode cc pc = .ok (.aaload, 1)) (ha : fh_l f r a (.inl (.object C, n, .inr (.inr (.inr (.inr g)))))) (hin : vp_in i n) (kk : fh_G p l e R s m args below meth c D cl f0 nL Q ce sl f (pc + 1) lv (va_rf (g i.toNatClampNeg) :: st)) : fh_G p l e R s m args below meth c D cl f0 nL Q ce sl f pc lv (.int i :: .ref a :: st) := fun H locs ls hI hl => by
  obtain ⟨cA, h1, h2⟩ := fh_look X hI ha
  exact va_aldq X.1 X.2.1 (fh_tys X.known h1) (fh_oneA h2) 0 0 rfl rfl hin d (kk H locs ls hI hl)
end FHX
