/-! writes, new cells -/
section FHW
variable {p : Program} {l : Launch} {e : Env} {R : Room} {s : State} {m : MethodId} {args : Array Value} {below : List Frame} {meth : Method} {c : Code} {D : va_G} {cl : List vw_C} {Ts : List Cond} {f0 r f : fh_M} {own : String} {cc : ByteArray} {nL : Nat} {Q : State → Prop} {ce sl pc : Nat} {lv : List (Nat × Value)} {st : List Value}
/-- one cell was changed, told by the heap itself -/
theorem fh_I.put {H H1 : Heap} {locs : List Loc} {a i : Nat} {x z : fh_E} (hI : fh_I D cl s f0 f H locs) (hx : f a = some x) (hz : fh_at D cl s a z H1) (hs : H1.size = H.size) (oq : ∀ q : Nat, q ≠ a → H1[q]? = H[q]?) : fh_I D cl s f0 (fh_up f a z) H1 (locs ++ [⟨a, i⟩]) := by
  have hA : fh_A f0 s a := hI.2.2.1 a (by rw [hx]; exact fun h => by cases h)
  refine ⟨fun b w hw => ?_, hI.2.1.put hs oq hA, fh_upA hI.2.2.1 hA, fh_upK hI.2.2.2⟩
  by_cases hb : b = a
  · subst hb
    rw [fh_up_self] at hw
    cases hw
    exact hz
  · rw [fh_up_ne _ _ hb] at hw
    exact (hI.1 b w hw).kept (oq b hb)
/-- one cell more, at the heap's end -/
theorem fh_I.push {H H1 : Heap} {locs : List Loc} {z : fh_E} (hI : fh_I D cl s f0 f H locs) (hz : fh_at D cl s H.size z H1) (hs : H1.size = H.size + 1) (oq : ∀ q : Nat, q < H.size → H1[q]? = H[q]?) : fh_I D cl s f0 (fh_up f H.size z) H1 locs := by
  have hA : fh_A f0 s H.size := Or.inr hI.2.1.1
  refine ⟨fun b w hw => ?_, ⟨by have := hI.2.1.1; omega, fun q h1 h2 => (oq q (Nat.lt_of_lt_of_le h1 hI.2.1.1)).trans (hI.2.1.2.1 q h1 h2), hI.2.1.2.2⟩, fh_upA hI.2.2.1 hA, fh_upK hI.2.2.2⟩
  by_cases hb : b = H.size
  · subst hb
    rw [fh_up_self] at hw
    cases hw
    exact hz
  · rw [fh_up_ne _ _ hb] at hw
    exact (hI.1 b w hw).kept (oq b (hI.1 b w hw).lt)
theorem fh_fresh {H : Heap} {locs : List Loc} (X : fh_X p l s m args meth c D cl Ts f0 r own cc nL) (hI : fh_I D cl s f0 f H locs) : f H.size = none ∧ r H.size = none := ⟨fh_none hI.1 (Nat.le_refl _), fh_none X.ro hI.2.1.1⟩
theorem g_putf {a ci index N k : Nat} {fs : List Value} {v : Value} {C ref : String} {T : u_T} {ty : FieldType} (X : fh_X p l s m args meth c D cl Ts f0 r own cc nL) (d : decode cc pc = .ok (.putfield index, 3)) (ha : f a = some (.inr (ci, fs))) (hc : cl[ci]? = some (C, T, N)) (hin : ∀ w ∈ u_ws C T N, w ∈ Ts) (ty0 : Nat → FieldType) (hty : ∀ k, k < N → parseFieldDescriptor (T k).2.2.1 = some (ty0 k)) (hnm : ∀ a, a < N → ∀ b, b < N → a ≠ b → (T a).2.1 ≠ (T b).2.1) (hk : k < N) (hlink : Cond.fieldLink own index ref (T k).2.1 (T k).2.2.1 ∈ Ts) (hsame : ∀ x, s.fieldFound? (T k).1 (T k).2.1 (T k).2.2.1 = some x → s.fieldFound? ref (T k).2.1 (T k).2.2.1 = some x) (hfin : (T k).2.2.2 = false) (hd : parseFieldDescriptor (T k).2.2.1 = some ty) (hn : narrow ty v = v) (hfit : fits ty v = true) (hl9 : k < fs.length) (kk : fh_G p l e R s m args below meth c D cl f0 nL Q ce sl (fh_up f a (.inr (ci, fs.set k v))) (pc + 3) lv (st)) : fh_G p l e R s m args below meth c D cl f0 nL Q ce sl f (pc) lv (v :: .ref a :: st) := fun H locs ls hI hl => by
  have h0 := hI.1 a _ ha
  obtain ⟨k0, hk0⟩ := fh_li_get (H := H) ha h0.lt
  refine va_put X.1 X.2.1 X.words hin ty0 hty hnm X.home X.known (fh_li_P hI.1) (fh_li_D hI.2.2.1) hI.2.1 k0 hk0 hc k hk (X.words _ hlink) hsame hfin hd hn hfit hl9 d (fun H1 locs1 hP hD hS => ?_)
  exact kk H1 locs1 ls (hI.set hk0 ha hP hS (fun h => h)) hl
theorem g_putN {a ci index N k : Nat} {fs : List Value} {v : Value} {C ref host : String} {T : u_T} {ty : FieldType} (X : fh_X p l s m args meth c D cl Ts f0 r own cc nL) (d : decode cc pc = .ok (.putfield index, 3)) (ha : f a = some (.inr (ci, fs))) (hc : cl[ci]? = some (C, T, N)) (hin : ∀ w ∈ u_ws C T N, w ∈ Ts) (ty0 : Nat → FieldType) (hty : ∀ k, k < N → parseFieldDescriptor (T k).2.2.1 = some (ty0 k)) (hnm : ∀ a, a < N → ∀ b, b < N → a ≠ b → (T a).2.1 ≠ (T b).2.1) (hk : k < N) (hlink : Cond.fieldLinkNest own index ref (T k).2.1 (T k).2.2.1 host ∈ Ts) (hsame : ∀ x, s.fieldFound? (T k).1 (T k).2.1 (T k).2.2.1 = some x → s.fieldFound? ref (T k).2.1 (T k).2.2.1 = some x) (hfin : (T k).2.2.2 = false) (hd : parseFieldDescriptor (T k).2.2.1 = some ty) (hn : narrow ty v = v) (hfit : fits ty v = true) (hl9 : k < fs.length) (kk : fh_G p l e R s m args below meth c D cl f0 nL Q ce sl (fh_up f a (.inr (ci, fs.set k v))) (pc + 3) lv (st)) : fh_G p l e R s m args below meth c D cl f0 nL Q ce sl f (pc) lv (v :: .ref a :: st) := fun H locs ls hI hl => by
  have h0 := hI.1 a _ ha
  obtain ⟨k0, hk0⟩ := fh_li_get (H := H) ha h0.lt
  refine va_putN X.1 X.2.1 X.words hin ty0 hty hnm X.home X.known (fh_li_P hI.1) (fh_li_D hI.2.2.1) hI.2.1 k0 hk0 hc k hk (X.words _ hlink) hsame hfin hd hn hfit hl9 d (fun H1 locs1 hP hD hS => ?_)
  exact kk H1 locs1 ls (hI.set hk0 ha hP hS (fun h => h)) hl
theorem g_putF {a ci index N k : Nat} {fs : List Value} {v : Value} {C ref : String} {T : u_T} {ty : FieldType} (X : fh_X p l s m args meth c D cl Ts f0 r own cc nL) (d : decode cc pc = .ok (.putfield index, 3)) (ha : f a = some (.inr (ci, fs))) (hc : cl[ci]? = some (C, T, N)) (hin : ∀ w ∈ u_ws C T N, w ∈ Ts) (ty0 : Nat → FieldType) (hty : ∀ k, k < N → parseFieldDescriptor (T k).2.2.1 = some (ty0 k)) (hnm : ∀ a, a < N → ∀ b, b < N → a ≠ b → (T a).2.1 ≠ (T b).2.1) (hk : k < N) (hlink : Cond.fieldLink own index ref (T k).2.1 (T k).2.2.1 ∈ Ts) (hsame : ∀ x, s.fieldFound? (T k).1 (T k).2.1 (T k).2.2.1 = some x → s.fieldFound? ref (T k).2.1 (T k).2.2.1 = some x) (hfin : (T k).2.2.2 = true) (hin2 : meth.name = "<init>") (hdecl : (T k).1 = own) (hd : parseFieldDescriptor (T k).2.2.1 = some ty) (hn : narrow ty v = v) (hfit : fits ty v = true) (hl9 : k < fs.length) (kk : fh_G p l e R s m args below meth c D cl f0 nL Q ce sl (fh_up f a (.inr (ci, fs.set k v))) (pc + 3) lv (st)) : fh_G p l e R s m args below meth c D cl f0 nL Q ce sl f (pc) lv (v :: .ref a :: st) := fun H locs ls hI hl => by
  have h0 := hI.1 a _ ha
  obtain ⟨k0, hk0⟩ := fh_li_get (H := H) ha h0.lt
  refine va_putF X.1 X.2.1 X.words hin ty0 hty hnm X.home X.known (fh_li_P hI.1) (fh_li_D hI.2.2.1) hI.2.1 k0 hk0 hc k hk (X.words _ hlink) hsame hfin hin2 hdecl hd hn hfit hl9 d (fun H1 locs1 hP hD hS => ?_)
  exact kk H1 locs1 ls (hI.set hk0 ha hP hS (fun h => h)) hl
theorem g_iast {a n : Nat} {g : Nat → Int32} {i : Int32} {x : Int32} (X : fh_X p l s m args meth c D cl Ts f0 r own cc nL) (d : decode cc pc = .ok (.iastore, 1)) (ha : f a = some (.inl (.int, n, .inl (g)))) (hin : vp_in i n) (kk : fh_G p l e R s m args below meth c D cl f0 nL Q ce sl (fh_up f a (.inl (.int, n, .inl (upd g i.toNatClampNeg x)))) (pc + 1) lv (st)) : fh_G p l e R s m args below meth c D cl f0 nL Q ce sl f (pc) lv (.int x :: .int i :: .ref a :: st) := fun H locs ls hI hl => by
  have h0 := hI.1 a _ ha
  obtain ⟨k0, hk0⟩ := fh_li_get (H := H) ha h0.lt
  obtain ⟨cA, h1, h2⟩ := h0
  have hk1 := hk0
  rw [fh_re_l h2] at hk1
  exact va_iast X.1 X.2.1 (fh_tys X.known h1) (fh_li_P hI.1) (fh_li_D hI.2.2.1) hI.2.1 k0 0 hk1 rfl hin d (fun H1 locs1 hP hD hS => kk H1 locs1 ls (hI.set hk0 ha hP hS (fun h => ⟨cA, h1, h⟩)) hl)
theorem g_bast {a n : Nat} {g : Nat → Int32} {i : Int32} {x : Int32} (X : fh_X p l s m args meth c D cl Ts f0 r own cc nL) (d : decode cc pc = .ok (.bastore, 1)) (ha : f a = some (.inl (.byte, n, .inl (g)))) (hin : vp_in i n) (kk : fh_G p l e R s m args below meth c D cl f0 nL Q ce sl (fh_up f a (.inl (.byte, n, .inl (upd g i.toNatClampNeg (vp_nar .byte x))))) (pc + 1) lv (st)) : fh_G p l e R s m args below meth c D cl f0 nL Q ce sl f (pc) lv (.int x :: .int i :: .ref a :: st) := fun H locs ls hI hl => by
  have h0 := hI.1 a _ ha
  obtain ⟨k0, hk0⟩ := fh_li_get (H := H) ha h0.lt
  obtain ⟨cA, h1, h2⟩ := h0
  have hk1 := hk0
  rw [fh_re_l h2] at hk1
  exact va_bast X.1 X.2.1 (fh_tys X.known h1) (fh_li_P hI.1) (fh_li_D hI.2.2.1) hI.2.1 k0 0 hk1 rfl hin d (fun H1 locs1 hP hD hS => kk H1 locs1 ls (hI.set hk0 ha hP hS (fun h => ⟨cA, h1, h⟩)) hl)
theorem g_zast {a n : Nat} {g : Nat → Int32} {i : Int32} {x : Int32} (X : fh_X p l s m args meth c D cl Ts f0 r own cc nL) (d : decode cc pc = .ok (.bastore, 1)) (ha : f a = some (.inl (.boolean, n, .inl (g)))) (hin : vp_in i n) (kk : fh_G p l e R s m args below meth c D cl f0 nL Q ce sl (fh_up f a (.inl (.boolean, n, .inl (upd g i.toNatClampNeg (vp_nar .boolean x))))) (pc + 1) lv (st)) : fh_G p l e R s m args below meth c D cl f0 nL Q ce sl f (pc) lv (.int x :: .int i :: .ref a :: st) := fun H locs ls hI hl => by
  have h0 := hI.1 a _ ha
  obtain ⟨k0, hk0⟩ := fh_li_get (H := H) ha h0.lt
  obtain ⟨cA, h1, h2⟩ := h0
  have hk1 := hk0
  rw [fh_re_l h2] at hk1
  exact va_zast X.1 X.2.1 (fh_tys X.known h1) (fh_li_P hI.1) (fh_li_D hI.2.2.1) hI.2.1 k0 0 hk1 rfl hin d (fun H1 locs1 hP hD hS => kk H1 locs1 ls (hI.set hk0 ha hP hS (fun h => ⟨cA, h1, h⟩)) hl)
theorem g_last {a n : Nat} {g : Nat → Int64} {i : Int32} {x : Int64} (X : fh_X p l s m args meth c D cl Ts f0 r own cc nL) (d : decode cc pc = .ok (.lastore, 1)) (ha : f a = some (.inl (.long, n, .inr (.inl (g))))) (hin : vp_in i n) (kk : fh_G p l e R s m args below meth c D cl f0 nL Q ce sl (fh_up f a (.inl (.long, n, .inr (.inl (vp_updL g i.toNatClampNeg x))))) (pc + 1) lv (st)) : fh_G p l e R s m args below meth c D cl f0 nL Q ce sl f (pc) lv (.long x :: .int i :: .ref a :: st) := fun H locs ls hI hl => by
  have h0 := hI.1 a _ ha
  obtain ⟨k0, hk0⟩ := fh_li_get (H := H) ha h0.lt
  obtain ⟨cA, h1, h2⟩ := h0
  have hk1 := hk0
  rw [fh_re_l h2] at hk1
  exact va_last X.1 X.2.1 (fh_tys X.known h1) (fh_li_P hI.1) (fh_li_D hI.2.2.1) hI.2.1 k0 0 hk1 rfl hin d (fun H1 locs1 hP hD hS => kk H1 locs1 ls (hI.set hk0 ha hP hS (fun h => ⟨cA, h1, h⟩)) hl)
theorem g_aastN {a n : Nat} {C : String} {g : Nat → Option Nat} {i : Int32} (X : fh_X p l s m args meth c D cl Ts f0 r own cc nL) (d : decode cc pc = .ok (.aastore, 1)) (ha : f a = some (.inl (.object C, n, .inr (.inr (.inr (.inr g)))))) (hin : vp_in i n) (kk : fh_G p l e R s m args below meth c D cl f0 nL Q ce sl (fh_up f a (.inl (.object C, n, .inr (.inr (.inr (.inr (va_up g i.toNatClampNeg none))))))) (pc + 1) lv (st)) : fh_G p l e R s m args below meth c D cl f0 nL Q ce sl f (pc) lv (.null :: .int i :: .ref a :: st) := fun H locs ls hI hl => by
  have h0 := hI.1 a _ ha
  obtain ⟨k0, hk0⟩ := fh_li_get (H := H) ha h0.lt
  obtain ⟨cA, h1, h2⟩ := h0
  have hk1 := hk0
  rw [fh_re_l h2] at hk1
  exact va_astqN X.1 X.2.1 (fh_tys X.known h1) (fh_li_P hI.1) (fh_li_D hI.2.2.1) hI.2.1 k0 0 hk1 rfl hin d (fun H1 locs1 hP hD hS => kk H1 locs1 ls (hI.set hk0 ha hP hS (fun h => ⟨cA, h1, h⟩)) hl)
theorem g_aast {a n v ci : Nat} {q : vw_C} {vs : List Value} {g : Nat → Option Nat} {i : Int32} (X : fh_X p l s m args meth c D cl Ts f0 r own cc nL) (d : decode cc pc = .ok (.aastore, 1)) (ha : f a = some (.inl (.object q.1, n, .inr (.inr (.inr (.inr g)))))) (hv : fh_l f r v (.inr (ci, vs))) (hc : cl[ci]? = some q) (hin : vp_in i n) (kk : fh_G p l e R s m args below meth c D cl f0 nL Q ce sl (fh_up f a (.inl (.object q.1, n, .inr (.inr (.inr (.inr (va_up g i.toNatClampNeg (some v)))))))) (pc + 1) lv (st)) : fh_G p l e R s m args below meth c D cl f0 nL Q ce sl f (pc) lv (.ref v :: .int i :: .ref a :: st) := fun H locs ls hI hl => by
  have hlt : i.toNatClampNeg < n := Nat.not_le.mp fun z => hin (Or.inr z)
  have h0 : ¬ i < 0 := fun z => hin (Or.inl z)
  obtain ⟨cA, h1, h2⟩ := hI.1 a _ ha
  obtain ⟨r', hr', cellV, g1, g2, g3, -⟩ := fh_look X hI hv
  have hcls := (X.known.1 ci q hc).2
  obtain ⟨kA, comp, k1, k2, k3, -⟩ := h1.2
  have hcomp : comp = D.1 ci := Option.some.inj (k3.symm.trans hcls.1)
  subst hcomp
  obtain ⟨kC, hkC, -⟩ := hcls.2
  refine W.aast X.1 X.2.1 h2 (fun z h => by cases h) (fun h => by cases h) k1 k2 rfl hkC ⟨h0, by show _ < (arrV _ _ _).slots.size; rw [arrV_size]; exact hlt⟩ g1 (fun z h => by rw [g3] at h; cases h) (by rw [g2]; exact hkC) (by rw [g2]; exact va_assign hcls) rfl rfl d fun H1 e9 z9 oq => ?_
  refine kk H1 _ ls (hI.put ha ⟨cA, h1, ?_⟩ z9 oq) hl
  rw [e9, vp_cell_q, vp_cell_q, arrV_store]
  congr 2
  funext z
  by_cases hz : z = i.toNatClampNeg
  · subst hz
    simp [updV, va_up, va_rf]
  · simp [updV, va_up, hz]
theorem g_new {index N ci : Nat} {C : String} {T : u_T} (fs : List Value) (X : fh_X p l s m args meth c D cl Ts f0 r own cc nL) (d : decode cc pc = .ok (.new index, 3)) (hc : cl[ci]? = some (C, T, N)) (hin : ∀ w ∈ u_ws C T N, w ∈ Ts) (ty0 : Nat → FieldType) (hty : ∀ k, k < N → parseFieldDescriptor (T k).2.2.1 = some (ty0 k)) (hlink : Cond.classLink own index C ∈ Ts) (hinst : Cond.instantiable C N ∈ Ts) (hini : Cond.initialized C ∈ Ts) (hfs : ∀ j, j < N → defaultValue (ty0 j) = vp_V fs j) (h1 : ce + 1 ≤ R.cells) (h2 : sl + N ≤ R.slots) (kk : ∀ q : Nat, f q = none ∧ r q = none → fh_G p l e R s m args below meth c D cl f0 nL Q (ce + 1) (sl + N) (fh_up f q (.inr (ci, fs))) (pc + 3) lv (.ref q :: st)) : fh_G p l e R s m args below meth c D cl f0 nL Q ce sl f (pc) lv (st) := fun H locs ls hI hl => by
  have hKn := X.known.1 ci _ hc
  refine W.newcK X.1 X.2.1 X.home (X.words _ hlink) (X.words _ hinst) (X.words _ hini) rfl d h1 h2 hKn.2.1 rfl fun H1 kC hkC e1 z1 o1 => ?_
  exact kk H.size (fh_fresh X hI) H1 locs ls (hI.push ⟨_, hc, (u_born ty0 X.words hin hKn hkC e1 hty).to hfs⟩ z1 o1) hl
theorem g_newa {n : Int32} {N9 : Nat} {atype : ArrayType} {ty : FieldType} (a0 : vp_A) (X : fh_X p l s m args meth c D cl Ts f0 r own cc nL) (d : decode cc pc = .ok (.newarray atype, 2)) (hty : newarray.typeOf atype = ty) (hcl : Cond.arrayClass ty ∈ Ts) (hz : ∀ cA : ClassId, vp_cell cA a0 = arrV cA N9 (fun _ => defaultValue ty)) (hn : n = nI N9) (hN : N9 < 2 ^ 20) (h1 : ce + 1 ≤ R.cells) (h2 : sl + N9 ≤ R.slots) (kk : ∀ q : Nat, f q = none ∧ r q = none → fh_G p l e R s m args below meth c D cl f0 nL Q (ce + 1) (sl + N9) (fh_up f q (.inl (ty, a0))) (pc + 2) lv (.ref q :: st)) : fh_G p l e R s m args below meth c D cl f0 nL Q ce sl f (pc) lv (.int n :: st) := fun H locs ls hI hl => by
  subst hty
  subst hn
  have hb9 : N9 * componentBytes (newarray.typeOf atype) ≤ 536870912 := by
    have h8 : componentBytes (newarray.typeOf atype) ≤ 8 := by cases atype <;> decide
    calc N9 * componentBytes (newarray.typeOf atype) ≤ N9 * 8 := Nat.mul_le_mul_left _ h8
      _ ≤ 536870912 := by omega
  refine va_newaK X.1 X.2.1 (X.words _ hcl) rfl d rfl (nI_pos (by omega)) (nI_clamp (by omega)) hb9 h1 h2 rfl fun H1 cA e1 z1 o1 hAr hNm => ?_
  exact kk H.size (fh_fresh X hI) H1 locs ls (hI.push ⟨cA, ⟨hAr, by cases atype <;> exact hNm⟩, by rw [hz]; exact e1⟩ z1 o1) hl
theorem g_newq {index N9 : Nat} {C : String} (X : fh_X p l s m args meth c D cl Ts f0 r own cc nL) (d : decode cc pc = .ok (.anewarray index, 3)) (hlink : Cond.classLink own index C ∈ Ts) (hov : Cond.arrayOver (.object C) ∈ Ts) (hN : N9 < 2 ^ 20) (h1 : ce + 1 ≤ R.cells) (h2 : sl + N9 ≤ R.slots) (kk : ∀ q : Nat, f q = none → fh_G p l e R s m args below meth c D cl f0 nL Q (ce + 1) (sl + N9) (fh_up f q (.inl (.object C, N9, .inr (.inr (.inr (.inr (fun _ => none))))))) (pc + 3) lv (.ref q :: st)) : fh_G p l e R s m args below meth c D cl f0 nL Q ce sl f (pc) lv (.int (nI N9) :: st) := fun H locs ls hI hl => by
  refine va_newq X.1 X.2.1 X.home (X.words _ hlink) (va_AO.of (X.words _ hov)) X.known (fh_li_P hI.1) (fh_li_D hI.2.2.1) hI.2.1 fh_A.new (nI_pos (by omega)) (nI_clamp (by omega)) (by omega) h1 h2 d (fun q cA H1 hK hP hD hS => ?_)
  have hlast : ∀ z : Nat × va_E, (fh_li H f ++ [z])[(fh_li H f).length]? = some z := fun z => by simp
  have hq : f q = none := by
    cases hz : f q with
    | none => rfl
    | some x =>
      obtain ⟨j, hj⟩ := fh_li_get hz (hI.1 q x hz).lt
      have h4 := (List.getElem?_eq_some_iff.mp hj).1
      have h3 := hD.1 j (fh_li H f).length (q, fh_re H q x) _ (by rw [List.getElem?_append_left h4]; exact hj) (hlast _) rfl
      omega
  exact kk q hq H1 locs ls (hI.add hP (hD.2 (fh_li H f).length _ (hlast _)) hS (fun h => ⟨cA, hK.2 0 _ rfl, h⟩)) hl
theorem g_objInit {a idx : Nat} (X : fh_X p l s m args meth c D cl Ts f0 r own cc nL) (d : decode cc pc = .ok (.invokespecial idx, 3)) (hlink : Cond.methodLink own idx Lib.objectInit ∈ Ts) (hinst : Cond.instanceMethod Lib.objectInit ∈ Ts) (hcode : Cond.code Lib.objectInit ⟨#[0xb1]⟩ 1 none ∈ Ts) (hfr : 1 ≤ R.frames) (hlo : (st.map fun v => v.category).sum + 12 ≤ R.locals) (kk : fh_G p l e R s m args below meth c D cl f0 nL Q ce sl f (pc + 3) lv (st)) : fh_G p l e R s m args below meth c D cl f0 nL Q ce sl f (pc) lv (.ref a :: st) := fun H locs ls hI hl =>
  W.objInit X.1 X.2.1 X.home (X.words _ hlink) (X.words _ hinst) (X.words _ hcode) rfl (by rw [X.2.2.1]; exact hl.1) rfl d hfr (by show 2 * 0 + _ + _ ≤ _; omega) (kk H locs ls hI hl)
theorem g_copyi {a n index : Nat} {ty : FieldType} {g : Nat → Int32} {sp dp k : Nat} (X : fh_X p l s m args meth c D cl Ts f0 r own cc nL) (d : decode cc pc = .ok (.invokestatic index, 3)) (hlink : Cond.methodLink own index arraycopyName ∈ Ts) (hnat : Cond.native arraycopyName ∈ Ts) (hstat : Cond.static arraycopyName ∈ Ts) (hini : Cond.initialized "java/lang/System" ∈ Ts) (ha : f a = some (.inl (ty, n, .inl (g)))) (hprim : refKind ty = false) (hfit : ∀ x, fits ty (.int x) = true) (hn : n < 2 ^ 31) (h4 : sp + k ≤ n) (h5 : dp + k ≤ n) (hfr : 1 ≤ R.frames) (hlo : (st.map fun v => v.category).sum + (nativeFrameWords "java/lang/System" "arraycopy" 5 + 11) ≤ R.locals) (kk : fh_G p l e R s m args below meth c D cl f0 nL Q ce sl (fh_up f a (.inl (ty, n, .inl (va_cpy g g sp dp k)))) (pc + 3) lv (st)) : fh_G p l e R s m args below meth c D cl f0 nL Q ce sl f (pc) lv (.int (nI k) :: .int (nI dp) :: .ref a :: .int (nI sp) :: .ref a :: st) := fun H locs ls hI hl => by
  have h0 := hI.1 a _ ha
  obtain ⟨k0, hk0⟩ := fh_li_get (H := H) ha h0.lt
  obtain ⟨cA, h1, h2⟩ := h0
  have hk1 := hk0
  rw [fh_re_l h2] at hk1
  have c1 : (nI sp).toNatClampNeg = sp := nI_clamp (by omega)
  have c2 : (nI dp).toNatClampNeg = dp := nI_clamp (by omega)
  have c3 : (nI k).toNatClampNeg = k := nI_clamp (by omega)
  refine va_copyi X.1 X.2.1 (by rw [X.2.2.1]; exact hl.1.symm) X.home (X.words _ hlink) (X.words _ hnat) (X.words _ hstat) (X.words _ hini) (fh_tys X.known h1) (fh_li_P hI.1) (fh_li_D hI.2.2.1) hI.2.1 k0 k0 0 0 hk1 hk1 rfl rfl hprim (nI_pos (by omega)) (nI_pos (by omega)) (nI_pos (by omega)) (by rw [c1, c3]; exact h4) (by rw [c2, c3]; exact h5) (fun i _ => hfit _) hfr hlo d (fun H1 locs1 hP hD hS => ?_)
  rw [c1, c2, c3] at hP
  exact kk H1 locs1 ls (hI.set hk0 ha hP hS (fun h => ⟨cA, h1, h⟩)) hl
theorem g_copyl {a n index : Nat} {ty : FieldType} {g : Nat → Int64} {sp dp k : Nat} (X : fh_X p l s m args meth c D cl Ts f0 r own cc nL) (d : decode cc pc = .ok (.invokestatic index, 3)) (hlink : Cond.methodLink own index arraycopyName ∈ Ts) (hnat : Cond.native arraycopyName ∈ Ts) (hstat : Cond.static arraycopyName ∈ Ts) (hini : Cond.initialized "java/lang/System" ∈ Ts) (ha : f a = some (.inl (ty, n, .inr (.inl (g))))) (hprim : refKind ty = false) (hfit : ∀ x, fits ty (.long x) = true) (hn : n < 2 ^ 31) (h4 : sp + k ≤ n) (h5 : dp + k ≤ n) (hfr : 1 ≤ R.frames) (hlo : (st.map fun v => v.category).sum + (nativeFrameWords "java/lang/System" "arraycopy" 5 + 11) ≤ R.locals) (kk : fh_G p l e R s m args below meth c D cl f0 nL Q ce sl (fh_up f a (.inl (ty, n, .inr (.inl (va_cpy g g sp dp k))))) (pc + 3) lv (st)) : fh_G p l e R s m args below meth c D cl f0 nL Q ce sl f (pc) lv (.int (nI k) :: .int (nI dp) :: .ref a :: .int (nI sp) :: .ref a :: st) := fun H locs ls hI hl => by
  have h0 := hI.1 a _ ha
  obtain ⟨k0, hk0⟩ := fh_li_get (H := H) ha h0.lt
  obtain ⟨cA, h1, h2⟩ := h0
  have hk1 := hk0
  rw [fh_re_l h2] at hk1
  have c1 : (nI sp).toNatClampNeg = sp := nI_clamp (by omega)
  have c2 : (nI dp).toNatClampNeg = dp := nI_clamp (by omega)
  have c3 : (nI k).toNatClampNeg = k := nI_clamp (by omega)
  refine va_copyl X.1 X.2.1 (by rw [X.2.2.1]; exact hl.1.symm) X.home (X.words _ hlink) (X.words _ hnat) (X.words _ hstat) (X.words _ hini) (fh_tys X.known h1) (fh_li_P hI.1) (fh_li_D hI.2.2.1) hI.2.1 k0 k0 0 0 hk1 hk1 rfl rfl hprim (nI_pos (by omega)) (nI_pos (by omega)) (nI_pos (by omega)) (by rw [c1, c3]; exact h4) (by rw [c2, c3]; exact h5) (fun i _ => hfit _) hfr hlo d (fun H1 locs1 hP hD hS => ?_)
  rw [c1, c2, c3] at hP
  exact kk H1 locs1 ls (hI.set hk0 ha hP hS (fun h => ⟨cA, h1, h⟩)) hl
end FHW
