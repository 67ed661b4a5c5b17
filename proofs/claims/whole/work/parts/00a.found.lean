/-! A HEAP AS A FUNCTION: which cells are known, by address; goals that hide the machine's own numbers. -/
/-- a cell: an array (its component type, its length and contents) or an object (the number of its class, its fields) -/
abbrev fh_E : Type := (FieldType × vp_A) ⊕ (Nat × List Value)
abbrev fh_M : Type := Nat → Option fh_E
def fh_up (f : fh_M) (a : Nat) (x : fh_E) : fh_M := fun q => if q = a then some x else f q
theorem fh_up_self (f : fh_M) (a : Nat) (x : fh_E) : fh_up f a x a = some x := if_pos rfl
theorem fh_up_ne (f : fh_M) {a q : Nat} (x : fh_E) (h : q ≠ a) : fh_up f a x q = f q := if_neg h
/-- behind a call: what came back lies over what was there -/
def fh_ov (g f : fh_M) : fh_M := fun q => match g q with
  | some x => some x
  | none => f q
def fh_at (D : va_G) (cl : List vw_C) (U : State) (a : Nat) (x : fh_E) (H : Heap) : Prop := match x with
  | .inl t => ∃ cA : ClassId, (ArrOfT U cA t.1 ∧ va_RA U cA t.1) ∧ H[a]? = some (vp_cell cA t.2)
  | .inr o => ∃ r : vw_C, cl[o.1]? = some r ∧ t_OB a (D.1 o.1) r.2.2 (D.2 o.1) H (vp_V o.2)
def fh_W (D : va_G) (cl : List vw_C) (U : State) (f : fh_M) (H : Heap) : Prop := ∀ (a : Nat) (x : fh_E), f a = some x → fh_at D cl U a x H
theorem fh_at.kept {D : va_G} {cl : List vw_C} {U : State} {a : Nat} {x : fh_E} {H H1 : Heap} (h : fh_at D cl U a x H) (hq : H1[a]? = H[a]?) : fh_at D cl U a x H1 := by
  cases x with
  | inl t =>
    obtain ⟨cA, h1, h2⟩ := h
    exact ⟨cA, h1, hq.trans h2⟩
  | inr o =>
    obtain ⟨r, h1, h2⟩ := h
    exact ⟨r, h1, h2.kept hq⟩
theorem fh_at.moved {D : va_G} {cl : List vw_C} {u U : State} {a : Nat} {x : fh_E} {H : Heap} (hvm : u.vm.Alike U.vm) (h : fh_at D cl u a x H) : fh_at D cl U a x H := by
  cases x with
  | inl t =>
    obtain ⟨cA, h1, h2⟩ := h
    exact ⟨cA, ⟨arrOfT_moved hvm h1.1, h1.2.moved hvm⟩, h2⟩
  | inr o => exact h
theorem fh_at.lt {D : va_G} {cl : List vw_C} {U : State} {a : Nat} {x : fh_E} {H : Heap} (h : fh_at D cl U a x H) : a < H.size := by
  cases x with
  | inl t =>
    obtain ⟨cA, h1, h2⟩ := h
    exact (Array.getElem?_eq_some_iff.mp h2).1
  | inr o =>
    obtain ⟨r, h1, cell, h2, -⟩ := h
    exact (Array.getElem?_eq_some_iff.mp h2).1
theorem fh_W.moved {D : va_G} {cl : List vw_C} {u U : State} {f : fh_M} {H : Heap} (hvm : u.vm.Alike U.vm) (h : fh_W D cl u f H) : fh_W D cl U f H := fun a x hx => (h a x hx).moved hvm
theorem fh_W.sub {D : va_G} {cl : List vw_C} {U : State} {f g : fh_M} {H : Heap} (h : fh_W D cl U f H) (hs : ∀ a x, g a = some x → f a = some x) : fh_W D cl U g H := fun a x hx => h a x (hs a x hx)
/-- the kit's words for a cell, its class read off the heap -/
def fh_re (H : Heap) (q : Nat) (x : fh_E) : va_E := match x with
  | .inl t => .inl (((H[q]?).map (fun c => c.cls)).getD 0, t.2)
  | .inr o => .inr o
def fh_li (H : Heap) (f : fh_M) : va_W := (List.range H.size).filterMap (fun q => (f q).map (fun x => (q, fh_re H q x)))
theorem fh_cls (cA : ClassId) (x : vp_A) : (vp_cell cA x).cls = cA := by
  obtain ⟨n, f | f | f | f | f⟩ := x <;> rfl
theorem fh_re_l {H : Heap} {q : Nat} {t : FieldType × vp_A} {cA : ClassId} (h : H[q]? = some (vp_cell cA t.2)) : fh_re H q (.inl t) = .inl (cA, t.2) := by
  simp only [fh_re, h, Option.map_some, Option.getD_some, fh_cls]
theorem fh_at.va {D : va_G} {cl : List vw_C} {U : State} {a : Nat} {x : fh_E} {H : Heap} (h : fh_at D cl U a x H) : va_at D cl (a, fh_re H a x) H := by
  cases x with
  | inl t =>
    obtain ⟨cA, h1, h2⟩ := h
    rw [fh_re_l h2]
    exact h2
  | inr o => exact h
theorem fh_li_mem {H : Heap} {f : fh_M} {q : Nat × va_E} (h : q ∈ fh_li H f) : ∃ x, f q.1 = some x ∧ q.2 = fh_re H q.1 x := by
  obtain ⟨a, -, h2⟩ := List.mem_filterMap.mp h
  cases hf : f a with
  | none => rw [hf] at h2; cases h2
  | some x =>
    rw [hf] at h2
    cases h2
    exact ⟨x, hf, rfl⟩
theorem fh_li_get {H : Heap} {f : fh_M} {a : Nat} {x : fh_E} (h : f a = some x) (hl : a < H.size) : ∃ k : Nat, (fh_li H f)[k]? = some (a, fh_re H a x) :=
  List.getElem?_of_mem (List.mem_filterMap.mpr ⟨a, List.mem_range.mpr hl, by rw [h]; rfl⟩)
theorem fh_li_P {D : va_G} {cl : List vw_C} {U : State} {f : fh_M} {H : Heap} (h : fh_W D cl U f H) : va_P D cl (fh_li H f) H := by
  intro k q hk
  obtain ⟨x, h1, h2⟩ := fh_li_mem (List.mem_of_getElem? hk)
  obtain ⟨a, e⟩ := q
  have h3 : e = fh_re H a x := h2
  subst h3
  exact (h a x h1).va
theorem fh_li_D {A : Nat → Prop} {f : fh_M} {H : Heap} (hA : ∀ q, f q ≠ none → A q) : va_D A (fh_li H f) := by
  have hp : (fh_li H f).Pairwise (fun p q => p.1 < q.1) := by
    refine List.Pairwise.filterMap _ ?_ List.pairwise_lt_range
    intro a a' hlt b hb b' hb'
    obtain ⟨x, -, e1⟩ := Option.map_eq_some_iff.mp hb
    obtain ⟨y, -, e2⟩ := Option.map_eq_some_iff.mp hb'
    rw [← e1, ← e2]
    exact hlt
  rw [List.pairwise_iff_getElem] at hp
  refine ⟨fun i j p q hi hj e => ?_, fun k q hk => ?_⟩
  · obtain ⟨li, ei⟩ := List.getElem?_eq_some_iff.mp hi
    obtain ⟨lj, ej⟩ := List.getElem?_eq_some_iff.mp hj
    rcases Nat.lt_trichotomy i j with h | h | h
    · have := hp i j li lj h
      rw [ei, ej] at this
      omega
    · exact h
    · have := hp j i lj li h
      rw [ei, ej] at this
      omega
  · obtain ⟨x, h1, -⟩ := fh_li_mem (List.mem_of_getElem? hk)
    exact hA q.1 (by rw [h1]; exact fun h => by cases h)
/-- one cell was changed: the others are as they were -/
theorem fh_close {D : va_G} {cl : List vw_C} {U : State} {f : fh_M} {H H1 : Heap} {k a : Nat} {x z : fh_E} {y : va_E} (hW : fh_W D cl U f H) (hk : (fh_li H f)[k]? = some (a, fh_re H a x)) (hP : va_P D cl ((fh_li H f).set k (a, y)) H1) (hz : va_at D cl (a, y) H1 → fh_at D cl U a z H1) : fh_W D cl U (fh_up f a z) H1 := by
  have hl := (List.getElem?_eq_some_iff.mp hk).1
  intro b w hw
  by_cases hb : b = a
  · subst hb
    rw [fh_up_self] at hw
    cases hw
    exact hz (hP k _ (List.getElem?_set_self hl))
  · rw [fh_up_ne _ _ hb] at hw
    have h0 := hW b w hw
    obtain ⟨j, hj⟩ := fh_li_get hw h0.lt
    have hjk : j ≠ k := fun e => by
      subst e
      rw [hk] at hj
      exact hb (congrArg Prod.fst (Option.some.inj hj)).symm
    have h1 := hP j _ (by rw [List.getElem?_set_ne (Ne.symm hjk)]; exact hj)
    cases w with
    | inl t =>
      obtain ⟨cA, g1, g2⟩ := h0
      rw [fh_re_l g2] at h1
      exact ⟨cA, g1, h1⟩
    | inr o => exact h1
/-- one cell more -/
theorem fh_more {D : va_G} {cl : List vw_C} {U : State} {f : fh_M} {H H1 : Heap} {A : Nat → Prop} {a : Nat} {z : fh_E} {y : va_E} (hW : fh_W D cl U f H) (hP : va_P D cl (fh_li H f ++ [(a, y)]) H1) (hz : va_at D cl (a, y) H1 → fh_at D cl U a z H1) : fh_W D cl U (fh_up f a z) H1 := by
  intro b w hw
  by_cases hb : b = a
  · subst hb
    rw [fh_up_self] at hw
    cases hw
    exact hz (hP (fh_li H f).length _ (by simp))
  · rw [fh_up_ne _ _ hb] at hw
    have h0 := hW b w hw
    obtain ⟨j, hj⟩ := fh_li_get hw h0.lt
    have h1 := hP j _ (by rw [List.getElem?_append_left (List.getElem?_eq_some_iff.mp hj).1]; exact hj)
    cases w with
    | inl t =>
      obtain ⟨cA, g1, g2⟩ := h0
      rw [fh_re_l g2] at h1
      exact ⟨cA, g1, h1⟩
    | inr o => exact h1
theorem fh_none {D : va_G} {cl : List vw_C} {U : State} {f : fh_M} {H : Heap} {q : Nat} (hW : fh_W D cl U f H) (h : H.size ≤ q) : f q = none := by
  cases hq : f q with
  | none => rfl
  | some x => exact absurd (hW q x hq).lt (by omega)
