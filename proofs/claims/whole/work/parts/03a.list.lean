/-! HEAPS AS LISTS of cells at different addresses -/
def hp : List (Nat × fh_E) → fh_M
  | [] => fun _ => none
  | c :: u => fun q => if q = c.1 then some c.2 else hp u q
def nd (ws : List (Nat × fh_E)) : Prop := (ws.map Prod.fst).Nodup
theorem hp_mem {ws : List (Nat × fh_E)} {q : Nat} {y : fh_E} (h : hp ws q = some y) : (q, y) ∈ ws := by
  induction ws with
  | nil => cases h
  | cons c u ih =>
    unfold hp at h
    by_cases hq : q = c.1
    · rw [if_pos hq] at h
      cases h
      rw [hq]
      exact List.mem_cons_self
    · rw [if_neg hq] at h
      exact List.mem_cons_of_mem _ (ih h)
theorem hp_none {ws : List (Nat × fh_E)} {q : Nat} (h : q ∉ ws.map Prod.fst) : hp ws q = none := by
  cases hq : hp ws q with
  | none => rfl
  | some y => exact absurd (List.mem_map.mpr ⟨_, hp_mem hq, rfl⟩) h
theorem hp_of_mem {ws : List (Nat × fh_E)} (hn : nd ws) {q : Nat} {y : fh_E} (h : (q, y) ∈ ws) : hp ws q = some y := by
  induction ws with
  | nil => cases h
  | cons c u ih =>
    have hn' : c.1 ∉ u.map Prod.fst ∧ (u.map Prod.fst).Nodup := List.nodup_cons.mp hn
    unfold hp
    rcases List.mem_cons.mp h with rfl | h
    · exact if_pos rfl
    · have hne : q ≠ c.1 := fun z => hn'.1 (z ▸ List.mem_map.mpr ⟨_, h, rfl⟩)
      rw [if_neg hne]
      exact ih hn'.2 h
theorem hp_get {ws : List (Nat × fh_E)} (hn : nd ws) (i : Nat) {a : Nat} {y : fh_E} (h : ws[i]? = some (a, y)) : hp ws a = some y := hp_of_mem hn (List.mem_of_getElem? h)
theorem nd_set {ws : List (Nat × fh_E)} (hn : nd ws) {i : Nat} {a : Nat} {y z : fh_E} (h : ws[i]? = some (a, y)) : nd (ws.set i (a, z)) := by
  have e9 : (ws.set i (a, z)).map Prod.fst = ws.map Prod.fst := by
    rw [List.map_set]
    have h1 : (ws.map Prod.fst)[i]? = some a := by rw [List.getElem?_map, h]; rfl
    apply List.ext_getElem?
    intro k
    by_cases hk : i = k
    · subst hk
      rw [List.getElem?_set_self (List.getElem?_eq_some_iff.mp h1).1, h1]
    · rw [List.getElem?_set_ne hk]
  unfold nd
  rw [e9]
  exact hn
theorem hp_put {ws : List (Nat × fh_E)} (hn : nd ws) (i : Nat) {a : Nat} {y z : fh_E} (h : ws[i]? = some (a, y)) : fh_up (hp ws) a z = hp (ws.set i (a, z)) := by
  have hn2 := nd_set (z := z) hn h
  have hl := (List.getElem?_eq_some_iff.mp h).1
  funext q
  by_cases hq : q = a
  · subst hq
    rw [fh_up_self, hp_get hn2 i (List.getElem?_set_self hl)]
  · rw [fh_up_ne _ _ hq]
    cases h1 : hp ws q with
    | some y1 =>
      obtain ⟨k, hk⟩ := List.getElem?_of_mem (hp_mem h1)
      have hki : i ≠ k := fun z9 => by
        subst z9
        rw [h] at hk
        exact hq (congrArg Prod.fst (Option.some.inj hk)).symm
      exact (hp_get hn2 k (by rw [List.getElem?_set_ne hki]; exact hk)).symm
    | none =>
      symm
      apply hp_none
      intro hm
      have e9 : (ws.set i (a, z)).map Prod.fst = ws.map Prod.fst := by
        rw [List.map_set]
        have h2 : (ws.map Prod.fst)[i]? = some a := by rw [List.getElem?_map, h]; rfl
        apply List.ext_getElem?
        intro k
        by_cases hk : i = k
        · subst hk
          rw [List.getElem?_set_self (List.getElem?_eq_some_iff.mp h2).1, h2]
        · rw [List.getElem?_set_ne hk]
      rw [e9] at hm
      obtain ⟨⟨b, y2⟩, hb, rfl⟩ := List.mem_map.mp hm
      rw [hp_of_mem hn hb] at h1
      cases h1
theorem hp_add {ws : List (Nat × fh_E)} {q : Nat} {z : fh_E} (h : hp ws q = none) : fh_up (hp ws) q z = hp (ws ++ [(q, z)]) := by
  funext k
  induction ws with
  | nil => rfl
  | cons c u ih =>
    have h1 : ¬ q = c.1 ∧ hp u q = none := by
      unfold hp at h
      by_cases hq : q = c.1
      · rw [if_pos hq] at h; cases h
      · rw [if_neg hq] at h; exact ⟨hq, h⟩
    have h2 := ih h1.2
    show (if k = q then some z else if k = c.1 then some c.2 else hp u k) = if k = c.1 then some c.2 else hp (u ++ [(q, z)]) k
    rw [← h2]
    unfold fh_up
    by_cases hk : k = q
    · have : ¬ k = c.1 := fun z9 => h1.1 (hk ▸ z9)
      rw [if_pos hk, if_neg this, if_pos hk]
    · rw [if_neg hk, if_neg hk]
theorem nd_add {ws : List (Nat × fh_E)} (hn : nd ws) {q : Nat} {z : fh_E} (h : hp ws q = none) : nd (ws ++ [(q, z)]) := by
  unfold nd
  rw [List.map_append, List.nodup_append]
  refine ⟨hn, by simp, fun a ha b hb => ?_⟩
  intro e9
  have hb' : b = q := by simpa using hb
  subst hb'
  subst e9
  obtain ⟨⟨k, y⟩, hk, rfl⟩ := List.mem_map.mp ha
  rw [hp_of_mem hn hk] at h
  cases h
theorem hp_ov_nil (f : fh_M) : fh_ov (hp []) f = f := by
  funext q
  exact fh_ov_r rfl
theorem hp_ov_cons (c : Nat × fh_E) (u : List (Nat × fh_E)) (f : fh_M) : fh_ov (hp (c :: u)) f = fh_up (fh_ov (hp u) f) c.1 c.2 := by
  funext q
  by_cases hq : q = c.1
  · have h1 : hp (c :: u) q = some c.2 := if_pos hq
    rw [fh_ov_l h1, hq, fh_up_self]
  · have h1 : hp (c :: u) q = hp u q := if_neg hq
    rw [fh_up_ne _ _ hq]
    unfold fh_ov
    rw [h1]
/-- cells laid over a list's, by their places -/
def hp_sets : List Nat → List (Nat × fh_E) → List (Nat × fh_E) → List (Nat × fh_E)
  | i :: is, c :: u, ws => (hp_sets is u ws).set i c
  | _, _, ws => ws
theorem hp_sets_fst : ∀ (is : List Nat) (u ws : List (Nat × fh_E)), is.map (fun i => (ws[i]?).map Prod.fst) = u.map (fun c => some c.1) → (hp_sets is u ws).map Prod.fst = ws.map Prod.fst
  | [], u, ws, _ => by unfold hp_sets; rfl
  | i :: is, [], ws, h => by cases h
  | i :: is, c :: u, ws, h => by
    have h1 : (ws[i]?).map Prod.fst = some c.1 := (List.cons.inj h).1
    have h2 := hp_sets_fst is u ws (List.cons.inj h).2
    unfold hp_sets
    rw [List.map_set, h2]
    have h3 : (ws.map Prod.fst)[i]? = some c.1 := by rw [List.getElem?_map]; exact h1
    apply List.ext_getElem?
    intro k
    by_cases hk : i = k
    · subst hk
      rw [List.getElem?_set_self (List.getElem?_eq_some_iff.mp h3).1, h3]
    · rw [List.getElem?_set_ne hk]
theorem hp_over {ws : List (Nat × fh_E)} (hn : nd ws) : ∀ (is : List Nat) (u : List (Nat × fh_E)), is.map (fun i => (ws[i]?).map Prod.fst) = u.map (fun c => some c.1) → fh_ov (hp u) (hp ws) = hp (hp_sets is u ws)
  | [], [], _ => by rw [hp_ov_nil]; unfold hp_sets; rfl
  | [], c :: u, h => by cases h
  | i :: is, [], h => by cases h
  | i :: is, c :: u, h => by
    have h1 : (ws[i]?).map Prod.fst = some c.1 := (List.cons.inj h).1
    have h2 := hp_over hn is u (List.cons.inj h).2
    have h4 := hp_sets_fst is u ws (List.cons.inj h).2
    rw [hp_ov_cons, h2]
    have hn2 : nd (hp_sets is u ws) := by unfold nd; rw [h4]; exact hn
    have h5 : ((hp_sets is u ws)[i]?).map Prod.fst = some c.1 := by rw [← List.getElem?_map, h4, List.getElem?_map]; exact h1
    cases h6 : (hp_sets is u ws)[i]? with
    | none => rw [h6] at h5; cases h5
    | some d9 =>
      rw [h6] at h5
      obtain ⟨a, y⟩ := d9
      have : a = c.1 := Option.some.inj h5
      subst this
      rw [hp_put hn2 i h6]
      rfl
theorem hp_sub {ws u : List (Nat × fh_E)} (hn : nd ws) (is : List Nat) (h : is.map (fun i => ws[i]?) = u.map some) : ∀ q y, hp u q = some y → hp ws q = some y := by
  intro q y hq
  obtain ⟨k, hk⟩ := List.getElem?_of_mem (hp_mem hq)
  have h1 : (is.map (fun i => ws[i]?))[k]? = some (some (q, y)) := by rw [h, List.getElem?_map, hk]; rfl
  rw [List.getElem?_map] at h1
  cases hi : is[k]? with
  | none => rw [hi] at h1; cases h1
  | some i => rw [hi] at h1; exact hp_get hn i (Option.some.inj h1)
theorem hp_nil : ∀ q y, hp [] q = some y → (False : Prop) := fun q y h => by cases h
section FHL
variable {p : Program} {l : Launch} {e : Env} {R : Room} {s : State} {m : MethodId} {args : Array Value} {below : List Frame} {meth : Method} {c : Code} {D : va_G} {cl : List vw_C} {Ts : List Cond} {f0 r : fh_M} {own : String} {cc : ByteArray} {nL : Nat} {Q : State → Prop} {ce sl pc : Nat} {lv : List (Nat × Value)} {st : List Value} {ws : List (Nat × fh_E)}
theorem h_iald {a n k : Nat} {g : Nat → Int32} {f : fh_M} (X : fh_X p l s m args meth c D cl Ts f0 r own cc nL) (d : decode cc pc = .ok (.iaload, 1)) (ha : fh_l f r a (.inl (.int, n, .inl g))) (hk : k < n) (hN : n < 2 ^ 31) (kk : fh_G p l e R s m args below meth c D cl f0 nL Q ce sl f (pc + 1) lv (.int (g k) :: st)) : fh_G p l e R s m args below meth c D cl f0 nL Q ce sl f (pc) lv (.int (nI k) :: .ref a :: st) := by
  refine g_iald X d ha (vp_in_nI hk hN) ?_
  rw [nI_clamp (Nat.lt_trans hk hN)]
  exact kk
theorem h_bald {a n k : Nat} {g : Nat → Int32} {f : fh_M} (X : fh_X p l s m args meth c D cl Ts f0 r own cc nL) (d : decode cc pc = .ok (.baload, 1)) (ha : fh_l f r a (.inl (.byte, n, .inl g))) (hk : k < n) (hN : n < 2 ^ 31) (kk : fh_G p l e R s m args below meth c D cl f0 nL Q ce sl f (pc + 1) lv (.int (g k) :: st)) : fh_G p l e R s m args below meth c D cl f0 nL Q ce sl f (pc) lv (.int (nI k) :: .ref a :: st) := by
  refine g_bald X d ha (vp_in_nI hk hN) ?_
  rw [nI_clamp (Nat.lt_trans hk hN)]
  exact kk
theorem h_zald {a n k : Nat} {g : Nat → Int32} {f : fh_M} (X : fh_X p l s m args meth c D cl Ts f0 r own cc nL) (d : decode cc pc = .ok (.baload, 1)) (ha : fh_l f r a (.inl (.boolean, n, .inl g))) (hk : k < n) (hN : n < 2 ^ 31) (kk : fh_G p l e R s m args below meth c D cl f0 nL Q ce sl f (pc + 1) lv (.int (g k) :: st)) : fh_G p l e R s m args below meth c D cl f0 nL Q ce sl f (pc) lv (.int (nI k) :: .ref a :: st) := by
  refine g_zald X d ha (vp_in_nI hk hN) ?_
  rw [nI_clamp (Nat.lt_trans hk hN)]
  exact kk
theorem h_lald {a n k : Nat} {g : Nat → Int64} {f : fh_M} (X : fh_X p l s m args meth c D cl Ts f0 r own cc nL) (d : decode cc pc = .ok (.laload, 1)) (ha : fh_l f r a (.inl (.long, n, .inr (.inl g)))) (hk : k < n) (hN : n < 2 ^ 31) (kk : fh_G p l e R s m args below meth c D cl f0 nL Q ce sl f (pc + 1) lv (.long (g k) :: st)) : fh_G p l e R s m args below meth c D cl f0 nL Q ce sl f (pc) lv (.int (nI k) :: .ref a :: st) := by
  refine g_lald X d ha (vp_in_nI hk hN) ?_
  rw [nI_clamp (Nat.lt_trans hk hN)]
  exact kk
theorem h_aald {a n k : Nat} {C : String} {g : Nat → Option Nat} {f : fh_M} (X : fh_X p l s m args meth c D cl Ts f0 r own cc nL) (d : decode cc pc = .ok (.aaload, 1)) (ha : fh_l f r a (.inl (.object C, n, .inr (.inr (.inr (.inr g)))))) (hk : k < n) (hN : n < 2 ^ 31) (kk : fh_G p l e R s m args below meth c D cl f0 nL Q ce sl f (pc + 1) lv (va_rf (g k) :: st)) : fh_G p l e R s m args below meth c D cl f0 nL Q ce sl f (pc) lv (.int (nI k) :: .ref a :: st) := by
  refine g_aald X d ha (vp_in_nI hk hN) ?_
  rw [nI_clamp (Nat.lt_trans hk hN)]
  exact kk
theorem h_iast {a n k : Nat} {g : Nat → Int32} {v : Int32} (i : Nat) (ws' : List (Nat × fh_E)) (X : fh_X p l s m args meth c D cl Ts f0 r own cc nL) (d : decode cc pc = .ok (.iastore, 1)) (hn : nd ws) (hi : ws[i]? = some (a, .inl (.int, n, .inl (g)))) (hk : k < n) (hN : n < 2 ^ 31) (hw : ws.set i (a, .inl (.int, n, .inl (upd g k v))) = ws') (kk : fh_G p l e R s m args below meth c D cl f0 nL Q ce sl (hp ws') (pc + 1) lv (st)) : fh_G p l e R s m args below meth c D cl f0 nL Q ce sl (hp ws) (pc) lv (.int v :: .int (nI k) :: .ref a :: st) := by
  refine g_iast X d (hp_get hn i hi) (vp_in_nI hk hN) ?_
  rw [nI_clamp (Nat.lt_trans hk hN), hp_put hn i hi, hw]
  exact kk
theorem h_bast {a n k : Nat} {g : Nat → Int32} {v : Int32} (i : Nat) (ws' : List (Nat × fh_E)) (X : fh_X p l s m args meth c D cl Ts f0 r own cc nL) (d : decode cc pc = .ok (.bastore, 1)) (hn : nd ws) (hi : ws[i]? = some (a, .inl (.byte, n, .inl (g)))) (hk : k < n) (hN : n < 2 ^ 31) (hw : ws.set i (a, .inl (.byte, n, .inl (upd g k (vp_nar .byte v)))) = ws') (kk : fh_G p l e R s m args below meth c D cl f0 nL Q ce sl (hp ws') (pc + 1) lv (st)) : fh_G p l e R s m args below meth c D cl f0 nL Q ce sl (hp ws) (pc) lv (.int v :: .int (nI k) :: .ref a :: st) := by
  refine g_bast X d (hp_get hn i hi) (vp_in_nI hk hN) ?_
  rw [nI_clamp (Nat.lt_trans hk hN), hp_put hn i hi, hw]
  exact kk
theorem h_zast {a n k : Nat} {g : Nat → Int32} {v : Int32} (i : Nat) (ws' : List (Nat × fh_E)) (X : fh_X p l s m args meth c D cl Ts f0 r own cc nL) (d : decode cc pc = .ok (.bastore, 1)) (hn : nd ws) (hi : ws[i]? = some (a, .inl (.boolean, n, .inl (g)))) (hk : k < n) (hN : n < 2 ^ 31) (hw : ws.set i (a, .inl (.boolean, n, .inl (upd g k (vp_nar .boolean v)))) = ws') (kk : fh_G p l e R s m args below meth c D cl f0 nL Q ce sl (hp ws') (pc + 1) lv (st)) : fh_G p l e R s m args below meth c D cl f0 nL Q ce sl (hp ws) (pc) lv (.int v :: .int (nI k) :: .ref a :: st) := by
  refine g_zast X d (hp_get hn i hi) (vp_in_nI hk hN) ?_
  rw [nI_clamp (Nat.lt_trans hk hN), hp_put hn i hi, hw]
  exact kk
theorem h_last {a n k : Nat} {g : Nat → Int64} {v : Int64} (i : Nat) (ws' : List (Nat × fh_E)) (X : fh_X p l s m args meth c D cl Ts f0 r own cc nL) (d : decode cc pc = .ok (.lastore, 1)) (hn : nd ws) (hi : ws[i]? = some (a, .inl (.long, n, .inr (.inl (g))))) (hk : k < n) (hN : n < 2 ^ 31) (hw : ws.set i (a, .inl (.long, n, .inr (.inl (vp_updL g k v)))) = ws') (kk : fh_G p l e R s m args below meth c D cl f0 nL Q ce sl (hp ws') (pc + 1) lv (st)) : fh_G p l e R s m args below meth c D cl f0 nL Q ce sl (hp ws) (pc) lv (.long v :: .int (nI k) :: .ref a :: st) := by
  refine g_last X d (hp_get hn i hi) (vp_in_nI hk hN) ?_
  rw [nI_clamp (Nat.lt_trans hk hN), hp_put hn i hi, hw]
  exact kk
theorem h_putf {a ci index N k : Nat} {fs : List Value} {v : Value} {C ref : String} {T : u_T} {ty : FieldType} (i : Nat) (ws' : List (Nat × fh_E)) (X : fh_X p l s m args meth c D cl Ts f0 r own cc nL) (d : decode cc pc = .ok (.putfield index, 3)) (hn9 : nd ws) (hi : ws[i]? = some (a, .inr (ci, fs))) (hc : cl[ci]? = some (C, T, N)) (hin : ∀ w ∈ u_ws C T N, w ∈ Ts) (ty0 : Nat → FieldType) (hty : ∀ k, k < N → parseFieldDescriptor (T k).2.2.1 = some (ty0 k)) (hnm : ∀ a, a < N → ∀ b, b < N → a ≠ b → (T a).2.1 ≠ (T b).2.1) (hk : k < N) (hlink : Cond.fieldLink own index ref (T k).2.1 (T k).2.2.1 ∈ Ts) (hsame : ∀ x, s.fieldFound? (T k).1 (T k).2.1 (T k).2.2.1 = some x → s.fieldFound? ref (T k).2.1 (T k).2.2.1 = some x) (hfin : (T k).2.2.2 = false) (hd : parseFieldDescriptor (T k).2.2.1 = some ty) (hn : narrow ty v = v) (hfit : fits ty v = true) (hl9 : k < fs.length) (hw : ws.set i (a, .inr (ci, fs.set k v)) = ws') (kk : fh_G p l e R s m args below meth c D cl f0 nL Q ce sl (hp ws') (pc + 3) lv (st)) : fh_G p l e R s m args below meth c D cl f0 nL Q ce sl (hp ws) (pc) lv (v :: .ref a :: st) := by
  refine g_putf X d (hp_get hn9 i hi) hc hin ty0 hty hnm hk hlink hsame hfin hd hn hfit hl9 ?_
  rw [hp_put hn9 i hi, hw]
  exact kk
theorem h_putN {a ci index N k : Nat} {fs : List Value} {v : Value} {C ref host : String} {T : u_T} {ty : FieldType} (i : Nat) (ws' : List (Nat × fh_E)) (X : fh_X p l s m args meth c D cl Ts f0 r own cc nL) (d : decode cc pc = .ok (.putfield index, 3)) (hn9 : nd ws) (hi : ws[i]? = some (a, .inr (ci, fs))) (hc : cl[ci]? = some (C, T, N)) (hin : ∀ w ∈ u_ws C T N, w ∈ Ts) (ty0 : Nat → FieldType) (hty : ∀ k, k < N → parseFieldDescriptor (T k).2.2.1 = some (ty0 k)) (hnm : ∀ a, a < N → ∀ b, b < N → a ≠ b → (T a).2.1 ≠ (T b).2.1) (hk : k < N) (hlink : Cond.fieldLinkNest own index ref (T k).2.1 (T k).2.2.1 host ∈ Ts) (hsame : ∀ x, s.fieldFound? (T k).1 (T k).2.1 (T k).2.2.1 = some x → s.fieldFound? ref (T k).2.1 (T k).2.2.1 = some x) (hfin : (T k).2.2.2 = false) (hd : parseFieldDescriptor (T k).2.2.1 = some ty) (hn : narrow ty v = v) (hfit : fits ty v = true) (hl9 : k < fs.length) (hw : ws.set i (a, .inr (ci, fs.set k v)) = ws') (kk : fh_G p l e R s m args below meth c D cl f0 nL Q ce sl (hp ws') (pc + 3) lv (st)) : fh_G p l e R s m args below meth c D cl f0 nL Q ce sl (hp ws) (pc) lv (v :: .ref a :: st) := by
  refine g_putN X d (hp_get hn9 i hi) hc hin ty0 hty hnm hk hlink hsame hfin hd hn hfit hl9 ?_
  rw [hp_put hn9 i hi, hw]
  exact kk
theorem h_putF {a ci index N k : Nat} {fs : List Value} {v : Value} {C ref : String} {T : u_T} {ty : FieldType} (i : Nat) (ws' : List (Nat × fh_E)) (X : fh_X p l s m args meth c D cl Ts f0 r own cc nL) (d : decode cc pc = .ok (.putfield index, 3)) (hn9 : nd ws) (hi : ws[i]? = some (a, .inr (ci, fs))) (hc : cl[ci]? = some (C, T, N)) (hin : ∀ w ∈ u_ws C T N, w ∈ Ts) (ty0 : Nat → FieldType) (hty : ∀ k, k < N → parseFieldDescriptor (T k).2.2.1 = some (ty0 k)) (hnm : ∀ a, a < N → ∀ b, b < N → a ≠ b → (T a).2.1 ≠ (T b).2.1) (hk : k < N) (hlink : Cond.fieldLink own index ref (T k).2.1 (T k).2.2.1 ∈ Ts) (hsame : ∀ x, s.fieldFound? (T k).1 (T k).2.1 (T k).2.2.1 = some x → s.fieldFound? ref (T k).2.1 (T k).2.2.1 = some x) (hfin : (T k).2.2.2 = true) (hin2 : meth.name = "<init>") (hdecl : (T k).1 = own) (hd : parseFieldDescriptor (T k).2.2.1 = some ty) (hn : narrow ty v = v) (hfit : fits ty v = true) (hl9 : k < fs.length) (hw : ws.set i (a, .inr (ci, fs.set k v)) = ws') (kk : fh_G p l e R s m args below meth c D cl f0 nL Q ce sl (hp ws') (pc + 3) lv (st)) : fh_G p l e R s m args below meth c D cl f0 nL Q ce sl (hp ws) (pc) lv (v :: .ref a :: st) := by
  refine g_putF X d (hp_get hn9 i hi) hc hin ty0 hty hnm hk hlink hsame hfin hin2 hdecl hd hn hfit hl9 ?_
  rw [hp_put hn9 i hi, hw]
  exact kk
end FHL
