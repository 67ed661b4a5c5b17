/-! THE LAW's heap: cells of ours over the tables' cells P -/
theorem ov_ov (u ws : List (Nat × fh_E)) (P : fh_M) : fh_ov (hp u) (fh_ov (hp ws) P) = fh_ov (fh_ov (hp u) (hp ws)) P := by
  funext q
  unfold fh_ov
  cases hp u q <;> rfl
theorem ov_some {ws : List (Nat × fh_E)} {P : fh_M} {q : Nat} {x : fh_E} (h : hp ws q = some x) : fh_ov (hp ws) P q = some x := by
  unfold fh_ov
  rw [h]
theorem ov_none {ws : List (Nat × fh_E)} {P : fh_M} {q : Nat} (h : hp ws q = none) : fh_ov (hp ws) P q = P q := by
  unfold fh_ov
  rw [h]
theorem hl_ov {ws : List (Nat × fh_E)} {P r : fh_M} {a : Nat} {y : fh_E} (i : Nat) (hi : ws[i]? = some (a, y)) (hn : nd ws) : fh_l (fh_ov (hp ws) P) r a y := Or.inl (ov_some (hp_get hn i hi))
/-- P has nothing where our cells are -/
def dj (P : fh_M) (al : List Nat) : Prop := ∀ q ∈ al, P q = none
theorem dj_no {P : fh_M} {ws : List (Nat × fh_E)} (h : dj P (ws.map Prod.fst)) {q : Nat} {x : fh_E} (hq : P q = some x) : hp ws q = none := hp_none (fun hm => by rw [h q hm] at hq; cases hq)
theorem hg_ov {ws u : List (Nat × fh_E)} {P : fh_M} (hn : nd ws) (is : List Nat) (h : is.map (fun i => ws[i]?) = u.map some) : ∀ q y, hp u q = some y → fh_ov (hp ws) P q = some y := fun q y hq => ov_some (hp_sub hn is h q y hq)
theorem hrx_P {ws u : List (Nat × fh_E)} {P r : fh_M} (hn : nd ws) (hd : dj P (ws.map Prod.fst)) (is : List Nat) (h : is.map (fun i => ws[i]?) = u.map some) : ∀ q x, P q = some x → r q = some x ∨ (fh_ov (hp ws) P q = some x ∧ hp u q = none) := fun q x hq => by
  have h1 := dj_no hd hq
  refine Or.inr ⟨(ov_none h1).trans hq, ?_⟩
  cases h2 : hp u q with
  | none => rfl
  | some y => rw [hp_sub hn is h q y h2] at h1; cases h1
theorem hrx_0 {f g r : fh_M} : ∀ q x, hp [] q = some x → r q = some x ∨ (f q = some x ∧ g q = none) := fun q x h => by cases h
section LAWH
variable {p : Program} {l : Launch} {e : Env} {R : Room} {s : State} {m : MethodId} {args : Array Value} {below : List Frame} {meth : Method} {c : Code} {D : va_G} {cl : List vw_C} {Ts : List Cond} {f0 r : fh_M} {own : String} {cc : ByteArray} {nL : Nat} {Q : State → Prop} {ce sl pc : Nat} {lv : List (Nat × Value)} {st : List Value}
theorem g_ovP {P : fh_M} {ws u : List (Nat × fh_E)} (is : List Nat) (ws' : List (Nat × fh_E)) (hiu : is.map (fun i => (ws[i]?).map Prod.fst) = u.map (fun c => some c.1)) (hw : hp_sets is u ws = ws') (hn : nd ws) (k : fh_G p l e R s m args below meth c D cl f0 nL Q ce sl (fh_ov (hp ws') P) (pc) lv (st)) : fh_G p l e R s m args below meth c D cl f0 nL Q ce sl (fh_ov (hp u) (fh_ov (hp ws) P)) (pc) lv (st) := by
  rw [ov_ov, hp_over hn is u hiu, hw]
  exact k
theorem g_ovPN {P : fh_M} {ws u wn wc uw : List (Nat × fh_E)} (is : List Nat) (ws' : List (Nat × fh_E)) (huw : u ++ wn = uw) (hiu : is.map (fun i => (ws[i]?).map Prod.fst) = u.map (fun c => some c.1)) (hw : hp_sets is u ws = ws') (hal : ws'.map Prod.fst = ws.map Prod.fst) (hn : nd ws) (hnn : nd uw) (hwc : wc.map Prod.fst = u.map Prod.fst) (hfr : ∀ q, hp uw q ≠ none → hp wc q = none → fh_ov (hp ws) P q = none ∧ r q = none)
    (k : dj (hp wn) (ws.map Prod.fst) → (∀ q, hp wn q ≠ none → P q = none) → fh_G p l e R s m args below meth c D cl f0 nL Q ce sl (fh_ov (hp ws') (fh_ov (hp wn) P)) (pc) lv (st)) : fh_G p l e R s m args below meth c D cl f0 nL Q ce sl (fh_ov (hp uw) (fh_ov (hp ws) P)) (pc) lv (st) := by
  subst huw
  have hA : ∀ q, hp wn q ≠ none → hp ws q = none ∧ P q = none := fun q hq => by
    have h1 := hp_apart hnn q hq
    have h2 := (hfr q (by rw [hp_app, h1]; exact hq) (hp_none (fun hm => by
      rw [hwc] at hm
      exact hp_fresh h1 hm))).1
    cases h3 : hp ws q with
    | some y => rw [ov_some h3] at h2; cases h2
    | none => rw [ov_none h3] at h2; exact ⟨rfl, h2⟩
  have e1 : fh_ov (hp (u ++ wn)) (fh_ov (hp ws) P) = fh_ov (hp ws') (fh_ov (hp wn) P) := by
    rw [← hw, ← hp_over hn is u hiu]
    funext q
    unfold fh_ov
    rw [hp_app]
    cases h1 : hp u q with
    | some y => rfl
    | none =>
      cases h2 : hp wn q with
      | some y => rw [(hA q (by rw [h2]; exact fun z => by cases z)).1]
      | none => cases hp ws q <;> rfl
  rw [e1]
  refine k (fun q hq => ?_) (fun q hq => (hA q hq).2)
  cases h1 : hp wn q with
  | none => rfl
  | some y => exact absurd hq (hp_fresh (hA q (by rw [h1]; exact fun z => by cases z)).1)
end LAWH
