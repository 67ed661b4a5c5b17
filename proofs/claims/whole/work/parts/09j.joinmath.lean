/-! JOINING -/
theorem mvd_hi' {α : Type} {rf : Nat → α} {a d n v : Nat} (h : v = a + n + d) : mvd rf a d n v = rf v := by rw [h]; exact mvd_hi rf
theorem mvd_s' {α : Type} {rf : Nat → α} {a d n v : Nat} (h : v = a + n + d) : va_up (mvd rf a d n) (a + n) (rf v) = mvd rf a d (n + 1) := by rw [h]; exact mvd_s rf
theorem pool_mono {P P' : fh_M} {rf : Nat → Option Nat} {tq ti : Nat → Nat} {tb : Nat → TBr} {c : Nat} (h : ∀ a x, P a = some x → P' a = some x) (hp9 : pool P rf tq ti tb c) : pool P' rf tq ti tb c := fun u hu => ⟨(hp9 u hu).1, h _ _ (hp9 u hu).2.1, h _ _ (hp9 u hu).2.2.1, (hp9 u hu).2.2.2⟩
theorem ov_ext {P : fh_M} {wn : List (Nat × fh_E)} (h : ∀ q, hp wn q ≠ none → P q = none) : ∀ a x, P a = some x → fh_ov (hp wn) P a = some x := fun a x ha => by
  cases h1 : hp wn a with
  | some y => rw [h a (by rw [h1]; exact fun z => by cases z)] at ha; cases ha
  | none => rw [fh_ov_r h1]; exact ha
theorem hrx_ov {ws wn wc : List (Nat × fh_E)} {P : fh_M} (hn : nd ws) (is : List Nat) (h : is.map (fun i => ws[i]?) = wn.map some) (hd : ∀ q, hp wn q ≠ none → hp wc q = none) : ∀ q x, fh_ov (hp wn) P q = some x → P q = some x ∨ (hp ws q = some x ∧ hp wc q = none) := fun q x hq => by
  cases h1 : hp wn q with
  | some y =>
    rw [fh_ov_l h1] at hq
    cases hq
    exact Or.inr ⟨hp_sub hn is h q _ h1, hd q (by rw [h1]; exact fun z => by cases z)⟩
  | none => rw [fh_ov_r h1] at hq; exact Or.inl hq
theorem ov_l {P : fh_M} {wn : List (Nat × fh_E)} (hn : nd wn) (i : Nat) {a : Nat} {y : fh_E} (h : wn[i]? = some (a, y)) : fh_ov (hp wn) P a = some y := fh_ov_l (hp_get hn i h)
theorem pool_cut' {P : fh_M} {rf : Nat → Option Nat} {tq ti : Nat → Nat} {tb : Nat → TBr} {c a e : Nat} (h : pool P rf tq ti tb c) (h0 : a ≤ e) (h1 : e ≤ c) : pool P (nul (mvd rf a (e - a) (c - e)) (a + (c - e)) c) (mvd tq a (e - a) (c - e)) (mvd ti a (e - a) (c - e)) (mvd tb a (e - a) (c - e)) (a + (c - e)) := by
  have h2 := pool_cut (a := a) (d := e - a) h (by omega)
  rw [show a + (e - a) = e by omega, show c - (e - a) = a + (c - e) by omega] at h2
  exact h2
/-- rows without marks, where these are to go -/
def mrk (R : R4) (b : Bool) : R4 := if b then (cmpF R.2.1 R.1 R.2.2.2, cmpF R.2.1 R.2.1 R.2.2.2, cmpF R.2.1 R.2.2.1 R.2.2.2, kpt R.2.1 R.2.2.2) else R
theorem lv_m1 (l : Nat) : nI l = nI (l + 1) - 1 := by
  rw [← nI_add]
  exact (Int32.add_sub_cancel _ _).symm

section FHOM
variable {p : Program} {l : Launch} {e : Env} {R : Room} {s : State} {m : MethodId} {args : Array Value} {below : List Frame} {meth : Method} {c : Code} {D : va_G} {cl : List vw_C} {Ts : List Cond} {f0 r : fh_M} {own : String} {cc : ByteArray} {nL : Nat} {Q : State → Prop} {ce sl pc : Nat} {lv : List (Nat × Value)} {st : List Value} {ws : List (Nat × fh_E)}
theorem g_ovM {u wn wc uw : List (Nat × fh_E)} (is : List Nat) (ws' : List (Nat × fh_E)) (huw : u ++ wn = uw) (hiu : is.map (fun i => (ws[i]?).map Prod.fst) = u.map (fun c => some c.1)) (hw : hp_sets is u ws ++ wn = ws') (hn : nd ws) (hnn : nd uw) (hwc : wc.map Prod.fst = u.map Prod.fst) (hfr : ∀ q, hp uw q ≠ none → hp wc q = none → hp ws q = none ∧ r q = none) (k : nd ws' → (∀ q, hp wn q ≠ none → r q = none) → fh_G p l e R s m args below meth c D cl f0 nL Q ce sl (hp ws') (pc) lv (st)) : fh_G p l e R s m args below meth c D cl f0 nL Q ce sl (fh_ov (hp uw) (hp ws)) (pc) lv (st) := by
  subst huw
  exact g_ovN is ws' hiu hw hn hnn hwc hfr k
end FHOM
