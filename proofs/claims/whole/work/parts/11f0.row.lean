section LAWP
variable {p : Program} {l : Launch} {e : Env} {R : Room} {s : State} {m : MethodId} {args : Array Value} {below : List Frame} {meth : Method} {c : Code} {D : va_G} {cl : List vw_C} {Ts : List Cond} {f0 r : fh_M} {own : String} {cc : ByteArray} {nL : Nat} {Q : State → Prop} {ce sl pc : Nat} {lv : List (Nat × Value)} {st : List Value} {ws : List (Nat × fh_E)}
theorem g_hpP {P : fh_M} {ws' : List (Nat × fh_E)} (h : ws = ws') (k : fh_G p l e R s m args below meth c D cl f0 nL Q ce sl (fh_ov (hp ws') P) (pc) lv (st)) : fh_G p l e R s m args below meth c D cl f0 nL Q ce sl (fh_ov (hp ws) P) (pc) lv (st) := h ▸ k
end LAWP
theorem ltu_s {u : Nat} {v : Int32} (hu : u + 1 < 2 ^ 31) (h : v < 0 ∨ nI (u + 1) ≤ v) : v < 0 ∨ nI u < v := h.imp id (fun z => by
  rw [Int32.le_iff_toInt_le, nI_toInt (by omega)] at z
  rw [Int32.lt_iff_toInt_lt, nI_toInt (by omega)]
  omega)
theorem rngm (v : Int32) {a : Nat} (ha : a < 2 ^ 31) : v = (-1) ∨ (∃ j, j < a ∧ v = nI j) ∨ (v < (-1) ∨ nI a ≤ v) := by
  rcases rng0 v ha with h | h
  · exact Or.inr (Or.inl h)
  · rcases h with h | h
    · by_cases e : v = (-1)
      · exact Or.inl e
      · refine Or.inr (Or.inr (Or.inl ?_))
        rw [Int32.lt_iff_toInt_lt, show (0 : Int32).toInt = 0 by decide] at h
        rw [Int32.lt_iff_toInt_lt, show ((-1) : Int32).toInt = -1 by decide]
        have : v.toInt ≠ -1 := fun z => e (Int32.toInt_inj.mp (z.trans (by decide)))
        omega
    · exact Or.inr (Or.inr (Or.inr h))
theorem crash_b1 {u : Nat} {v i : Int32} (hu : u < 2 ^ 31) (h : v < 0 ∨ nI u < v) : wnb v (nI 0) (nI u) = true → wnb i (-1) (v - nI 1) = true → False := fun h1 _ => by
  rcases h with h | h
  · rw [wnb_1 (by rw [nI_0]; exact h)] at h1; cases h1
  · rw [wnb_2 h] at h1; cases h1
theorem crash_b2 {a : Nat} {v i : Int32} (ha : a < 2 ^ 31) (h : i < (-1) ∨ nI a ≤ i) : wnb (nI a) (nI 0) v = true → wnb i (-1) (nI a - nI 1) = true → False := fun _ h1 => by
  rcases h with h | h
  · rw [wnb_1 h] at h1; cases h1
  · have h2 := (wnb_p h1)
    cases a with
    | zero =>
      have h3 : i ≤ (-1) := h2.2
      rw [Int32.le_iff_toInt_le] at h h3
      have e1 : (nI 0).toInt = 0 := by decide
      have e2 : ((-1) : Int32).toInt = -1 := by decide
      omega
    | succ a =>
      have h3 := h2.2
      rw [pk_sub (by omega), Int32.le_iff_toInt_le, nI_toInt (by omega)] at h3
      rw [Int32.le_iff_toInt_le, nI_toInt (by omega)] at h
      omega
theorem cap_E {M c : Nat} {T : Nat → Int32} {tb : Nat → TBr} (h : tInv M T tb c) {a e : Nat} (h1 : a + e ≤ c) : sEt tb e a * 9 ≤ M * 32 ∧ sMn tb e a ≤ M := by
  have h2 := sEt_le h.1 (e := e) (t := a) (by omega)
  have e1 : sMn tb c 0 = sMn tb a 0 + (sMn tb e (0 + a) + sMn tb (c - (a + e)) (0 + a + e)) := by rw [← sMn_add, ← sMn_add]; congr 1; omega
  rw [Nat.zero_add] at e1
  have h6 := h.2.2.2.2.2
  omega
