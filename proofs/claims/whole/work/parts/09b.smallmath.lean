/-! SMALL THINGS -/
theorem i32c (x : Int32) {M : Nat} (hM : M < 2 ^ 31) : x < 0 ∨ nI M ≤ x ∨ ∃ j, j < M ∧ x = nI j := by
  by_cases h1 : x < 0
  · exact Or.inl h1
  · right
    by_cases h2 : nI M ≤ x
    · exact Or.inl h2
    · right
      rw [Int32.lt_iff_toInt_lt] at h1
      rw [Int32.le_iff_toInt_le] at h2
      have h0 : (0 : Int32).toInt = 0 := by decide
      rw [h0] at h1
      have hM2 : (nI M).toInt = (M : Int) := nI_toInt hM
      rw [hM2] at h2
      refine ⟨x.toInt.toNat, by omega, ?_⟩
      apply Int32.toInt_inj.mp
      rw [nI_toInt (by omega)]
      omega
/-- tables whose level is below b -/
def cUp (tb : Nat → TBr) (b : Nat) : Nat → Nat
  | 0 => 0
  | t + 1 => if (tb t).lv < b then cUp tb b t + 1 else cUp tb b t
theorem cUp_le (tb : Nat → TBr) (b : Nat) : ∀ c, cUp tb b c ≤ c
  | 0 => Nat.le_refl _
  | t + 1 => by have := cUp_le tb b t; unfold cUp; split <;> omega
def sEn (tb : Nat → TBr) : Nat → Nat
  | 0 => 0
  | t + 1 => sEn tb t + (tb t).en
theorem lvl_lt {v b : Nat} (hv : v ≤ 3) (hb : b ≤ 4) : (nI v ≤ nI b - 1) ↔ v < b := by
  rw [Int32.le_iff_toInt_le]
  have h1 : (nI v).toInt = (v : Int) := nI_toInt (by omega)
  have h2 : (nI b - 1).toInt = (b : Int) - 1 := by
    have h3 : b = 0 ∨ b = 1 ∨ b = 2 ∨ b = 3 ∨ b = 4 := by omega
    rcases h3 with h | h | h | h | h <;> subst h <;> decide
  rw [h1, h2]
  omega
/-- a length as it is told -/
def sres : Option (Nat × Int64) → Int32
  | none => (-1)
  | some x => if x.1 = 255 then (-1) else nI x.1
theorem i32_nlt {a b : Int32} (h : a ≤ b) : ¬ b < a := by
  rw [Int32.le_iff_toInt_le] at h
  rw [Int32.lt_iff_toInt_lt]
  omega
theorem i32_out {v : Int32} {b : Nat} (h : v < 0 ∨ nI b ≤ v) (hb : 1 ≤ b := by decide) (hb2 : b < 2 ^ 31 := by decide) : v.toInt < 0 ∨ (b : Int) - 1 < v.toInt := by
  rcases h with h | h
  · rw [Int32.lt_iff_toInt_lt] at h
    have h0 : (0 : Int32).toInt = 0 := by decide
    rw [h0] at h
    exact Or.inl h
  · rw [Int32.le_iff_toInt_le, nI_toInt hb2] at h
    exact Or.inr (by omega)
theorem up_lt {D : Nat → Nat} (h : ∀ q, D q < 256) {k v : Nat} (hv : v < 256) : ∀ q, va_up D k v q < 256 := fun q => by
  unfold va_up
  split
  · exact hv
  · exact h q
theorem i32_nlt' {a b : Int32} (h : ¬ b < a) : a ≤ b := by
  rw [Int32.lt_iff_toInt_lt] at h
  rw [Int32.le_iff_toInt_le]
  omega
theorem i32_nle9 {m : Int32} (h : nI 9 ≤ m) : ¬ m ≤ nI 8 := by
  rw [Int32.le_iff_toInt_le] at h ⊢
  have h1 : (nI 9).toInt = 9 := by decide
  have h2 : (nI 8).toInt = 8 := by decide
  omega
theorem nd_rot {x a b c d e f : Nat} (h : [x, a, b, c, d, e, f].Nodup) : [e, f, a, b, c, d].Nodup := by
  simp only [List.nodup_cons, List.mem_cons, List.not_mem_nil, or_false, not_or, List.nodup_nil, and_true, not_false_eq_true] at h ⊢
  omega
theorem nd_r5 {a b c d e : Nat} (h : [a, b, c, d, e].Nodup) : [e, a, b, c, d].Nodup := by
  simp only [List.nodup_cons, List.mem_cons, List.not_mem_nil, or_false, not_or, List.nodup_nil, and_true, not_false_eq_true] at h ⊢
  omega
