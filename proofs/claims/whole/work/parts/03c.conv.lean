/-! conversions of comparisons -/
theorem cv_le {a b : Nat} (ha : a < 2 ^ 31) (hb : b < 2 ^ 31) (h : nI a ≤ nI b) : a ≤ b := (nI_leI ha hb).mp h
theorem cv_nle {a b : Nat} (ha : a < 2 ^ 31) (hb : b < 2 ^ 31) (h : ¬ nI a ≤ nI b) : b < a := Nat.not_le.mp fun z => h ((nI_leI ha hb).mpr z)
theorem cv_lt {a b : Nat} (ha : a < 2 ^ 31) (hb : b < 2 ^ 31) (h : nI a < nI b) : a < b := (nI_ltI ha hb).mp h
theorem cv_nlt {a b : Nat} (ha : a < 2 ^ 31) (hb : b < 2 ^ 31) (h : ¬ nI a < nI b) : b ≤ a := Nat.not_lt.mp fun z => h ((nI_ltI ha hb).mpr z)
theorem cv_eq {a b : Nat} (ha : a < 2 ^ 31) (hb : b < 2 ^ 31) (h : nI a = nI b) : a = b := (nI_eq ha hb).mp h
theorem cv_ne {a b : Nat} (ha : a < 2 ^ 31) (hb : b < 2 ^ 31) (h : ¬ nI a = nI b) : a ≠ b := fun z => h ((nI_eq ha hb).mpr z)
theorem cv_e0 {a : Nat} (ha : a < 2 ^ 31) (h : nI a = 0) : a = 0 := (nI_eq ha (by decide)).mp (h.trans nI_0.symm)
theorem cv_n0 {a : Nat} (ha : a < 2 ^ 31) (h : ¬ nI a = 0) : 0 < a := Nat.pos_of_ne_zero fun z => h (by rw [z]; exact nI_0)
theorem cv_l0 {a : Nat} (ha : a < 2 ^ 31) (h : nI a < 0) : False := nI_pos ha h
theorem cv_le0 {a : Nat} (ha : a < 2 ^ 31) (h : nI a ≤ 0) : a = 0 := Nat.le_zero.mp ((nI_leI ha (by decide)).mp (by rw [nI_0]; exact h))
theorem cv_g0 {a : Nat} (ha : a < 2 ^ 31) (h : 0 < nI a) : 0 < a := (nI_ltI (by decide) ha).mp (by rw [nI_0]; exact h)
theorem lg_cmp_e (x y : Int64) : lg_cmp x y = 0 ↔ x = y := by
  unfold lg_cmp
  by_cases h1 : x > y
  · rw [if_pos h1]
    exact ⟨fun h => absurd h (by decide), fun h => absurd h1 (by rw [h]; exact Int64.lt_irrefl)⟩
  · rw [if_neg h1]
    by_cases h2 : x = y
    · rw [if_pos h2]
      exact ⟨fun _ => h2, fun _ => rfl⟩
    · rw [if_neg h2]
      exact ⟨fun h => absurd h (by decide), fun h => absurd h h2⟩
