/-! THE START -/
theorem fcn_ng {M : Nat} : ∀ j, j ≤ M → fcn (ng M) j = j
  | 0 => fun _ => rfl
  | j + 1 => fun h => by
    rw [fcn, fcn_ng j (by omega), if_pos (by unfold ng; rw [if_pos (by omega)])]
theorem tInv_0 {M : Nat} {tb : Nat → TBr} : tInv M (ng M) tb 0 := by
  refine ⟨fun t ht => absurd ht (Nat.not_lt_zero _), fun a b _ h => absurd h (Nat.not_lt_zero _), fun t k ht => absurd ht (Nat.not_lt_zero _), fun t t' k k' ht => absurd ht (Nat.not_lt_zero _), fun j hj h => ?_, ?_⟩
  · exact absurd (by unfold ng; rw [if_pos hj]) h
  · rw [fcn_ng M (Nat.le_refl _)]
    rfl
theorem rX_0 {M : Nat} : rX (fun _ => 0) (ng M) M := fun j hj => Or.inl ⟨rfl, by unfold ng; rw [if_pos hj]⟩
theorem tbA_0 {lv en mn : Nat → Nat} {fl : Nat → Int64} {bk : Nat → Nat} {tb : Nat → TBr} : tbA lv en mn fl bk tb 0 := fun t ht => absurd ht (Nat.not_lt_zero _)
