/-! FIRST CONTENTS -/
def ng (u q : Nat) : Int32 := if q < u then (-1) else 0
theorem ng_s (u : Nat) : va_up (ng u) u (-1) = ng (u + 1) := by
  funext q
  unfold va_up ng
  by_cases h : q = u
  · rw [if_pos h, if_pos (by omega)]
  · rw [if_neg h]
    by_cases h2 : q < u
    · rw [if_pos h2, if_pos (by omega)]
    · rw [if_neg h2, if_neg (by omega)]
theorem ng_0 : (fun _ => 0 : Nat → Int32) = ng 0 := by
  funext q
  unfold ng
  rw [if_neg (Nat.not_lt_zero _)]
theorem iniZ (cA : ClassId) (n : Nat) : vp_cell cA (n, .inl (fun _ => 0)) = arrV cA n (fun _ => defaultValue .boolean) := rfl
