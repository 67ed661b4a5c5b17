theorem dj_ov {P : fh_M} {wn : List (Nat × fh_E)} {al : List Nat} (h1 : dj (hp wn) al) (h2 : dj P al) : dj (fh_ov (hp wn) P) al := fun q hq => by
  rw [ov_none (h1 q hq)]
  exact h2 q hq
theorem bySum_ge (z : Nat → Nat) : ∀ n, 9 * n ≤ bySum z n
  | 0 => Nat.le_refl _
  | n + 1 => by
    have h1 := bySum_ge z n
    have h2 := ebn_ge (z n)
    rw [bySum]
    omega
