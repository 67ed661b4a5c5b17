/-! BLOCKS -/
def mixS (s : Int32) (c : Nat) : Int32 := (((s ^^^ nI c) <<< (nI 15 &&& 31)) ||| (((s ^^^ nI c).toUInt32 >>> ((nI 17).toUInt32 &&& Int32.toUInt32 31)).toInt32)) * 374761393
def sumS (s : Int32) (f : Nat → Nat) : Nat → Int32
  | 0 => s
  | t + 1 => mixS (sumS s f t) (f t)
/-- whether block j's sum is right: S the sums, T which block of its table each one is -/
def rgt (S T : Nat → Int32) (B : Nat → Nat) (j : Nat) : Bool := decide (S j = sumS (T j) (fun q => B (j * 32 + q)) 32)
theorem rgt_t {S T : Nat → Int32} {B : Nat → Nat} {j : Nat} (h : S j = sumS (T j) (fun q => B (j * 32 + q)) 32) : rgt S T B j = true := decide_eq_true h
theorem rgt_f {S T : Nat → Int32} {B : Nat → Nat} {j : Nat} (h : ¬ S j = sumS (T j) (fun q => B (j * 32 + q)) 32) : rgt S T B j = false := decide_eq_false h
/-- the first k below m that isn't right; m without -/
def fwi (ok : Nat → Bool) : Nat → Nat
  | 0 => 0
  | m + 1 => if fwi ok m < m then fwi ok m else if ok m then m + 1 else m
theorem fwi_le (ok : Nat → Bool) : ∀ m, fwi ok m ≤ m
  | 0 => Nat.le_refl _
  | m + 1 => by
    have := fwi_le ok m
    unfold fwi
    split
    · omega
    · split <;> omega
theorem fwi_below (ok : Nat → Bool) : ∀ m j, j < fwi ok m → ok j = true
  | 0, j, h => absurd h (Nat.not_lt_zero _)
  | m + 1, j, h => by
    have ih := fwi_below ok m
    have hl := fwi_le ok m
    unfold fwi at h
    split at h
    · exact ih j h
    · split at h
      · rename_i h1 h2
        by_cases hj : j < fwi ok m
        · exact ih j hj
        · have : j = m := by omega
          rw [this]; exact h2
      · exact ih j (by omega)
theorem fwi_at (ok : Nat → Bool) : ∀ m, fwi ok m < m → ok (fwi ok m) = false
  | 0, h => absurd h (Nat.not_lt_zero _)
  | m + 1, h => by
    have ih := fwi_at ok m
    unfold fwi at h ⊢
    split
    · rename_i h1
      exact ih h1
    · rename_i h1
      split
      · rename_i h2
        rw [if_neg h1, if_pos h2] at h
        omega
      · rename_i h2
        cases hb : ok m with
        | false => rfl
        | true => exact absurd hb h2
theorem fwi_is {ok : Nat → Bool} {m p : Nat} (h1 : p ≤ m) (h2 : ∀ j, j < p → ok j = true) (h3 : p < m → ok p = false) : fwi ok m = p := by
  have a1 := fwi_le ok m
  rcases Nat.lt_trichotomy (fwi ok m) p with h | h | h
  · have := fwi_at ok m (by omega)
    rw [h2 _ h] at this
    cases this
  · exact h
  · have := fwi_below ok m p h
    rw [h3 (by omega)] at this
    cases this
theorem addn (w : Int32) (a b : Nat) : w + nI a + nI b = w + nI (a + b) := by rw [Int32.add_assoc, nI_add]
theorem addz (w : Int32) : w + nI 0 = w := by rw [nI_0]; exact Int32.add_zero w
/-- free blocks below j -/
def fcn (T : Nat → Int32) : Nat → Nat
  | 0 => 0
  | j + 1 => if T j = (-1) then fcn T j + 1 else fcn T j
theorem fcn_le (T : Nat → Int32) : ∀ j, fcn T j ≤ j
  | 0 => Nat.le_refl _
  | j + 1 => by have := fcn_le T j; unfold fcn; split <;> omega
/-- the lowest block of tables whose sum is wrong -/
def lwr (S T : Nat → Int32) (B : Nat → Nat) (M : Nat) : Nat := fwi (fun j => decide (T j = (-1)) || rgt S T B j) M
/-- marks taken off: ids' first m blocks are free -/
def freT (T : Nat → Int32) (ids : Nat → Nat) : Nat → Nat → Int32
  | 0 => T
  | k + 1 => va_up (freT T ids k) (ids k) (-1)
