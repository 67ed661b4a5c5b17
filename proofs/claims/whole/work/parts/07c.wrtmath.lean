/-! TAKING BLOCKS, WRITING A TABLE -/
def tkT (T : Nat → Int32) (need : Nat) : Nat → Nat → Int32
  | 0 => T
  | u + 1 => if T u = (-1) ∧ fcn T u < need then va_up (tkT T need u) u (nI (fcn T u)) else tkT T need u
def tkI (T : Nat → Int32) (need : Nat) : Nat → Nat → Nat
  | 0 => fun _ => 0
  | u + 1 => if T u = (-1) ∧ fcn T u < need then va_up (tkI T need u) (fcn T u) u else tkI T need u
theorem tkT_above (T : Nat → Int32) (need : Nat) : ∀ u q, u ≤ q → tkT T need u q = T q
  | 0, q, _ => rfl
  | u + 1, q, h => by
    unfold tkT
    split
    · rw [va_up_ne _ _ (by omega)]; exact tkT_above T need u q (by omega)
    · exact tkT_above T need u q (by omega)
theorem fcn_mono (T : Nat → Int32) {a b : Nat} (h : a ≤ b) : fcn T a ≤ fcn T b := by
  induction b with
  | zero => rw [Nat.le_zero.mp h]; exact Nat.le_refl _
  | succ b ih =>
    by_cases e : a = b + 1
    · rw [e]; exact Nat.le_refl _
    · have := ih (by omega)
      show fcn T a ≤ if T b = (-1) then fcn T b + 1 else fcn T b
      split <;> omega
theorem tk_stop (T : Nat → Int32) (need : Nat) {u : Nat} (h : need ≤ fcn T u) : ∀ {M : Nat}, u ≤ M → tkT T need M = tkT T need u ∧ tkI T need M = tkI T need u := by
  intro M hM
  induction M with
  | zero => rw [Nat.le_zero.mp hM]; exact ⟨rfl, rfl⟩
  | succ M ih =>
    by_cases e : u = M + 1
    · rw [e]; exact ⟨rfl, rfl⟩
    · obtain ⟨h1, h2⟩ := ih (by omega)
      have h3 := fcn_mono T (show u ≤ M by omega)
      have h4 : ¬ (T M = (-1) ∧ fcn T M < need) := fun z => by omega
      refine ⟨?_, ?_⟩
      · rw [tkT, if_neg h4]; exact h1
      · rw [tkI, if_neg h4]; exact h2
theorem tkI_lt (T : Nat → Int32) (need : Nat) : ∀ u k, k < fcn T u → k < need → tkI T need u k < u
  | 0, k, h, _ => absurd h (Nat.not_lt_zero _)
  | u + 1, k, h, hk => by
    unfold tkI
    unfold fcn at h
    by_cases e : T u = (-1)
    · rw [if_pos e] at h
      by_cases e2 : k = fcn T u
      · rw [if_pos ⟨e, by omega⟩, e2, va_up_self]; omega
      · have ih := tkI_lt T need u k (by omega) hk
        split
        · rw [va_up_ne _ _ e2]; omega
        · omega
    · rw [if_neg e] at h
      rw [if_neg (fun z => e z.1)]
      have ih := tkI_lt T need u k h hk
      omega
/-- place of byte i of a table -/
def pos (ids : Nat → Nat) (i : Nat) : Nat := ids (i / 32) * 32 + i % 32
/-- the first i bytes f written into a table's blocks -/
def wrt (B : Nat → Nat) (ids f : Nat → Nat) : Nat → Nat → Nat
  | 0 => B
  | i + 1 => va_up (wrt B ids f i) (pos ids i) (f i % 256)
theorem wrt_lt {B ids f : Nat → Nat} (hB : ∀ q, B q < 256) : ∀ t q, wrt B ids f t q < 256
  | 0, q => hB q
  | t + 1, q => by
    unfold wrt va_up
    split
    · exact Nat.mod_lt _ (by decide)
    · exact wrt_lt hB t q
/-- byte i of the entries of n rows, one behind the other; 0 behind them -/
def ser (K : Nat → Int64) (z : Nat → Nat) (V : Nat → Int64) : Nat → Nat → Nat
  | 0, _ => 0
  | n + 1, i => if i < bySum z n then ser K z V n i else if i < bySum z n + ebn (z n) then ebt (K n) (z n) (V n) (i - bySum z n) else 0
theorem bySum_mono (z : Nat → Nat) {a b : Nat} (h : a ≤ b) : bySum z a ≤ bySum z b := by
  induction b with
  | zero => rw [Nat.le_zero.mp h]; exact Nat.le_refl _
  | succ b ih =>
    by_cases e : a = b + 1
    · rw [e]; exact Nat.le_refl _
    · have := ih (by omega)
      show bySum z a ≤ bySum z b + ebn (z b)
      omega
theorem ser_at {K : Nat → Int64} {z : Nat → Nat} {V : Nat → Int64} {r i : Nat} (hi : i < ebn (z r)) : ∀ {n : Nat}, r < n → ser K z V n (bySum z r + i) = ebt (K r) (z r) (V r) i := by
  intro n hr
  induction n with
  | zero => exact absurd hr (Nat.not_lt_zero _)
  | succ n ih =>
    unfold ser
    by_cases e : r = n
    · subst e
      rw [if_neg (by omega), if_pos (by omega)]
      congr 1
      omega
    · have h1 : bySum z (r + 1) ≤ bySum z n := bySum_mono z (by omega)
      have h2 : bySum z (r + 1) = bySum z r + ebn (z r) := rfl
      rw [if_pos (by omega)]
      exact ih (by omega)
theorem ser_end {K : Nat → Int64} {z : Nat → Nat} {V : Nat → Int64} {n i : Nat} (h : bySum z n ≤ i) : ser K z V n i = 0 := by
  cases n with
  | zero => rfl
  | succ n =>
    have h2 : bySum z (n + 1) = bySum z n + ebn (z n) := rfl
    unfold ser
    rw [if_neg (by omega), if_neg (by omega)]
theorem okn_lt {n : Nat} (h : okn n) : n < 256 := by rcases h with h | h <;> omega
theorem nd1 (a : Nat) : [a].Nodup := by simp
/-- the sums of a new table's first k blocks -/
def wsm (S : Nat → Int32) (ids : Nat → Nat) (f : Nat → Int32) : Nat → Nat → Int32
  | 0 => S
  | k + 1 => va_up (wsm S ids f k) (ids k) (f (ids k))
