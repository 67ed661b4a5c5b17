/-! DOING THE LOG AGAIN -/
def okS (B : Nat → Nat) (p u : Nat) : Prop := okE (fun j => B (p + j)) p u ∧ p + ebn (B (p + 8)) < u ∧ B (p + ebn (B (p + 8))) = smf (fun j => B (p + j)) (ebn (B (p + 8))) % 256
def okSb (B : Nat → Nat) (p u : Nat) : Bool := decide (p + 9 ≤ u) && (decide (B (p + 8) ≤ 8) || decide (B (p + 8) = 255)) && decide (p + ebn (B (p + 8)) < u) && decide (B (p + ebn (B (p + 8))) = smf (fun j => B (p + j)) (ebn (B (p + 8))) % 256)
theorem okS_t {B : Nat → Nat} {p u : Nat} (h : okS B p u) : okSb B p u = true := by
  obtain ⟨⟨h1, h2, h3⟩, h4, h5⟩ := h
  unfold okSb
  rw [decide_eq_true h1, decide_eq_true h4, decide_eq_true h5]
  have h6 : (decide (B (p + 8) ≤ 8) || decide (B (p + 8) = 255)) = true := by
    rcases h2 with h2 | h2
    · rw [decide_eq_true h2]; rfl
    · rw [decide_eq_true h2, Bool.or_true]
  rw [h6]
  rfl
theorem okS_f {B : Nat → Nat} {p u : Nat} (h : ¬ okS B p u) : okSb B p u = false := by
  cases hb : okSb B p u with
  | false => rfl
  | true =>
    exfalso
    apply h
    unfold okSb at hb
    simp only [Bool.and_eq_true, Bool.or_eq_true, decide_eq_true_eq] at hb
    obtain ⟨⟨⟨h1, h2⟩, h3⟩, h4⟩ := hb
    exact ⟨⟨h1, h2, Nat.le_of_lt h3⟩, h3, h4⟩
/-- the entry at p: its key, its value -/
def enK (B : Nat → Nat) (p : Nat) : Int64 := rdK (fun j => B (p + j)) 8
def enV (B : Nat → Nat) (p : Nat) : Int64 := rdK (fun j => B (p + (9 + j))) (ebn (B (p + 8)) - 9)
/-- entries from p on are done again, n9 at most -/
def redo (B : Nat → Nat) (u N : Nat) : Nat → R4 → Nat → R4 × Nat
  | 0, S, p => (S, p)
  | t + 1, S, p => if okSb B p u && (isIn S.1 S.2.2.2 (enK B p) || decide (S.2.2.2 < N)) then redo B u N t (stm S (enK B p) (B (p + 8)) (enV B p)) (p + ebn (B (p + 8)) + 1) else (S, p)
theorem redo_stop {B : Nat → Nat} {u N t p : Nat} {S : R4} (h : ¬ okS B p u) : redo B u N t S p = (S, p) := by
  cases t with
  | zero => rfl
  | succ t => unfold redo; rw [okS_f h]; rfl
theorem redo_full {B : Nat → Nat} {u N t p : Nat} {K V : Nat → Int64} {z : Nat → Nat} {n : Nat} (hf : ¬ (plc K (enK B p) n < n ∧ K (plc K (enK B p) n) = enK B p)) (hn : ¬ n < N) : redo B u N t (K, z, V, n) p = ((K, z, V, n), p) := by
  cases t with
  | zero => rfl
  | succ t => unfold redo; rw [show isIn (K, z, V, n).1 (K, z, V, n).2.2.2 (enK B p) = false from isIn_f hf, show decide ((K, z, V, n).2.2.2 < N) = false from decide_eq_false hn]; simp
theorem redo_step {B : Nat → Nat} {u N t p : Nat} {K V : Nat → Int64} {z : Nat → Nat} {n : Nat} (h : okS B p u) (hf : (plc K (enK B p) n < n ∧ K (plc K (enK B p) n) = enK B p) ∨ n < N) : redo B u N (t + 1) (K, z, V, n) p = redo B u N t (stm (K, z, V, n) (enK B p) (B (p + 8)) (enV B p)) (p + ebn (B (p + 8)) + 1) := by
  have h1 : (okSb B p u && (isIn (K, z, V, n).1 (K, z, V, n).2.2.2 (enK B p) || decide ((K, z, V, n).2.2.2 < N))) = true := by
    rw [okS_t h]
    rcases hf with hf | hf
    · rw [show isIn (K, z, V, n).1 (K, z, V, n).2.2.2 (enK B p) = true from isIn_t hf]; rfl
    · rw [show decide ((K, z, V, n).2.2.2 < N) = true from decide_eq_true hf, Bool.or_true]; rfl
  rw [redo, if_pos h1]
theorem plc3 (K : Nat → Int64) (n N : Nat) (k : Int64) : (plc K k n < n ∧ K (plc K k n) = k) ∨ (¬ (plc K k n < n ∧ K (plc K k n) = k) ∧ n < N) ∨ (¬ (plc K k n < n ∧ K (plc K k n) = k) ∧ N ≤ n) := by
  by_cases h : plc K k n < n ∧ K (plc K k n) = k
  · exact Or.inl h
  · rcases Nat.lt_or_ge n N with h1 | h1
    · exact Or.inr (Or.inl ⟨h, h1⟩)
    · exact Or.inr (Or.inr ⟨h, h1⟩)
