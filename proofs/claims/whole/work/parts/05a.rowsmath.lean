/-! ROWS: keys in their order -/
theorem lv_lt' {a b : Int64} : a < b ↔ a.toInt < b.toInt := Int64.lt_iff_toInt_lt
theorem lv_le' {a b : Int64} : a ≤ b ↔ a.toInt ≤ b.toInt := Int64.le_iff_toInt_le
theorem l_nle {a b : Int64} : ¬ a ≤ b ↔ b < a := by rw [lv_le', lv_lt']; omega
theorem l_nlt {a b : Int64} : ¬ a < b ↔ b ≤ a := by rw [lv_le', lv_lt']; omega
def srt (K : Nat → Int64) (n : Nat) : Prop := ∀ i j, i < j → j < n → K i < K j
/-- the first place below n whose key isn't below k; n without -/
def plc (K : Nat → Int64) (k : Int64) : Nat → Nat
  | 0 => 0
  | n + 1 => if plc K k n < n then plc K k n else if K n < k then n + 1 else n
theorem plc_le (K : Nat → Int64) (k : Int64) : ∀ n, plc K k n ≤ n
  | 0 => Nat.le_refl _
  | n + 1 => by
    have := plc_le K k n
    unfold plc
    split
    · omega
    · split <;> omega
theorem plc_below (K : Nat → Int64) (k : Int64) : ∀ n j, j < plc K k n → K j < k
  | 0, j, h => absurd h (Nat.not_lt_zero _)
  | n + 1, j, h => by
    have ih := plc_below K k n
    have hl := plc_le K k n
    unfold plc at h
    split at h
    · exact ih j h
    · split at h
      · rename_i h1 h2
        by_cases hj : j < plc K k n
        · exact ih j hj
        · have : j = n := by omega
          rw [this]; exact h2
      · exact ih j (by omega)
theorem plc_at (K : Nat → Int64) (k : Int64) : ∀ n, plc K k n < n → ¬ K (plc K k n) < k
  | 0, h => absurd h (Nat.not_lt_zero _)
  | n + 1, h => by
    have ih := plc_at K k n
    unfold plc at h ⊢
    split
    · rename_i h1
      exact ih h1
    · rename_i h1
      split
      · rename_i h2
        rw [if_neg h1, if_pos h2] at h
        omega
      · rename_i h2
        exact h2
theorem plc_is {K : Nat → Int64} {k : Int64} {n p : Nat} (h1 : p ≤ n) (h2 : ∀ j, j < p → K j < k) (h3 : p < n → ¬ K p < k) : plc K k n = p := by
  have a1 := plc_le K k n
  rcases Nat.lt_trichotomy (plc K k n) p with h | h | h
  · exact absurd (h2 _ h) (plc_at K k n (by omega))
  · exact h
  · exact absurd (plc_below K k n p h) (h3 (by omega))
def fnd (K : Nat → Int64) (n : Nat) (k : Int64) : Prop := plc K k n < n ∧ K (plc K k n) = k
/-- what placeOf answers -/
def plr (K : Nat → Int64) (n : Nat) (k : Int64) : Int32 := if plc K k n < n ∧ K (plc K k n) = k then nI (plc K k n) else (-1) - nI (plc K k n)
theorem bs_lo {K : Nat → Int64} {n md : Nat} {k : Int64} (hs : srt K n) (hm : md < n) (h : ¬ k ≤ K md) : ∀ j, j < md + 1 → K j < k := by
  intro j hj
  have h1 := l_nle.mp h
  by_cases e : j = md
  · rw [e]; exact h1
  · have h2 := hs j md (by omega) hm
    rw [lv_lt'] at *
    omega
theorem bs_hi {K : Nat → Int64} {n md : Nat} {k : Int64} (hs : srt K n) (h : k ≤ K md) : ∀ j, md ≤ j → j < n → ¬ K j < k := by
  intro j hj hjn h2
  by_cases e : j = md
  · rw [e] at h2
    exact l_nle.mpr h2 h
  · have h3 := hs md j (by omega) hjn
    rw [lv_lt'] at *
    rw [lv_le'] at h
    omega
theorem bs_half {d d' t : Nat} (ht : t < 32) (h : d < 2 ^ (32 - t)) (hd : d' ≤ d / 2) : d' < 2 ^ (32 - (t + 1)) := by
  have e9 : 32 - t = (32 - (t + 1)) + 1 := by omega
  rw [e9, Nat.pow_succ] at h
  omega
/-- x laid in at place j, the rest one further -/
def insF {α : Type} (K : Nat → α) (n j : Nat) (v : α) : Nat → α := va_up (va_cpy K K j (j + 1) (n - j)) j v

theorem plr_cases (K : Nat → Int64) (n : Nat) (k : Int64) : ((plc K k n < n ∧ K (plc K k n) = k) ∧ plr K n k = nI (plc K k n)) ∨ (¬ (plc K k n < n ∧ K (plc K k n) = k) ∧ plr K n k = (-1) - nI (plc K k n)) := by
  unfold plr
  by_cases h : plc K k n < n ∧ K (plc K k n) = k
  · exact Or.inl ⟨h, if_pos h⟩
  · exact Or.inr ⟨h, if_neg h⟩
theorem neg1_toInt {q : Nat} (h : q < 2 ^ 30) : ((-1 : Int32) - nI q).toInt = -1 - (q : Int) := by
  rw [Int32.toInt_sub, nI_toInt (by omega)]
  have : (-1 : Int32).toInt = -1 := by decide
  rw [this]
  apply Int.bmod_eq_of_le <;> omega
theorem neg1_lt {q : Nat} (h : q < 2 ^ 30) : ((-1 : Int32) - nI q) < 0 := by
  rw [Int32.lt_iff_toInt_lt, neg1_toInt h]
  have : (0 : Int32).toInt = 0 := by decide
  omega
theorem neg1_back (q : Nat) : (-1 : Int32) - ((-1) - nI q) = nI q := by
  have : ∀ x y : Int32, x - (x - y) = y := fun x y => by
    apply Int32.toBitVec_inj.mp
    simp only [Int32.toBitVec_sub]
    bv_omega
  exact this _ _
def b2n (b : Bool) : Nat := if b then 1 else 0
/-- whether k is there -/
def isIn (K : Nat → Int64) (n : Nat) (k : Int64) : Bool := decide (plc K k n < n ∧ K (plc K k n) = k)
theorem isIn_t {K : Nat → Int64} {n : Nat} {k : Int64} (h : plc K k n < n ∧ K (plc K k n) = k) : isIn K n k = true := decide_eq_true h
theorem isIn_f {K : Nat → Int64} {n : Nat} {k : Int64} (h : ¬ (plc K k n < n ∧ K (plc K k n) = k)) : isIn K n k = false := decide_eq_false h
/-- cells of rows kept: those that aren't marks, in their order -/
def kpt (z : Nat → Nat) : Nat → Nat
  | 0 => 0
  | n + 1 => if z n = 255 then kpt z n else kpt z n + 1
theorem kpt_le (z : Nat → Nat) : ∀ n, kpt z n ≤ n
  | 0 => Nat.le_refl _
  | n + 1 => by have := kpt_le z n; unfold kpt; split <;> omega
/-- one step of removeMarks: what is written where -/
def cmpF {α : Type} (z : Nat → Nat) (G : Nat → α) : Nat → Nat → α
  | 0 => G
  | n + 1 => if z n = 255 then cmpF z G n else va_up (cmpF z G n) (kpt z n) (G n)
theorem cmpF_above {α : Type} (z : Nat → Nat) (G : Nat → α) : ∀ n q, kpt z n ≤ q → cmpF z G n q = G q
  | 0, q, _ => rfl
  | n + 1, q, h => by
    unfold cmpF
    unfold kpt at h
    by_cases e : z n = 255
    · rw [if_pos e] at h ⊢
      exact cmpF_above z G n q h
    · rw [if_neg e] at h ⊢
      rw [va_up_ne _ _ (by omega)]
      exact cmpF_above z G n q (by omega)
/-- the sum of the entries' lengths -/
def bySum (z : Nat → Nat) : Nat → Nat
  | 0 => 0
  | n + 1 => bySum z n + ebn (z n)
def fbOr (K : Nat → Int64) : Nat → Int64
  | 0 => 0
  | n + 1 => fbOr K n ||| fbits (K n)
/-- the first place from i on below n that is no mark; n without -/
def nxt (z : Nat → Nat) (n : Nat) : Nat → Nat → Nat
  | 0, i => i
  | m + 1, i => if i < n ∧ z i = 255 then nxt z n m (i + 1) else i
