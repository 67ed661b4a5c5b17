/-! READING A TABLE -/
/-- whether byte p of a table may be read: it is there, and (b: blocks are looked at) its block's sum is right where it begins -/
def okb (b : Bool) (m : Nat) (ids : Nat → Nat) (S T : Nat → Int32) (B : Nat → Nat) (p : Nat) : Bool := decide (p / 32 < m) && (!(b && decide (p % 32 = 0)) || rgt S T B (ids (p / 32)))
/-- the block at fault where byte p can't be read -/
def flt (m : Nat) (ids : Nat → Nat) (p : Nat) : Nat := if p / 32 < m then ids (p / 32) else ids (m - 1)
/-- how many blocks are looked at for a bytes from p on -/
def icn (b : Bool) (p : Nat) : Nat → Nat
  | 0 => 0
  | a + 1 => icn b p a + b2n (b && decide ((p + a) % 32 = 0))
def tby (B ids : Nat → Nat) (i : Nat) : Nat := B (pos ids i)
def oknb (n : Nat) : Bool := decide (n ≤ 8) || decide (n = 255)
theorem oknb_t {n : Nat} (h : okn n) : oknb n = true := by
  unfold oknb
  rcases h with h | h
  · rw [decide_eq_true h]; rfl
  · rw [decide_eq_true h, Bool.or_true]
theorem oknb_f {n : Nat} (h : ¬ okn n) : oknb n = false := by
  unfold oknb
  rw [decide_eq_false (fun z => h (Or.inl z)), decide_eq_false (fun z => h (Or.inr z))]
  rfl
theorem okn_dec (n : Nat) : okn n ∨ ¬ okn n := by unfold okn; omega
/-- the entry at p: the block at fault, if any; how many blocks are looked at -/
def rdE (b : Bool) (m : Nat) (ids : Nat → Nat) (S T : Nat → Int32) (B : Nat → Nat) (p : Nat) : Option Nat × Nat :=
  if fwi (fun i => okb b m ids S T B (p + i)) 9 < 9 then (some (flt m ids (p + fwi (fun i => okb b m ids S T B (p + i)) 9)), icn b p (fwi (fun i => okb b m ids S T B (p + i)) 9) + b2n (decide ((p + fwi (fun i => okb b m ids S T B (p + i)) 9) / 32 < m)))
  else if oknb (tby B ids (p + 8)) then
    (if fwi (fun i => okb b m ids S T B (p + i)) (ebn (tby B ids (p + 8))) < ebn (tby B ids (p + 8)) then (some (flt m ids (p + fwi (fun i => okb b m ids S T B (p + i)) (ebn (tby B ids (p + 8))))), icn b p (fwi (fun i => okb b m ids S T B (p + i)) (ebn (tby B ids (p + 8)))) + b2n (decide ((p + fwi (fun i => okb b m ids S T B (p + i)) (ebn (tby B ids (p + 8)))) / 32 < m)))
    else (none, icn b p (ebn (tby B ids (p + 8)))))
  else (some (ids ((p + 8) / 32)), icn b p 9)
section RDE
variable {b : Bool} {m : Nat} {ids : Nat → Nat} {S T : Nat → Int32} {B : Nat → Nat} {p t : Nat}
theorem rdE_f (h1 : ∀ j, j < t → okb b m ids S T B (p + j) = true) (h2 : okb b m ids S T B (p + t) = false) (h3 : t < 9 ∨ (okn (tby B ids (p + 8)) ∧ 9 ≤ t ∧ t < ebn (tby B ids (p + 8)))) : rdE b m ids S T B p = (some (flt m ids (p + t)), icn b p t + b2n (decide ((p + t) / 32 < m))) := by
  unfold rdE
  rcases h3 with h3 | ⟨h3, h4, h5⟩
  · rw [show fwi (fun i => okb b m ids S T B (p + i)) 9 = t from fwi_is (by omega) h1 (fun _ => h2), if_pos h3]
  · rw [show fwi (fun i => okb b m ids S T B (p + i)) 9 = 9 from fwi_is (by omega) (fun j hj => h1 j (by omega)) (fun h => absurd h (by omega)), if_neg (by omega), oknb_t h3, if_pos rfl,
      show fwi (fun i => okb b m ids S T B (p + i)) (ebn (tby B ids (p + 8))) = t from fwi_is (by omega) h1 (fun _ => h2), if_pos h5]
theorem rdE_l (h1 : ∀ j, j < 9 → okb b m ids S T B (p + j) = true) (h2 : ¬ okn (tby B ids (p + 8))) : rdE b m ids S T B p = (some (ids ((p + 8) / 32)), icn b p 9) := by
  unfold rdE
  rw [show fwi (fun i => okb b m ids S T B (p + i)) 9 = 9 from fwi_is (by omega) h1 (fun h => absurd h (by omega)), if_neg (by omega), oknb_f h2, if_neg (by decide)]
theorem rdE_k (h2 : okn (tby B ids (p + 8))) (h1 : ∀ j, j < ebn (tby B ids (p + 8)) → okb b m ids S T B (p + j) = true) : rdE b m ids S T B p = (none, icn b p (ebn (tby B ids (p + 8)))) := by
  have h9 := ebn_ge (tby B ids (p + 8))
  unfold rdE
  rw [show fwi (fun i => okb b m ids S T B (p + i)) 9 = 9 from fwi_is (by omega) (fun j hj => h1 j (by omega)) (fun h => absurd h (by omega)), if_neg (by omega), oknb_t h2, if_pos rfl,
    show fwi (fun i => okb b m ids S T B (p + i)) (ebn (tby B ids (p + 8))) = ebn (tby B ids (p + 8)) from fwi_is (by omega) h1 (fun h => absurd h (by omega)), if_neg (by omega)]
/-- a whole entry: its length is one, its last byte is there -/
theorem rdE_none (h : (rdE b m ids S T B p).1 = none) : okn (tby B ids (p + 8)) ∧ p + ebn (tby B ids (p + 8)) ≤ 32 * m := by
  unfold rdE at h
  split at h
  · cases h
  · split at h
    · rename_i h1 h2
      split at h
      · cases h
      · rename_i h3
        have hk : okn (tby B ids (p + 8)) := by
          unfold oknb at h2
          rw [Bool.or_eq_true, decide_eq_true_eq, decide_eq_true_eq] at h2
          exact h2
        have h9 := ebn_ge (tby B ids (p + 8))
        have h4 := fwi_le (fun i => okb b m ids S T B (p + i)) (ebn (tby B ids (p + 8)))
        have h5 := fwi_below (fun i => okb b m ids S T B (p + i)) (ebn (tby B ids (p + 8))) (ebn (tby B ids (p + 8)) - 1) (by omega)
        have h6 : okb b m ids S T B (p + (ebn (tby B ids (p + 8)) - 1)) = true := h5
        unfold okb at h6
        rw [Bool.and_eq_true, decide_eq_true_eq] at h6
        refine ⟨hk, ?_⟩
        have := h6.1
        omega
    · cases h
end RDE
/-- rows of a table laid in, e entries from p on: the block at fault, the rows, how many blocks were looked at -/
def gth (b : Bool) (m : Nat) (ids : Nat → Nat) (S T : Nat → Int32) (B : Nat → Nat) : Nat → Nat → R4 → Option Nat × R4 × Nat
  | 0, _, R => (none, R, 0)
  | e + 1, p, R => match (rdE b m ids S T B p).1 with
    | some f => (some f, R, (rdE b m ids S T B p).2)
    | none => ((gth b m ids S T B e (p + ebn (tby B ids (p + 8))) (adm R (enK (tby B ids) p) (tby B ids (p + 8)) (enV (tby B ids) p))).1, (gth b m ids S T B e (p + ebn (tby B ids (p + 8))) (adm R (enK (tby B ids) p) (tby B ids (p + 8)) (enV (tby B ids) p))).2.1, (rdE b m ids S T B p).2 + (gth b m ids S T B e (p + ebn (tby B ids (p + 8))) (adm R (enK (tby B ids) p) (tby B ids (p + 8)) (enV (tby B ids) p))).2.2)
/-- a key sought in a table, e entries from p on: the block at fault, the length and the value, how many blocks were looked at -/
def rch (b : Bool) (m : Nat) (ids : Nat → Nat) (S T : Nat → Int32) (B : Nat → Nat) (k : Int64) : Nat → Nat → Option Nat × Option (Nat × Int64) × Nat
  | 0, _ => (none, none, 0)
  | e + 1, p => match (rdE b m ids S T B p).1 with
    | some f => (some f, none, (rdE b m ids S T B p).2)
    | none => if enK (tby B ids) p < k then ((rch b m ids S T B k e (p + ebn (tby B ids (p + 8)))).1, (rch b m ids S T B k e (p + ebn (tby B ids (p + 8)))).2.1, (rdE b m ids S T B p).2 + (rch b m ids S T B k e (p + ebn (tby B ids (p + 8)))).2.2)
      else (none, (if enK (tby B ids) p = k then some (tby B ids (p + 8), enV (tby B ids) p) else none), (rdE b m ids S T B p).2)
section GTH
variable {b : Bool} {m : Nat} {ids : Nat → Nat} {S T : Nat → Int32} {B : Nat → Nat} {p e f : Nat} {R : R4} {k : Int64}
theorem gth_f (h : (rdE b m ids S T B p).1 = some f) : gth b m ids S T B (e + 1) p R = (some f, R, (rdE b m ids S T B p).2) := by rw [gth, h]
theorem gth_n (h : (rdE b m ids S T B p).1 = none) : gth b m ids S T B (e + 1) p R = ((gth b m ids S T B e (p + ebn (tby B ids (p + 8))) (adm R (enK (tby B ids) p) (tby B ids (p + 8)) (enV (tby B ids) p))).1, (gth b m ids S T B e (p + ebn (tby B ids (p + 8))) (adm R (enK (tby B ids) p) (tby B ids (p + 8)) (enV (tby B ids) p))).2.1, (rdE b m ids S T B p).2 + (gth b m ids S T B e (p + ebn (tby B ids (p + 8))) (adm R (enK (tby B ids) p) (tby B ids (p + 8)) (enV (tby B ids) p))).2.2) := by rw [gth, h]
theorem rch_f (h : (rdE b m ids S T B p).1 = some f) : rch b m ids S T B k (e + 1) p = (some f, none, (rdE b m ids S T B p).2) := by rw [rch, h]
theorem rch_n (h : (rdE b m ids S T B p).1 = none) (hk : enK (tby B ids) p < k) : rch b m ids S T B k (e + 1) p = ((rch b m ids S T B k e (p + ebn (tby B ids (p + 8)))).1, (rch b m ids S T B k e (p + ebn (tby B ids (p + 8)))).2.1, (rdE b m ids S T B p).2 + (rch b m ids S T B k e (p + ebn (tby B ids (p + 8)))).2.2) := by
  rw [rch, h]
  show (if _ then _ else _) = _
  rw [if_pos hk]
theorem rch_e (h : (rdE b m ids S T B p).1 = none) (hk : ¬ enK (tby B ids) p < k) : rch b m ids S T B k (e + 1) p = (none, (if enK (tby B ids) p = k then some (tby B ids (p + 8), enV (tby B ids) p) else none), (rdE b m ids S T B p).2) := by
  rw [rch, h]
  show (if _ then _ else _) = _
  rw [if_neg hk]
end GTH
def fo : Option Nat → Int32
  | none => (-1)
  | some f => nI f
theorem nar_b2n (b : Bool) : narrow .boolean (.int (nI (b2n b))) = .int (nI (b2n b)) := by cases b <;> rfl
theorem b2n_le (b : Bool) : b2n b ≤ 1 := by cases b <;> decide
theorem b2n_t {b : Bool} (h : ¬ b2n b = 0) : b = true := by cases b <;> simp_all [b2n]
theorem b2n_f {b : Bool} (h : b2n b = 0) : b = false := by cases b <;> simp_all [b2n]
theorem okb_t {b : Bool} {m : Nat} {ids : Nat → Nat} {S T : Nat → Int32} {B : Nat → Nat} {p : Nat} (h : okb b m ids S T B p = true) : p / 32 < m ∧ ((b = true ∧ p % 32 = 0 ∧ rgt S T B (ids (p / 32)) = true ∧ b2n (b && decide (p % 32 = 0)) = 1) ∨ (¬ (b = true ∧ p % 32 = 0) ∧ b2n (b && decide (p % 32 = 0)) = 0)) := by
  unfold okb at h
  rw [Bool.and_eq_true, decide_eq_true_eq, Bool.or_eq_true] at h
  refine ⟨h.1, ?_⟩
  cases b with
  | false => exact Or.inr ⟨fun z => (by cases z.1), rfl⟩
  | true =>
    by_cases e : p % 32 = 0
    · rcases h.2 with h2 | h2
      · rw [decide_eq_true e] at h2; cases h2
      · exact Or.inl ⟨rfl, e, h2, by rw [decide_eq_true e]; rfl⟩
    · exact Or.inr ⟨fun z => e z.2, by rw [decide_eq_false e]; rfl⟩
theorem okb_f {b : Bool} {m : Nat} {ids : Nat → Nat} {S T : Nat → Int32} {B : Nat → Nat} {p : Nat} (h : okb b m ids S T B p = false) : (m ≤ p / 32 ∧ flt m ids p = ids (m - 1) ∧ b2n (decide (p / 32 < m)) = 0) ∨ (p / 32 < m ∧ b = true ∧ p % 32 = 0 ∧ rgt S T B (ids (p / 32)) = false ∧ flt m ids p = ids (p / 32) ∧ b2n (decide (p / 32 < m)) = 1) := by
  unfold okb at h
  by_cases h1 : p / 32 < m
  · right
    rw [decide_eq_true h1, Bool.true_and, Bool.or_eq_false_iff] at h
    have h2 : (b && decide (p % 32 = 0)) = true := by
      have := h.1
      cases hb : (b && decide (p % 32 = 0)) with
      | true => rfl
      | false => rw [hb] at this; cases this
    rw [Bool.and_eq_true, decide_eq_true_eq] at h2
    refine ⟨h1, h2.1, h2.2, h.2, ?_, ?_⟩
    · unfold flt; rw [if_pos h1]
    · rw [decide_eq_true h1]; rfl
  · left
    refine ⟨by omega, ?_, ?_⟩
    · unfold flt; rw [if_neg h1]
    · rw [decide_eq_false h1]; rfl
theorem fits_b2n (b : Bool) : fits .boolean (.int (nI (b2n b))) = true := by cases b <;> rfl
