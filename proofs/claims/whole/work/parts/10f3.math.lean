/-! THE MODEL: a key looked for -/
def lk9 : Option (Nat × Int64) → Bool
  | none => false
  | some y => decide (y.1 ≠ 255)
theorem rch_s0 {b : Bool} {m : Nat} {ids : Nat → Nat} {S T : Nat → Int32} {B : Nat → Nat} {k : Int64} {p : Nat} : rch b m ids S T B k 0 p = (none, none, 0) := rfl
theorem l_nle1 {a b : Int64} (h : ¬ a ≤ b) : ¬ a < b ∧ a ≠ b := by
  refine ⟨fun z => h ?_, fun z => h (by rw [z, lv_le']; omega)⟩
  rw [lv_lt'] at z
  rw [lv_le']
  omega
theorem l_le_ne {a b : Int64} (h : a ≤ b) (h2 : a ≠ b) : a < b := by
  rw [lv_le'] at h
  rw [lv_lt']
  have : a.toInt ≠ b.toInt := fun z => h2 (Int64.toInt_inj.mp z)
  omega
theorem sek_flt {tb : Nat → TBr} {S T : Nat → Int32} {D : Nat → Nat} {k : Int64} : ∀ e t f, (sek tb S T D k e t).1 = some f → (sek tb S T D k e t).2.1 = none
  | 0 => fun t f h => by cases h
  | e + 1 => fun t f h => by
    by_cases h1 : (tb t).fl &&& fbits k = fbits k
    · cases h2 : (rch true (tb t).mn (tb t).id S T D k (tb t).en 0).1 with
      | some f => rw [sek_f h1 h2]
      | none =>
        cases h3 : (rch true (tb t).mn (tb t).id S T D k (tb t).en 0).2.1 with
        | some y => rw [sek_r h1 h3] at h; cases h
        | none => rw [sek_n h1 h2 h3] at h ⊢; exact sek_flt e (t + 1) f h
    · rw [sek_p h1] at h ⊢; exact sek_flt e (t + 1) f h
theorem lk_f {o : Option (Nat × Int64)} {q : Prop} (h : lk9 o = false) : fres o = 0 ∧ (q → sres o = (-1)) := by
  cases o with
  | none => exact ⟨rfl, fun _ => rfl⟩
  | some y =>
    have h2 : y.1 = 255 := Decidable.of_not_not (of_decide_eq_false h)
    exact ⟨by rw [fres, if_pos h2], fun _ => by rw [sres, if_pos h2]⟩
theorem lk_t {o : Option (Nat × Int64)} (h : lk9 o = true) : ∃ y, o = some y ∧ y.1 ≠ 255 := by
  cases o with
  | none => cases h
  | some y => exact ⟨y, rfl, of_decide_eq_true h⟩
