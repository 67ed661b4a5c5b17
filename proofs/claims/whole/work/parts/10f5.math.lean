/-! THE MODEL: tables gathered -/
theorem adms_cnt {R Q : R4} : ∀ i, (adms R Q i).2.2.2 ≤ R.2.2.2 + i
  | 0 => Nat.le_refl _
  | i + 1 => by
    have h1 := adms_cnt (R := R) (Q := Q) i
    have h2 := (adm_cnt (adms R Q i) (Q.1 i) (Q.2.2.1 i) (Q.2.1 i)).2
    show (adm (adms R Q i) (Q.1 i) (Q.2.1 i) (Q.2.2.1 i)).2.2.2 ≤ _
    omega
theorem gth_cnt {b : Bool} {m : Nat} {ids : Nat → Nat} {S T : Nat → Int32} {B : Nat → Nat} : ∀ e p (R : R4), (gth b m ids S T B e p R).2.1.2.2.2 ≤ R.2.2.2 + e
  | 0 => fun p R => Nat.le_refl _
  | e + 1 => fun p R => by
    cases c : (rdE b m ids S T B p).1 with
    | some f => rw [gth_f c]; show R.2.2.2 ≤ _; omega
    | none =>
      rw [gth_n c]
      have h1 := gth_cnt (b := b) (m := m) (ids := ids) (S := S) (T := T) (B := B) e (p + ebn (tby B ids (p + 8))) (adm R (enK (tby B ids) p) (tby B ids (p + 8)) (enV (tby B ids) p))
      have h2 := (adm_cnt R (enK (tby B ids) p) (enV (tby B ids) p) (tby B ids (p + 8))).2
      show (gth b m ids S T B e (p + ebn (tby B ids (p + 8))) (adm R (enK (tby B ids) p) (tby B ids (p + 8)) (enV (tby B ids) p))).2.1.2.2.2 ≤ _
      omega
/-- whether a table is of level l or of the next -/
theorem isOf_i {tb : Nat → TBr} {c t l : Nat} (h : lvS tb c) (ht : t < c) : ((tb t).lv = l ∨ (tb t).lv = l + 1) ↔ (cUp tb l c ≤ t ∧ t < cUp tb (l + 2) c) := by
  have h1 := cUp_c (b := l) h t ht
  have h2 := cUp_c (b := l + 2) h t ht
  constructor
  · intro g
    exact ⟨Nat.not_lt.mp (fun z => by have := h1.mpr z; omega), h2.mp (by omega)⟩
  · intro g
    have g1 : ¬ (tb t).lv < l := fun z => by have := h1.mp z; omega
    have g2 := h2.mpr g.2
    omega
def anB (tb : Nat → TBr) (l : Nat) : Nat → Bool
  | 0 => false
  | t + 1 => anB tb l t || decide (l < (tb t).lv)
theorem anB_is {tb : Nat → TBr} {l : Nat} : ∀ c, (anB tb l c = false ↔ cUp tb (l + 1) c = c)
  | 0 => ⟨fun _ => rfl, fun _ => rfl⟩
  | c + 1 => by
    have ih := anB_is (tb := tb) (l := l) c
    have hl := cUp_le tb (l + 1) c
    rw [anB, cUp, Bool.or_eq_false_iff, ih]
    by_cases e : (tb c).lv < l + 1
    · rw [if_pos e]
      exact ⟨fun z => by omega, fun z => ⟨by omega, decide_eq_false (by omega)⟩⟩
    · rw [if_neg e]
      refine ⟨fun z => ?_, fun z => by omega⟩
      have := of_decide_eq_false z.2
      omega
theorem anB_e {tb : Nat → TBr} {l c : Nat} : anB tb l c = !decide (cUp tb (l + 1) c = c) := by
  cases h : anB tb l c with
  | false => rw [decide_eq_true ((anB_is c).mp h)]; rfl
  | true => rw [decide_eq_false (fun z => by rw [(anB_is c).mpr z] at h; cases h)]; rfl
/-- t, kept between a and e -/
def mid (a e t : Nat) : Nat := max a (min t e)
theorem mid_lo {a e t : Nat} (h : t ≤ a) (hae : a ≤ e) : mid a e t = a := by unfold mid; omega
theorem mid_in {a e t : Nat} (h1 : a ≤ t) (h2 : t ≤ e) : mid a e t = t := by unfold mid; omega
theorem mid_hi {a e t : Nat} (h : e ≤ t) (hae : a ≤ e) : mid a e t = e := by unfold mid; omega
theorem mid_out {a e t : Nat} (hae : a ≤ e) (h : ¬ (a ≤ t ∧ t < e)) : mid a e (t + 1) = mid a e t := by unfold mid; omega
theorem sEt_cut {tb : Nat → TBr} : ∀ {e t}, 0 < e → sEt tb e t = (tb t).en + sEt tb (e - 1) (t + 1)
  | 0, t => fun h => absurd h (Nat.not_lt_zero _)
  | e + 1, t => fun _ => rfl
theorem nx_s {K : Nat → Int64} {z : Nat → Nat} {k : Int64} {j : Nat} (h : ∀ i, i < j → ¬ (k < K i ∧ z i ≠ 255)) (h2 : ¬ (k < K j ∧ z j ≠ 255)) : ∀ i, i < j + 1 → ¬ (k < K i ∧ z i ≠ 255) := fun i hi => by
  by_cases e : i = j
  · rw [e]; exact h2
  · exact h i (by omega)
