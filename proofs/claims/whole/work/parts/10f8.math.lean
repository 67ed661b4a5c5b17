/-! THE NUMBER OF BLOCKS -/
theorem bm32 {z : Int} (h1 : -2147483648 ≤ z) (h2 : z < 2147483648) : z.bmod (2 ^ 32) = z := by
  apply Int.bmod_eq_of_le
  · show -((2 ^ 32 : Nat) / 2 : Int) ≤ z; omega
  · show z < (((2 ^ 32 : Nat) + 1) / 2 : Int); omega
theorem tm125 (z : Int) : 125 * z.tdiv 125 + z.tmod 125 = z ∧ -125 < z.tmod 125 ∧ z.tmod 125 < 125 ∧ (0 ≤ z → 0 ≤ z.tmod 125) ∧ (z ≤ 0 → z.tmod 125 ≤ 0) := by
  refine ⟨Int.mul_tdiv_add_tmod z 125, ?_, ?_, ?_, ?_⟩
  · have := Int.lt_tmod_of_pos z (show (0 : Int) < 125 by decide); omega
  · exact Int.tmod_lt_of_pos z (by decide)
  · exact fun h => Int.tmod_nonneg 125 h
  · intro h
    have h2 := Int.neg_tmod z 125
    have h3 := Int.tmod_nonneg (a := -z) 125 (by omega)
    omega
theorem rem125 (x : Int32) : (x - x / nI 125 * nI 125).toInt = x.toInt.tmod 125 := by
  have e1 : (nI 125).toInt = 125 := by decide
  have hx1 := Int32.le_toInt x
  have hx2 := Int32.toInt_lt x
  obtain ⟨h1, h2, h3, h4, h5⟩ := tm125 x.toInt
  have hd : (x / nI 125).toInt = x.toInt.tdiv 125 := by
    rw [Int32.toInt_div, e1]
    exact bm32 (by omega) (by omega)
  have hm : (x / nI 125 * nI 125).toInt = x.toInt.tdiv 125 * 125 := by
    rw [Int32.toInt_mul, hd, e1]
    exact bm32 (by omega) (by omega)
  rw [Int32.toInt_sub, hm]
  rw [bm32 (by omega) (by omega)]
  omega
def nM9 (x : Int32) : Nat := (x.toInt.tmod 125 + 125).toNat % 125
theorem nM9_lt (x : Int32) : nM9 x < 125 := Nat.mod_lt _ (by decide)
theorem add125 (x : Int32) : (x - x / nI 125 * nI 125) + nI 125 = nI (x.toInt.tmod 125 + 125).toNat := by
  apply Int32.toInt_inj.mp
  obtain ⟨h1, h2, h3, h4, h5⟩ := tm125 x.toInt
  rw [Int32.toInt_add, rem125, show (nI 125).toInt = 125 by decide, bm32 (by omega) (by omega), nI_toInt (by omega)]
  omega
theorem add125_lt (x : Int32) : (x.toInt.tmod 125 + 125).toNat < 250 := by
  obtain ⟨h1, h2, h3, h4, h5⟩ := tm125 x.toInt
  omega
theorem flm_0 {x : Int32} (h : 0 ≤ x - x / nI 125 * nI 125) : x - x / nI 125 * nI 125 = nI (nM9 x) := by
  apply Int32.toInt_inj.mp
  obtain ⟨h1, h2, h3, h4, h5⟩ := tm125 x.toInt
  rw [Int32.le_iff_toInt_le, rem125] at h
  have h0 : (0 : Int32).toInt = 0 := by decide
  rw [h0] at h
  have h9 := nM9_lt x
  rw [rem125, nI_toInt (by omega)]
  unfold nM9
  omega
theorem flm_n {x : Int32} (h : x - x / nI 125 * nI 125 < 0) : x - x / nI 125 * nI 125 + nI 125 = nI (nM9 x) := by
  rw [add125]
  obtain ⟨h1, h2, h3, h4, h5⟩ := tm125 x.toInt
  rw [Int32.lt_iff_toInt_lt, rem125] at h
  have h0 : (0 : Int32).toInt = 0 := by decide
  rw [h0] at h
  congr 1
  unfold nM9
  omega
theorem xor125 (m : Int32) : (m ^^^ nI 125 < 0) ↔ m < 0 := by
  have hb : ∀ a : Int32, (a < 0 ↔ a.toBitVec.msb = true) := by
    intro a
    rw [Int32.lt_iff_toInt_lt, show (0 : Int32).toInt = 0 by decide]
    rw [BitVec.msb_eq_toInt, decide_eq_true_eq]
    rfl
  rw [hb, hb]
  show (m.toBitVec ^^^ (nI 125).toBitVec).msb = true ↔ _
  rw [BitVec.msb_xor, show (nI 125).toBitVec.msb = false by decide, Bool.xor_false]
theorem flm_p {x : Int32} (h : 0 ≤ x) : x - x / nI 125 * nI 125 = nI (nM9 x) := by
  refine flm_0 ?_
  obtain ⟨h1, h2, h3, h4, h5⟩ := tm125 x.toInt
  have h0 : (0 : Int32).toInt = 0 := by decide
  rw [Int32.le_iff_toInt_le, h0] at h
  rw [Int32.le_iff_toInt_le, rem125, h0]
  exact h4 h
theorem flm_lt {x : Int32} (h : x < 0) (hm : ¬ x - x / nI 125 * nI 125 = 0) : x - x / nI 125 * nI 125 < 0 := by
  obtain ⟨h1, h2, h3, h4, h5⟩ := tm125 x.toInt
  have h0 : (0 : Int32).toInt = 0 := by decide
  rw [Int32.lt_iff_toInt_lt, h0] at h
  have h6 : (x - x / nI 125 * nI 125).toInt ≠ 0 := fun z => hm (Int32.toInt_inj.mp (z.trans h0.symm))
  rw [rem125] at h6
  rw [Int32.lt_iff_toInt_lt, rem125, h0]
  have := h5 (by omega)
  omega
