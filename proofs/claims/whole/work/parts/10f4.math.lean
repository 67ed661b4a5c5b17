/-! THE MODEL: small questions -/
theorem win_in {j c : Nat} (h : j < c) (hc : c < 2 ^ 31) : wnb (nI j) (nI 0) (nI c - nI 1) = true := by
  rw [pk_sub (by omega)]
  exact decide_eq_true ⟨(nI_leI (by decide) (by omega)).mpr (Nat.zero_le _), (nI_leI (by omega) (by omega)).mpr (by omega)⟩
theorem win_no {j : Int32} {c : Nat} (hc : c < 2 ^ 31) (h : j < 0 ∨ nI c ≤ j) : wnb j (nI 0) (nI c - nI 1) = false := by
  rcases h with h | h
  · exact wnb_1 (by rw [nI_0]; exact h)
  · cases c with
    | zero =>
      refine decide_eq_false (fun z => ?_)
      have h1 : j ≤ (-1) := z.2
      have h2 : nI 0 ≤ j := z.1
      rw [Int32.le_iff_toInt_le] at h1 h2
      have e1 : (nI 0).toInt = 0 := by decide
      have e2 : ((-1) : Int32).toInt = -1 := by decide
      omega
    | succ c =>
      refine wnb_2 ?_
      rw [pk_sub (by omega)]
      rw [Int32.lt_iff_toInt_lt, nI_toInt (by omega)]
      rw [Int32.le_iff_toInt_le, nI_toInt (by omega)] at h
      omega
theorem win_k {v : Int32} {b : Nat} (hb : b < 2 ^ 31) (h : v < 0 ∨ nI (b + 1) ≤ v) (hb2 : b + 1 < 2 ^ 31) : wnb v (nI 0) (nI b) = false := by
  rcases h with h | h
  · exact wnb_1 (by rw [nI_0]; exact h)
  · refine wnb_2 ?_
    rw [Int32.lt_iff_toInt_lt, nI_toInt (by omega)]
    rw [Int32.le_iff_toInt_le, nI_toInt (by omega)] at h
    omega
theorem win_ki {a b : Nat} (h : a ≤ b) (hb : b < 2 ^ 31) : wnb (nI a) (nI 0) (nI b) = true := decide_eq_true ⟨(nI_leI (by decide) (by omega)).mpr (Nat.zero_le _), (nI_leI (by omega) (by omega)).mpr h⟩
theorem xor255 {c : Nat} (hc : c < 256) (w : Int32) : nI c ^^^ (w &&& nI 255) = nI (xrb c w) := by
  rw [pk_and w (m := nI 255) 8 (by decide), nI_xor]
  congr 1
  unfold xrb
  rw [show (256 : Nat) = 2 ^ 8 from rfl, Nat.xor_mod_two_pow, Nat.mod_eq_of_lt (show c < 2 ^ 8 from hc)]
/-- how long the entry at p is, with its sum; 0 where none lies whole -/
def whl (B : Nat → Nat) (p u : Nat) : Nat := if okSb B p u then ebn (B (p + 8)) + 1 else 0
theorem whl_t {B : Nat → Nat} {p u : Nat} (h : okS B p u) : whl B p u = ebn (B (p + 8)) + 1 := by unfold whl; rw [okS_t h, if_pos rfl]
theorem whl_f {B : Nat → Nat} {p u : Nat} (h : ¬ okS B p u) : whl B p u = 0 := by unfold whl; rw [okS_f h, if_neg (by decide)]
theorem whl_0 {B : Nat → Nat} {p u : Nat} (h : whl B p u = 0) : ¬ okS B p u := fun z => by rw [whl_t z] at h; omega
theorem whl_p {B : Nat → Nat} {p u : Nat} (h : 0 < whl B p u) : okS B p u := by
  by_cases c : okS B p u
  · exact c
  · rw [whl_f c] at h; omega
theorem whl_le {B : Nat → Nat} {p u : Nat} (hB : ∀ q, B q < 256) : whl B p u ≤ 18 := by
  by_cases c : okS B p u
  · rw [whl_t c]
    have : ebn (B (p + 8)) ≤ 17 := ebn_le c.1.2.1
    omega
  · rw [whl_f c]; omega
theorem sEn_le {tb : Nat → TBr} {c : Nat} (h : ∀ t, t < c → (tb t).en ≤ 455) : ∀ t, t ≤ c → sEn tb t ≤ 455 * t
  | 0 => fun _ => Nat.le_refl _
  | t + 1 => fun ht => by
    have h1 := sEn_le h t (by omega)
    have h2 := h t (by omega)
    rw [sEn]
    omega
theorem win_m {a : Nat} (h : a < 2 ^ 31) : wnb (-1) (-1) (nI a - nI 1) = true := by
  refine decide_eq_true ⟨by decide, ?_⟩
  cases a with
  | zero => decide
  | succ a =>
    rw [pk_sub (by omega), Int32.le_iff_toInt_le, nI_toInt (by omega)]
    have e2 : ((-1) : Int32).toInt = -1 := by decide
    omega
theorem win_a {a j : Nat} (hj : j < a) (h : a < 2 ^ 31) : wnb (nI j) (-1) (nI a - nI 1) = true := by
  refine decide_eq_true ⟨?_, ?_⟩
  · rw [Int32.le_iff_toInt_le, nI_toInt (by omega)]
    have e2 : ((-1) : Int32).toInt = -1 := by decide
    omega
  · rw [pk_sub (by omega)]
    exact (nI_leI (by omega) (by omega)).mpr (by omega)
