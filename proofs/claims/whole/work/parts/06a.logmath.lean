/-! THE LOG -/
theorem nI_nm1 {a : Nat} (h : a < 2 ^ 31) : ¬ nI a = (-1) := fun e9 => by
  have h1 := nI_pos h
  rw [e9] at h1
  exact h1 (by decide)
/-- f's first values laid from place o on -/
def lay (B : Nat → Nat) (o : Nat) (f : Nat → Nat) : Nat → Nat → Nat
  | 0 => B
  | i + 1 => va_up (lay B o f i) (o + i) (f i % 256)
def smf (f : Nat → Nat) : Nat → Nat
  | 0 => 0
  | i + 1 => smf f i + f i
/-- the log behind an entry more -/
def apB (B : Nat → Nat) (u : Nat) (k : Int64) (n : Nat) (v : Int64) : Nat → Nat := va_up (lay B u (ebt k n v) (ebn n)) (u + ebn n) (smf (ebt k n v) (ebn n) % 256)
theorem ebt_lt {k v : Int64} {n i : Nat} (h : okn n) : ebt k n v i < 256 := by
  unfold ebt
  split
  · exact byt_lt _ _
  · split
    · rcases h with h | h <;> omega
    · exact byt_lt _ _
theorem lay_lt {B f : Nat → Nat} {o : Nat} (hB : ∀ q, B q < 256) : ∀ t q, lay B o f t q < 256
  | 0, q => hB q
  | t + 1, q => by
    unfold lay va_up
    split
    · exact Nat.mod_lt _ (by decide)
    · exact lay_lt hB t q
theorem apB_lt {B : Nat → Nat} {u n : Nat} {k v : Int64} (hB : ∀ q, B q < 256) (q : Nat) : apB B u k n v q < 256 := by
  unfold apB va_up
  split
  · exact Nat.mod_lt _ (by decide)
  · exact lay_lt hB _ q
/-- a byte under exclusive or -/
def xrb (c : Nat) (w : Int32) : Nat := (c ^^^ w.toBitVec.toNat) % 256
theorem nI_of32 (w : Int32) : w = nI w.toBitVec.toNat := by
  apply Int32.toBitVec_inj.mp
  show w.toBitVec = BitVec.ofNat 32 w.toBitVec.toNat
  simp
theorem nI_xor (a b : Nat) : nI a ^^^ nI b = nI (a ^^^ b) := by
  apply Int32.toBitVec_inj.mp
  show BitVec.ofNat 32 a ^^^ BitVec.ofNat 32 b = BitVec.ofNat 32 (a ^^^ b)
  apply BitVec.eq_of_toNat_eq
  simp only [BitVec.toNat_xor, BitVec.toNat_ofNat]
  exact (Nat.xor_mod_two_pow (n := 32)).symm
theorem xrb_b (c : Nat) (w : Int32) : (sb_b c ^^^ w).toInt8.toInt32 = sb_b (xrb c w) := by
  unfold xrb
  rw [← sb_mod, ← nI_xor, ← nI_of32]
  unfold sb_b
  rw [Int32.toInt8_xor, Int32.toInt8_xor]
  congr 2
  apply Int8.toBitVec_inj.mp
  show ((nI c).toInt8.toBitVec.signExtend 32).signExtend 8 = (nI c).toInt8.toBitVec
  rw [BitVec.signExtend_eq_setWidth_of_le _ (by decide)]
  apply BitVec.eq_of_getLsbD_eq
  intro i hi
  simp [BitVec.getLsbD_setWidth, BitVec.getLsbD_signExtend, hi]
  omega
theorem xrb_lt (c : Nat) (w : Int32) : xrb c w < 256 := Nat.mod_lt _ (by decide)
/-- bytes read as a number, the highest first -/
def rdK (f : Nat → Nat) : Nat → Int64
  | 0 => 0
  | i + 1 => (rdK f i <<< ((nI 8).toInt64 &&& 63)) ||| (nI (f i)).toInt64
/-- a whole entry lies from a on, below u -/
def okE (f : Nat → Nat) (a u : Nat) : Prop := a + 9 ≤ u ∧ okn (f 8) ∧ a + ebn (f 8) ≤ u
theorem smf_le {f : Nat → Nat} (h : ∀ j, f j < 256) : ∀ t, smf f t ≤ 256 * t
  | 0 => Nat.le_refl _
  | t + 1 => by
    have h1 := smf_le h t
    have h2 := h t
    unfold smf
    omega
