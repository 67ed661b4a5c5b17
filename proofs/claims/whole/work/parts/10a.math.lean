/-! THE MODEL: bytes and rows -/
theorem va_up_same {α : Type} (f : Nat → α) {k : Nat} {v : α} (h : f k = v) : va_up f k v = f := by
  funext q
  unfold va_up
  by_cases e : q = k
  · rw [if_pos e, e, h]
  · rw [if_neg e]
theorem uN_and255 (x : Int64) : uN (x &&& 255) = uN x % 256 := by
  show (x.toUInt64 &&& Int64.toUInt64 255).toNat = _
  rw [UInt64.toNat_and]
  exact Nat.and_two_pow_sub_one_eq_mod _ 8
theorem sar255 (v : Int64) {k : Nat} (hk : k ≤ 56) : (v >>> ((nI k).toInt64 &&& 63)) &&& 255 = (v.toUInt64 >>> ((nI k).toInt64.toUInt64 &&& Int64.toUInt64 63)).toInt64 &&& 255 := by
  have e1 : ((nI k).toInt64 &&& 63).toBitVec.toNat = k := by
    rw [nI_l (by omega)]
    show ((lN k).toBitVec &&& 63#64).toNat = k
    rw [BitVec.toNat_and]
    have e : (lN k).toBitVec.toNat = k % 2 ^ 64 := rfl
    have e2 : (63#64).toNat = 2 ^ 6 - 1 := by decide
    rw [e, e2, Nat.and_two_pow_sub_one_eq_mod]
    omega
  have e3 : (((nI k).toInt64 &&& 63).toBitVec.smod 64).toNat = k := by
    have hm1 : ((nI k).toInt64 &&& 63).toBitVec.msb = false := by
      rw [BitVec.msb_eq_decide, e1]
      exact decide_eq_false (by omega)
    have hm2 : BitVec.msb (64 : BitVec 64) = false := by decide
    rw [BitVec.smod_eq, hm1, hm2]
    show (((nI k).toInt64 &&& 63).toBitVec % 64).toNat = k
    rw [BitVec.toNat_umod, e1]
    show k % 64 = k
    omega
  apply Int64.toBitVec_inj.mp
  show (v.toBitVec.sshiftRight' (((nI k).toInt64 &&& 63).toBitVec.smod 64)) &&& 255#64 = (v.toBitVec >>> (((nI k).toInt64.toUInt64 &&& Int64.toUInt64 63).toBitVec % 64)) &&& 255#64
  have e4 : (((nI k).toInt64.toUInt64 &&& Int64.toUInt64 63).toBitVec % 64).toNat = k := by
    rw [BitVec.toNat_umod]
    have : ((nI k).toInt64.toUInt64 &&& Int64.toUInt64 63).toBitVec.toNat = k := e1
    rw [this]
    show k % 64 = k
    omega
  apply BitVec.eq_of_getLsbD_eq
  intro i hi
  rw [BitVec.getLsbD_and, BitVec.getLsbD_and, BitVec.sshiftRight', e3]
  by_cases h8 : i < 8
  · congr 1
    rw [BitVec.getLsbD_sshiftRight, BitVec.ushiftRight_eq', e4, BitVec.getLsbD_ushiftRight, if_pos (by omega), decide_eq_false (by omega)]
    rfl
  · have h255 : (255#64).getLsbD i = false := by
      have : (255#64 : BitVec 64) = BitVec.setWidth 64 (255#8) := by decide
      rw [this, BitVec.getLsbD_setWidth, BitVec.getLsbD_of_ge _ _ (by omega), Bool.and_false]
    rw [h255, Bool.and_false, Bool.and_false]
theorem byt_sar (v : Int64) {j : Nat} (hj : j < 8) : ((v >>> ((nI (8 * j)).toInt64 &&& 63)) &&& 255).toInt32 = nI (byt v j) := by
  rw [sar255 v (by omega)]
  apply Int32.toBitVec_inj.mp
  apply BitVec.eq_of_toNat_eq
  rw [u32_of, uN_and255, uN_sk v (by omega)]
  show _ = (BitVec.ofNat 32 (byt v j)).toNat
  rw [BitVec.toNat_ofNat]
  unfold byt
  omega
theorem and63 (y : Int64) : ((y.toInt32 &&& nI 63).toInt64 &&& 63) = ((y &&& 63).toInt32.toInt64 &&& 63) := by
  apply Int64.toBitVec_inj.mp
  show ((y.toBitVec.signExtend 32 &&& 63#32).signExtend 64 &&& 63#64) = (((y.toBitVec &&& 63#64).signExtend 32).signExtend 64 &&& 63#64)
  have h63 : ∀ i, ¬ i < 6 → (63#64).getLsbD i = false := by
    intro i hi
    have : (63#64 : BitVec 64) = BitVec.setWidth 64 (63#6) := by decide
    rw [this, BitVec.getLsbD_setWidth, BitVec.getLsbD_of_ge _ _ (by omega), Bool.and_false]
  apply BitVec.eq_of_getLsbD_eq
  intro i hi
  rw [BitVec.getLsbD_and, BitVec.getLsbD_and]
  by_cases h6 : i < 6
  · congr 1
    rw [BitVec.getLsbD_signExtend, BitVec.getLsbD_signExtend, if_pos (by omega), if_pos (by omega), BitVec.getLsbD_and, BitVec.getLsbD_signExtend, BitVec.getLsbD_signExtend, if_pos (by omega), if_pos (by omega), BitVec.getLsbD_and]
    have : ∀ i, i < 6 → (63#32).getLsbD i = (63#64).getLsbD i := by decide
    rw [this i h6, decide_eq_true (show i < 32 by omega), Bool.true_and, Bool.true_and]
  · rw [h63 i h6, Bool.and_false, Bool.and_false]
theorem lowb_0 (v : Int64) : lowb v 0 = 0 := by
  unfold lowb
  rw [if_neg (by decide)]
  have : ((1 : Int64) <<< ((nI (8 * 0)).toInt64 &&& 63)) - 1 = 0 := by decide
  rw [this]
  exact Int64.and_zero
/-- two rows of rows that are the same -/
def req (R Q : R4) : Prop := R.2.2.2 = Q.2.2.2 ∧ ∀ i, i < R.2.2.2 → R.1 i = Q.1 i ∧ R.2.1 i = Q.2.1 i ∧ R.2.2.1 i = Q.2.2.1 i
theorem plc_congr {K K' : Nat → Int64} {k : Int64} : ∀ n, (∀ i, i < n → K i = K' i) → plc K k n = plc K' k n
  | 0 => fun _ => rfl
  | n + 1 => fun h => by
    rw [plc, plc, plc_congr n (fun i hi => h i (by omega)), h n (by omega)]
theorem insF_congr {α : Type} {K K' : Nat → α} {n j : Nat} {v : α} (hj : j ≤ n) (h : ∀ i, i < n → K i = K' i) : ∀ i, i < n + 1 → insF K n j v i = insF K' n j v i := by
  intro i hi
  rcases Nat.lt_trichotomy i j with g | g | g
  · rw [insF_lt g, insF_lt g, h i (by omega)]
  · subst g; rw [insF_at, insF_at]
  · rw [insF_gt g (by omega), insF_gt g (by omega), h (i - 1) (by omega)]
theorem req_adm {R Q : R4} (h : req R Q) (k v : Int64) (m : Nat) : req (adm R k m v) (adm Q k m v) := by
  obtain ⟨K, z, V, n⟩ := R
  obtain ⟨K', z', V', n'⟩ := Q
  obtain ⟨h1, h2⟩ := h
  replace h1 : n = n' := h1
  subst h1
  replace h2 : ∀ i, i < n → K i = K' i ∧ z i = z' i ∧ V i = V' i := h2
  have e1 : plc K k n = plc K' k n := plc_congr n (fun i hi => (h2 i hi).1)
  by_cases c : plc K k n < n ∧ K (plc K k n) = k
  · have c' : plc K' k n < n ∧ K' (plc K' k n) = k := by rw [← e1, ← (h2 _ c.1).1]; exact c
    rw [adm_t c, adm_t c']
    exact ⟨rfl, h2⟩
  · have c' : ¬ (plc K' k n < n ∧ K' (plc K' k n) = k) := fun z => c (by rw [e1]; exact ⟨z.1, by rw [(h2 _ z.1).1]; exact z.2⟩)
    rw [adm_f c, adm_f c', ← e1]
    have hl := plc_le K k n
    refine ⟨rfl, fun i hi => ⟨?_, ?_, ?_⟩⟩
    · exact insF_congr hl (fun i hi => (h2 i hi).1) i hi
    · exact insF_congr hl (fun i hi => (h2 i hi).2.1) i hi
    · exact insF_congr hl (fun i hi => (h2 i hi).2.2) i hi
theorem req_adms {R Q W : R4} (h : req R Q) : ∀ i, req (adms R W i) (adms Q W i)
  | 0 => h
  | i + 1 => req_adm (req_adms h i) _ _ _
theorem req_gth {b : Bool} {m : Nat} {ids : Nat → Nat} {S T : Nat → Int32} {B : Nat → Nat} : ∀ e p {R Q : R4}, req R Q → (gth b m ids S T B e p R).1 = (gth b m ids S T B e p Q).1 ∧ (gth b m ids S T B e p R).2.2 = (gth b m ids S T B e p Q).2.2 ∧ req (gth b m ids S T B e p R).2.1 (gth b m ids S T B e p Q).2.1
  | 0 => fun p R Q h => ⟨rfl, rfl, h⟩
  | e + 1 => fun p R Q h => by
    cases c : (rdE b m ids S T B p).1 with
    | some f => rw [gth_f c, gth_f c]; exact ⟨rfl, rfl, h⟩
    | none =>
      rw [gth_n c, gth_n c]
      obtain ⟨h1, h2, h3⟩ := req_gth e (p + ebn (tby B ids (p + 8))) (req_adm h (enK (tby B ids) p) (enV (tby B ids) p) (tby B ids (p + 8)))
      exact ⟨h1, by show _ + _ = _ + _; rw [h2], h3⟩
theorem req_gtm {b : Bool} {tb : Nat → TBr} {S T : Nat → Int32} {D : Nat → Nat} : ∀ e t {R Q : R4}, req R Q → (gtm b tb S T D e t R).1 = (gtm b tb S T D e t Q).1 ∧ (gtm b tb S T D e t R).2.2 = (gtm b tb S T D e t Q).2.2 ∧ req (gtm b tb S T D e t R).2.1 (gtm b tb S T D e t Q).2.1
  | 0 => fun t R Q h => ⟨rfl, rfl, h⟩
  | e + 1 => fun t R Q h => by
    obtain ⟨h1, h2, h3⟩ := req_gth (b := b) (m := (tb t).mn) (ids := (tb t).id) (S := S) (T := T) (B := D) (tb t).en 0 h
    cases c : (gth b (tb t).mn (tb t).id S T D (tb t).en 0 R).1 with
    | some f =>
      rw [gtm_f c, gtm_f (h1.symm.trans c)]
      exact ⟨rfl, h2, h3⟩
    | none =>
      rw [gtm_n c, gtm_n (h1.symm.trans c)]
      obtain ⟨g1, g2, g3⟩ := req_gtm e (t + 1) h3
      exact ⟨g1, by show _ + _ = _ + _; rw [h2, g2], g3⟩
theorem req_0 (K V K' V' : Nat → Int64) (z z' : Nat → Nat) : req (K, z, V, 0) (K', z', V', 0) := ⟨rfl, fun i hi => absurd hi (Nat.not_lt_zero _)⟩
/-- laid in above: nothing but the model's shift -/
theorem adm_shf {K V : Nat → Int64} {z : Nat → Nat} {n m : Nat} {k v : Int64} (h : ¬ (plc K k n < n ∧ K (plc K k n) = k)) : adm (K, z, V, n) k m v = (va_up (shf K n (plc K k n)) (plc K k n) k, va_up (shf z n (plc K k n)) (plc K k n) m, va_up (shf V n (plc K k n)) (plc K k n) v, n + 1) := by
  have hl := plc_le K k n
  rw [adm_f h, shf_ins K k hl, shf_ins z m hl, shf_ins V v hl]
theorem stm_shf {K V : Nat → Int64} {z : Nat → Nat} {n m : Nat} {k v : Int64} (h : ¬ (plc K k n < n ∧ K (plc K k n) = k)) : stm (K, z, V, n) k m v = (va_up (shf K n (plc K k n)) (plc K k n) k, va_up (shf z n (plc K k n)) (plc K k n) m, va_up (shf V n (plc K k n)) (plc K k n) v, n + 1) := by
  have hl := plc_le K k n
  rw [stm_f h, shf_ins K k hl, shf_ins z m hl, shf_ins V v hl]
theorem stm_up {K V : Nat → Int64} {z : Nat → Nat} {n m : Nat} {k v : Int64} (h : plc K k n < n ∧ K (plc K k n) = k) : stm (K, z, V, n) k m v = (va_up K (plc K k n) k, va_up z (plc K k n) m, va_up V (plc K k n) v, n) := by
  rw [stm_t h, va_up_same K h.2]
theorem b2n_31 (b : Bool) : b2n b < 2 ^ 31 := by have := b2n_le b; omega
