/-! laying a row in -/
theorem insF_lt {α : Type} {K : Nat → α} {n j q : Nat} {v : α} (h : q < j) : insF K n j v q = K q := by
  unfold insF
  rw [va_up_ne _ _ (by omega), pk_cpy_out (by omega)]
theorem insF_at {α : Type} {K : Nat → α} {n j : Nat} {v : α} : insF K n j v j = v := va_up_self _ _ _
theorem insF_gt {α : Type} {K : Nat → α} {n j q : Nat} {v : α} (h : j < q) (hq : q ≤ n) : insF K n j v q = K (q - 1) := by
  unfold insF
  rw [va_up_ne _ _ (by omega), pk_cpy_in (by omega) (by omega)]
  congr 1
  omega
theorem srt_ins {K : Nat → Int64} {n : Nat} {k : Int64} (hs : srt K n) (hf : ¬ (plc K k n < n ∧ K (plc K k n) = k)) : srt (insF K n (plc K k n) k) (n + 1) := by
  have hl := plc_le K k n
  have hb := plc_below K k n
  have ha : ∀ j, plc K k n ≤ j → j < n → k < K j := by
    intro j h1 h2
    have h3 := plc_at K k n (by omega)
    have h4 : k < K (plc K k n) := by
      have h5 : K (plc K k n) ≠ k := fun e => hf ⟨by omega, e⟩
      have h6 := l_nlt.mp h3
      rw [lv_le'] at h6
      rw [lv_lt']
      have h7 : (K (plc K k n)).toInt ≠ k.toInt := fun e => h5 (Int64.toInt_inj.mp e)
      omega
    by_cases e : j = plc K k n
    · rw [e]; exact h4
    · have h5 := hs (plc K k n) j (by omega) h2
      rw [lv_lt'] at *
      omega
  intro i j hij hj
  rcases Nat.lt_trichotomy j (plc K k n) with h | h | h
  · rw [insF_lt h, insF_lt (by omega)]
    exact hs i j hij (by omega)
  · rw [h, insF_at, insF_lt (by omega)]
    exact hb i (by omega)
  · rw [insF_gt h (by omega)]
    rcases Nat.lt_trichotomy i (plc K k n) with g | g | g
    · rw [insF_lt g]
      have h1 := hb i g
      have h2 := ha (j - 1) (by omega) (by omega)
      rw [lv_lt'] at *
      omega
    · rw [g, insF_at]
      exact ha (j - 1) (by omega) (by omega)
    · rw [insF_gt g (by omega)]
      exact hs (i - 1) (j - 1) (by omega) (by omega)
/-- rows as four: keys, lengths, values, how many -/
abbrev R4 : Type := (Nat → Int64) × (Nat → Nat) × (Nat → Int64) × Nat
/-- a row that isn't there is laid in -/
def adm (S : R4) (k : Int64) (m : Nat) (v : Int64) : R4 := if isIn S.1 S.2.2.2 k then S else (insF S.1 S.2.2.2 (plc S.1 k S.2.2.2) k, insF S.2.1 S.2.2.2 (plc S.1 k S.2.2.2) m, insF S.2.2.1 S.2.2.2 (plc S.1 k S.2.2.2) v, S.2.2.2 + 1)
/-- a row is laid in, or over the one of its key -/
def stm (S : R4) (k : Int64) (m : Nat) (v : Int64) : R4 := if isIn S.1 S.2.2.2 k then (S.1, va_up S.2.1 (plc S.1 k S.2.2.2) m, va_up S.2.2.1 (plc S.1 k S.2.2.2) v, S.2.2.2) else (insF S.1 S.2.2.2 (plc S.1 k S.2.2.2) k, insF S.2.1 S.2.2.2 (plc S.1 k S.2.2.2) m, insF S.2.2.1 S.2.2.2 (plc S.1 k S.2.2.2) v, S.2.2.2 + 1)
def adms (S T : R4) : Nat → R4
  | 0 => S
  | i + 1 => adm (adms S T i) (T.1 i) (T.2.1 i) (T.2.2.1 i)
theorem adm_t {K V : Nat → Int64} {z : Nat → Nat} {n m : Nat} {k v : Int64} (h : plc K k n < n ∧ K (plc K k n) = k) : adm (K, z, V, n) k m v = (K, z, V, n) := by
  unfold adm
  rw [isIn_t h]
  rfl
theorem adm_f {K V : Nat → Int64} {z : Nat → Nat} {n m : Nat} {k v : Int64} (h : ¬ (plc K k n < n ∧ K (plc K k n) = k)) : adm (K, z, V, n) k m v = (insF K n (plc K k n) k, insF z n (plc K k n) m, insF V n (plc K k n) v, n + 1) := by
  unfold adm
  rw [isIn_f h]
  rfl
theorem stm_t {K V : Nat → Int64} {z : Nat → Nat} {n m : Nat} {k v : Int64} (h : plc K k n < n ∧ K (plc K k n) = k) : stm (K, z, V, n) k m v = (K, va_up z (plc K k n) m, va_up V (plc K k n) v, n) := by
  unfold stm
  rw [isIn_t h]
  rfl
theorem stm_f {K V : Nat → Int64} {z : Nat → Nat} {n m : Nat} {k v : Int64} (h : ¬ (plc K k n < n ∧ K (plc K k n) = k)) : stm (K, z, V, n) k m v = (insF K n (plc K k n) k, insF z n (plc K k n) m, insF V n (plc K k n) v, n + 1) := by
  unfold stm
  rw [isIn_f h]
  rfl
theorem adm_srt {S : R4} {k v : Int64} {m : Nat} (hs : srt S.1 S.2.2.2) : srt (adm S k m v).1 (adm S k m v).2.2.2 := by
  obtain ⟨K, z, V, n⟩ := S
  by_cases h : plc K k n < n ∧ K (plc K k n) = k
  · rw [adm_t h]; exact hs
  · rw [adm_f h]; exact srt_ins hs h
theorem adm_cnt (S : R4) (k v : Int64) (m : Nat) : S.2.2.2 ≤ (adm S k m v).2.2.2 ∧ (adm S k m v).2.2.2 ≤ S.2.2.2 + 1 := by
  obtain ⟨K, z, V, n⟩ := S
  by_cases h : plc K k n < n ∧ K (plc K k n) = k
  · rw [adm_t h]; exact ⟨Nat.le_refl _, Nat.le_succ _⟩
  · rw [adm_f h]; exact ⟨Nat.le_succ _, Nat.le_refl _⟩
def nxk (K : Nat → Int64) (z : Nat → Nat) (n : Nat) (k : Int64) (i : Nat) : Int64 := if nxt z n (n - i) i < n then K (nxt z n (n - i) i) else k
theorem nxt_s {z : Nat → Nat} {n i : Nat} (h : i < n) (hz : z i = 255) : nxt z n (n - i) i = nxt z n (n - (i + 1)) (i + 1) := by
  have e9 : n - i = (n - (i + 1)) + 1 := by omega
  rw [e9, nxt, if_pos ⟨h, hz⟩]
theorem nxt_k {z : Nat → Nat} {n i : Nat} (hz : ¬ z i = 255) : nxt z n (n - i) i = i := by
  cases e : n - i with
  | zero => rfl
  | succ m => rw [nxt, if_neg (fun h => hz h.2)]
theorem nxt_e {z : Nat → Nat} {n i : Nat} (h : n ≤ i) : nxt z n (n - i) i = i := by
  rw [Nat.sub_eq_zero_of_le h]
  rfl
/-- where the keys above k begin -/
def abv (K : Nat → Int64) (n : Nat) (k : Int64) : Nat := if isIn K n k then plc K k n + 1 else plc K k n
theorem bySum_le {z : Nat → Nat} {n : Nat} (hz : ∀ i, i < n → okn (z i)) : ∀ {t : Nat}, t ≤ n → bySum z t ≤ 17 * t
  | 0, _ => Nat.le_refl _
  | t + 1, h => by
    have h1 := bySum_le hz (t := t) (by omega)
    have h2 := ebn_le (hz t (by omega))
    unfold bySum
    omega
