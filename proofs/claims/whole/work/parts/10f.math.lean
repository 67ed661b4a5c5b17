/-! THE MODEL: rows said -/
theorem lay_lo {B : Nat → Nat} {o : Nat} {f : Nat → Nat} {q : Nat} (h : q < o) : ∀ n, lay B o f n q = B q
  | 0 => rfl
  | n + 1 => by rw [lay, va_up_ne _ _ (by omega)]; exact lay_lo h n
theorem ser_congr {K V K' V' : Nat → Int64} {z z' : Nat → Nat} : ∀ {n : Nat}, (∀ i, i < n → K i = K' i ∧ z i = z' i ∧ V i = V' i) → ∀ q, ser K z V n q = ser K' z' V' n q
  | 0 => fun _ q => rfl
  | n + 1 => fun h q => by
    have e := bySum_congr (z := z) (z' := z') (t := n) (fun i hi => (h i (by omega)).2.1)
    obtain ⟨h1, h2, h3⟩ := h n (by omega)
    rw [ser, ser, e, h1, h2, h3, ser_congr (fun i hi => h i (by omega)) q]
theorem fbOr_congr {K K' : Nat → Int64} : ∀ {n : Nat}, (∀ i, i < n → K i = K' i) → fbOr K n = fbOr K' n
  | 0 => fun _ => rfl
  | n + 1 => fun h => by rw [fbOr, fbOr, fbOr_congr (fun i hi => h i (by omega)), h n (by omega)]
/-- what the bytes, the length and the filter of rows are -/
theorem req_ser {R Q : R4} (h : req R Q) : bySum R.2.1 R.2.2.2 = bySum Q.2.1 Q.2.2.2 ∧ fbOr R.1 R.2.2.2 = fbOr Q.1 Q.2.2.2 ∧ ser R.1 R.2.1 R.2.2.1 R.2.2.2 = ser Q.1 Q.2.1 Q.2.2.1 Q.2.2.2 := by
  obtain ⟨h1, h2⟩ := h
  rw [← h1]
  exact ⟨bySum_congr (fun i hi => (h2 i hi).2.1), fbOr_congr (fun i hi => (h2 i hi).1), funext fun q => ser_congr h2 q⟩
theorem mrk_n {K V : Nat → Int64} {z : Nat → Nat} {i : Nat} (h : z i = 255) : mrk (K, z, V, i + 1) true = mrk (K, z, V, i) true := by
  show (cmpF z K (i + 1), cmpF z z (i + 1), cmpF z V (i + 1), kpt z (i + 1)) = (cmpF z K i, cmpF z z i, cmpF z V i, kpt z i)
  rw [cmpF, cmpF, cmpF, kpt, if_pos h, if_pos h, if_pos h, if_pos h]
theorem mrk_a {K V : Nat → Int64} {z : Nat → Nat} {i : Nat} {b : Bool} (h : ¬ (b = true ∧ z i = 255)) : (mrk (K, z, V, i + 1) b).2.2.2 = (mrk (K, z, V, i) b).2.2.2 + 1 ∧ (∀ j, j < (mrk (K, z, V, i) b).2.2.2 → (mrk (K, z, V, i + 1) b).1 j = (mrk (K, z, V, i) b).1 j ∧ (mrk (K, z, V, i + 1) b).2.1 j = (mrk (K, z, V, i) b).2.1 j ∧ (mrk (K, z, V, i + 1) b).2.2.1 j = (mrk (K, z, V, i) b).2.2.1 j) ∧ (mrk (K, z, V, i + 1) b).1 (mrk (K, z, V, i) b).2.2.2 = K i ∧ (mrk (K, z, V, i + 1) b).2.1 (mrk (K, z, V, i) b).2.2.2 = z i ∧ (mrk (K, z, V, i + 1) b).2.2.1 (mrk (K, z, V, i) b).2.2.2 = V i := by
  cases b with
  | false => exact ⟨rfl, fun j hj => ⟨rfl, rfl, rfl⟩, rfl, rfl, rfl⟩
  | true =>
    have hz : ¬ z i = 255 := fun e => h ⟨rfl, e⟩
    show kpt z (i + 1) = kpt z i + 1 ∧ (∀ j, j < kpt z i → cmpF z K (i + 1) j = cmpF z K i j ∧ cmpF z z (i + 1) j = cmpF z z i j ∧ cmpF z V (i + 1) j = cmpF z V i j) ∧ cmpF z K (i + 1) (kpt z i) = K i ∧ cmpF z z (i + 1) (kpt z i) = z i ∧ cmpF z V (i + 1) (kpt z i) = V i
    rw [kpt, cmpF, cmpF, cmpF, if_neg hz, if_neg hz, if_neg hz, if_neg hz]
    refine ⟨rfl, fun j hj => ⟨?_, ?_, ?_⟩, va_up_self _ _ _, va_up_self _ _ _, va_up_self _ _ _⟩
    · rw [va_up_ne _ _ (by omega)]
    · rw [va_up_ne _ _ (by omega)]
    · rw [va_up_ne _ _ (by omega)]
/-- a row more -/
theorem row_more {R Q : R4} {k v : Int64} {m : Nat} (h0 : Q.2.2.2 = R.2.2.2 + 1) (h1 : ∀ j, j < R.2.2.2 → Q.1 j = R.1 j ∧ Q.2.1 j = R.2.1 j ∧ Q.2.2.1 j = R.2.2.1 j) (h2 : Q.1 R.2.2.2 = k) (h3 : Q.2.1 R.2.2.2 = m) (h4 : Q.2.2.1 R.2.2.2 = v) : bySum Q.2.1 Q.2.2.2 = bySum R.2.1 R.2.2.2 + ebn m ∧ fbOr Q.1 Q.2.2.2 = fbOr R.1 R.2.2.2 ||| fbits k ∧ (∀ q, q < bySum R.2.1 R.2.2.2 → ser Q.1 Q.2.1 Q.2.2.1 Q.2.2.2 q = ser R.1 R.2.1 R.2.2.1 R.2.2.2 q) ∧ ∀ j, j < ebn m → ser Q.1 Q.2.1 Q.2.2.1 Q.2.2.2 (bySum R.2.1 R.2.2.2 + j) = ebt k m v j := by
  have e := bySum_congr (z := Q.2.1) (z' := R.2.1) (t := R.2.2.2) (fun i hi => (h1 i hi).2.1)
  rw [h0]
  refine ⟨?_, ?_, fun q hq => ?_, fun j hj => ?_⟩
  · rw [bySum, h3, e]
  · rw [fbOr, h2, fbOr_congr (fun i hi => (h1 i hi).1)]
  · rw [ser, e, if_pos hq]
    exact ser_congr h1 q
  · rw [ser, e, if_neg (by omega), h3, if_pos (by omega), h2, h4, Nat.add_sub_cancel_left]
theorem req_mrk {R Q : R4} (h : req R Q) (b : Bool) : req (mrk R b) (mrk Q b) := by
  obtain ⟨K, z, V, n⟩ := R
  obtain ⟨K', z', V', n'⟩ := Q
  obtain ⟨h1, h2⟩ := h
  replace h1 : n = n' := h1
  subst h1
  replace h2 : ∀ i, i < n → K i = K' i ∧ z i = z' i ∧ V i = V' i := h2
  suffices g : ∀ i, i ≤ n → req (mrk (K, z, V, i) b) (mrk (K', z', V', i) b) from g n (Nat.le_refl _)
  intro i
  induction i with
  | zero =>
    intro _
    cases b with
    | false => exact ⟨rfl, fun i hi => absurd hi (Nat.not_lt_zero _)⟩
    | true => exact ⟨rfl, fun i hi => absurd hi (Nat.not_lt_zero _)⟩
  | succ i ih =>
    intro hi
    have ih' := ih (by omega)
    obtain ⟨e1, e2, e3⟩ := h2 i (by omega)
    by_cases c : b = true ∧ z i = 255
    · obtain ⟨c1, c2⟩ := c
      subst c1
      rw [mrk_n c2, mrk_n (e2 ▸ c2)]
      exact ih'
    · obtain ⟨a1, a2, a3, a4, a5⟩ := mrk_a (K := K) (V := V) c
      obtain ⟨b1, b2, b3, b4, b5⟩ := mrk_a (K := K') (V := V') (z := z') (i := i) (b := b) (fun w => c ⟨w.1, e2.trans w.2⟩)
      obtain ⟨g1, g2⟩ := ih'
      refine ⟨by rw [a1, b1, g1], fun j hj => ?_⟩
      rw [a1] at hj
      by_cases q : j < (mrk (K, z, V, i) b).2.2.2
      · obtain ⟨p1, p2, p3⟩ := a2 j q
        obtain ⟨r1, r2, r3⟩ := b2 j (g1 ▸ q)
        obtain ⟨s1, s2, s3⟩ := g2 j q
        exact ⟨by rw [p1, r1, s1], by rw [p2, r2, s2], by rw [p3, r3, s3]⟩
      · have q2 : j = (mrk (K, z, V, i) b).2.2.2 := by omega
        rw [q2]
        refine ⟨?_, ?_, ?_⟩
        · rw [a3, g1, b3, e1]
        · rw [a4, g1, b4, e2]
        · rw [a5, g1, b5, e3]
theorem mrk_le {R : R4} {b : Bool} : (mrk R b).2.2.2 ≤ R.2.2.2 := by
  cases b with
  | false => exact Nat.le_refl _
  | true => exact kpt_le _ _
theorem mrk_ok {K V : Nat → Int64} {z : Nat → Nat} {b : Bool} : ∀ {n : Nat}, rOk (K, z, V, n) → rOk (mrk (K, z, V, n) b) ∧ ∀ j, j < (mrk (K, z, V, n) b).2.2.2 → ∃ i, i < n ∧ (mrk (K, z, V, n) b).1 j = K i
  | 0 => fun h => by
    cases b with
    | false => exact ⟨h, fun j hj => absurd hj (Nat.not_lt_zero _)⟩
    | true => exact ⟨⟨fun i j _ hj => absurd hj (Nat.not_lt_zero _), fun i hi => absurd hi (Nat.not_lt_zero _)⟩, fun j hj => absurd hj (Nat.not_lt_zero _)⟩
  | n + 1 => fun h => by
    obtain ⟨h1, h2⟩ := h
    replace h1 : srt K (n + 1) := h1
    replace h2 : ∀ i, i < n + 1 → okn (z i) := h2
    obtain ⟨⟨g1, g2⟩, g3⟩ := mrk_ok (K := K) (V := V) (z := z) (b := b) (n := n) ⟨fun i j a (c : j < n) => h1 i j a (by omega), fun i (hi : i < n) => h2 i (by omega)⟩
    by_cases c : b = true ∧ z n = 255
    · obtain ⟨c1, c2⟩ := c
      subst c1
      rw [mrk_n c2]
      exact ⟨⟨g1, g2⟩, fun j hj => by obtain ⟨i, q1, q2⟩ := g3 j hj; exact ⟨i, by omega, q2⟩⟩
    · obtain ⟨a1, a2, a3, a4, a5⟩ := mrk_a (K := K) (V := V) c
      refine ⟨⟨fun i j hij hj => ?_, fun i hi => ?_⟩, fun j hj => ?_⟩
      · rw [a1] at hj
        rw [(a2 i (by omega)).1]
        by_cases q : j < (mrk (K, z, V, n) b).2.2.2
        · rw [(a2 j q).1]; exact g1 i j hij q
        · rw [show j = (mrk (K, z, V, n) b).2.2.2 by omega, a3]
          obtain ⟨i', q1, q2⟩ := g3 i (by omega)
          rw [q2]
          exact h1 i' n q1 (by omega)
      · rw [a1] at hi
        by_cases q : i < (mrk (K, z, V, n) b).2.2.2
        · rw [(a2 i q).2.1]; exact g2 i q
        · rw [show i = (mrk (K, z, V, n) b).2.2.2 by omega, a4]; exact h2 n (by omega)
      · rw [a1] at hj
        by_cases q : j < (mrk (K, z, V, n) b).2.2.2
        · rw [(a2 j q).1]; obtain ⟨i, q1, q2⟩ := g3 j q; exact ⟨i, by omega, q2⟩
        · rw [show j = (mrk (K, z, V, n) b).2.2.2 by omega, a3]; exact ⟨n, by omega, rfl⟩
theorem mrk_by {K V : Nat → Int64} {z : Nat → Nat} {b : Bool} : ∀ {n : Nat}, bySum (mrk (K, z, V, n) b).2.1 (mrk (K, z, V, n) b).2.2.2 ≤ bySum z n
  | 0 => by cases b <;> exact Nat.le_refl _
  | n + 1 => by
    have ih := mrk_by (K := K) (V := V) (z := z) (b := b) (n := n)
    show _ ≤ bySum z n + ebn (z n)
    by_cases c : b = true ∧ z n = 255
    · obtain ⟨c1, c2⟩ := c
      subst c1
      rw [mrk_n c2]
      omega
    · obtain ⟨a1, a2, a3, a4, a5⟩ := mrk_a (K := K) (V := V) c
      rw [(row_more a1 a2 a3 a4 a5).1]
      omega
def wnb (v a b : Int32) : Bool := decide (a ≤ v ∧ v ≤ b)
theorem wnb_1 {v a b : Int32} (h : v < a) : wnb v a b = false := decide_eq_false (fun z => i32_nlt z.1 h)
theorem wnb_2 {v a b : Int32} (h : b < v) : wnb v a b = false := decide_eq_false (fun z => i32_nlt z.2 h)
theorem wnb_t {v a b : Int32} (h : ¬ v < a) (h2 : ¬ b < v) : wnb v a b = true := decide_eq_true ⟨Int32.not_lt.mp h, Int32.not_lt.mp h2⟩
theorem wnb_p {v a b : Int32} (h : wnb v a b = true) : a ≤ v ∧ v ≤ b := of_decide_eq_true h
theorem pl_s {K : Nat → Int64} {k : Int64} {j : Nat} (h : ∀ i, i < j → K i < k) (h2 : K j < k) : ∀ i, i < j + 1 → K i < k := fun i hi => by
  by_cases e : i = j
  · rw [e]; exact h2
  · exact h i (by omega)
/-- whether memory and log have room for a row -/
def hrm (K : Nat → Int64) (n u : Nat) (k : Int64) (m : Nat) : Bool := (isIn K n k || decide (n < 24)) && decide (u + 10 + bOf m ≤ 1024)
theorem bOf_m (m : Nat) : bOf m ≤ m := by unfold bOf; split <;> omega
theorem and255 {a : Nat} (h : a < 2 ^ 31) : nI a &&& nI 255 = nI (a % 256) := by
  rw [pk_and (nI a) (m := nI 255) 8 (by decide)]
  congr 1
  show (BitVec.ofNat 32 a).toNat % 2 ^ 8 = a % 256
  rw [BitVec.toNat_ofNat]
  omega
theorem smf_lt2 (f : Nat → Nat) (j : Nat) {c : Nat} (h : c < 256) : smf f j % 256 + c < 2 ^ 31 := by omega
