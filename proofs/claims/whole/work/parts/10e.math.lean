/-! THE MODEL: the lowest wrong block, the next key -/
def mnW (lo : Int32) (W : Nat → Prop) : Prop := (lo = (-1) ∧ ∀ b, ¬ W b) ∨ (∃ b, lo = nI b ∧ b < 128 ∧ W b ∧ ∀ b', W b' → b ≤ b')
theorem mnW_r {lo : Int32} {W W' : Nat → Prop} (h : mnW lo W) (h1 : ∀ b, W' b ↔ W b) : mnW lo W' := by
  rcases h with ⟨a, b⟩ | ⟨b, a, c, d, e⟩
  · exact Or.inl ⟨a, fun q z => b q ((h1 q).mp z)⟩
  · exact Or.inr ⟨b, a, c, (h1 b).mpr d, fun q z => e q ((h1 q).mp z)⟩
theorem mnW_w {lo : Int32} {W W' : Nat → Prop} {b : Nat} (h : mnW lo W) (hb : b < 128) (h1 : ∀ q, W' q ↔ W q ∨ q = b) : (lo < 0 → mnW (nI b) W') ∧ (¬ lo < 0 → nI b < lo → mnW (nI b) W') ∧ (¬ lo < 0 → ¬ nI b < lo → mnW lo W') := by
  refine ⟨fun hl => ?_, fun hl h2 => ?_, fun hl h2 => ?_⟩
  · rcases h with ⟨a, g⟩ | ⟨b', a, c, d, e⟩
    · refine Or.inr ⟨b, rfl, hb, (h1 b).mpr (Or.inr rfl), fun q z => ?_⟩
      rcases (h1 q).mp z with z | z
      · exact absurd z (g q)
      · omega
    · rw [a] at hl
      exact (cv_l0 (by omega) hl).elim
  · rcases h with ⟨a, g⟩ | ⟨b', a, c, d, e⟩
    · rw [a] at hl; exact absurd (by decide) hl
    · rw [a] at h2
      have h3 := cv_lt (by omega) (by omega) h2
      refine Or.inr ⟨b, rfl, hb, (h1 b).mpr (Or.inr rfl), fun q z => ?_⟩
      rcases (h1 q).mp z with z | z
      · have := e q z; omega
      · omega
  · rcases h with ⟨a, g⟩ | ⟨b', a, c, d, e⟩
    · rw [a] at hl; exact absurd (by decide) hl
    · rw [a] at h2
      have h3 := cv_nlt (by omega) (by omega) h2
      refine Or.inr ⟨b', a, c, (h1 b').mpr (Or.inl d), fun q z => ?_⟩
      rcases (h1 q).mp z with z | z
      · exact e q z
      · omega
/-- block b is wrong, and of the first t tables or of the first k blocks of table t -/
def wrB (tb : Nat → TBr) (S T : Nat → Int32) (D : Nat → Nat) (t k b : Nat) : Prop := ∃ t' k', (t' < t ∨ (t' = t ∧ k' < k)) ∧ k' < (tb t').mn ∧ (tb t').id k' = b ∧ rgt S T D b = false
section WRB
variable {tb : Nat → TBr} {S T : Nat → Int32} {D : Nat → Nat} {t k b : Nat}
theorem wrB_0 : ¬ wrB tb S T D 0 0 b := fun ⟨t', k', h, _⟩ => by omega
theorem wrB_ok (hk : k < (tb t).mn) (h : rgt S T D ((tb t).id k) = true) : wrB tb S T D t (k + 1) b ↔ wrB tb S T D t k b := by
  constructor
  · rintro ⟨t', k', h1, h2, h3, h4⟩
    refine ⟨t', k', ?_, h2, h3, h4⟩
    rcases h1 with h1 | ⟨h1, h5⟩
    · exact Or.inl h1
    · by_cases e : k' = k
      · subst e; subst h1; rw [h3, h4] at h; cases h
      · exact Or.inr ⟨h1, by omega⟩
  · rintro ⟨t', k', h1, h2, h3, h4⟩
    exact ⟨t', k', by omega, h2, h3, h4⟩
theorem wrB_no (hk : k < (tb t).mn) (h : rgt S T D ((tb t).id k) = false) : wrB tb S T D t (k + 1) b ↔ wrB tb S T D t k b ∨ b = (tb t).id k := by
  constructor
  · rintro ⟨t', k', h1, h2, h3, h4⟩
    rcases h1 with h1 | ⟨h1, h5⟩
    · exact Or.inl ⟨t', k', Or.inl h1, h2, h3, h4⟩
    · by_cases e : k' = k
      · subst e; subst h1; exact Or.inr h3.symm
      · exact Or.inl ⟨t', k', Or.inr ⟨h1, by omega⟩, h2, h3, h4⟩
  · rintro (⟨t', k', h1, h2, h3, h4⟩ | h1)
    · exact ⟨t', k', by omega, h2, h3, h4⟩
    · exact ⟨t, k, by omega, hk, h1.symm, by rw [h1]; exact h⟩
theorem wrB_t (hk : (tb t).mn ≤ k) : wrB tb S T D (t + 1) 0 b ↔ wrB tb S T D t k b := by
  constructor
  · rintro ⟨t', k', h1, h2, h3, h4⟩
    refine ⟨t', k', ?_, h2, h3, h4⟩
    by_cases e : t' = t
    · subst e; exact Or.inr ⟨rfl, by omega⟩
    · exact Or.inl (by omega)
  · rintro ⟨t', k', h1, h2, h3, h4⟩
    exact ⟨t', k', by omega, h2, h3, h4⟩
theorem wrB_end {lo : Int32} {M c : Nat} (h : mnW lo (wrB tb S T D c 0)) (hM : M ≤ 128) (hT : ∀ t, t < c → ∀ k, k < (tb t).mn → (tb t).id k < M ∧ T ((tb t).id k) ≠ (-1)) (hc : ∀ j, j < M → T j ≠ (-1) → ∃ t k, t < c ∧ k < (tb t).mn ∧ (tb t).id k = j) : lo = if lwr S T D M < M then nI (lwr S T D M) else (-1) := by
  have hw : ∀ b, wrB tb S T D c 0 b ↔ b < M ∧ (decide (T b = (-1)) || rgt S T D b) = false := by
    intro b
    constructor
    · rintro ⟨t', k', h1, h2, h3, h4⟩
      have g := hT t' (by omega) k' h2
      rw [h3] at g
      exact ⟨g.1, by rw [h4, decide_eq_false g.2]; rfl⟩
    · rintro ⟨h1, h2⟩
      rw [Bool.or_eq_false_iff] at h2
      obtain ⟨t', k', g1, g2, g3⟩ := hc b h1 (of_decide_eq_false h2.1)
      exact ⟨t', k', Or.inl g1, g2, g3, h2.2⟩
  have hl := fwi_le (fun j => decide (T j = (-1)) || rgt S T D j) M
  rcases h with ⟨a, g⟩ | ⟨b', a, c1, d, e⟩
  · have : ¬ lwr S T D M < M := fun z => g _ ((hw _).mpr ⟨z, fwi_fst z⟩)
    rw [if_neg this, a]
  · have hb := (hw b').mp d
    have h1 : lwr S T D M = b' := by
      refine fwi_is (by omega) (fun j hj => ?_) (fun _ => hb.2)
      cases q : (decide (T j = (-1)) || rgt S T D j) with
      | true => rfl
      | false => have := e j ((hw j).mpr ⟨by omega, q⟩); omega
    rw [h1, if_pos hb.1, a]
end WRB
theorem nxt_is {z : Nat → Nat} {n i : Nat} (hi : i ≤ n) (h2 : i < n → ¬ z i = 255) : ∀ d a, a + d = i → (∀ j, a ≤ j → j < i → z j = 255) → nxt z n (n - a) a = i
  | 0 => fun a e h1 => by
    rw [Nat.add_zero] at e
    subst e
    by_cases c : a < n
    · exact nxt_k (h2 c)
    · exact nxt_e (by omega)
  | d + 1 => fun a e h1 => by
    rw [nxt_s (by omega) (h1 a (Nat.le_refl _) (by omega))]
    exact nxt_is hi h2 d (a + 1) (by omega) (fun j h3 h4 => h1 j (by omega) h4)
theorem abv_lo {K : Nat → Int64} {n j : Nat} {k : Int64} (h : j < abv K n k) : ¬ k < K j := by
  unfold abv at h
  by_cases e : j < plc K k n
  · have := plc_below K k n j e
    rw [lv_lt'] at *
    omega
  · by_cases c : plc K k n < n ∧ K (plc K k n) = k
    · rw [isIn_t c, if_pos rfl] at h
      have : j = plc K k n := by omega
      rw [this, c.2, lv_lt']
      omega
    · rw [isIn_f c, if_neg (by decide)] at h
      omega
theorem abv_hi {K : Nat → Int64} {n j : Nat} {k : Int64} (hs : srt K n) (h : abv K n k ≤ j) (hj : j < n) : k < K j := by
  unfold abv at h
  by_cases c : plc K k n < n ∧ K (plc K k n) = k
  · rw [isIn_t c, if_pos rfl] at h
    have := hs (plc K k n) j (by omega) hj
    rw [c.2] at this
    exact this
  · rw [isIn_f c, if_neg (by decide)] at h
    have h1 := plc_at K k n (by omega)
    have h2 : K (plc K k n) ≠ k := fun z => c ⟨by omega, z⟩
    have h3 : k < K (plc K k n) := by
      rw [lv_lt'] at *
      have h4 : (K (plc K k n)).toInt ≠ k.toInt := fun z => h2 (Int64.toInt_inj.mp z)
      omega
    by_cases e : plc K k n = j
    · rw [← e]; exact h3
    · have h5 := hs (plc K k n) j (by omega) hj
      rw [lv_lt'] at *
      omega
theorem afr_is {K V : Nat → Int64} {z : Nat → Nat} {n i : Nat} {k : Int64} (hs : srt K n) (hi : i ≤ n) (h1 : ∀ j, j < i → ¬ (k < K j ∧ z j ≠ 255)) (h2 : i < n → k < K i ∧ z i ≠ 255) : afr (K, z, V, n) k = if i < n then K i else k := by
  have ha : abv K n k ≤ n := by
    have := plc_le K k n
    unfold abv
    by_cases c : plc K k n < n ∧ K (plc K k n) = k
    · rw [isIn_t c, if_pos rfl]; omega
    · rw [isIn_f c, if_neg (by decide)]; omega
  have ha2 : abv K n k ≤ i := by
    rcases Nat.lt_or_ge i (abv K n k) with g | g
    · exact absurd (h2 (by omega)).1 (abv_lo g)
    · exact g
  have e : nxt z n (n - abv K n k) (abv K n k) = i := by
    refine nxt_is hi (fun g => (h2 g).2) (i - abv K n k) _ (by omega) (fun j g1 g2 => ?_)
    by_cases q : z j = 255
    · exact q
    · exact absurd ⟨abv_hi hs g1 (by omega), q⟩ (h1 j g2)
  show nxk K z n k (abv K n k) = _
  unfold nxk
  rw [e]
theorem req_afr {R Q : R4} (h : req R Q) (hs : srt R.1 R.2.2.2) (k : Int64) : afr R k = afr Q k := by
  obtain ⟨K, z, V, n⟩ := R
  obtain ⟨K', z', V', n'⟩ := Q
  obtain ⟨h1, h2⟩ := h
  replace h1 : n = n' := h1
  subst h1
  replace h2 : ∀ i, i < n → K i = K' i ∧ z i = z' i ∧ V i = V' i := h2
  replace hs : srt K n := hs
  have hs' : srt K' n := fun i j g1 g2 => by rw [← (h2 i (by omega)).1, ← (h2 j g2).1]; exact hs i j g1 g2
  have hex : ∀ d i, i + d = n → (∀ j, j < i → ¬ (k < K j ∧ z j ≠ 255)) → ∃ i, i ≤ n ∧ (∀ j, j < i → ¬ (k < K j ∧ z j ≠ 255)) ∧ (i < n → k < K i ∧ z i ≠ 255) := by
    intro d
    induction d with
    | zero => intro i e g; exact ⟨i, by omega, g, fun q => by omega⟩
    | succ d ih =>
      intro i e g
      by_cases c : k < K i ∧ z i ≠ 255
      · exact ⟨i, by omega, g, fun _ => c⟩
      · exact ih (i + 1) (by omega) (fun j hj => by
          by_cases q : j = i
          · rw [q]; exact c
          · exact g j (by omega))
  obtain ⟨i, g1, g2, g3⟩ := hex n 0 (by omega) (fun j hj => absurd hj (Nat.not_lt_zero _))
  rw [afr_is (V := V) hs g1 g2 g3, afr_is (V := V') hs' g1 (fun j hj => by rw [← (h2 j (by omega)).1, ← (h2 j (by omega)).2.1]; exact g2 j hj) (fun g => by rw [← (h2 i g).1, ← (h2 i g).2.1]; exact g3 g)]
  by_cases c : i < n
  · rw [if_pos c, if_pos c, (h2 i c).1]
  · rw [if_neg c, if_neg c]
