/-! THE MODEL: what it writes -/
theorem lay_s {B : Nat → Nat} {o i v : Nat} {f : Nat → Nat} (h : f i = v) (h2 : v < 256) : va_up (lay B o f i) (o + i) v = lay B o f (i + 1) := by
  rw [lay, h, Nat.mod_eq_of_lt h2]
theorem lay_at {B : Nat → Nat} {o : Nat} {f : Nat → Nat} : ∀ n j, j < n → lay B o f n (o + j) = f j % 256
  | 0 => fun j h => absurd h (Nat.not_lt_zero _)
  | n + 1 => fun j h => by
    rw [lay]
    by_cases e : j = n
    · subst e; rw [va_up_self]
    · rw [va_up_ne _ _ (by omega)]; exact lay_at n j (by omega)
theorem smf_congr {f g : Nat → Nat} : ∀ n, (∀ j, j < n → f j = g j) → smf f n = smf g n
  | 0 => fun _ => rfl
  | n + 1 => fun h => by rw [smf, smf, smf_congr n (fun j hj => h j (by omega)), h n (by omega)]
theorem ebt_k {k v : Int64} {n i : Nat} (h : i < 8) : ebt k n v i = byt k (8 - 1 - i) := by
  unfold ebt
  rw [if_pos h]
theorem ebt_n {k v : Int64} {n : Nat} : ebt k n v 8 = n := rfl
theorem ebt_v {k v : Int64} {n i : Nat} (h : i < bOf n) : ebt k n v (9 + i) = byt v (n - 1 - i) := by
  have hn : bOf n = n := by unfold bOf at h ⊢; split at h; exact absurd h (Nat.not_lt_zero _); rename_i g; exact if_neg g
  unfold ebt
  rw [if_neg (by omega), if_neg (by omega), ebn_bOf, hn]
  congr 1
  omega
theorem bOf_le {n : Nat} (h : okn n) : bOf n ≤ 8 := by unfold bOf; rcases h with h | h <;> split <;> omega
theorem bOf_n {n i : Nat} (h : i < bOf n) : bOf n = n := by unfold bOf at h ⊢; split at h; exact absurd h (Nat.not_lt_zero _); rename_i g; exact if_neg g
theorem sm255 {a b : Nat} : (a % 256 + b) % 256 = (a + b) % 256 := by omega
/-- an entry said: bytes o .. are those of the rows -/
theorem ser_s {K V : Nat → Int64} {z : Nat → Nat} {n i q : Nat} (hq : q < bySum z i) (hi : i ≤ n) : ser K z V n q = ser K z V i q := by
  induction n with
  | zero => rw [Nat.le_zero.mp hi]
  | succ n ih =>
    by_cases e : i = n + 1
    · rw [e]
    · rw [ser, if_pos (Nat.lt_of_lt_of_le hq (bySum_mono z (by omega)))]
      exact ih (by omega)
theorem ser_lt {K V : Nat → Int64} {z : Nat → Nat} : ∀ {n : Nat}, (∀ i, i < n → okn (z i)) → ∀ q, ser K z V n q < 256
  | 0 => fun _ q => (by decide : (0 : Nat) < 256)
  | n + 1 => fun h q => by
    rw [ser]
    split
    · exact ser_lt (fun i hi => h i (by omega)) q
    · split
      · exact ebt_lt (h n (by omega))
      · decide
/-- what pick writes -/
def pkF (T : Nat → Int32) (pk : Nat → Nat) : Nat → Nat → Nat
  | 0 => pk
  | b + 1 => if T b = (-1) then va_up (pkF T pk b) (fcn T b) b else pkF T pk b
theorem pkF_is {T : Nat → Int32} {pk : Nat → Nat} {need : Nat} : ∀ b k, k < need → k < fcn T b → pkF T pk b k = tkI T need b k
  | 0 => fun k _ h => absurd h (Nat.not_lt_zero _)
  | b + 1 => fun k hk h => by
    rw [fcn] at h
    rw [pkF, tkI]
    by_cases e : T b = (-1)
    · rw [if_pos e] at h
      rw [if_pos e]
      by_cases e2 : k = fcn T b
      · rw [if_pos ⟨e, by omega⟩, e2, va_up_self, va_up_self]
      · rw [va_up_ne _ _ e2, pkF_is b k hk (by omega)]
        split
        · rw [va_up_ne _ _ e2]
        · rfl
    · rw [if_neg e] at h
      rw [if_neg e, if_neg (fun z => e z.1)]
      exact pkF_is b k hk h
theorem pkF_lt {T : Nat → Int32} {pk : Nat → Nat} {b k : Nat} (h : k < fcn T b) : pkF T pk b k < b := by
  rw [pkF_is (need := k + 1) b k (by omega) h]
  exact tkI_lt T (k + 1) b k h (by omega)
/-- taken blocks were free and bear their numbers -/
theorem tk_is (T : Nat → Int32) (need : Nat) : ∀ u k, k < fcn T u → k < need → T (tkI T need u k) = (-1) ∧ tkT T need u (tkI T need u k) = nI k
  | 0 => fun k h _ => absurd h (Nat.not_lt_zero _)
  | u + 1 => fun k h hk => by
    rw [fcn] at h
    rw [tkI, tkT]
    by_cases e : T u = (-1)
    · rw [if_pos e] at h
      by_cases e2 : k = fcn T u
      · have c : T u = (-1) ∧ fcn T u < need := ⟨e, by omega⟩
        rw [if_pos c, if_pos c, e2, va_up_self, va_up_self]
        exact ⟨e, rfl⟩
      · obtain ⟨h1, h2⟩ := tk_is T need u k (by omega) hk
        have h3 := tkI_lt T need u k (by omega) hk
        by_cases c : T u = (-1) ∧ fcn T u < need
        · rw [if_pos c, if_pos c, va_up_ne _ _ e2, va_up_ne _ _ (by omega)]
          exact ⟨h1, h2⟩
        · rw [if_neg c, if_neg c]; exact ⟨h1, h2⟩
    · rw [if_neg e] at h
      rw [if_neg (fun z => e z.1), if_neg (fun z => e z.1)]
      exact tk_is T need u k h hk
/-- the others stay -/
theorem tk_ot (T : Nat → Int32) (need : Nat) : ∀ u j, (∀ k, k < fcn T u → k < need → tkI T need u k ≠ j) → tkT T need u j = T j
  | 0 => fun j _ => rfl
  | u + 1 => fun j h => by
    rw [tkT]
    by_cases c : T u = (-1) ∧ fcn T u < need
    · rw [if_pos c]
      have hj : u ≠ j := by
        have := h (fcn T u) (by rw [fcn, if_pos c.1]; omega) c.2
        rw [tkI, if_pos c, va_up_self] at this
        exact this
      rw [va_up_ne _ _ (Ne.symm hj)]
      refine tk_ot T need u j (fun k hk hn => ?_)
      have := h k (by rw [fcn, if_pos c.1]; omega) hn
      rw [tkI, if_pos c, va_up_ne _ _ (by omega)] at this
      exact this
    · rw [if_neg c]
      refine tk_ot T need u j (fun k hk hn => ?_)
      have := h k (by rw [fcn]; split <;> omega) hn
      rw [tkI, if_neg c] at this
      exact this
theorem tkI_inj {T : Nat → Int32} {need u a b : Nat} (hu : u ≤ 128) (ha : a < fcn T u) (ha2 : a < need) (hb : b < fcn T u) (hb2 : b < need) (h : tkI T need u a = tkI T need u b) : a = b := by
  have h1 := (tk_is T need u a ha ha2).2
  have h2 := (tk_is T need u b hb hb2).2
  have h3 := fcn_le T u
  rw [h, h2] at h1
  exact ((nI_eq (by omega) (by omega)).mp h1).symm
/-- a block that is written stays so -/
theorem wrt_keep {D ids f : Nat → Nat} {need k q : Nat} (hinj : ∀ a b, a < need → b < need → ids a = ids b → a = b) (hk : k < need) (hq : q < 32) : ∀ n, (k + 1) * 32 ≤ n → n ≤ need * 32 → wrt D ids f n (ids k * 32 + q) = wrt D ids f ((k + 1) * 32) (ids k * 32 + q) := by
  intro n h1 h2
  induction n with
  | zero => omega
  | succ n ih =>
    by_cases e : (k + 1) * 32 = n + 1
    · rw [e]
    · rw [wrt, va_up_ne, ih (by omega) (by omega)]
      intro z
      unfold pos at z
      have z2 : ids k = ids (n / 32) := by omega
      have := hinj k (n / 32) hk (by omega) z2
      omega
theorem wrt_s {D ids f : Nat → Nat} {k i v : Nat} (hi : i < 32) (h : f (32 * k + i) = v) (hv : v < 256) : va_up (wrt D ids f (32 * k + i)) (32 * ids k + i) v = wrt D ids f (32 * k + (i + 1)) := by
  rw [show 32 * k + (i + 1) = (32 * k + i) + 1 by omega, wrt, h, Nat.mod_eq_of_lt hv]
  congr 1
  unfold pos
  rw [show (32 * k + i) / 32 = k by omega, show (32 * k + i) % 32 = i by omega]
  omega
def bkF (bk ids : Nat → Nat) (t : Nat) : Nat → Nat → Nat
  | 0 => bk
  | k + 1 => va_up (bkF bk ids t k) (128 * t + k) (ids k)
theorem bkF_at {bk ids : Nat → Nat} {t : Nat} : ∀ n k, k < n → bkF bk ids t n (128 * t + k) = ids k
  | 0 => fun k h => absurd h (Nat.not_lt_zero _)
  | n + 1 => fun k h => by
    rw [bkF]
    by_cases e : k = n
    · subst e; rw [va_up_self]
    · rw [va_up_ne _ _ (by omega)]; exact bkF_at n k (by omega)
theorem bkF_ne {bk ids : Nat → Nat} {t : Nat} : ∀ n, n ≤ 128 → ∀ q, (q < 128 * t ∨ 128 * (t + 1) ≤ q) → bkF bk ids t n q = bk q
  | 0 => fun _ q h => rfl
  | n + 1 => fun hn q h => by
    rw [bkF, va_up_ne _ _ (by omega)]
    exact bkF_ne n (by omega) q h
/-- the model's marks of blocks and the class's -/
def rX (X T : Nat → Int32) (M : Nat) : Prop := ∀ j, j < M → (X j = 0 ∧ T j = (-1)) ∨ (X j = 1 ∧ T j ≠ (-1))
def xtk (X : Nat → Int32) (ids : Nat → Nat) (v : Int32) : Nat → Nat → Int32
  | 0 => X
  | k + 1 => va_up (xtk X ids v k) (ids k) v
theorem xtk_at {X : Nat → Int32} {ids : Nat → Nat} {v : Int32} : ∀ n k, k < n → xtk X ids v n (ids k) = v
  | 0 => fun k h => absurd h (Nat.not_lt_zero _)
  | n + 1 => fun k h => by
    rw [xtk]
    by_cases e : ids k = ids n
    · rw [e, va_up_self]
    · rw [va_up_ne _ _ e]
      have : k ≠ n := fun z => e (by rw [z])
      exact xtk_at n k (by omega)
theorem xtk_ne {X : Nat → Int32} {ids : Nat → Nat} {v : Int32} {j : Nat} : ∀ n, (∀ k, k < n → ids k ≠ j) → xtk X ids v n j = X j
  | 0 => fun _ => rfl
  | n + 1 => fun h => by
    rw [xtk, va_up_ne _ _ (Ne.symm (h n (by omega)))]
    exact xtk_ne n (fun k hk => h k (by omega))
theorem fcn_X {X T : Nat → Int32} {M : Nat} (h : rX X T M) {j : Nat} (hj : j < M) : (X j = 0 ↔ T j = (-1)) := by
  rcases h j hj with ⟨a, b⟩ | ⟨a, b⟩
  · exact ⟨fun _ => b, fun _ => a⟩
  · exact ⟨fun z => by rw [a] at z; exact absurd z (by decide), fun z => absurd z b⟩
theorem nI_m1 {k : Nat} (h : k < 2 ^ 31) : nI k ≠ (-1) := nI_nm1 h
theorem rX_tk {X T : Nat → Int32} {M need : Nat} (h : rX X T M) (hM : M ≤ 128) (hn : need ≤ fcn T M) : rX (xtk X (tkI T need M) 1 need) (tkT T need M) M := by
  intro j hj
  have hc := fcn_le T M
  by_cases c : ∃ k, k < need ∧ tkI T need M k = j
  · obtain ⟨k, hk, e⟩ := c
    rw [← e]
    right
    refine ⟨xtk_at need k hk, ?_⟩
    rw [(tk_is T need M k (by omega) hk).2]
    exact nI_m1 (by omega)
  · have c1 : ∀ k, k < need → tkI T need M k ≠ j := fun k hk z => c ⟨k, hk, z⟩
    rw [xtk_ne need c1, tk_ot T need M j (fun k _ hk => c1 k hk)]
    exact h j hj
theorem freT_at {T : Nat → Int32} {ids : Nat → Nat} : ∀ n k, k < n → freT T ids n (ids k) = (-1)
  | 0 => fun k h => absurd h (Nat.not_lt_zero _)
  | n + 1 => fun k h => by
    rw [freT]
    by_cases e : ids k = ids n
    · rw [e, va_up_self]
    · rw [va_up_ne _ _ e]
      have : k ≠ n := fun z => e (by rw [z])
      exact freT_at n k (by omega)
theorem freT_ne {T : Nat → Int32} {ids : Nat → Nat} {j : Nat} : ∀ n, (∀ k, k < n → ids k ≠ j) → freT T ids n j = T j
  | 0 => fun _ => rfl
  | n + 1 => fun h => by
    rw [freT, va_up_ne _ _ (Ne.symm (h n (by omega)))]
    exact freT_ne n (fun k hk => h k (by omega))
theorem frs_at {tb : Nat → TBr} {T : Nat → Int32} {a : Nat} : ∀ n u k, a ≤ u → u < a + n → k < (tb u).mn → frs tb T a n ((tb u).id k) = (-1)
  | 0 => fun u k h1 h2 _ => by omega
  | n + 1 => fun u k h1 h2 h3 => by
    rw [frs]
    by_cases c : ∃ k', k' < (tb (a + n)).mn ∧ (tb (a + n)).id k' = (tb u).id k
    · obtain ⟨k', g1, g2⟩ := c
      rw [← g2]
      exact freT_at _ k' g1
    · rw [freT_ne _ (fun k' hk' z => c ⟨k', hk', z⟩)]
      have : u ≠ a + n := fun z => c ⟨k, by rw [← z]; exact h3, by rw [← z]⟩
      exact frs_at n u k h1 (by omega) h3
theorem frs_ne {tb : Nat → TBr} {T : Nat → Int32} {a j : Nat} : ∀ n, (∀ u k, a ≤ u → u < a + n → k < (tb u).mn → (tb u).id k ≠ j) → frs tb T a n j = T j
  | 0 => fun _ => rfl
  | n + 1 => fun h => by
    rw [frs, freT_ne _ (fun k hk => h (a + n) k (by omega) (by omega) hk)]
    exact frs_ne n (fun u k h1 h2 h3 => h u k h1 (by omega) h3)
/-- a table more taken off below -/
theorem rX_fr {X T : Nat → Int32} {tb : Nat → TBr} {M t n : Nat} (h : rX X (frs tb T (t + 1) n) M) : rX (xtk X (tb t).id 0 (tb t).mn) (frs tb T t (n + 1)) M := by
  intro j hj
  by_cases c : ∃ k, k < (tb t).mn ∧ (tb t).id k = j
  · obtain ⟨k, hk, e⟩ := c
    left
    rw [← e]
    exact ⟨xtk_at _ k hk, frs_at _ t k (Nat.le_refl _) (by omega) hk⟩
  · have c1 : ∀ k, k < (tb t).mn → (tb t).id k ≠ j := fun k hk z => c ⟨k, hk, z⟩
    rw [xtk_ne _ c1]
    have e : frs tb T t (n + 1) j = frs tb T (t + 1) n j := by
      by_cases d : ∃ u k, t + 1 ≤ u ∧ u < t + 1 + n ∧ k < (tb u).mn ∧ (tb u).id k = j
      · obtain ⟨u, k, g1, g2, g3, g4⟩ := d
        rw [← g4, frs_at _ u k (by omega) (by omega) g3, frs_at _ u k g1 g2 g3]
      · rw [frs_ne (n + 1) (fun u k g1 g2 g3 z => by
          by_cases e : u = t
          · subst e; exact c1 k g3 z
          · exact d ⟨u, k, by omega, by omega, g3, z⟩), frs_ne n (fun u k g1 g2 g3 z => d ⟨u, k, g1, g2, g3, z⟩)]
    rw [e]
    exact h j hj
