/-! WHAT HOLDS BETWEEN CALLS: blocks and tables -/
theorem sMn_add (tb : Nat → TBr) : ∀ a b t, sMn tb (a + b) t = sMn tb a t + sMn tb b (t + a)
  | 0 => fun b t => by rw [Nat.zero_add]; show _ = 0 + _; rw [Nat.zero_add]; rfl
  | a + 1 => fun b t => by
    rw [show a + 1 + b = (a + b) + 1 by omega, sMn, sMn, sMn_add tb a b (t + 1), show t + 1 + a = t + (a + 1) by omega]
    omega
theorem sMn_congr {tb tb' : Nat → TBr} : ∀ e t t', (∀ q, q < e → tb (t + q) = tb' (t' + q)) → sMn tb e t = sMn tb' e t'
  | 0 => fun t t' _ => rfl
  | e + 1 => fun t t' h => by
    have h0 := h 0 (by omega)
    rw [Nat.add_zero, Nat.add_zero] at h0
    rw [sMn, sMn, h0, sMn_congr e (t + 1) (t' + 1) (fun q hq => by
      have := h (q + 1) (by omega)
      rw [show t + 1 + q = t + (q + 1) by omega, show t' + 1 + q = t' + (q + 1) by omega]
      exact this)]
theorem sMn_ins {tb : Nat → TBr} {c j : Nat} {x : TBr} (hj : j ≤ c) : sMn (insF tb c j x) (c + 1) 0 = sMn tb c 0 + x.mn := by
  have e1 : c + 1 = j + (1 + (c - j)) := by omega
  have e2 : sMn tb c 0 = sMn tb j 0 + sMn tb (c - j) (0 + j) := by rw [← sMn_add, show j + (c - j) = c by omega]
  rw [e1, sMn_add, sMn_add, e2]
  have h1 : sMn (insF tb c j x) j 0 = sMn tb j 0 := sMn_congr j 0 0 (fun q hq => by rw [Nat.zero_add]; exact insF_lt hq)
  have h2 : sMn (insF tb c j x) 1 (0 + j) = x.mn := by
    show (insF tb c j x (0 + j)).mn + 0 = x.mn
    rw [Nat.zero_add, insF_at]
    rfl
  have h3 : sMn (insF tb c j x) (c - j) (0 + j + 1) = sMn tb (c - j) (0 + j) := sMn_congr _ _ _ (fun q hq => by
    rw [insF_gt (by omega) (by omega)]
    congr 1
    omega)
  rw [h1, h2, h3]
  omega
theorem sMn_cut {tb : Nat → TBr} {a e c : Nat} (h1 : a ≤ e) (h2 : e ≤ c) : sMn (mvd tb a (e - a) (c - e)) (a + (c - e)) 0 + sMn tb (e - a) a = sMn tb c 0 := by
  have e1 : sMn tb c 0 = sMn tb a 0 + (sMn tb (e - a) (0 + a) + sMn tb (c - e) (0 + a + (e - a))) := by rw [← sMn_add, ← sMn_add]; congr 1; omega
  rw [e1, sMn_add]
  have g1 : sMn (mvd tb a (e - a) (c - e)) a 0 = sMn tb a 0 := sMn_congr a 0 0 (fun q hq => by unfold mvd; rw [if_neg (by omega)])
  have g2 : sMn (mvd tb a (e - a) (c - e)) (c - e) (0 + a) = sMn tb (c - e) (0 + a + (e - a)) := sMn_congr _ _ _ (fun q hq => by
    unfold mvd
    rw [if_pos (by omega)]
    congr 1
    omega)
  rw [g1, g2, Nat.zero_add]
  omega
theorem fcn_congr {T T' : Nat → Int32} : ∀ M, (∀ j, j < M → T j = T' j) → fcn T M = fcn T' M
  | 0 => fun _ => rfl
  | M + 1 => fun h => by rw [fcn, fcn, fcn_congr M (fun j hj => h j (by omega)), h M (by omega)]
theorem fcn_fr {T : Nat → Int32} {j : Nat} (hj : T j ≠ (-1)) : ∀ M, j < M → fcn (va_up T j (-1)) M = fcn T M + 1
  | 0 => fun h => absurd h (Nat.not_lt_zero _)
  | M + 1 => fun h => by
    rw [fcn, fcn]
    by_cases e : j = M
    · subst e
      rw [va_up_self, if_pos rfl, if_neg hj, fcn_congr j (fun q hq => va_up_ne _ _ (by omega))]
    · rw [va_up_ne _ _ (Ne.symm e), fcn_fr hj M (by omega)]
      split <;> rfl
theorem fcn_tk (T : Nat → Int32) (need : Nat) : ∀ u, u ≤ 128 → fcn (tkT T need u) u + min need (fcn T u) = fcn T u
  | 0 => fun _ => by show 0 + min need 0 = 0; omega
  | u + 1 => fun hu => by
    have ih := fcn_tk T need u (by omega)
    have hl := fcn_le T u
    rw [tkT, fcn, fcn]
    by_cases c : T u = (-1) ∧ fcn T u < need
    · rw [if_pos c, va_up_self, if_neg (nI_m1 (by omega)), if_pos c.1, fcn_congr u (T' := tkT T need u) (fun q hq => va_up_ne _ _ (by omega))]
      omega
    · rw [if_neg c, tkT_above T need u u (Nat.le_refl _)]
      by_cases e : T u = (-1)
      · rw [if_pos e, if_pos e]
        have : ¬ fcn T u < need := fun z => c ⟨e, z⟩
        omega
      · rw [if_neg e, if_neg e]
        exact ih
theorem fcn_freT {T : Nat → Int32} {ids : Nat → Nat} {M : Nat} : ∀ m, (∀ k, k < m → ids k < M ∧ T (ids k) ≠ (-1)) → (∀ a b, a < m → b < m → ids a = ids b → a = b) → fcn (freT T ids m) M = fcn T M + m
  | 0 => fun _ _ => rfl
  | m + 1 => fun h1 h2 => by
    have e : freT T ids m (ids m) = T (ids m) := freT_ne m (fun k hk z => by have := h2 k m (by omega) (by omega) z; omega)
    rw [freT, fcn_fr (by rw [e]; exact (h1 m (by omega)).2) M (h1 m (by omega)).1, fcn_freT m (fun k hk => h1 k (by omega)) (fun a b ha hb => h2 a b (by omega) (by omega))]
    omega
/-- the tables and their blocks -/
def tInv (M : Nat) (T : Nat → Int32) (tb : Nat → TBr) (c : Nat) : Prop := (∀ t, t < c → tbOk M (tb t)) ∧ lvS tb c ∧ (∀ t k, t < c → k < (tb t).mn → T ((tb t).id k) = nI k) ∧ (∀ t t' k k', t < c → t' < c → k < (tb t).mn → k' < (tb t').mn → (tb t).id k = (tb t').id k' → t = t') ∧ (∀ j, j < M → T j ≠ (-1) → ∃ t k, t < c ∧ k < (tb t).mn ∧ (tb t).id k = j) ∧ fcn T M + sMn tb c 0 = M
theorem tInv_ext {M : Nat} {T : Nat → Int32} {tb tb' : Nat → TBr} {c : Nat} (h : tInv M T tb c) (he : ∀ t, t < c → tb t = tb' t) : tInv M T tb' c := by
  obtain ⟨h1, h2, h3, h4, h5, h6⟩ := h
  refine ⟨fun t ht => he t ht ▸ h1 t ht, fun a b g1 g2 => ?_, fun t k g1 g2 => ?_, fun t t' k k' g1 g2 g3 g4 g5 => ?_, fun j g1 g2 => ?_, ?_⟩
  · rw [← he a (by omega), ← he b g2]; exact h2 a b g1 g2
  · rw [← he t g1] at g2 ⊢; exact h3 t k g1 g2
  · rw [← he t g1] at g3 g5
    rw [← he t' g2] at g4 g5
    exact h4 t t' k k' g1 g2 g3 g4 g5
  · obtain ⟨t, k, q1, q2, q3⟩ := h5 j g1 g2
    exact ⟨t, k, q1, by rw [← he t q1]; exact q2, by rw [← he t q1]; exact q3⟩
  · have e := sMn_congr (tb := tb) (tb' := tb') c 0 0 (fun q hq => by rw [Nat.zero_add]; exact he q hq)
    rw [← e]
    exact h6
theorem tInv_inj {M : Nat} {T : Nat → Int32} {tb : Nat → TBr} {c : Nat} (h : tInv M T tb c) {t : Nat} (ht : t < c) : ∀ a b, a < (tb t).mn → b < (tb t).mn → (tb t).id a = (tb t).id b → a = b := by
  intro a b ha hb e
  have h1 := h.2.2.1 t a ht ha
  have h2 := h.2.2.1 t b ht hb
  have h3 := (h.1 t ht).2.1
  rw [e, h2] at h1
  exact ((nI_eq (by omega) (by omega)).mp h1).symm
theorem tInv_tk {M : Nat} {T : Nat → Int32} {tb : Nat → TBr} {c : Nat} (h : tInv M T tb c) {t k : Nat} (ht : t < c) (hk : k < (tb t).mn) : T ((tb t).id k) ≠ (-1) := by
  rw [h.2.2.1 t k ht hk]
  have := (h.1 t ht).2.1
  exact nI_m1 (by omega)
theorem tInv_ins {M need j c : Nat} {T : Nat → Int32} {tb : Nat → TBr} {x : TBr} (h : tInv M T tb c) (hM : M ≤ 128) (h0 : 1 ≤ need) (hn : need ≤ fcn T M) (hx : x.mn = need) (hi : x.id = tkI T need M) (he : x.en * 9 ≤ need * 32) (hl : x.lv ≤ 3) (hj : j ≤ c) (hlo : ∀ t, t < j → (tb t).lv ≤ x.lv) (hhi : ∀ t, j ≤ t → t < c → x.lv ≤ (tb t).lv) : tInv M (tkT T need M) (insF tb c j x) (c + 1) := by
  have hF := fcn_le T M
  obtain ⟨h1, h2, h3, h4, h5, h6⟩ := id h
  have hne : ∀ t k, t < c → k < (tb t).mn → ∀ k', k' < need → tkI T need M k' ≠ (tb t).id k := by
    intro t k ht hk k' hk' z
    have := (tk_is T need M k' (by omega) hk').1
    rw [z] at this
    exact tInv_tk h ht hk this
  -- a table of the new ones is an old one or x
  have hw : ∀ t, t < c + 1 → (insF tb c j x t = x ∧ t = j) ∨ (∃ u, u < c ∧ insF tb c j x t = tb u ∧ t ≠ j ∧ (t < j → u = t) ∧ (j < t → u = t - 1)) := by
    intro t ht
    rcases Nat.lt_trichotomy t j with g | g | g
    · exact Or.inr ⟨t, by omega, insF_lt g, by omega, fun _ => rfl, fun z => by omega⟩
    · subst g; exact Or.inl ⟨insF_at, rfl⟩
    · exact Or.inr ⟨t - 1, by omega, insF_gt g (by omega), by omega, fun z => by omega, fun _ => rfl⟩
  refine ⟨fun t ht => ?_, fun a b g1 g2 => ?_, fun t k g1 g2 => ?_, fun t t' k k' g1 g2 g3 g4 g5 => ?_, fun q g1 g2 => ?_, ?_⟩
  · rcases hw t ht with ⟨e, _⟩ | ⟨u, q1, q2, _⟩
    · rw [e]
      exact ⟨by omega, by omega, fun k hk => by rw [hi]; exact tkI_lt T need M k (by omega) (by omega), by rw [hx]; exact he, hl⟩
    · rw [q2]; exact h1 u q1
  · rcases hw a (by omega) with ⟨e, e'⟩ | ⟨u, q1, q2, q3, q4, q5⟩
    · rcases hw b g2 with ⟨f, f'⟩ | ⟨v, r1, r2, r3, r4, r5⟩
      · rw [e, f]; exact Nat.le_refl _
      · rw [e, r2]; exact hhi v (by have := r5 (by omega); omega) r1
    · rcases hw b g2 with ⟨f, f'⟩ | ⟨v, r1, r2, r3, r4, r5⟩
      · rw [q2, f]; exact hlo u (by have := q4 (by omega); omega)
      · rw [q2, r2]
        refine h2 u v ?_ r1
        by_cases c1 : a < j
        · have := q4 c1
          by_cases c2 : b < j
          · have := r4 c2; omega
          · have := r5 (by omega); omega
        · have := q5 (by omega); have := r5 (by omega); omega
  · rcases hw t g1 with ⟨e, _⟩ | ⟨u, q1, q2, _⟩
    · rw [e] at g2 ⊢
      rw [hi]
      exact (tk_is T need M k (by omega) (by omega)).2
    · rw [q2] at g2 ⊢
      rw [tk_ot T need M _ (fun k' _ hk' => hne u k q1 g2 k' hk')]
      exact h3 u k q1 g2
  · rcases hw t g1 with ⟨e, e'⟩ | ⟨u, q1, q2, q3, q4, q5⟩
    · rcases hw t' g2 with ⟨f, f'⟩ | ⟨v, r1, r2, r3, r4, r5⟩
      · omega
      · rw [e] at g3 g5; rw [r2] at g4 g5; rw [hi] at g5
        exact absurd g5 (hne v k' r1 g4 k (by omega))
    · rcases hw t' g2 with ⟨f, f'⟩ | ⟨v, r1, r2, r3, r4, r5⟩
      · rw [q2] at g3 g5; rw [f] at g4 g5; rw [hi] at g5
        exact absurd g5.symm (hne u k q1 g3 k' (by omega))
      · rw [q2] at g3 g5; rw [r2] at g4 g5
        have := h4 u v k k' q1 r1 g3 g4 g5
        by_cases c1 : t < j
        · have := q4 c1
          by_cases c2 : t' < j
          · have := r4 c2; omega
          · have := r5 (by omega); omega
        · have := q5 (by omega)
          by_cases c2 : t' < j
          · have := r4 c2; omega
          · have := r5 (by omega); omega
  · by_cases cc : ∃ k, k < need ∧ tkI T need M k = q
    · obtain ⟨k, q1, q2⟩ := cc
      exact ⟨j, k, by omega, by rw [insF_at]; omega, by rw [insF_at, hi]; exact q2⟩
    · rw [tk_ot T need M q (fun k _ hk z => cc ⟨k, hk, z⟩)] at g2
      obtain ⟨t, k, q1, q2, q3⟩ := h5 q g1 g2
      by_cases c1 : t < j
      · exact ⟨t, k, by omega, by rw [insF_lt c1]; exact q2, by rw [insF_lt c1]; exact q3⟩
      · refine ⟨t + 1, k, by omega, ?_, ?_⟩
        · rw [insF_gt (by omega) (by omega)]; exact q2
        · rw [insF_gt (by omega) (by omega)]; exact q3
  · have f1 := fcn_tk T need M hM
    rw [sMn_ins hj, hx]
    omega
theorem fcn_frs {M c a : Nat} {T : Nat → Int32} {tb : Nat → TBr} (h : tInv M T tb c) : ∀ n, a + n ≤ c → fcn (frs tb T a n) M = fcn T M + sMn tb n a
  | 0 => fun _ => rfl
  | n + 1 => fun hn => by
    have ih := fcn_frs (a := a) h n (by omega)
    have hk : ∀ k, k < (tb (a + n)).mn → frs tb T a n ((tb (a + n)).id k) = T ((tb (a + n)).id k) := fun k hk => frs_ne n (fun u k' g1 g2 g3 z => by
      have := h.2.2.2.1 u (a + n) k' k (by omega) (by omega) g3 hk z
      omega)
    rw [frs, fcn_freT _ (fun k hk' => ⟨(h.1 (a + n) (by omega)).2.2.1 k hk', by rw [hk k hk']; exact tInv_tk h (by omega) hk'⟩) (tInv_inj h (by omega)), ih, sMn_add]
    show fcn T M + sMn tb n a + (tb (a + n)).mn = fcn T M + (sMn tb n a + ((tb (a + n)).mn + 0))
    omega
theorem tInv_rem {M a e c : Nat} {T : Nat → Int32} {tb : Nat → TBr} (h : tInv M T tb c) (h1 : a ≤ e) (h2 : e ≤ c) : tInv M (frs tb T a (e - a)) (mvd tb a (e - a) (c - e)) (a + (c - e)) := by
  obtain ⟨i1, i2, i3, i4, i5, i6⟩ := id h
  have hw : ∀ t, t < a + (c - e) → ∃ u, u < c ∧ mvd tb a (e - a) (c - e) t = tb u ∧ ((t < a ∧ u = t) ∨ (a ≤ t ∧ u = t + (e - a))) := by
    intro t ht
    by_cases g : t < a
    · exact ⟨t, by omega, by unfold mvd; rw [if_neg (by omega)], Or.inl ⟨g, rfl⟩⟩
    · exact ⟨t + (e - a), by omega, by unfold mvd; rw [if_pos (by omega)], Or.inr ⟨by omega, rfl⟩⟩
  have hout : ∀ u k, u < c → (u < a ∨ e ≤ u) → k < (tb u).mn → frs tb T a (e - a) ((tb u).id k) = T ((tb u).id k) := fun u k hu ho hk => frs_ne _ (fun v k' g1 g2 g3 z => by
    have := i4 v u k' k (by omega) hu g3 hk z
    omega)
  refine ⟨fun t ht => ?_, fun x y g1 g2 => ?_, fun t k g1 g2 => ?_, fun t t' k k' g1 g2 g3 g4 g5 => ?_, fun q g1 g2 => ?_, ?_⟩
  · obtain ⟨u, q1, q2, _⟩ := hw t ht
    rw [q2]; exact i1 u q1
  · obtain ⟨u, q1, q2, q3⟩ := hw x (by omega)
    obtain ⟨v, r1, r2, r3⟩ := hw y g2
    rw [q2, r2]
    exact i2 u v (by omega) r1
  · obtain ⟨u, q1, q2, q3⟩ := hw t g1
    rw [q2] at g2 ⊢
    rw [hout u k q1 (by omega) g2]
    exact i3 u k q1 g2
  · obtain ⟨u, q1, q2, q3⟩ := hw t g1
    obtain ⟨v, r1, r2, r3⟩ := hw t' g2
    rw [q2] at g3 g5; rw [r2] at g4 g5
    have := i4 u v k k' q1 r1 g3 g4 g5
    omega
  · by_cases cc : ∃ u k, a ≤ u ∧ u < a + (e - a) ∧ k < (tb u).mn ∧ (tb u).id k = q
    · obtain ⟨u, k, q1, q2, q3, q4⟩ := cc
      rw [← q4, frs_at _ u k q1 q2 q3] at g2
      exact absurd rfl g2
    · rw [frs_ne _ (fun u k q1 q2 q3 q4 => cc ⟨u, k, q1, q2, q3, q4⟩)] at g2
      obtain ⟨t, k, q1, q2, q3⟩ := i5 q g1 g2
      by_cases g : t < a
      · refine ⟨t, k, by omega, ?_, ?_⟩
        · unfold mvd; rw [if_neg (by omega)]; exact q2
        · unfold mvd; rw [if_neg (by omega)]; exact q3
      · have g' : e ≤ t := by
          rcases Nat.lt_or_ge t e with z | z
          · exact absurd ⟨t, k, by omega, by omega, q2, q3⟩ cc
          · exact z
        have e9 : t - (e - a) + (e - a) = t := by omega
        refine ⟨t - (e - a), k, by omega, ?_, ?_⟩
        · unfold mvd; rw [if_pos (by omega), e9]; exact q2
        · unfold mvd; rw [if_pos (by omega), e9]; exact q3
  · have f1 := fcn_frs (a := a) h (e - a) (by omega)
    have f2 := sMn_cut (tb := tb) h1 h2
    rw [f1]
    omega
