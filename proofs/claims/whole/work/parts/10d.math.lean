/-! THE MODEL: its tables -/
def tA (lv en mn : Nat → Nat) (fl : Nat → Int64) (bk : Nat → Nat) (t : Nat) (x : TBr) : Prop := lv t = x.lv ∧ en t = x.en ∧ mn t = x.mn ∧ fl t = x.fl ∧ ∀ k, k < x.mn → bk (128 * t + k) = x.id k
def tbA (lv en mn : Nat → Nat) (fl : Nat → Int64) (bk : Nat → Nat) (tb : Nat → TBr) (c : Nat) : Prop := ∀ t, t < c → tA lv en mn fl bk t (tb t)
theorem cpy_s {f : Nat → Nat} {sp dp i : Nat} : va_up (va_cpy f f sp dp i) (dp + i) (f (sp + i)) = va_cpy f f sp dp (i + 1) := by
  funext q
  unfold va_up va_cpy
  by_cases e : q = dp + i
  · rw [if_pos e, if_pos (by omega), e]
    congr 1
    omega
  · rw [if_neg e]
    by_cases e2 : dp ≤ q ∧ q < dp + i
    · rw [if_pos e2, if_pos (by omega)]
    · rw [if_neg e2, if_neg (by omega)]
theorem cpy_0 {f : Nat → Nat} {sp dp : Nat} : va_cpy f f sp dp 0 = f := by
  funext q
  unfold va_cpy
  rw [if_neg (by omega)]
theorem cpy_rd {f : Nat → Nat} {sp dp i : Nat} (h : sp + i < dp ∨ dp + i ≤ sp + i) : va_cpy f f sp dp i (sp + i) = f (sp + i) := by
  unfold va_cpy
  rw [if_neg (by omega)]
/-- the blocks of the tables above t are one table further -/
def shB (bk : Nat → Nat) (c t q : Nat) : Nat := if 128 * (t + 1) ≤ q ∧ q < 128 * (c + 1) then bk (q - 128) else bk q
theorem shB_0 (bk : Nat → Nat) (c : Nat) : shB bk c c = bk := by
  funext q
  unfold shB
  rw [if_neg (by omega)]
theorem shB_s {bk : Nat → Nat} {c t : Nat} (h : t + 1 ≤ c) : va_cpy (shB bk c (t + 1)) (shB bk c (t + 1)) (128 * t) (128 * (t + 1)) 128 = shB bk c t := by
  funext q
  unfold va_cpy
  by_cases e : 128 * (t + 1) ≤ q ∧ q < 128 * (t + 1) + 128
  · rw [if_pos e]
    unfold shB
    rw [if_neg (by omega), if_pos (by omega)]
    exact congrArg bk (by omega)
  · rw [if_neg e]
    unfold shB
    by_cases e2 : 128 * (t + 1 + 1) ≤ q ∧ q < 128 * (c + 1)
    · rw [if_pos e2, if_pos (by omega)]
    · rw [if_neg e2, if_neg (by omega)]
/-- the blocks of n tables from t on are taken from one table further -/
def mvB (bk : Nat → Nat) (t n q : Nat) : Nat := if 128 * t ≤ q ∧ q < 128 * (t + n) then bk (q + 128) else bk q
theorem mvB_0 (bk : Nat → Nat) (t : Nat) : mvB bk t 0 = bk := by
  funext q
  unfold mvB
  rw [if_neg (by omega)]
theorem mvB_s {bk : Nat → Nat} {t n : Nat} : va_cpy (mvB bk t n) (mvB bk t n) (128 * (t + n + 1)) (128 * (t + n)) 128 = mvB bk t (n + 1) := by
  funext q
  unfold va_cpy
  by_cases e : 128 * (t + n) ≤ q ∧ q < 128 * (t + n) + 128
  · rw [if_pos e]
    unfold mvB
    rw [if_neg (by omega), if_pos (by omega)]
    exact congrArg bk (by omega)
  · rw [if_neg e]
    unfold mvB
    by_cases e2 : 128 * t ≤ q ∧ q < 128 * (t + n)
    · rw [if_pos e2, if_pos (by omega)]
    · rw [if_neg e2, if_neg (by omega)]
/-- a place opened and filled -/
theorem tbA_ins {lv en mn : Nat → Nat} {fl : Nat → Int64} {bk ids : Nat → Nat} {tb : Nat → TBr} {c j : Nat} {x : TBr} (h : tbA lv en mn fl bk tb c) (hT : ∀ t, t < c → (tb t).mn ≤ 128) (hj : j ≤ c) (hx : x.mn ≤ 128) (hi : ∀ k, k < x.mn → ids k = x.id k) : tbA (va_up (shf lv c j) j x.lv) (va_up (shf en c j) j x.en) (va_up (shf mn c j) j x.mn) (va_up (shf fl c j) j x.fl) (bkF (shB bk c j) ids j x.mn) (insF tb c j x) (c + 1) := by
  intro t ht
  rcases Nat.lt_trichotomy t j with g | g | g
  · rw [insF_lt g]
    obtain ⟨h1, h2, h3, h4, h5⟩ := h t (by omega)
    have e : ∀ {α : Type} (f : Nat → α) (v : α), va_up (shf f c j) j v t = f t := by
      intro α f v
      rw [va_up_ne _ _ (by omega)]
      unfold shf
      rw [if_neg (by omega)]
    refine ⟨by rw [e]; exact h1, by rw [e]; exact h2, by rw [e]; exact h3, by rw [e]; exact h4, fun k hk => ?_⟩
    have hm := hT t (by omega)
    rw [bkF_ne _ hx _ (Or.inl (by omega))]
    unfold shB
    rw [if_neg (by omega)]
    exact h5 k hk
  · subst g
    rw [insF_at]
    refine ⟨va_up_self _ _ _, va_up_self _ _ _, va_up_self _ _ _, va_up_self _ _ _, fun k hk => ?_⟩
    rw [bkF_at _ k hk]
    exact hi k hk
  · rw [insF_gt g (by omega)]
    obtain ⟨h1, h2, h3, h4, h5⟩ := h (t - 1) (by omega)
    have e : ∀ {α : Type} (f : Nat → α) (v : α), va_up (shf f c j) j v t = f (t - 1) := by
      intro α f v
      rw [va_up_ne _ _ (by omega)]
      unfold shf
      rw [if_pos (by omega)]
    refine ⟨by rw [e]; exact h1, by rw [e]; exact h2, by rw [e]; exact h3, by rw [e]; exact h4, fun k hk => ?_⟩
    have hm := hT (t - 1) (by omega)
    rw [bkF_ne _ hx _ (Or.inr (by omega))]
    unfold shB
    rw [if_pos (by omega), show 128 * t + k - 128 = 128 * (t - 1) + k by omega]
    exact h5 k hk
/-- table t taken out of c -/
theorem tbA_rem {lv en mn : Nat → Nat} {fl : Nat → Int64} {bk : Nat → Nat} {tb : Nat → TBr} {c t : Nat} (h : tbA lv en mn fl bk tb c) (hT : ∀ t, t < c → (tb t).mn ≤ 128) (ht : t < c) : tbA (mvd lv t 1 (c - 1 - t)) (mvd en t 1 (c - 1 - t)) (mvd mn t 1 (c - 1 - t)) (mvd fl t 1 (c - 1 - t)) (mvB bk t (c - 1 - t)) (mvd tb t 1 (c - 1 - t)) (c - 1) := by
  intro u hu
  by_cases g : t ≤ u
  · have e : ∀ {α : Type} (f : Nat → α), mvd f t 1 (c - 1 - t) u = f (u + 1) := by
      intro α f
      unfold mvd
      rw [if_pos (by omega)]
    obtain ⟨h1, h2, h3, h4, h5⟩ := h (u + 1) (by omega)
    have hm := hT (u + 1) (by omega)
    rw [show mvd tb t 1 (c - 1 - t) u = tb (u + 1) from e tb]
    refine ⟨by rw [e]; exact h1, by rw [e]; exact h2, by rw [e]; exact h3, by rw [e]; exact h4, fun k hk => ?_⟩
    unfold mvB
    rw [if_pos (by omega), show 128 * u + k + 128 = 128 * (u + 1) + k by omega]
    exact h5 k hk
  · have e : ∀ {α : Type} (f : Nat → α), mvd f t 1 (c - 1 - t) u = f u := by
      intro α f
      unfold mvd
      rw [if_neg (by omega)]
    obtain ⟨h1, h2, h3, h4, h5⟩ := h u (by omega)
    have hm := hT u (by omega)
    rw [show mvd tb t 1 (c - 1 - t) u = tb u from e tb]
    refine ⟨by rw [e]; exact h1, by rw [e]; exact h2, by rw [e]; exact h3, by rw [e]; exact h4, fun k hk => ?_⟩
    unfold mvB
    rw [if_neg (by omega)]
    exact h5 k hk
/-- d tables from t + 1 on, then the one at t -/
theorem mvd_1 {α : Type} {f : Nat → α} {t d n : Nat} : mvd (mvd f (t + 1) d n) t 1 n = fun q => if t ≤ q ∧ q < t + n then f (q + 1 + d) else if q = t + n ∧ 0 < n then f (q + d) else f q := by
  funext q
  unfold mvd
  by_cases c1 : t ≤ q ∧ q < t + n
  · rw [if_pos c1, if_pos (by omega), if_pos c1]
  · rw [if_neg c1, if_neg c1]
    by_cases c2 : q = t + n ∧ 0 < n
    · rw [if_pos (by omega), if_pos c2]
    · rw [if_neg (by omega), if_neg c2]
theorem tbA_ext {lv en mn : Nat → Nat} {fl : Nat → Int64} {bk : Nat → Nat} {tb tb' : Nat → TBr} {c : Nat} (h : tbA lv en mn fl bk tb c) (he : ∀ t, t < c → tb t = tb' t) : tbA lv en mn fl bk tb' c := fun t ht => by rw [← he t ht]; exact h t ht
/-- levels don't fall -/
def lvS (tb : Nat → TBr) (c : Nat) : Prop := ∀ a b, a ≤ b → b < c → (tb a).lv ≤ (tb b).lv
theorem cUp_c {tb : Nat → TBr} {b : Nat} : ∀ {c : Nat}, lvS tb c → ∀ t, t < c → ((tb t).lv < b ↔ t < cUp tb b c) := by
  intro c
  induction c with
  | zero => intro _ t ht; exact absurd ht (Nat.not_lt_zero _)
  | succ c ih =>
    intro h t ht
    have h' : lvS tb c := fun a b' h1 h2 => h a b' h1 (by omega)
    have hl := cUp_le tb b c
    rw [cUp]
    by_cases e : (tb c).lv < b
    · have hall : cUp tb b c = c := by
        rcases Nat.lt_or_ge (cUp tb b c) c with g | g
        · have g2 := (ih h' (cUp tb b c) g).mp (Nat.lt_of_le_of_lt (h (cUp tb b c) c (by omega) (by omega)) e)
          omega
        · omega
      rw [if_pos e, hall]
      exact ⟨fun _ => by omega, fun _ => Nat.lt_of_le_of_lt (h t c (by omega) (by omega)) e⟩
    · rw [if_neg e]
      by_cases e2 : t = c
      · subst e2
        exact ⟨fun z => absurd z e, fun z => by omega⟩
      · exact ih h' t (by omega)
theorem cUp_mono {tb : Nat → TBr} {a b : Nat} (h : a ≤ b) : ∀ c, cUp tb a c ≤ cUp tb b c
  | 0 => Nat.le_refl _
  | c + 1 => by
    have := cUp_mono (tb := tb) h c
    rw [cUp, cUp]
    split
    · rw [if_pos (by omega)]; omega
    · split <;> omega
/-- tables of level l below t -/
def cLv (tb : Nat → TBr) (l : Nat) : Nat → Nat
  | 0 => 0
  | t + 1 => cLv tb l t + (if (tb t).lv = l then 1 else 0)
theorem cLv_is {tb : Nat → TBr} {l : Nat} : ∀ c, cUp tb (l + 1) c = cUp tb l c + cLv tb l c
  | 0 => rfl
  | c + 1 => by
    have ih := cLv_is (tb := tb) (l := l) c
    rw [cUp, cUp, cLv]
    by_cases e : (tb c).lv = l
    · rw [if_pos (by omega), if_neg (by omega), if_pos e]; omega
    · rw [if_neg e]
      by_cases e2 : (tb c).lv < l
      · rw [if_pos (by omega), if_pos e2]; omega
      · rw [if_neg (by omega), if_neg e2]; omega
theorem cLv_le {tb : Nat → TBr} {l : Nat} : ∀ c, cLv tb l c ≤ c
  | 0 => Nat.le_refl _
  | c + 1 => by have := cLv_le (tb := tb) (l := l) c; rw [cLv]; split <;> omega
