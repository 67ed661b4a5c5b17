/-! TABLES moved -/
theorem ist_s {tb : Nat → TBr} {S T : Nat → Int32} {D : Nat → Nat} {e t : Nat} (h : ¬ fwi (fun k => rgt S T D ((tb t).id k)) (tb t).mn < (tb t).mn) : ist tb S T D (e + 1) t = ((ist tb S T D e (t + 1)).1, (tb t).mn + (ist tb S T D e (t + 1)).2) := by rw [ist, if_neg h]
theorem ist_f {tb : Nat → TBr} {S T : Nat → Int32} {D : Nat → Nat} {e t : Nat} (h : fwi (fun k => rgt S T D ((tb t).id k)) (tb t).mn < (tb t).mn) : ist tb S T D (e + 1) t = (some ((tb t).id (fwi (fun k => rgt S T D ((tb t).id k)) (tb t).mn)), fwi (fun k => rgt S T D ((tb t).id k)) (tb t).mn + 1) := by rw [ist, if_pos h]
/-- what lies above place t is one place further -/
def shf {α : Type} (rf : Nat → α) (c t q : Nat) : α := if t < q ∧ q ≤ c then rf (q - 1) else rf q
theorem shf_0 {α : Type} (rf : Nat → α) (c : Nat) : shf rf c c = rf := by
  funext q
  unfold shf
  rw [if_neg (by omega)]
theorem shf_s {α : Type} (rf : Nat → α) {c t : Nat} (h : t + 1 ≤ c) : va_up (shf rf c (t + 1)) (t + 1) (rf t) = shf rf c t := by
  funext q
  unfold va_up shf
  by_cases e : q = t + 1
  · rw [if_pos e, if_pos (by omega), e, show t + 1 - 1 = t by omega]
  · rw [if_neg e]
    by_cases e2 : t + 1 < q ∧ q ≤ c
    · rw [if_pos e2, if_pos (by omega)]
    · rw [if_neg e2, if_neg (by omega)]
theorem shf_low {α : Type} (rf : Nat → α) {c t : Nat} : shf rf c (t + 1) t = rf t := by
  unfold shf
  rw [if_neg (by omega)]
theorem shf_ins {α : Type} (rf : Nat → α) {c j : Nat} (v : α) (hj : j ≤ c) : va_up (shf rf c j) j v = insF rf c j v := by
  unfold insF
  congr 1
  funext q
  unfold shf
  by_cases h : j < q ∧ q ≤ c
  · rw [if_pos h, pk_cpy_in (by omega) (by omega)]
    congr 1
    omega
  · rw [if_neg h, pk_cpy_out (by omega)]
theorem pool_ins {P : fh_M} {rf : Nat → Option Nat} {tq ti : Nat → Nat} {tb : Nat → TBr} {c j q ia : Nat} {t : TBr} (h : pool P rf tq ti tb c) (hj : j ≤ c) (h1 : P q = some (.inr (3, [.int (nI t.lv), .int (nI t.en), .long t.fl, .ref ia]))) (h2 : P ia = some (.inl (.int, t.mn, .inl (fun k => nI (t.id k))))) (h3 : [q, ia].Nodup) : pool P (insF rf c j (some q)) (insF tq c j q) (insF ti c j ia) (insF tb c j t) (c + 1) := by
  intro u hu
  rcases Nat.lt_trichotomy u j with g | g | g
  · rw [insF_lt g, insF_lt g, insF_lt g, insF_lt g]; exact h u (by omega)
  · subst g
    rw [insF_at, insF_at, insF_at, insF_at]; exact ⟨rfl, h1, h2, h3⟩
  · rw [insF_gt g (by omega), insF_gt g (by omega), insF_gt g (by omega), insF_gt g (by omega)]; exact h (u - 1) (by omega)
/-- n places from a on are taken from d places further -/
def mvd {α : Type} (rf : Nat → α) (a d n q : Nat) : α := if a ≤ q ∧ q < a + n then rf (q + d) else rf q
theorem mvd_0 {α : Type} (rf : Nat → α) (a d : Nat) : mvd rf a d 0 = rf := by
  funext q
  unfold mvd
  rw [if_neg (by omega)]
theorem mvd_s {α : Type} (rf : Nat → α) {a d n : Nat} : va_up (mvd rf a d n) (a + n) (rf (a + n + d)) = mvd rf a d (n + 1) := by
  funext q
  unfold va_up mvd
  by_cases e : q = a + n
  · rw [if_pos e, if_pos (by omega), e]
  · rw [if_neg e]
    by_cases e2 : a ≤ q ∧ q < a + n
    · rw [if_pos e2, if_pos (by omega)]
    · rw [if_neg e2, if_neg (by omega)]
theorem mvd_hi {α : Type} (rf : Nat → α) {a d n : Nat} : mvd rf a d n (a + n + d) = rf (a + n + d) := by
  unfold mvd
  by_cases e : d = 0
  · subst e
    by_cases e2 : a ≤ a + n + 0 ∧ a + n + 0 < a + n
    · omega
    · rw [if_neg e2]
  · rw [if_neg (by omega)]
/-- places from a to below t are empty -/
def nul (rf : Nat → Option Nat) (a t q : Nat) : Option Nat := if a ≤ q ∧ q < t then none else rf q
theorem nul_0 (rf : Nat → Option Nat) (a : Nat) : nul rf a a = rf := by
  funext q
  unfold nul
  rw [if_neg (by omega)]
theorem nul_s (rf : Nat → Option Nat) {a t : Nat} (h : a ≤ t) : va_up (nul rf a t) t none = nul rf a (t + 1) := by
  funext q
  unfold va_up nul
  by_cases e : q = t
  · rw [if_pos e, if_pos (by omega)]
  · rw [if_neg e]
    by_cases e2 : a ≤ q ∧ q < t
    · rw [if_pos e2, if_pos (by omega)]
    · rw [if_neg e2, if_neg (by omega)]
/-- e tables from a on lose their blocks -/
def frs (tb : Nat → TBr) (T : Nat → Int32) (a : Nat) : Nat → Nat → Int32
  | 0 => T
  | e + 1 => freT (frs tb T a e) (tb (a + e)).id (tb (a + e)).mn
theorem pool_cut {P : fh_M} {rf : Nat → Option Nat} {tq ti : Nat → Nat} {tb : Nat → TBr} {c a d : Nat} (h : pool P rf tq ti tb c) (h1 : a + d ≤ c) : pool P (nul (mvd rf a d (c - (a + d))) (c - d) c) (mvd tq a d (c - (a + d))) (mvd ti a d (c - (a + d))) (mvd tb a d (c - (a + d))) (c - d) := by
  intro u hu
  have e9 : nul (mvd rf a d (c - (a + d))) (c - d) c u = mvd rf a d (c - (a + d)) u := by
    unfold nul
    rw [if_neg (by omega)]
  rw [e9]
  by_cases g : a ≤ u
  · have g2 : a ≤ u ∧ u < a + (c - (a + d)) := ⟨g, by omega⟩
    have g3 : ∀ {α : Type} (F : Nat → α), mvd F a d (c - (a + d)) u = F (u + d) := fun F => by unfold mvd; rw [if_pos g2]
    rw [g3, g3, g3, g3]
    exact h (u + d) (by omega)
  · have g3 : ∀ {α : Type} (F : Nat → α), mvd F a d (c - (a + d)) u = F u := fun F => by unfold mvd; rw [if_neg (by omega)]
    rw [g3, g3, g3, g3]
    exact h u (by omega)
theorem frs_s {tb : Nat → TBr} {T : Nat → Int32} {a u : Nat} (h : a ≤ u) : freT (frs tb T a (u - a)) (tb u).id (tb u).mn = frs tb T a (u + 1 - a) := by
  rw [show u + 1 - a = (u - a) + 1 by omega, frs, show a + (u - a) = u by omega]
/-- what after() tells of the rows -/
def afr (R : R4) (k : Int64) : Int64 := nxk R.1 R.2.1 R.2.2.2 k (abv R.1 R.2.2.2 k)
theorem nd_front {l1 l2 : List Nat} {a : Nat} (h : (l1 ++ a :: l2).Nodup) : (a :: (l1 ++ l2)).Nodup := (List.perm_middle.nodup_iff).mp h
theorem nd_g9 {b y s t r g g1 g2 g3 : Nat} (h : [b, y, s, t, r, g, g1, g2, g3].Nodup) : [r, b, y, s, t, g, g1, g2, g3].Nodup := nd_front (l1 := [b, y, s, t]) h
