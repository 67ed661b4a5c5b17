/-! THE MODEL: what it reads -/
/-- where it stands, the block looked at last, whether there was a fault, the bad block, how many were looked at -/
abbrev R5 : Type := Nat × Int32 × Bool × Int32 × Int32
def mnx (b : Bool) (m : Nat) (ids : Nat → Nat) (S : Nat → Int32) (D : Nat → Nat) (s : R5) : R5 × Nat :=
  if s.2.2.1 then (s, 0)
  else if m ≤ s.1 / 32 then ((s.1, s.2.1, true, nI (ids (m - 1)), s.2.2.2.2), 0)
  else if b = true ∧ nI (s.1 / 32) ≠ s.2.1 then
    (if S (ids (s.1 / 32)) = sumS (nI (s.1 / 32)) (fun q => D (ids (s.1 / 32) * 32 + q)) 32 then ((s.1 + 1, nI (s.1 / 32), false, s.2.2.2.1, s.2.2.2.2 + nI 1), D (pos ids s.1))
     else ((s.1, nI (s.1 / 32), true, nI (ids (s.1 / 32)), s.2.2.2.2 + nI 1), 0))
  else ((s.1 + 1, s.2.1, false, s.2.2.2.1, s.2.2.2.2), D (pos ids s.1))
def mkK (nx : R5 → R5 × Nat) : Nat → R5 → R5 × Int64
  | 0, s => (s, 0)
  | i + 1, s => ((nx (mkK nx i s).1).1, ((mkK nx i s).2 <<< ((nI 8).toInt64 &&& 63)) ||| (nI (nx (mkK nx i s).1).2).toInt64)
def mkV (nx : R5 → R5 × Nat) : Nat → R5 → R5 × Int64
  | 0, s => (s, 0)
  | i + 1, s => if (mkV nx i s).1.2.2.1 then mkV nx i s else ((nx (mkV nx i s).1).1, ((mkV nx i s).2 <<< ((nI 8).toInt64 &&& 63)) ||| (nI (nx (mkV nx i s).1).2).toInt64)
def bOf (n : Nat) : Nat := if n = 255 then 0 else n
def mkL (nx : R5 → R5 × Nat) (ids : Nat → Nat) (s : R5) : R5 × Nat :=
  if (nx s).1.2.2.1 = false ∧ oknb (nx s).2 = false then (((nx s).1.1, (nx s).1.2.1, true, nI (ids (s.1 / 32)), (nx s).1.2.2.2.2), (nx s).2) else nx s
/-- and the entry: its key, its length, its value -/
abbrev E8 : Type := R5 × Int64 × Nat × Int64
def mrE (nx : R5 → R5 × Nat) (ids : Nat → Nat) (e : E8) : E8 :=
  if (mkK nx 8 e.1).1.2.2.1 then ((mkK nx 8 e.1).1, (mkK nx 8 e.1).2, e.2.2.1, e.2.2.2)
  else if (mkL nx ids (mkK nx 8 e.1).1).1.2.2.1 then ((mkL nx ids (mkK nx 8 e.1).1).1, (mkK nx 8 e.1).2, (mkL nx ids (mkK nx 8 e.1).1).2, e.2.2.2)
  else ((mkV nx (bOf (mkL nx ids (mkK nx 8 e.1).1).2) (mkL nx ids (mkK nx 8 e.1).1).1).1, (mkK nx 8 e.1).2, (mkL nx ids (mkK nx 8 e.1).1).2, (mkV nx (bOf (mkL nx ids (mkK nx 8 e.1).1).2) (mkL nx ids (mkK nx 8 e.1).1).1).2)
def lck (b : Bool) (p : Nat) : Int32 := if b then nI ((p + 31) / 32) - 1 else (-1)
theorem ebn_bOf (n : Nat) : ebn n = 9 + bOf n := by unfold ebn bOf; split <;> omega
theorem nI_ne_m1 {q : Nat} : nI q ≠ nI q - 1 := by
  intro h
  have h2 : nI q - 1 + 1 = nI q := Int32.sub_add_cancel _ _
  rw [← h] at h2
  have h3 : nI q + 1 = nI q + 0 := h2.trans (Int32.add_zero _).symm
  exact absurd ((Int32.add_right_inj _).mp h3) (by decide)
theorem mrE_3 {nx : R5 → R5 × Nat} {ids : Nat → Nat} {s s1 s2 s3 : R5} {k v ek ev : Int64} {n el : Nat} (e1 : mkK nx 8 s = (s1, k)) (f1 : s1.2.2.1 = false) (e2 : mkL nx ids s1 = (s2, n)) (f2 : s2.2.2.1 = false) (e3 : mkV nx (bOf n) s2 = (s3, v)) : mrE nx ids (s, ek, el, ev) = (s3, k, n, v) := by
  unfold mrE
  rw [show ((s, ek, el, ev) : E8).1 = s from rfl, e1]
  show (if s1.2.2.1 = true then _ else _) = _
  rw [f1, if_neg (by decide), e2]
  show (if s2.2.2.1 = true then _ else _) = _
  rw [f2, if_neg (by decide)]
  show ((mkV nx (bOf n) s2).1, k, n, (mkV nx (bOf n) s2).2) = _
  rw [e3]
theorem mrE_2 {nx : R5 → R5 × Nat} {ids : Nat → Nat} {s s1 s2 : R5} {k ek ev : Int64} {n el : Nat} (e1 : mkK nx 8 s = (s1, k)) (f1 : s1.2.2.1 = false) (e2 : mkL nx ids s1 = (s2, n)) (f2 : s2.2.2.1 = true) : mrE nx ids (s, ek, el, ev) = (s2, k, n, ev) := by
  unfold mrE
  rw [show ((s, ek, el, ev) : E8).1 = s from rfl, e1]
  show (if s1.2.2.1 = true then _ else _) = _
  rw [f1, if_neg (by decide), e2]
  show (if s2.2.2.1 = true then _ else _) = _
  rw [f2, if_pos rfl]
theorem mrE_1 {nx : R5 → R5 × Nat} {ids : Nat → Nat} {s : R5} {ek ev : Int64} {el : Nat} (f1 : (mkK nx 8 s).1.2.2.1 = true) : mrE nx ids (s, ek, el, ev) = ((mkK nx 8 s).1, (mkK nx 8 s).2, el, ev) := by
  unfold mrE
  rw [show ((s, ek, el, ev) : E8).1 = s from rfl, if_pos f1]
theorem mnx_stuck {b : Bool} {m : Nat} {ids : Nat → Nat} {S : Nat → Int32} {D : Nat → Nat} {s : R5} (h : s.2.2.1 = true) : mnx b m ids S D s = (s, 0) := by
  unfold mnx
  rw [if_pos h]
section MNX
variable {b : Bool} {m : Nat} {ids is9 : Nat → Nat} {S T : Nat → Int32} {D : Nat → Nat} {p : Nat} {bd ck : Int32}
theorem lck_c (hp : p / 32 < m) : (b = true ∧ nI (p / 32) ≠ lck b p) ↔ (b = true ∧ p % 32 = 0) := by
  constructor
  · intro h
    refine ⟨h.1, ?_⟩
    by_cases e : p % 32 = 0
    · exact e
    · exfalso
      apply h.2
      unfold lck
      rw [if_pos h.1, show (p + 31) / 32 = p / 32 + 1 by omega]
      exact lv_m1 _
  · intro h
    refine ⟨h.1, ?_⟩
    unfold lck
    rw [if_pos h.1, show (p + 31) / 32 = p / 32 by omega]
    exact nI_ne_m1
theorem lck_n (hb : b = true) : lck b (p + 1) = nI (p / 32) := by
  unfold lck
  rw [if_pos hb, show (p + 1 + 31) / 32 = p / 32 + 1 by omega]
  exact (lv_m1 _).symm
theorem lck_s (h : ¬ (b = true ∧ p % 32 = 0)) : lck b (p + 1) = lck b p := by
  unfold lck
  by_cases hb : b = true
  · rw [if_pos hb, if_pos hb, show (p + 1 + 31) / 32 = (p + 31) / 32 by have : ¬ p % 32 = 0 := fun z => h ⟨hb, z⟩; omega]
  · rw [if_neg hb, if_neg hb]
theorem mnx_ok (hA : ∀ k, k < m → is9 k = ids k) (hT : ∀ k, k < m → T (ids k) = nI k) (h : okb b m ids S T D p = true) : mnx b m is9 S D (p, lck b p, false, bd, ck) = ((p + 1, lck b (p + 1), false, bd, ck + nI (b2n (b && decide (p % 32 = 0)))), tby D ids p) := by
  obtain ⟨h1, h2⟩ := okb_t h
  have e1 : D (pos is9 p) = tby D ids p := by unfold tby pos; rw [hA _ h1]
  unfold mnx
  rw [if_neg (by decide : ¬ (false : Bool) = true), if_neg (by show ¬ m ≤ p / 32; omega)]
  rcases h2 with ⟨h2, h3, h4, h5⟩ | ⟨h2, h5⟩
  · rw [if_pos ((lck_c h1).mpr ⟨h2, h3⟩)]
    have h6 : S (ids (p / 32)) = sumS (T (ids (p / 32))) (fun q => D (ids (p / 32) * 32 + q)) 32 := of_decide_eq_true h4
    rw [hT _ h1] at h6
    show (if S (is9 (p / 32)) = sumS (nI (p / 32)) (fun q => D (is9 (p / 32) * 32 + q)) 32 then _ else _) = _
    rw [hA _ h1, if_pos h6, h5, e1, lck_n h2]
  · rw [if_neg (fun z => h2 ((lck_c h1).mp z)), h5, lck_s h2, e1]
    show ((p + 1, lck b p, false, bd, ck), _) = _
    rw [show ck + nI 0 = ck from Int32.add_zero _]
theorem mnx_bad (hm : 1 ≤ m) (hA : ∀ k, k < m → is9 k = ids k) (hT : ∀ k, k < m → T (ids k) = nI k) (h : okb b m ids S T D p = false) : (mnx b m is9 S D (p, lck b p, false, bd, ck)).1.2.2 = (true, nI (flt m ids p), ck + nI (b2n (decide (p / 32 < m)))) := by
  unfold mnx
  rw [if_neg (by decide : ¬ (false : Bool) = true)]
  rcases okb_f h with ⟨h1, h2, h3⟩ | ⟨h1, h2, h3, h4, h5, h6⟩
  · rw [if_pos (show m ≤ p / 32 from h1), h2, h3, hA _ (by omega)]
    show (true, _, ck) = _
    rw [show ck + nI 0 = ck from Int32.add_zero _]
  · rw [if_neg (by show ¬ m ≤ p / 32; omega), if_pos ((lck_c h1).mpr ⟨h2, h3⟩), h5, h6]
    have h7 : ¬ S (ids (p / 32)) = sumS (T (ids (p / 32))) (fun q => D (ids (p / 32) * 32 + q)) 32 := of_decide_eq_false h4
    rw [hT _ h1] at h7
    show (if S (is9 (p / 32)) = sumS (nI (p / 32)) (fun q => D (is9 (p / 32) * 32 + q)) 32 then _ else _ : R5 × Nat).1.2.2 = _
    rw [hA _ h1, if_neg h7]
theorem mkK_ok (hA : ∀ k, k < m → is9 k = ids k) (hT : ∀ k, k < m → T (ids k) = nI k) : ∀ i, (∀ j, j < i → okb b m ids S T D (p + j) = true) → mkK (mnx b m is9 S D) i (p, lck b p, false, bd, ck) = ((p + i, lck b (p + i), false, bd, ck + nI (icn b p i)), rdK (fun j => tby D ids (p + j)) i)
  | 0 => fun _ => by
    show ((p, lck b p, false, bd, ck), (0 : Int64)) = ((p + 0, lck b (p + 0), false, bd, ck + nI 0), 0)
    rw [show ck + nI 0 = ck from Int32.add_zero _]
    rfl
  | i + 1 => fun h => by
    rw [mkK, mkK_ok hA hT i (fun j hj => h j (by omega)), mnx_ok hA hT (h i (by omega))]
    show ((p + i + 1, _, false, bd, ck + nI (icn b p i) + nI _), _) = _
    rw [Int32.add_assoc, nI_add]
    rfl
theorem mkK_stuck {is9 : Nat → Nat} : ∀ i (s : R5), s.2.2.1 = true → (mkK (mnx b m is9 S D) i s).1 = s
  | 0 => fun s _ => rfl
  | i + 1 => fun s h => by
    rw [mkK]
    show (mnx b m is9 S D _).1 = s
    rw [mkK_stuck i s h, mnx_stuck h]
theorem mkK_bad (hm : 1 ≤ m) (hA : ∀ k, k < m → is9 k = ids k) (hT : ∀ k, k < m → T (ids k) = nI k) {t : Nat} (h1 : ∀ j, j < t → okb b m ids S T D (p + j) = true) (h2 : okb b m ids S T D (p + t) = false) : ∀ i, t < i → (mkK (mnx b m is9 S D) i (p, lck b p, false, bd, ck)).1.2.2 = (true, nI (flt m ids (p + t)), ck + nI (icn b p t + b2n (decide ((p + t) / 32 < m))))
  | 0 => fun h => absurd h (Nat.not_lt_zero _)
  | i + 1 => fun h => by
    rw [mkK]
    show (mnx b m is9 S D _).1.2.2 = _
    by_cases e : t < i
    · have h3 := mkK_bad hm hA hT h1 h2 i e
      rw [mnx_stuck (by rw [h3])]
      exact h3
    · have e2 : t = i := by omega
      subst e2
      rw [mkK_ok hA hT t h1, mnx_bad hm hA hT h2, Int32.add_assoc, nI_add]
theorem mkV_ok (hA : ∀ k, k < m → is9 k = ids k) (hT : ∀ k, k < m → T (ids k) = nI k) : ∀ i, (∀ j, j < i → okb b m ids S T D (p + j) = true) → mkV (mnx b m is9 S D) i (p, lck b p, false, bd, ck) = ((p + i, lck b (p + i), false, bd, ck + nI (icn b p i)), rdK (fun j => tby D ids (p + j)) i)
  | 0 => fun _ => by
    show ((p, lck b p, false, bd, ck), (0 : Int64)) = ((p + 0, lck b (p + 0), false, bd, ck + nI 0), 0)
    rw [show ck + nI 0 = ck from Int32.add_zero _]
    rfl
  | i + 1 => fun h => by
    rw [mkV, mkV_ok hA hT i (fun j hj => h j (by omega)), if_neg (by decide : ¬ (false : Bool) = true), mnx_ok hA hT (h i (by omega))]
    show ((p + i + 1, _, false, bd, ck + nI (icn b p i) + nI _), _) = _
    rw [Int32.add_assoc, nI_add]
    rfl
theorem mkV_bad (hm : 1 ≤ m) (hA : ∀ k, k < m → is9 k = ids k) (hT : ∀ k, k < m → T (ids k) = nI k) {t : Nat} (h1 : ∀ j, j < t → okb b m ids S T D (p + j) = true) (h2 : okb b m ids S T D (p + t) = false) : ∀ i, t < i → (mkV (mnx b m is9 S D) i (p, lck b p, false, bd, ck)).1.2.2 = (true, nI (flt m ids (p + t)), ck + nI (icn b p t + b2n (decide ((p + t) / 32 < m))))
  | 0 => fun h => absurd h (Nat.not_lt_zero _)
  | i + 1 => fun h => by
    rw [mkV]
    by_cases e : t < i
    · have h3 := mkV_bad hm hA hT h1 h2 i e
      rw [if_pos (by rw [h3])]
      exact h3
    · have e2 : t = i := by omega
      subst e2
      rw [mkV_ok hA hT t h1, if_neg (by decide : ¬ (false : Bool) = true)]
      show (mnx b m is9 S D _).1.2.2 = _
      rw [mnx_bad hm hA hT h2, Int32.add_assoc, nI_add]
theorem icn_add (b : Bool) (p a : Nat) : ∀ c, icn b p (a + c) = icn b p a + icn b (p + a) c
  | 0 => rfl
  | c + 1 => by
    show icn b p (a + c) + b2n (b && decide ((p + (a + c)) % 32 = 0)) = _
    rw [icn_add b p a c, show p + (a + c) = p + a + c by omega]
    exact Nat.add_assoc _ _ _
theorem oknb_p {n : Nat} (h : oknb n = true) : okn n := by
  unfold oknb at h
  rw [Bool.or_eq_true, decide_eq_true_eq, decide_eq_true_eq] at h
  exact h
/-- what fwi says -/
theorem fwi_all {ok : Nat → Bool} {n : Nat} (h : ¬ fwi ok n < n) : ∀ j, j < n → ok j = true := fun j hj => fwi_below ok n j (by have := fwi_le ok n; omega)
theorem fwi_fst {ok : Nat → Bool} {n : Nat} (h : fwi ok n < n) : ok (fwi ok n) = false := fwi_at ok n h
theorem mrE_ok (hA : ∀ k, k < m → is9 k = ids k) (hT : ∀ k, k < m → T (ids k) = nI k) {ek ev : Int64} {el : Nat} (h : (rdE b m ids S T D p).1 = none) : mrE (mnx b m is9 S D) is9 ((p, lck b p, false, bd, ck), ek, el, ev) = ((p + ebn (tby D ids (p + 8)), lck b (p + ebn (tby D ids (p + 8))), false, bd, ck + nI (rdE b m ids S T D p).2), enK (tby D ids) p, tby D ids (p + 8), enV (tby D ids) p) := by
  have h9 : ∀ j, j < 9 → okb b m ids S T D (p + j) = true := by
    unfold rdE at h
    split at h
    · cases h
    · rename_i h1; exact fwi_all h1
  have hk := (rdE_none h).1
  have hE : ∀ j, j < ebn (tby D ids (p + 8)) → okb b m ids S T D (p + j) = true := by
    unfold rdE at h
    rw [if_neg (by rw [fwi_is (Nat.le_refl 9) h9 (fun z => absurd z (by omega))]; omega), oknb_t hk, if_pos rfl] at h
    split at h
    · cases h
    · rename_i h1; exact fwi_all h1
  have e1 : mkK (mnx b m is9 S D) 8 (p, lck b p, false, bd, ck) = ((p + 8, lck b (p + 8), false, bd, ck + nI (icn b p 8)), enK (tby D ids) p) := mkK_ok hA hT 8 (fun j hj => h9 j (by omega))
  have e2 : mkL (mnx b m is9 S D) is9 (p + 8, lck b (p + 8), false, bd, ck + nI (icn b p 8)) = ((p + 9, lck b (p + 9), false, bd, ck + nI (icn b p 9)), tby D ids (p + 8)) := by
    unfold mkL
    rw [mnx_ok hA hT (h9 8 (by omega)), if_neg (fun z => by have := z.2; rw [show oknb (tby D ids (p + 8)) = true from oknb_t hk] at this; cases this), Int32.add_assoc, nI_add]
    rfl
  have e3 : mkV (mnx b m is9 S D) (bOf (tby D ids (p + 8))) (p + 9, lck b (p + 9), false, bd, ck + nI (icn b p 9)) = ((p + 9 + bOf (tby D ids (p + 8)), lck b (p + 9 + bOf (tby D ids (p + 8))), false, bd, ck + nI (icn b p 9) + nI (icn b (p + 9) (bOf (tby D ids (p + 8))))), enV (tby D ids) p) := by
    rw [mkV_ok hA hT _ (fun j hj => by have := hE (9 + j) (by rw [ebn_bOf]; omega); rwa [show p + (9 + j) = p + 9 + j by omega] at this)]
    rw [show enV (tby D ids) p = rdK (fun j => tby D ids (p + 9 + j)) (bOf (tby D ids (p + 8))) by
      unfold enV
      rw [ebn_bOf, Nat.add_sub_cancel_left]
      exact congrArg (fun f => rdK f _) (funext fun j => by rw [Nat.add_assoc])]
  rw [mrE_3 e1 rfl e2 rfl e3]
  rw [rdE_k hk hE, ebn_bOf, icn_add b p 9, Int32.add_assoc, nI_add, Nat.add_assoc]
theorem mrE_bad (hm : 1 ≤ m) (hA : ∀ k, k < m → is9 k = ids k) (hT : ∀ k, k < m → T (ids k) = nI k) {ek ev : Int64} {el f : Nat} (h : (rdE b m ids S T D p).1 = some f) : (mrE (mnx b m is9 S D) is9 ((p, lck b p, false, bd, ck), ek, el, ev)).1.2.2 = (true, nI f, ck + nI (rdE b m ids S T D p).2) := by
  by_cases h9 : fwi (fun i => okb b m ids S T D (p + i)) 9 < 9
  · have g1 := fwi_below (fun i => okb b m ids S T D (p + i)) 9
    have g2 := fwi_fst h9
    have e0 := rdE_f (b := b) (m := m) (ids := ids) (S := S) (T := T) (B := D) (p := p) (t := fwi (fun i => okb b m ids S T D (p + i)) 9) g1 g2 (Or.inl h9)
    rw [e0] at h ⊢
    cases h
    generalize fwi (fun i => okb b m ids S T D (p + i)) 9 = t at *
    by_cases h8 : t < 8
    · have e1 := mkK_bad (bd := bd) (ck := ck) hm hA hT g1 g2 8 h8
      rw [mrE_1 (by rw [e1])]
      exact e1
    · have t8 : t = 8 := by omega
      subst t8
      have e2 := mnx_bad (bd := bd) (ck := ck + nI (icn b p 8)) hm hA hT g2
      have e3 : mkL (mnx b m is9 S D) is9 (p + 8, lck b (p + 8), false, bd, ck + nI (icn b p 8)) = mnx b m is9 S D (p + 8, lck b (p + 8), false, bd, ck + nI (icn b p 8)) := by
        unfold mkL
        rw [if_neg (fun z => by have := z.1; rw [e2] at this; cases this)]
      rw [mrE_2 (s2 := (mnx b m is9 S D (p + 8, lck b (p + 8), false, bd, ck + nI (icn b p 8))).1) (n := (mnx b m is9 S D (p + 8, lck b (p + 8), false, bd, ck + nI (icn b p 8))).2) (mkK_ok hA hT 8 g1) rfl e3 (by rw [e2])]
      show (mnx b m is9 S D _).1.2.2 = _
      rw [e2, Int32.add_assoc, nI_add]
  · have g1 := fwi_all h9
    have e1 : mkK (mnx b m is9 S D) 8 (p, lck b p, false, bd, ck) = ((p + 8, lck b (p + 8), false, bd, ck + nI (icn b p 8)), enK (tby D ids) p) := mkK_ok hA hT 8 (fun j hj => g1 j (by omega))
    have e2 : mnx b m is9 S D (p + 8, lck b (p + 8), false, bd, ck + nI (icn b p 8)) = ((p + 9, lck b (p + 9), false, bd, ck + nI (icn b p 9)), tby D ids (p + 8)) := by
      rw [mnx_ok hA hT (g1 8 (by omega)), Int32.add_assoc, nI_add]
      rfl
    have hlt : (p + 8) / 32 < m := (okb_t (g1 8 (by omega))).1
    by_cases hk : oknb (tby D ids (p + 8)) = true
    · have hk2 := oknb_p hk
      have h5 : fwi (fun i => okb b m ids S T D (p + i)) (ebn (tby D ids (p + 8))) < ebn (tby D ids (p + 8)) := by
        unfold rdE at h
        rw [if_neg h9, hk, if_pos rfl] at h
        split at h
        · rename_i h1; exact h1
        · cases h
      have q1 := fwi_below (fun i => okb b m ids S T D (p + i)) (ebn (tby D ids (p + 8)))
      have q2 := fwi_fst h5
      generalize hw : fwi (fun i => okb b m ids S T D (p + i)) (ebn (tby D ids (p + 8))) = t at *
      have t9 : 9 ≤ t := by
        by_cases e : t < 9
        · have := g1 t e; rw [this] at q2; cases q2
        · omega
      have e0 := rdE_f (b := b) (m := m) (ids := ids) (S := S) (T := T) (B := D) (p := p) (t := t) q1 q2 (Or.inr ⟨hk2, t9, h5⟩)
      rw [e0] at h ⊢
      cases h
      have e3 : mkL (mnx b m is9 S D) is9 (p + 8, lck b (p + 8), false, bd, ck + nI (icn b p 8)) = ((p + 9, lck b (p + 9), false, bd, ck + nI (icn b p 9)), tby D ids (p + 8)) := by
        unfold mkL
        rw [e2, if_neg (fun z => by have := z.2; rw [show oknb (tby D ids (p + 8)) = true from hk] at this; cases this)]
      rw [mrE_3 e1 rfl e3 rfl rfl]
      show (mkV _ (bOf (tby D ids (p + 8))) _).1.2.2 = _
      rw [mkV_bad (t := t - 9) hm hA hT (fun j hj => by have := q1 (9 + j) (by omega); rwa [show p + (9 + j) = p + 9 + j by omega] at this) (by rw [show p + 9 + (t - 9) = p + t by omega]; exact q2) _ (by rw [ebn_bOf] at h5; omega)]
      rw [show p + 9 + (t - 9) = p + t by omega, Int32.add_assoc, nI_add, ← Nat.add_assoc, ← icn_add, show 9 + (t - 9) = t by omega]
    · have hk2 : oknb (tby D ids (p + 8)) = false := by cases hq : oknb (tby D ids (p + 8)) with | true => exact absurd hq hk | false => rfl
      have hk3 : ¬ okn (tby D ids (p + 8)) := fun z => hk (oknb_t z)
      have e0 := rdE_l (b := b) (m := m) (ids := ids) (S := S) (T := T) (B := D) (p := p) g1 hk3
      rw [e0] at h ⊢
      cases h
      have e3 : mkL (mnx b m is9 S D) is9 (p + 8, lck b (p + 8), false, bd, ck + nI (icn b p 8)) = ((p + 9, lck b (p + 9), true, nI (ids ((p + 8) / 32)), ck + nI (icn b p 9)), tby D ids (p + 8)) := by
        unfold mkL
        rw [e2, if_pos ⟨rfl, hk2⟩]
        show ((_, _, true, nI (is9 ((p + 8) / 32)), _), _) = _
        rw [hA _ hlt]
      rw [mrE_2 e1 rfl e3 rfl]
end MNX
section MNY
variable {b : Bool} {m : Nat} {ids : Nat → Nat} {S : Nat → Int32} {D : Nat → Nat} {s : R5}
theorem mnx_e (hf : s.2.2.1 = false) (hm : m ≤ s.1 / 32) : mnx b m ids S D s = ((s.1, s.2.1, true, nI (ids (m - 1)), s.2.2.2.2), 0) := by
  unfold mnx
  rw [hf, if_neg (by decide), if_pos hm]
theorem mnx_c (hf : s.2.2.1 = false) (hm : s.1 / 32 < m) (hc : ¬ (b = true ∧ nI (s.1 / 32) ≠ s.2.1)) : mnx b m ids S D s = ((s.1 + 1, s.2.1, false, s.2.2.2.1, s.2.2.2.2), D (pos ids s.1)) := by
  unfold mnx
  rw [hf, if_neg (by decide), if_neg (by omega), if_neg hc]
theorem mnx_r (hf : s.2.2.1 = false) (hm : s.1 / 32 < m) (hc : b = true ∧ nI (s.1 / 32) ≠ s.2.1) (hr : S (ids (s.1 / 32)) = sumS (nI (s.1 / 32)) (fun q => D (ids (s.1 / 32) * 32 + q)) 32) : mnx b m ids S D s = ((s.1 + 1, nI (s.1 / 32), false, s.2.2.2.1, s.2.2.2.2 + nI 1), D (pos ids s.1)) := by
  unfold mnx
  rw [hf, if_neg (by decide), if_neg (by omega), if_pos hc, if_pos hr]
theorem mnx_w (hf : s.2.2.1 = false) (hm : s.1 / 32 < m) (hc : b = true ∧ nI (s.1 / 32) ≠ s.2.1) (hr : ¬ S (ids (s.1 / 32)) = sumS (nI (s.1 / 32)) (fun q => D (ids (s.1 / 32) * 32 + q)) 32) : mnx b m ids S D s = ((s.1, nI (s.1 / 32), true, nI (ids (s.1 / 32)), s.2.2.2.2 + nI 1), 0) := by
  unfold mnx
  rw [hf, if_neg (by decide), if_neg (by omega), if_pos hc, if_neg hr]
theorem mnx_at (hm : m ≤ 128) (h : s.1 ≤ 4096) : (mnx b m ids S D s).1.1 ≤ 4096 := by
  unfold mnx
  split
  · exact h
  · split
    · exact h
    · split
      · split
        · show s.1 + 1 ≤ 4096; omega
        · exact h
      · show s.1 + 1 ≤ 4096; omega
theorem mnx_v (hD : ∀ q, D q < 256) : (mnx b m ids S D s).2 < 256 := by
  unfold mnx
  split
  · exact (by decide : (0 : Nat) < 256)
  · split
    · exact (by decide : (0 : Nat) < 256)
    · split
      · split
        · exact hD _
        · exact (by decide : (0 : Nat) < 256)
      · exact hD _
theorem mnx_lt (h : (mnx b m ids S D s).1.2.2.1 = false) : s.1 / 32 < m := by
  rcases Nat.lt_or_ge (s.1 / 32) m with g | g
  · exact g
  · cases hs : s.2.2.1 with
    | true => rw [mnx_stuck hs, hs] at h; cases h
    | false => rw [mnx_e hs g] at h; cases h
theorem mkK_at (hm : m ≤ 128) (h : s.1 ≤ 4096) : ∀ i, (mkK (mnx b m ids S D) i s).1.1 ≤ 4096
  | 0 => h
  | i + 1 => by
    rw [mkK]
    exact mnx_at hm (mkK_at hm h i)
theorem mkV_at (hm : m ≤ 128) (h : s.1 ≤ 4096) : ∀ i, (mkV (mnx b m ids S D) i s).1.1 ≤ 4096
  | 0 => h
  | i + 1 => by
    rw [mkV]
    split
    · exact mkV_at hm h i
    · exact mnx_at hm (mkV_at hm h i)
end MNY
section MNZ
variable {nx : R5 → R5 × Nat} {ids : Nat → Nat} {s : R5}
theorem mkL_a (h : (nx s).1.2.2.1 = true ∨ oknb (nx s).2 = true) : mkL nx ids s = nx s := by
  unfold mkL
  rw [if_neg]
  intro z
  rcases h with h | h
  · rw [h] at z; cases z.1
  · rw [h] at z; cases z.2
theorem mkL_b (h : (nx s).1.2.2.1 = false) (h2 : oknb (nx s).2 = false) : mkL nx ids s = (((nx s).1.1, (nx s).1.2.1, true, nI (ids (s.1 / 32)), (nx s).1.2.2.2.2), (nx s).2) := by
  unfold mkL
  rw [if_pos ⟨h, h2⟩]
theorem mkL_ok (h : (mkL nx ids s).1.2.2.1 = false) : okn (mkL nx ids s).2 := by
  cases h1 : (nx s).1.2.2.1 with
  | true => rw [mkL_a (Or.inl h1), h1] at h; cases h
  | false =>
    cases h2 : oknb (nx s).2 with
    | true => rw [mkL_a (Or.inr h2)]; exact oknb_p h2
    | false => rw [mkL_b h1 h2] at h; cases h
theorem mkV_stop {i : Nat} (h : (mkV nx i s).1.2.2.1 = true) : ∀ N, i ≤ N → mkV nx N s = mkV nx i s
  | 0 => fun g => by rw [Nat.le_zero.mp g]
  | N + 1 => fun g => by
    by_cases e : i = N + 1
    · rw [e]
    · rw [mkV, mkV_stop h N (by omega), if_pos h]
theorem mkV_go {i : Nat} (h : (mkV nx i s).1.2.2.1 = false) : mkV nx (i + 1) s = ((nx (mkV nx i s).1).1, ((mkV nx i s).2 <<< ((nI 8).toInt64 &&& 63)) ||| (nI (nx (mkV nx i s).1).2).toInt64) := by
  rw [mkV, h, if_neg (by decide)]
end MNZ
theorem b2n_0 {b : Bool} (h : b2n b = 0) : b = false := b2n_f h
theorem b2n_1 {b : Bool} (h : 0 < b2n b) : b = true := b2n_t (by omega)
theorem mkL_at {b : Bool} {m : Nat} {ids i2 : Nat → Nat} {S : Nat → Int32} {D : Nat → Nat} {s : R5} (hm : m ≤ 128) (h : s.1 ≤ 4096) : (mkL (mnx b m ids S D) i2 s).1.1 ≤ 4096 := by
  unfold mkL
  split
  · exact mnx_at hm h
  · exact mnx_at hm h
theorem lck_0 (b : Bool) : lck b 0 = (-1) := by cases b <;> decide
