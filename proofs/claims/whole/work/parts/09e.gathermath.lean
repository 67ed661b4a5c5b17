/-! GATHERING, SEEKING over tables -/
section RDF
variable {b : Bool} {m : Nat} {ids : Nat → Nat} {S T : Nat → Int32} {B : Nat → Nat} {p e f : Nat} {k : Int64}
theorem flt_in (hm : 1 ≤ m) (p : Nat) : ∃ k, k < m ∧ flt m ids p = ids k := by
  unfold flt
  by_cases h : p / 32 < m
  · rw [if_pos h]; exact ⟨_, h, rfl⟩
  · rw [if_neg h]; exact ⟨m - 1, by omega, rfl⟩
theorem rdE_flt (hm : 1 ≤ m) (h : (rdE b m ids S T B p).1 = some f) : ∃ k, k < m ∧ f = ids k := by
  unfold rdE at h
  split at h
  · obtain ⟨k, h1, h2⟩ := flt_in (ids := ids) hm (p + fwi (fun i => okb b m ids S T B (p + i)) 9)
    exact ⟨k, h1, by rw [← h2]; exact (Option.some.inj h).symm⟩
  · split at h
    · split at h
      · obtain ⟨k, h1, h2⟩ := flt_in (ids := ids) hm (p + fwi (fun i => okb b m ids S T B (p + i)) (ebn (tby B ids (p + 8))))
        exact ⟨k, h1, by rw [← h2]; exact (Option.some.inj h).symm⟩
      · cases h
    · rename_i h1 h2
      have h4 := fwi_le (fun i => okb b m ids S T B (p + i)) 9
      have h5 := fwi_below (fun i => okb b m ids S T B (p + i)) 9 8 (by omega)
      have h6 : okb b m ids S T B (p + 8) = true := h5
      exact ⟨(p + 8) / 32, (okb_t h6).1, (Option.some.inj h).symm⟩
theorem rch_flt (hm : 1 ≤ m) : ∀ {e p}, (rch b m ids S T B k e p).1 = some f → ∃ k, k < m ∧ f = ids k
  | 0, p => fun h => by rw [rch] at h; cases h
  | e + 1, p => fun h => by
    cases hr : (rdE b m ids S T B p).1 with
    | some g =>
      rw [rch_f hr] at h
      exact rdE_flt hm (hr.trans h)
    | none =>
      by_cases hk : enK (tby B ids) p < k
      · rw [rch_n hr hk] at h; exact rch_flt hm h
      · rw [rch_e hr hk] at h; cases h
theorem rch_found : ∀ {e p x}, (rch b m ids S T B k e p).2.1 = some x → (rch b m ids S T B k e p).1 = none ∧ okn x.1
  | 0, p, x => fun h => by rw [rch] at h; cases h
  | e + 1, p, x => fun h => by
    cases hr : (rdE b m ids S T B p).1 with
    | some g => rw [rch_f hr] at h; cases h
    | none =>
      by_cases hk : enK (tby B ids) p < k
      · rw [rch_n hr hk] at h ⊢; exact rch_found h
      · rw [rch_e hr hk] at h ⊢
        refine ⟨rfl, ?_⟩
        by_cases h2 : enK (tby B ids) p = k
        · have h3 : (if enK (tby B ids) p = k then some (tby B ids (p + 8), enV (tby B ids) p) else none) = some x := h
          rw [if_pos h2] at h3
          rw [← Option.some.inj h3]
          exact (rdE_none hr).1
        · have h3 : (if enK (tby B ids) p = k then some (tby B ids (p + 8), enV (tby B ids) p) else none) = some x := h
          rw [if_neg h2] at h3
          cases h3
theorem gth_flt (hm : 1 ≤ m) : ∀ {e p R}, (gth b m ids S T B e p R).1 = some f → ∃ k, k < m ∧ f = ids k
  | 0, p, R => fun h => by rw [gth] at h; cases h
  | e + 1, p, R => fun h => by
    cases hr : (rdE b m ids S T B p).1 with
    | some g => rw [gth_f hr] at h; exact rdE_flt hm (hr.trans h)
    | none => rw [gth_n hr] at h; exact gth_flt hm h
end RDF
/-- rows that are in order, each of a length that may be -/
def rOk (R : R4) : Prop := srt R.1 R.2.2.2 ∧ ∀ i, i < R.2.2.2 → okn (R.2.1 i)
theorem bySum_congr {z z' : Nat → Nat} : ∀ {t}, (∀ i, i < t → z i = z' i) → bySum z t = bySum z' t
  | 0, _ => rfl
  | t + 1, h => by
    show bySum z t + ebn (z t) = bySum z' t + ebn (z' t)
    rw [bySum_congr (fun i hi => h i (by omega)), h t (by omega)]
theorem bySum_ins {z : Nat → Nat} {n j m : Nat} (hj : j ≤ n) : bySum (insF z n j m) (n + 1) = bySum z n + ebn m := by
  have h1 : bySum (insF z n j m) j = bySum z j := bySum_congr (fun i hi => insF_lt hi)
  have h2 : ∀ t, j ≤ t → t ≤ n → bySum (insF z n j m) (t + 1) = bySum z t + ebn m := by
    intro t
    induction t with
    | zero =>
      intro a _
      have : j = 0 := by omega
      subst this
      show bySum (insF z n 0 m) 0 + ebn (insF z n 0 m 0) = _
      rw [insF_at, h1]
    | succ t ih =>
      intro a c
      by_cases e : j = t + 1
      · subst e
        show bySum (insF z n (t + 1) m) (t + 1) + ebn (insF z n (t + 1) m (t + 1)) = _
        rw [h1, insF_at]
      · show bySum (insF z n j m) (t + 1) + ebn (insF z n j m (t + 1)) = bySum z t + ebn (z t) + ebn m
        rw [ih (by omega) (by omega), insF_gt (by omega) (by omega), show t + 1 - 1 = t by omega]
        omega
  exact h2 n hj (Nat.le_refl _)
theorem adm_ok {R : R4} {k v : Int64} {m : Nat} (h : rOk R) (hm : okn m) : rOk (adm R k m v) := by
  refine ⟨adm_srt h.1, ?_⟩
  obtain ⟨K, z, V, n⟩ := R
  by_cases hf : plc K k n < n ∧ K (plc K k n) = k
  · rw [adm_t hf]; exact h.2
  · rw [adm_f hf]
    intro i hi
    have hl := plc_le K k n
    have hi' : i < n + 1 := hi
    show okn (insF z n (plc K k n) m i)
    rcases Nat.lt_trichotomy i (plc K k n) with g | g | g
    · rw [insF_lt g]; exact h.2 i (show i < n by omega)
    · rw [g, insF_at]; exact hm
    · rw [insF_gt g (by omega)]; exact h.2 (i - 1) (show i - 1 < n by omega)
theorem adm_by (R : R4) (k v : Int64) (m : Nat) : bySum (adm R k m v).2.1 (adm R k m v).2.2.2 ≤ bySum R.2.1 R.2.2.2 + ebn m := by
  obtain ⟨K, z, V, n⟩ := R
  by_cases hf : plc K k n < n ∧ K (plc K k n) = k
  · rw [adm_t hf]; exact Nat.le_add_right _ _
  · rw [adm_f hf]; exact Nat.le_of_eq (bySum_ins (plc_le K k n))
theorem gth_ok {b : Bool} {m : Nat} {ids : Nat → Nat} {S T : Nat → Int32} {B : Nat → Nat} : ∀ {e p : Nat} {R : R4}, rOk R → p ≤ 32 * m → rOk (gth b m ids S T B e p R).2.1 ∧ (gth b m ids S T B e p R).2.1.2.2.2 ≤ R.2.2.2 + e ∧ bySum (gth b m ids S T B e p R).2.1.2.1 (gth b m ids S T B e p R).2.1.2.2.2 + p ≤ bySum R.2.1 R.2.2.2 + 32 * m
  | 0, p, R, h, hp => ⟨h, Nat.le_refl _, by show bySum R.2.1 R.2.2.2 + p ≤ _; omega⟩
  | e + 1, p, R, h, hp => by
    cases hr : (rdE b m ids S T B p).1 with
    | some g =>
      rw [gth_f hr]
      exact ⟨h, Nat.le_add_right _ _, by show bySum R.2.1 R.2.2.2 + p ≤ _; omega⟩
    | none =>
      obtain ⟨h1, h2⟩ := rdE_none hr
      rw [gth_n hr]
      obtain ⟨h3, h4, h5⟩ := gth_ok (b := b) (ids := ids) (S := S) (T := T) (B := B) (e := e) (R := adm R (enK (tby B ids) p) (tby B ids (p + 8)) (enV (tby B ids) p)) (adm_ok h h1) h2
      have h6 := (adm_cnt R (enK (tby B ids) p) (enV (tby B ids) p) (tby B ids (p + 8))).2
      have h7 := adm_by R (enK (tby B ids) p) (enV (tby B ids) p) (tby B ids (p + 8))
      refine ⟨h3, ?_, ?_⟩
      · show (gth b m ids S T B e (p + ebn (tby B ids (p + 8))) _).2.1.2.2.2 ≤ _
        omega
      · show bySum (gth b m ids S T B e (p + ebn (tby B ids (p + 8))) _).2.1.2.1 (gth b m ids S T B e (p + ebn (tby B ids (p + 8))) _).2.1.2.2.2 + p ≤ _
        omega
/-- a key sought in e tables from t on: the block at fault; length and value; how many blocks were looked at; how many tables were passed by -/
def sek (tb : Nat → TBr) (S T : Nat → Int32) (D : Nat → Nat) (k : Int64) : Nat → Nat → Option Nat × Option (Nat × Int64) × Nat × Nat
  | 0, _ => (none, none, 0, 0)
  | e + 1, t => if (tb t).fl &&& fbits k = fbits k then
      (match (rch true (tb t).mn (tb t).id S T D k (tb t).en 0).1 with
       | some f => (some f, none, (rch true (tb t).mn (tb t).id S T D k (tb t).en 0).2.2, 0)
       | none => match (rch true (tb t).mn (tb t).id S T D k (tb t).en 0).2.1 with
         | some x => (none, some x, (rch true (tb t).mn (tb t).id S T D k (tb t).en 0).2.2, 0)
         | none => ((sek tb S T D k e (t + 1)).1, (sek tb S T D k e (t + 1)).2.1, (rch true (tb t).mn (tb t).id S T D k (tb t).en 0).2.2 + (sek tb S T D k e (t + 1)).2.2.1, (sek tb S T D k e (t + 1)).2.2.2))
    else ((sek tb S T D k e (t + 1)).1, (sek tb S T D k e (t + 1)).2.1, (sek tb S T D k e (t + 1)).2.2.1, 1 + (sek tb S T D k e (t + 1)).2.2.2)
section SEK
variable {tb : Nat → TBr} {S T : Nat → Int32} {D : Nat → Nat} {k : Int64} {e t f : Nat} {x : Nat × Int64}
theorem sek_p (h : ¬ (tb t).fl &&& fbits k = fbits k) : sek tb S T D k (e + 1) t = ((sek tb S T D k e (t + 1)).1, (sek tb S T D k e (t + 1)).2.1, (sek tb S T D k e (t + 1)).2.2.1, 1 + (sek tb S T D k e (t + 1)).2.2.2) := by rw [sek, if_neg h]
theorem sek_f (h : (tb t).fl &&& fbits k = fbits k) (h2 : (rch true (tb t).mn (tb t).id S T D k (tb t).en 0).1 = some f) : sek tb S T D k (e + 1) t = (some f, none, (rch true (tb t).mn (tb t).id S T D k (tb t).en 0).2.2, 0) := by rw [sek, if_pos h, h2]
theorem sek_r (h : (tb t).fl &&& fbits k = fbits k) (h3 : (rch true (tb t).mn (tb t).id S T D k (tb t).en 0).2.1 = some x) : sek tb S T D k (e + 1) t = (none, some x, (rch true (tb t).mn (tb t).id S T D k (tb t).en 0).2.2, 0) := by rw [sek, if_pos h, (rch_found h3).1, h3]
theorem sek_n (h : (tb t).fl &&& fbits k = fbits k) (h2 : (rch true (tb t).mn (tb t).id S T D k (tb t).en 0).1 = none) (h3 : (rch true (tb t).mn (tb t).id S T D k (tb t).en 0).2.1 = none) : sek tb S T D k (e + 1) t = ((sek tb S T D k e (t + 1)).1, (sek tb S T D k e (t + 1)).2.1, (rch true (tb t).mn (tb t).id S T D k (tb t).en 0).2.2 + (sek tb S T D k e (t + 1)).2.2.1, (sek tb S T D k e (t + 1)).2.2.2) := by rw [sek, if_pos h, h2, h3]
end SEK
theorem sek_okn {tb : Nat → TBr} {S T : Nat → Int32} {D : Nat → Nat} {k : Int64} {x : Nat × Int64} : ∀ {e t}, (sek tb S T D k e t).2.1 = some x → okn x.1
  | 0, t => fun h => by rw [sek] at h; cases h
  | e + 1, t => fun h => by
    by_cases h1 : (tb t).fl &&& fbits k = fbits k
    · cases h2 : (rch true (tb t).mn (tb t).id S T D k (tb t).en 0).1 with
      | some f => rw [sek_f h1 h2] at h; cases h
      | none =>
        cases h3 : (rch true (tb t).mn (tb t).id S T D k (tb t).en 0).2.1 with
        | some y => rw [sek_r h1 h3] at h; rw [← Option.some.inj h]; exact (rch_found h3).2
        | none => rw [sek_n h1 h2 h3] at h; exact sek_okn h
    · rw [sek_p h1] at h; exact sek_okn h
def sval (sv : Int64) : Option (Nat × Int64) → Int64
  | none => sv
  | some x => x.2
/-- the rows of e tables from t on -/
def gtm (b : Bool) (tb : Nat → TBr) (S T : Nat → Int32) (D : Nat → Nat) : Nat → Nat → R4 → Option Nat × R4 × Nat
  | 0, _, R => (none, R, 0)
  | e + 1, t, R => match (gth b (tb t).mn (tb t).id S T D (tb t).en 0 R).1 with
    | some f => (some f, (gth b (tb t).mn (tb t).id S T D (tb t).en 0 R).2.1, (gth b (tb t).mn (tb t).id S T D (tb t).en 0 R).2.2)
    | none => ((gtm b tb S T D e (t + 1) (gth b (tb t).mn (tb t).id S T D (tb t).en 0 R).2.1).1, (gtm b tb S T D e (t + 1) (gth b (tb t).mn (tb t).id S T D (tb t).en 0 R).2.1).2.1, (gth b (tb t).mn (tb t).id S T D (tb t).en 0 R).2.2 + (gtm b tb S T D e (t + 1) (gth b (tb t).mn (tb t).id S T D (tb t).en 0 R).2.1).2.2)
section GTM
variable {b : Bool} {tb : Nat → TBr} {S T : Nat → Int32} {D : Nat → Nat} {e t f : Nat} {R : R4}
theorem gtm_f (h : (gth b (tb t).mn (tb t).id S T D (tb t).en 0 R).1 = some f) : gtm b tb S T D (e + 1) t R = (some f, (gth b (tb t).mn (tb t).id S T D (tb t).en 0 R).2.1, (gth b (tb t).mn (tb t).id S T D (tb t).en 0 R).2.2) := by rw [gtm, h]
theorem gtm_n (h : (gth b (tb t).mn (tb t).id S T D (tb t).en 0 R).1 = none) : gtm b tb S T D (e + 1) t R = ((gtm b tb S T D e (t + 1) (gth b (tb t).mn (tb t).id S T D (tb t).en 0 R).2.1).1, (gtm b tb S T D e (t + 1) (gth b (tb t).mn (tb t).id S T D (tb t).en 0 R).2.1).2.1, (gth b (tb t).mn (tb t).id S T D (tb t).en 0 R).2.2 + (gtm b tb S T D e (t + 1) (gth b (tb t).mn (tb t).id S T D (tb t).en 0 R).2.1).2.2) := by rw [gtm, h]
end GTM
/-- blocks of e tables from t on, and their entries -/
def sMn (tb : Nat → TBr) : Nat → Nat → Nat
  | 0, _ => 0
  | e + 1, t => (tb t).mn + sMn tb e (t + 1)
def sEt (tb : Nat → TBr) : Nat → Nat → Nat
  | 0, _ => 0
  | e + 1, t => (tb t).en + sEt tb e (t + 1)
theorem sEt_le {M : Nat} {tb : Nat → TBr} {c : Nat} (hT : ∀ u, u < c → tbOk M (tb u)) : ∀ {e t}, t + e ≤ c → sEt tb e t * 9 ≤ sMn tb e t * 32
  | 0, t, _ => Nat.le_refl _
  | e + 1, t, h => by
    have h1 := sEt_le hT (e := e) (t := t + 1) (by omega)
    have h2 := (hT t (by omega)).2.2.2.1
    show ((tb t).en + sEt tb e (t + 1)) * 9 ≤ ((tb t).mn + sMn tb e (t + 1)) * 32
    omega
theorem gtm_ok {b : Bool} {tb : Nat → TBr} {S T : Nat → Int32} {D : Nat → Nat} : ∀ {e t : Nat} {R : R4}, rOk R → rOk (gtm b tb S T D e t R).2.1 ∧ (gtm b tb S T D e t R).2.1.2.2.2 ≤ R.2.2.2 + sEt tb e t ∧ bySum (gtm b tb S T D e t R).2.1.2.1 (gtm b tb S T D e t R).2.1.2.2.2 ≤ bySum R.2.1 R.2.2.2 + 32 * sMn tb e t
  | 0, t, R, h => ⟨h, Nat.le_refl _, Nat.le_refl _⟩
  | e + 1, t, R, h => by
    obtain ⟨g1, g2, g3⟩ := gth_ok (b := b) (m := (tb t).mn) (ids := (tb t).id) (S := S) (T := T) (B := D) (e := (tb t).en) (p := 0) h (Nat.zero_le _)
    have a1 : sEt tb (e + 1) t = (tb t).en + sEt tb e (t + 1) := rfl
    have a2 : sMn tb (e + 1) t = (tb t).mn + sMn tb e (t + 1) := rfl
    cases hr : (gth b (tb t).mn (tb t).id S T D (tb t).en 0 R).1 with
    | some f =>
      rw [gtm_f hr]
      exact ⟨g1, by show (gth b (tb t).mn (tb t).id S T D (tb t).en 0 R).2.1.2.2.2 ≤ _; omega, by show bySum (gth b (tb t).mn (tb t).id S T D (tb t).en 0 R).2.1.2.1 (gth b (tb t).mn (tb t).id S T D (tb t).en 0 R).2.1.2.2.2 ≤ _; omega⟩
    | none =>
      rw [gtm_n hr]
      obtain ⟨h1, h2, h3⟩ := gtm_ok (b := b) (tb := tb) (S := S) (T := T) (D := D) (e := e) (t := t + 1) g1
      exact ⟨h1, by show (gtm b tb S T D e (t + 1) _).2.1.2.2.2 ≤ _; omega, by show bySum (gtm b tb S T D e (t + 1) _).2.1.2.1 (gtm b tb S T D e (t + 1) _).2.1.2.2.2 ≤ _; omega⟩
/-- e tables' blocks from t on looked at: the first wrong one, how many were looked at -/
def ist (tb : Nat → TBr) (S T : Nat → Int32) (D : Nat → Nat) : Nat → Nat → Option Nat × Nat
  | 0, _ => (none, 0)
  | e + 1, t => if fwi (fun k => rgt S T D ((tb t).id k)) (tb t).mn < (tb t).mn then (some ((tb t).id (fwi (fun k => rgt S T D ((tb t).id k)) (tb t).mn)), fwi (fun k => rgt S T D ((tb t).id k)) (tb t).mn + 1)
    else ((ist tb S T D e (t + 1)).1, (tb t).mn + (ist tb S T D e (t + 1)).2)
theorem adms_ok {R Q : R4} (h : rOk R) (hq : ∀ i, i < Q.2.2.2 → okn (Q.2.1 i)) : ∀ {t}, t ≤ Q.2.2.2 → rOk (adms R Q t) ∧ (adms R Q t).2.2.2 ≤ R.2.2.2 + t
  | 0, _ => ⟨h, Nat.le_refl _⟩
  | t + 1, ht => by
    obtain ⟨h1, h2⟩ := adms_ok h hq (t := t) (by omega)
    have h3 := (adm_cnt (adms R Q t) (Q.1 t) (Q.2.2.1 t) (Q.2.1 t)).2
    exact ⟨adm_ok h1 (hq t (by omega)), by show (adm (adms R Q t) (Q.1 t) (Q.2.1 t) (Q.2.2.1 t)).2.2.2 ≤ _; omega⟩
theorem m1_lt {a : Nat} (h : a < 2 ^ 31) : (-1 : Int32) < nI a := by
  rw [Int32.lt_iff_toInt_lt, nI_toInt h]
  have : (-1 : Int32).toInt = -1 := by decide
  omega
theorem nlt_m1 {a : Nat} (h : a < 2 ^ 31) : ¬ nI a < (-1 : Int32) := by
  rw [Int32.lt_iff_toInt_lt, nI_toInt h]
  have : (-1 : Int32).toInt = -1 := by decide
  omega
theorem i32_nlt2 {a b : Int32} (h : a < b) : ¬ b ≤ a := by
  rw [Int32.lt_iff_toInt_lt] at h
  rw [Int32.le_iff_toInt_le]
  omega
theorem sres_m1 {x : Option (Nat × Int64)} (h : ∀ y, x = some y → okn y.1) : sres x = (-1) ↔ (x = none ∨ ∃ y, x = some y ∧ y.1 = 255) := by
  cases x with
  | none => exact ⟨fun _ => Or.inl rfl, fun _ => rfl⟩
  | some y =>
    rw [sres]
    by_cases e : y.1 = 255
    · rw [if_pos e]; exact ⟨fun _ => Or.inr ⟨y, rfl, e⟩, fun _ => rfl⟩
    · rw [if_neg e]
      have h1 := okn_lt (h y rfl)
      refine ⟨fun z => absurd z (nI_nm1 (by omega)), fun z => ?_⟩
      rcases z with z | ⟨y2, h2, h3⟩
      · cases z
      · rw [Option.some.inj h2] at e; exact absurd h3 e
/-- what find tells -/
def fres : Option (Nat × Int64) → Int64
  | none => 0
  | some x => if x.1 = 255 then 0 else x.2
theorem fres_m1 {x : Option (Nat × Int64)} (h : ∀ y, x = some y → okn y.1) (e : sres x = (-1)) : fres x = 0 := by
  rcases (sres_m1 h).mp e with z | ⟨y, h2, h3⟩
  · rw [z]; rfl
  · rw [h2, fres, if_pos h3]
theorem fres_v {x : Option (Nat × Int64)} {sv : Int64} (e : ¬ sres x = (-1)) : fres x = sval sv x := by
  cases x with
  | none => exact absurd rfl e
  | some y =>
    rw [fres, sval]
    by_cases e2 : y.1 = 255
    · exact absurd (by rw [sres, if_pos e2]) e
    · rw [if_neg e2]
