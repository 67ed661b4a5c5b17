/-! THE MODEL: tables gathered -/
theorem adms_cnt {R Q : R4} : ∀ i, (adms R Q i).2.2.2 ≤ R.2.2.2 + i
  | 0 => Nat.le_refl _
  | i + 1 => by
    have h1 := adms_cnt (R := R) (Q := Q) i
    have h2 := (adm_cnt (adms R Q i) (Q.1 i) (Q.2.2.1 i) (Q.2.1 i)).2
    show (adm (adms R Q i) (Q.1 i) (Q.2.1 i) (Q.2.2.1 i)).2.2.2 ≤ _
    omega
theorem gth_cnt {b : Bool} {m : Nat} {ids : Nat → Nat} {S T : Nat → Int32} {B : Nat → Nat} : ∀ e p (R : R4), (gth b m ids S T B e p R).2.1.2.2.2 ≤ R.2.2.2 + e
  | 0 => fun p R => Nat.le_refl _
  | e + 1 => fun p R => by
    cases c : (rdE b m ids S T B p).1 with
    | some f => rw [gth_f c]; show R.2.2.2 ≤ _; omega
    | none =>
      rw [gth_n c]
      have h1 := gth_cnt (b := b) (m := m) (ids := ids) (S := S) (T := T) (B := B) e (p + ebn (tby B ids (p + 8))) (adm R (enK (tby B ids) p) (tby B ids (p + 8)) (enV (tby B ids) p))
      have h2 := (adm_cnt R (enK (tby B ids) p) (enV (tby B ids) p) (tby B ids (p + 8))).2
      show (gth b m ids S T B e (p + ebn (tby B ids (p + 8))) (adm R (enK (tby B ids) p) (tby B ids (p + 8)) (enV (tby B ids) p))).2.1.2.2.2 ≤ _
      omega
/-- whether a table is of level l or of the next -/
theorem isOf_i {tb : Nat → TBr} {c t l : Nat} (h : lvS tb c) (ht : t < c) : ((tb t).lv = l ∨ (tb t).lv = l + 1) ↔ (cUp tb l c ≤ t ∧ t < cUp tb (l + 2) c) := by
  have h1 := cUp_c (b := l) h t ht
  have h2 := cUp_c (b := l + 2) h t ht
  constructor
  · intro g
    exact ⟨Nat.not_lt.mp (fun z => by have := h1.mpr z; omega), h2.mp (by omega)⟩
  · intro g
    have g1 : ¬ (tb t).lv < l := fun z => by have := h1.mp z; omega
    have g2 := h2.mpr g.2
    omega
def anB (tb : Nat → TBr) (l : Nat) : Nat → Bool
  | 0 => false
  | t + 1 => anB tb l t || decide (l < (tb t).lv)
theorem anB_is {tb : Nat → TBr} {l : Nat} : ∀ c, (anB tb l c = false ↔ cUp tb (l + 1) c = c)
  | 0 => ⟨fun _ => rfl, fun _ => rfl⟩
  | c + 1 => by
    have ih := anB_is (tb := tb) (l := l) c
    have hl := cUp_le tb (l + 1) c
    rw [anB, cUp, Bool.or_eq_false_iff, ih]
    by_cases e : (tb c).lv < l + 1
    · rw [if_pos e]
      exact ⟨fun z => by omega, fun z => ⟨by omega, decide_eq_false (by omega)⟩⟩
    · rw [if_neg e]
      refine ⟨fun z => ?_, fun z => by omega⟩
      have := of_decide_eq_false z.2
      omega
theorem anB_e {tb : Nat → TBr} {l c : Nat} : anB tb l c = !decide (cUp tb (l + 1) c = c) := by
  cases h : anB tb l c with
  | false => rw [decide_eq_true ((anB_is c).mp h)]; rfl
  | true => rw [decide_eq_false (fun z => by rw [(anB_is c).mpr z] at h; cases h)]; rfl
/-- t, kept between a and e -/
def mid (a e t : Nat) : Nat := max a (min t e)
theorem mid_lo {a e t : Nat} (h : t ≤ a) (hae : a ≤ e) : mid a e t = a := by unfold mid; omega
theorem mid_in {a e t : Nat} (h1 : a ≤ t) (h2 : t ≤ e) : mid a e t = t := by unfold mid; omega
theorem mid_hi {a e t : Nat} (h : e ≤ t) (hae : a ≤ e) : mid a e t = e := by unfold mid; omega
theorem mid_out {a e t : Nat} (hae : a ≤ e) (h : ¬ (a ≤ t ∧ t < e)) : mid a e (t + 1) = mid a e t := by unfold mid; omega
theorem sEt_cut {tb : Nat → TBr} : ∀ {e t}, 0 < e → sEt tb e t = (tb t).en + sEt tb (e - 1) (t + 1)
  | 0, t => fun h => absurd h (Nat.not_lt_zero _)
  | e + 1, t => fun _ => rfl
theorem nx_s {K : Nat → Int64} {z : Nat → Nat} {k : Int64} {j : Nat} (h : ∀ i, i < j → ¬ (k < K i ∧ z i ≠ 255)) (h2 : ¬ (k < K j ∧ z j ≠ 255)) : ∀ i, i < j + 1 → ¬ (k < K i ∧ z i ≠ 255) := fun i hi => by
  by_cases e : i = j
  · rw [e]; exact h2
  · exact h i (by omega)
theorem rg_s {ok : Nat → Bool} {k : Nat} (h : ∀ j, j < k → ok j = true) (h2 : ok k = true) : ∀ j, j < k + 1 → ok j = true := fun j hj => by
  by_cases e : j = k
  · rw [e]; exact h2
  · exact h j (by omega)
theorem sumS_congr {s : Int32} {f g : Nat → Nat} : ∀ t, (∀ q, q < t → f q = g q) → sumS s f t = sumS s g t
  | 0 => fun _ => rfl
  | t + 1 => fun h => by rw [sumS, sumS, sumS_congr t (fun q hq => h q (by omega)), h t (by omega)]
theorem fill_F {T : Nat → Int32} {D f : Nat → Nat} {M need : Nat} (hM : M ≤ 128) (hn : need ≤ fcn T M) : ∀ k, k < need → (fun j => sumS (tkT T need M j) (fun q => wrt D (tkI T need M) f (need * 32) (j * 32 + q)) 32) (tkI T need M k) = sumS (nI k) (fun q => wrt D (tkI T need M) f (32 * (k + 1)) (tkI T need M k * 32 + q)) 32 := by
  intro k hk
  show sumS (tkT T need M (tkI T need M k)) (fun q => wrt D (tkI T need M) f (need * 32) (tkI T need M k * 32 + q)) 32 = _
  rw [(tk_is T need M k (by omega) hk).2]
  refine sumS_congr 32 (fun q hq => ?_)
  show wrt D (tkI T need M) f (need * 32) (tkI T need M k * 32 + q) = wrt D (tkI T need M) f (32 * (k + 1)) (tkI T need M k * 32 + q)
  rw [Nat.mul_comm 32 (k + 1)]
  exact wrt_keep (fun a b ha hb e => tkI_inj hM (by omega) ha (by omega) hb e) hk hq _ (by omega) (Nat.le_refl _)
theorem xtk_congr {X : Nat → Int32} {i1 i2 : Nat → Nat} {v : Int32} : ∀ n, (∀ k, k < n → i1 k = i2 k) → xtk X i1 v n = xtk X i2 v n
  | 0 => fun _ => rfl
  | n + 1 => fun h => by rw [xtk, xtk, xtk_congr n (fun k hk => h k (by omega)), h n (by omega)]
theorem iinc_m1 (v : Nat) : nI v + Int32.ofInt (-1) = nI v - nI 1 := by
  rw [Int32.sub_eq_add_neg]
  rfl
theorem sub1_lt {t : Nat} (ht : t < 2 ^ 31) : (nI t - nI 1 < 0) ↔ t = 0 := by
  cases t with
  | zero => exact ⟨fun _ => rfl, fun _ => by decide⟩
  | succ t =>
    rw [pk_sub (by omega)]
    exact ⟨fun z => (cv_l0 (by omega) z).elim, fun z => by omega⟩
theorem mrk_nb {K V : Nat → Int64} {z : Nat → Nat} {i : Nat} {b : Bool} (hb : b = true) (h : z i = 255) : mrk (K, z, V, i + 1) b = mrk (K, z, V, i) b := by subst hb; exact mrk_n h
/-- what is left when the tables from m on below e are taken out, and then the one at t -/
theorem mvd_rem {tb : Nat → TBr} {t e c : Nat} (hte : t < e) (hec : e ≤ c) : ∀ q, q < c - (e - (t + 1)) - 1 → mvd (mvd tb (t + 1) (e - (t + 1)) (c - e)) t 1 (c - (e - (t + 1)) - 1 - t) q = mvd tb t (e - t) (c - e) q := by
  intro q hq
  unfold mvd
  by_cases c1 : t ≤ q
  · rw [if_pos (by omega), if_pos (by omega), if_pos (by omega)]
    congr 1
    omega
  · rw [if_neg (by omega), if_neg (by omega), if_neg (by omega)]
theorem nd_sw4 {h a b c d e : Nat} (hn : [h, a, b, c, d, e].Nodup) : [h, a, b, c, e, d].Nodup := by
  simp only [List.nodup_cons, List.mem_cons, List.not_mem_nil, not_or, not_false_eq_true, List.nodup_nil] at hn ⊢
  refine ⟨?_, ?_, ?_, ?_, ?_, ?_, ?_⟩ <;> simp_all [eq_comm]
theorem nd_pick (l is : List Nat) (n : Nat) (h : l.Nodup) (h1 : is.Nodup) (hl : l.length = n) (h2 : ∀ i ∈ is, i < n) : (is.map (fun i => l.getD i 0)).Nodup := by
  subst hl
  unfold List.Nodup at h h1 ⊢
  rw [List.pairwise_map]
  rw [List.pairwise_iff_getElem] at h
  refine List.Pairwise.imp_of_mem ?_ h1
  intro a b ha hb hab
  have la := h2 a ha
  have lb := h2 b hb
  have ea : l.getD a 0 = l[a] := by rw [List.getD_eq_getElem?_getD, List.getElem?_eq_getElem la]; rfl
  have eb : l.getD b 0 = l[b] := by rw [List.getD_eq_getElem?_getD, List.getElem?_eq_getElem lb]; rfl
  rw [ea, eb]
  rcases Nat.lt_or_gt_of_ne hab with g | g
  · exact h a b la lb g
  · exact (h b a lb la g).symm
theorem mvd_id {α : Type} {f : Nat → α} {a e t n : Nat} : mvd f (mid a e (t + 1)) (e - mid a e (t + 1)) n t = f t := by
  unfold mvd
  by_cases c : t + 1 ≤ e
  · rw [if_neg (by unfold mid; omega)]
  · rw [show e - mid a e (t + 1) = 0 by unfold mid; omega, Nat.add_zero]
    split <;> rfl
theorem mvd_lo {α : Type} {f : Nat → α} {a d n t : Nat} (h : t < a) : mvd f a d n t = f t := by
  unfold mvd
  rw [if_neg (by omega)]
theorem mvd_at {α : Type} {f : Nat → α} {a d n : Nat} (h : 0 < n) : mvd f a d n a = f (a + d) := by
  unfold mvd
  rw [if_pos (by omega)]
theorem mvd_z {α : Type} {f : Nat → α} {a n : Nat} : mvd f a 0 n = f := by
  funext q
  unfold mvd
  split <;> rfl
/-- one table more taken out, from above -/
theorem join_rem {lv en mn : Nat → Nat} {fl : Nat → Int64} {bk : Nat → Nat} {X T : Nat → Int32} {tb : Nat → TBr} {M a e c t : Nat} (hK : ∀ t, t < c → (tb t).mn ≤ 128) (h1 : a ≤ t) (h2 : t < e) (hec : e ≤ c) (hA : tbA lv en mn fl bk (mvd tb (t + 1) (e - (t + 1)) (c - e)) (c - (e - (t + 1)))) (hX : rX X (frs tb T (t + 1) (e - (t + 1))) M) : tbA (mvd lv t 1 (c - (e - (t + 1)) - 1 - t)) (mvd en t 1 (c - (e - (t + 1)) - 1 - t)) (mvd mn t 1 (c - (e - (t + 1)) - 1 - t)) (mvd fl t 1 (c - (e - (t + 1)) - 1 - t)) (mvB bk t (c - (e - (t + 1)) - 1 - t)) (mvd tb (mid a e t) (e - mid a e t) (c - e)) (c - (e - mid a e t)) ∧ rX (xtk X (fun q => bk (128 * t + q)) 0 (mn t)) (frs tb T (mid a e t) (e - mid a e t)) M := by
  have em : mid a e t = t := mid_in h1 (by omega)
  have e0 : mvd tb (t + 1) (e - (t + 1)) (c - e) t = tb t := mvd_lo (by omega)
  rw [em]
  constructor
  · have g := tbA_rem hA (fun u hu => by
      unfold mvd
      split
      · exact hK _ (by omega)
      · exact hK _ (by omega)) (show t < c - (e - (t + 1)) by omega)
    rw [show c - (e - t) = c - (e - (t + 1)) - 1 by omega]
    exact tbA_ext g (mvd_rem h2 hec)
  · obtain ⟨_, _, g3, _, g5⟩ := hA t (by omega)
    rw [e0] at g3 g5
    have g := rX_fr (t := t) hX
    rw [show e - (t + 1) + 1 = e - t by omega] at g
    rw [g3, xtk_congr (i2 := (tb t).id) (tb t).mn g5]
    exact g
