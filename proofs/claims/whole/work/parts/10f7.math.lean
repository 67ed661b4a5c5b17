theorem frs_congr {tb tb' : Nat → TBr} {T : Nat → Int32} {a : Nat} : ∀ n, (∀ u, a ≤ u → u < a + n → tb u = tb' u) → frs tb T a n = frs tb' T a n
  | 0 => fun _ => rfl
  | n + 1 => fun h => by rw [frs, frs, frs_congr n (fun u g1 g2 => h u g1 (by omega)), h (a + n) (by omega) (by omega)]
theorem tInv_join {M need a e c : Nat} {T : Nat → Int32} {tb : Nat → TBr} {x : TBr} (h : tInv M T tb c) (hM : M ≤ 128) (h1 : a ≤ e) (h2 : e ≤ c) (h0 : 1 ≤ need) (hn : need ≤ fcn T M) (hx : x.mn = need) (hi : x.id = tkI T need M) (he : x.en * 9 ≤ need * 32) (hl : x.lv ≤ 3) (hlo : ∀ t, t < e → (tb t).lv ≤ x.lv) (hhi : ∀ t, e ≤ t → t < c → x.lv ≤ (tb t).lv) : tInv M (frs tb (tkT T need M) a (e - a)) (insF (mvd tb a (e - a) (c - e)) (a + (c - e)) a x) (a + (c - e) + 1) := by
  have g1 := tInv_ins h hM h0 hn hx hi he hl h2 hlo hhi
  have g2 := tInv_rem g1 h1 (show e ≤ c + 1 by omega)
  rw [show a + (c + 1 - e) = a + (c - e) + 1 by omega] at g2
  rw [frs_congr (tb := tb) (tb' := insF tb c e x) (e - a) (fun u q1 q2 => (insF_lt (by omega)).symm)]
  refine tInv_ext g2 (fun t ht => ?_)
  rcases Nat.lt_trichotomy t a with g | g | g
  · rw [insF_lt g]
    unfold mvd
    rw [if_neg (by omega), if_neg (by omega), insF_lt (by omega)]
  · subst g
    rw [insF_at]
    unfold mvd
    rw [if_pos (by omega), show t + (e - t) = e by omega, insF_at]
  · rw [insF_gt g (by omega)]
    unfold mvd
    rw [if_pos (by omega), if_pos (by omega), insF_gt (by omega) (by omega)]
    congr 1
    omega
theorem rX_join {M need a n c : Nat} {X T : Nat → Int32} {tb : Nat → TBr} (hI : tInv M T tb c) (hc : a + n ≤ c) (hM : M ≤ 128) (hn : need ≤ fcn T M) (h : rX X (frs tb T a n) M) : rX (xtk X (tkI T need M) 1 need) (frs tb (tkT T need M) a n) M := by
  intro j hj
  have hF := fcn_le T M
  by_cases c1 : ∃ k, k < need ∧ tkI T need M k = j
  · obtain ⟨k, hk, e⟩ := c1
    have t1 := tk_is T need M k (by omega) hk
    right
    rw [← e]
    refine ⟨xtk_at need k hk, ?_⟩
    rw [frs_ne n (fun u k' g1 g2 g3 z => by
      have := tInv_tk hI (show u < c by omega) g3
      rw [z] at this
      exact this t1.1), t1.2]
    exact nI_m1 (by omega)
  · have c2 : ∀ k, k < need → tkI T need M k ≠ j := fun k hk z => c1 ⟨k, hk, z⟩
    rw [xtk_ne need c2]
    have e : frs tb (tkT T need M) a n j = frs tb T a n j := by
      by_cases d : ∃ u k, a ≤ u ∧ u < a + n ∧ k < (tb u).mn ∧ (tb u).id k = j
      · obtain ⟨u, k, g1, g2, g3, g4⟩ := d
        rw [← g4, frs_at n u k g1 g2 g3, frs_at n u k g1 g2 g3]
      · rw [frs_ne n (fun u k g1 g2 g3 z => d ⟨u, k, g1, g2, g3, z⟩), frs_ne n (fun u k g1 g2 g3 z => d ⟨u, k, g1, g2, g3, z⟩), tk_ot T need M j (fun k _ hk => c2 k hk)]
    rw [e]
    exact h j hj
theorem stm_ok {R : R4} {k v : Int64} {m : Nat} (h : rOk R) (hm : okn m) : rOk (stm R k m v) := by
  obtain ⟨K, z, V, n⟩ := R
  obtain ⟨h1, h2⟩ := h
  replace h1 : srt K n := h1
  replace h2 : ∀ i, i < n → okn (z i) := h2
  by_cases c : plc K k n < n ∧ K (plc K k n) = k
  · rw [stm_t c]
    refine ⟨h1, fun i (hi : i < n) => ?_⟩
    show okn (va_up z (plc K k n) m i)
    unfold va_up
    split
    · exact hm
    · exact h2 i hi
  · rw [stm_f c]
    have hl := plc_le K k n
    refine ⟨srt_ins h1 c, fun i (hi : i < n + 1) => ?_⟩
    show okn (insF z n (plc K k n) m i)
    rcases Nat.lt_trichotomy i (plc K k n) with g | g | g
    · rw [insF_lt g]; exact h2 i (by omega)
    · rw [g, insF_at]; exact hm
    · rw [insF_gt g (by omega)]; exact h2 (i - 1) (by omega)
theorem stm_cnt {R : R4} {k v : Int64} {m N : Nat} (h : R.2.2.2 ≤ N) (hk : isIn R.1 R.2.2.2 k = true ∨ R.2.2.2 < N) : (stm R k m v).2.2.2 ≤ N := by
  obtain ⟨K, z, V, n⟩ := R
  replace h : n ≤ N := h
  replace hk : isIn K n k = true ∨ n < N := hk
  by_cases c : plc K k n < n ∧ K (plc K k n) = k
  · rw [stm_t c]; exact h
  · rw [stm_f c]
    rw [isIn_f c] at hk
    show n + 1 ≤ N
    rcases hk with hk | hk
    · cases hk
    · omega
theorem okSb_p {B : Nat → Nat} {p u : Nat} (h : okSb B p u = true) : okS B p u := by
  by_cases c : okS B p u
  · exact c
  · rw [okS_f c] at h; cases h
theorem redo_ok {B : Nat → Nat} {u : Nat} : ∀ t (R : R4) (p : Nat), rOk R → R.2.2.2 ≤ 24 → p ≤ u → rOk (redo B u 24 t R p).1 ∧ (redo B u 24 t R p).1.2.2.2 ≤ 24 ∧ (redo B u 24 t R p).2 ≤ u
  | 0 => fun R p h1 h2 h3 => ⟨h1, h2, h3⟩
  | t + 1 => fun R p h1 h2 h3 => by
    rw [redo]
    split
    · rename_i h
      rw [Bool.and_eq_true, Bool.or_eq_true, decide_eq_true_eq] at h
      have hS := okSb_p h.1
      have hk : okn (B (p + 8)) := hS.1.2.1
      exact redo_ok t _ _ (stm_ok h1 hk) (stm_cnt h2 h.2) (by have := hS.2.1; omega)
    · exact ⟨h1, h2, h3⟩
