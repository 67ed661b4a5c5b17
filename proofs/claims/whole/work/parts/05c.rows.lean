set_option maxRecDepth 100000 in
set_option maxHeartbeats 4000000 in
theorem c_RW_empty {l : Launch} (hst : l.stackTraces = false) {h a b d N n : Nat} {K V : Nat → Int64} {z : Nat → Nat} (hn : [h, a, b, d].Nodup) (hN : N < 2 ^ 20) : fh_C l fhCl fhT y_RW_empty (.code y_RW_empty b_RW_empty 1 none) 0 0 [.ref h] (hp [(h, .inr (2, [.ref a, .ref b, .ref d, .int (nI n)])), (a, .inl (.long, N, .inr (.inl K))), (b, .inl (.int, N, .inl (fun q => nI (z q)))), (d, .inl (.long, N, .inr (.inl V)))]) (hp []) 0 0 (fh_ret none [(h, .inr (2, [.ref a, .ref b, .ref d, .int (nI 0)])), (a, .inl (.long, N, .inr (.inl K))), (b, .inl (.int, N, .inl (fun q => nI (z q)))), (d, .inl (.long, N, .inr (.inl V)))]) := by
  refine fh_enter (by decide) hst (Nat.le_of_ble_eq_true rfl) ?_
  intro D mp me sm mm margs mbel mmet mcod X hr hnm hno hf0
  show fh_G mp l me (fh_rm 0 0 0 0) sm mm margs mbel mmet mcod D fhCl (hp [(h, .inr (2, [.ref a, .ref b, .ref d, .int (nI n)])), (a, .inl (.long, N, .inr (.inl K))), (b, .inl (.int, N, .inl (fun q => nI (z q)))), (d, .inl (.long, N, .inr (.inl V)))]) 1 _ 0 0 (hp [(h, .inr (2, [.ref a, .ref b, .ref d, .int (nI n)])), (a, .inl (.long, N, .inr (.inl K))), (b, .inl (.int, N, .inl (fun q => nI (z q)))), (d, .inl (.long, N, .inr (.inl V)))]) 0 [(0, .ref h)] []
  refine g_aload_n X d_RW_empty_0 0 rfl ?_
  refine g_iconst (nI 0) X d_RW_empty_1 (by decide) ?_
  refine h_putf (k := 3) (ty := .int) 0 [(h, .inr (2, [.ref a, .ref b, .ref d, .int (nI 0)])), (a, .inl (.long, N, .inr (.inl K))), (b, .inl (.int, N, .inl (fun q => nI (z q)))), (d, .inl (.long, N, .inr (.inl V)))] X d_RW_empty_2 hn rfl rfl i_RW t_RW t_RW_ok n_RW (by decide) k_fl_RW_22 (fun _ h => h) rfl (by decide +kernel) rfl rfl (Nat.le_of_ble_eq_true rfl) rfl ?_
  exact g_vret X hr d_RW_empty_5 (Nat.le_of_ble_eq_true rfl) (Nat.le_of_ble_eq_true rfl) (fh_ret_i)

set_option maxRecDepth 100000 in
set_option maxHeartbeats 4000000 in
theorem c_RW_placeOf {l : Launch} (hst : l.stackTraces = false) {h a b d N n : Nat} {K V : Nat → Int64} {z : Nat → Nat} (hn : [h, a, b, d].Nodup) (hN : N < 2 ^ 20) (hs : srt K n) (hnN : n ≤ N) {k : Int64} : fh_C l fhCl fhT y_RW_placeOf (.code y_RW_placeOf b_RW_placeOf 7 (some .int)) 0 0 [.ref h, .long k] (hp [(h, .inr (2, [.ref a, .ref b, .ref d, .int (nI n)])), (a, .inl (.long, N, .inr (.inl K))), (b, .inl (.int, N, .inl (fun q => nI (z q)))), (d, .inl (.long, N, .inr (.inl V)))]) (hp []) 0 0 (fh_ret (some (.int (plr K n k))) [(h, .inr (2, [.ref a, .ref b, .ref d, .int (nI n)])), (a, .inl (.long, N, .inr (.inl K))), (b, .inl (.int, N, .inl (fun q => nI (z q)))), (d, .inl (.long, N, .inr (.inl V)))]) := by
  refine fh_enter (by decide) hst (Nat.le_of_ble_eq_true rfl) ?_
  intro D mp me sm mm margs mbel mmet mcod X hr hnm hno hf0
  show fh_G mp l me (fh_rm 0 0 0 0) sm mm margs mbel mmet mcod D fhCl (hp [(h, .inr (2, [.ref a, .ref b, .ref d, .int (nI n)])), (a, .inl (.long, N, .inr (.inl K))), (b, .inl (.int, N, .inl (fun q => nI (z q)))), (d, .inl (.long, N, .inr (.inl V)))]) 7 _ 0 0 (hp [(h, .inr (2, [.ref a, .ref b, .ref d, .int (nI n)])), (a, .inl (.long, N, .inr (.inl K))), (b, .inl (.int, N, .inl (fun q => nI (z q)))), (d, .inl (.long, N, .inr (.inl V)))]) 0 [(0, .ref h), (1, .long k)] []
  refine g_iconst (nI 0) X d_RW_placeOf_0 (by decide) ?_
  refine g_istore_n [(3, .int (nI 0)), (0, .ref h), (1, .long k)] X d_RW_placeOf_1 (by decide) rfl ?_
  refine g_aload_n X d_RW_placeOf_2 1 rfl ?_
  refine g_getf (k := 3) X d_RW_placeOf_3 (hl_w 0 rfl hn) rfl i_RW (by decide) k_fl_RW_22 (fun _ h => h) rfl ?_
  refine g_istore [(4, .int (nI n)), (3, .int (nI 0)), (0, .ref h), (1, .long k)] X d_RW_placeOf_6 (by decide) rfl ?_
  refine g_iconst (nI 0) X d_RW_placeOf_8 (by decide) ?_
  refine g_istore [(5, .int (nI 0)), (4, .int (nI n)), (3, .int (nI 0)), (0, .ref h), (1, .long k)] X d_RW_placeOf_9 (by decide) rfl ?_
  have L11 : ∀ (fu11 : Nat) (lo : Nat) (hi : Nat) (t : Nat), (lo ≤ hi) → (hi ≤ n) → (∀ j, j < lo → K j < k) → (∀ j, hi ≤ j → j < n → ¬ K j < k) → (hi - lo < 2 ^ (32 - t)) → (t ≤ 32) → 32 - t < fu11 → fh_G mp l me (fh_rm 0 0 0 0) sm mm margs mbel mmet mcod D fhCl (hp [(h, .inr (2, [.ref a, .ref b, .ref d, .int (nI n)])), (a, .inl (.long, N, .inr (.inl K))), (b, .inl (.int, N, .inl (fun q => nI (z q)))), (d, .inl (.long, N, .inr (.inl V)))]) 7 (fh_MQ mbel D fhCl (hp [(h, .inr (2, [.ref a, .ref b, .ref d, .int (nI n)])), (a, .inl (.long, N, .inr (.inl K))), (b, .inl (.int, N, .inl (fun q => nI (z q)))), (d, .inl (.long, N, .inr (.inl V)))]) (fh_ret (some (.int (plr K n k))) [(h, .inr (2, [.ref a, .ref b, .ref d, .int (nI n)])), (a, .inl (.long, N, .inr (.inl K))), (b, .inl (.int, N, .inl (fun q => nI (z q)))), (d, .inl (.long, N, .inr (.inl V)))]) margs sm 0 0) 0 0 (hp [(h, .inr (2, [.ref a, .ref b, .ref d, .int (nI n)])), (a, .inl (.long, N, .inr (.inl K))), (b, .inl (.int, N, .inl (fun q => nI (z q)))), (d, .inl (.long, N, .inr (.inl V)))]) 11 [(5, .int (nI t)), (4, .int (nI hi)), (3, .int (nI lo)), (0, .ref h), (1, .long k)] [] := by
    intro fu11
    induction fu11 with
    | zero => intro lo hi t q1 q2 q3 q4 h5 q6 hm11; exact absurd hm11 (Nat.not_lt_zero _)
    | succ fu11 ih11 =>
      intro lo hi t q1 q2 q3 q4 h5 q6 hm11
      refine g_iload X d_RW_placeOf_11 0 rfl ?_
      refine g_bipush (nI 32) X d_RW_placeOf_13 (by decide) ?_
      refine g_icmp_ge 62 X d_RW_placeOf_15 (by decide) (fun h15 => ?_) (fun h15 => ?_)
      · have h15 := cv_le (by omega) (by omega) h15
        have e9 : lo = hi := by
          have h6 : t = 32 := by omega
          rw [h6] at h5
          simp at h5
          omega
        subst e9
        have hp9 : plc K k n = lo := plc_is q2 q3 (q4 lo (Nat.le_refl _))
        refine g_iload_n X d_RW_placeOf_62 2 rfl ?_
        refine g_aload_n X d_RW_placeOf_63 3 rfl ?_
        refine g_getf (k := 3) X d_RW_placeOf_64 (hl_w 0 rfl hn) rfl i_RW (by decide) k_fl_RW_22 (fun _ h => h) rfl ?_
        refine g_icmp_ge 85 X d_RW_placeOf_67 (by decide) (fun h67 => ?_) (fun h67 => ?_)
        · have h67 := cv_le (by omega) (by omega) h67
          refine g_iconst (-1) X d_RW_placeOf_85 (by decide) ?_
          refine g_iload_n X d_RW_placeOf_86 2 rfl ?_
          refine g_isub X d_RW_placeOf_87 ?_
          exact g_iret X hr d_RW_placeOf_88 (Nat.le_of_ble_eq_true rfl) (Nat.le_of_ble_eq_true rfl) (⟨by rw [plr, hp9, if_neg (fun z9 => absurd z9.1 (by omega))], rfl⟩)
        · have h67 := cv_nle (by omega) (by omega) h67
          refine g_aload_n X d_RW_placeOf_70 3 rfl ?_
          refine g_getf (k := 0) X d_RW_placeOf_71 (hl_w 0 rfl hn) rfl i_RW (by decide) k_fl_RW_9 (fun _ h => h) rfl ?_
          refine g_iload_n X d_RW_placeOf_74 2 rfl ?_
          refine h_lald X d_RW_placeOf_75 (hl_w 1 rfl hn) (by omega) (by omega) ?_
          refine g_lload_n X d_RW_placeOf_76 4 rfl ?_
          refine g_lcmp X d_RW_placeOf_77 ?_
          refine g_if_ne 85 X d_RW_placeOf_78 (by decide) (fun h78 => ?_) (fun h78 => ?_)
          · have h78 := fun z => h78 ((lg_cmp_eq (K lo) k).mpr z)
            refine g_iconst (-1) X d_RW_placeOf_85 (by decide) ?_
            refine g_iload_n X d_RW_placeOf_86 2 rfl ?_
            refine g_isub X d_RW_placeOf_87 ?_
            exact g_iret X hr d_RW_placeOf_88 (Nat.le_of_ble_eq_true rfl) (Nat.le_of_ble_eq_true rfl) (⟨by rw [plr, hp9, if_neg (fun z9 => h78 z9.2)], rfl⟩)
          · have h78 := (lg_cmp_eq (K lo) k).mp h78
            refine g_iload_n X d_RW_placeOf_81 2 rfl ?_
            refine g_goto 88 X d_RW_placeOf_82 (by decide) ?_
            exact g_iret X hr d_RW_placeOf_88 (Nat.le_of_ble_eq_true rfl) (Nat.le_of_ble_eq_true rfl) (⟨by rw [plr, hp9, if_pos ⟨h67, h78⟩], rfl⟩)
      · have h15 := cv_nle (by omega) (by omega) h15
        refine g_iload_n X d_RW_placeOf_18 2 rfl ?_
        refine g_iload X d_RW_placeOf_19 1 rfl ?_
        refine g_icmp_ge 62 X d_RW_placeOf_21 (by decide) (fun h21 => ?_) (fun h21 => ?_)
        · have h21 := cv_le (by omega) (by omega) h21
          have e9 : lo = hi := by omega
          subst e9
          have hp9 : plc K k n = lo := plc_is q2 q3 (q4 lo (Nat.le_refl _))
          refine g_iload_n X d_RW_placeOf_62 2 rfl ?_
          refine g_aload_n X d_RW_placeOf_63 3 rfl ?_
          refine g_getf (k := 3) X d_RW_placeOf_64 (hl_w 0 rfl hn) rfl i_RW (by decide) k_fl_RW_22 (fun _ h => h) rfl ?_
          refine g_icmp_ge 85 X d_RW_placeOf_67 (by decide) (fun h67 => ?_) (fun h67 => ?_)
          · have h67 := cv_le (by omega) (by omega) h67
            refine g_iconst (-1) X d_RW_placeOf_85 (by decide) ?_
            refine g_iload_n X d_RW_placeOf_86 2 rfl ?_
            refine g_isub X d_RW_placeOf_87 ?_
            exact g_iret X hr d_RW_placeOf_88 (Nat.le_of_ble_eq_true rfl) (Nat.le_of_ble_eq_true rfl) (⟨by rw [plr, hp9, if_neg (fun z9 => absurd z9.1 (by omega))], rfl⟩)
          · have h67 := cv_nle (by omega) (by omega) h67
            refine g_aload_n X d_RW_placeOf_70 3 rfl ?_
            refine g_getf (k := 0) X d_RW_placeOf_71 (hl_w 0 rfl hn) rfl i_RW (by decide) k_fl_RW_9 (fun _ h => h) rfl ?_
            refine g_iload_n X d_RW_placeOf_74 2 rfl ?_
            refine h_lald X d_RW_placeOf_75 (hl_w 1 rfl hn) (by omega) (by omega) ?_
            refine g_lload_n X d_RW_placeOf_76 4 rfl ?_
            refine g_lcmp X d_RW_placeOf_77 ?_
            refine g_if_ne 85 X d_RW_placeOf_78 (by decide) (fun h78 => ?_) (fun h78 => ?_)
            · have h78 := fun z => h78 ((lg_cmp_eq (K lo) k).mpr z)
              refine g_iconst (-1) X d_RW_placeOf_85 (by decide) ?_
              refine g_iload_n X d_RW_placeOf_86 2 rfl ?_
              refine g_isub X d_RW_placeOf_87 ?_
              exact g_iret X hr d_RW_placeOf_88 (Nat.le_of_ble_eq_true rfl) (Nat.le_of_ble_eq_true rfl) (⟨by rw [plr, hp9, if_neg (fun z9 => h78 z9.2)], rfl⟩)
            · have h78 := (lg_cmp_eq (K lo) k).mp h78
              refine g_iload_n X d_RW_placeOf_81 2 rfl ?_
              refine g_goto 88 X d_RW_placeOf_82 (by decide) ?_
              exact g_iret X hr d_RW_placeOf_88 (Nat.le_of_ble_eq_true rfl) (Nat.le_of_ble_eq_true rfl) (⟨by rw [plr, hp9, if_pos ⟨h67, h78⟩], rfl⟩)
        · have h21 := cv_nle (by omega) (by omega) h21
          refine g_iload_n X d_RW_placeOf_24 2 rfl ?_
          refine g_iload X d_RW_placeOf_25 1 rfl ?_
          refine g_iadd X d_RW_placeOf_27 ?_
          refine g_vi (nI (lo + hi)) (nI_add _ _) ?_
          refine g_iconst (nI 1) X d_RW_placeOf_28 (by decide) ?_
          refine g_iushr X d_RW_placeOf_29 ?_
          refine g_vi (nI ((lo + hi) / 2)) (pk_ushrN (by omega) (nI 1) 1 (by decide)) ?_
          refine g_istore [(6, .int (nI ((lo + hi) / 2))), (5, .int (nI t)), (4, .int (nI hi)), (3, .int (nI lo)), (0, .ref h), (1, .long k)] X d_RW_placeOf_30 (by decide) rfl ?_
          refine g_aload_n X d_RW_placeOf_32 4 rfl ?_
          refine g_getf (k := 0) X d_RW_placeOf_33 (hl_w 0 rfl hn) rfl i_RW (by decide) k_fl_RW_9 (fun _ h => h) rfl ?_
          refine g_iload X d_RW_placeOf_36 0 rfl ?_
          refine h_lald X d_RW_placeOf_38 (hl_w 1 rfl hn) (by omega) (by omega) ?_
          refine g_lload_n X d_RW_placeOf_39 5 rfl ?_
          refine g_lcmp X d_RW_placeOf_40 ?_
          refine g_if_ge 52 X d_RW_placeOf_41 (by decide) (fun h41 => ?_) (fun h41 => ?_)
          · have h41 := (lg_cmp_ge (K ((lo + hi) / 2)) k).mp h41
            refine g_iload X d_RW_placeOf_52 0 rfl ?_
            refine g_istore [(4, .int (nI ((lo + hi) / 2))), (6, .int (nI ((lo + hi) / 2))), (5, .int (nI t)), (3, .int (nI lo)), (0, .ref h), (1, .long k)] X d_RW_placeOf_54 (by decide) rfl ?_
            refine g_iinc (nI (t + 1)) 2 [(5, .int (nI (t + 1))), (4, .int (nI ((lo + hi) / 2))), (6, .int (nI ((lo + hi) / 2))), (3, .int (nI lo)), (0, .ref h), (1, .long k)] X d_RW_placeOf_56 rfl (nI_1 _) (by decide) rfl ?_
            refine g_goto 11 X d_RW_placeOf_59 (by decide) ?_
            refine g_lv [0, 1, 3, 4, 5] [(5, .int (nI (t + 1))), (4, .int (nI ((lo + hi) / 2))), (3, .int (nI lo)), (0, .ref h), (1, .long k)] rfl ?_
            exact ih11 lo ((lo + hi) / 2) (t + 1) (by omega) (by omega) q3 (bs_hi hs h41) (bs_half (by omega) h5 (by omega)) (by omega) (by omega)
          · have h41 := fun z => h41 ((lg_cmp_ge (K ((lo + hi) / 2)) k).mpr z)
            refine g_iload X d_RW_placeOf_44 0 rfl ?_
            refine g_iconst (nI 1) X d_RW_placeOf_46 (by decide) ?_
            refine g_iadd X d_RW_placeOf_47 ?_
            refine g_vi (nI ((lo + hi) / 2 + 1)) (nI_add _ _) ?_
            refine g_istore_n [(3, .int (nI ((lo + hi) / 2 + 1))), (6, .int (nI ((lo + hi) / 2))), (5, .int (nI t)), (4, .int (nI hi)), (0, .ref h), (1, .long k)] X d_RW_placeOf_48 (by decide) rfl ?_
            refine g_goto 56 X d_RW_placeOf_49 (by decide) ?_
            refine g_iinc (nI (t + 1)) 2 [(5, .int (nI (t + 1))), (3, .int (nI ((lo + hi) / 2 + 1))), (6, .int (nI ((lo + hi) / 2))), (4, .int (nI hi)), (0, .ref h), (1, .long k)] X d_RW_placeOf_56 rfl (nI_1 _) (by decide) rfl ?_
            refine g_goto 11 X d_RW_placeOf_59 (by decide) ?_
            refine g_lv [0, 3, 1, 4, 5] [(5, .int (nI (t + 1))), (4, .int (nI hi)), (3, .int (nI ((lo + hi) / 2 + 1))), (0, .ref h), (1, .long k)] rfl ?_
            exact ih11 ((lo + hi) / 2 + 1) hi (t + 1) (by omega) (by omega) (bs_lo hs (by omega) h41) q4 (bs_half (by omega) h5 (by omega)) (by omega) (by omega)
  exact L11 _ 0 n 0 (Nat.zero_le _) (Nat.le_refl _) (fun j hj => absurd hj (Nat.not_lt_zero _)) (fun j h1 h2 => absurd h2 (by omega)) (by simp; omega) (by decide) (Nat.lt_succ_self _)

set_option maxRecDepth 100000 in
set_option maxHeartbeats 4000000 in
theorem c_RW_takes {l : Launch} (hst : l.stackTraces = false) {h a b d N n : Nat} {K V : Nat → Int64} {z : Nat → Nat} (hn : [h, a, b, d].Nodup) (hN : N < 2 ^ 20) (hs : srt K n) (hnN : n ≤ N) {k : Int64} : fh_C l fhCl fhT y_RW_takes (.code y_RW_takes b_RW_takes 3 (some .boolean)) 1 26 [.ref h, .long k] (hp [(h, .inr (2, [.ref a, .ref b, .ref d, .int (nI n)])), (a, .inl (.long, N, .inr (.inl K))), (b, .inl (.int, N, .inl (fun q => nI (z q)))), (d, .inl (.long, N, .inr (.inl V)))]) (hp []) 0 0 (fh_ret (some (.int (nI (b2n (decide (n < N) || isIn K n k))))) [(h, .inr (2, [.ref a, .ref b, .ref d, .int (nI n)])), (a, .inl (.long, N, .inr (.inl K))), (b, .inl (.int, N, .inl (fun q => nI (z q)))), (d, .inl (.long, N, .inr (.inl V)))]) := by
  refine fh_enter (by decide) hst (Nat.le_of_ble_eq_true rfl) ?_
  intro D mp me sm mm margs mbel mmet mcod X hr hnm hno hf0
  show fh_G mp l me (fh_rm 1 26 0 0) sm mm margs mbel mmet mcod D fhCl (hp [(h, .inr (2, [.ref a, .ref b, .ref d, .int (nI n)])), (a, .inl (.long, N, .inr (.inl K))), (b, .inl (.int, N, .inl (fun q => nI (z q)))), (d, .inl (.long, N, .inr (.inl V)))]) 3 _ 0 0 (hp [(h, .inr (2, [.ref a, .ref b, .ref d, .int (nI n)])), (a, .inl (.long, N, .inr (.inl K))), (b, .inl (.int, N, .inl (fun q => nI (z q)))), (d, .inl (.long, N, .inr (.inl V)))]) 0 [(0, .ref h), (1, .long k)] []
  have hl9 := plc_le K k n
  refine g_aload_n X d_RW_takes_0 0 rfl ?_
  refine g_getf (k := 3) X d_RW_takes_1 (hl_w 0 rfl hn) rfl i_RW (by decide) k_fl_RW_22 (fun _ h => h) rfl ?_
  refine g_aload_n X d_RW_takes_4 0 rfl ?_
  refine g_getf (k := 0) X d_RW_takes_5 (hl_w 0 rfl hn) rfl i_RW (by decide) k_fl_RW_9 (fun _ h => h) rfl ?_
  refine g_alen X d_RW_takes_8 (hl_w 1 rfl hn) ?_
  refine g_icmp_lt 20 X d_RW_takes_9 (by decide) (fun h9 => ?_) (fun h9 => ?_)
  · have h9 := cv_lt (by omega) (by omega) h9
    refine g_iconst (nI 1) X d_RW_takes_20 (by decide) ?_
    refine g_goto 25 X d_RW_takes_21 (by decide) ?_
    exact g_zret X hr rfl d_RW_takes_25 (Nat.le_of_ble_eq_true rfl) (Nat.le_of_ble_eq_true rfl) (⟨by rw [decide_eq_true h9]; rfl, rfl⟩)
  · have h9 := cv_nlt (by omega) (by omega) h9
    refine g_aload_n X d_RW_takes_12 0 rfl ?_
    refine g_lload_n X d_RW_takes_13 1 rfl ?_
    refine h_callV (As := [.long k]) (st := []) [0, 1, 2, 3] [(h, .inr (2, [.ref a, .ref b, .ref d, .int (nI n)])), (a, .inl (.long, N, .inr (.inl K))), (b, .inl (.int, N, .inl (fun q => nI (z q)))), (d, .inl (.long, N, .inr (.inl V)))] X d_RW_takes_14 (c_RW_placeOf hst hn hN hs hnN) (hl_w 0 rfl hn) rfl rfl k_ml_RW_26 k_cd_RW_placeOf k_in_RW k_im_RW_placeOf k_se_RW_placeOf ⟨by decide +kernel, by decide +kernel, (by decide +kernel : (parseMethodDescriptor y_RW_placeOf.desc).map (fun d => d.parameters.length) = some 1)⟩ ⟨Nat.le_of_ble_eq_true rfl, Nat.le_of_ble_eq_true rfl⟩ ⟨Nat.le_of_ble_eq_true rfl, Nat.le_of_ble_eq_true rfl⟩ (Nat.le_of_ble_eq_true rfl) hn rfl rfl rfl hp_no hp_no2 ?_
    rcases plr_cases K n k with ⟨hf, e9⟩ | ⟨hf, e9⟩
    · refine g_vi (nI (plc K k n)) e9 ?_
      refine g_if_lt 24 X d_RW_takes_17 (by decide) (fun h17 => ?_) (fun h17 => ?_)
      · exact (cv_l0 (by omega) h17).elim
      · refine g_iconst (nI 1) X d_RW_takes_20 (by decide) ?_
        refine g_goto 25 X d_RW_takes_21 (by decide) ?_
        exact g_zret X hr rfl d_RW_takes_25 (Nat.le_of_ble_eq_true rfl) (Nat.le_of_ble_eq_true rfl) (⟨by rw [isIn_t hf, Bool.or_true]; rfl, rfl⟩)
    · refine g_vi ((-1) - nI (plc K k n)) e9 ?_
      refine g_if_lt 24 X d_RW_takes_17 (by decide) (fun h17 => ?_) (fun h17 => ?_)
      · refine g_iconst (nI 0) X d_RW_takes_24 (by decide) ?_
        exact g_zret X hr rfl d_RW_takes_25 (Nat.le_of_ble_eq_true rfl) (Nat.le_of_ble_eq_true rfl) (⟨by rw [isIn_f hf, decide_eq_false (by omega)]; rfl, rfl⟩)
      · exact absurd (neg1_lt (by omega)) h17

set_option maxRecDepth 100000 in
set_option maxHeartbeats 4000000 in
theorem c_RW_write {l : Launch} (hst : l.stackTraces = false) {h a b d N n : Nat} {K V : Nat → Int64} {z : Nat → Nat} (hn : [h, a, b, d].Nodup) (hN : N < 2 ^ 20) {j m : Nat} {k v : Int64} (hj : j < N) : fh_C l fhCl fhT y_RW_write (.code y_RW_write b_RW_write 7 none) 0 0 [.ref h, .int (nI j), .long k, .int (nI m), .long v] (hp [(h, .inr (2, [.ref a, .ref b, .ref d, .int (nI n)])), (a, .inl (.long, N, .inr (.inl K))), (b, .inl (.int, N, .inl (fun q => nI (z q)))), (d, .inl (.long, N, .inr (.inl V)))]) (hp []) 0 0 (fh_ret none [(h, .inr (2, [.ref a, .ref b, .ref d, .int (nI n)])), (a, .inl (.long, N, .inr (.inl (va_up K j k)))), (b, .inl (.int, N, .inl (fun q => nI (((va_up z j m)) q)))), (d, .inl (.long, N, .inr (.inl (va_up V j v))))]) := by
  refine fh_enter (by decide) hst (Nat.le_of_ble_eq_true rfl) ?_
  intro D mp me sm mm margs mbel mmet mcod X hr hnm hno hf0
  show fh_G mp l me (fh_rm 0 0 0 0) sm mm margs mbel mmet mcod D fhCl (hp [(h, .inr (2, [.ref a, .ref b, .ref d, .int (nI n)])), (a, .inl (.long, N, .inr (.inl K))), (b, .inl (.int, N, .inl (fun q => nI (z q)))), (d, .inl (.long, N, .inr (.inl V)))]) 7 _ 0 0 (hp [(h, .inr (2, [.ref a, .ref b, .ref d, .int (nI n)])), (a, .inl (.long, N, .inr (.inl K))), (b, .inl (.int, N, .inl (fun q => nI (z q)))), (d, .inl (.long, N, .inr (.inl V)))]) 0 [(0, .ref h), (1, .int (nI j)), (2, .long k), (4, .int (nI m)), (5, .long v)] []
  refine g_aload_n X d_RW_write_0 0 rfl ?_
  refine g_getf (k := 0) X d_RW_write_1 (hl_w 0 rfl hn) rfl i_RW (by decide) k_fl_RW_9 (fun _ h => h) rfl ?_
  refine g_iload_n X d_RW_write_4 1 rfl ?_
  refine g_lload_n X d_RW_write_5 2 rfl ?_
  refine h_last 1 [(h, .inr (2, [.ref a, .ref b, .ref d, .int (nI n)])), (a, .inl (.long, N, .inr (.inl (va_up K j k)))), (b, .inl (.int, N, .inl (fun q => nI (z q)))), (d, .inl (.long, N, .inr (.inl V)))] X d_RW_write_6 hn rfl (by omega) (by omega) rfl ?_
  refine g_aload_n X d_RW_write_7 0 rfl ?_
  refine g_getf (k := 1) X d_RW_write_8 (hl_w 0 rfl hn) rfl i_RW (by decide) k_fl_RW_15 (fun _ h => h) rfl ?_
  refine g_iload_n X d_RW_write_11 1 rfl ?_
  refine g_iload X d_RW_write_12 3 rfl ?_
  refine h_iastN 2 [(h, .inr (2, [.ref a, .ref b, .ref d, .int (nI n)])), (a, .inl (.long, N, .inr (.inl (va_up K j k)))), (b, .inl (.int, N, .inl (fun q => nI ((va_up z j m) q)))), (d, .inl (.long, N, .inr (.inl V)))] X d_RW_write_14 hn rfl (by omega) (by omega) rfl ?_
  refine g_aload_n X d_RW_write_15 0 rfl ?_
  refine g_getf (k := 2) X d_RW_write_16 (hl_w 0 rfl hn) rfl i_RW (by decide) k_fl_RW_19 (fun _ h => h) rfl ?_
  refine g_iload_n X d_RW_write_19 1 rfl ?_
  refine g_lload X d_RW_write_20 4 rfl ?_
  refine h_last 3 [(h, .inr (2, [.ref a, .ref b, .ref d, .int (nI n)])), (a, .inl (.long, N, .inr (.inl (va_up K j k)))), (b, .inl (.int, N, .inl (fun q => nI ((va_up z j m) q)))), (d, .inl (.long, N, .inr (.inl (va_up V j v))))] X d_RW_write_22 hn rfl (by omega) (by omega) rfl ?_
  exact g_vret X hr d_RW_write_23 (Nat.le_of_ble_eq_true rfl) (Nat.le_of_ble_eq_true rfl) (fh_ret_i)

set_option maxRecDepth 100000 in
set_option maxHeartbeats 4000000 in
theorem c_RW_insert {l : Launch} (hst : l.stackTraces = false) {h a b d N n : Nat} {K V : Nat → Int64} {z : Nat → Nat} (hn : [h, a, b, d].Nodup) (hN : N < 2 ^ 20) {j m : Nat} {k v : Int64} (hj : j ≤ n) (hnN : n < N) : fh_C l fhCl fhT y_RW_insert (.code y_RW_insert b_RW_insert 7 (some .boolean)) 1 26 [.ref h, .int (nI j), .long k, .int (nI m), .long v] (hp [(h, .inr (2, [.ref a, .ref b, .ref d, .int (nI n)])), (a, .inl (.long, N, .inr (.inl K))), (b, .inl (.int, N, .inl (fun q => nI (z q)))), (d, .inl (.long, N, .inr (.inl V)))]) (hp []) 0 0 (fh_ret (some (.int (nI 1))) [(h, .inr (2, [.ref a, .ref b, .ref d, .int (nI (n + 1))])), (a, .inl (.long, N, .inr (.inl (insF K n j k)))), (b, .inl (.int, N, .inl (fun q => nI (((insF z n j m)) q)))), (d, .inl (.long, N, .inr (.inl (insF V n j v))))]) := by
  refine fh_enter (by decide) hst (Nat.le_of_ble_eq_true rfl) ?_
  intro D mp me sm mm margs mbel mmet mcod X hr hnm hno hf0
  show fh_G mp l me (fh_rm 1 26 0 0) sm mm margs mbel mmet mcod D fhCl (hp [(h, .inr (2, [.ref a, .ref b, .ref d, .int (nI n)])), (a, .inl (.long, N, .inr (.inl K))), (b, .inl (.int, N, .inl (fun q => nI (z q)))), (d, .inl (.long, N, .inr (.inl V)))]) 7 _ 0 0 (hp [(h, .inr (2, [.ref a, .ref b, .ref d, .int (nI n)])), (a, .inl (.long, N, .inr (.inl K))), (b, .inl (.int, N, .inl (fun q => nI (z q)))), (d, .inl (.long, N, .inr (.inl V)))]) 0 [(0, .ref h), (1, .int (nI j)), (2, .long k), (4, .int (nI m)), (5, .long v)] []
  refine g_aload_n X d_RW_insert_0 0 rfl ?_
  refine g_getf (k := 3) X d_RW_insert_1 (hl_w 0 rfl hn) rfl i_RW (by decide) k_fl_RW_22 (fun _ h => h) rfl ?_
  refine g_aload_n X d_RW_insert_4 0 rfl ?_
  refine g_getf (k := 0) X d_RW_insert_5 (hl_w 0 rfl hn) rfl i_RW (by decide) k_fl_RW_9 (fun _ h => h) rfl ?_
  refine g_alen X d_RW_insert_8 (hl_w 1 rfl hn) ?_
  refine g_icmp_ge 24 X d_RW_insert_9 (by decide) (fun h9 => ?_) (fun h9 => ?_)
  · have h9 := cv_le (by omega) (by omega) h9
    omega
  · have h9 := cv_nle (by omega) (by omega) h9
    refine g_iload_n X d_RW_insert_12 1 rfl ?_
    refine g_if_lt 24 X d_RW_insert_13 (by decide) (fun h13 => ?_) (fun h13 => ?_)
    · exact (cv_l0 (by omega) h13).elim
    · refine g_iload_n X d_RW_insert_16 1 rfl ?_
      refine g_aload_n X d_RW_insert_17 0 rfl ?_
      refine g_getf (k := 3) X d_RW_insert_18 (hl_w 0 rfl hn) rfl i_RW (by decide) k_fl_RW_22 (fun _ h => h) rfl ?_
      refine g_icmp_le 26 X d_RW_insert_21 (by decide) (fun h21 => ?_) (fun h21 => ?_)
      · have h21 := cv_le (by omega) (by omega) h21
        refine g_aload_n X d_RW_insert_26 0 rfl ?_
        refine g_getf (k := 0) X d_RW_insert_27 (hl_w 0 rfl hn) rfl i_RW (by decide) k_fl_RW_9 (fun _ h => h) rfl ?_
        refine g_iload_n X d_RW_insert_30 1 rfl ?_
        refine g_aload_n X d_RW_insert_31 0 rfl ?_
        refine g_getf (k := 0) X d_RW_insert_32 (hl_w 0 rfl hn) rfl i_RW (by decide) k_fl_RW_9 (fun _ h => h) rfl ?_
        refine g_iload_n X d_RW_insert_35 1 rfl ?_
        refine g_iconst (nI 1) X d_RW_insert_36 (by decide) ?_
        refine g_iadd X d_RW_insert_37 ?_
        refine g_vi (nI (j + 1)) (nI_add _ _) ?_
        refine g_aload_n X d_RW_insert_38 0 rfl ?_
        refine g_getf (k := 3) X d_RW_insert_39 (hl_w 0 rfl hn) rfl i_RW (by decide) k_fl_RW_22 (fun _ h => h) rfl ?_
        refine g_iload_n X d_RW_insert_42 1 rfl ?_
        refine g_isub X d_RW_insert_43 ?_
        refine g_vi (nI (n - j)) (pk_sub (by omega)) ?_
        refine h_copyl 1 [(h, .inr (2, [.ref a, .ref b, .ref d, .int (nI n)])), (a, .inl (.long, N, .inr (.inl (va_cpy K K j (j + 1) (n - j))))), (b, .inl (.int, N, .inl (fun q => nI (z q)))), (d, .inl (.long, N, .inr (.inl V)))] X d_RW_insert_44 k_ml_RW_38 k_nt_SY_arraycopy k_st_SY_arraycopy k_in_SY hn rfl rfl (fun _ => rfl) (by omega) (by omega) (by omega) (Nat.le_of_ble_eq_true rfl) (Nat.le_of_ble_eq_true rfl) rfl ?_
        refine g_aload_n X d_RW_insert_47 0 rfl ?_
        refine g_getf (k := 1) X d_RW_insert_48 (hl_w 0 rfl hn) rfl i_RW (by decide) k_fl_RW_15 (fun _ h => h) rfl ?_
        refine g_iload_n X d_RW_insert_51 1 rfl ?_
        refine g_aload_n X d_RW_insert_52 0 rfl ?_
        refine g_getf (k := 1) X d_RW_insert_53 (hl_w 0 rfl hn) rfl i_RW (by decide) k_fl_RW_15 (fun _ h => h) rfl ?_
        refine g_iload_n X d_RW_insert_56 1 rfl ?_
        refine g_iconst (nI 1) X d_RW_insert_57 (by decide) ?_
        refine g_iadd X d_RW_insert_58 ?_
        refine g_vi (nI (j + 1)) (nI_add _ _) ?_
        refine g_aload_n X d_RW_insert_59 0 rfl ?_
        refine g_getf (k := 3) X d_RW_insert_60 (hl_w 0 rfl hn) rfl i_RW (by decide) k_fl_RW_22 (fun _ h => h) rfl ?_
        refine g_iload_n X d_RW_insert_63 1 rfl ?_
        refine g_isub X d_RW_insert_64 ?_
        refine g_vi (nI (n - j)) (pk_sub (by omega)) ?_
        refine h_copyN 2 [(h, .inr (2, [.ref a, .ref b, .ref d, .int (nI n)])), (a, .inl (.long, N, .inr (.inl (va_cpy K K j (j + 1) (n - j))))), (b, .inl (.int, N, .inl (fun q => nI ((va_cpy z z j (j + 1) (n - j)) q)))), (d, .inl (.long, N, .inr (.inl V)))] X d_RW_insert_65 k_ml_RW_38 k_nt_SY_arraycopy k_st_SY_arraycopy k_in_SY hn rfl (by omega) (by omega) (by omega) (Nat.le_of_ble_eq_true rfl) (Nat.le_of_ble_eq_true rfl) rfl ?_
        refine g_aload_n X d_RW_insert_68 0 rfl ?_
        refine g_getf (k := 2) X d_RW_insert_69 (hl_w 0 rfl hn) rfl i_RW (by decide) k_fl_RW_19 (fun _ h => h) rfl ?_
        refine g_iload_n X d_RW_insert_72 1 rfl ?_
        refine g_aload_n X d_RW_insert_73 0 rfl ?_
        refine g_getf (k := 2) X d_RW_insert_74 (hl_w 0 rfl hn) rfl i_RW (by decide) k_fl_RW_19 (fun _ h => h) rfl ?_
        refine g_iload_n X d_RW_insert_77 1 rfl ?_
        refine g_iconst (nI 1) X d_RW_insert_78 (by decide) ?_
        refine g_iadd X d_RW_insert_79 ?_
        refine g_vi (nI (j + 1)) (nI_add _ _) ?_
        refine g_aload_n X d_RW_insert_80 0 rfl ?_
        refine g_getf (k := 3) X d_RW_insert_81 (hl_w 0 rfl hn) rfl i_RW (by decide) k_fl_RW_22 (fun _ h => h) rfl ?_
        refine g_iload_n X d_RW_insert_84 1 rfl ?_
        refine g_isub X d_RW_insert_85 ?_
        refine g_vi (nI (n - j)) (pk_sub (by omega)) ?_
        refine h_copyl 3 [(h, .inr (2, [.ref a, .ref b, .ref d, .int (nI n)])), (a, .inl (.long, N, .inr (.inl (va_cpy K K j (j + 1) (n - j))))), (b, .inl (.int, N, .inl (fun q => nI ((va_cpy z z j (j + 1) (n - j)) q)))), (d, .inl (.long, N, .inr (.inl (va_cpy V V j (j + 1) (n - j)))))] X d_RW_insert_86 k_ml_RW_38 k_nt_SY_arraycopy k_st_SY_arraycopy k_in_SY hn rfl rfl (fun _ => rfl) (by omega) (by omega) (by omega) (Nat.le_of_ble_eq_true rfl) (Nat.le_of_ble_eq_true rfl) rfl ?_
        refine g_aload_n X d_RW_insert_89 0 rfl ?_
        refine g_iload_n X d_RW_insert_90 1 rfl ?_
        refine g_lload_n X d_RW_insert_91 2 rfl ?_
        refine g_iload X d_RW_insert_92 3 rfl ?_
        refine g_lload X d_RW_insert_94 4 rfl ?_
        refine h_callV (As := [.int (nI j), .long k, .int (nI m), .long v]) (st := []) [0, 1, 2, 3] [(h, .inr (2, [.ref a, .ref b, .ref d, .int (nI n)])), (a, .inl (.long, N, .inr (.inl (va_up (va_cpy K K j (j + 1) (n - j)) j k)))), (b, .inl (.int, N, .inl (fun q => nI (((va_up (va_cpy z z j (j + 1) (n - j)) j m)) q)))), (d, .inl (.long, N, .inr (.inl (va_up (va_cpy V V j (j + 1) (n - j)) j v))))] X d_RW_insert_96 (c_RW_write hst hn hN (by omega)) (hl_w 0 rfl hn) rfl rfl k_ml_RW_44 k_cd_RW_write k_in_RW k_im_RW_write k_se_RW_write ⟨by decide +kernel, by decide +kernel, (by decide +kernel : (parseMethodDescriptor y_RW_write.desc).map (fun d => d.parameters.length) = some 4)⟩ ⟨Nat.le_of_ble_eq_true rfl, Nat.le_of_ble_eq_true rfl⟩ ⟨Nat.le_of_ble_eq_true rfl, Nat.le_of_ble_eq_true rfl⟩ (Nat.le_of_ble_eq_true rfl) hn rfl rfl rfl hp_no hp_no2 ?_
        refine g_aload_n X d_RW_insert_99 0 rfl ?_
        refine g_dup X d_RW_insert_100 rfl ?_
        refine g_getf (k := 3) X d_RW_insert_101 (hl_w 0 rfl hn) rfl i_RW (by decide) k_fl_RW_22 (fun _ h => h) rfl ?_
        refine g_iconst (nI 1) X d_RW_insert_104 (by decide) ?_
        refine g_iadd X d_RW_insert_105 ?_
        refine g_vi (nI (n + 1)) (nI_add _ _) ?_
        refine h_putf (k := 3) (ty := .int) 0 [(h, .inr (2, [.ref a, .ref b, .ref d, .int (nI (n + 1))])), (a, .inl (.long, N, .inr (.inl (va_up (va_cpy K K j (j + 1) (n - j)) j k)))), (b, .inl (.int, N, .inl (fun q => nI (((va_up (va_cpy z z j (j + 1) (n - j)) j m)) q)))), (d, .inl (.long, N, .inr (.inl (va_up (va_cpy V V j (j + 1) (n - j)) j v))))] X d_RW_insert_106 hn rfl rfl i_RW t_RW t_RW_ok n_RW (by decide) k_fl_RW_22 (fun _ h => h) rfl (by decide +kernel) rfl rfl (Nat.le_of_ble_eq_true rfl) rfl ?_
        refine g_iconst (nI 1) X d_RW_insert_109 (by decide) ?_
        exact g_zret X hr rfl d_RW_insert_110 (Nat.le_of_ble_eq_true rfl) (Nat.le_of_ble_eq_true rfl) (fh_ret_i)
      · have h21 := cv_nle (by omega) (by omega) h21
        omega

set_option maxRecDepth 100000 in
set_option maxHeartbeats 4000000 in
theorem c_RW_insert_no {l : Launch} (hst : l.stackTraces = false) {h a b d N n : Nat} {K V : Nat → Int64} {z : Nat → Nat} (hn : [h, a, b, d].Nodup) (hN : N < 2 ^ 20) {j m : Nat} {k v : Int64} (hnN : n = N) : fh_C l fhCl fhT y_RW_insert (.code y_RW_insert b_RW_insert 7 (some .boolean)) 1 26 [.ref h, .int (nI j), .long k, .int (nI m), .long v] (hp [(h, .inr (2, [.ref a, .ref b, .ref d, .int (nI n)])), (a, .inl (.long, N, .inr (.inl K))), (b, .inl (.int, N, .inl (fun q => nI (z q)))), (d, .inl (.long, N, .inr (.inl V)))]) (hp []) 0 0 (fh_ret (some (.int (nI 0))) [(h, .inr (2, [.ref a, .ref b, .ref d, .int (nI n)])), (a, .inl (.long, N, .inr (.inl K))), (b, .inl (.int, N, .inl (fun q => nI (z q)))), (d, .inl (.long, N, .inr (.inl V)))]) := by
  refine fh_enter (by decide) hst (Nat.le_of_ble_eq_true rfl) ?_
  intro D mp me sm mm margs mbel mmet mcod X hr hnm hno hf0
  show fh_G mp l me (fh_rm 1 26 0 0) sm mm margs mbel mmet mcod D fhCl (hp [(h, .inr (2, [.ref a, .ref b, .ref d, .int (nI n)])), (a, .inl (.long, N, .inr (.inl K))), (b, .inl (.int, N, .inl (fun q => nI (z q)))), (d, .inl (.long, N, .inr (.inl V)))]) 7 _ 0 0 (hp [(h, .inr (2, [.ref a, .ref b, .ref d, .int (nI n)])), (a, .inl (.long, N, .inr (.inl K))), (b, .inl (.int, N, .inl (fun q => nI (z q)))), (d, .inl (.long, N, .inr (.inl V)))]) 0 [(0, .ref h), (1, .int (nI j)), (2, .long k), (4, .int (nI m)), (5, .long v)] []
  refine g_aload_n X d_RW_insert_0 0 rfl ?_
  refine g_getf (k := 3) X d_RW_insert_1 (hl_w 0 rfl hn) rfl i_RW (by decide) k_fl_RW_22 (fun _ h => h) rfl ?_
  refine g_aload_n X d_RW_insert_4 0 rfl ?_
  refine g_getf (k := 0) X d_RW_insert_5 (hl_w 0 rfl hn) rfl i_RW (by decide) k_fl_RW_9 (fun _ h => h) rfl ?_
  refine g_alen X d_RW_insert_8 (hl_w 1 rfl hn) ?_
  refine g_icmp_ge 24 X d_RW_insert_9 (by decide) (fun h9 => ?_) (fun h9 => ?_)
  · have h9 := cv_le (by omega) (by omega) h9
    refine g_iconst (nI 0) X d_RW_insert_24 (by decide) ?_
    exact g_zret X hr rfl d_RW_insert_25 (Nat.le_of_ble_eq_true rfl) (Nat.le_of_ble_eq_true rfl) (fh_ret_i)
  · have h9 := cv_nle (by omega) (by omega) h9
    omega
