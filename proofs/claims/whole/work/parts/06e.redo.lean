set_option maxRecDepth 100000 in
set_option maxHeartbeats 4000000 in
theorem c_LG_doAgain {l : Launch} (hst : l.stackTraces = false) {h b u av es sz : Nat} {ke va : Int64} {B : Nat → Nat} {h2 a2 b2 d2 N n : Nat} {K V : Nat → Int64} {z : Nat → Nat} (hn : [h, b, h2, a2, b2, d2].Nodup) (hB : ∀ q, B q < 256) (hu : u ≤ 1024) (hN : N < 2 ^ 20) : fh_C l fhCl fhT y_LG_doAgain (.code y_LG_doAgain b_LG_doAgain 4 none) 4 86 [.ref h, .ref h2] (hp [(h, .inr (1, [.ref b, .int (nI u), .int (nI av), .int (nI es), .long ke, .int (nI sz), .long va])), (b, .inl (.byte, 1024, .inl (fun q => sb_b (B q)))), (h2, .inr (2, [.ref a2, .ref b2, .ref d2, .int (nI n)])), (a2, .inl (.long, N, .inr (.inl K))), (b2, .inl (.int, N, .inl (fun q => nI (z q)))), (d2, .inl (.long, N, .inr (.inl V)))]) (hp []) 0 0 (fun z9 g9 => ∃ (a1 e1 s1 : Nat) (k1 v1 : Int64), z9 = .inl none ∧ g9 = hp [(h, .inr (1, [.ref b, .int (nI ((redo B u N 1024 (K, z, V, 0) 0).2)), .int (nI a1), .int (nI e1), .long k1, .int (nI s1), .long v1])), (b, .inl (.byte, 1024, .inl (fun q => sb_b (B q)))), (h2, .inr (2, [.ref a2, .ref b2, .ref d2, .int (nI ((redo B u N 1024 (K, z, V, 0) 0).1.2.2.2))])), (a2, .inl (.long, N, .inr (.inl ((redo B u N 1024 (K, z, V, 0) 0).1.1)))), (b2, .inl (.int, N, .inl (fun q => nI (((redo B u N 1024 (K, z, V, 0) 0).1.2.1) q)))), (d2, .inl (.long, N, .inr (.inl ((redo B u N 1024 (K, z, V, 0) 0).1.2.2.1))))]) := by
  refine fh_enter (by decide) hst (Nat.le_of_ble_eq_true rfl) ?_
  intro D mp me sm mm margs mbel mmet mcod X hr hnm hno hf0
  show fh_G mp l me (fh_rm 4 86 0 0) sm mm margs mbel mmet mcod D fhCl (hp [(h, .inr (1, [.ref b, .int (nI u), .int (nI av), .int (nI es), .long ke, .int (nI sz), .long va])), (b, .inl (.byte, 1024, .inl (fun q => sb_b (B q)))), (h2, .inr (2, [.ref a2, .ref b2, .ref d2, .int (nI n)])), (a2, .inl (.long, N, .inr (.inl K))), (b2, .inl (.int, N, .inl (fun q => nI (z q)))), (d2, .inl (.long, N, .inr (.inl V)))]) 4 _ 0 0 (hp [(h, .inr (1, [.ref b, .int (nI u), .int (nI av), .int (nI es), .long ke, .int (nI sz), .long va])), (b, .inl (.byte, 1024, .inl (fun q => sb_b (B q)))), (h2, .inr (2, [.ref a2, .ref b2, .ref d2, .int (nI n)])), (a2, .inl (.long, N, .inr (.inl K))), (b2, .inl (.int, N, .inl (fun q => nI (z q)))), (d2, .inl (.long, N, .inr (.inl V)))]) 0 [(0, .ref h), (1, .ref h2)] []
  have hn1 : [h, b].Nodup := (List.Nodup.sublist (by repeat first | exact List.nil_sublist _ | apply List.Sublist.cons₂ | apply List.Sublist.cons) hn)
  have hn2 : [h2, a2, b2, d2].Nodup := (List.Nodup.sublist (by repeat first | exact List.nil_sublist _ | apply List.Sublist.cons₂ | apply List.Sublist.cons) hn)
  refine g_aload_n X d_LG_doAgain_0 1 rfl ?_
  refine h_callV (As := []) (st := []) [2, 3, 4, 5] [(h, .inr (1, [.ref b, .int (nI u), .int (nI av), .int (nI es), .long ke, .int (nI sz), .long va])), (b, .inl (.byte, 1024, .inl (fun q => sb_b (B q)))), (h2, .inr (2, [.ref a2, .ref b2, .ref d2, .int (nI 0)])), (a2, .inl (.long, N, .inr (.inl K))), (b2, .inl (.int, N, .inl (fun q => nI (z q)))), (d2, .inl (.long, N, .inr (.inl V)))] X d_LG_doAgain_1 (c_RW_empty hst hn2 hN) (hl_w 2 rfl hn) rfl rfl k_ml_LG_31 k_cd_RW_empty k_in_RW k_im_RW_empty k_se_RW_empty ⟨by decide +kernel, by decide +kernel, (by decide +kernel : (parseMethodDescriptor y_RW_empty.desc).map (fun d => d.parameters.length) = some 0)⟩ ⟨Nat.le_of_ble_eq_true rfl, Nat.le_of_ble_eq_true rfl⟩ ⟨Nat.le_of_ble_eq_true rfl, Nat.le_of_ble_eq_true rfl⟩ (Nat.le_of_ble_eq_true rfl) hn rfl rfl rfl hp_no hp_no2 ?_
  refine g_aload_n X d_LG_doAgain_4 0 rfl ?_
  refine g_iconst (nI 0) X d_LG_doAgain_5 (by decide) ?_
  refine h_putf (k := 2) (ty := .int) 0 [(h, .inr (1, [.ref b, .int (nI u), .int (nI 0), .int (nI es), .long ke, .int (nI sz), .long va])), (b, .inl (.byte, 1024, .inl (fun q => sb_b (B q)))), (h2, .inr (2, [.ref a2, .ref b2, .ref d2, .int (nI 0)])), (a2, .inl (.long, N, .inr (.inl K))), (b2, .inl (.int, N, .inl (fun q => nI (z q)))), (d2, .inl (.long, N, .inr (.inl V)))] X d_LG_doAgain_6 hn rfl rfl i_LG t_LG t_LG_ok n_LG (by decide) k_fl_LG_36 (fun _ h => h) rfl (by decide +kernel) rfl rfl (Nat.le_of_ble_eq_true rfl) rfl ?_
  refine g_iconst (nI 0) X d_LG_doAgain_9 (by decide) ?_
  refine g_istore_n [(2, .int (nI 0)), (0, .ref h), (1, .ref h2)] X d_LG_doAgain_10 (by decide) rfl ?_
  refine g_iconst (nI 0) X d_LG_doAgain_11 (by decide) ?_
  refine g_istore_n [(3, .int (nI 0)), (2, .int (nI 0)), (0, .ref h), (1, .ref h2)] X d_LG_doAgain_12 (by decide) rfl ?_
  have L13 : ∀ (fu13 : Nat) (t : Nat) (p : Nat) (es1 : Nat) (sz1 : Nat) (ke1 : Int64) (va1 : Int64) (K1 : Nat → Int64) (z1 : Nat → Nat) (V1 : Nat → Int64) (n1 : Nat), (t ≤ 1024) → (redo B u N 1024 (K, z, V, 0) 0 = redo B u N (1024 - t) (K1, z1, V1, n1) p) → (srt K1 n1) → (n1 ≤ N) → (p ≤ u) → 1024 - t < fu13 → fh_G mp l me (fh_rm 4 86 0 0) sm mm margs mbel mmet mcod D fhCl (hp [(h, .inr (1, [.ref b, .int (nI u), .int (nI av), .int (nI es), .long ke, .int (nI sz), .long va])), (b, .inl (.byte, 1024, .inl (fun q => sb_b (B q)))), (h2, .inr (2, [.ref a2, .ref b2, .ref d2, .int (nI n)])), (a2, .inl (.long, N, .inr (.inl K))), (b2, .inl (.int, N, .inl (fun q => nI (z q)))), (d2, .inl (.long, N, .inr (.inl V)))]) 4 (fh_MQ mbel D fhCl (hp [(h, .inr (1, [.ref b, .int (nI u), .int (nI av), .int (nI es), .long ke, .int (nI sz), .long va])), (b, .inl (.byte, 1024, .inl (fun q => sb_b (B q)))), (h2, .inr (2, [.ref a2, .ref b2, .ref d2, .int (nI n)])), (a2, .inl (.long, N, .inr (.inl K))), (b2, .inl (.int, N, .inl (fun q => nI (z q)))), (d2, .inl (.long, N, .inr (.inl V)))]) (fun z9 g9 => ∃ (a1 e1 s1 : Nat) (k1 v1 : Int64), z9 = .inl none ∧ g9 = hp [(h, .inr (1, [.ref b, .int (nI ((redo B u N 1024 (K, z, V, 0) 0).2)), .int (nI a1), .int (nI e1), .long k1, .int (nI s1), .long v1])), (b, .inl (.byte, 1024, .inl (fun q => sb_b (B q)))), (h2, .inr (2, [.ref a2, .ref b2, .ref d2, .int (nI ((redo B u N 1024 (K, z, V, 0) 0).1.2.2.2))])), (a2, .inl (.long, N, .inr (.inl ((redo B u N 1024 (K, z, V, 0) 0).1.1)))), (b2, .inl (.int, N, .inl (fun q => nI (((redo B u N 1024 (K, z, V, 0) 0).1.2.1) q)))), (d2, .inl (.long, N, .inr (.inl ((redo B u N 1024 (K, z, V, 0) 0).1.2.2.1))))]) margs sm 0 0) 0 0 (hp [(h, .inr (1, [.ref b, .int (nI u), .int (nI p), .int (nI es1), .long ke1, .int (nI sz1), .long va1])), (b, .inl (.byte, 1024, .inl (fun q => sb_b (B q)))), (h2, .inr (2, [.ref a2, .ref b2, .ref d2, .int (nI n1)])), (a2, .inl (.long, N, .inr (.inl K1))), (b2, .inl (.int, N, .inl (fun q => nI (z1 q)))), (d2, .inl (.long, N, .inr (.inl V1)))]) 13 [(3, .int (nI t)), (2, .int (nI p)), (0, .ref h), (1, .ref h2)] [] := by
    intro fu13
    induction fu13 with
    | zero => intro t p es1 sz1 ke1 va1 K1 z1 V1 n1 q1 q2 q3 q4 q5 hm13; exact absurd hm13 (Nat.not_lt_zero _)
    | succ fu13 ih13 =>
      intro t p es1 sz1 ke1 va1 K1 z1 V1 n1 q1 q2 q3 q4 q5 hm13
      refine g_iload_n X d_LG_doAgain_13 0 rfl ?_
      refine g_sipush (nI 1024) X d_LG_doAgain_14 (by decide) ?_
      refine g_icmp_ge 60 X d_LG_doAgain_17 (by decide) (fun h17 => ?_) (fun h17 => ?_)
      · have h17 := cv_le (by omega) (by omega) h17
        refine g_aload_n X d_LG_doAgain_60 2 rfl ?_
        refine g_iload_n X d_LG_doAgain_61 1 rfl ?_
        refine h_putf (k := 1) (ty := .int) 0 [(h, .inr (1, [.ref b, .int (nI p), .int (nI p), .int (nI es1), .long ke1, .int (nI sz1), .long va1])), (b, .inl (.byte, 1024, .inl (fun q => sb_b (B q)))), (h2, .inr (2, [.ref a2, .ref b2, .ref d2, .int (nI n1)])), (a2, .inl (.long, N, .inr (.inl K1))), (b2, .inl (.int, N, .inl (fun q => nI (z1 q)))), (d2, .inl (.long, N, .inr (.inl V1)))] X d_LG_doAgain_62 hn rfl rfl i_LG t_LG t_LG_ok n_LG (by decide) k_fl_LG_15 (fun _ h => h) rfl (by decide +kernel) rfl rfl (Nat.le_of_ble_eq_true rfl) rfl ?_
        exact g_vret X hr d_LG_doAgain_65 (Nat.le_of_ble_eq_true rfl) (Nat.le_of_ble_eq_true rfl) (⟨_, _, _, _, _, rfl, by rw [q2, show 1024 - t = 0 by omega, redo]⟩)
      · have h17 := cv_nle (by omega) (by omega) h17
        refine g_aload_n X d_LG_doAgain_20 2 rfl ?_
        refine g_callVr (As := []) (st := []) X d_LG_doAgain_21 (c_LG_readSummed hst hn1 hB hu q5) (hl_w 0 rfl hn) rfl rfl k_ml_LG_39 k_cd_LG_readSummed k_in_LG k_im_LG_readSummed k_se_LG_readSummed ⟨by decide +kernel, by decide +kernel, (by decide +kernel : (parseMethodDescriptor "()Z").map (fun d => d.parameters.length) = some 0)⟩ ⟨Nat.le_of_ble_eq_true rfl, Nat.le_of_ble_eq_true rfl⟩ ⟨Nat.le_of_ble_eq_true rfl, Nat.le_of_ble_eq_true rfl⟩ (Nat.le_of_ble_eq_true rfl) (hp_sub hn [0, 1] rfl) hp_nor (fun E g9 h => by obtain ⟨_, _, _, _, _, _, h9⟩ := h; rcases h9 with h9 | h9 <;> first | cases h9.2.1 | cases h9.2) (fun v9 g9 hq => ?_)
        obtain ⟨a1, e1, s1, k1, v1, hg9, ho⟩ := hq
        subst hg9
        refine g_ov [0, 1] [(h, .inr (1, [.ref b, .int (nI u), .int (nI a1), .int (nI e1), .long k1, .int (nI s1), .long v1])), (b, .inl (.byte, 1024, .inl (fun q => sb_b (B q)))), (h2, .inr (2, [.ref a2, .ref b2, .ref d2, .int (nI n1)])), (a2, .inl (.long, N, .inr (.inl K1))), (b2, .inl (.int, N, .inl (fun q => nI (z1 q)))), (d2, .inl (.long, N, .inr (.inl V1)))] rfl rfl hn ?_
        rcases ho with ⟨ho, hv9, ea, ek, es9, ev⟩ | ⟨ho, hv9⟩
        · cases hv9
          have ho : okS B p u := ho
          have ek : k1 = enK B p := ek
          have ev : v1 = enV B p := ev
          have h71 : p + ebn (B (p + 8)) < u := ho.2.1
          subst ea ek es9 ev
          refine g_if_eq 60 X d_LG_doAgain_24 (by decide) (fun h24 => ?_) (fun h24 => ?_)
          · have h24 := cv_e0 (by omega) h24
            exact absurd h24 (by decide)
          · have h24 := cv_n0 (by omega) h24
            refine g_aload_n X d_LG_doAgain_27 3 rfl ?_
            refine g_aload_n X d_LG_doAgain_28 2 rfl ?_
            refine g_getf (k := 4) X d_LG_doAgain_29 (hl_w 0 rfl hn) rfl i_LG (by decide) k_fl_LG_43 (fun z h => u_same (X.words _ k_sf_LG_key) z h) rfl ?_
            refine g_aload_n X d_LG_doAgain_32 2 rfl ?_
            refine g_getf (k := 5) X d_LG_doAgain_33 (hl_w 0 rfl hn) rfl i_LG (by decide) k_fl_LG_47 (fun z h => u_same (X.words _ k_sf_LG_size) z h) rfl ?_
            refine g_aload_n X d_LG_doAgain_36 2 rfl ?_
            refine g_getf (k := 6) X d_LG_doAgain_37 (hl_w 0 rfl hn) rfl i_LG (by decide) k_fl_LG_50 (fun z h => u_same (X.words _ k_sf_LG_value) z h) rfl ?_
            rcases plc3 K1 n1 N (enK B p) with hf | ⟨hf, hroom⟩ | ⟨hf, hroom⟩
            · have h70 := stm_t (z := z1) (V := V1) (m := B (p + 8)) (v := enV B p) hf
              have h72 : redo B u N (1024 - t) (K1, z1, V1, n1) p = redo B u N (1024 - (t + 1)) (stm (K1, z1, V1, n1) (enK B p) (B (p + 8)) (enV B p)) (p + ebn (B (p + 8)) + 1) := by
                rw [show 1024 - t = (1024 - (t + 1)) + 1 by omega]
                exact redo_step ho (Or.inl hf)
              refine h_callV (As := [.long (enK B p), .int (nI (B (p + 8))), .long (enV B p)]) (st := []) [2, 3, 4, 5] [(h, .inr (1, [.ref b, .int (nI u), .int (nI (p + ebn (B (p + 8)) + 1)), .int (nI e1), .long (enK B p), .int (nI (B (p + 8))), .long (enV B p)])), (b, .inl (.byte, 1024, .inl (fun q => sb_b (B q)))), (h2, .inr (2, [.ref a2, .ref b2, .ref d2, .int (nI n1)])), (a2, .inl (.long, N, .inr (.inl K1))), (b2, .inl (.int, N, .inl (fun q => nI (((va_up z1 (plc K1 (enK B p) n1) (B (p + 8)))) q)))), (d2, .inl (.long, N, .inr (.inl (va_up V1 (plc K1 (enK B p) n1) (enV B p)))))] X d_LG_doAgain_40 (c_RW_set_in hst hn2 hN q3 q4 hf) (hl_w 2 rfl hn) rfl rfl k_ml_LG_53 k_cd_RW_set k_in_RW k_im_RW_set k_se_RW_set ⟨by decide +kernel, by decide +kernel, (by decide +kernel : (parseMethodDescriptor y_RW_set.desc).map (fun d => d.parameters.length) = some 3)⟩ ⟨Nat.le_of_ble_eq_true rfl, Nat.le_of_ble_eq_true rfl⟩ ⟨Nat.le_of_ble_eq_true rfl, Nat.le_of_ble_eq_true rfl⟩ (Nat.le_of_ble_eq_true rfl) hn rfl rfl rfl hp_no hp_no2 ?_
              refine g_if_ne 49 X d_LG_doAgain_43 (by decide) (fun h43 => ?_) (fun h43 => ?_)
              · have h43 := cv_n0 (by omega) h43
                refine g_aload_n X d_LG_doAgain_49 2 rfl ?_
                refine g_getf (k := 2) X d_LG_doAgain_50 (hl_w 0 rfl hn) rfl i_LG (by decide) k_fl_LG_36 (fun _ h => h) rfl ?_
                refine g_istore_n [(2, .int (nI (p + ebn (B (p + 8)) + 1))), (3, .int (nI t)), (0, .ref h), (1, .ref h2)] X d_LG_doAgain_53 (by decide) rfl ?_
                refine g_iinc (nI (t + 1)) 1 [(3, .int (nI (t + 1))), (2, .int (nI (p + ebn (B (p + 8)) + 1))), (0, .ref h), (1, .ref h2)] X d_LG_doAgain_54 rfl (nI_1 _) (by decide) rfl ?_
                refine g_goto 13 X d_LG_doAgain_57 (by decide) ?_
                exact ih13 (t + 1) _ _ _ _ _ _ _ _ _ (by omega) (by rw [q2, h72, h70]) q3 q4 (by omega) (by omega)
              · have h43 := cv_e0 (by omega) h43
                exact absurd h43 (by decide)
            · have h70 := stm_f (z := z1) (V := V1) (m := B (p + 8)) (v := enV B p) hf
              have h72 : redo B u N (1024 - t) (K1, z1, V1, n1) p = redo B u N (1024 - (t + 1)) (stm (K1, z1, V1, n1) (enK B p) (B (p + 8)) (enV B p)) (p + ebn (B (p + 8)) + 1) := by
                rw [show 1024 - t = (1024 - (t + 1)) + 1 by omega]
                exact redo_step ho (Or.inr hroom)
              refine h_callV (As := [.long (enK B p), .int (nI (B (p + 8))), .long (enV B p)]) (st := []) [2, 3, 4, 5] [(h, .inr (1, [.ref b, .int (nI u), .int (nI (p + ebn (B (p + 8)) + 1)), .int (nI e1), .long (enK B p), .int (nI (B (p + 8))), .long (enV B p)])), (b, .inl (.byte, 1024, .inl (fun q => sb_b (B q)))), (h2, .inr (2, [.ref a2, .ref b2, .ref d2, .int (nI (n1 + 1))])), (a2, .inl (.long, N, .inr (.inl (insF K1 n1 (plc K1 (enK B p) n1) (enK B p))))), (b2, .inl (.int, N, .inl (fun q => nI (((insF z1 n1 (plc K1 (enK B p) n1) (B (p + 8)))) q)))), (d2, .inl (.long, N, .inr (.inl (insF V1 n1 (plc K1 (enK B p) n1) (enV B p)))))] X d_LG_doAgain_40 (c_RW_set_new hst hn2 hN q3 q4 hf hroom) (hl_w 2 rfl hn) rfl rfl k_ml_LG_53 k_cd_RW_set k_in_RW k_im_RW_set k_se_RW_set ⟨by decide +kernel, by decide +kernel, (by decide +kernel : (parseMethodDescriptor y_RW_set.desc).map (fun d => d.parameters.length) = some 3)⟩ ⟨Nat.le_of_ble_eq_true rfl, Nat.le_of_ble_eq_true rfl⟩ ⟨Nat.le_of_ble_eq_true rfl, Nat.le_of_ble_eq_true rfl⟩ (Nat.le_of_ble_eq_true rfl) hn rfl rfl rfl hp_no hp_no2 ?_
              refine g_if_ne 49 X d_LG_doAgain_43 (by decide) (fun h43 => ?_) (fun h43 => ?_)
              · have h43 := cv_n0 (by omega) h43
                refine g_aload_n X d_LG_doAgain_49 2 rfl ?_
                refine g_getf (k := 2) X d_LG_doAgain_50 (hl_w 0 rfl hn) rfl i_LG (by decide) k_fl_LG_36 (fun _ h => h) rfl ?_
                refine g_istore_n [(2, .int (nI (p + ebn (B (p + 8)) + 1))), (3, .int (nI t)), (0, .ref h), (1, .ref h2)] X d_LG_doAgain_53 (by decide) rfl ?_
                refine g_iinc (nI (t + 1)) 1 [(3, .int (nI (t + 1))), (2, .int (nI (p + ebn (B (p + 8)) + 1))), (0, .ref h), (1, .ref h2)] X d_LG_doAgain_54 rfl (nI_1 _) (by decide) rfl ?_
                refine g_goto 13 X d_LG_doAgain_57 (by decide) ?_
                exact ih13 (t + 1) _ _ _ _ _ _ _ _ _ (by omega) (by rw [q2, h72, h70]) (srt_ins q3 hf) (by omega) (by omega) (by omega)
              · have h43 := cv_e0 (by omega) h43
                exact absurd h43 (by decide)
            · have h73 := hroom
              refine h_callV (As := [.long (enK B p), .int (nI (B (p + 8))), .long (enV B p)]) (st := []) [2, 3, 4, 5] [(h, .inr (1, [.ref b, .int (nI u), .int (nI (p + ebn (B (p + 8)) + 1)), .int (nI e1), .long (enK B p), .int (nI (B (p + 8))), .long (enV B p)])), (b, .inl (.byte, 1024, .inl (fun q => sb_b (B q)))), (h2, .inr (2, [.ref a2, .ref b2, .ref d2, .int (nI n1)])), (a2, .inl (.long, N, .inr (.inl K1))), (b2, .inl (.int, N, .inl (fun q => nI (z1 q)))), (d2, .inl (.long, N, .inr (.inl V1)))] X d_LG_doAgain_40 (c_RW_set_full hst hn2 hN q3 q4 hf (by omega)) (hl_w 2 rfl hn) rfl rfl k_ml_LG_53 k_cd_RW_set k_in_RW k_im_RW_set k_se_RW_set ⟨by decide +kernel, by decide +kernel, (by decide +kernel : (parseMethodDescriptor y_RW_set.desc).map (fun d => d.parameters.length) = some 3)⟩ ⟨Nat.le_of_ble_eq_true rfl, Nat.le_of_ble_eq_true rfl⟩ ⟨Nat.le_of_ble_eq_true rfl, Nat.le_of_ble_eq_true rfl⟩ (Nat.le_of_ble_eq_true rfl) hn rfl rfl rfl hp_no hp_no2 ?_
              refine g_if_ne 49 X d_LG_doAgain_43 (by decide) (fun h43 => ?_) (fun h43 => ?_)
              · have h43 := cv_n0 (by omega) h43
                exact absurd h43 (by decide)
              · have h43 := cv_e0 (by omega) h43
                refine g_goto 60 X d_LG_doAgain_46 (by decide) ?_
                refine g_aload_n X d_LG_doAgain_60 2 rfl ?_
                refine g_iload_n X d_LG_doAgain_61 1 rfl ?_
                refine h_putf (k := 1) (ty := .int) 0 [(h, .inr (1, [.ref b, .int (nI p), .int (nI (p + ebn (B (p + 8)) + 1)), .int (nI e1), .long (enK B p), .int (nI (B (p + 8))), .long (enV B p)])), (b, .inl (.byte, 1024, .inl (fun q => sb_b (B q)))), (h2, .inr (2, [.ref a2, .ref b2, .ref d2, .int (nI n1)])), (a2, .inl (.long, N, .inr (.inl K1))), (b2, .inl (.int, N, .inl (fun q => nI (z1 q)))), (d2, .inl (.long, N, .inr (.inl V1)))] X d_LG_doAgain_62 hn rfl rfl i_LG t_LG t_LG_ok n_LG (by decide) k_fl_LG_15 (fun _ h => h) rfl (by decide +kernel) rfl rfl (Nat.le_of_ble_eq_true rfl) rfl ?_
                exact g_vret X hr d_LG_doAgain_65 (Nat.le_of_ble_eq_true rfl) (Nat.le_of_ble_eq_true rfl) (⟨_, _, _, _, _, rfl, by rw [q2, redo_full hf (by omega)]⟩)
        · cases hv9
          refine g_if_eq 60 X d_LG_doAgain_24 (by decide) (fun h24 => ?_) (fun h24 => ?_)
          · have h24 := cv_e0 (by omega) h24
            refine g_aload_n X d_LG_doAgain_60 2 rfl ?_
            refine g_iload_n X d_LG_doAgain_61 1 rfl ?_
            refine h_putf (k := 1) (ty := .int) 0 [(h, .inr (1, [.ref b, .int (nI p), .int (nI a1), .int (nI e1), .long k1, .int (nI s1), .long v1])), (b, .inl (.byte, 1024, .inl (fun q => sb_b (B q)))), (h2, .inr (2, [.ref a2, .ref b2, .ref d2, .int (nI n1)])), (a2, .inl (.long, N, .inr (.inl K1))), (b2, .inl (.int, N, .inl (fun q => nI (z1 q)))), (d2, .inl (.long, N, .inr (.inl V1)))] X d_LG_doAgain_62 hn rfl rfl i_LG t_LG t_LG_ok n_LG (by decide) k_fl_LG_15 (fun _ h => h) rfl (by decide +kernel) rfl rfl (Nat.le_of_ble_eq_true rfl) rfl ?_
            exact g_vret X hr d_LG_doAgain_65 (Nat.le_of_ble_eq_true rfl) (Nat.le_of_ble_eq_true rfl) (⟨_, _, _, _, _, rfl, by rw [q2, redo_stop ho]⟩)
          · have h24 := cv_n0 (by omega) h24
            exact absurd h24 (by decide)
  exact L13 _ 0 0 _ _ _ _ K z V 0 (by omega) rfl (fun i j h1 h2 => absurd h2 (by omega)) (Nat.zero_le _) (Nat.zero_le _) (Nat.lt_succ_self _)
