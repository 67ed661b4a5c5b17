set_option maxRecDepth 100000 in
set_option maxHeartbeats 4000000 in
theorem c_RW_addMissingOf {l : Launch} (hst : l.stackTraces = false) {h a b d N n : Nat} {K V : Nat → Int64} {z : Nat → Nat} (hn : [h, a, b, d].Nodup) (hN : N < 2 ^ 20) {h2 a2 b2 d2 N2 n2 : Nat} {K2 V2 : Nat → Int64} {z2 : Nat → Nat} (hn2 : [h2, a2, b2, d2].Nodup) (hN2 : N2 < 2 ^ 20) (hs : srt K n) (hnN2 : n2 ≤ N2) (hroom : n + n2 ≤ N) : fh_C l fhCl fhT y_RW_addMissingOf (.code y_RW_addMissingOf b_RW_addMissingOf 3 none) 3 78 [.ref h, .ref h2] (hp [(h, .inr (2, [.ref a, .ref b, .ref d, .int (nI n)])), (a, .inl (.long, N, .inr (.inl K))), (b, .inl (.int, N, .inl (fun q => nI (z q)))), (d, .inl (.long, N, .inr (.inl V)))]) (hp [(h2, .inr (2, [.ref a2, .ref b2, .ref d2, .int (nI n2)])), (a2, .inl (.long, N2, .inr (.inl K2))), (b2, .inl (.int, N2, .inl (fun q => nI (z2 q)))), (d2, .inl (.long, N2, .inr (.inl V2)))]) 0 0 (fh_ret none [(h, .inr (2, [.ref a, .ref b, .ref d, .int (nI ((adms (K, z, V, n) (K2, z2, V2, n2) n2).2.2.2))])), (a, .inl (.long, N, .inr (.inl ((adms (K, z, V, n) (K2, z2, V2, n2) n2).1)))), (b, .inl (.int, N, .inl (fun q => nI (((adms (K, z, V, n) (K2, z2, V2, n2) n2).2.1) q)))), (d, .inl (.long, N, .inr (.inl ((adms (K, z, V, n) (K2, z2, V2, n2) n2).2.2.1))))]) := by
  refine fh_enter (by decide) hst (Nat.le_of_ble_eq_true rfl) ?_
  intro D mp me sm mm margs mbel mmet mcod X hr hnm hno hf0
  show fh_G mp l me (fh_rm 3 78 0 0) sm mm margs mbel mmet mcod D fhCl (hp [(h, .inr (2, [.ref a, .ref b, .ref d, .int (nI n)])), (a, .inl (.long, N, .inr (.inl K))), (b, .inl (.int, N, .inl (fun q => nI (z q)))), (d, .inl (.long, N, .inr (.inl V)))]) 3 _ 0 0 (hp [(h, .inr (2, [.ref a, .ref b, .ref d, .int (nI n)])), (a, .inl (.long, N, .inr (.inl K))), (b, .inl (.int, N, .inl (fun q => nI (z q)))), (d, .inl (.long, N, .inr (.inl V)))]) 0 [(0, .ref h), (1, .ref h2)] []
  refine g_iconst (nI 0) X d_RW_addMissingOf_0 (by decide) ?_
  refine g_istore_n [(2, .int (nI 0)), (0, .ref h), (1, .ref h2)] X d_RW_addMissingOf_1 (by decide) rfl ?_
  have L2 : ∀ (fu2 : Nat) (t : Nat) (K1 : Nat → Int64) (z1 : Nat → Nat) (V1 : Nat → Int64) (n1 : Nat), (t ≤ n2) → (adms (K, z, V, n) (K2, z2, V2, n2) t = (K1, z1, V1, n1)) → (srt K1 n1) → (n1 ≤ n + t) → n2 - t < fu2 → fh_G mp l me (fh_rm 3 78 0 0) sm mm margs mbel mmet mcod D fhCl (hp [(h, .inr (2, [.ref a, .ref b, .ref d, .int (nI n)])), (a, .inl (.long, N, .inr (.inl K))), (b, .inl (.int, N, .inl (fun q => nI (z q)))), (d, .inl (.long, N, .inr (.inl V)))]) 3 (fh_MQ mbel D fhCl (hp [(h, .inr (2, [.ref a, .ref b, .ref d, .int (nI n)])), (a, .inl (.long, N, .inr (.inl K))), (b, .inl (.int, N, .inl (fun q => nI (z q)))), (d, .inl (.long, N, .inr (.inl V)))]) (fh_ret none [(h, .inr (2, [.ref a, .ref b, .ref d, .int (nI ((adms (K, z, V, n) (K2, z2, V2, n2) n2).2.2.2))])), (a, .inl (.long, N, .inr (.inl ((adms (K, z, V, n) (K2, z2, V2, n2) n2).1)))), (b, .inl (.int, N, .inl (fun q => nI (((adms (K, z, V, n) (K2, z2, V2, n2) n2).2.1) q)))), (d, .inl (.long, N, .inr (.inl ((adms (K, z, V, n) (K2, z2, V2, n2) n2).2.2.1))))]) margs sm 0 0) 0 0 (hp [(h, .inr (2, [.ref a, .ref b, .ref d, .int (nI n1)])), (a, .inl (.long, N, .inr (.inl K1))), (b, .inl (.int, N, .inl (fun q => nI (z1 q)))), (d, .inl (.long, N, .inr (.inl V1)))]) 2 [(2, .int (nI t)), (0, .ref h), (1, .ref h2)] [] := by
    intro fu2
    induction fu2 with
    | zero => intro t K1 z1 V1 n1 q1 q2 q3 q4 hm2; exact absurd hm2 (Nat.not_lt_zero _)
    | succ fu2 ih2 =>
      intro t K1 z1 V1 n1 q1 q2 q3 q4 hm2
      refine g_iload_n X d_RW_addMissingOf_2 0 rfl ?_
      refine g_aload_n X d_RW_addMissingOf_3 2 rfl ?_
      refine g_getf (k := 3) X d_RW_addMissingOf_4 (hl_r 0 rfl hn2) rfl i_RW (by decide) k_fl_RW_22 (fun _ h => h) rfl ?_
      refine g_icmp_ge 38 X d_RW_addMissingOf_7 (by decide) (fun h7 => ?_) (fun h7 => ?_)
      · have h7 := cv_le (by omega) (by omega) h7
        have e9 : t = n2 := by omega
        subst e9
        exact g_vret X hr d_RW_addMissingOf_38 (Nat.le_of_ble_eq_true rfl) (Nat.le_of_ble_eq_true rfl) (⟨rfl, by rw [q2]⟩)
      · have h7 := cv_nle (by omega) (by omega) h7
        refine g_aload_n X d_RW_addMissingOf_10 1 rfl ?_
        refine g_aload_n X d_RW_addMissingOf_11 2 rfl ?_
        refine g_getf (k := 0) X d_RW_addMissingOf_12 (hl_r 0 rfl hn2) rfl i_RW (by decide) k_fl_RW_9 (fun _ h => h) rfl ?_
        refine g_iload_n X d_RW_addMissingOf_15 0 rfl ?_
        refine h_lald X d_RW_addMissingOf_16 (hl_r 1 rfl hn2) (by omega) (by omega) ?_
        refine g_aload_n X d_RW_addMissingOf_17 2 rfl ?_
        refine g_getf (k := 1) X d_RW_addMissingOf_18 (hl_r 0 rfl hn2) rfl i_RW (by decide) k_fl_RW_15 (fun _ h => h) rfl ?_
        refine g_iload_n X d_RW_addMissingOf_21 0 rfl ?_
        refine h_iald X d_RW_addMissingOf_22 (hl_r 2 rfl hn2) (by omega) (by omega) ?_
        refine g_aload_n X d_RW_addMissingOf_23 2 rfl ?_
        refine g_getf (k := 2) X d_RW_addMissingOf_24 (hl_r 0 rfl hn2) rfl i_RW (by decide) k_fl_RW_19 (fun _ h => h) rfl ?_
        refine g_iload_n X d_RW_addMissingOf_27 0 rfl ?_
        refine h_lald X d_RW_addMissingOf_28 (hl_r 3 rfl hn2) (by omega) (by omega) ?_
        rcases Decidable.em (plc K1 (K2 t) n1 < n1 ∧ K1 (plc K1 (K2 t) n1) = (K2 t)) with hf | hf
        · have h70 := adm_t (z := z1) (V := V1) (m := z2 t) (v := V2 t) hf
          refine h_callV (As := [.long (K2 t), .int (nI (z2 t)), .long (V2 t)]) (st := []) [0, 1, 2, 3] [(h, .inr (2, [.ref a, .ref b, .ref d, .int (nI n1)])), (a, .inl (.long, N, .inr (.inl K1))), (b, .inl (.int, N, .inl (fun q => nI (z1 q)))), (d, .inl (.long, N, .inr (.inl V1)))] X d_RW_addMissingOf_29 (c_RW_addMissing_in hst hn hN q3 (by omega) hf) (hl_w 0 rfl hn) rfl rfl k_ml_RW_34 k_cd_RW_addMissing k_in_RW k_im_RW_addMissing k_se_RW_addMissing ⟨by decide +kernel, by decide +kernel, (by decide +kernel : (parseMethodDescriptor y_RW_addMissing.desc).map (fun d => d.parameters.length) = some 3)⟩ ⟨Nat.le_of_ble_eq_true rfl, Nat.le_of_ble_eq_true rfl⟩ ⟨Nat.le_of_ble_eq_true rfl, Nat.le_of_ble_eq_true rfl⟩ (Nat.le_of_ble_eq_true rfl) hn rfl rfl rfl hp_no hp_no2 ?_
          refine g_iinc (nI (t + 1)) 0 [(2, .int (nI (t + 1))), (0, .ref h), (1, .ref h2)] X d_RW_addMissingOf_32 rfl (nI_1 _) (by decide) rfl ?_
          refine g_goto 2 X d_RW_addMissingOf_35 (by decide) ?_
          exact ih2 (t + 1) K1 z1 V1 n1 (by omega) (by rw [adms, q2]; exact h70) q3 (by omega) (by omega)
        · have h70 := adm_f (z := z1) (V := V1) (m := z2 t) (v := V2 t) hf
          refine h_callV (As := [.long (K2 t), .int (nI (z2 t)), .long (V2 t)]) (st := []) [0, 1, 2, 3] [(h, .inr (2, [.ref a, .ref b, .ref d, .int (nI (n1 + 1))])), (a, .inl (.long, N, .inr (.inl (insF K1 n1 (plc K1 (K2 t) n1) (K2 t))))), (b, .inl (.int, N, .inl (fun q => nI (((insF z1 n1 (plc K1 (K2 t) n1) (z2 t))) q)))), (d, .inl (.long, N, .inr (.inl (insF V1 n1 (plc K1 (K2 t) n1) (V2 t)))))] X d_RW_addMissingOf_29 (c_RW_addMissing_new hst hn hN q3 (by omega) hf (by omega)) (hl_w 0 rfl hn) rfl rfl k_ml_RW_34 k_cd_RW_addMissing k_in_RW k_im_RW_addMissing k_se_RW_addMissing ⟨by decide +kernel, by decide +kernel, (by decide +kernel : (parseMethodDescriptor y_RW_addMissing.desc).map (fun d => d.parameters.length) = some 3)⟩ ⟨Nat.le_of_ble_eq_true rfl, Nat.le_of_ble_eq_true rfl⟩ ⟨Nat.le_of_ble_eq_true rfl, Nat.le_of_ble_eq_true rfl⟩ (Nat.le_of_ble_eq_true rfl) hn rfl rfl rfl hp_no hp_no2 ?_
          refine g_iinc (nI (t + 1)) 0 [(2, .int (nI (t + 1))), (0, .ref h), (1, .ref h2)] X d_RW_addMissingOf_32 rfl (nI_1 _) (by decide) rfl ?_
          refine g_goto 2 X d_RW_addMissingOf_35 (by decide) ?_
          exact ih2 (t + 1) _ _ _ _ (by omega) (by rw [adms, q2]; exact h70) (srt_ins q3 hf) (by omega) (by omega)
  exact L2 _ 0 K z V n (Nat.zero_le _) rfl hs (Nat.le_refl _) (Nat.lt_succ_self _)
