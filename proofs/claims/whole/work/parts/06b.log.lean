set_option maxRecDepth 100000 in
set_option maxHeartbeats 4000000 in
theorem c_LG_empty {l : Launch} (hst : l.stackTraces = false) {h b u av es sz : Nat} {ke va : Int64} {B : Nat → Nat} (hn : [h, b].Nodup) (hB : ∀ q, B q < 256) (hu : u ≤ 1024) : fh_C l fhCl fhT y_LG_empty (.code y_LG_empty b_LG_empty 1 none) 0 0 [.ref h] (hp [(h, .inr (1, [.ref b, .int (nI u), .int (nI av), .int (nI es), .long ke, .int (nI sz), .long va])), (b, .inl (.byte, 1024, .inl (fun q => sb_b (B q))))]) (hp []) 0 0 (fh_ret none [(h, .inr (1, [.ref b, .int (nI 0), .int (nI av), .int (nI es), .long ke, .int (nI sz), .long va])), (b, .inl (.byte, 1024, .inl (fun q => sb_b (B q))))]) := by
  refine fh_enter (by decide) hst (Nat.le_of_ble_eq_true rfl) ?_
  intro D mp me sm mm margs mbel mmet mcod X hr hnm hno hf0
  show fh_G mp l me (fh_rm 0 0 0 0) sm mm margs mbel mmet mcod D fhCl (hp [(h, .inr (1, [.ref b, .int (nI u), .int (nI av), .int (nI es), .long ke, .int (nI sz), .long va])), (b, .inl (.byte, 1024, .inl (fun q => sb_b (B q))))]) 1 _ 0 0 (hp [(h, .inr (1, [.ref b, .int (nI u), .int (nI av), .int (nI es), .long ke, .int (nI sz), .long va])), (b, .inl (.byte, 1024, .inl (fun q => sb_b (B q))))]) 0 [(0, .ref h)] []
  refine g_aload_n X d_LG_empty_0 0 rfl ?_
  refine g_iconst (nI 0) X d_LG_empty_1 (by decide) ?_
  refine h_putf (k := 1) (ty := .int) 0 [(h, .inr (1, [.ref b, .int (nI 0), .int (nI av), .int (nI es), .long ke, .int (nI sz), .long va])), (b, .inl (.byte, 1024, .inl (fun q => sb_b (B q))))] X d_LG_empty_2 hn rfl rfl i_LG t_LG t_LG_ok n_LG (by decide) k_fl_LG_15 (fun _ h => h) rfl (by decide +kernel) rfl rfl (Nat.le_of_ble_eq_true rfl) rfl ?_
  exact g_vret X hr d_LG_empty_5 (Nat.le_of_ble_eq_true rfl) (Nat.le_of_ble_eq_true rfl) (fh_ret_i)

set_option maxRecDepth 100000 in
set_option maxHeartbeats 4000000 in
theorem c_LG_read_in {l : Launch} (hst : l.stackTraces = false) {h b u av es sz : Nat} {ke va : Int64} {B : Nat → Nat} (hn : [h, b].Nodup) (hB : ∀ q, B q < 256) (hu : u ≤ 1024) {j : Nat} (hj : j < u) : fh_C l fhCl fhT y_LG_read (.code y_LG_read b_LG_read 2 (some .int)) 0 0 [.ref h, .int (nI j)] (hp [(h, .inr (1, [.ref b, .int (nI u), .int (nI av), .int (nI es), .long ke, .int (nI sz), .long va])), (b, .inl (.byte, 1024, .inl (fun q => sb_b (B q))))]) (hp []) 0 0 (fh_ret (some (.int (nI (B j)))) [(h, .inr (1, [.ref b, .int (nI u), .int (nI av), .int (nI es), .long ke, .int (nI sz), .long va])), (b, .inl (.byte, 1024, .inl (fun q => sb_b (B q))))]) := by
  refine fh_enter (by decide) hst (Nat.le_of_ble_eq_true rfl) ?_
  intro D mp me sm mm margs mbel mmet mcod X hr hnm hno hf0
  show fh_G mp l me (fh_rm 0 0 0 0) sm mm margs mbel mmet mcod D fhCl (hp [(h, .inr (1, [.ref b, .int (nI u), .int (nI av), .int (nI es), .long ke, .int (nI sz), .long va])), (b, .inl (.byte, 1024, .inl (fun q => sb_b (B q))))]) 2 _ 0 0 (hp [(h, .inr (1, [.ref b, .int (nI u), .int (nI av), .int (nI es), .long ke, .int (nI sz), .long va])), (b, .inl (.byte, 1024, .inl (fun q => sb_b (B q))))]) 0 [(0, .ref h), (1, .int (nI j))] []
  refine g_iload_n X d_LG_read_0 1 rfl ?_
  refine g_if_lt 25 X d_LG_read_1 (by decide) (fun h1 => ?_) (fun h1 => ?_)
  · exact (cv_l0 (by omega) h1).elim
  · refine g_iload_n X d_LG_read_4 1 rfl ?_
    refine g_aload_n X d_LG_read_5 0 rfl ?_
    refine g_getf (k := 1) X d_LG_read_6 (hl_w 0 rfl hn) rfl i_LG (by decide) k_fl_LG_15 (fun _ h => h) rfl ?_
    refine g_icmp_ge 25 X d_LG_read_9 (by decide) (fun h9 => ?_) (fun h9 => ?_)
    · have h9 := cv_le (by omega) (by omega) h9
      omega
    · have h9 := cv_nle (by omega) (by omega) h9
      refine g_aload_n X d_LG_read_12 0 rfl ?_
      refine g_getf (k := 0) X d_LG_read_13 (hl_w 0 rfl hn) rfl i_LG (by decide) k_fl_LG_9 (fun _ h => h) rfl ?_
      refine g_iload_n X d_LG_read_16 1 rfl ?_
      refine h_bald X d_LG_read_17 (hl_w 1 rfl hn) (by omega) (by omega) ?_
      refine g_sipush (nI 255) X d_LG_read_18 (by decide) ?_
      refine g_iand X d_LG_read_21 ?_
      refine g_vi (nI (B j)) (sb_and (hB j)) ?_
      refine g_goto 26 X d_LG_read_22 (by decide) ?_
      exact g_iret X hr d_LG_read_26 (Nat.le_of_ble_eq_true rfl) (Nat.le_of_ble_eq_true rfl) (fh_ret_i)

set_option maxRecDepth 100000 in
set_option maxHeartbeats 4000000 in
theorem c_LG_read_out {l : Launch} (hst : l.stackTraces = false) {h b u av es sz : Nat} {ke va : Int64} {B : Nat → Nat} (hn : [h, b].Nodup) (hB : ∀ q, B q < 256) (hu : u ≤ 1024) {j : Nat} (hj : u ≤ j) (hj2 : j < 2 ^ 31) : fh_C l fhCl fhT y_LG_read (.code y_LG_read b_LG_read 2 (some .int)) 0 0 [.ref h, .int (nI j)] (hp [(h, .inr (1, [.ref b, .int (nI u), .int (nI av), .int (nI es), .long ke, .int (nI sz), .long va])), (b, .inl (.byte, 1024, .inl (fun q => sb_b (B q))))]) (hp []) 0 0 (fh_ret (some (.int (-1))) [(h, .inr (1, [.ref b, .int (nI u), .int (nI av), .int (nI es), .long ke, .int (nI sz), .long va])), (b, .inl (.byte, 1024, .inl (fun q => sb_b (B q))))]) := by
  refine fh_enter (by decide) hst (Nat.le_of_ble_eq_true rfl) ?_
  intro D mp me sm mm margs mbel mmet mcod X hr hnm hno hf0
  show fh_G mp l me (fh_rm 0 0 0 0) sm mm margs mbel mmet mcod D fhCl (hp [(h, .inr (1, [.ref b, .int (nI u), .int (nI av), .int (nI es), .long ke, .int (nI sz), .long va])), (b, .inl (.byte, 1024, .inl (fun q => sb_b (B q))))]) 2 _ 0 0 (hp [(h, .inr (1, [.ref b, .int (nI u), .int (nI av), .int (nI es), .long ke, .int (nI sz), .long va])), (b, .inl (.byte, 1024, .inl (fun q => sb_b (B q))))]) 0 [(0, .ref h), (1, .int (nI j))] []
  refine g_iload_n X d_LG_read_0 1 rfl ?_
  refine g_if_lt 25 X d_LG_read_1 (by decide) (fun h1 => ?_) (fun h1 => ?_)
  · exact (cv_l0 (by omega) h1).elim
  · refine g_iload_n X d_LG_read_4 1 rfl ?_
    refine g_aload_n X d_LG_read_5 0 rfl ?_
    refine g_getf (k := 1) X d_LG_read_6 (hl_w 0 rfl hn) rfl i_LG (by decide) k_fl_LG_15 (fun _ h => h) rfl ?_
    refine g_icmp_ge 25 X d_LG_read_9 (by decide) (fun h9 => ?_) (fun h9 => ?_)
    · have h9 := cv_le (by omega) (by omega) h9
      refine g_iconst (-1) X d_LG_read_25 (by decide) ?_
      exact g_iret X hr d_LG_read_26 (Nat.le_of_ble_eq_true rfl) (Nat.le_of_ble_eq_true rfl) (fh_ret_i)
    · have h9 := cv_nle (by omega) (by omega) h9
      omega

set_option maxRecDepth 100000 in
set_option maxHeartbeats 4000000 in
theorem c_LG_takes {l : Launch} (hst : l.stackTraces = false) {h b u av es sz : Nat} {ke va : Int64} {B : Nat → Nat} (hn : [h, b].Nodup) (hB : ∀ q, B q < 256) (hu : u ≤ 1024) {m : Nat} (hm : okn m) : fh_C l fhCl fhT y_LG_takes (.code y_LG_takes b_LG_takes 2 (some .boolean)) 1 20 [.ref h, .int (nI m)] (hp [(h, .inr (1, [.ref b, .int (nI u), .int (nI av), .int (nI es), .long ke, .int (nI sz), .long va])), (b, .inl (.byte, 1024, .inl (fun q => sb_b (B q))))]) (hp []) 0 0 (fh_ret (some (.int (nI (b2n (decide (u + ebn m + 1 ≤ 1024)))))) [(h, .inr (1, [.ref b, .int (nI u), .int (nI av), .int (nI es), .long ke, .int (nI sz), .long va])), (b, .inl (.byte, 1024, .inl (fun q => sb_b (B q))))]) := by
  refine fh_enter (by decide) hst (Nat.le_of_ble_eq_true rfl) ?_
  intro D mp me sm mm margs mbel mmet mcod X hr hnm hno hf0
  show fh_G mp l me (fh_rm 1 20 0 0) sm mm margs mbel mmet mcod D fhCl (hp [(h, .inr (1, [.ref b, .int (nI u), .int (nI av), .int (nI es), .long ke, .int (nI sz), .long va])), (b, .inl (.byte, 1024, .inl (fun q => sb_b (B q))))]) 2 _ 0 0 (hp [(h, .inr (1, [.ref b, .int (nI u), .int (nI av), .int (nI es), .long ke, .int (nI sz), .long va])), (b, .inl (.byte, 1024, .inl (fun q => sb_b (B q))))]) 0 [(0, .ref h), (1, .int (nI m))] []
  refine g_iload_n X d_LG_takes_0 1 rfl ?_
  refine h_callSN (As := [.int (nI m)]) (st := []) [] [(h, .inr (1, [.ref b, .int (nI u), .int (nI av), .int (nI es), .long ke, .int (nI sz), .long va])), (b, .inl (.byte, 1024, .inl (fun q => sb_b (B q))))] X d_LG_takes_1 (c_RS_entryBytes hst (by rcases hm with h | h <;> omega)) rfl k_ml_LG_19 k_cd_RS_entryBytes k_in_RS k_st_RS_entryBytes ⟨by decide +kernel, by decide +kernel, (by decide +kernel : (parseMethodDescriptor y_RS_entryBytes.desc).map (fun d => d.parameters.length) = some 1)⟩ ⟨Nat.le_of_ble_eq_true rfl, Nat.le_of_ble_eq_true rfl⟩ ⟨Nat.le_of_ble_eq_true rfl, Nat.le_of_ble_eq_true rfl⟩ (Nat.le_of_ble_eq_true rfl) hn rfl rfl rfl hp_no hp_no2 ?_
  have h70 := ebn_le hm
  refine g_iconst (nI 1) X d_LG_takes_4 (by decide) ?_
  refine g_iadd X d_LG_takes_5 ?_
  refine g_vi (nI (ebn m + 1)) (nI_add _ _) ?_
  refine g_aload_n X d_LG_takes_6 0 rfl ?_
  refine g_getf (k := 0) X d_LG_takes_7 (hl_w 0 rfl hn) rfl i_LG (by decide) k_fl_LG_9 (fun _ h => h) rfl ?_
  refine g_alen X d_LG_takes_10 (hl_w 1 rfl hn) ?_
  refine g_aload_n X d_LG_takes_11 0 rfl ?_
  refine g_getf (k := 1) X d_LG_takes_12 (hl_w 0 rfl hn) rfl i_LG (by decide) k_fl_LG_15 (fun _ h => h) rfl ?_
  refine g_isub X d_LG_takes_15 ?_
  refine g_vi (nI (1024 - u)) (pk_sub (by omega)) ?_
  refine g_icmp_gt 23 X d_LG_takes_16 (by decide) (fun h16 => ?_) (fun h16 => ?_)
  · have h16 := cv_lt (by omega) (by omega) h16
    refine g_iconst (nI 0) X d_LG_takes_23 (by decide) ?_
    exact g_zret X hr rfl d_LG_takes_24 (Nat.le_of_ble_eq_true rfl) (Nat.le_of_ble_eq_true rfl) (⟨by rw [decide_eq_false (by omega)]; rfl, rfl⟩)
  · have h16 := cv_nlt (by omega) (by omega) h16
    refine g_iconst (nI 1) X d_LG_takes_19 (by decide) ?_
    refine g_goto 24 X d_LG_takes_20 (by decide) ?_
    exact g_zret X hr rfl d_LG_takes_24 (Nat.le_of_ble_eq_true rfl) (Nat.le_of_ble_eq_true rfl) (⟨by rw [decide_eq_true (by omega)]; rfl, rfl⟩)

set_option maxRecDepth 100000 in
set_option maxHeartbeats 4000000 in
theorem c_LG_appendByte {l : Launch} (hst : l.stackTraces = false) {h b u av es sz : Nat} {ke va : Int64} {B : Nat → Nat} (hn : [h, b].Nodup) (hB : ∀ q, B q < 256) (hu : u ≤ 1024) {j : Nat} (hj : u < 1024) : fh_C l fhCl fhT y_LG_appendByte (.code y_LG_appendByte b_LG_appendByte 2 none) 0 0 [.ref h, .int (nI j)] (hp [(h, .inr (1, [.ref b, .int (nI u), .int (nI av), .int (nI es), .long ke, .int (nI sz), .long va])), (b, .inl (.byte, 1024, .inl (fun q => sb_b (B q))))]) (hp []) 0 0 (fh_ret none [(h, .inr (1, [.ref b, .int (nI (u + 1)), .int (nI av), .int (nI es), .long ke, .int (nI sz), .long va])), (b, .inl (.byte, 1024, .inl (fun q => sb_b (((va_up B u (j % 256))) q))))]) := by
  refine fh_enter (by decide) hst (Nat.le_of_ble_eq_true rfl) ?_
  intro D mp me sm mm margs mbel mmet mcod X hr hnm hno hf0
  show fh_G mp l me (fh_rm 0 0 0 0) sm mm margs mbel mmet mcod D fhCl (hp [(h, .inr (1, [.ref b, .int (nI u), .int (nI av), .int (nI es), .long ke, .int (nI sz), .long va])), (b, .inl (.byte, 1024, .inl (fun q => sb_b (B q))))]) 2 _ 0 0 (hp [(h, .inr (1, [.ref b, .int (nI u), .int (nI av), .int (nI es), .long ke, .int (nI sz), .long va])), (b, .inl (.byte, 1024, .inl (fun q => sb_b (B q))))]) 0 [(0, .ref h), (1, .int (nI j))] []
  refine g_aload_n X d_LG_appendByte_0 0 rfl ?_
  refine g_getf (k := 1) X d_LG_appendByte_1 (hl_w 0 rfl hn) rfl i_LG (by decide) k_fl_LG_15 (fun _ h => h) rfl ?_
  refine g_aload_n X d_LG_appendByte_4 0 rfl ?_
  refine g_getf (k := 0) X d_LG_appendByte_5 (hl_w 0 rfl hn) rfl i_LG (by decide) k_fl_LG_9 (fun _ h => h) rfl ?_
  refine g_alen X d_LG_appendByte_8 (hl_w 1 rfl hn) ?_
  refine g_icmp_ge 33 X d_LG_appendByte_9 (by decide) (fun h9 => ?_) (fun h9 => ?_)
  · have h9 := cv_le (by omega) (by omega) h9
    omega
  · have h9 := cv_nle (by omega) (by omega) h9
    refine g_aload_n X d_LG_appendByte_12 0 rfl ?_
    refine g_getf (k := 0) X d_LG_appendByte_13 (hl_w 0 rfl hn) rfl i_LG (by decide) k_fl_LG_9 (fun _ h => h) rfl ?_
    refine g_aload_n X d_LG_appendByte_16 0 rfl ?_
    refine g_getf (k := 1) X d_LG_appendByte_17 (hl_w 0 rfl hn) rfl i_LG (by decide) k_fl_LG_15 (fun _ h => h) rfl ?_
    refine g_iload_n X d_LG_appendByte_20 1 rfl ?_
    refine g_i2b X d_LG_appendByte_21 ?_
    refine h_bastB 1 [(h, .inr (1, [.ref b, .int (nI u), .int (nI av), .int (nI es), .long ke, .int (nI sz), .long va])), (b, .inl (.byte, 1024, .inl (fun q => sb_b ((va_up B u (j % 256)) q))))] X d_LG_appendByte_22 hn rfl (by omega) (by omega) rfl ?_
    refine g_aload_n X d_LG_appendByte_23 0 rfl ?_
    refine g_dup X d_LG_appendByte_24 rfl ?_
    refine g_getf (k := 1) X d_LG_appendByte_25 (hl_w 0 rfl hn) rfl i_LG (by decide) k_fl_LG_15 (fun _ h => h) rfl ?_
    refine g_iconst (nI 1) X d_LG_appendByte_28 (by decide) ?_
    refine g_iadd X d_LG_appendByte_29 ?_
    refine g_vi (nI (u + 1)) (nI_add _ _) ?_
    refine h_putf (k := 1) (ty := .int) 0 [(h, .inr (1, [.ref b, .int (nI (u + 1)), .int (nI av), .int (nI es), .long ke, .int (nI sz), .long va])), (b, .inl (.byte, 1024, .inl (fun q => sb_b ((va_up B u (j % 256)) q))))] X d_LG_appendByte_30 hn rfl rfl i_LG t_LG t_LG_ok n_LG (by decide) k_fl_LG_15 (fun _ h => h) rfl (by decide +kernel) rfl rfl (Nat.le_of_ble_eq_true rfl) rfl ?_
    exact g_vret X hr d_LG_appendByte_33 (Nat.le_of_ble_eq_true rfl) (Nat.le_of_ble_eq_true rfl) (fh_ret_i)

set_option maxRecDepth 100000 in
set_option maxHeartbeats 4000000 in
theorem c_LG_append {l : Launch} (hst : l.stackTraces = false) {h b u av es sz : Nat} {ke va : Int64} {B : Nat → Nat} (hn : [h, b].Nodup) (hB : ∀ q, B q < 256) (hu : u ≤ 1024) {m : Nat} {k v : Int64} (hm : okn m) (hr9 : u + ebn m + 1 ≤ 1024) : fh_C l fhCl fhT y_LG_append (.code y_LG_append b_LG_append 10 none) 2 46 [.ref h, .long k, .int (nI m), .long v] (hp [(h, .inr (1, [.ref b, .int (nI u), .int (nI av), .int (nI es), .long ke, .int (nI sz), .long va])), (b, .inl (.byte, 1024, .inl (fun q => sb_b (B q))))]) (hp []) 0 0 (fh_ret none [(h, .inr (1, [.ref b, .int (nI (u + ebn m + 1)), .int (nI av), .int (nI es), .long ke, .int (nI sz), .long va])), (b, .inl (.byte, 1024, .inl (fun q => sb_b (((apB B u k m v)) q))))]) := by
  refine fh_enter (by decide) hst (Nat.le_of_ble_eq_true rfl) ?_
  intro D mp me sm mm margs mbel mmet mcod X hr hnm hno hf0
  show fh_G mp l me (fh_rm 2 46 0 0) sm mm margs mbel mmet mcod D fhCl (hp [(h, .inr (1, [.ref b, .int (nI u), .int (nI av), .int (nI es), .long ke, .int (nI sz), .long va])), (b, .inl (.byte, 1024, .inl (fun q => sb_b (B q))))]) 10 _ 0 0 (hp [(h, .inr (1, [.ref b, .int (nI u), .int (nI av), .int (nI es), .long ke, .int (nI sz), .long va])), (b, .inl (.byte, 1024, .inl (fun q => sb_b (B q))))]) 0 [(0, .ref h), (1, .long k), (3, .int (nI m)), (4, .long v)] []
  have h70 := ebn_le hm
  refine g_iconst (nI 0) X d_LG_append_0 (by decide) ?_
  refine g_istore [(6, .int (nI 0)), (0, .ref h), (1, .long k), (3, .int (nI m)), (4, .long v)] X d_LG_append_1 (by decide) rfl ?_
  refine g_iload_n X d_LG_append_3 3 rfl ?_
  refine h_callSN (As := [.int (nI m)]) (st := []) [] [(h, .inr (1, [.ref b, .int (nI u), .int (nI av), .int (nI es), .long ke, .int (nI sz), .long va])), (b, .inl (.byte, 1024, .inl (fun q => sb_b (B q))))] X d_LG_append_4 (c_RS_entryBytes hst (by rcases hm with h | h <;> omega)) rfl k_ml_LG_19 k_cd_RS_entryBytes k_in_RS k_st_RS_entryBytes ⟨by decide +kernel, by decide +kernel, (by decide +kernel : (parseMethodDescriptor y_RS_entryBytes.desc).map (fun d => d.parameters.length) = some 1)⟩ ⟨Nat.le_of_ble_eq_true rfl, Nat.le_of_ble_eq_true rfl⟩ ⟨Nat.le_of_ble_eq_true rfl, Nat.le_of_ble_eq_true rfl⟩ (Nat.le_of_ble_eq_true rfl) hn rfl rfl rfl hp_no hp_no2 ?_
  refine g_istore [(7, .int (nI (ebn m))), (6, .int (nI 0)), (0, .ref h), (1, .long k), (3, .int (nI m)), (4, .long v)] X d_LG_append_7 (by decide) rfl ?_
  refine g_iconst (nI 0) X d_LG_append_9 (by decide) ?_
  refine g_istore [(8, .int (nI 0)), (7, .int (nI (ebn m))), (6, .int (nI 0)), (0, .ref h), (1, .long k), (3, .int (nI m)), (4, .long v)] X d_LG_append_10 (by decide) rfl ?_
  have L12 : ∀ (fu12 : Nat) (t : Nat), (t ≤ ebn m) → ebn m - t < fu12 → fh_G mp l me (fh_rm 2 46 0 0) sm mm margs mbel mmet mcod D fhCl (hp [(h, .inr (1, [.ref b, .int (nI u), .int (nI av), .int (nI es), .long ke, .int (nI sz), .long va])), (b, .inl (.byte, 1024, .inl (fun q => sb_b (B q))))]) 10 (fh_MQ mbel D fhCl (hp [(h, .inr (1, [.ref b, .int (nI u), .int (nI av), .int (nI es), .long ke, .int (nI sz), .long va])), (b, .inl (.byte, 1024, .inl (fun q => sb_b (B q))))]) (fh_ret none [(h, .inr (1, [.ref b, .int (nI (u + ebn m + 1)), .int (nI av), .int (nI es), .long ke, .int (nI sz), .long va])), (b, .inl (.byte, 1024, .inl (fun q => sb_b (((apB B u k m v)) q))))]) margs sm 0 0) 0 0 (hp [(h, .inr (1, [.ref b, .int (nI (u + t)), .int (nI av), .int (nI es), .long ke, .int (nI sz), .long va])), (b, .inl (.byte, 1024, .inl (fun q => sb_b (((lay B u (ebt k m v) t)) q))))]) 12 [(8, .int (nI t)), (7, .int (nI (ebn m))), (6, .int (nI (smf (ebt k m v) t))), (0, .ref h), (1, .long k), (3, .int (nI m)), (4, .long v)] [] := by
    intro fu12
    induction fu12 with
    | zero => intro t q1 hm12; exact absurd hm12 (Nat.not_lt_zero _)
    | succ fu12 ih12 =>
      intro t q1 hm12
      refine g_iload X d_LG_append_12 0 rfl ?_
      refine g_iload X d_LG_append_14 1 rfl ?_
      refine g_icmp_ge 49 X d_LG_append_16 (by decide) (fun h16 => ?_) (fun h16 => ?_)
      · have h16 := cv_le (by omega) (by omega) h16
        have e9 : t = ebn m := by omega
        refine g_aload_n X d_LG_append_49 3 rfl ?_
        refine g_iload X d_LG_append_50 2 rfl ?_
        refine h_callV (As := [.int (nI (smf (ebt k m v) t))]) (st := []) [0, 1] [(h, .inr (1, [.ref b, .int (nI (u + t + 1)), .int (nI av), .int (nI es), .long ke, .int (nI sz), .long va])), (b, .inl (.byte, 1024, .inl (fun q => sb_b (((va_up (lay B u (ebt k m v) t) (u + t) (smf (ebt k m v) t % 256))) q))))] X d_LG_append_52 (c_LG_appendByte hst hn (fun q => lay_lt hB t q) (by omega) (by omega)) (hl_w 0 rfl hn) rfl rfl k_ml_LG_27 k_cd_LG_appendByte k_in_LG k_im_LG_appendByte k_se_LG_appendByte ⟨by decide +kernel, by decide +kernel, (by decide +kernel : (parseMethodDescriptor y_LG_appendByte.desc).map (fun d => d.parameters.length) = some 1)⟩ ⟨Nat.le_of_ble_eq_true rfl, Nat.le_of_ble_eq_true rfl⟩ ⟨Nat.le_of_ble_eq_true rfl, Nat.le_of_ble_eq_true rfl⟩ (Nat.le_of_ble_eq_true rfl) hn rfl rfl rfl hp_no hp_no2 ?_
        exact g_vret X hr d_LG_append_55 (Nat.le_of_ble_eq_true rfl) (Nat.le_of_ble_eq_true rfl) (⟨rfl, by rw [apB, e9]⟩)
      · have h16 := cv_nle (by omega) (by omega) h16
        refine g_lload_n X d_LG_append_19 4 rfl ?_
        refine g_iload_n X d_LG_append_20 5 rfl ?_
        refine g_lload X d_LG_append_21 6 rfl ?_
        refine g_iload X d_LG_append_23 0 rfl ?_
        refine h_callSN (As := [.long k, .int (nI m), .long v, .int (nI t)]) (st := []) [] [(h, .inr (1, [.ref b, .int (nI (u + t)), .int (nI av), .int (nI es), .long ke, .int (nI sz), .long va])), (b, .inl (.byte, 1024, .inl (fun q => sb_b (((lay B u (ebt k m v) t)) q))))] X d_LG_append_25 (c_RS_entryByte hst hm (by omega)) rfl k_ml_LG_23 k_cd_RS_entryByte k_in_RS k_st_RS_entryByte ⟨by decide +kernel, by decide +kernel, (by decide +kernel : (parseMethodDescriptor y_RS_entryByte.desc).map (fun d => d.parameters.length) = some 4)⟩ ⟨Nat.le_of_ble_eq_true rfl, Nat.le_of_ble_eq_true rfl⟩ ⟨Nat.le_of_ble_eq_true rfl, Nat.le_of_ble_eq_true rfl⟩ (Nat.le_of_ble_eq_true rfl) hn rfl rfl rfl hp_no hp_no2 ?_
        refine g_istore [(9, .int (nI (ebt k m v t))), (8, .int (nI t)), (7, .int (nI (ebn m))), (6, .int (nI (smf (ebt k m v) t))), (0, .ref h), (1, .long k), (3, .int (nI m)), (4, .long v)] X d_LG_append_28 (by decide) rfl ?_
        refine g_iload X d_LG_append_30 3 rfl ?_
        refine g_iload X d_LG_append_32 0 rfl ?_
        refine g_iadd X d_LG_append_34 ?_
        refine g_vi (nI (smf (ebt k m v) t + ebt k m v t)) (nI_add _ _) ?_
        refine g_istore [(6, .int (nI (smf (ebt k m v) t + ebt k m v t))), (9, .int (nI (ebt k m v t))), (8, .int (nI t)), (7, .int (nI (ebn m))), (0, .ref h), (1, .long k), (3, .int (nI m)), (4, .long v)] X d_LG_append_35 (by decide) rfl ?_
        refine g_aload_n X d_LG_append_37 4 rfl ?_
        refine g_iload X d_LG_append_38 1 rfl ?_
        refine h_callV (As := [.int (nI (ebt k m v t))]) (st := []) [0, 1] [(h, .inr (1, [.ref b, .int (nI (u + t + 1)), .int (nI av), .int (nI es), .long ke, .int (nI sz), .long va])), (b, .inl (.byte, 1024, .inl (fun q => sb_b (((va_up (lay B u (ebt k m v) t) (u + t) (ebt k m v t % 256))) q))))] X d_LG_append_40 (c_LG_appendByte hst hn (fun q => lay_lt hB t q) (by omega) (by omega)) (hl_w 0 rfl hn) rfl rfl k_ml_LG_27 k_cd_LG_appendByte k_in_LG k_im_LG_appendByte k_se_LG_appendByte ⟨by decide +kernel, by decide +kernel, (by decide +kernel : (parseMethodDescriptor y_LG_appendByte.desc).map (fun d => d.parameters.length) = some 1)⟩ ⟨Nat.le_of_ble_eq_true rfl, Nat.le_of_ble_eq_true rfl⟩ ⟨Nat.le_of_ble_eq_true rfl, Nat.le_of_ble_eq_true rfl⟩ (Nat.le_of_ble_eq_true rfl) hn rfl rfl rfl hp_no hp_no2 ?_
        refine g_iinc (nI (t + 1)) 2 [(8, .int (nI (t + 1))), (6, .int (nI (smf (ebt k m v) t + ebt k m v t))), (9, .int (nI (ebt k m v t))), (7, .int (nI (ebn m))), (0, .ref h), (1, .long k), (3, .int (nI m)), (4, .long v)] X d_LG_append_43 rfl (nI_1 _) (by decide) rfl ?_
        refine g_goto 12 X d_LG_append_46 (by decide) ?_
        refine g_hp (ws' := [(h, .inr (1, [.ref b, .int (nI (u + (t + 1))), .int (nI av), .int (nI es), .long ke, .int (nI sz), .long va])), (b, .inl (.byte, 1024, .inl (fun q => sb_b (((lay B u (ebt k m v) (t + 1))) q))))]) rfl ?_
        refine g_lve (lv' := [(8, .int (nI (t + 1))), (6, .int (nI (smf (ebt k m v) (t + 1)))), (9, .int (nI (ebt k m v t))), (7, .int (nI (ebn m))), (0, .ref h), (1, .long k), (3, .int (nI m)), (4, .long v)]) rfl ?_
        refine g_lv [0, 3, 1, 4, 5, 6, 7] [(8, .int (nI (t + 1))), (7, .int (nI (ebn m))), (6, .int (nI (smf (ebt k m v) (t + 1)))), (0, .ref h), (1, .long k), (3, .int (nI m)), (4, .long v)] rfl ?_
        exact ih12 (t + 1) (by omega) (by omega)
  exact L12 _ 0 (Nat.zero_le _) (Nat.lt_succ_self _)

set_option maxRecDepth 100000 in
set_option maxHeartbeats 4000000 in
theorem c_LG_cut {l : Launch} (hst : l.stackTraces = false) {h b u av es sz : Nat} {ke va : Int64} {B : Nat → Nat} (hn : [h, b].Nodup) (hB : ∀ q, B q < 256) (hu : u ≤ 1024) {j : Nat} (hj : j ≤ u) : fh_C l fhCl fhT y_LG_cut (.code y_LG_cut b_LG_cut 2 none) 0 0 [.ref h, .int (nI j)] (hp [(h, .inr (1, [.ref b, .int (nI u), .int (nI av), .int (nI es), .long ke, .int (nI sz), .long va])), (b, .inl (.byte, 1024, .inl (fun q => sb_b (B q))))]) (hp []) 0 0 (fh_ret none [(h, .inr (1, [.ref b, .int (nI j), .int (nI av), .int (nI es), .long ke, .int (nI sz), .long va])), (b, .inl (.byte, 1024, .inl (fun q => sb_b (B q))))]) := by
  refine fh_enter (by decide) hst (Nat.le_of_ble_eq_true rfl) ?_
  intro D mp me sm mm margs mbel mmet mcod X hr hnm hno hf0
  show fh_G mp l me (fh_rm 0 0 0 0) sm mm margs mbel mmet mcod D fhCl (hp [(h, .inr (1, [.ref b, .int (nI u), .int (nI av), .int (nI es), .long ke, .int (nI sz), .long va])), (b, .inl (.byte, 1024, .inl (fun q => sb_b (B q))))]) 2 _ 0 0 (hp [(h, .inr (1, [.ref b, .int (nI u), .int (nI av), .int (nI es), .long ke, .int (nI sz), .long va])), (b, .inl (.byte, 1024, .inl (fun q => sb_b (B q))))]) 0 [(0, .ref h), (1, .int (nI j))] []
  refine g_iload_n X d_LG_cut_0 1 rfl ?_
  refine g_if_lt 17 X d_LG_cut_1 (by decide) (fun h1 => ?_) (fun h1 => ?_)
  · exact (cv_l0 (by omega) h1).elim
  · refine g_iload_n X d_LG_cut_4 1 rfl ?_
    refine g_aload_n X d_LG_cut_5 0 rfl ?_
    refine g_getf (k := 1) X d_LG_cut_6 (hl_w 0 rfl hn) rfl i_LG (by decide) k_fl_LG_15 (fun _ h => h) rfl ?_
    refine g_icmp_ge 17 X d_LG_cut_9 (by decide) (fun h9 => ?_) (fun h9 => ?_)
    · have h9 := cv_le (by omega) (by omega) h9
      exact g_vret X hr d_LG_cut_17 (Nat.le_of_ble_eq_true rfl) (Nat.le_of_ble_eq_true rfl) (⟨rfl, by rw [show j = u by omega]⟩)
    · have h9 := cv_nle (by omega) (by omega) h9
      refine g_aload_n X d_LG_cut_12 0 rfl ?_
      refine g_iload_n X d_LG_cut_13 1 rfl ?_
      refine h_putf (k := 1) (ty := .int) 0 [(h, .inr (1, [.ref b, .int (nI j), .int (nI av), .int (nI es), .long ke, .int (nI sz), .long va])), (b, .inl (.byte, 1024, .inl (fun q => sb_b (B q))))] X d_LG_cut_14 hn rfl rfl i_LG t_LG t_LG_ok n_LG (by decide) k_fl_LG_15 (fun _ h => h) rfl (by decide +kernel) rfl rfl (Nat.le_of_ble_eq_true rfl) rfl ?_
      exact g_vret X hr d_LG_cut_17 (Nat.le_of_ble_eq_true rfl) (Nat.le_of_ble_eq_true rfl) (⟨rfl, rfl⟩)

set_option maxRecDepth 100000 in
set_option maxHeartbeats 4000000 in
theorem c_LG_alter {l : Launch} (hst : l.stackTraces = false) {h b u av es sz : Nat} {ke va : Int64} {B : Nat → Nat} (hn : [h, b].Nodup) (hB : ∀ q, B q < 256) (hu : u ≤ 1024) {j : Nat} {wm : Int32} (hj : j < u) : fh_C l fhCl fhT y_LG_alter (.code y_LG_alter b_LG_alter 3 none) 0 0 [.ref h, .int (nI j), .int wm] (hp [(h, .inr (1, [.ref b, .int (nI u), .int (nI av), .int (nI es), .long ke, .int (nI sz), .long va])), (b, .inl (.byte, 1024, .inl (fun q => sb_b (B q))))]) (hp []) 0 0 (fh_ret none [(h, .inr (1, [.ref b, .int (nI u), .int (nI av), .int (nI es), .long ke, .int (nI sz), .long va])), (b, .inl (.byte, 1024, .inl (fun q => sb_b (((va_up B j (xrb (B j) wm))) q))))]) := by
  refine fh_enter (by decide) hst (Nat.le_of_ble_eq_true rfl) ?_
  intro D mp me sm mm margs mbel mmet mcod X hr hnm hno hf0
  show fh_G mp l me (fh_rm 0 0 0 0) sm mm margs mbel mmet mcod D fhCl (hp [(h, .inr (1, [.ref b, .int (nI u), .int (nI av), .int (nI es), .long ke, .int (nI sz), .long va])), (b, .inl (.byte, 1024, .inl (fun q => sb_b (B q))))]) 3 _ 0 0 (hp [(h, .inr (1, [.ref b, .int (nI u), .int (nI av), .int (nI es), .long ke, .int (nI sz), .long va])), (b, .inl (.byte, 1024, .inl (fun q => sb_b (B q))))]) 0 [(0, .ref h), (1, .int (nI j)), (2, .int wm)] []
  refine g_iload_n X d_LG_alter_0 1 rfl ?_
  refine g_if_lt 27 X d_LG_alter_1 (by decide) (fun h1 => ?_) (fun h1 => ?_)
  · exact (cv_l0 (by omega) h1).elim
  · refine g_iload_n X d_LG_alter_4 1 rfl ?_
    refine g_aload_n X d_LG_alter_5 0 rfl ?_
    refine g_getf (k := 1) X d_LG_alter_6 (hl_w 0 rfl hn) rfl i_LG (by decide) k_fl_LG_15 (fun _ h => h) rfl ?_
    refine g_icmp_ge 27 X d_LG_alter_9 (by decide) (fun h9 => ?_) (fun h9 => ?_)
    · have h9 := cv_le (by omega) (by omega) h9
      omega
    · have h9 := cv_nle (by omega) (by omega) h9
      refine g_aload_n X d_LG_alter_12 0 rfl ?_
      refine g_getf (k := 0) X d_LG_alter_13 (hl_w 0 rfl hn) rfl i_LG (by decide) k_fl_LG_9 (fun _ h => h) rfl ?_
      refine g_iload_n X d_LG_alter_16 1 rfl ?_
      refine g_aload_n X d_LG_alter_17 0 rfl ?_
      refine g_getf (k := 0) X d_LG_alter_18 (hl_w 0 rfl hn) rfl i_LG (by decide) k_fl_LG_9 (fun _ h => h) rfl ?_
      refine g_iload_n X d_LG_alter_21 1 rfl ?_
      refine h_bald X d_LG_alter_22 (hl_w 1 rfl hn) (by omega) (by omega) ?_
      refine g_iload_n X d_LG_alter_23 2 rfl ?_
      refine g_ixor X d_LG_alter_24 ?_
      refine g_i2b X d_LG_alter_25 ?_
      refine g_vi (sb_b (xrb (B j) wm)) (xrb_b _ _) ?_
      refine h_bastS 1 [(h, .inr (1, [.ref b, .int (nI u), .int (nI av), .int (nI es), .long ke, .int (nI sz), .long va])), (b, .inl (.byte, 1024, .inl (fun q => sb_b ((va_up B j (xrb (B j) wm)) q))))] X d_LG_alter_26 hn rfl (by omega) (by omega) rfl ?_
      exact g_vret X hr d_LG_alter_27 (Nat.le_of_ble_eq_true rfl) (Nat.le_of_ble_eq_true rfl) (fh_ret_i)

set_option maxRecDepth 100000 in
set_option maxHeartbeats 4000000 in
theorem c_LG_nextByte_in {l : Launch} (hst : l.stackTraces = false) {h b u av es sz : Nat} {ke va : Int64} {B : Nat → Nat} (hn : [h, b].Nodup) (hB : ∀ q, B q < 256) (hu : u ≤ 1024) (hj : av < u) : fh_C l fhCl fhT y_LG_nextByte (.code y_LG_nextByte b_LG_nextByte 2 (some .int)) 1 21 [.ref h] (hp [(h, .inr (1, [.ref b, .int (nI u), .int (nI av), .int (nI es), .long ke, .int (nI sz), .long va])), (b, .inl (.byte, 1024, .inl (fun q => sb_b (B q))))]) (hp []) 0 0 (fh_ret (some (.int (nI (B av)))) [(h, .inr (1, [.ref b, .int (nI u), .int (nI (av + 1)), .int (nI (es + B av)), .long ke, .int (nI sz), .long va])), (b, .inl (.byte, 1024, .inl (fun q => sb_b (B q))))]) := by
  refine fh_enter (by decide) hst (Nat.le_of_ble_eq_true rfl) ?_
  intro D mp me sm mm margs mbel mmet mcod X hr hnm hno hf0
  show fh_G mp l me (fh_rm 1 21 0 0) sm mm margs mbel mmet mcod D fhCl (hp [(h, .inr (1, [.ref b, .int (nI u), .int (nI av), .int (nI es), .long ke, .int (nI sz), .long va])), (b, .inl (.byte, 1024, .inl (fun q => sb_b (B q))))]) 2 _ 0 0 (hp [(h, .inr (1, [.ref b, .int (nI u), .int (nI av), .int (nI es), .long ke, .int (nI sz), .long va])), (b, .inl (.byte, 1024, .inl (fun q => sb_b (B q))))]) 0 [(0, .ref h)] []
  refine g_aload_n X d_LG_nextByte_0 0 rfl ?_
  refine g_aload_n X d_LG_nextByte_1 0 rfl ?_
  refine g_getf (k := 2) X d_LG_nextByte_2 (hl_w 0 rfl hn) rfl i_LG (by decide) k_fl_LG_36 (fun _ h => h) rfl ?_
  refine h_callV (As := [.int (nI av)]) (st := []) [0, 1] [(h, .inr (1, [.ref b, .int (nI u), .int (nI av), .int (nI es), .long ke, .int (nI sz), .long va])), (b, .inl (.byte, 1024, .inl (fun q => sb_b (B q))))] X d_LG_nextByte_5 (c_LG_read_in hst hn hB hu (by omega)) (hl_w 0 rfl hn) rfl rfl k_ml_LG_67 k_cd_LG_read k_in_LG k_im_LG_read k_se_LG_read ⟨by decide +kernel, by decide +kernel, (by decide +kernel : (parseMethodDescriptor y_LG_read.desc).map (fun d => d.parameters.length) = some 1)⟩ ⟨Nat.le_of_ble_eq_true rfl, Nat.le_of_ble_eq_true rfl⟩ ⟨Nat.le_of_ble_eq_true rfl, Nat.le_of_ble_eq_true rfl⟩ (Nat.le_of_ble_eq_true rfl) hn rfl rfl rfl hp_no hp_no2 ?_
  have h70 := hB av
  refine g_istore_n [(1, .int (nI (B av))), (0, .ref h)] X d_LG_nextByte_8 (by decide) rfl ?_
  refine g_iload_n X d_LG_nextByte_9 0 rfl ?_
  refine g_iconst (-1) X d_LG_nextByte_10 (by decide) ?_
  refine g_icmp_eq 34 X d_LG_nextByte_11 (by decide) (fun h11 => ?_) (fun h11 => ?_)
  · exact absurd h11 (nI_nm1 (by omega))
  · refine g_aload_n X d_LG_nextByte_14 1 rfl ?_
    refine g_dup X d_LG_nextByte_15 rfl ?_
    refine g_getf (k := 3) X d_LG_nextByte_16 (hl_w 0 rfl hn) rfl i_LG (by decide) k_fl_LG_57 (fun _ h => h) rfl ?_
    refine g_iload_n X d_LG_nextByte_19 0 rfl ?_
    refine g_iadd X d_LG_nextByte_20 ?_
    refine g_vi (nI (es + B av)) (nI_add _ _) ?_
    refine h_putf (k := 3) (ty := .int) 0 [(h, .inr (1, [.ref b, .int (nI u), .int (nI av), .int (nI (es + B av)), .long ke, .int (nI sz), .long va])), (b, .inl (.byte, 1024, .inl (fun q => sb_b (B q))))] X d_LG_nextByte_21 hn rfl rfl i_LG t_LG t_LG_ok n_LG (by decide) k_fl_LG_57 (fun _ h => h) rfl (by decide +kernel) rfl rfl (Nat.le_of_ble_eq_true rfl) rfl ?_
    refine g_aload_n X d_LG_nextByte_24 1 rfl ?_
    refine g_dup X d_LG_nextByte_25 rfl ?_
    refine g_getf (k := 2) X d_LG_nextByte_26 (hl_w 0 rfl hn) rfl i_LG (by decide) k_fl_LG_36 (fun _ h => h) rfl ?_
    refine g_iconst (nI 1) X d_LG_nextByte_29 (by decide) ?_
    refine g_iadd X d_LG_nextByte_30 ?_
    refine g_vi (nI (av + 1)) (nI_add _ _) ?_
    refine h_putf (k := 2) (ty := .int) 0 [(h, .inr (1, [.ref b, .int (nI u), .int (nI (av + 1)), .int (nI (es + B av)), .long ke, .int (nI sz), .long va])), (b, .inl (.byte, 1024, .inl (fun q => sb_b (B q))))] X d_LG_nextByte_31 hn rfl rfl i_LG t_LG t_LG_ok n_LG (by decide) k_fl_LG_36 (fun _ h => h) rfl (by decide +kernel) rfl rfl (Nat.le_of_ble_eq_true rfl) rfl ?_
    refine g_iload_n X d_LG_nextByte_34 0 rfl ?_
    exact g_iret X hr d_LG_nextByte_35 (Nat.le_of_ble_eq_true rfl) (Nat.le_of_ble_eq_true rfl) (fh_ret_i)

set_option maxRecDepth 100000 in
set_option maxHeartbeats 4000000 in
theorem c_LG_nextByte_out {l : Launch} (hst : l.stackTraces = false) {h b u av es sz : Nat} {ke va : Int64} {B : Nat → Nat} (hn : [h, b].Nodup) (hB : ∀ q, B q < 256) (hu : u ≤ 1024) (hj : u ≤ av) (hj2 : av < 2 ^ 31) : fh_C l fhCl fhT y_LG_nextByte (.code y_LG_nextByte b_LG_nextByte 2 (some .int)) 1 21 [.ref h] (hp [(h, .inr (1, [.ref b, .int (nI u), .int (nI av), .int (nI es), .long ke, .int (nI sz), .long va])), (b, .inl (.byte, 1024, .inl (fun q => sb_b (B q))))]) (hp []) 0 0 (fh_ret (some (.int (-1))) [(h, .inr (1, [.ref b, .int (nI u), .int (nI av), .int (nI es), .long ke, .int (nI sz), .long va])), (b, .inl (.byte, 1024, .inl (fun q => sb_b (B q))))]) := by
  refine fh_enter (by decide) hst (Nat.le_of_ble_eq_true rfl) ?_
  intro D mp me sm mm margs mbel mmet mcod X hr hnm hno hf0
  show fh_G mp l me (fh_rm 1 21 0 0) sm mm margs mbel mmet mcod D fhCl (hp [(h, .inr (1, [.ref b, .int (nI u), .int (nI av), .int (nI es), .long ke, .int (nI sz), .long va])), (b, .inl (.byte, 1024, .inl (fun q => sb_b (B q))))]) 2 _ 0 0 (hp [(h, .inr (1, [.ref b, .int (nI u), .int (nI av), .int (nI es), .long ke, .int (nI sz), .long va])), (b, .inl (.byte, 1024, .inl (fun q => sb_b (B q))))]) 0 [(0, .ref h)] []
  refine g_aload_n X d_LG_nextByte_0 0 rfl ?_
  refine g_aload_n X d_LG_nextByte_1 0 rfl ?_
  refine g_getf (k := 2) X d_LG_nextByte_2 (hl_w 0 rfl hn) rfl i_LG (by decide) k_fl_LG_36 (fun _ h => h) rfl ?_
  refine h_callV (As := [.int (nI av)]) (st := []) [0, 1] [(h, .inr (1, [.ref b, .int (nI u), .int (nI av), .int (nI es), .long ke, .int (nI sz), .long va])), (b, .inl (.byte, 1024, .inl (fun q => sb_b (B q))))] X d_LG_nextByte_5 (c_LG_read_out hst hn hB hu (by omega) (by omega)) (hl_w 0 rfl hn) rfl rfl k_ml_LG_67 k_cd_LG_read k_in_LG k_im_LG_read k_se_LG_read ⟨by decide +kernel, by decide +kernel, (by decide +kernel : (parseMethodDescriptor y_LG_read.desc).map (fun d => d.parameters.length) = some 1)⟩ ⟨Nat.le_of_ble_eq_true rfl, Nat.le_of_ble_eq_true rfl⟩ ⟨Nat.le_of_ble_eq_true rfl, Nat.le_of_ble_eq_true rfl⟩ (Nat.le_of_ble_eq_true rfl) hn rfl rfl rfl hp_no hp_no2 ?_
  refine g_istore_n [(1, .int (-1)), (0, .ref h)] X d_LG_nextByte_8 (by decide) rfl ?_
  refine g_iload_n X d_LG_nextByte_9 0 rfl ?_
  refine g_iconst (-1) X d_LG_nextByte_10 (by decide) ?_
  refine g_icmp_eq 34 X d_LG_nextByte_11 (by decide) (fun h11 => ?_) (fun h11 => ?_)
  · refine g_iload_n X d_LG_nextByte_34 0 rfl ?_
    exact g_iret X hr d_LG_nextByte_35 (Nat.le_of_ble_eq_true rfl) (Nat.le_of_ble_eq_true rfl) (fh_ret_i)
  · exact absurd rfl h11

set_option maxRecDepth 100000 in
set_option maxHeartbeats 4000000 in
theorem c_LG_refuseLength {l : Launch} (hst : l.stackTraces = false) {h b u av es sz : Nat} {ke va : Int64} {B : Nat → Nat} (hn : [h, b].Nodup) (hB : ∀ q, B q < 256) (hu : u ≤ 1024) : fh_C l fhCl fhT y_LG_refuseLength (.code y_LG_refuseLength b_LG_refuseLength 1 none) 0 0 [.ref h] (hp [(h, .inr (1, [.ref b, .int (nI u), .int (nI av), .int (nI es), .long ke, .int (nI sz), .long va])), (b, .inl (.byte, 1024, .inl (fun q => sb_b (B q))))]) (hp []) 0 0 (fh_ret none [(h, .inr (1, [.ref b, .int (nI u), .int (nI av), .int (nI es), .long ke, .int (nI sz), .long va])), (b, .inl (.byte, 1024, .inl (fun q => sb_b (B q))))]) := by
  refine fh_enter (by decide) hst (Nat.le_of_ble_eq_true rfl) ?_
  intro D mp me sm mm margs mbel mmet mcod X hr hnm hno hf0
  show fh_G mp l me (fh_rm 0 0 0 0) sm mm margs mbel mmet mcod D fhCl (hp [(h, .inr (1, [.ref b, .int (nI u), .int (nI av), .int (nI es), .long ke, .int (nI sz), .long va])), (b, .inl (.byte, 1024, .inl (fun q => sb_b (B q))))]) 1 _ 0 0 (hp [(h, .inr (1, [.ref b, .int (nI u), .int (nI av), .int (nI es), .long ke, .int (nI sz), .long va])), (b, .inl (.byte, 1024, .inl (fun q => sb_b (B q))))]) 0 [(0, .ref h)] []
  exact g_vret X hr d_LG_refuseLength_0 (Nat.le_of_ble_eq_true rfl) (Nat.le_of_ble_eq_true rfl) (fh_ret_i)
