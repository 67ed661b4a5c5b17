set_option maxRecDepth 100000 in
set_option maxHeartbeats 4000000 in
/-- the length of an entry -/
theorem c_RS_entryBytes {l : Launch} (hst : l.stackTraces = false) {n : Nat} (hn : n < 256) : fh_C l fhCl fhT y_RS_entryBytes (.code y_RS_entryBytes b_RS_entryBytes 1 (some .int)) 0 0 [.int (nI n)] (hp []) (hp []) 0 0 (fh_ret (some (.int (nI (ebn n)))) []) := by
  refine fh_enter (by decide) hst (Nat.le_of_ble_eq_true rfl) ?_
  intro D mp me sm mm margs mbel mmet mcod X hr hnm hno hf0
  show fh_G mp l me (fh_rm 0 0 0 0) sm mm margs mbel mmet mcod D fhCl (hp []) 1 _ 0 0 (hp []) 0 [(0, .int (nI n))] []
  refine g_iload_n X d_RS_entryBytes_0 0 rfl ?_
  refine g_sipush (nI 255) X d_RS_entryBytes_1 (by decide) ?_
  refine g_icmp_ne 12 X d_RS_entryBytes_4 (by decide) (fun h4 => ?_) (fun h4 => ?_)
  · have h4 := cv_ne (by omega) (by omega) h4
    refine g_bipush (nI 9) X d_RS_entryBytes_12 (by decide) ?_
    refine g_iload_n X d_RS_entryBytes_14 0 rfl ?_
    refine g_iadd X d_RS_entryBytes_15 ?_
    refine g_vi (nI (9 + n)) (nI_add _ _) ?_
    exact g_iret X hr d_RS_entryBytes_16 (Nat.le_of_ble_eq_true rfl) (Nat.le_of_ble_eq_true rfl) (⟨by rw [ebn, if_neg h4], rfl⟩)
  · have h4 := cv_eq (by omega) (by omega) h4
    refine g_bipush (nI 9) X d_RS_entryBytes_7 (by decide) ?_
    refine g_goto 16 X d_RS_entryBytes_9 (by decide) ?_
    exact g_iret X hr d_RS_entryBytes_16 (Nat.le_of_ble_eq_true rfl) (Nat.le_of_ble_eq_true rfl) (⟨by rw [ebn, if_pos h4], rfl⟩)

set_option maxRecDepth 100000 in
set_option maxHeartbeats 4000000 in
theorem c_RS_filterBits {l : Launch} (hst : l.stackTraces = false) {k : Int64} : fh_C l fhCl fhT y_RS_filterBits (.code y_RS_filterBits b_RS_filterBits 4 (some .long)) 0 0 [.long k] (hp []) (hp []) 0 0 (fh_ret (some (.long (fbits k))) []) := by
  refine fh_enter (by decide) hst (Nat.le_of_ble_eq_true rfl) ?_
  intro D mp me sm mm margs mbel mmet mcod X hr hnm hno hf0
  show fh_G mp l me (fh_rm 0 0 0 0) sm mm margs mbel mmet mcod D fhCl (hp []) 4 _ 0 0 (hp []) 0 [(0, .long k)] []
  refine g_lload_n X d_RS_filterBits_0 0 rfl ?_
  refine g_ldc2 X d_RS_filterBits_1 k_ct_RS_290 ?_
  refine g_lmul X d_RS_filterBits_4 ?_
  refine g_lstore_n [(2, .long (k * (-7046029254386353131))), (0, .long k)] X d_RS_filterBits_5 (by decide) rfl ?_
  refine g_lconst 1 X d_RS_filterBits_6 (by decide) ?_
  refine g_lload_n X d_RS_filterBits_7 0 rfl ?_
  refine g_bipush (nI 58) X d_RS_filterBits_8 (by decide) ?_
  refine g_lushr X d_RS_filterBits_10 ?_
  refine g_l2i X d_RS_filterBits_11 ?_
  refine g_lshl X d_RS_filterBits_12 ?_
  refine g_lconst 1 X d_RS_filterBits_13 (by decide) ?_
  refine g_lload_n X d_RS_filterBits_14 0 rfl ?_
  refine g_bipush (nI 52) X d_RS_filterBits_15 (by decide) ?_
  refine g_lushr X d_RS_filterBits_17 ?_
  refine g_ldc2 X d_RS_filterBits_18 k_ct_RS_292 ?_
  refine g_land X d_RS_filterBits_21 ?_
  refine g_l2i X d_RS_filterBits_22 ?_
  refine g_lshl X d_RS_filterBits_23 ?_
  refine g_lor X d_RS_filterBits_24 ?_
  exact g_lret X hr d_RS_filterBits_25 (Nat.le_of_ble_eq_true rfl) (Nat.le_of_ble_eq_true rfl) (⟨rfl, rfl⟩)

set_option maxRecDepth 100000 in
set_option maxHeartbeats 4000000 in
theorem c_RS_lowestBytes {l : Launch} (hst : l.stackTraces = false) {v : Int64} {n : Nat} (hn : n ≤ 8) : fh_C l fhCl fhT y_RS_lowestBytes (.code y_RS_lowestBytes b_RS_lowestBytes 3 (some .long)) 0 0 [.long v, .int (nI n)] (hp []) (hp []) 0 0 (fh_ret (some (.long (lowb v n))) []) := by
  refine fh_enter (by decide) hst (Nat.le_of_ble_eq_true rfl) ?_
  intro D mp me sm mm margs mbel mmet mcod X hr hnm hno hf0
  show fh_G mp l me (fh_rm 0 0 0 0) sm mm margs mbel mmet mcod D fhCl (hp []) 3 _ 0 0 (hp []) 0 [(0, .long v), (2, .int (nI n))] []
  refine g_iload_n X d_RS_lowestBytes_0 1 rfl ?_
  refine g_bipush (nI 8) X d_RS_lowestBytes_1 (by decide) ?_
  refine g_icmp_lt 10 X d_RS_lowestBytes_3 (by decide) (fun h3 => ?_) (fun h3 => ?_)
  · have h3 := cv_lt (by omega) (by omega) h3
    refine g_lload_n X d_RS_lowestBytes_10 0 rfl ?_
    refine g_lconst 1 X d_RS_lowestBytes_11 (by decide) ?_
    refine g_bipush (nI 8) X d_RS_lowestBytes_12 (by decide) ?_
    refine g_iload_n X d_RS_lowestBytes_14 1 rfl ?_
    refine g_imul X d_RS_lowestBytes_15 ?_
    refine g_vi (nI (8 * n)) (pk_mul _ _) ?_
    refine g_lshl X d_RS_lowestBytes_16 ?_
    refine g_lconst 1 X d_RS_lowestBytes_17 (by decide) ?_
    refine g_lsub X d_RS_lowestBytes_18 ?_
    refine g_land X d_RS_lowestBytes_19 ?_
    exact g_lret X hr d_RS_lowestBytes_20 (Nat.le_of_ble_eq_true rfl) (Nat.le_of_ble_eq_true rfl) (⟨by rw [lowb, if_neg (by omega)], rfl⟩)
  · have h3 := cv_nlt (by omega) (by omega) h3
    refine g_lload_n X d_RS_lowestBytes_6 0 rfl ?_
    refine g_goto 20 X d_RS_lowestBytes_7 (by decide) ?_
    exact g_lret X hr d_RS_lowestBytes_20 (Nat.le_of_ble_eq_true rfl) (Nat.le_of_ble_eq_true rfl) (⟨by rw [lowb, if_pos h3], rfl⟩)

set_option maxRecDepth 100000 in
set_option maxHeartbeats 4000000 in
theorem c_RS_entryByte {l : Launch} (hst : l.stackTraces = false) {k v : Int64} {n i : Nat} (hn : okn n) (hi : i < ebn n) : fh_C l fhCl fhT y_RS_entryByte (.code y_RS_entryByte b_RS_entryByte 6 (some .int)) 1 20 [.long k, .int (nI n), .long v, .int (nI i)] (hp []) (hp []) 0 0 (fh_ret (some (.int (nI (ebt k n v i)))) []) := by
  refine fh_enter (by decide) hst (Nat.le_of_ble_eq_true rfl) ?_
  intro D mp me sm mm margs mbel mmet mcod X hr hnm hno hf0
  show fh_G mp l me (fh_rm 1 20 0 0) sm mm margs mbel mmet mcod D fhCl (hp []) 6 _ 0 0 (hp []) 0 [(0, .long k), (2, .int (nI n)), (3, .long v), (5, .int (nI i))] []
  have h7 : ebn n ≤ 17 := ebn_le hn
  refine g_iload X d_RS_entryByte_0 3 rfl ?_
  refine g_bipush (nI 8) X d_RS_entryByte_2 (by decide) ?_
  refine g_icmp_ge 23 X d_RS_entryByte_4 (by decide) (fun h4 => ?_) (fun h4 => ?_)
  · have h4 := cv_le (by omega) (by omega) h4
    refine g_iload X d_RS_entryByte_23 3 rfl ?_
    refine g_bipush (nI 8) X d_RS_entryByte_25 (by decide) ?_
    refine g_icmp_ne 32 X d_RS_entryByte_27 (by decide) (fun h27 => ?_) (fun h27 => ?_)
    · have h27 := cv_ne (by omega) (by omega) h27
      refine g_lload_n X d_RS_entryByte_32 2 rfl ?_
      refine g_bipush (nI 8) X d_RS_entryByte_33 (by decide) ?_
      refine g_iload_n X d_RS_entryByte_35 1 rfl ?_
      refine h_callS (As := [.int (nI n)]) (st := [.int (nI 8), .long v]) [] [] X d_RS_entryByte_36 (c_RS_entryBytes hst (by rcases hn with h | h <;> omega)) rfl k_ml_RS_287 k_cd_RS_entryBytes k_in_RS k_st_RS_entryBytes ⟨by decide +kernel, by decide +kernel, (by decide +kernel : (parseMethodDescriptor y_RS_entryBytes.desc).map (fun d => d.parameters.length) = some 1)⟩ ⟨Nat.le_of_ble_eq_true rfl, Nat.le_of_ble_eq_true rfl⟩ ⟨Nat.le_of_ble_eq_true rfl, Nat.le_of_ble_eq_true rfl⟩ (Nat.le_of_ble_eq_true rfl) (List.nodup_nil) rfl rfl rfl hp_no hp_no2 ?_
      have h9 := ebn_ge n
      have h8 := ebn_le hn
      refine g_iconst (nI 1) X d_RS_entryByte_39 (by decide) ?_
      refine g_isub X d_RS_entryByte_40 ?_
      refine g_vi (nI ((ebn n) - 1)) (pk_sub (by omega)) ?_
      refine g_iload X d_RS_entryByte_41 3 rfl ?_
      refine g_isub X d_RS_entryByte_43 ?_
      refine g_vi (nI (((ebn n) - 1) - i)) (pk_sub (by omega)) ?_
      refine g_imul X d_RS_entryByte_44 ?_
      refine g_vi (nI (8 * (((ebn n) - 1) - i))) (pk_mul _ _) ?_
      refine g_lushr X d_RS_entryByte_45 ?_
      refine g_l2i X d_RS_entryByte_46 ?_
      refine g_sipush (nI 255) X d_RS_entryByte_47 (by decide) ?_
      refine g_iand X d_RS_entryByte_50 ?_
      refine g_vi (nI (byt v (ebn n - 1 - i))) (byt_sh v (by have := ebn_le hn; omega)) ?_
      exact g_iret X hr d_RS_entryByte_51 (Nat.le_of_ble_eq_true rfl) (Nat.le_of_ble_eq_true rfl) (⟨by rw [ebt, if_neg (by omega), if_neg h27], rfl⟩)
    · have h27 := cv_eq (by omega) (by omega) h27
      refine g_iload_n X d_RS_entryByte_30 1 rfl ?_
      exact g_iret X hr d_RS_entryByte_31 (Nat.le_of_ble_eq_true rfl) (Nat.le_of_ble_eq_true rfl) (⟨by rw [ebt, if_neg (by omega), if_pos h27], rfl⟩)
  · have h4 := cv_nle (by omega) (by omega) h4
    refine g_lload_n X d_RS_entryByte_7 0 rfl ?_
    refine g_bipush (nI 8) X d_RS_entryByte_8 (by decide) ?_
    refine g_bipush (nI 7) X d_RS_entryByte_10 (by decide) ?_
    refine g_iload X d_RS_entryByte_12 3 rfl ?_
    refine g_isub X d_RS_entryByte_14 ?_
    refine g_vi (nI (7 - i)) (pk_sub (by omega)) ?_
    refine g_imul X d_RS_entryByte_15 ?_
    refine g_vi (nI (8 * (7 - i))) (pk_mul _ _) ?_
    refine g_lushr X d_RS_entryByte_16 ?_
    refine g_l2i X d_RS_entryByte_17 ?_
    refine g_sipush (nI 255) X d_RS_entryByte_18 (by decide) ?_
    refine g_iand X d_RS_entryByte_21 ?_
    refine g_vi (nI (byt k (7 - i))) (byt_sh k (by omega)) ?_
    exact g_iret X hr d_RS_entryByte_22 (Nat.le_of_ble_eq_true rfl) (Nat.le_of_ble_eq_true rfl) (⟨by rw [ebt, if_pos h4], rfl⟩)
