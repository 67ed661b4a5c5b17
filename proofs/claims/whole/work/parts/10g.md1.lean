set_option maxRecDepth 100000 in
set_option maxHeartbeats 1000000 in
theorem c_MD_thrown {l : Launch} (hst : l.stackTraces = false) {h y1 y2 y3 y4 y5 y6 y7 y8 y9 y10 y11 y12 y13 y14 y15 y16 y17 M n u c pa el fn js : Nat} {th bd ck ps lc : Int32} {fb ib : Bool} {ek ev : Int64} (hn : [h].Nodup)  : fh_C l fhCl fhT y_MD_thrown (.code y_MD_thrown b_MD_thrown 1 (some .int)) 0 0 [.ref h] (hp [(h, .inr (6, [.int th, .int (nI M), .int (nI n), .ref y1, .ref y2, .ref y3, .int (nI u), .ref y4, .ref y5, .ref y6, .ref y7, .int (nI c), .ref y8, .ref y9, .ref y10, .ref y11, .ref y12, .int bd, .int ck, .int ps, .int (nI pa), .int lc, .int (nI (b2n fb)), .long ek, .long ev, .int (nI el), .int (nI fn), .ref y13, .ref y14, .ref y15, .ref y16, .int (nI js), .ref y17, .int (nI (b2n ib))]))]) (hp []) 0 0 (fh_ret (some (.int (th))) [(h, .inr (6, [.int th, .int (nI M), .int (nI n), .ref y1, .ref y2, .ref y3, .int (nI u), .ref y4, .ref y5, .ref y6, .ref y7, .int (nI c), .ref y8, .ref y9, .ref y10, .ref y11, .ref y12, .int bd, .int ck, .int ps, .int (nI pa), .int lc, .int (nI (b2n fb)), .long ek, .long ev, .int (nI el), .int (nI fn), .ref y13, .ref y14, .ref y15, .ref y16, .int (nI js), .ref y17, .int (nI (b2n ib))]))]) := by
  refine fh_enter (by decide) hst (Nat.le_of_ble_eq_true rfl) ?_
  intro mD mp me sm mm margs mbel mmet mcod X hr hnm hno hf0
  show fh_G mp l me (fh_rm 0 0 0 0) sm mm margs mbel mmet mcod mD fhCl (hp [(h, .inr (6, [.int th, .int (nI M), .int (nI n), .ref y1, .ref y2, .ref y3, .int (nI u), .ref y4, .ref y5, .ref y6, .ref y7, .int (nI c), .ref y8, .ref y9, .ref y10, .ref y11, .ref y12, .int bd, .int ck, .int ps, .int (nI pa), .int lc, .int (nI (b2n fb)), .long ek, .long ev, .int (nI el), .int (nI fn), .ref y13, .ref y14, .ref y15, .ref y16, .int (nI js), .ref y17, .int (nI (b2n ib))]))]) 1 _ 0 0 (hp [(h, .inr (6, [.int th, .int (nI M), .int (nI n), .ref y1, .ref y2, .ref y3, .int (nI u), .ref y4, .ref y5, .ref y6, .ref y7, .int (nI c), .ref y8, .ref y9, .ref y10, .ref y11, .ref y12, .int bd, .int ck, .int ps, .int (nI pa), .int lc, .int (nI (b2n fb)), .long ek, .long ev, .int (nI el), .int (nI fn), .ref y13, .ref y14, .ref y15, .ref y16, .int (nI js), .ref y17, .int (nI (b2n ib))]))]) 0 [(0, .ref h)] []
  refine g_aload_n X d_MD_thrown_0 0 rfl ?_
  refine g_getf (k := 0) X d_MD_thrown_1 (hl_w 0 rfl hn) rfl i_MD (by decide) k_fl_MD_70 (fun _ h => h) rfl ?_
  exact g_iret X hr d_MD_thrown_4 (Nat.le_of_ble_eq_true rfl) (Nat.le_of_ble_eq_true rfl) (fh_ret_i)

set_option maxRecDepth 100000 in
set_option maxHeartbeats 1000000 in
theorem c_MD_fail {l : Launch} (hst : l.stackTraces = false) {h y1 y2 y3 y4 y5 y6 y7 y8 y9 y10 y11 y12 y13 y14 y15 y16 y17 M n u c pa el fn js : Nat} {th bd ck ps lc : Int32} {fb ib : Bool} {ek ev : Int64} (hn : [h].Nodup) {v9 : Int32} : fh_C l fhCl fhT y_MD_fail (.code y_MD_fail b_MD_fail 2 (some .int)) 0 0 [.ref h, .int v9] (hp [(h, .inr (6, [.int th, .int (nI M), .int (nI n), .ref y1, .ref y2, .ref y3, .int (nI u), .ref y4, .ref y5, .ref y6, .ref y7, .int (nI c), .ref y8, .ref y9, .ref y10, .ref y11, .ref y12, .int bd, .int ck, .int ps, .int (nI pa), .int lc, .int (nI (b2n fb)), .long ek, .long ev, .int (nI el), .int (nI fn), .ref y13, .ref y14, .ref y15, .ref y16, .int (nI js), .ref y17, .int (nI (b2n ib))]))]) (hp []) 0 0 (fh_ret (some (.int (nI 0))) [(h, .inr (6, [.int v9, .int (nI M), .int (nI n), .ref y1, .ref y2, .ref y3, .int (nI u), .ref y4, .ref y5, .ref y6, .ref y7, .int (nI c), .ref y8, .ref y9, .ref y10, .ref y11, .ref y12, .int bd, .int ck, .int ps, .int (nI pa), .int lc, .int (nI (b2n fb)), .long ek, .long ev, .int (nI el), .int (nI fn), .ref y13, .ref y14, .ref y15, .ref y16, .int (nI js), .ref y17, .int (nI (b2n ib))]))]) := by
  refine fh_enter (by decide) hst (Nat.le_of_ble_eq_true rfl) ?_
  intro mD mp me sm mm margs mbel mmet mcod X hr hnm hno hf0
  show fh_G mp l me (fh_rm 0 0 0 0) sm mm margs mbel mmet mcod mD fhCl (hp [(h, .inr (6, [.int th, .int (nI M), .int (nI n), .ref y1, .ref y2, .ref y3, .int (nI u), .ref y4, .ref y5, .ref y6, .ref y7, .int (nI c), .ref y8, .ref y9, .ref y10, .ref y11, .ref y12, .int bd, .int ck, .int ps, .int (nI pa), .int lc, .int (nI (b2n fb)), .long ek, .long ev, .int (nI el), .int (nI fn), .ref y13, .ref y14, .ref y15, .ref y16, .int (nI js), .ref y17, .int (nI (b2n ib))]))]) 2 _ 0 0 (hp [(h, .inr (6, [.int th, .int (nI M), .int (nI n), .ref y1, .ref y2, .ref y3, .int (nI u), .ref y4, .ref y5, .ref y6, .ref y7, .int (nI c), .ref y8, .ref y9, .ref y10, .ref y11, .ref y12, .int bd, .int ck, .int ps, .int (nI pa), .int lc, .int (nI (b2n fb)), .long ek, .long ev, .int (nI el), .int (nI fn), .ref y13, .ref y14, .ref y15, .ref y16, .int (nI js), .ref y17, .int (nI (b2n ib))]))]) 0 [(0, .ref h), (1, .int v9)] []
  refine g_aload_n X d_MD_fail_0 0 rfl ?_
  refine g_iload_n X d_MD_fail_1 1 rfl ?_
  refine h_putf (k := 0) (ty := .int) 0 [(h, .inr (6, [.int v9, .int (nI M), .int (nI n), .ref y1, .ref y2, .ref y3, .int (nI u), .ref y4, .ref y5, .ref y6, .ref y7, .int (nI c), .ref y8, .ref y9, .ref y10, .ref y11, .ref y12, .int bd, .int ck, .int ps, .int (nI pa), .int lc, .int (nI (b2n fb)), .long ek, .long ev, .int (nI el), .int (nI fn), .ref y13, .ref y14, .ref y15, .ref y16, .int (nI js), .ref y17, .int (nI (b2n ib))]))] X d_MD_fail_2 hn rfl rfl i_MD t_MD t_MD_ok n_MD (by decide) k_fl_MD_70 (fun _ h => h) rfl (by decide +kernel) rfl rfl (Nat.le_of_ble_eq_true rfl) rfl ?_
  refine g_iconst (nI 0) X d_MD_fail_5 (by decide) ?_
  exact g_iret X hr d_MD_fail_6 (Nat.le_of_ble_eq_true rfl) (Nat.le_of_ble_eq_true rfl) (fh_ret_i)

set_option maxRecDepth 100000 in
set_option maxHeartbeats 1000000 in
theorem c_MD_within {l : Launch} (hst : l.stackTraces = false)  {v a b : Int32} : fh_C l fhCl fhT y_MD_within (.code y_MD_within b_MD_within 3 (some .boolean)) 0 0 [.int v, .int a, .int b] (hp []) (hp []) 0 0 (fh_ret (some (.int (nI (b2n (wnb v a b))))) []) := by
  refine fh_enter (by decide) hst (Nat.le_of_ble_eq_true rfl) ?_
  intro mD mp me sm mm margs mbel mmet mcod X hr hnm hno hf0
  show fh_G mp l me (fh_rm 0 0 0 0) sm mm margs mbel mmet mcod mD fhCl (hp []) 3 _ 0 0 (hp []) 0 [(0, .int v), (1, .int a), (2, .int b)] []
  refine g_iload_n X d_MD_within_0 0 rfl ?_
  refine g_iload_n X d_MD_within_1 1 rfl ?_
  refine g_icmp_lt 14 X d_MD_within_2 (by decide) (fun h2 => ?_) (fun h2 => ?_)
  · have hw9 : wnb v a b = false := wnb_1 h2
    refine g_iconst (nI 0) X d_MD_within_14 (by decide) ?_
    exact g_zret X hr rfl d_MD_within_15 (Nat.le_of_ble_eq_true rfl) (Nat.le_of_ble_eq_true rfl) (⟨by rw [hw9]; rfl, rfl⟩)
  · refine g_iload_n X d_MD_within_5 0 rfl ?_
    refine g_iload_n X d_MD_within_6 2 rfl ?_
    refine g_icmp_gt 14 X d_MD_within_7 (by decide) (fun h7 => ?_) (fun h7 => ?_)
    · have hw9 : wnb v a b = false := wnb_2 h7
      refine g_iconst (nI 0) X d_MD_within_14 (by decide) ?_
      exact g_zret X hr rfl d_MD_within_15 (Nat.le_of_ble_eq_true rfl) (Nat.le_of_ble_eq_true rfl) (⟨by rw [hw9]; rfl, rfl⟩)
    · have hw9 : wnb v a b = true := wnb_t h2 h7
      refine g_iconst (nI 1) X d_MD_within_10 (by decide) ?_
      refine g_goto 15 X d_MD_within_11 (by decide) ?_
      exact g_zret X hr rfl d_MD_within_15 (Nat.le_of_ble_eq_true rfl) (Nat.le_of_ble_eq_true rfl) (⟨by rw [hw9]; rfl, rfl⟩)

set_option maxRecDepth 100000 in
set_option maxHeartbeats 1000000 in
theorem c_MD_bytesOf {l : Launch} (hst : l.stackTraces = false)  {m : Nat} (hm : m < 256) : fh_C l fhCl fhT y_MD_bytesOf (.code y_MD_bytesOf b_MD_bytesOf 1 (some .int)) 0 0 [.int (nI m)] (hp []) (hp []) 0 0 (fh_ret (some (.int (nI (bOf m)))) []) := by
  refine fh_enter (by decide) hst (Nat.le_of_ble_eq_true rfl) ?_
  intro mD mp me sm mm margs mbel mmet mcod X hr hnm hno hf0
  show fh_G mp l me (fh_rm 0 0 0 0) sm mm margs mbel mmet mcod mD fhCl (hp []) 1 _ 0 0 (hp []) 0 [(0, .int (nI m))] []
  refine g_iload_n X d_MD_bytesOf_0 0 rfl ?_
  refine g_sipush (nI 255) X d_MD_bytesOf_1 (by decide) ?_
  refine g_icmp_ne 11 X d_MD_bytesOf_4 (by decide) (fun h4 => ?_) (fun h4 => ?_)
  · have h4 := cv_ne (by omega) (by omega) h4
    have hw9 : bOf m = m := if_neg h4
    refine g_iload_n X d_MD_bytesOf_11 0 rfl ?_
    exact g_iret X hr d_MD_bytesOf_12 (Nat.le_of_ble_eq_true rfl) (Nat.le_of_ble_eq_true rfl) (⟨by rw [hw9], rfl⟩)
  · have h4 := cv_eq (by omega) (by omega) h4
    have hw9 : bOf m = 0 := if_pos h4
    refine g_iconst (nI 0) X d_MD_bytesOf_7 (by decide) ?_
    refine g_goto 12 X d_MD_bytesOf_8 (by decide) ?_
    exact g_iret X hr d_MD_bytesOf_12 (Nat.le_of_ble_eq_true rfl) (Nat.le_of_ble_eq_true rfl) (⟨by rw [hw9], rfl⟩)

set_option maxRecDepth 100000 in
set_option maxHeartbeats 1000000 in
theorem c_MD_byteOf {l : Launch} (hst : l.stackTraces = false)  {v : Int64} {m j : Nat} (hm : m ≤ 8) (hj : j < m) : fh_C l fhCl fhT y_MD_byteOf (.code y_MD_byteOf b_MD_byteOf 4 (some .int)) 0 0 [.long v, .int (nI m), .int (nI j)] (hp []) (hp []) 0 0 (fh_ret (some (.int (nI (byt v (m - 1 - j))))) []) := by
  refine fh_enter (by decide) hst (Nat.le_of_ble_eq_true rfl) ?_
  intro mD mp me sm mm margs mbel mmet mcod X hr hnm hno hf0
  show fh_G mp l me (fh_rm 0 0 0 0) sm mm margs mbel mmet mcod mD fhCl (hp []) 4 _ 0 0 (hp []) 0 [(0, .long v), (2, .int (nI m)), (3, .int (nI j))] []
  refine g_lload_n X d_MD_byteOf_0 0 rfl ?_
  refine g_bipush (nI 8) X d_MD_byteOf_1 (by decide) ?_
  refine g_iload_n X d_MD_byteOf_3 1 rfl ?_
  refine g_iconst (nI 1) X d_MD_byteOf_4 (by decide) ?_
  refine g_isub X d_MD_byteOf_5 ?_
  refine g_vi (nI (m - 1)) (pk_sub (by omega)) ?_
  refine g_iload_n X d_MD_byteOf_6 2 rfl ?_
  refine g_isub X d_MD_byteOf_7 ?_
  refine g_vi (nI ((m - 1) - j)) (pk_sub (by omega)) ?_
  refine g_imul X d_MD_byteOf_8 ?_
  refine g_vi (nI (8 * ((m - 1) - j))) (pk_mul _ _) ?_
  refine g_lshr X d_MD_byteOf_9 ?_
  refine g_ldc2 X d_MD_byteOf_10 k_ct_MD_91 ?_
  refine g_land X d_MD_byteOf_13 ?_
  refine g_l2i X d_MD_byteOf_14 ?_
  refine g_vi (nI (byt v (m - 1 - j))) (byt_sar v (by omega)) ?_
  exact g_iret X hr d_MD_byteOf_15 (Nat.le_of_ble_eq_true rfl) (Nat.le_of_ble_eq_true rfl) (fh_ret_i)

set_option maxRecDepth 100000 in
set_option maxHeartbeats 1000000 in
theorem c_MD_lowest {l : Launch} (hst : l.stackTraces = false)  {v : Int64} {m : Nat} (hm : m ≤ 8) : fh_C l fhCl fhT y_MD_lowest (.code y_MD_lowest b_MD_lowest 3 (some .long)) 0 0 [.long v, .int (nI m)] (hp []) (hp []) 0 0 (fh_ret (some (.long (lowb v m))) []) := by
  refine fh_enter (by decide) hst (Nat.le_of_ble_eq_true rfl) ?_
  intro mD mp me sm mm margs mbel mmet mcod X hr hnm hno hf0
  show fh_G mp l me (fh_rm 0 0 0 0) sm mm margs mbel mmet mcod mD fhCl (hp []) 3 _ 0 0 (hp []) 0 [(0, .long v), (2, .int (nI m))] []
  refine g_iload_n X d_MD_lowest_0 1 rfl ?_
  refine g_bipush (nI 8) X d_MD_lowest_1 (by decide) ?_
  refine g_icmp_ne 10 X d_MD_lowest_3 (by decide) (fun h3 => ?_) (fun h3 => ?_)
  · have h3 := cv_ne (by omega) (by omega) h3
    refine g_iload_n X d_MD_lowest_10 1 rfl ?_
    refine g_if_ne 18 X d_MD_lowest_11 (by decide) (fun h11 => ?_) (fun h11 => ?_)
    · have h11 := cv_n0 (by omega) h11
      have hw9 : lowb v m = _ := if_neg (by omega)
      refine g_lload_n X d_MD_lowest_18 0 rfl ?_
      refine g_lconst 1 X d_MD_lowest_19 (by decide) ?_
      refine g_bipush (nI 8) X d_MD_lowest_20 (by decide) ?_
      refine g_iload_n X d_MD_lowest_22 1 rfl ?_
      refine g_imul X d_MD_lowest_23 ?_
      refine g_vi (nI (8 * m)) (pk_mul _ _) ?_
      refine g_lshl X d_MD_lowest_24 ?_
      refine g_lconst 1 X d_MD_lowest_25 (by decide) ?_
      refine g_lsub X d_MD_lowest_26 ?_
      refine g_land X d_MD_lowest_27 ?_
      exact g_lret X hr d_MD_lowest_28 (Nat.le_of_ble_eq_true rfl) (Nat.le_of_ble_eq_true rfl) (⟨by rw [hw9], rfl⟩)
    · have h11 := cv_e0 (by omega) h11
      have hw9 : lowb v m = 0 := by rw [h11]; exact lowb_0 v
      refine g_lconst 0 X d_MD_lowest_14 (by decide) ?_
      refine g_goto 28 X d_MD_lowest_15 (by decide) ?_
      exact g_lret X hr d_MD_lowest_28 (Nat.le_of_ble_eq_true rfl) (Nat.le_of_ble_eq_true rfl) (⟨by rw [hw9], rfl⟩)
  · have h3 := cv_eq (by omega) (by omega) h3
    have hw9 : lowb v m = v := if_pos (by omega)
    refine g_lload_n X d_MD_lowest_6 0 rfl ?_
    refine g_goto 28 X d_MD_lowest_7 (by decide) ?_
    exact g_lret X hr d_MD_lowest_28 (Nat.le_of_ble_eq_true rfl) (Nat.le_of_ble_eq_true rfl) (⟨by rw [hw9], rfl⟩)

set_option maxRecDepth 100000 in
set_option maxHeartbeats 1000000 in
theorem c_MD_bitsOf {l : Launch} (hst : l.stackTraces = false)  {k : Int64} : fh_C l fhCl fhT y_MD_bitsOf (.code y_MD_bitsOf b_MD_bitsOf 4 (some .long)) 0 0 [.long k] (hp []) (hp []) 0 0 (fh_ret (some (.long (fbits k))) []) := by
  refine fh_enter (by decide) hst (Nat.le_of_ble_eq_true rfl) ?_
  intro mD mp me sm mm margs mbel mmet mcod X hr hnm hno hf0
  show fh_G mp l me (fh_rm 0 0 0 0) sm mm margs mbel mmet mcod mD fhCl (hp []) 4 _ 0 0 (hp []) 0 [(0, .long k)] []
  refine g_lload_n X d_MD_bitsOf_0 0 rfl ?_
  refine g_ldc2 X d_MD_bitsOf_1 k_ct_MD_127 ?_
  refine g_lmul X d_MD_bitsOf_4 ?_
  refine g_lstore_n [(2, .long (k * (-7046029254386353131))), (0, .long k)] X d_MD_bitsOf_5 (by decide) rfl ?_
  refine g_lconst 1 X d_MD_bitsOf_6 (by decide) ?_
  refine g_lload_n X d_MD_bitsOf_7 0 rfl ?_
  refine g_bipush (nI 58) X d_MD_bitsOf_8 (by decide) ?_
  refine g_lushr X d_MD_bitsOf_10 ?_
  refine g_l2i X d_MD_bitsOf_11 ?_
  refine g_lshl X d_MD_bitsOf_12 ?_
  refine g_lconst 1 X d_MD_bitsOf_13 (by decide) ?_
  refine g_lload_n X d_MD_bitsOf_14 0 rfl ?_
  refine g_bipush (nI 52) X d_MD_bitsOf_15 (by decide) ?_
  refine g_lushr X d_MD_bitsOf_17 ?_
  refine g_l2i X d_MD_bitsOf_18 ?_
  refine g_bipush (nI 63) X d_MD_bitsOf_19 (by decide) ?_
  refine g_iand X d_MD_bitsOf_21 ?_
  refine g_lshl X d_MD_bitsOf_22 ?_
  refine g_lor X d_MD_bitsOf_23 ?_
  exact g_lret X hr d_MD_bitsOf_24 (Nat.le_of_ble_eq_true rfl) (Nat.le_of_ble_eq_true rfl) (⟨by rw [fbits, ← and63], rfl⟩)

set_option maxRecDepth 100000 in
set_option maxHeartbeats 1000000 in
theorem c_MD_blocksOf {l : Launch} (hst : l.stackTraces = false)  {m : Nat} (hm : m < 2 ^ 20) : fh_C l fhCl fhT y_MD_blocksOf (.code y_MD_blocksOf b_MD_blocksOf 1 (some .int)) 0 0 [.int (nI m)] (hp []) (hp []) 0 0 (fh_ret (some (.int (nI ((m + 32 - 1) / 32)))) []) := by
  refine fh_enter (by decide) hst (Nat.le_of_ble_eq_true rfl) ?_
  intro mD mp me sm mm margs mbel mmet mcod X hr hnm hno hf0
  show fh_G mp l me (fh_rm 0 0 0 0) sm mm margs mbel mmet mcod mD fhCl (hp []) 1 _ 0 0 (hp []) 0 [(0, .int (nI m))] []
  refine g_iload_n X d_MD_blocksOf_0 0 rfl ?_
  refine g_bipush (nI 32) X d_MD_blocksOf_1 (by decide) ?_
  refine g_iadd X d_MD_blocksOf_3 ?_
  refine g_vi (nI (m + 32)) (nI_add _ _) ?_
  refine g_iconst (nI 1) X d_MD_blocksOf_4 (by decide) ?_
  refine g_isub X d_MD_blocksOf_5 ?_
  refine g_vi (nI ((m + 32) - 1)) (pk_sub (by omega)) ?_
  refine g_bipush (nI 32) X d_MD_blocksOf_6 (by decide) ?_
  refine g_idiv X d_MD_blocksOf_8 (by decide) ?_
  refine g_vi (nI (((m + 32) - 1) / 32)) (pk_div (by omega) (by omega) (by omega)) ?_
  exact g_iret X hr d_MD_blocksOf_9 (Nat.le_of_ble_eq_true rfl) (Nat.le_of_ble_eq_true rfl) (fh_ret_i)

set_option maxRecDepth 100000 in
set_option maxHeartbeats 1000000 in
theorem c_MD_placeOf {l : Launch} (hst : l.stackTraces = false) {h y1 y2 y3 y4 y5 y6 y7 y8 y9 y10 y11 y12 y13 y14 y15 y16 y17 M n u c pa el fn js : Nat} {th bd ck ps lc : Int32} {fb ib : Bool} {ek ev : Int64} {K : Nat → Int64} (hn : [h, y1].Nodup) {k : Int64} (hn24 : n ≤ 24) : fh_C l fhCl fhT y_MD_placeOf (.code y_MD_placeOf b_MD_placeOf 4 (some .int)) 0 0 [.ref h, .long k] (hp [(h, .inr (6, [.int th, .int (nI M), .int (nI n), .ref y1, .ref y2, .ref y3, .int (nI u), .ref y4, .ref y5, .ref y6, .ref y7, .int (nI c), .ref y8, .ref y9, .ref y10, .ref y11, .ref y12, .int bd, .int ck, .int ps, .int (nI pa), .int lc, .int (nI (b2n fb)), .long ek, .long ev, .int (nI el), .int (nI fn), .ref y13, .ref y14, .ref y15, .ref y16, .int (nI js), .ref y17, .int (nI (b2n ib))])), (y1, .inl (.long, 25, .inr (.inl K)))]) (hp []) 0 0 (fh_ret (some (.int (nI (plc K k n)))) [(h, .inr (6, [.int th, .int (nI M), .int (nI n), .ref y1, .ref y2, .ref y3, .int (nI u), .ref y4, .ref y5, .ref y6, .ref y7, .int (nI c), .ref y8, .ref y9, .ref y10, .ref y11, .ref y12, .int bd, .int ck, .int ps, .int (nI pa), .int lc, .int (nI (b2n fb)), .long ek, .long ev, .int (nI el), .int (nI fn), .ref y13, .ref y14, .ref y15, .ref y16, .int (nI js), .ref y17, .int (nI (b2n ib))])), (y1, .inl (.long, 25, .inr (.inl K)))]) := by
  refine fh_enter (by decide) hst (Nat.le_of_ble_eq_true rfl) ?_
  intro mD mp me sm mm margs mbel mmet mcod X hr hnm hno hf0
  show fh_G mp l me (fh_rm 0 0 0 0) sm mm margs mbel mmet mcod mD fhCl (hp [(h, .inr (6, [.int th, .int (nI M), .int (nI n), .ref y1, .ref y2, .ref y3, .int (nI u), .ref y4, .ref y5, .ref y6, .ref y7, .int (nI c), .ref y8, .ref y9, .ref y10, .ref y11, .ref y12, .int bd, .int ck, .int ps, .int (nI pa), .int lc, .int (nI (b2n fb)), .long ek, .long ev, .int (nI el), .int (nI fn), .ref y13, .ref y14, .ref y15, .ref y16, .int (nI js), .ref y17, .int (nI (b2n ib))])), (y1, .inl (.long, 25, .inr (.inl K)))]) 4 _ 0 0 (hp [(h, .inr (6, [.int th, .int (nI M), .int (nI n), .ref y1, .ref y2, .ref y3, .int (nI u), .ref y4, .ref y5, .ref y6, .ref y7, .int (nI c), .ref y8, .ref y9, .ref y10, .ref y11, .ref y12, .int bd, .int ck, .int ps, .int (nI pa), .int lc, .int (nI (b2n fb)), .long ek, .long ev, .int (nI el), .int (nI fn), .ref y13, .ref y14, .ref y15, .ref y16, .int (nI js), .ref y17, .int (nI (b2n ib))])), (y1, .inl (.long, 25, .inr (.inl K)))]) 0 [(0, .ref h), (1, .long k)] []
  refine g_iconst (nI 0) X d_MD_placeOf_0 (by decide) ?_
  refine g_istore_n [(3, .int (nI 0)), (0, .ref h), (1, .long k)] X d_MD_placeOf_1 (by decide) rfl ?_
  have L2 : ∀ (fu2 : Nat) (j : Nat), (j ≤ n) → (∀ i, i < j → K i < k) → n - j < fu2 → fh_G mp l me (fh_rm 0 0 0 0) sm mm margs mbel mmet mcod mD fhCl (hp [(h, .inr (6, [.int th, .int (nI M), .int (nI n), .ref y1, .ref y2, .ref y3, .int (nI u), .ref y4, .ref y5, .ref y6, .ref y7, .int (nI c), .ref y8, .ref y9, .ref y10, .ref y11, .ref y12, .int bd, .int ck, .int ps, .int (nI pa), .int lc, .int (nI (b2n fb)), .long ek, .long ev, .int (nI el), .int (nI fn), .ref y13, .ref y14, .ref y15, .ref y16, .int (nI js), .ref y17, .int (nI (b2n ib))])), (y1, .inl (.long, 25, .inr (.inl K)))]) 4 (fh_MQ mbel mD fhCl (hp [(h, .inr (6, [.int th, .int (nI M), .int (nI n), .ref y1, .ref y2, .ref y3, .int (nI u), .ref y4, .ref y5, .ref y6, .ref y7, .int (nI c), .ref y8, .ref y9, .ref y10, .ref y11, .ref y12, .int bd, .int ck, .int ps, .int (nI pa), .int lc, .int (nI (b2n fb)), .long ek, .long ev, .int (nI el), .int (nI fn), .ref y13, .ref y14, .ref y15, .ref y16, .int (nI js), .ref y17, .int (nI (b2n ib))])), (y1, .inl (.long, 25, .inr (.inl K)))]) (fh_ret (some (.int (nI (plc K k n)))) [(h, .inr (6, [.int th, .int (nI M), .int (nI n), .ref y1, .ref y2, .ref y3, .int (nI u), .ref y4, .ref y5, .ref y6, .ref y7, .int (nI c), .ref y8, .ref y9, .ref y10, .ref y11, .ref y12, .int bd, .int ck, .int ps, .int (nI pa), .int lc, .int (nI (b2n fb)), .long ek, .long ev, .int (nI el), .int (nI fn), .ref y13, .ref y14, .ref y15, .ref y16, .int (nI js), .ref y17, .int (nI (b2n ib))])), (y1, .inl (.long, 25, .inr (.inl K)))]) margs sm 0 0) 0 0 (hp [(h, .inr (6, [.int th, .int (nI M), .int (nI n), .ref y1, .ref y2, .ref y3, .int (nI u), .ref y4, .ref y5, .ref y6, .ref y7, .int (nI c), .ref y8, .ref y9, .ref y10, .ref y11, .ref y12, .int bd, .int ck, .int ps, .int (nI pa), .int lc, .int (nI (b2n fb)), .long ek, .long ev, .int (nI el), .int (nI fn), .ref y13, .ref y14, .ref y15, .ref y16, .int (nI js), .ref y17, .int (nI (b2n ib))])), (y1, .inl (.long, 25, .inr (.inl K)))]) 2 [(3, .int (nI j)), (0, .ref h), (1, .long k)] [] := by
    intro fu2
    induction fu2 with
    | zero => intro j q1 q2 hm2; exact absurd hm2 (Nat.not_lt_zero _)
    | succ fu2 ih2 =>
      intro j q1 q2 hm2
      refine g_iload_n X d_MD_placeOf_2 0 rfl ?_
      refine g_aload_n X d_MD_placeOf_3 1 rfl ?_
      refine g_getf (k := 2) X d_MD_placeOf_4 (hl_w 0 rfl hn) rfl i_MD (by decide) k_fl_MD_73 (fun _ h => h) rfl ?_
      refine g_icmp_ge 27 X d_MD_placeOf_7 (by decide) (fun h7 => ?_) (fun h7 => ?_)
      · have h7 := cv_le (by omega) (by omega) h7
        have hp9 : plc K k n = j := plc_is q1 q2 (fun z => absurd z (by omega))
        refine g_iload_n X d_MD_placeOf_27 0 rfl ?_
        exact g_iret X hr d_MD_placeOf_28 (Nat.le_of_ble_eq_true rfl) (Nat.le_of_ble_eq_true rfl) (⟨by rw [hp9], rfl⟩)
      · have h7 := cv_nle (by omega) (by omega) h7
        refine g_aload_n X d_MD_placeOf_10 1 rfl ?_
        refine g_getf (k := 3) X d_MD_placeOf_11 (hl_w 0 rfl hn) rfl i_MD (by decide) k_fl_MD_7 (fun _ h => h) rfl ?_
        refine g_iload_n X d_MD_placeOf_14 0 rfl ?_
        refine h_lald X d_MD_placeOf_15 (hl_w 1 rfl hn) (by omega) (by omega) ?_
        refine g_lload_n X d_MD_placeOf_16 2 rfl ?_
        refine g_lcmp X d_MD_placeOf_17 ?_
        refine g_if_ge 27 X d_MD_placeOf_18 (by decide) (fun h18 => ?_) (fun h18 => ?_)
        · have h18 := (lg_cmp_ge (K j) k).mp h18
          have hp9 : plc K k n = j := plc_is q1 q2 (fun _ => l_nlt.mpr h18)
          refine g_iload_n X d_MD_placeOf_27 0 rfl ?_
          exact g_iret X hr d_MD_placeOf_28 (Nat.le_of_ble_eq_true rfl) (Nat.le_of_ble_eq_true rfl) (⟨by rw [hp9], rfl⟩)
        · have h18 := fun z => h18 ((lg_cmp_ge (K j) k).mpr z)
          refine g_iinc (nI (j + 1)) 0 [(3, .int (nI (j + 1))), (0, .ref h), (1, .long k)] X d_MD_placeOf_21 rfl (nI_1 _) (by decide) rfl ?_
          refine g_goto 2 X d_MD_placeOf_24 (by decide) ?_
          exact ih2 (j + 1) (by omega) (pl_s q2 (l_nle.mp h18)) (by omega)
  exact L2 _ 0 (Nat.zero_le _) (fun i hi => absurd hi (Nat.not_lt_zero _)) (Nat.lt_succ_self _)

set_option maxRecDepth 100000 in
set_option maxHeartbeats 1000000 in
theorem c_MD_hasKey {l : Launch} (hst : l.stackTraces = false) {h y1 y2 y3 y4 y5 y6 y7 y8 y9 y10 y11 y12 y13 y14 y15 y16 y17 M n u c pa el fn js : Nat} {th bd ck ps lc : Int32} {fb ib : Bool} {ek ev : Int64} {K : Nat → Int64} (hn : [h, y1].Nodup) {k : Int64} (hn24 : n ≤ 24) : fh_C l fhCl fhT y_MD_hasKey (.code y_MD_hasKey b_MD_hasKey 4 (some .boolean)) 1 23 [.ref h, .long k] (hp [(h, .inr (6, [.int th, .int (nI M), .int (nI n), .ref y1, .ref y2, .ref y3, .int (nI u), .ref y4, .ref y5, .ref y6, .ref y7, .int (nI c), .ref y8, .ref y9, .ref y10, .ref y11, .ref y12, .int bd, .int ck, .int ps, .int (nI pa), .int lc, .int (nI (b2n fb)), .long ek, .long ev, .int (nI el), .int (nI fn), .ref y13, .ref y14, .ref y15, .ref y16, .int (nI js), .ref y17, .int (nI (b2n ib))])), (y1, .inl (.long, 25, .inr (.inl K)))]) (hp []) 0 0 (fh_ret (some (.int (nI (b2n (isIn K n k))))) [(h, .inr (6, [.int th, .int (nI M), .int (nI n), .ref y1, .ref y2, .ref y3, .int (nI u), .ref y4, .ref y5, .ref y6, .ref y7, .int (nI c), .ref y8, .ref y9, .ref y10, .ref y11, .ref y12, .int bd, .int ck, .int ps, .int (nI pa), .int lc, .int (nI (b2n fb)), .long ek, .long ev, .int (nI el), .int (nI fn), .ref y13, .ref y14, .ref y15, .ref y16, .int (nI js), .ref y17, .int (nI (b2n ib))])), (y1, .inl (.long, 25, .inr (.inl K)))]) := by
  refine fh_enter (by decide) hst (Nat.le_of_ble_eq_true rfl) ?_
  intro mD mp me sm mm margs mbel mmet mcod X hr hnm hno hf0
  show fh_G mp l me (fh_rm 1 23 0 0) sm mm margs mbel mmet mcod mD fhCl (hp [(h, .inr (6, [.int th, .int (nI M), .int (nI n), .ref y1, .ref y2, .ref y3, .int (nI u), .ref y4, .ref y5, .ref y6, .ref y7, .int (nI c), .ref y8, .ref y9, .ref y10, .ref y11, .ref y12, .int bd, .int ck, .int ps, .int (nI pa), .int lc, .int (nI (b2n fb)), .long ek, .long ev, .int (nI el), .int (nI fn), .ref y13, .ref y14, .ref y15, .ref y16, .int (nI js), .ref y17, .int (nI (b2n ib))])), (y1, .inl (.long, 25, .inr (.inl K)))]) 4 _ 0 0 (hp [(h, .inr (6, [.int th, .int (nI M), .int (nI n), .ref y1, .ref y2, .ref y3, .int (nI u), .ref y4, .ref y5, .ref y6, .ref y7, .int (nI c), .ref y8, .ref y9, .ref y10, .ref y11, .ref y12, .int bd, .int ck, .int ps, .int (nI pa), .int lc, .int (nI (b2n fb)), .long ek, .long ev, .int (nI el), .int (nI fn), .ref y13, .ref y14, .ref y15, .ref y16, .int (nI js), .ref y17, .int (nI (b2n ib))])), (y1, .inl (.long, 25, .inr (.inl K)))]) 0 [(0, .ref h), (1, .long k)] []
  have hl9 := plc_le K k n
  refine g_aload_n X d_MD_hasKey_0 0 rfl ?_
  refine g_lload_n X d_MD_hasKey_1 1 rfl ?_
  refine h_callV (As := [.long k]) (st := []) [0, 1] [(h, .inr (6, [.int th, .int (nI M), .int (nI n), .ref y1, .ref y2, .ref y3, .int (nI u), .ref y4, .ref y5, .ref y6, .ref y7, .int (nI c), .ref y8, .ref y9, .ref y10, .ref y11, .ref y12, .int bd, .int ck, .int ps, .int (nI pa), .int lc, .int (nI (b2n fb)), .long ek, .long ev, .int (nI el), .int (nI fn), .ref y13, .ref y14, .ref y15, .ref y16, .int (nI js), .ref y17, .int (nI (b2n ib))])), (y1, .inl (.long, 25, .inr (.inl K)))] X d_MD_hasKey_2 (c_MD_placeOf hst hn hn24) (hl_w 0 rfl hn) rfl rfl k_ml_MD_76 k_cd_MD_placeOf k_in_MD k_im_MD_placeOf k_se_MD_placeOf ⟨by decide +kernel, by decide +kernel, (by decide +kernel : (parseMethodDescriptor y_MD_placeOf.desc).map (fun d => d.parameters.length) = some 1)⟩ ⟨Nat.le_of_ble_eq_true rfl, Nat.le_of_ble_eq_true rfl⟩ ⟨Nat.le_of_ble_eq_true rfl, Nat.le_of_ble_eq_true rfl⟩ (Nat.le_of_ble_eq_true rfl) hn rfl rfl rfl hp_no hp_no2 ?_
  refine g_istore_n [(3, .int (nI (plc K k n))), (0, .ref h), (1, .long k)] X d_MD_hasKey_5 (by decide) rfl ?_
  refine g_iload_n X d_MD_hasKey_6 0 rfl ?_
  refine g_aload_n X d_MD_hasKey_7 1 rfl ?_
  refine g_getf (k := 2) X d_MD_hasKey_8 (hl_w 0 rfl hn) rfl i_MD (by decide) k_fl_MD_73 (fun _ h => h) rfl ?_
  refine g_icmp_ge 29 X d_MD_hasKey_11 (by decide) (fun h11 => ?_) (fun h11 => ?_)
  · have h11 := cv_le (by omega) (by omega) h11
    have hi9 : isIn K n k = false := isIn_f (fun z => absurd z.1 (by omega))
    refine g_iconst (nI 0) X d_MD_hasKey_29 (by decide) ?_
    exact g_zret X hr rfl d_MD_hasKey_30 (Nat.le_of_ble_eq_true rfl) (Nat.le_of_ble_eq_true rfl) (⟨by rw [hi9]; rfl, rfl⟩)
  · have h11 := cv_nle (by omega) (by omega) h11
    refine g_aload_n X d_MD_hasKey_14 1 rfl ?_
    refine g_getf (k := 3) X d_MD_hasKey_15 (hl_w 0 rfl hn) rfl i_MD (by decide) k_fl_MD_7 (fun _ h => h) rfl ?_
    refine g_iload_n X d_MD_hasKey_18 0 rfl ?_
    refine h_lald X d_MD_hasKey_19 (hl_w 1 rfl hn) (by omega) (by omega) ?_
    refine g_lload_n X d_MD_hasKey_20 2 rfl ?_
    refine g_lcmp X d_MD_hasKey_21 ?_
    refine g_if_ne 29 X d_MD_hasKey_22 (by decide) (fun h22 => ?_) (fun h22 => ?_)
    · have h22 := fun z => h22 ((lg_cmp_eq (K (plc K k n)) k).mpr z)
      have hi9 : isIn K n k = false := isIn_f (fun z => h22 z.2)
      refine g_iconst (nI 0) X d_MD_hasKey_29 (by decide) ?_
      exact g_zret X hr rfl d_MD_hasKey_30 (Nat.le_of_ble_eq_true rfl) (Nat.le_of_ble_eq_true rfl) (⟨by rw [hi9]; rfl, rfl⟩)
    · have h22 := (lg_cmp_eq (K (plc K k n)) k).mp h22
      have hi9 : isIn K n k = true := isIn_t ⟨h11, h22⟩
      refine g_iconst (nI 1) X d_MD_hasKey_25 (by decide) ?_
      refine g_goto 30 X d_MD_hasKey_26 (by decide) ?_
      exact g_zret X hr rfl d_MD_hasKey_30 (Nat.le_of_ble_eq_true rfl) (Nat.le_of_ble_eq_true rfl) (⟨by rw [hi9]; rfl, rfl⟩)

set_option maxRecDepth 100000 in
set_option maxHeartbeats 1000000 in
theorem c_MD_set {l : Launch} (hst : l.stackTraces = false) {h y1 y2 y3 y4 y5 y6 y7 y8 y9 y10 y11 y12 y13 y14 y15 y16 y17 M n u c pa el fn js : Nat} {th bd ck ps lc : Int32} {fb ib : Bool} {ek ev : Int64} {K : Nat → Int64} {V : Nat → Int64} {z : Nat → Nat} (hn : [h, y1, y2, y3].Nodup) {k v : Int64} {m : Nat} (hn24 : n ≤ 24) (hr9 : plc K k n < n ∧ K (plc K k n) = k ∨ n < 24) : fh_C l fhCl fhT y_MD_set (.code y_MD_set b_MD_set 8 none) 1 23 [.ref h, .long k, .long v, .int (nI m)] (hp [(h, .inr (6, [.int th, .int (nI M), .int (nI n), .ref y1, .ref y2, .ref y3, .int (nI u), .ref y4, .ref y5, .ref y6, .ref y7, .int (nI c), .ref y8, .ref y9, .ref y10, .ref y11, .ref y12, .int bd, .int ck, .int ps, .int (nI pa), .int lc, .int (nI (b2n fb)), .long ek, .long ev, .int (nI el), .int (nI fn), .ref y13, .ref y14, .ref y15, .ref y16, .int (nI js), .ref y17, .int (nI (b2n ib))])), (y1, .inl (.long, 25, .inr (.inl K))), (y2, .inl (.long, 25, .inr (.inl V))), (y3, .inl (.int, 25, .inl (fun q => nI (z q))))]) (hp []) 0 0 (fh_ret none [(h, .inr (6, [.int th, .int (nI M), .int (nI ((stm (K, z, V, n) k m v).2.2.2)), .ref y1, .ref y2, .ref y3, .int (nI u), .ref y4, .ref y5, .ref y6, .ref y7, .int (nI c), .ref y8, .ref y9, .ref y10, .ref y11, .ref y12, .int bd, .int ck, .int ps, .int (nI pa), .int lc, .int (nI (b2n fb)), .long ek, .long ev, .int (nI el), .int (nI fn), .ref y13, .ref y14, .ref y15, .ref y16, .int (nI js), .ref y17, .int (nI (b2n ib))])), (y1, .inl (.long, 25, .inr (.inl ((stm (K, z, V, n) k m v).1)))), (y2, .inl (.long, 25, .inr (.inl ((stm (K, z, V, n) k m v).2.2.1)))), (y3, .inl (.int, 25, .inl (fun q => nI (((stm (K, z, V, n) k m v).2.1) q))))]) := by
  refine fh_enter (by decide) hst (Nat.le_of_ble_eq_true rfl) ?_
  intro mD mp me sm mm margs mbel mmet mcod X hr hnm hno hf0
  show fh_G mp l me (fh_rm 1 23 0 0) sm mm margs mbel mmet mcod mD fhCl (hp [(h, .inr (6, [.int th, .int (nI M), .int (nI n), .ref y1, .ref y2, .ref y3, .int (nI u), .ref y4, .ref y5, .ref y6, .ref y7, .int (nI c), .ref y8, .ref y9, .ref y10, .ref y11, .ref y12, .int bd, .int ck, .int ps, .int (nI pa), .int lc, .int (nI (b2n fb)), .long ek, .long ev, .int (nI el), .int (nI fn), .ref y13, .ref y14, .ref y15, .ref y16, .int (nI js), .ref y17, .int (nI (b2n ib))])), (y1, .inl (.long, 25, .inr (.inl K))), (y2, .inl (.long, 25, .inr (.inl V))), (y3, .inl (.int, 25, .inl (fun q => nI (z q))))]) 8 _ 0 0 (hp [(h, .inr (6, [.int th, .int (nI M), .int (nI n), .ref y1, .ref y2, .ref y3, .int (nI u), .ref y4, .ref y5, .ref y6, .ref y7, .int (nI c), .ref y8, .ref y9, .ref y10, .ref y11, .ref y12, .int bd, .int ck, .int ps, .int (nI pa), .int lc, .int (nI (b2n fb)), .long ek, .long ev, .int (nI el), .int (nI fn), .ref y13, .ref y14, .ref y15, .ref y16, .int (nI js), .ref y17, .int (nI (b2n ib))])), (y1, .inl (.long, 25, .inr (.inl K))), (y2, .inl (.long, 25, .inr (.inl V))), (y3, .inl (.int, 25, .inl (fun q => nI (z q))))]) 0 [(0, .ref h), (1, .long k), (3, .long v), (5, .int (nI m))] []
  have hl9 := plc_le K k n
  have hn1 : [h, y1].Nodup := (List.Nodup.sublist (by repeat first | exact List.nil_sublist _ | apply List.Sublist.cons₂ | apply List.Sublist.cons) hn)
  refine g_aload_n X d_MD_set_0 0 rfl ?_
  refine g_lload_n X d_MD_set_1 1 rfl ?_
  refine h_callV (As := [.long k]) (st := []) [0, 1] [(h, .inr (6, [.int th, .int (nI M), .int (nI n), .ref y1, .ref y2, .ref y3, .int (nI u), .ref y4, .ref y5, .ref y6, .ref y7, .int (nI c), .ref y8, .ref y9, .ref y10, .ref y11, .ref y12, .int bd, .int ck, .int ps, .int (nI pa), .int lc, .int (nI (b2n fb)), .long ek, .long ev, .int (nI el), .int (nI fn), .ref y13, .ref y14, .ref y15, .ref y16, .int (nI js), .ref y17, .int (nI (b2n ib))])), (y1, .inl (.long, 25, .inr (.inl K))), (y2, .inl (.long, 25, .inr (.inl V))), (y3, .inl (.int, 25, .inl (fun q => nI (z q))))] X d_MD_set_2 (c_MD_placeOf hst hn1 hn24) (hl_w 0 rfl hn) rfl rfl k_ml_MD_76 k_cd_MD_placeOf k_in_MD k_im_MD_placeOf k_se_MD_placeOf ⟨by decide +kernel, by decide +kernel, (by decide +kernel : (parseMethodDescriptor y_MD_placeOf.desc).map (fun d => d.parameters.length) = some 1)⟩ ⟨Nat.le_of_ble_eq_true rfl, Nat.le_of_ble_eq_true rfl⟩ ⟨Nat.le_of_ble_eq_true rfl, Nat.le_of_ble_eq_true rfl⟩ (Nat.le_of_ble_eq_true rfl) hn rfl rfl rfl hp_no hp_no2 ?_
  refine g_istore [(6, .int (nI (plc K k n))), (0, .ref h), (1, .long k), (3, .long v), (5, .int (nI m))] X d_MD_set_5 (by decide) rfl ?_
  refine g_iload X d_MD_set_7 0 rfl ?_
  refine g_aload_n X d_MD_set_9 1 rfl ?_
  refine g_getf (k := 2) X d_MD_set_10 (hl_w 0 rfl hn) rfl i_MD (by decide) k_fl_MD_73 (fun _ h => h) rfl ?_
  refine g_icmp_eq 28 X d_MD_set_13 (by decide) (fun h13 => ?_) (fun h13 => ?_)
  · have h13 := cv_eq (by omega) (by omega) h13
    have hf : ¬ (plc K k n < n ∧ K (plc K k n) = k) := fun z => absurd z.1 (by omega)
    refine g_aload_n X d_MD_set_28 1 rfl ?_
    refine g_getf (k := 2) X d_MD_set_29 (hl_w 0 rfl hn) rfl i_MD (by decide) k_fl_MD_73 (fun _ h => h) rfl ?_
    refine g_hp (ws' := [(h, .inr (6, [.int th, .int (nI M), .int (nI n), .ref y1, .ref y2, .ref y3, .int (nI u), .ref y4, .ref y5, .ref y6, .ref y7, .int (nI c), .ref y8, .ref y9, .ref y10, .ref y11, .ref y12, .int bd, .int ck, .int ps, .int (nI pa), .int lc, .int (nI (b2n fb)), .long ek, .long ev, .int (nI el), .int (nI fn), .ref y13, .ref y14, .ref y15, .ref y16, .int (nI js), .ref y17, .int (nI (b2n ib))])), (y1, .inl (.long, 25, .inr (.inl (shf K n n)))), (y2, .inl (.long, 25, .inr (.inl (shf V n n)))), (y3, .inl (.int, 25, .inl (fun q => nI (((shf z n n)) q))))]) (by rw [shf_0, shf_0, shf_0]) ?_
    refine g_istore [(7, .int (nI n)), (6, .int (nI (plc K k n))), (0, .ref h), (1, .long k), (3, .long v), (5, .int (nI m))] X d_MD_set_32 (by decide) rfl ?_
    have L34 : ∀ (fu34 : Nat) (j9 : Nat), (j9 ≤ n) → (plc K k n ≤ j9) → j9 < fu34 → fh_G mp l me (fh_rm 1 23 0 0) sm mm margs mbel mmet mcod mD fhCl (hp [(h, .inr (6, [.int th, .int (nI M), .int (nI n), .ref y1, .ref y2, .ref y3, .int (nI u), .ref y4, .ref y5, .ref y6, .ref y7, .int (nI c), .ref y8, .ref y9, .ref y10, .ref y11, .ref y12, .int bd, .int ck, .int ps, .int (nI pa), .int lc, .int (nI (b2n fb)), .long ek, .long ev, .int (nI el), .int (nI fn), .ref y13, .ref y14, .ref y15, .ref y16, .int (nI js), .ref y17, .int (nI (b2n ib))])), (y1, .inl (.long, 25, .inr (.inl K))), (y2, .inl (.long, 25, .inr (.inl V))), (y3, .inl (.int, 25, .inl (fun q => nI (z q))))]) 8 (fh_MQ mbel mD fhCl (hp [(h, .inr (6, [.int th, .int (nI M), .int (nI n), .ref y1, .ref y2, .ref y3, .int (nI u), .ref y4, .ref y5, .ref y6, .ref y7, .int (nI c), .ref y8, .ref y9, .ref y10, .ref y11, .ref y12, .int bd, .int ck, .int ps, .int (nI pa), .int lc, .int (nI (b2n fb)), .long ek, .long ev, .int (nI el), .int (nI fn), .ref y13, .ref y14, .ref y15, .ref y16, .int (nI js), .ref y17, .int (nI (b2n ib))])), (y1, .inl (.long, 25, .inr (.inl K))), (y2, .inl (.long, 25, .inr (.inl V))), (y3, .inl (.int, 25, .inl (fun q => nI (z q))))]) (fh_ret none [(h, .inr (6, [.int th, .int (nI M), .int (nI ((stm (K, z, V, n) k m v).2.2.2)), .ref y1, .ref y2, .ref y3, .int (nI u), .ref y4, .ref y5, .ref y6, .ref y7, .int (nI c), .ref y8, .ref y9, .ref y10, .ref y11, .ref y12, .int bd, .int ck, .int ps, .int (nI pa), .int lc, .int (nI (b2n fb)), .long ek, .long ev, .int (nI el), .int (nI fn), .ref y13, .ref y14, .ref y15, .ref y16, .int (nI js), .ref y17, .int (nI (b2n ib))])), (y1, .inl (.long, 25, .inr (.inl ((stm (K, z, V, n) k m v).1)))), (y2, .inl (.long, 25, .inr (.inl ((stm (K, z, V, n) k m v).2.2.1)))), (y3, .inl (.int, 25, .inl (fun q => nI (((stm (K, z, V, n) k m v).2.1) q))))]) margs sm 0 0) 0 0 (hp [(h, .inr (6, [.int th, .int (nI M), .int (nI n), .ref y1, .ref y2, .ref y3, .int (nI u), .ref y4, .ref y5, .ref y6, .ref y7, .int (nI c), .ref y8, .ref y9, .ref y10, .ref y11, .ref y12, .int bd, .int ck, .int ps, .int (nI pa), .int lc, .int (nI (b2n fb)), .long ek, .long ev, .int (nI el), .int (nI fn), .ref y13, .ref y14, .ref y15, .ref y16, .int (nI js), .ref y17, .int (nI (b2n ib))])), (y1, .inl (.long, 25, .inr (.inl (shf K n j9)))), (y2, .inl (.long, 25, .inr (.inl (shf V n j9)))), (y3, .inl (.int, 25, .inl (fun q => nI (((shf z n j9)) q))))]) 34 [(7, .int (nI j9)), (6, .int (nI (plc K k n))), (0, .ref h), (1, .long k), (3, .long v), (5, .int (nI m))] [] := by
      intro fu34
      induction fu34 with
      | zero => intro j9 q1 q0 hm34; exact absurd hm34 (Nat.not_lt_zero _)
      | succ fu34 ih34 =>
        intro j9 q1 q0 hm34
        refine g_iload X d_MD_set_34 0 rfl ?_
        refine g_iload X d_MD_set_36 1 rfl ?_
        refine g_icmp_le 95 X d_MD_set_38 (by decide) (fun h38 => ?_) (fun h38 => ?_)
        · have h38 := cv_le (by omega) (by omega) h38
          have e8 : j9 = plc K k n := by omega
          refine g_hp (ws' := [(h, .inr (6, [.int th, .int (nI M), .int (nI n), .ref y1, .ref y2, .ref y3, .int (nI u), .ref y4, .ref y5, .ref y6, .ref y7, .int (nI c), .ref y8, .ref y9, .ref y10, .ref y11, .ref y12, .int bd, .int ck, .int ps, .int (nI pa), .int lc, .int (nI (b2n fb)), .long ek, .long ev, .int (nI el), .int (nI fn), .ref y13, .ref y14, .ref y15, .ref y16, .int (nI js), .ref y17, .int (nI (b2n ib))])), (y1, .inl (.long, 25, .inr (.inl (shf K n (plc K k n))))), (y2, .inl (.long, 25, .inr (.inl (shf V n (plc K k n))))), (y3, .inl (.int, 25, .inl (fun q => nI (((shf z n (plc K k n))) q))))]) (by rw [e8]) ?_
          refine g_aload_n X d_MD_set_95 2 rfl ?_
          refine g_dup X d_MD_set_96 rfl ?_
          refine g_getf (k := 2) X d_MD_set_97 (hl_w 0 rfl hn) rfl i_MD (by decide) k_fl_MD_73 (fun _ h => h) rfl ?_
          refine g_iconst (nI 1) X d_MD_set_100 (by decide) ?_
          refine g_iadd X d_MD_set_101 ?_
          refine g_vi (nI (n + 1)) (nI_add _ _) ?_
          refine h_putf (k := 2) (ty := .int) 0 [(h, .inr (6, [.int th, .int (nI M), .int (nI (n + 1)), .ref y1, .ref y2, .ref y3, .int (nI u), .ref y4, .ref y5, .ref y6, .ref y7, .int (nI c), .ref y8, .ref y9, .ref y10, .ref y11, .ref y12, .int bd, .int ck, .int ps, .int (nI pa), .int lc, .int (nI (b2n fb)), .long ek, .long ev, .int (nI el), .int (nI fn), .ref y13, .ref y14, .ref y15, .ref y16, .int (nI js), .ref y17, .int (nI (b2n ib))])), (y1, .inl (.long, 25, .inr (.inl (shf K n (plc K k n))))), (y2, .inl (.long, 25, .inr (.inl (shf V n (plc K k n))))), (y3, .inl (.int, 25, .inl (fun q => nI (((shf z n (plc K k n))) q))))] X d_MD_set_102 hn rfl rfl i_MD t_MD t_MD_ok n_MD (by decide) k_fl_MD_73 (fun _ h => h) rfl (by decide +kernel) rfl rfl (Nat.le_of_ble_eq_true rfl) rfl ?_
          refine g_aload_n X d_MD_set_105 2 rfl ?_
          refine g_getf (k := 3) X d_MD_set_106 (hl_w 0 rfl hn) rfl i_MD (by decide) k_fl_MD_7 (fun _ h => h) rfl ?_
          refine g_iload X d_MD_set_109 1 rfl ?_
          refine g_lload_n X d_MD_set_111 3 rfl ?_
          refine h_last 1 [(h, .inr (6, [.int th, .int (nI M), .int (nI (n + 1)), .ref y1, .ref y2, .ref y3, .int (nI u), .ref y4, .ref y5, .ref y6, .ref y7, .int (nI c), .ref y8, .ref y9, .ref y10, .ref y11, .ref y12, .int bd, .int ck, .int ps, .int (nI pa), .int lc, .int (nI (b2n fb)), .long ek, .long ev, .int (nI el), .int (nI fn), .ref y13, .ref y14, .ref y15, .ref y16, .int (nI js), .ref y17, .int (nI (b2n ib))])), (y1, .inl (.long, 25, .inr (.inl (va_up (shf K n (plc K k n)) (plc K k n) k)))), (y2, .inl (.long, 25, .inr (.inl (shf V n (plc K k n))))), (y3, .inl (.int, 25, .inl (fun q => nI (((shf z n (plc K k n))) q))))] X d_MD_set_112 hn rfl (by omega) (by omega) rfl ?_
          refine g_aload_n X d_MD_set_113 2 rfl ?_
          refine g_getf (k := 4) X d_MD_set_114 (hl_w 0 rfl hn) rfl i_MD (by decide) k_fl_MD_13 (fun _ h => h) rfl ?_
          refine g_iload X d_MD_set_117 1 rfl ?_
          refine g_lload_n X d_MD_set_119 4 rfl ?_
          refine h_last 2 [(h, .inr (6, [.int th, .int (nI M), .int (nI (n + 1)), .ref y1, .ref y2, .ref y3, .int (nI u), .ref y4, .ref y5, .ref y6, .ref y7, .int (nI c), .ref y8, .ref y9, .ref y10, .ref y11, .ref y12, .int bd, .int ck, .int ps, .int (nI pa), .int lc, .int (nI (b2n fb)), .long ek, .long ev, .int (nI el), .int (nI fn), .ref y13, .ref y14, .ref y15, .ref y16, .int (nI js), .ref y17, .int (nI (b2n ib))])), (y1, .inl (.long, 25, .inr (.inl (va_up (shf K n (plc K k n)) (plc K k n) k)))), (y2, .inl (.long, 25, .inr (.inl (va_up (shf V n (plc K k n)) (plc K k n) v)))), (y3, .inl (.int, 25, .inl (fun q => nI (((shf z n (plc K k n))) q))))] X d_MD_set_120 hn rfl (by omega) (by omega) rfl ?_
          refine g_aload_n X d_MD_set_121 2 rfl ?_
          refine g_getf (k := 5) X d_MD_set_122 (hl_w 0 rfl hn) rfl i_MD (by decide) k_fl_MD_16 (fun _ h => h) rfl ?_
          refine g_iload X d_MD_set_125 1 rfl ?_
          refine g_iload X d_MD_set_127 5 rfl ?_
          refine h_iastN 3 [(h, .inr (6, [.int th, .int (nI M), .int (nI (n + 1)), .ref y1, .ref y2, .ref y3, .int (nI u), .ref y4, .ref y5, .ref y6, .ref y7, .int (nI c), .ref y8, .ref y9, .ref y10, .ref y11, .ref y12, .int bd, .int ck, .int ps, .int (nI pa), .int lc, .int (nI (b2n fb)), .long ek, .long ev, .int (nI el), .int (nI fn), .ref y13, .ref y14, .ref y15, .ref y16, .int (nI js), .ref y17, .int (nI (b2n ib))])), (y1, .inl (.long, 25, .inr (.inl (va_up (shf K n (plc K k n)) (plc K k n) k)))), (y2, .inl (.long, 25, .inr (.inl (va_up (shf V n (plc K k n)) (plc K k n) v)))), (y3, .inl (.int, 25, .inl (fun q => nI ((va_up (shf z n (plc K k n)) (plc K k n) m) q))))] X d_MD_set_129 hn rfl (by omega) (by omega) rfl ?_
          exact g_vret X hr d_MD_set_130 (Nat.le_of_ble_eq_true rfl) (Nat.le_of_ble_eq_true rfl) (⟨rfl, by rw [stm_shf hf]⟩)
        · have h38 := cv_nle (by omega) (by omega) h38
          obtain ⟨j, e8⟩ : ∃ j, j9 = j + 1 := ⟨j9 - 1, by omega⟩
          subst e8
          refine g_aload_n X d_MD_set_41 2 rfl ?_
          refine g_getf (k := 3) X d_MD_set_42 (hl_w 0 rfl hn) rfl i_MD (by decide) k_fl_MD_7 (fun _ h => h) rfl ?_
          refine g_iload X d_MD_set_45 0 rfl ?_
          refine g_aload_n X d_MD_set_47 2 rfl ?_
          refine g_getf (k := 3) X d_MD_set_48 (hl_w 0 rfl hn) rfl i_MD (by decide) k_fl_MD_7 (fun _ h => h) rfl ?_
          refine g_iload X d_MD_set_51 0 rfl ?_
          refine g_iconst (nI 1) X d_MD_set_53 (by decide) ?_
          refine g_isub X d_MD_set_54 ?_
          refine g_vi (nI j) (pk_sub (by omega)) ?_
          refine h_lald X d_MD_set_55 (hl_w 1 rfl hn) (by omega) (by omega) ?_
          refine h_last 1 [(h, .inr (6, [.int th, .int (nI M), .int (nI n), .ref y1, .ref y2, .ref y3, .int (nI u), .ref y4, .ref y5, .ref y6, .ref y7, .int (nI c), .ref y8, .ref y9, .ref y10, .ref y11, .ref y12, .int bd, .int ck, .int ps, .int (nI pa), .int lc, .int (nI (b2n fb)), .long ek, .long ev, .int (nI el), .int (nI fn), .ref y13, .ref y14, .ref y15, .ref y16, .int (nI js), .ref y17, .int (nI (b2n ib))])), (y1, .inl (.long, 25, .inr (.inl (va_up (shf K n (j + 1)) (j + 1) ((shf K n (j + 1)) j))))), (y2, .inl (.long, 25, .inr (.inl (shf V n (j + 1))))), (y3, .inl (.int, 25, .inl (fun q => nI (((shf z n (j + 1))) q))))] X d_MD_set_56 hn rfl (by omega) (by omega) rfl ?_
          refine g_aload_n X d_MD_set_57 2 rfl ?_
          refine g_getf (k := 4) X d_MD_set_58 (hl_w 0 rfl hn) rfl i_MD (by decide) k_fl_MD_13 (fun _ h => h) rfl ?_
          refine g_iload X d_MD_set_61 0 rfl ?_
          refine g_aload_n X d_MD_set_63 2 rfl ?_
          refine g_getf (k := 4) X d_MD_set_64 (hl_w 0 rfl hn) rfl i_MD (by decide) k_fl_MD_13 (fun _ h => h) rfl ?_
          refine g_iload X d_MD_set_67 0 rfl ?_
          refine g_iconst (nI 1) X d_MD_set_69 (by decide) ?_
          refine g_isub X d_MD_set_70 ?_
          refine g_vi (nI j) (pk_sub (by omega)) ?_
          refine h_lald X d_MD_set_71 (hl_w 2 rfl hn) (by omega) (by omega) ?_
          refine h_last 2 [(h, .inr (6, [.int th, .int (nI M), .int (nI n), .ref y1, .ref y2, .ref y3, .int (nI u), .ref y4, .ref y5, .ref y6, .ref y7, .int (nI c), .ref y8, .ref y9, .ref y10, .ref y11, .ref y12, .int bd, .int ck, .int ps, .int (nI pa), .int lc, .int (nI (b2n fb)), .long ek, .long ev, .int (nI el), .int (nI fn), .ref y13, .ref y14, .ref y15, .ref y16, .int (nI js), .ref y17, .int (nI (b2n ib))])), (y1, .inl (.long, 25, .inr (.inl (va_up (shf K n (j + 1)) (j + 1) ((shf K n (j + 1)) j))))), (y2, .inl (.long, 25, .inr (.inl (va_up (shf V n (j + 1)) (j + 1) ((shf V n (j + 1)) j))))), (y3, .inl (.int, 25, .inl (fun q => nI (((shf z n (j + 1))) q))))] X d_MD_set_72 hn rfl (by omega) (by omega) rfl ?_
          refine g_aload_n X d_MD_set_73 2 rfl ?_
          refine g_getf (k := 5) X d_MD_set_74 (hl_w 0 rfl hn) rfl i_MD (by decide) k_fl_MD_16 (fun _ h => h) rfl ?_
          refine g_iload X d_MD_set_77 0 rfl ?_
          refine g_aload_n X d_MD_set_79 2 rfl ?_
          refine g_getf (k := 5) X d_MD_set_80 (hl_w 0 rfl hn) rfl i_MD (by decide) k_fl_MD_16 (fun _ h => h) rfl ?_
          refine g_iload X d_MD_set_83 0 rfl ?_
          refine g_iconst (nI 1) X d_MD_set_85 (by decide) ?_
          refine g_isub X d_MD_set_86 ?_
          refine g_vi (nI j) (pk_sub (by omega)) ?_
          refine h_iald X d_MD_set_87 (hl_w 3 rfl hn) (by omega) (by omega) ?_
          refine h_iastN 3 [(h, .inr (6, [.int th, .int (nI M), .int (nI n), .ref y1, .ref y2, .ref y3, .int (nI u), .ref y4, .ref y5, .ref y6, .ref y7, .int (nI c), .ref y8, .ref y9, .ref y10, .ref y11, .ref y12, .int bd, .int ck, .int ps, .int (nI pa), .int lc, .int (nI (b2n fb)), .long ek, .long ev, .int (nI el), .int (nI fn), .ref y13, .ref y14, .ref y15, .ref y16, .int (nI js), .ref y17, .int (nI (b2n ib))])), (y1, .inl (.long, 25, .inr (.inl (va_up (shf K n (j + 1)) (j + 1) ((shf K n (j + 1)) j))))), (y2, .inl (.long, 25, .inr (.inl (va_up (shf V n (j + 1)) (j + 1) ((shf V n (j + 1)) j))))), (y3, .inl (.int, 25, .inl (fun q => nI ((va_up (shf z n (j + 1)) (j + 1) ((shf z n (j + 1)) j)) q))))] X d_MD_set_88 hn rfl (by omega) (by omega) rfl ?_
          refine g_iinc (nI j) 0 [(7, .int (nI j)), (6, .int (nI (plc K k n))), (0, .ref h), (1, .long k), (3, .long v), (5, .int (nI m))] X d_MD_set_89 rfl (pk_m1 _) (by decide) rfl ?_
          refine g_goto 34 X d_MD_set_92 (by decide) ?_
          refine g_hp (ws' := [(h, .inr (6, [.int th, .int (nI M), .int (nI n), .ref y1, .ref y2, .ref y3, .int (nI u), .ref y4, .ref y5, .ref y6, .ref y7, .int (nI c), .ref y8, .ref y9, .ref y10, .ref y11, .ref y12, .int bd, .int ck, .int ps, .int (nI pa), .int lc, .int (nI (b2n fb)), .long ek, .long ev, .int (nI el), .int (nI fn), .ref y13, .ref y14, .ref y15, .ref y16, .int (nI js), .ref y17, .int (nI (b2n ib))])), (y1, .inl (.long, 25, .inr (.inl (shf K n j)))), (y2, .inl (.long, 25, .inr (.inl (shf V n j)))), (y3, .inl (.int, 25, .inl (fun q => nI (((shf z n j)) q))))]) (by rw [← shf_s K (show j + 1 ≤ n by omega), ← shf_s V (show j + 1 ≤ n by omega), ← shf_s z (show j + 1 ≤ n by omega), shf_low, shf_low, shf_low]) ?_
          exact ih34 j (by omega) (by omega) (by omega)
    exact L34 _ n (Nat.le_refl _) hl9 (Nat.lt_succ_self _)
  · have h13 := cv_ne (by omega) (by omega) h13
    refine g_aload_n X d_MD_set_16 1 rfl ?_
    refine g_getf (k := 3) X d_MD_set_17 (hl_w 0 rfl hn) rfl i_MD (by decide) k_fl_MD_7 (fun _ h => h) rfl ?_
    refine g_iload X d_MD_set_20 0 rfl ?_
    refine h_lald X d_MD_set_22 (hl_w 1 rfl hn) (by omega) (by omega) ?_
    refine g_lload_n X d_MD_set_23 2 rfl ?_
    refine g_lcmp X d_MD_set_24 ?_
    refine g_if_eq 105 X d_MD_set_25 (by decide) (fun h25 => ?_) (fun h25 => ?_)
    · have h25 := (lg_cmp_eq (K (plc K k n)) k).mp h25
      have hf : plc K k n < n ∧ K (plc K k n) = k := ⟨by omega, h25⟩
      refine g_aload_n X d_MD_set_105 1 rfl ?_
      refine g_getf (k := 3) X d_MD_set_106 (hl_w 0 rfl hn) rfl i_MD (by decide) k_fl_MD_7 (fun _ h => h) rfl ?_
      refine g_iload X d_MD_set_109 0 rfl ?_
      refine g_lload_n X d_MD_set_111 2 rfl ?_
      refine h_last 1 [(h, .inr (6, [.int th, .int (nI M), .int (nI n), .ref y1, .ref y2, .ref y3, .int (nI u), .ref y4, .ref y5, .ref y6, .ref y7, .int (nI c), .ref y8, .ref y9, .ref y10, .ref y11, .ref y12, .int bd, .int ck, .int ps, .int (nI pa), .int lc, .int (nI (b2n fb)), .long ek, .long ev, .int (nI el), .int (nI fn), .ref y13, .ref y14, .ref y15, .ref y16, .int (nI js), .ref y17, .int (nI (b2n ib))])), (y1, .inl (.long, 25, .inr (.inl (va_up K (plc K k n) k)))), (y2, .inl (.long, 25, .inr (.inl V))), (y3, .inl (.int, 25, .inl (fun q => nI (z q))))] X d_MD_set_112 hn rfl (by omega) (by omega) rfl ?_
      refine g_aload_n X d_MD_set_113 1 rfl ?_
      refine g_getf (k := 4) X d_MD_set_114 (hl_w 0 rfl hn) rfl i_MD (by decide) k_fl_MD_13 (fun _ h => h) rfl ?_
      refine g_iload X d_MD_set_117 0 rfl ?_
      refine g_lload_n X d_MD_set_119 3 rfl ?_
      refine h_last 2 [(h, .inr (6, [.int th, .int (nI M), .int (nI n), .ref y1, .ref y2, .ref y3, .int (nI u), .ref y4, .ref y5, .ref y6, .ref y7, .int (nI c), .ref y8, .ref y9, .ref y10, .ref y11, .ref y12, .int bd, .int ck, .int ps, .int (nI pa), .int lc, .int (nI (b2n fb)), .long ek, .long ev, .int (nI el), .int (nI fn), .ref y13, .ref y14, .ref y15, .ref y16, .int (nI js), .ref y17, .int (nI (b2n ib))])), (y1, .inl (.long, 25, .inr (.inl (va_up K (plc K k n) k)))), (y2, .inl (.long, 25, .inr (.inl (va_up V (plc K k n) v)))), (y3, .inl (.int, 25, .inl (fun q => nI (z q))))] X d_MD_set_120 hn rfl (by omega) (by omega) rfl ?_
      refine g_aload_n X d_MD_set_121 1 rfl ?_
      refine g_getf (k := 5) X d_MD_set_122 (hl_w 0 rfl hn) rfl i_MD (by decide) k_fl_MD_16 (fun _ h => h) rfl ?_
      refine g_iload X d_MD_set_125 0 rfl ?_
      refine g_iload X d_MD_set_127 4 rfl ?_
      refine h_iastN 3 [(h, .inr (6, [.int th, .int (nI M), .int (nI n), .ref y1, .ref y2, .ref y3, .int (nI u), .ref y4, .ref y5, .ref y6, .ref y7, .int (nI c), .ref y8, .ref y9, .ref y10, .ref y11, .ref y12, .int bd, .int ck, .int ps, .int (nI pa), .int lc, .int (nI (b2n fb)), .long ek, .long ev, .int (nI el), .int (nI fn), .ref y13, .ref y14, .ref y15, .ref y16, .int (nI js), .ref y17, .int (nI (b2n ib))])), (y1, .inl (.long, 25, .inr (.inl (va_up K (plc K k n) k)))), (y2, .inl (.long, 25, .inr (.inl (va_up V (plc K k n) v)))), (y3, .inl (.int, 25, .inl (fun q => nI ((va_up z (plc K k n) m) q))))] X d_MD_set_129 hn rfl (by omega) (by omega) rfl ?_
      exact g_vret X hr d_MD_set_130 (Nat.le_of_ble_eq_true rfl) (Nat.le_of_ble_eq_true rfl) (⟨rfl, by rw [stm_up hf]⟩)
    · have h25 := fun z => h25 ((lg_cmp_eq (K (plc K k n)) k).mpr z)
      have hf : ¬ (plc K k n < n ∧ K (plc K k n) = k) := fun z => h25 z.2
      refine g_aload_n X d_MD_set_28 1 rfl ?_
      refine g_getf (k := 2) X d_MD_set_29 (hl_w 0 rfl hn) rfl i_MD (by decide) k_fl_MD_73 (fun _ h => h) rfl ?_
      refine g_hp (ws' := [(h, .inr (6, [.int th, .int (nI M), .int (nI n), .ref y1, .ref y2, .ref y3, .int (nI u), .ref y4, .ref y5, .ref y6, .ref y7, .int (nI c), .ref y8, .ref y9, .ref y10, .ref y11, .ref y12, .int bd, .int ck, .int ps, .int (nI pa), .int lc, .int (nI (b2n fb)), .long ek, .long ev, .int (nI el), .int (nI fn), .ref y13, .ref y14, .ref y15, .ref y16, .int (nI js), .ref y17, .int (nI (b2n ib))])), (y1, .inl (.long, 25, .inr (.inl (shf K n n)))), (y2, .inl (.long, 25, .inr (.inl (shf V n n)))), (y3, .inl (.int, 25, .inl (fun q => nI (((shf z n n)) q))))]) (by rw [shf_0, shf_0, shf_0]) ?_
      refine g_istore [(7, .int (nI n)), (6, .int (nI (plc K k n))), (0, .ref h), (1, .long k), (3, .long v), (5, .int (nI m))] X d_MD_set_32 (by decide) rfl ?_
      have L34 : ∀ (fu34 : Nat) (j9 : Nat), (j9 ≤ n) → (plc K k n ≤ j9) → j9 < fu34 → fh_G mp l me (fh_rm 1 23 0 0) sm mm margs mbel mmet mcod mD fhCl (hp [(h, .inr (6, [.int th, .int (nI M), .int (nI n), .ref y1, .ref y2, .ref y3, .int (nI u), .ref y4, .ref y5, .ref y6, .ref y7, .int (nI c), .ref y8, .ref y9, .ref y10, .ref y11, .ref y12, .int bd, .int ck, .int ps, .int (nI pa), .int lc, .int (nI (b2n fb)), .long ek, .long ev, .int (nI el), .int (nI fn), .ref y13, .ref y14, .ref y15, .ref y16, .int (nI js), .ref y17, .int (nI (b2n ib))])), (y1, .inl (.long, 25, .inr (.inl K))), (y2, .inl (.long, 25, .inr (.inl V))), (y3, .inl (.int, 25, .inl (fun q => nI (z q))))]) 8 (fh_MQ mbel mD fhCl (hp [(h, .inr (6, [.int th, .int (nI M), .int (nI n), .ref y1, .ref y2, .ref y3, .int (nI u), .ref y4, .ref y5, .ref y6, .ref y7, .int (nI c), .ref y8, .ref y9, .ref y10, .ref y11, .ref y12, .int bd, .int ck, .int ps, .int (nI pa), .int lc, .int (nI (b2n fb)), .long ek, .long ev, .int (nI el), .int (nI fn), .ref y13, .ref y14, .ref y15, .ref y16, .int (nI js), .ref y17, .int (nI (b2n ib))])), (y1, .inl (.long, 25, .inr (.inl K))), (y2, .inl (.long, 25, .inr (.inl V))), (y3, .inl (.int, 25, .inl (fun q => nI (z q))))]) (fh_ret none [(h, .inr (6, [.int th, .int (nI M), .int (nI ((stm (K, z, V, n) k m v).2.2.2)), .ref y1, .ref y2, .ref y3, .int (nI u), .ref y4, .ref y5, .ref y6, .ref y7, .int (nI c), .ref y8, .ref y9, .ref y10, .ref y11, .ref y12, .int bd, .int ck, .int ps, .int (nI pa), .int lc, .int (nI (b2n fb)), .long ek, .long ev, .int (nI el), .int (nI fn), .ref y13, .ref y14, .ref y15, .ref y16, .int (nI js), .ref y17, .int (nI (b2n ib))])), (y1, .inl (.long, 25, .inr (.inl ((stm (K, z, V, n) k m v).1)))), (y2, .inl (.long, 25, .inr (.inl ((stm (K, z, V, n) k m v).2.2.1)))), (y3, .inl (.int, 25, .inl (fun q => nI (((stm (K, z, V, n) k m v).2.1) q))))]) margs sm 0 0) 0 0 (hp [(h, .inr (6, [.int th, .int (nI M), .int (nI n), .ref y1, .ref y2, .ref y3, .int (nI u), .ref y4, .ref y5, .ref y6, .ref y7, .int (nI c), .ref y8, .ref y9, .ref y10, .ref y11, .ref y12, .int bd, .int ck, .int ps, .int (nI pa), .int lc, .int (nI (b2n fb)), .long ek, .long ev, .int (nI el), .int (nI fn), .ref y13, .ref y14, .ref y15, .ref y16, .int (nI js), .ref y17, .int (nI (b2n ib))])), (y1, .inl (.long, 25, .inr (.inl (shf K n j9)))), (y2, .inl (.long, 25, .inr (.inl (shf V n j9)))), (y3, .inl (.int, 25, .inl (fun q => nI (((shf z n j9)) q))))]) 34 [(7, .int (nI j9)), (6, .int (nI (plc K k n))), (0, .ref h), (1, .long k), (3, .long v), (5, .int (nI m))] [] := by
        intro fu34
        induction fu34 with
        | zero => intro j9 q1 q0 hm34; exact absurd hm34 (Nat.not_lt_zero _)
        | succ fu34 ih34 =>
          intro j9 q1 q0 hm34
          refine g_iload X d_MD_set_34 0 rfl ?_
          refine g_iload X d_MD_set_36 1 rfl ?_
          refine g_icmp_le 95 X d_MD_set_38 (by decide) (fun h38 => ?_) (fun h38 => ?_)
          · have h38 := cv_le (by omega) (by omega) h38
            have e8 : j9 = plc K k n := by omega
            refine g_hp (ws' := [(h, .inr (6, [.int th, .int (nI M), .int (nI n), .ref y1, .ref y2, .ref y3, .int (nI u), .ref y4, .ref y5, .ref y6, .ref y7, .int (nI c), .ref y8, .ref y9, .ref y10, .ref y11, .ref y12, .int bd, .int ck, .int ps, .int (nI pa), .int lc, .int (nI (b2n fb)), .long ek, .long ev, .int (nI el), .int (nI fn), .ref y13, .ref y14, .ref y15, .ref y16, .int (nI js), .ref y17, .int (nI (b2n ib))])), (y1, .inl (.long, 25, .inr (.inl (shf K n (plc K k n))))), (y2, .inl (.long, 25, .inr (.inl (shf V n (plc K k n))))), (y3, .inl (.int, 25, .inl (fun q => nI (((shf z n (plc K k n))) q))))]) (by rw [e8]) ?_
            refine g_aload_n X d_MD_set_95 2 rfl ?_
            refine g_dup X d_MD_set_96 rfl ?_
            refine g_getf (k := 2) X d_MD_set_97 (hl_w 0 rfl hn) rfl i_MD (by decide) k_fl_MD_73 (fun _ h => h) rfl ?_
            refine g_iconst (nI 1) X d_MD_set_100 (by decide) ?_
            refine g_iadd X d_MD_set_101 ?_
            refine g_vi (nI (n + 1)) (nI_add _ _) ?_
            refine h_putf (k := 2) (ty := .int) 0 [(h, .inr (6, [.int th, .int (nI M), .int (nI (n + 1)), .ref y1, .ref y2, .ref y3, .int (nI u), .ref y4, .ref y5, .ref y6, .ref y7, .int (nI c), .ref y8, .ref y9, .ref y10, .ref y11, .ref y12, .int bd, .int ck, .int ps, .int (nI pa), .int lc, .int (nI (b2n fb)), .long ek, .long ev, .int (nI el), .int (nI fn), .ref y13, .ref y14, .ref y15, .ref y16, .int (nI js), .ref y17, .int (nI (b2n ib))])), (y1, .inl (.long, 25, .inr (.inl (shf K n (plc K k n))))), (y2, .inl (.long, 25, .inr (.inl (shf V n (plc K k n))))), (y3, .inl (.int, 25, .inl (fun q => nI (((shf z n (plc K k n))) q))))] X d_MD_set_102 hn rfl rfl i_MD t_MD t_MD_ok n_MD (by decide) k_fl_MD_73 (fun _ h => h) rfl (by decide +kernel) rfl rfl (Nat.le_of_ble_eq_true rfl) rfl ?_
            refine g_aload_n X d_MD_set_105 2 rfl ?_
            refine g_getf (k := 3) X d_MD_set_106 (hl_w 0 rfl hn) rfl i_MD (by decide) k_fl_MD_7 (fun _ h => h) rfl ?_
            refine g_iload X d_MD_set_109 1 rfl ?_
            refine g_lload_n X d_MD_set_111 3 rfl ?_
            refine h_last 1 [(h, .inr (6, [.int th, .int (nI M), .int (nI (n + 1)), .ref y1, .ref y2, .ref y3, .int (nI u), .ref y4, .ref y5, .ref y6, .ref y7, .int (nI c), .ref y8, .ref y9, .ref y10, .ref y11, .ref y12, .int bd, .int ck, .int ps, .int (nI pa), .int lc, .int (nI (b2n fb)), .long ek, .long ev, .int (nI el), .int (nI fn), .ref y13, .ref y14, .ref y15, .ref y16, .int (nI js), .ref y17, .int (nI (b2n ib))])), (y1, .inl (.long, 25, .inr (.inl (va_up (shf K n (plc K k n)) (plc K k n) k)))), (y2, .inl (.long, 25, .inr (.inl (shf V n (plc K k n))))), (y3, .inl (.int, 25, .inl (fun q => nI (((shf z n (plc K k n))) q))))] X d_MD_set_112 hn rfl (by omega) (by omega) rfl ?_
            refine g_aload_n X d_MD_set_113 2 rfl ?_
            refine g_getf (k := 4) X d_MD_set_114 (hl_w 0 rfl hn) rfl i_MD (by decide) k_fl_MD_13 (fun _ h => h) rfl ?_
            refine g_iload X d_MD_set_117 1 rfl ?_
            refine g_lload_n X d_MD_set_119 4 rfl ?_
            refine h_last 2 [(h, .inr (6, [.int th, .int (nI M), .int (nI (n + 1)), .ref y1, .ref y2, .ref y3, .int (nI u), .ref y4, .ref y5, .ref y6, .ref y7, .int (nI c), .ref y8, .ref y9, .ref y10, .ref y11, .ref y12, .int bd, .int ck, .int ps, .int (nI pa), .int lc, .int (nI (b2n fb)), .long ek, .long ev, .int (nI el), .int (nI fn), .ref y13, .ref y14, .ref y15, .ref y16, .int (nI js), .ref y17, .int (nI (b2n ib))])), (y1, .inl (.long, 25, .inr (.inl (va_up (shf K n (plc K k n)) (plc K k n) k)))), (y2, .inl (.long, 25, .inr (.inl (va_up (shf V n (plc K k n)) (plc K k n) v)))), (y3, .inl (.int, 25, .inl (fun q => nI (((shf z n (plc K k n))) q))))] X d_MD_set_120 hn rfl (by omega) (by omega) rfl ?_
            refine g_aload_n X d_MD_set_121 2 rfl ?_
            refine g_getf (k := 5) X d_MD_set_122 (hl_w 0 rfl hn) rfl i_MD (by decide) k_fl_MD_16 (fun _ h => h) rfl ?_
            refine g_iload X d_MD_set_125 1 rfl ?_
            refine g_iload X d_MD_set_127 5 rfl ?_
            refine h_iastN 3 [(h, .inr (6, [.int th, .int (nI M), .int (nI (n + 1)), .ref y1, .ref y2, .ref y3, .int (nI u), .ref y4, .ref y5, .ref y6, .ref y7, .int (nI c), .ref y8, .ref y9, .ref y10, .ref y11, .ref y12, .int bd, .int ck, .int ps, .int (nI pa), .int lc, .int (nI (b2n fb)), .long ek, .long ev, .int (nI el), .int (nI fn), .ref y13, .ref y14, .ref y15, .ref y16, .int (nI js), .ref y17, .int (nI (b2n ib))])), (y1, .inl (.long, 25, .inr (.inl (va_up (shf K n (plc K k n)) (plc K k n) k)))), (y2, .inl (.long, 25, .inr (.inl (va_up (shf V n (plc K k n)) (plc K k n) v)))), (y3, .inl (.int, 25, .inl (fun q => nI ((va_up (shf z n (plc K k n)) (plc K k n) m) q))))] X d_MD_set_129 hn rfl (by omega) (by omega) rfl ?_
            exact g_vret X hr d_MD_set_130 (Nat.le_of_ble_eq_true rfl) (Nat.le_of_ble_eq_true rfl) (⟨rfl, by rw [stm_shf hf]⟩)
          · have h38 := cv_nle (by omega) (by omega) h38
            obtain ⟨j, e8⟩ : ∃ j, j9 = j + 1 := ⟨j9 - 1, by omega⟩
            subst e8
            refine g_aload_n X d_MD_set_41 2 rfl ?_
            refine g_getf (k := 3) X d_MD_set_42 (hl_w 0 rfl hn) rfl i_MD (by decide) k_fl_MD_7 (fun _ h => h) rfl ?_
            refine g_iload X d_MD_set_45 0 rfl ?_
            refine g_aload_n X d_MD_set_47 2 rfl ?_
            refine g_getf (k := 3) X d_MD_set_48 (hl_w 0 rfl hn) rfl i_MD (by decide) k_fl_MD_7 (fun _ h => h) rfl ?_
            refine g_iload X d_MD_set_51 0 rfl ?_
            refine g_iconst (nI 1) X d_MD_set_53 (by decide) ?_
            refine g_isub X d_MD_set_54 ?_
            refine g_vi (nI j) (pk_sub (by omega)) ?_
            refine h_lald X d_MD_set_55 (hl_w 1 rfl hn) (by omega) (by omega) ?_
            refine h_last 1 [(h, .inr (6, [.int th, .int (nI M), .int (nI n), .ref y1, .ref y2, .ref y3, .int (nI u), .ref y4, .ref y5, .ref y6, .ref y7, .int (nI c), .ref y8, .ref y9, .ref y10, .ref y11, .ref y12, .int bd, .int ck, .int ps, .int (nI pa), .int lc, .int (nI (b2n fb)), .long ek, .long ev, .int (nI el), .int (nI fn), .ref y13, .ref y14, .ref y15, .ref y16, .int (nI js), .ref y17, .int (nI (b2n ib))])), (y1, .inl (.long, 25, .inr (.inl (va_up (shf K n (j + 1)) (j + 1) ((shf K n (j + 1)) j))))), (y2, .inl (.long, 25, .inr (.inl (shf V n (j + 1))))), (y3, .inl (.int, 25, .inl (fun q => nI (((shf z n (j + 1))) q))))] X d_MD_set_56 hn rfl (by omega) (by omega) rfl ?_
            refine g_aload_n X d_MD_set_57 2 rfl ?_
            refine g_getf (k := 4) X d_MD_set_58 (hl_w 0 rfl hn) rfl i_MD (by decide) k_fl_MD_13 (fun _ h => h) rfl ?_
            refine g_iload X d_MD_set_61 0 rfl ?_
            refine g_aload_n X d_MD_set_63 2 rfl ?_
            refine g_getf (k := 4) X d_MD_set_64 (hl_w 0 rfl hn) rfl i_MD (by decide) k_fl_MD_13 (fun _ h => h) rfl ?_
            refine g_iload X d_MD_set_67 0 rfl ?_
            refine g_iconst (nI 1) X d_MD_set_69 (by decide) ?_
            refine g_isub X d_MD_set_70 ?_
            refine g_vi (nI j) (pk_sub (by omega)) ?_
            refine h_lald X d_MD_set_71 (hl_w 2 rfl hn) (by omega) (by omega) ?_
            refine h_last 2 [(h, .inr (6, [.int th, .int (nI M), .int (nI n), .ref y1, .ref y2, .ref y3, .int (nI u), .ref y4, .ref y5, .ref y6, .ref y7, .int (nI c), .ref y8, .ref y9, .ref y10, .ref y11, .ref y12, .int bd, .int ck, .int ps, .int (nI pa), .int lc, .int (nI (b2n fb)), .long ek, .long ev, .int (nI el), .int (nI fn), .ref y13, .ref y14, .ref y15, .ref y16, .int (nI js), .ref y17, .int (nI (b2n ib))])), (y1, .inl (.long, 25, .inr (.inl (va_up (shf K n (j + 1)) (j + 1) ((shf K n (j + 1)) j))))), (y2, .inl (.long, 25, .inr (.inl (va_up (shf V n (j + 1)) (j + 1) ((shf V n (j + 1)) j))))), (y3, .inl (.int, 25, .inl (fun q => nI (((shf z n (j + 1))) q))))] X d_MD_set_72 hn rfl (by omega) (by omega) rfl ?_
            refine g_aload_n X d_MD_set_73 2 rfl ?_
            refine g_getf (k := 5) X d_MD_set_74 (hl_w 0 rfl hn) rfl i_MD (by decide) k_fl_MD_16 (fun _ h => h) rfl ?_
            refine g_iload X d_MD_set_77 0 rfl ?_
            refine g_aload_n X d_MD_set_79 2 rfl ?_
            refine g_getf (k := 5) X d_MD_set_80 (hl_w 0 rfl hn) rfl i_MD (by decide) k_fl_MD_16 (fun _ h => h) rfl ?_
            refine g_iload X d_MD_set_83 0 rfl ?_
            refine g_iconst (nI 1) X d_MD_set_85 (by decide) ?_
            refine g_isub X d_MD_set_86 ?_
            refine g_vi (nI j) (pk_sub (by omega)) ?_
            refine h_iald X d_MD_set_87 (hl_w 3 rfl hn) (by omega) (by omega) ?_
            refine h_iastN 3 [(h, .inr (6, [.int th, .int (nI M), .int (nI n), .ref y1, .ref y2, .ref y3, .int (nI u), .ref y4, .ref y5, .ref y6, .ref y7, .int (nI c), .ref y8, .ref y9, .ref y10, .ref y11, .ref y12, .int bd, .int ck, .int ps, .int (nI pa), .int lc, .int (nI (b2n fb)), .long ek, .long ev, .int (nI el), .int (nI fn), .ref y13, .ref y14, .ref y15, .ref y16, .int (nI js), .ref y17, .int (nI (b2n ib))])), (y1, .inl (.long, 25, .inr (.inl (va_up (shf K n (j + 1)) (j + 1) ((shf K n (j + 1)) j))))), (y2, .inl (.long, 25, .inr (.inl (va_up (shf V n (j + 1)) (j + 1) ((shf V n (j + 1)) j))))), (y3, .inl (.int, 25, .inl (fun q => nI ((va_up (shf z n (j + 1)) (j + 1) ((shf z n (j + 1)) j)) q))))] X d_MD_set_88 hn rfl (by omega) (by omega) rfl ?_
            refine g_iinc (nI j) 0 [(7, .int (nI j)), (6, .int (nI (plc K k n))), (0, .ref h), (1, .long k), (3, .long v), (5, .int (nI m))] X d_MD_set_89 rfl (pk_m1 _) (by decide) rfl ?_
            refine g_goto 34 X d_MD_set_92 (by decide) ?_
            refine g_hp (ws' := [(h, .inr (6, [.int th, .int (nI M), .int (nI n), .ref y1, .ref y2, .ref y3, .int (nI u), .ref y4, .ref y5, .ref y6, .ref y7, .int (nI c), .ref y8, .ref y9, .ref y10, .ref y11, .ref y12, .int bd, .int ck, .int ps, .int (nI pa), .int lc, .int (nI (b2n fb)), .long ek, .long ev, .int (nI el), .int (nI fn), .ref y13, .ref y14, .ref y15, .ref y16, .int (nI js), .ref y17, .int (nI (b2n ib))])), (y1, .inl (.long, 25, .inr (.inl (shf K n j)))), (y2, .inl (.long, 25, .inr (.inl (shf V n j)))), (y3, .inl (.int, 25, .inl (fun q => nI (((shf z n j)) q))))]) (by rw [← shf_s K (show j + 1 ≤ n by omega), ← shf_s V (show j + 1 ≤ n by omega), ← shf_s z (show j + 1 ≤ n by omega), shf_low, shf_low, shf_low]) ?_
            exact ih34 j (by omega) (by omega) (by omega)
      exact L34 _ n (Nat.le_refl _) hl9 (Nat.lt_succ_self _)

set_option maxRecDepth 100000 in
set_option maxHeartbeats 1000000 in
theorem c_MD_hasRoom {l : Launch} (hst : l.stackTraces = false) {h y1 y2 y3 y4 y5 y6 y7 y8 y9 y10 y11 y12 y13 y14 y15 y16 y17 M n u c pa el fn js : Nat} {th bd ck ps lc : Int32} {fb ib : Bool} {ek ev : Int64} {K : Nat → Int64} (hn : [h, y1].Nodup) {k : Int64} {m : Nat} (hm : m < 256) (hu : u ≤ 1024) (hn24 : n ≤ 24) : fh_C l fhCl fhT y_MD_hasRoom (.code y_MD_hasRoom b_MD_hasRoom 4 (some .boolean)) 2 46 [.ref h, .long k, .int (nI m)] (hp [(h, .inr (6, [.int th, .int (nI M), .int (nI n), .ref y1, .ref y2, .ref y3, .int (nI u), .ref y4, .ref y5, .ref y6, .ref y7, .int (nI c), .ref y8, .ref y9, .ref y10, .ref y11, .ref y12, .int bd, .int ck, .int ps, .int (nI pa), .int lc, .int (nI (b2n fb)), .long ek, .long ev, .int (nI el), .int (nI fn), .ref y13, .ref y14, .ref y15, .ref y16, .int (nI js), .ref y17, .int (nI (b2n ib))])), (y1, .inl (.long, 25, .inr (.inl K)))]) (hp []) 0 0 (fh_ret (some (.int (nI (b2n (hrm K n u k m))))) [(h, .inr (6, [.int th, .int (nI M), .int (nI n), .ref y1, .ref y2, .ref y3, .int (nI u), .ref y4, .ref y5, .ref y6, .ref y7, .int (nI c), .ref y8, .ref y9, .ref y10, .ref y11, .ref y12, .int bd, .int ck, .int ps, .int (nI pa), .int lc, .int (nI (b2n fb)), .long ek, .long ev, .int (nI el), .int (nI fn), .ref y13, .ref y14, .ref y15, .ref y16, .int (nI js), .ref y17, .int (nI (b2n ib))])), (y1, .inl (.long, 25, .inr (.inl K)))]) := by
  refine fh_enter (by decide) hst (Nat.le_of_ble_eq_true rfl) ?_
  intro mD mp me sm mm margs mbel mmet mcod X hr hnm hno hf0
  show fh_G mp l me (fh_rm 2 46 0 0) sm mm margs mbel mmet mcod mD fhCl (hp [(h, .inr (6, [.int th, .int (nI M), .int (nI n), .ref y1, .ref y2, .ref y3, .int (nI u), .ref y4, .ref y5, .ref y6, .ref y7, .int (nI c), .ref y8, .ref y9, .ref y10, .ref y11, .ref y12, .int bd, .int ck, .int ps, .int (nI pa), .int lc, .int (nI (b2n fb)), .long ek, .long ev, .int (nI el), .int (nI fn), .ref y13, .ref y14, .ref y15, .ref y16, .int (nI js), .ref y17, .int (nI (b2n ib))])), (y1, .inl (.long, 25, .inr (.inl K)))]) 4 _ 0 0 (hp [(h, .inr (6, [.int th, .int (nI M), .int (nI n), .ref y1, .ref y2, .ref y3, .int (nI u), .ref y4, .ref y5, .ref y6, .ref y7, .int (nI c), .ref y8, .ref y9, .ref y10, .ref y11, .ref y12, .int bd, .int ck, .int ps, .int (nI pa), .int lc, .int (nI (b2n fb)), .long ek, .long ev, .int (nI el), .int (nI fn), .ref y13, .ref y14, .ref y15, .ref y16, .int (nI js), .ref y17, .int (nI (b2n ib))])), (y1, .inl (.long, 25, .inr (.inl K)))]) 0 [(0, .ref h), (1, .long k), (3, .int (nI m))] []
  have hb9 := bOf_m m
  have hbl := b2n_le (isIn K n k)
  refine g_aload_n X d_MD_hasRoom_0 0 rfl ?_
  refine g_lload_n X d_MD_hasRoom_1 1 rfl ?_
  refine h_callV (As := [.long k]) (st := []) [0, 1] [(h, .inr (6, [.int th, .int (nI M), .int (nI n), .ref y1, .ref y2, .ref y3, .int (nI u), .ref y4, .ref y5, .ref y6, .ref y7, .int (nI c), .ref y8, .ref y9, .ref y10, .ref y11, .ref y12, .int bd, .int ck, .int ps, .int (nI pa), .int lc, .int (nI (b2n fb)), .long ek, .long ev, .int (nI el), .int (nI fn), .ref y13, .ref y14, .ref y15, .ref y16, .int (nI js), .ref y17, .int (nI (b2n ib))])), (y1, .inl (.long, 25, .inr (.inl K)))] X d_MD_hasRoom_2 (c_MD_hasKey hst hn hn24) (hl_w 0 rfl hn) rfl rfl k_ml_MD_80 k_cd_MD_hasKey k_in_MD k_im_MD_hasKey k_se_MD_hasKey ⟨by decide +kernel, by decide +kernel, (by decide +kernel : (parseMethodDescriptor y_MD_hasKey.desc).map (fun d => d.parameters.length) = some 1)⟩ ⟨Nat.le_of_ble_eq_true rfl, Nat.le_of_ble_eq_true rfl⟩ ⟨Nat.le_of_ble_eq_true rfl, Nat.le_of_ble_eq_true rfl⟩ (Nat.le_of_ble_eq_true rfl) hn rfl rfl rfl hp_no hp_no2 ?_
  refine g_if_ne 17 X d_MD_hasRoom_5 (by decide) (fun h5 => ?_) (fun h5 => ?_)
  · have h5 := cv_n0 (b2n_31 _) h5
    have hk9 : isIn K n k = true := b2n_t (by omega)
    have ho9 : (isIn K n k || decide (n < 24)) = true := by rw [hk9]; rfl
    refine g_aload_n X d_MD_hasRoom_17 0 rfl ?_
    refine g_getf (k := 6) X d_MD_hasRoom_18 (hl_w 0 rfl hn) rfl i_MD (by decide) k_fl_MD_84 (fun _ h => h) rfl ?_
    refine g_bipush (nI 10) X d_MD_hasRoom_21 (by decide) ?_
    refine g_iadd X d_MD_hasRoom_23 ?_
    refine g_vi (nI (u + 10)) (nI_add _ _) ?_
    refine g_iload_n X d_MD_hasRoom_24 2 rfl ?_
    refine h_callS (As := [.int (nI m)]) (st := [.int (nI (u + 10))]) [] [(h, .inr (6, [.int th, .int (nI M), .int (nI n), .ref y1, .ref y2, .ref y3, .int (nI u), .ref y4, .ref y5, .ref y6, .ref y7, .int (nI c), .ref y8, .ref y9, .ref y10, .ref y11, .ref y12, .int bd, .int ck, .int ps, .int (nI pa), .int lc, .int (nI (b2n fb)), .long ek, .long ev, .int (nI el), .int (nI fn), .ref y13, .ref y14, .ref y15, .ref y16, .int (nI js), .ref y17, .int (nI (b2n ib))])), (y1, .inl (.long, 25, .inr (.inl K)))] X d_MD_hasRoom_25 (c_MD_bytesOf hst hm) rfl k_ml_MD_87 k_cd_MD_bytesOf k_in_MD k_st_MD_bytesOf ⟨by decide +kernel, by decide +kernel, (by decide +kernel : (parseMethodDescriptor y_MD_bytesOf.desc).map (fun d => d.parameters.length) = some 1)⟩ ⟨Nat.le_of_ble_eq_true rfl, Nat.le_of_ble_eq_true rfl⟩ ⟨Nat.le_of_ble_eq_true rfl, Nat.le_of_ble_eq_true rfl⟩ (Nat.le_of_ble_eq_true rfl) hn rfl rfl rfl hp_no hp_no2 ?_
    refine g_iadd X d_MD_hasRoom_28 ?_
    refine g_vi (nI (u + 10 + bOf m)) (nI_add _ _) ?_
    refine g_sipush (nI 1024) X d_MD_hasRoom_29 (by decide) ?_
    refine g_icmp_gt 39 X d_MD_hasRoom_32 (by decide) (fun h32 => ?_) (fun h32 => ?_)
    · have h32 := cv_lt (by omega) (by omega) h32
      have hw9 : hrm K n u k m = false := by rw [hrm, decide_eq_false (show ¬ u + 10 + bOf m ≤ 1024 by omega), Bool.and_false]
      refine g_iconst (nI 0) X d_MD_hasRoom_39 (by decide) ?_
      exact g_zret X hr rfl d_MD_hasRoom_40 (Nat.le_of_ble_eq_true rfl) (Nat.le_of_ble_eq_true rfl) (⟨by rw [hw9]; rfl, rfl⟩)
    · have h32 := cv_nlt (by omega) (by omega) h32
      have hw9 : hrm K n u k m = true := by rw [hrm, ho9, decide_eq_true (show u + 10 + bOf m ≤ 1024 by omega)]; rfl
      refine g_iconst (nI 1) X d_MD_hasRoom_35 (by decide) ?_
      refine g_goto 40 X d_MD_hasRoom_36 (by decide) ?_
      exact g_zret X hr rfl d_MD_hasRoom_40 (Nat.le_of_ble_eq_true rfl) (Nat.le_of_ble_eq_true rfl) (⟨by rw [hw9]; rfl, rfl⟩)
  · have h5 := cv_e0 (b2n_31 _) h5
    have hk9 : isIn K n k = false := b2n_f h5
    refine g_aload_n X d_MD_hasRoom_8 0 rfl ?_
    refine g_getf (k := 2) X d_MD_hasRoom_9 (hl_w 0 rfl hn) rfl i_MD (by decide) k_fl_MD_73 (fun _ h => h) rfl ?_
    refine g_bipush (nI 24) X d_MD_hasRoom_12 (by decide) ?_
    refine g_icmp_ge 39 X d_MD_hasRoom_14 (by decide) (fun h14 => ?_) (fun h14 => ?_)
    · have h14 := cv_le (by omega) (by omega) h14
      have hw9 : hrm K n u k m = false := by rw [hrm, hk9, decide_eq_false (show ¬ n < 24 by omega)]; rfl
      refine g_iconst (nI 0) X d_MD_hasRoom_39 (by decide) ?_
      exact g_zret X hr rfl d_MD_hasRoom_40 (Nat.le_of_ble_eq_true rfl) (Nat.le_of_ble_eq_true rfl) (⟨by rw [hw9]; rfl, rfl⟩)
    · have h14 := cv_nle (by omega) (by omega) h14
      have ho9 : (isIn K n k || decide (n < 24)) = true := by rw [decide_eq_true h14, Bool.or_true]
      refine g_aload_n X d_MD_hasRoom_17 0 rfl ?_
      refine g_getf (k := 6) X d_MD_hasRoom_18 (hl_w 0 rfl hn) rfl i_MD (by decide) k_fl_MD_84 (fun _ h => h) rfl ?_
      refine g_bipush (nI 10) X d_MD_hasRoom_21 (by decide) ?_
      refine g_iadd X d_MD_hasRoom_23 ?_
      refine g_vi (nI (u + 10)) (nI_add _ _) ?_
      refine g_iload_n X d_MD_hasRoom_24 2 rfl ?_
      refine h_callS (As := [.int (nI m)]) (st := [.int (nI (u + 10))]) [] [(h, .inr (6, [.int th, .int (nI M), .int (nI n), .ref y1, .ref y2, .ref y3, .int (nI u), .ref y4, .ref y5, .ref y6, .ref y7, .int (nI c), .ref y8, .ref y9, .ref y10, .ref y11, .ref y12, .int bd, .int ck, .int ps, .int (nI pa), .int lc, .int (nI (b2n fb)), .long ek, .long ev, .int (nI el), .int (nI fn), .ref y13, .ref y14, .ref y15, .ref y16, .int (nI js), .ref y17, .int (nI (b2n ib))])), (y1, .inl (.long, 25, .inr (.inl K)))] X d_MD_hasRoom_25 (c_MD_bytesOf hst hm) rfl k_ml_MD_87 k_cd_MD_bytesOf k_in_MD k_st_MD_bytesOf ⟨by decide +kernel, by decide +kernel, (by decide +kernel : (parseMethodDescriptor y_MD_bytesOf.desc).map (fun d => d.parameters.length) = some 1)⟩ ⟨Nat.le_of_ble_eq_true rfl, Nat.le_of_ble_eq_true rfl⟩ ⟨Nat.le_of_ble_eq_true rfl, Nat.le_of_ble_eq_true rfl⟩ (Nat.le_of_ble_eq_true rfl) hn rfl rfl rfl hp_no hp_no2 ?_
      refine g_iadd X d_MD_hasRoom_28 ?_
      refine g_vi (nI (u + 10 + bOf m)) (nI_add _ _) ?_
      refine g_sipush (nI 1024) X d_MD_hasRoom_29 (by decide) ?_
      refine g_icmp_gt 39 X d_MD_hasRoom_32 (by decide) (fun h32 => ?_) (fun h32 => ?_)
      · have h32 := cv_lt (by omega) (by omega) h32
        have hw9 : hrm K n u k m = false := by rw [hrm, decide_eq_false (show ¬ u + 10 + bOf m ≤ 1024 by omega), Bool.and_false]
        refine g_iconst (nI 0) X d_MD_hasRoom_39 (by decide) ?_
        exact g_zret X hr rfl d_MD_hasRoom_40 (Nat.le_of_ble_eq_true rfl) (Nat.le_of_ble_eq_true rfl) (⟨by rw [hw9]; rfl, rfl⟩)
      · have h32 := cv_nlt (by omega) (by omega) h32
        have hw9 : hrm K n u k m = true := by rw [hrm, ho9, decide_eq_true (show u + 10 + bOf m ≤ 1024 by omega)]; rfl
        refine g_iconst (nI 1) X d_MD_hasRoom_35 (by decide) ?_
        refine g_goto 40 X d_MD_hasRoom_36 (by decide) ?_
        exact g_zret X hr rfl d_MD_hasRoom_40 (Nat.le_of_ble_eq_true rfl) (Nat.le_of_ble_eq_true rfl) (⟨by rw [hw9]; rfl, rfl⟩)

set_option maxRecDepth 100000 in
set_option maxHeartbeats 1000000 in
theorem c_MD_note {l : Launch} (hst : l.stackTraces = false) {h y1 y2 y3 y4 y5 y6 y7 y8 y9 y10 y11 y12 y13 y14 y15 y16 y17 M n u c pa el fn js : Nat} {th bd ck ps lc : Int32} {fb ib : Bool} {ek ev : Int64} {L : Nat → Nat} (hn : [h, y4].Nodup) {m : Nat} (hu : u < 1024) : fh_C l fhCl fhT y_MD_note (.code y_MD_note b_MD_note 2 none) 0 0 [.ref h, .int (nI m)] (hp [(h, .inr (6, [.int th, .int (nI M), .int (nI n), .ref y1, .ref y2, .ref y3, .int (nI u), .ref y4, .ref y5, .ref y6, .ref y7, .int (nI c), .ref y8, .ref y9, .ref y10, .ref y11, .ref y12, .int bd, .int ck, .int ps, .int (nI pa), .int lc, .int (nI (b2n fb)), .long ek, .long ev, .int (nI el), .int (nI fn), .ref y13, .ref y14, .ref y15, .ref y16, .int (nI js), .ref y17, .int (nI (b2n ib))])), (y4, .inl (.int, 1024, .inl (fun q => nI (L q))))]) (hp []) 0 0 (fh_ret none [(h, .inr (6, [.int th, .int (nI M), .int (nI n), .ref y1, .ref y2, .ref y3, .int (nI (u + 1)), .ref y4, .ref y5, .ref y6, .ref y7, .int (nI c), .ref y8, .ref y9, .ref y10, .ref y11, .ref y12, .int bd, .int ck, .int ps, .int (nI pa), .int lc, .int (nI (b2n fb)), .long ek, .long ev, .int (nI el), .int (nI fn), .ref y13, .ref y14, .ref y15, .ref y16, .int (nI js), .ref y17, .int (nI (b2n ib))])), (y4, .inl (.int, 1024, .inl (fun q => nI (((va_up L u m)) q))))]) := by
  refine fh_enter (by decide) hst (Nat.le_of_ble_eq_true rfl) ?_
  intro mD mp me sm mm margs mbel mmet mcod X hr hnm hno hf0
  show fh_G mp l me (fh_rm 0 0 0 0) sm mm margs mbel mmet mcod mD fhCl (hp [(h, .inr (6, [.int th, .int (nI M), .int (nI n), .ref y1, .ref y2, .ref y3, .int (nI u), .ref y4, .ref y5, .ref y6, .ref y7, .int (nI c), .ref y8, .ref y9, .ref y10, .ref y11, .ref y12, .int bd, .int ck, .int ps, .int (nI pa), .int lc, .int (nI (b2n fb)), .long ek, .long ev, .int (nI el), .int (nI fn), .ref y13, .ref y14, .ref y15, .ref y16, .int (nI js), .ref y17, .int (nI (b2n ib))])), (y4, .inl (.int, 1024, .inl (fun q => nI (L q))))]) 2 _ 0 0 (hp [(h, .inr (6, [.int th, .int (nI M), .int (nI n), .ref y1, .ref y2, .ref y3, .int (nI u), .ref y4, .ref y5, .ref y6, .ref y7, .int (nI c), .ref y8, .ref y9, .ref y10, .ref y11, .ref y12, .int bd, .int ck, .int ps, .int (nI pa), .int lc, .int (nI (b2n fb)), .long ek, .long ev, .int (nI el), .int (nI fn), .ref y13, .ref y14, .ref y15, .ref y16, .int (nI js), .ref y17, .int (nI (b2n ib))])), (y4, .inl (.int, 1024, .inl (fun q => nI (L q))))]) 0 [(0, .ref h), (1, .int (nI m))] []
  refine g_aload_n X d_MD_note_0 0 rfl ?_
  refine g_getf (k := 7) X d_MD_note_1 (hl_w 0 rfl hn) rfl i_MD (by decide) k_fl_MD_20 (fun _ h => h) rfl ?_
  refine g_aload_n X d_MD_note_4 0 rfl ?_
  refine g_getf (k := 6) X d_MD_note_5 (hl_w 0 rfl hn) rfl i_MD (by decide) k_fl_MD_84 (fun _ h => h) rfl ?_
  refine g_iload_n X d_MD_note_8 1 rfl ?_
  refine h_iastN 1 [(h, .inr (6, [.int th, .int (nI M), .int (nI n), .ref y1, .ref y2, .ref y3, .int (nI u), .ref y4, .ref y5, .ref y6, .ref y7, .int (nI c), .ref y8, .ref y9, .ref y10, .ref y11, .ref y12, .int bd, .int ck, .int ps, .int (nI pa), .int lc, .int (nI (b2n fb)), .long ek, .long ev, .int (nI el), .int (nI fn), .ref y13, .ref y14, .ref y15, .ref y16, .int (nI js), .ref y17, .int (nI (b2n ib))])), (y4, .inl (.int, 1024, .inl (fun q => nI ((va_up L u m) q))))] X d_MD_note_9 hn rfl (by omega) (by omega) rfl ?_
  refine g_aload_n X d_MD_note_10 0 rfl ?_
  refine g_dup X d_MD_note_11 rfl ?_
  refine g_getf (k := 6) X d_MD_note_12 (hl_w 0 rfl hn) rfl i_MD (by decide) k_fl_MD_84 (fun _ h => h) rfl ?_
  refine g_iconst (nI 1) X d_MD_note_15 (by decide) ?_
  refine g_iadd X d_MD_note_16 ?_
  refine g_vi (nI (u + 1)) (nI_add _ _) ?_
  refine h_putf (k := 6) (ty := .int) 0 [(h, .inr (6, [.int th, .int (nI M), .int (nI n), .ref y1, .ref y2, .ref y3, .int (nI (u + 1)), .ref y4, .ref y5, .ref y6, .ref y7, .int (nI c), .ref y8, .ref y9, .ref y10, .ref y11, .ref y12, .int bd, .int ck, .int ps, .int (nI pa), .int lc, .int (nI (b2n fb)), .long ek, .long ev, .int (nI el), .int (nI fn), .ref y13, .ref y14, .ref y15, .ref y16, .int (nI js), .ref y17, .int (nI (b2n ib))])), (y4, .inl (.int, 1024, .inl (fun q => nI ((va_up L u m) q))))] X d_MD_note_17 hn rfl rfl i_MD t_MD t_MD_ok n_MD (by decide) k_fl_MD_84 (fun _ h => h) rfl (by decide +kernel) rfl rfl (Nat.le_of_ble_eq_true rfl) rfl ?_
  exact g_vret X hr d_MD_note_20 (Nat.le_of_ble_eq_true rfl) (Nat.le_of_ble_eq_true rfl) (fh_ret_i)

set_option maxRecDepth 100000 in
set_option maxHeartbeats 1000000 in
theorem c_MD_logSum {l : Launch} (hst : l.stackTraces = false) {h y1 y2 y3 y4 y5 y6 y7 y8 y9 y10 y11 y12 y13 y14 y15 y16 y17 M n u c pa el fn js : Nat} {th bd ck ps lc : Int32} {fb ib : Bool} {ek ev : Int64} {L : Nat → Nat} (hn : [h, y4].Nodup) {a e : Nat} (he : e ≤ 1024) (hae : a ≤ e) (hL : ∀ q, L q < 256) : fh_C l fhCl fhT y_MD_logSum (.code y_MD_logSum b_MD_logSum 5 (some .int)) 0 0 [.ref h, .int (nI a), .int (nI e)] (hp [(h, .inr (6, [.int th, .int (nI M), .int (nI n), .ref y1, .ref y2, .ref y3, .int (nI u), .ref y4, .ref y5, .ref y6, .ref y7, .int (nI c), .ref y8, .ref y9, .ref y10, .ref y11, .ref y12, .int bd, .int ck, .int ps, .int (nI pa), .int lc, .int (nI (b2n fb)), .long ek, .long ev, .int (nI el), .int (nI fn), .ref y13, .ref y14, .ref y15, .ref y16, .int (nI js), .ref y17, .int (nI (b2n ib))])), (y4, .inl (.int, 1024, .inl (fun q => nI (L q))))]) (hp []) 0 0 (fh_ret (some (.int (nI (smf (fun i => L (a + i)) (e - a) % 256)))) [(h, .inr (6, [.int th, .int (nI M), .int (nI n), .ref y1, .ref y2, .ref y3, .int (nI u), .ref y4, .ref y5, .ref y6, .ref y7, .int (nI c), .ref y8, .ref y9, .ref y10, .ref y11, .ref y12, .int bd, .int ck, .int ps, .int (nI pa), .int lc, .int (nI (b2n fb)), .long ek, .long ev, .int (nI el), .int (nI fn), .ref y13, .ref y14, .ref y15, .ref y16, .int (nI js), .ref y17, .int (nI (b2n ib))])), (y4, .inl (.int, 1024, .inl (fun q => nI (L q))))]) := by
  refine fh_enter (by decide) hst (Nat.le_of_ble_eq_true rfl) ?_
  intro mD mp me sm mm margs mbel mmet mcod X hr hnm hno hf0
  show fh_G mp l me (fh_rm 0 0 0 0) sm mm margs mbel mmet mcod mD fhCl (hp [(h, .inr (6, [.int th, .int (nI M), .int (nI n), .ref y1, .ref y2, .ref y3, .int (nI u), .ref y4, .ref y5, .ref y6, .ref y7, .int (nI c), .ref y8, .ref y9, .ref y10, .ref y11, .ref y12, .int bd, .int ck, .int ps, .int (nI pa), .int lc, .int (nI (b2n fb)), .long ek, .long ev, .int (nI el), .int (nI fn), .ref y13, .ref y14, .ref y15, .ref y16, .int (nI js), .ref y17, .int (nI (b2n ib))])), (y4, .inl (.int, 1024, .inl (fun q => nI (L q))))]) 5 _ 0 0 (hp [(h, .inr (6, [.int th, .int (nI M), .int (nI n), .ref y1, .ref y2, .ref y3, .int (nI u), .ref y4, .ref y5, .ref y6, .ref y7, .int (nI c), .ref y8, .ref y9, .ref y10, .ref y11, .ref y12, .int bd, .int ck, .int ps, .int (nI pa), .int lc, .int (nI (b2n fb)), .long ek, .long ev, .int (nI el), .int (nI fn), .ref y13, .ref y14, .ref y15, .ref y16, .int (nI js), .ref y17, .int (nI (b2n ib))])), (y4, .inl (.int, 1024, .inl (fun q => nI (L q))))]) 0 [(0, .ref h), (1, .int (nI a)), (2, .int (nI e))] []
  refine g_iconst (nI 0) X d_MD_logSum_0 (by decide) ?_
  refine g_istore_n [(3, .int (nI 0)), (0, .ref h), (1, .int (nI a)), (2, .int (nI e))] X d_MD_logSum_1 (by decide) rfl ?_
  refine g_iload_n X d_MD_logSum_2 2 rfl ?_
  refine g_istore [(4, .int (nI a)), (3, .int (nI 0)), (0, .ref h), (1, .int (nI a)), (2, .int (nI e))] X d_MD_logSum_3 (by decide) rfl ?_
  have L5 : ∀ (fu5 : Nat) (j : Nat), (j ≤ e - a) → e - a - j < fu5 → fh_G mp l me (fh_rm 0 0 0 0) sm mm margs mbel mmet mcod mD fhCl (hp [(h, .inr (6, [.int th, .int (nI M), .int (nI n), .ref y1, .ref y2, .ref y3, .int (nI u), .ref y4, .ref y5, .ref y6, .ref y7, .int (nI c), .ref y8, .ref y9, .ref y10, .ref y11, .ref y12, .int bd, .int ck, .int ps, .int (nI pa), .int lc, .int (nI (b2n fb)), .long ek, .long ev, .int (nI el), .int (nI fn), .ref y13, .ref y14, .ref y15, .ref y16, .int (nI js), .ref y17, .int (nI (b2n ib))])), (y4, .inl (.int, 1024, .inl (fun q => nI (L q))))]) 5 (fh_MQ mbel mD fhCl (hp [(h, .inr (6, [.int th, .int (nI M), .int (nI n), .ref y1, .ref y2, .ref y3, .int (nI u), .ref y4, .ref y5, .ref y6, .ref y7, .int (nI c), .ref y8, .ref y9, .ref y10, .ref y11, .ref y12, .int bd, .int ck, .int ps, .int (nI pa), .int lc, .int (nI (b2n fb)), .long ek, .long ev, .int (nI el), .int (nI fn), .ref y13, .ref y14, .ref y15, .ref y16, .int (nI js), .ref y17, .int (nI (b2n ib))])), (y4, .inl (.int, 1024, .inl (fun q => nI (L q))))]) (fh_ret (some (.int (nI (smf (fun i => L (a + i)) (e - a) % 256)))) [(h, .inr (6, [.int th, .int (nI M), .int (nI n), .ref y1, .ref y2, .ref y3, .int (nI u), .ref y4, .ref y5, .ref y6, .ref y7, .int (nI c), .ref y8, .ref y9, .ref y10, .ref y11, .ref y12, .int bd, .int ck, .int ps, .int (nI pa), .int lc, .int (nI (b2n fb)), .long ek, .long ev, .int (nI el), .int (nI fn), .ref y13, .ref y14, .ref y15, .ref y16, .int (nI js), .ref y17, .int (nI (b2n ib))])), (y4, .inl (.int, 1024, .inl (fun q => nI (L q))))]) margs sm 0 0) 0 0 (hp [(h, .inr (6, [.int th, .int (nI M), .int (nI n), .ref y1, .ref y2, .ref y3, .int (nI u), .ref y4, .ref y5, .ref y6, .ref y7, .int (nI c), .ref y8, .ref y9, .ref y10, .ref y11, .ref y12, .int bd, .int ck, .int ps, .int (nI pa), .int lc, .int (nI (b2n fb)), .long ek, .long ev, .int (nI el), .int (nI fn), .ref y13, .ref y14, .ref y15, .ref y16, .int (nI js), .ref y17, .int (nI (b2n ib))])), (y4, .inl (.int, 1024, .inl (fun q => nI (L q))))]) 5 [(4, .int (nI (a + j))), (3, .int (nI (smf (fun i => L (a + i)) j % 256))), (0, .ref h), (1, .int (nI a)), (2, .int (nI e))] [] := by
    intro fu5
    induction fu5 with
    | zero => intro j q1 hm5; exact absurd hm5 (Nat.not_lt_zero _)
    | succ fu5 ih5 =>
      intro j q1 hm5
      refine g_iload X d_MD_logSum_5 0 rfl ?_
      refine g_iload_n X d_MD_logSum_7 4 rfl ?_
      refine g_icmp_ge 31 X d_MD_logSum_8 (by decide) (fun h8 => ?_) (fun h8 => ?_)
      · have h8 := cv_le (by omega) (by omega) h8
        have e8 : j = e - a := by omega
        refine g_iload_n X d_MD_logSum_31 1 rfl ?_
        exact g_iret X hr d_MD_logSum_32 (Nat.le_of_ble_eq_true rfl) (Nat.le_of_ble_eq_true rfl) (⟨by rw [e8], rfl⟩)
      · have h8 := cv_nle (by omega) (by omega) h8
        refine g_iload_n X d_MD_logSum_11 1 rfl ?_
        refine g_aload_n X d_MD_logSum_12 2 rfl ?_
        refine g_getf (k := 7) X d_MD_logSum_13 (hl_w 0 rfl hn) rfl i_MD (by decide) k_fl_MD_20 (fun _ h => h) rfl ?_
        refine g_iload X d_MD_logSum_16 0 rfl ?_
        refine h_iald X d_MD_logSum_18 (hl_w 1 rfl hn) (by omega) (by omega) ?_
        refine g_iadd X d_MD_logSum_19 ?_
        refine g_vi (nI (smf (fun i => L (a + i)) j % 256 + L (a + j))) (nI_add _ _) ?_
        refine g_sipush (nI 255) X d_MD_logSum_20 (by decide) ?_
        refine g_iand X d_MD_logSum_23 ?_
        refine g_vi (nI (smf (fun i => L (a + i)) (j + 1) % 256)) ((and255 (smf_lt2 _ _ (hL _))).trans (by rw [sm255]; rfl)) ?_
        refine g_istore_n [(3, .int (nI (smf (fun i => L (a + i)) (j + 1) % 256))), (4, .int (nI (a + j))), (0, .ref h), (1, .int (nI a)), (2, .int (nI e))] X d_MD_logSum_24 (by decide) rfl ?_
        refine g_iinc (nI (a + j + 1)) 1 [(4, .int (nI (a + j + 1))), (3, .int (nI (smf (fun i => L (a + i)) (j + 1) % 256))), (0, .ref h), (1, .int (nI a)), (2, .int (nI e))] X d_MD_logSum_25 rfl (nI_1 _) (by decide) rfl ?_
        refine g_goto 5 X d_MD_logSum_28 (by decide) ?_
        refine g_lve (lv' := [(4, .int (nI (a + (j + 1)))), (3, .int (nI (smf (fun i => L (a + i)) (j + 1) % 256))), (0, .ref h), (1, .int (nI a)), (2, .int (nI e))]) rfl ?_
        exact ih5 (j + 1) (by omega) (by omega)
  exact L5 _ 0 (Nat.zero_le _) (Nat.lt_succ_self _)
