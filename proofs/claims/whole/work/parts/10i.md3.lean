set_option maxRecDepth 100000 in
set_option maxHeartbeats 1000000 in
theorem c_MD_fault {l : Launch} (hst : l.stackTraces = false) {h y1 y2 y3 y4 y5 y6 y7 y8 y9 y10 y11 y12 y13 y14 y15 y16 y17 M n u c pa el fn js : Nat} {th bd ck ps lc : Int32} {fb ib : Bool} {ek ev : Int64} {bk : Nat → Nat} (hn : [h, y11].Nodup) {a k : Nat} (hk : 128 * a + k < 2176) : fh_C l fhCl fhT y_MD_fault (.code y_MD_fault b_MD_fault 3 none) 0 0 [.ref h, .int (nI a), .int (nI k)] (hp [(h, .inr (6, [.int th, .int (nI M), .int (nI n), .ref y1, .ref y2, .ref y3, .int (nI u), .ref y4, .ref y5, .ref y6, .ref y7, .int (nI c), .ref y8, .ref y9, .ref y10, .ref y11, .ref y12, .int bd, .int ck, .int ps, .int (nI pa), .int lc, .int (nI (b2n fb)), .long ek, .long ev, .int (nI el), .int (nI fn), .ref y13, .ref y14, .ref y15, .ref y16, .int (nI js), .ref y17, .int (nI (b2n ib))])), (y11, .inl (.int, 2176, .inl (fun q => nI (bk q))))]) (hp []) 0 0 (fh_ret none [(h, .inr (6, [.int th, .int (nI M), .int (nI n), .ref y1, .ref y2, .ref y3, .int (nI u), .ref y4, .ref y5, .ref y6, .ref y7, .int (nI c), .ref y8, .ref y9, .ref y10, .ref y11, .ref y12, .int (nI (bk (128 * a + k))), .int ck, .int ps, .int (nI pa), .int lc, .int (nI 1), .long ek, .long ev, .int (nI el), .int (nI fn), .ref y13, .ref y14, .ref y15, .ref y16, .int (nI js), .ref y17, .int (nI (b2n ib))])), (y11, .inl (.int, 2176, .inl (fun q => nI (bk q))))]) := by
  refine fh_enter (by decide) hst (Nat.le_of_ble_eq_true rfl) ?_
  intro mD mp me sm mm margs mbel mmet mcod X hr hnm hno hf0
  show fh_G mp l me (fh_rm 0 0 0 0) sm mm margs mbel mmet mcod mD fhCl (hp [(h, .inr (6, [.int th, .int (nI M), .int (nI n), .ref y1, .ref y2, .ref y3, .int (nI u), .ref y4, .ref y5, .ref y6, .ref y7, .int (nI c), .ref y8, .ref y9, .ref y10, .ref y11, .ref y12, .int bd, .int ck, .int ps, .int (nI pa), .int lc, .int (nI (b2n fb)), .long ek, .long ev, .int (nI el), .int (nI fn), .ref y13, .ref y14, .ref y15, .ref y16, .int (nI js), .ref y17, .int (nI (b2n ib))])), (y11, .inl (.int, 2176, .inl (fun q => nI (bk q))))]) 3 _ 0 0 (hp [(h, .inr (6, [.int th, .int (nI M), .int (nI n), .ref y1, .ref y2, .ref y3, .int (nI u), .ref y4, .ref y5, .ref y6, .ref y7, .int (nI c), .ref y8, .ref y9, .ref y10, .ref y11, .ref y12, .int bd, .int ck, .int ps, .int (nI pa), .int lc, .int (nI (b2n fb)), .long ek, .long ev, .int (nI el), .int (nI fn), .ref y13, .ref y14, .ref y15, .ref y16, .int (nI js), .ref y17, .int (nI (b2n ib))])), (y11, .inl (.int, 2176, .inl (fun q => nI (bk q))))]) 0 [(0, .ref h), (1, .int (nI a)), (2, .int (nI k))] []
  refine g_aload_n X d_MD_fault_0 0 rfl ?_
  refine g_iconst (nI 1) X d_MD_fault_1 (by decide) ?_
  refine h_putf (k := 22) (ty := .boolean) 0 [(h, .inr (6, [.int th, .int (nI M), .int (nI n), .ref y1, .ref y2, .ref y3, .int (nI u), .ref y4, .ref y5, .ref y6, .ref y7, .int (nI c), .ref y8, .ref y9, .ref y10, .ref y11, .ref y12, .int bd, .int ck, .int ps, .int (nI pa), .int lc, .int (nI 1), .long ek, .long ev, .int (nI el), .int (nI fn), .ref y13, .ref y14, .ref y15, .ref y16, .int (nI js), .ref y17, .int (nI (b2n ib))])), (y11, .inl (.int, 2176, .inl (fun q => nI (bk q))))] X d_MD_fault_2 hn rfl rfl i_MD t_MD t_MD_ok n_MD (by decide) k_fl_MD_170 (fun _ h => h) rfl (by decide +kernel) rfl rfl (Nat.le_of_ble_eq_true rfl) rfl ?_
  refine g_aload_n X d_MD_fault_5 0 rfl ?_
  refine g_aload_n X d_MD_fault_6 0 rfl ?_
  refine g_getf (k := 15) X d_MD_fault_7 (hl_w 0 rfl hn) rfl i_MD (by decide) k_fl_MD_42 (fun _ h => h) rfl ?_
  refine g_sipush (nI 128) X d_MD_fault_10 (by decide) ?_
  refine g_iload_n X d_MD_fault_13 1 rfl ?_
  refine g_imul X d_MD_fault_14 ?_
  refine g_vi (nI (128 * a)) (pk_mul _ _) ?_
  refine g_iload_n X d_MD_fault_15 2 rfl ?_
  refine g_iadd X d_MD_fault_16 ?_
  refine g_vi (nI (128 * a + k)) (nI_add _ _) ?_
  refine h_iald X d_MD_fault_17 (hl_w 1 rfl hn) (by omega) (by omega) ?_
  refine h_putf (k := 17) (ty := .int) 0 [(h, .inr (6, [.int th, .int (nI M), .int (nI n), .ref y1, .ref y2, .ref y3, .int (nI u), .ref y4, .ref y5, .ref y6, .ref y7, .int (nI c), .ref y8, .ref y9, .ref y10, .ref y11, .ref y12, .int (nI (bk (128 * a + k))), .int ck, .int ps, .int (nI pa), .int lc, .int (nI 1), .long ek, .long ev, .int (nI el), .int (nI fn), .ref y13, .ref y14, .ref y15, .ref y16, .int (nI js), .ref y17, .int (nI (b2n ib))])), (y11, .inl (.int, 2176, .inl (fun q => nI (bk q))))] X d_MD_fault_18 hn rfl rfl i_MD t_MD t_MD_ok n_MD (by decide) k_fl_MD_48 (fun _ h => h) rfl (by decide +kernel) rfl rfl (Nat.le_of_ble_eq_true rfl) rfl ?_
  exact g_vret X hr d_MD_fault_21 (Nat.le_of_ble_eq_true rfl) (Nat.le_of_ble_eq_true rfl) (fh_ret_i)

set_option maxRecDepth 100000 in
set_option maxHeartbeats 1000000 in
theorem c_MD_isRight_t {l : Launch} (hst : l.stackTraces = false) {h y1 y2 y3 y4 y5 y6 y7 y8 y9 y10 y11 y12 y13 y14 y15 y16 y17 M n u c pa el fn js : Nat} {th bd ck ps lc : Int32} {fb ib : Bool} {ek ev : Int64} {bk : Nat → Nat} {S : Nat → Int32} {D : Nat → Nat} (hn : [h, y11, y6, y5].Nodup) {a k : Nat} (ha : a < 17) (hk : k < 128) (hb9 : bk (128 * a + k) < 128) (hr9 : S (bk (128 * a + k)) = sumS (nI k) (fun q => D (bk (128 * a + k) * 32 + q)) 32) : fh_C l fhCl fhT y_MD_isRight (.code y_MD_isRight b_MD_isRight 4 (some .boolean)) 1 25 [.ref h, .int (nI a), .int (nI k)] (hp [(h, .inr (6, [.int th, .int (nI M), .int (nI n), .ref y1, .ref y2, .ref y3, .int (nI u), .ref y4, .ref y5, .ref y6, .ref y7, .int (nI c), .ref y8, .ref y9, .ref y10, .ref y11, .ref y12, .int bd, .int ck, .int ps, .int (nI pa), .int lc, .int (nI (b2n fb)), .long ek, .long ev, .int (nI el), .int (nI fn), .ref y13, .ref y14, .ref y15, .ref y16, .int (nI js), .ref y17, .int (nI (b2n ib))])), (y11, .inl (.int, 2176, .inl (fun q => nI (bk q)))), (y6, .inl (.int, 128, .inl S)), (y5, .inl (.int, 4096, .inl (fun q => nI (D q))))]) (hp []) 0 0 (fh_ret (some (.int (nI 1))) [(h, .inr (6, [.int th, .int (nI M), .int (nI n), .ref y1, .ref y2, .ref y3, .int (nI u), .ref y4, .ref y5, .ref y6, .ref y7, .int (nI c), .ref y8, .ref y9, .ref y10, .ref y11, .ref y12, .int bd, .int (ck + nI 1), .int ps, .int (nI pa), .int lc, .int (nI (b2n fb)), .long ek, .long ev, .int (nI el), .int (nI fn), .ref y13, .ref y14, .ref y15, .ref y16, .int (nI js), .ref y17, .int (nI (b2n ib))])), (y11, .inl (.int, 2176, .inl (fun q => nI (bk q)))), (y6, .inl (.int, 128, .inl S)), (y5, .inl (.int, 4096, .inl (fun q => nI (D q))))]) := by
  refine fh_enter (by decide) hst (Nat.le_of_ble_eq_true rfl) ?_
  intro mD mp me sm mm margs mbel mmet mcod X hr hnm hno hf0
  show fh_G mp l me (fh_rm 1 25 0 0) sm mm margs mbel mmet mcod mD fhCl (hp [(h, .inr (6, [.int th, .int (nI M), .int (nI n), .ref y1, .ref y2, .ref y3, .int (nI u), .ref y4, .ref y5, .ref y6, .ref y7, .int (nI c), .ref y8, .ref y9, .ref y10, .ref y11, .ref y12, .int bd, .int ck, .int ps, .int (nI pa), .int lc, .int (nI (b2n fb)), .long ek, .long ev, .int (nI el), .int (nI fn), .ref y13, .ref y14, .ref y15, .ref y16, .int (nI js), .ref y17, .int (nI (b2n ib))])), (y11, .inl (.int, 2176, .inl (fun q => nI (bk q)))), (y6, .inl (.int, 128, .inl S)), (y5, .inl (.int, 4096, .inl (fun q => nI (D q))))]) 4 _ 0 0 (hp [(h, .inr (6, [.int th, .int (nI M), .int (nI n), .ref y1, .ref y2, .ref y3, .int (nI u), .ref y4, .ref y5, .ref y6, .ref y7, .int (nI c), .ref y8, .ref y9, .ref y10, .ref y11, .ref y12, .int bd, .int ck, .int ps, .int (nI pa), .int lc, .int (nI (b2n fb)), .long ek, .long ev, .int (nI el), .int (nI fn), .ref y13, .ref y14, .ref y15, .ref y16, .int (nI js), .ref y17, .int (nI (b2n ib))])), (y11, .inl (.int, 2176, .inl (fun q => nI (bk q)))), (y6, .inl (.int, 128, .inl S)), (y5, .inl (.int, 4096, .inl (fun q => nI (D q))))]) 0 [(0, .ref h), (1, .int (nI a)), (2, .int (nI k))] []
  have hn5 : [h, y5].Nodup := (List.Nodup.sublist (by repeat first | exact List.nil_sublist _ | apply List.Sublist.cons₂ | apply List.Sublist.cons) hn)
  have hn11 : [h, y11].Nodup := (List.Nodup.sublist (by repeat first | exact List.nil_sublist _ | apply List.Sublist.cons₂ | apply List.Sublist.cons) hn)
  refine g_aload_n X d_MD_isRight_0 0 rfl ?_
  refine g_dup X d_MD_isRight_1 rfl ?_
  refine g_getf (k := 18) X d_MD_isRight_2 (hl_w 0 rfl hn) rfl i_MD (by decide) k_fl_MD_174 (fun _ h => h) rfl ?_
  refine g_iconst (nI 1) X d_MD_isRight_5 (by decide) ?_
  refine g_iadd X d_MD_isRight_6 ?_
  refine h_putf (k := 18) (ty := .int) 0 [(h, .inr (6, [.int th, .int (nI M), .int (nI n), .ref y1, .ref y2, .ref y3, .int (nI u), .ref y4, .ref y5, .ref y6, .ref y7, .int (nI c), .ref y8, .ref y9, .ref y10, .ref y11, .ref y12, .int bd, .int (ck + (nI 1)), .int ps, .int (nI pa), .int lc, .int (nI (b2n fb)), .long ek, .long ev, .int (nI el), .int (nI fn), .ref y13, .ref y14, .ref y15, .ref y16, .int (nI js), .ref y17, .int (nI (b2n ib))])), (y11, .inl (.int, 2176, .inl (fun q => nI (bk q)))), (y6, .inl (.int, 128, .inl S)), (y5, .inl (.int, 4096, .inl (fun q => nI (D q))))] X d_MD_isRight_7 hn rfl rfl i_MD t_MD t_MD_ok n_MD (by decide) k_fl_MD_174 (fun _ h => h) rfl (by decide +kernel) rfl rfl (Nat.le_of_ble_eq_true rfl) rfl ?_
  refine g_aload_n X d_MD_isRight_10 0 rfl ?_
  refine g_getf (k := 15) X d_MD_isRight_11 (hl_w 0 rfl hn) rfl i_MD (by decide) k_fl_MD_42 (fun _ h => h) rfl ?_
  refine g_sipush (nI 128) X d_MD_isRight_14 (by decide) ?_
  refine g_iload_n X d_MD_isRight_17 1 rfl ?_
  refine g_imul X d_MD_isRight_18 ?_
  refine g_vi (nI (128 * a)) (pk_mul _ _) ?_
  refine g_iload_n X d_MD_isRight_19 2 rfl ?_
  refine g_iadd X d_MD_isRight_20 ?_
  refine g_vi (nI (128 * a + k)) (nI_add _ _) ?_
  refine h_iald X d_MD_isRight_21 (hl_w 1 rfl hn) (by omega) (by omega) ?_
  refine g_istore_n [(3, .int (nI (bk (128 * a + k)))), (0, .ref h), (1, .int (nI a)), (2, .int (nI k))] X d_MD_isRight_22 (by decide) rfl ?_
  refine g_aload_n X d_MD_isRight_23 1 rfl ?_
  refine g_getf (k := 9) X d_MD_isRight_24 (hl_w 0 rfl hn) rfl i_MD (by decide) k_fl_MD_26 (fun _ h => h) rfl ?_
  refine g_iload_n X d_MD_isRight_27 0 rfl ?_
  refine h_iald X d_MD_isRight_28 (hl_w 2 rfl hn) (by omega) (by omega) ?_
  refine g_aload_n X d_MD_isRight_29 1 rfl ?_
  refine g_iload_n X d_MD_isRight_30 0 rfl ?_
  refine g_iload_n X d_MD_isRight_31 3 rfl ?_
  refine h_callV (As := [.int (nI (bk (128 * a + k))), .int (nI k)]) (st := [.int (S (bk (128 * a + k)))]) [0, 3] [(h, .inr (6, [.int th, .int (nI M), .int (nI n), .ref y1, .ref y2, .ref y3, .int (nI u), .ref y4, .ref y5, .ref y6, .ref y7, .int (nI c), .ref y8, .ref y9, .ref y10, .ref y11, .ref y12, .int bd, .int (ck + (nI 1)), .int ps, .int (nI pa), .int lc, .int (nI (b2n fb)), .long ek, .long ev, .int (nI el), .int (nI fn), .ref y13, .ref y14, .ref y15, .ref y16, .int (nI js), .ref y17, .int (nI (b2n ib))])), (y11, .inl (.int, 2176, .inl (fun q => nI (bk q)))), (y6, .inl (.int, 128, .inl S)), (y5, .inl (.int, 4096, .inl (fun q => nI (D q))))] X d_MD_isRight_32 (c_MD_sumOf hst hn5 hb9) (hl_w 0 rfl hn) rfl rfl k_ml_MD_146 k_cd_MD_sumOf k_in_MD k_im_MD_sumOf k_se_MD_sumOf ⟨by decide +kernel, by decide +kernel, (by decide +kernel : (parseMethodDescriptor y_MD_sumOf.desc).map (fun d => d.parameters.length) = some 2)⟩ ⟨Nat.le_of_ble_eq_true rfl, Nat.le_of_ble_eq_true rfl⟩ ⟨Nat.le_of_ble_eq_true rfl, Nat.le_of_ble_eq_true rfl⟩ (Nat.le_of_ble_eq_true rfl) hn rfl rfl rfl hp_no hp_no2 ?_
  refine g_icmp_ne 40 X d_MD_isRight_35 (by decide) (fun h35 => ?_) (fun h35 => ?_)
  · exact absurd hr9 h35
  · refine g_iconst (nI 1) X d_MD_isRight_38 (by decide) ?_
    exact g_zret X hr rfl d_MD_isRight_39 (Nat.le_of_ble_eq_true rfl) (Nat.le_of_ble_eq_true rfl) (fh_ret_i)

set_option maxRecDepth 100000 in
set_option maxHeartbeats 1000000 in
theorem c_MD_isRight_f {l : Launch} (hst : l.stackTraces = false) {h y1 y2 y3 y4 y5 y6 y7 y8 y9 y10 y11 y12 y13 y14 y15 y16 y17 M n u c pa el fn js : Nat} {th bd ck ps lc : Int32} {fb ib : Bool} {ek ev : Int64} {bk : Nat → Nat} {S : Nat → Int32} {D : Nat → Nat} (hn : [h, y11, y6, y5].Nodup) {a k : Nat} (ha : a < 17) (hk : k < 128) (hb9 : bk (128 * a + k) < 128) (hr9 : ¬ S (bk (128 * a + k)) = sumS (nI k) (fun q => D (bk (128 * a + k) * 32 + q)) 32) : fh_C l fhCl fhT y_MD_isRight (.code y_MD_isRight b_MD_isRight 4 (some .boolean)) 1 25 [.ref h, .int (nI a), .int (nI k)] (hp [(h, .inr (6, [.int th, .int (nI M), .int (nI n), .ref y1, .ref y2, .ref y3, .int (nI u), .ref y4, .ref y5, .ref y6, .ref y7, .int (nI c), .ref y8, .ref y9, .ref y10, .ref y11, .ref y12, .int bd, .int ck, .int ps, .int (nI pa), .int lc, .int (nI (b2n fb)), .long ek, .long ev, .int (nI el), .int (nI fn), .ref y13, .ref y14, .ref y15, .ref y16, .int (nI js), .ref y17, .int (nI (b2n ib))])), (y11, .inl (.int, 2176, .inl (fun q => nI (bk q)))), (y6, .inl (.int, 128, .inl S)), (y5, .inl (.int, 4096, .inl (fun q => nI (D q))))]) (hp []) 0 0 (fh_ret (some (.int (nI 0))) [(h, .inr (6, [.int th, .int (nI M), .int (nI n), .ref y1, .ref y2, .ref y3, .int (nI u), .ref y4, .ref y5, .ref y6, .ref y7, .int (nI c), .ref y8, .ref y9, .ref y10, .ref y11, .ref y12, .int (nI (bk (128 * a + k))), .int (ck + nI 1), .int ps, .int (nI pa), .int lc, .int (nI 1), .long ek, .long ev, .int (nI el), .int (nI fn), .ref y13, .ref y14, .ref y15, .ref y16, .int (nI js), .ref y17, .int (nI (b2n ib))])), (y11, .inl (.int, 2176, .inl (fun q => nI (bk q)))), (y6, .inl (.int, 128, .inl S)), (y5, .inl (.int, 4096, .inl (fun q => nI (D q))))]) := by
  refine fh_enter (by decide) hst (Nat.le_of_ble_eq_true rfl) ?_
  intro mD mp me sm mm margs mbel mmet mcod X hr hnm hno hf0
  show fh_G mp l me (fh_rm 1 25 0 0) sm mm margs mbel mmet mcod mD fhCl (hp [(h, .inr (6, [.int th, .int (nI M), .int (nI n), .ref y1, .ref y2, .ref y3, .int (nI u), .ref y4, .ref y5, .ref y6, .ref y7, .int (nI c), .ref y8, .ref y9, .ref y10, .ref y11, .ref y12, .int bd, .int ck, .int ps, .int (nI pa), .int lc, .int (nI (b2n fb)), .long ek, .long ev, .int (nI el), .int (nI fn), .ref y13, .ref y14, .ref y15, .ref y16, .int (nI js), .ref y17, .int (nI (b2n ib))])), (y11, .inl (.int, 2176, .inl (fun q => nI (bk q)))), (y6, .inl (.int, 128, .inl S)), (y5, .inl (.int, 4096, .inl (fun q => nI (D q))))]) 4 _ 0 0 (hp [(h, .inr (6, [.int th, .int (nI M), .int (nI n), .ref y1, .ref y2, .ref y3, .int (nI u), .ref y4, .ref y5, .ref y6, .ref y7, .int (nI c), .ref y8, .ref y9, .ref y10, .ref y11, .ref y12, .int bd, .int ck, .int ps, .int (nI pa), .int lc, .int (nI (b2n fb)), .long ek, .long ev, .int (nI el), .int (nI fn), .ref y13, .ref y14, .ref y15, .ref y16, .int (nI js), .ref y17, .int (nI (b2n ib))])), (y11, .inl (.int, 2176, .inl (fun q => nI (bk q)))), (y6, .inl (.int, 128, .inl S)), (y5, .inl (.int, 4096, .inl (fun q => nI (D q))))]) 0 [(0, .ref h), (1, .int (nI a)), (2, .int (nI k))] []
  have hn5 : [h, y5].Nodup := (List.Nodup.sublist (by repeat first | exact List.nil_sublist _ | apply List.Sublist.cons₂ | apply List.Sublist.cons) hn)
  have hn11 : [h, y11].Nodup := (List.Nodup.sublist (by repeat first | exact List.nil_sublist _ | apply List.Sublist.cons₂ | apply List.Sublist.cons) hn)
  refine g_aload_n X d_MD_isRight_0 0 rfl ?_
  refine g_dup X d_MD_isRight_1 rfl ?_
  refine g_getf (k := 18) X d_MD_isRight_2 (hl_w 0 rfl hn) rfl i_MD (by decide) k_fl_MD_174 (fun _ h => h) rfl ?_
  refine g_iconst (nI 1) X d_MD_isRight_5 (by decide) ?_
  refine g_iadd X d_MD_isRight_6 ?_
  refine h_putf (k := 18) (ty := .int) 0 [(h, .inr (6, [.int th, .int (nI M), .int (nI n), .ref y1, .ref y2, .ref y3, .int (nI u), .ref y4, .ref y5, .ref y6, .ref y7, .int (nI c), .ref y8, .ref y9, .ref y10, .ref y11, .ref y12, .int bd, .int (ck + (nI 1)), .int ps, .int (nI pa), .int lc, .int (nI (b2n fb)), .long ek, .long ev, .int (nI el), .int (nI fn), .ref y13, .ref y14, .ref y15, .ref y16, .int (nI js), .ref y17, .int (nI (b2n ib))])), (y11, .inl (.int, 2176, .inl (fun q => nI (bk q)))), (y6, .inl (.int, 128, .inl S)), (y5, .inl (.int, 4096, .inl (fun q => nI (D q))))] X d_MD_isRight_7 hn rfl rfl i_MD t_MD t_MD_ok n_MD (by decide) k_fl_MD_174 (fun _ h => h) rfl (by decide +kernel) rfl rfl (Nat.le_of_ble_eq_true rfl) rfl ?_
  refine g_aload_n X d_MD_isRight_10 0 rfl ?_
  refine g_getf (k := 15) X d_MD_isRight_11 (hl_w 0 rfl hn) rfl i_MD (by decide) k_fl_MD_42 (fun _ h => h) rfl ?_
  refine g_sipush (nI 128) X d_MD_isRight_14 (by decide) ?_
  refine g_iload_n X d_MD_isRight_17 1 rfl ?_
  refine g_imul X d_MD_isRight_18 ?_
  refine g_vi (nI (128 * a)) (pk_mul _ _) ?_
  refine g_iload_n X d_MD_isRight_19 2 rfl ?_
  refine g_iadd X d_MD_isRight_20 ?_
  refine g_vi (nI (128 * a + k)) (nI_add _ _) ?_
  refine h_iald X d_MD_isRight_21 (hl_w 1 rfl hn) (by omega) (by omega) ?_
  refine g_istore_n [(3, .int (nI (bk (128 * a + k)))), (0, .ref h), (1, .int (nI a)), (2, .int (nI k))] X d_MD_isRight_22 (by decide) rfl ?_
  refine g_aload_n X d_MD_isRight_23 1 rfl ?_
  refine g_getf (k := 9) X d_MD_isRight_24 (hl_w 0 rfl hn) rfl i_MD (by decide) k_fl_MD_26 (fun _ h => h) rfl ?_
  refine g_iload_n X d_MD_isRight_27 0 rfl ?_
  refine h_iald X d_MD_isRight_28 (hl_w 2 rfl hn) (by omega) (by omega) ?_
  refine g_aload_n X d_MD_isRight_29 1 rfl ?_
  refine g_iload_n X d_MD_isRight_30 0 rfl ?_
  refine g_iload_n X d_MD_isRight_31 3 rfl ?_
  refine h_callV (As := [.int (nI (bk (128 * a + k))), .int (nI k)]) (st := [.int (S (bk (128 * a + k)))]) [0, 3] [(h, .inr (6, [.int th, .int (nI M), .int (nI n), .ref y1, .ref y2, .ref y3, .int (nI u), .ref y4, .ref y5, .ref y6, .ref y7, .int (nI c), .ref y8, .ref y9, .ref y10, .ref y11, .ref y12, .int bd, .int (ck + (nI 1)), .int ps, .int (nI pa), .int lc, .int (nI (b2n fb)), .long ek, .long ev, .int (nI el), .int (nI fn), .ref y13, .ref y14, .ref y15, .ref y16, .int (nI js), .ref y17, .int (nI (b2n ib))])), (y11, .inl (.int, 2176, .inl (fun q => nI (bk q)))), (y6, .inl (.int, 128, .inl S)), (y5, .inl (.int, 4096, .inl (fun q => nI (D q))))] X d_MD_isRight_32 (c_MD_sumOf hst hn5 hb9) (hl_w 0 rfl hn) rfl rfl k_ml_MD_146 k_cd_MD_sumOf k_in_MD k_im_MD_sumOf k_se_MD_sumOf ⟨by decide +kernel, by decide +kernel, (by decide +kernel : (parseMethodDescriptor y_MD_sumOf.desc).map (fun d => d.parameters.length) = some 2)⟩ ⟨Nat.le_of_ble_eq_true rfl, Nat.le_of_ble_eq_true rfl⟩ ⟨Nat.le_of_ble_eq_true rfl, Nat.le_of_ble_eq_true rfl⟩ (Nat.le_of_ble_eq_true rfl) hn rfl rfl rfl hp_no hp_no2 ?_
  refine g_icmp_ne 40 X d_MD_isRight_35 (by decide) (fun h35 => ?_) (fun h35 => ?_)
  · refine g_aload_n X d_MD_isRight_40 1 rfl ?_
    refine g_iload_n X d_MD_isRight_41 2 rfl ?_
    refine g_iload_n X d_MD_isRight_42 3 rfl ?_
    refine h_callV (As := [.int (nI a), .int (nI k)]) (st := []) [0, 1] [(h, .inr (6, [.int th, .int (nI M), .int (nI n), .ref y1, .ref y2, .ref y3, .int (nI u), .ref y4, .ref y5, .ref y6, .ref y7, .int (nI c), .ref y8, .ref y9, .ref y10, .ref y11, .ref y12, .int (nI (bk (128 * a + k))), .int (ck + (nI 1)), .int ps, .int (nI pa), .int lc, .int (nI 1), .long ek, .long ev, .int (nI el), .int (nI fn), .ref y13, .ref y14, .ref y15, .ref y16, .int (nI js), .ref y17, .int (nI (b2n ib))])), (y11, .inl (.int, 2176, .inl (fun q => nI (bk q)))), (y6, .inl (.int, 128, .inl S)), (y5, .inl (.int, 4096, .inl (fun q => nI (D q))))] X d_MD_isRight_43 (c_MD_fault hst hn11 (by omega)) (hl_w 0 rfl hn) rfl rfl k_ml_MD_177 k_cd_MD_fault k_in_MD k_im_MD_fault k_se_MD_fault ⟨by decide +kernel, by decide +kernel, (by decide +kernel : (parseMethodDescriptor y_MD_fault.desc).map (fun d => d.parameters.length) = some 2)⟩ ⟨Nat.le_of_ble_eq_true rfl, Nat.le_of_ble_eq_true rfl⟩ ⟨Nat.le_of_ble_eq_true rfl, Nat.le_of_ble_eq_true rfl⟩ (Nat.le_of_ble_eq_true rfl) hn rfl rfl rfl hp_no hp_no2 ?_
    refine g_iconst (nI 0) X d_MD_isRight_46 (by decide) ?_
    exact g_zret X hr rfl d_MD_isRight_47 (Nat.le_of_ble_eq_true rfl) (Nat.le_of_ble_eq_true rfl) (fh_ret_i)
  · exact absurd h35 hr9

set_option maxRecDepth 100000 in
set_option maxHeartbeats 1000000 in
theorem c_MD_next {l : Launch} (hst : l.stackTraces = false) {h y1 y2 y3 y4 y5 y6 y7 y8 y9 y10 y11 y12 y13 y14 y15 y16 y17 M n u c el fn js : Nat} {s : R5} {th ps : Int32} {ib : Bool} {ek ev : Int64} {bk : Nat → Nat} {S : Nat → Int32} {D : Nat → Nat} {mn : Nat → Nat} (hn : [h, y11, y6, y5, y10].Nodup) {a : Nat} (ha : a < 17) (hmn : mn a ≤ 128) (hm1 : 1 ≤ mn a) (hbk : ∀ q, q < mn a → bk (128 * a + q) < 128) (hs : s.1 ≤ 4096) : fh_C l fhCl fhT y_MD_next (.code y_MD_next b_MD_next 4 (some .int)) 2 48 [.ref h, .int (nI a)] (hp [(h, .inr (6, [.int th, .int (nI M), .int (nI n), .ref y1, .ref y2, .ref y3, .int (nI u), .ref y4, .ref y5, .ref y6, .ref y7, .int (nI c), .ref y8, .ref y9, .ref y10, .ref y11, .ref y12, .int s.2.2.2.1, .int s.2.2.2.2, .int ps, .int (nI s.1), .int s.2.1, .int (nI (b2n s.2.2.1)), .long ek, .long ev, .int (nI el), .int (nI fn), .ref y13, .ref y14, .ref y15, .ref y16, .int (nI js), .ref y17, .int (nI (b2n ib))])), (y11, .inl (.int, 2176, .inl (fun q => nI (bk q)))), (y6, .inl (.int, 128, .inl S)), (y5, .inl (.int, 4096, .inl (fun q => nI (D q)))), (y10, .inl (.int, 17, .inl (fun q => nI (mn q))))]) (hp []) 0 0 (fh_ret (some (.int (nI ((mnx ib (mn a) (fun q => bk (128 * a + q)) S D) s).2))) [(h, .inr (6, [.int th, .int (nI M), .int (nI n), .ref y1, .ref y2, .ref y3, .int (nI u), .ref y4, .ref y5, .ref y6, .ref y7, .int (nI c), .ref y8, .ref y9, .ref y10, .ref y11, .ref y12, .int (((mnx ib (mn a) (fun q => bk (128 * a + q)) S D) s).1.2.2.2.1), .int (((mnx ib (mn a) (fun q => bk (128 * a + q)) S D) s).1.2.2.2.2), .int ps, .int (nI (((mnx ib (mn a) (fun q => bk (128 * a + q)) S D) s).1.1)), .int (((mnx ib (mn a) (fun q => bk (128 * a + q)) S D) s).1.2.1), .int (nI (b2n ((mnx ib (mn a) (fun q => bk (128 * a + q)) S D) s).1.2.2.1)), .long ek, .long ev, .int (nI el), .int (nI fn), .ref y13, .ref y14, .ref y15, .ref y16, .int (nI js), .ref y17, .int (nI (b2n ib))])), (y11, .inl (.int, 2176, .inl (fun q => nI (bk q)))), (y6, .inl (.int, 128, .inl S)), (y5, .inl (.int, 4096, .inl (fun q => nI (D q)))), (y10, .inl (.int, 17, .inl (fun q => nI (mn q))))]) := by
  refine fh_enter (by decide) hst (Nat.le_of_ble_eq_true rfl) ?_
  intro mD mp me sm mm margs mbel mmet mcod X hr hnm hno hf0
  show fh_G mp l me (fh_rm 2 48 0 0) sm mm margs mbel mmet mcod mD fhCl (hp [(h, .inr (6, [.int th, .int (nI M), .int (nI n), .ref y1, .ref y2, .ref y3, .int (nI u), .ref y4, .ref y5, .ref y6, .ref y7, .int (nI c), .ref y8, .ref y9, .ref y10, .ref y11, .ref y12, .int s.2.2.2.1, .int s.2.2.2.2, .int ps, .int (nI s.1), .int s.2.1, .int (nI (b2n s.2.2.1)), .long ek, .long ev, .int (nI el), .int (nI fn), .ref y13, .ref y14, .ref y15, .ref y16, .int (nI js), .ref y17, .int (nI (b2n ib))])), (y11, .inl (.int, 2176, .inl (fun q => nI (bk q)))), (y6, .inl (.int, 128, .inl S)), (y5, .inl (.int, 4096, .inl (fun q => nI (D q)))), (y10, .inl (.int, 17, .inl (fun q => nI (mn q))))]) 4 _ 0 0 (hp [(h, .inr (6, [.int th, .int (nI M), .int (nI n), .ref y1, .ref y2, .ref y3, .int (nI u), .ref y4, .ref y5, .ref y6, .ref y7, .int (nI c), .ref y8, .ref y9, .ref y10, .ref y11, .ref y12, .int s.2.2.2.1, .int s.2.2.2.2, .int ps, .int (nI s.1), .int s.2.1, .int (nI (b2n s.2.2.1)), .long ek, .long ev, .int (nI el), .int (nI fn), .ref y13, .ref y14, .ref y15, .ref y16, .int (nI js), .ref y17, .int (nI (b2n ib))])), (y11, .inl (.int, 2176, .inl (fun q => nI (bk q)))), (y6, .inl (.int, 128, .inl S)), (y5, .inl (.int, 4096, .inl (fun q => nI (D q)))), (y10, .inl (.int, 17, .inl (fun q => nI (mn q))))]) 0 [(0, .ref h), (1, .int (nI a))] []
  have hn11 : [h, y11].Nodup := (List.Nodup.sublist (by repeat first | exact List.nil_sublist _ | apply List.Sublist.cons₂ | apply List.Sublist.cons) hn)
  have hni : [h, y11, y6, y5].Nodup := (List.Nodup.sublist (by repeat first | exact List.nil_sublist _ | apply List.Sublist.cons₂ | apply List.Sublist.cons) hn)
  refine g_aload_n X d_MD_next_0 0 rfl ?_
  refine g_getf (k := 22) X d_MD_next_1 (hl_w 0 rfl hn) rfl i_MD (by decide) k_fl_MD_170 (fun _ h => h) rfl ?_
  refine g_if_eq 9 X d_MD_next_4 (by decide) (fun h4 => ?_) (fun h4 => ?_)
  · have h4 := cv_e0 (b2n_31 _) h4
    have hf := b2n_0 h4
    refine g_aload_n X d_MD_next_9 0 rfl ?_
    refine g_getf (k := 20) X d_MD_next_10 (hl_w 0 rfl hn) rfl i_MD (by decide) k_fl_MD_180 (fun _ h => h) rfl ?_
    refine g_bipush (nI 32) X d_MD_next_13 (by decide) ?_
    refine g_idiv X d_MD_next_15 (by decide) ?_
    refine g_vi (nI (s.1 / 32)) (pk_div (by omega) (by omega) (by omega)) ?_
    refine g_istore_n [(2, .int (nI (s.1 / 32))), (0, .ref h), (1, .int (nI a))] X d_MD_next_16 (by decide) rfl ?_
    refine g_iload_n X d_MD_next_17 0 rfl ?_
    refine g_aload_n X d_MD_next_18 1 rfl ?_
    refine g_getf (k := 14) X d_MD_next_19 (hl_w 0 rfl hn) rfl i_MD (by decide) k_fl_MD_39 (fun _ h => h) rfl ?_
    refine g_iload_n X d_MD_next_22 2 rfl ?_
    refine h_iald X d_MD_next_23 (hl_w 4 rfl hn) (by omega) (by omega) ?_
    refine g_icmp_lt 42 X d_MD_next_24 (by decide) (fun h24 => ?_) (fun h24 => ?_)
    · have h24 := cv_lt (by omega) (by omega) h24
      have hb8 := hbk _ h24
      have hps : D (pos (fun q => bk (128 * a + q)) s.1) = D (32 * bk (128 * a + s.1 / 32) + s.1 % 32) := by show D (bk (128 * a + s.1 / 32) * 32 + s.1 % 32) = _; rw [Nat.mul_comm]
      refine g_aload_n X d_MD_next_42 1 rfl ?_
      refine g_getf (k := 33) X d_MD_next_43 (hl_w 0 rfl hn) rfl i_MD (by decide) k_fl_MD_183 (fun _ h => h) rfl ?_
      refine g_if_eq 73 X d_MD_next_46 (by decide) (fun h46 => ?_) (fun h46 => ?_)
      · have h46 := cv_e0 (b2n_31 _) h46
        have hi9 := b2n_0 h46
        have hm9 := mnx_c (b := ib) (ids := (fun q => bk (128 * a + q))) (S := S) (D := D) hf h24 (fun z => by rw [hi9] at z; cases z.1)
        refine g_aload_n X d_MD_next_73 1 rfl ?_
        refine g_getf (k := 8) X d_MD_next_74 (hl_w 0 rfl hn) rfl i_MD (by decide) k_fl_MD_23 (fun _ h => h) rfl ?_
        refine g_bipush (nI 32) X d_MD_next_77 (by decide) ?_
        refine g_aload_n X d_MD_next_79 1 rfl ?_
        refine g_getf (k := 15) X d_MD_next_80 (hl_w 0 rfl hn) rfl i_MD (by decide) k_fl_MD_42 (fun _ h => h) rfl ?_
        refine g_sipush (nI 128) X d_MD_next_83 (by decide) ?_
        refine g_iload_n X d_MD_next_86 2 rfl ?_
        refine g_imul X d_MD_next_87 ?_
        refine g_vi (nI (128 * a)) (pk_mul _ _) ?_
        refine g_iload_n X d_MD_next_88 0 rfl ?_
        refine g_iadd X d_MD_next_89 ?_
        refine g_vi (nI (128 * a + s.1 / 32)) (nI_add _ _) ?_
        refine h_iald X d_MD_next_90 (hl_w 1 rfl hn) (by omega) (by omega) ?_
        refine g_imul X d_MD_next_91 ?_
        refine g_vi (nI (32 * (bk (128 * a + s.1 / 32)))) (pk_mul _ _) ?_
        refine g_aload_n X d_MD_next_92 1 rfl ?_
        refine g_getf (k := 20) X d_MD_next_93 (hl_w 0 rfl hn) rfl i_MD (by decide) k_fl_MD_180 (fun _ h => h) rfl ?_
        refine g_bipush (nI 32) X d_MD_next_96 (by decide) ?_
        refine g_irem X d_MD_next_98 (by decide) ?_
        refine g_vi (nI (s.1 % 32)) (pk_rem (by omega) (by omega) (by omega)) ?_
        refine g_iadd X d_MD_next_99 ?_
        refine g_vi (nI (32 * (bk (128 * a + s.1 / 32)) + s.1 % 32)) (nI_add _ _) ?_
        refine h_iald X d_MD_next_100 (hl_w 3 rfl hn) (by omega) (by omega) ?_
        refine g_istore_n [(3, .int (nI (D (32 * (bk (128 * a + s.1 / 32)) + s.1 % 32)))), (2, .int (nI (s.1 / 32))), (0, .ref h), (1, .int (nI a))] X d_MD_next_101 (by decide) rfl ?_
        refine g_aload_n X d_MD_next_102 2 rfl ?_
        refine g_dup X d_MD_next_103 rfl ?_
        refine g_getf (k := 20) X d_MD_next_104 (hl_w 0 rfl hn) rfl i_MD (by decide) k_fl_MD_180 (fun _ h => h) rfl ?_
        refine g_iconst (nI 1) X d_MD_next_107 (by decide) ?_
        refine g_iadd X d_MD_next_108 ?_
        refine g_vi (nI (s.1 + 1)) (nI_add _ _) ?_
        refine h_putf (k := 20) (ty := .int) 0 [(h, .inr (6, [.int th, .int (nI M), .int (nI n), .ref y1, .ref y2, .ref y3, .int (nI u), .ref y4, .ref y5, .ref y6, .ref y7, .int (nI c), .ref y8, .ref y9, .ref y10, .ref y11, .ref y12, .int s.2.2.2.1, .int s.2.2.2.2, .int ps, .int (nI (s.1 + 1)), .int s.2.1, .int (nI (b2n s.2.2.1)), .long ek, .long ev, .int (nI el), .int (nI fn), .ref y13, .ref y14, .ref y15, .ref y16, .int (nI js), .ref y17, .int (nI (b2n ib))])), (y11, .inl (.int, 2176, .inl (fun q => nI (bk q)))), (y6, .inl (.int, 128, .inl S)), (y5, .inl (.int, 4096, .inl (fun q => nI (D q)))), (y10, .inl (.int, 17, .inl (fun q => nI (mn q))))] X d_MD_next_109 hn rfl rfl i_MD t_MD t_MD_ok n_MD (by decide) k_fl_MD_180 (fun _ h => h) rfl (by decide +kernel) rfl rfl (Nat.le_of_ble_eq_true rfl) rfl ?_
        refine g_iload_n X d_MD_next_112 0 rfl ?_
        exact g_iret X hr d_MD_next_113 (Nat.le_of_ble_eq_true rfl) (Nat.le_of_ble_eq_true rfl) (⟨by rw [hm9, hps], by rw [hm9, hf]⟩)
      · have h46 := cv_n0 (b2n_31 _) h46
        have hi9 := b2n_1 h46
        refine g_iload_n X d_MD_next_49 0 rfl ?_
        refine g_aload_n X d_MD_next_50 1 rfl ?_
        refine g_getf (k := 21) X d_MD_next_51 (hl_w 0 rfl hn) rfl i_MD (by decide) k_fl_MD_186 (fun _ h => h) rfl ?_
        refine g_icmp_eq 73 X d_MD_next_54 (by decide) (fun h54 => ?_) (fun h54 => ?_)
        · have hm9 := mnx_c (b := ib) (ids := (fun q => bk (128 * a + q))) (S := S) (D := D) hf h24 (fun z => z.2 h54)
          refine g_aload_n X d_MD_next_73 1 rfl ?_
          refine g_getf (k := 8) X d_MD_next_74 (hl_w 0 rfl hn) rfl i_MD (by decide) k_fl_MD_23 (fun _ h => h) rfl ?_
          refine g_bipush (nI 32) X d_MD_next_77 (by decide) ?_
          refine g_aload_n X d_MD_next_79 1 rfl ?_
          refine g_getf (k := 15) X d_MD_next_80 (hl_w 0 rfl hn) rfl i_MD (by decide) k_fl_MD_42 (fun _ h => h) rfl ?_
          refine g_sipush (nI 128) X d_MD_next_83 (by decide) ?_
          refine g_iload_n X d_MD_next_86 2 rfl ?_
          refine g_imul X d_MD_next_87 ?_
          refine g_vi (nI (128 * a)) (pk_mul _ _) ?_
          refine g_iload_n X d_MD_next_88 0 rfl ?_
          refine g_iadd X d_MD_next_89 ?_
          refine g_vi (nI (128 * a + s.1 / 32)) (nI_add _ _) ?_
          refine h_iald X d_MD_next_90 (hl_w 1 rfl hn) (by omega) (by omega) ?_
          refine g_imul X d_MD_next_91 ?_
          refine g_vi (nI (32 * (bk (128 * a + s.1 / 32)))) (pk_mul _ _) ?_
          refine g_aload_n X d_MD_next_92 1 rfl ?_
          refine g_getf (k := 20) X d_MD_next_93 (hl_w 0 rfl hn) rfl i_MD (by decide) k_fl_MD_180 (fun _ h => h) rfl ?_
          refine g_bipush (nI 32) X d_MD_next_96 (by decide) ?_
          refine g_irem X d_MD_next_98 (by decide) ?_
          refine g_vi (nI (s.1 % 32)) (pk_rem (by omega) (by omega) (by omega)) ?_
          refine g_iadd X d_MD_next_99 ?_
          refine g_vi (nI (32 * (bk (128 * a + s.1 / 32)) + s.1 % 32)) (nI_add _ _) ?_
          refine h_iald X d_MD_next_100 (hl_w 3 rfl hn) (by omega) (by omega) ?_
          refine g_istore_n [(3, .int (nI (D (32 * (bk (128 * a + s.1 / 32)) + s.1 % 32)))), (2, .int (nI (s.1 / 32))), (0, .ref h), (1, .int (nI a))] X d_MD_next_101 (by decide) rfl ?_
          refine g_aload_n X d_MD_next_102 2 rfl ?_
          refine g_dup X d_MD_next_103 rfl ?_
          refine g_getf (k := 20) X d_MD_next_104 (hl_w 0 rfl hn) rfl i_MD (by decide) k_fl_MD_180 (fun _ h => h) rfl ?_
          refine g_iconst (nI 1) X d_MD_next_107 (by decide) ?_
          refine g_iadd X d_MD_next_108 ?_
          refine g_vi (nI (s.1 + 1)) (nI_add _ _) ?_
          refine h_putf (k := 20) (ty := .int) 0 [(h, .inr (6, [.int th, .int (nI M), .int (nI n), .ref y1, .ref y2, .ref y3, .int (nI u), .ref y4, .ref y5, .ref y6, .ref y7, .int (nI c), .ref y8, .ref y9, .ref y10, .ref y11, .ref y12, .int s.2.2.2.1, .int s.2.2.2.2, .int ps, .int (nI (s.1 + 1)), .int s.2.1, .int (nI (b2n s.2.2.1)), .long ek, .long ev, .int (nI el), .int (nI fn), .ref y13, .ref y14, .ref y15, .ref y16, .int (nI js), .ref y17, .int (nI (b2n ib))])), (y11, .inl (.int, 2176, .inl (fun q => nI (bk q)))), (y6, .inl (.int, 128, .inl S)), (y5, .inl (.int, 4096, .inl (fun q => nI (D q)))), (y10, .inl (.int, 17, .inl (fun q => nI (mn q))))] X d_MD_next_109 hn rfl rfl i_MD t_MD t_MD_ok n_MD (by decide) k_fl_MD_180 (fun _ h => h) rfl (by decide +kernel) rfl rfl (Nat.le_of_ble_eq_true rfl) rfl ?_
          refine g_iload_n X d_MD_next_112 0 rfl ?_
          exact g_iret X hr d_MD_next_113 (Nat.le_of_ble_eq_true rfl) (Nat.le_of_ble_eq_true rfl) (⟨by rw [hm9, hps], by rw [hm9, hf]⟩)
        · have hc9 : ib = true ∧ nI (s.1 / 32) ≠ s.2.1 := ⟨hi9, h54⟩
          refine g_aload_n X d_MD_next_57 1 rfl ?_
          refine g_iload_n X d_MD_next_58 0 rfl ?_
          refine h_putf (k := 21) (ty := .int) 0 [(h, .inr (6, [.int th, .int (nI M), .int (nI n), .ref y1, .ref y2, .ref y3, .int (nI u), .ref y4, .ref y5, .ref y6, .ref y7, .int (nI c), .ref y8, .ref y9, .ref y10, .ref y11, .ref y12, .int s.2.2.2.1, .int s.2.2.2.2, .int ps, .int (nI s.1), .int (nI (s.1 / 32)), .int (nI (b2n s.2.2.1)), .long ek, .long ev, .int (nI el), .int (nI fn), .ref y13, .ref y14, .ref y15, .ref y16, .int (nI js), .ref y17, .int (nI (b2n ib))])), (y11, .inl (.int, 2176, .inl (fun q => nI (bk q)))), (y6, .inl (.int, 128, .inl S)), (y5, .inl (.int, 4096, .inl (fun q => nI (D q)))), (y10, .inl (.int, 17, .inl (fun q => nI (mn q))))] X d_MD_next_59 hn rfl rfl i_MD t_MD t_MD_ok n_MD (by decide) k_fl_MD_186 (fun _ h => h) rfl (by decide +kernel) rfl rfl (Nat.le_of_ble_eq_true rfl) rfl ?_
          refine g_aload_n X d_MD_next_62 1 rfl ?_
          refine g_iload_n X d_MD_next_63 2 rfl ?_
          refine g_iload_n X d_MD_next_64 0 rfl ?_
          rcases Decidable.em (S (bk (128 * a + s.1 / 32)) = sumS (nI (s.1 / 32)) (fun q => D (bk (128 * a + s.1 / 32) * 32 + q)) 32) with hr9 | hr9
          · have hm9 := mnx_r (ids := (fun q => bk (128 * a + q))) hf h24 hc9 hr9
            refine h_callV (As := [.int (nI a), .int (nI (s.1 / 32))]) (st := []) [0, 1, 2, 3] [(h, .inr (6, [.int th, .int (nI M), .int (nI n), .ref y1, .ref y2, .ref y3, .int (nI u), .ref y4, .ref y5, .ref y6, .ref y7, .int (nI c), .ref y8, .ref y9, .ref y10, .ref y11, .ref y12, .int s.2.2.2.1, .int (s.2.2.2.2 + nI 1), .int ps, .int (nI s.1), .int (nI (s.1 / 32)), .int (nI (b2n s.2.2.1)), .long ek, .long ev, .int (nI el), .int (nI fn), .ref y13, .ref y14, .ref y15, .ref y16, .int (nI js), .ref y17, .int (nI (b2n ib))])), (y11, .inl (.int, 2176, .inl (fun q => nI (bk q)))), (y6, .inl (.int, 128, .inl S)), (y5, .inl (.int, 4096, .inl (fun q => nI (D q)))), (y10, .inl (.int, 17, .inl (fun q => nI (mn q))))] X d_MD_next_65 (c_MD_isRight_t hst hni ha (by omega) (hbk _ h24) hr9) (hl_w 0 rfl hn) rfl rfl k_ml_MD_189 k_cd_MD_isRight k_in_MD k_im_MD_isRight k_se_MD_isRight ⟨by decide +kernel, by decide +kernel, (by decide +kernel : (parseMethodDescriptor y_MD_isRight.desc).map (fun d => d.parameters.length) = some 2)⟩ ⟨Nat.le_of_ble_eq_true rfl, Nat.le_of_ble_eq_true rfl⟩ ⟨Nat.le_of_ble_eq_true rfl, Nat.le_of_ble_eq_true rfl⟩ (Nat.le_of_ble_eq_true rfl) hn rfl rfl rfl hp_no hp_no2 ?_
            refine g_if_ne 73 X d_MD_next_68 (by decide) (fun h68 => ?_) (fun h68 => ?_)
            · have h68 := cv_n0 (by omega) h68
              refine g_aload_n X d_MD_next_73 1 rfl ?_
              refine g_getf (k := 8) X d_MD_next_74 (hl_w 0 rfl hn) rfl i_MD (by decide) k_fl_MD_23 (fun _ h => h) rfl ?_
              refine g_bipush (nI 32) X d_MD_next_77 (by decide) ?_
              refine g_aload_n X d_MD_next_79 1 rfl ?_
              refine g_getf (k := 15) X d_MD_next_80 (hl_w 0 rfl hn) rfl i_MD (by decide) k_fl_MD_42 (fun _ h => h) rfl ?_
              refine g_sipush (nI 128) X d_MD_next_83 (by decide) ?_
              refine g_iload_n X d_MD_next_86 2 rfl ?_
              refine g_imul X d_MD_next_87 ?_
              refine g_vi (nI (128 * a)) (pk_mul _ _) ?_
              refine g_iload_n X d_MD_next_88 0 rfl ?_
              refine g_iadd X d_MD_next_89 ?_
              refine g_vi (nI (128 * a + s.1 / 32)) (nI_add _ _) ?_
              refine h_iald X d_MD_next_90 (hl_w 1 rfl hn) (by omega) (by omega) ?_
              refine g_imul X d_MD_next_91 ?_
              refine g_vi (nI (32 * (bk (128 * a + s.1 / 32)))) (pk_mul _ _) ?_
              refine g_aload_n X d_MD_next_92 1 rfl ?_
              refine g_getf (k := 20) X d_MD_next_93 (hl_w 0 rfl hn) rfl i_MD (by decide) k_fl_MD_180 (fun _ h => h) rfl ?_
              refine g_bipush (nI 32) X d_MD_next_96 (by decide) ?_
              refine g_irem X d_MD_next_98 (by decide) ?_
              refine g_vi (nI (s.1 % 32)) (pk_rem (by omega) (by omega) (by omega)) ?_
              refine g_iadd X d_MD_next_99 ?_
              refine g_vi (nI (32 * (bk (128 * a + s.1 / 32)) + s.1 % 32)) (nI_add _ _) ?_
              refine h_iald X d_MD_next_100 (hl_w 3 rfl hn) (by omega) (by omega) ?_
              refine g_istore_n [(3, .int (nI (D (32 * (bk (128 * a + s.1 / 32)) + s.1 % 32)))), (2, .int (nI (s.1 / 32))), (0, .ref h), (1, .int (nI a))] X d_MD_next_101 (by decide) rfl ?_
              refine g_aload_n X d_MD_next_102 2 rfl ?_
              refine g_dup X d_MD_next_103 rfl ?_
              refine g_getf (k := 20) X d_MD_next_104 (hl_w 0 rfl hn) rfl i_MD (by decide) k_fl_MD_180 (fun _ h => h) rfl ?_
              refine g_iconst (nI 1) X d_MD_next_107 (by decide) ?_
              refine g_iadd X d_MD_next_108 ?_
              refine g_vi (nI (s.1 + 1)) (nI_add _ _) ?_
              refine h_putf (k := 20) (ty := .int) 0 [(h, .inr (6, [.int th, .int (nI M), .int (nI n), .ref y1, .ref y2, .ref y3, .int (nI u), .ref y4, .ref y5, .ref y6, .ref y7, .int (nI c), .ref y8, .ref y9, .ref y10, .ref y11, .ref y12, .int s.2.2.2.1, .int (s.2.2.2.2 + nI 1), .int ps, .int (nI (s.1 + 1)), .int (nI (s.1 / 32)), .int (nI (b2n s.2.2.1)), .long ek, .long ev, .int (nI el), .int (nI fn), .ref y13, .ref y14, .ref y15, .ref y16, .int (nI js), .ref y17, .int (nI (b2n ib))])), (y11, .inl (.int, 2176, .inl (fun q => nI (bk q)))), (y6, .inl (.int, 128, .inl S)), (y5, .inl (.int, 4096, .inl (fun q => nI (D q)))), (y10, .inl (.int, 17, .inl (fun q => nI (mn q))))] X d_MD_next_109 hn rfl rfl i_MD t_MD t_MD_ok n_MD (by decide) k_fl_MD_180 (fun _ h => h) rfl (by decide +kernel) rfl rfl (Nat.le_of_ble_eq_true rfl) rfl ?_
              refine g_iload_n X d_MD_next_112 0 rfl ?_
              exact g_iret X hr d_MD_next_113 (Nat.le_of_ble_eq_true rfl) (Nat.le_of_ble_eq_true rfl) (⟨by rw [hm9, hps], by rw [hm9, hf]⟩)
            · have h68 := cv_e0 (by omega) h68
              omega
          · have hm9 := mnx_w (ids := (fun q => bk (128 * a + q))) hf h24 hc9 hr9
            refine h_callV (As := [.int (nI a), .int (nI (s.1 / 32))]) (st := []) [0, 1, 2, 3] [(h, .inr (6, [.int th, .int (nI M), .int (nI n), .ref y1, .ref y2, .ref y3, .int (nI u), .ref y4, .ref y5, .ref y6, .ref y7, .int (nI c), .ref y8, .ref y9, .ref y10, .ref y11, .ref y12, .int (nI (bk (128 * a + s.1 / 32))), .int (s.2.2.2.2 + nI 1), .int ps, .int (nI s.1), .int (nI (s.1 / 32)), .int (nI 1), .long ek, .long ev, .int (nI el), .int (nI fn), .ref y13, .ref y14, .ref y15, .ref y16, .int (nI js), .ref y17, .int (nI (b2n ib))])), (y11, .inl (.int, 2176, .inl (fun q => nI (bk q)))), (y6, .inl (.int, 128, .inl S)), (y5, .inl (.int, 4096, .inl (fun q => nI (D q)))), (y10, .inl (.int, 17, .inl (fun q => nI (mn q))))] X d_MD_next_65 (c_MD_isRight_f hst hni ha (by omega) (hbk _ h24) hr9) (hl_w 0 rfl hn) rfl rfl k_ml_MD_189 k_cd_MD_isRight k_in_MD k_im_MD_isRight k_se_MD_isRight ⟨by decide +kernel, by decide +kernel, (by decide +kernel : (parseMethodDescriptor y_MD_isRight.desc).map (fun d => d.parameters.length) = some 2)⟩ ⟨Nat.le_of_ble_eq_true rfl, Nat.le_of_ble_eq_true rfl⟩ ⟨Nat.le_of_ble_eq_true rfl, Nat.le_of_ble_eq_true rfl⟩ (Nat.le_of_ble_eq_true rfl) hn rfl rfl rfl hp_no hp_no2 ?_
            refine g_if_ne 73 X d_MD_next_68 (by decide) (fun h68 => ?_) (fun h68 => ?_)
            · have h68 := cv_n0 (by omega) h68
              omega
            · have h68 := cv_e0 (by omega) h68
              refine g_iconst (nI 0) X d_MD_next_71 (by decide) ?_
              exact g_iret X hr d_MD_next_72 (Nat.le_of_ble_eq_true rfl) (Nat.le_of_ble_eq_true rfl) (⟨by rw [hm9], by rw [hm9]; rfl⟩)
    · have h24 := cv_nlt (by omega) (by omega) h24
      have hm9 := mnx_e (b := ib) (ids := (fun q => bk (128 * a + q))) (S := S) (D := D) hf h24
      refine g_aload_n X d_MD_next_27 1 rfl ?_
      refine g_iload_n X d_MD_next_28 2 rfl ?_
      refine g_aload_n X d_MD_next_29 1 rfl ?_
      refine g_getf (k := 14) X d_MD_next_30 (hl_w 0 rfl hn) rfl i_MD (by decide) k_fl_MD_39 (fun _ h => h) rfl ?_
      refine g_iload_n X d_MD_next_33 2 rfl ?_
      refine h_iald X d_MD_next_34 (hl_w 4 rfl hn) (by omega) (by omega) ?_
      refine g_iconst (nI 1) X d_MD_next_35 (by decide) ?_
      refine g_isub X d_MD_next_36 ?_
      refine g_vi (nI ((mn a) - 1)) (pk_sub (by omega)) ?_
      refine h_callV (As := [.int (nI a), .int (nI ((mn a) - 1))]) (st := []) [0, 1] [(h, .inr (6, [.int th, .int (nI M), .int (nI n), .ref y1, .ref y2, .ref y3, .int (nI u), .ref y4, .ref y5, .ref y6, .ref y7, .int (nI c), .ref y8, .ref y9, .ref y10, .ref y11, .ref y12, .int (nI (bk (128 * a + (mn a - 1)))), .int s.2.2.2.2, .int ps, .int (nI s.1), .int s.2.1, .int (nI 1), .long ek, .long ev, .int (nI el), .int (nI fn), .ref y13, .ref y14, .ref y15, .ref y16, .int (nI js), .ref y17, .int (nI (b2n ib))])), (y11, .inl (.int, 2176, .inl (fun q => nI (bk q)))), (y6, .inl (.int, 128, .inl S)), (y5, .inl (.int, 4096, .inl (fun q => nI (D q)))), (y10, .inl (.int, 17, .inl (fun q => nI (mn q))))] X d_MD_next_37 (c_MD_fault hst hn11 (by omega)) (hl_w 0 rfl hn) rfl rfl k_ml_MD_177 k_cd_MD_fault k_in_MD k_im_MD_fault k_se_MD_fault ⟨by decide +kernel, by decide +kernel, (by decide +kernel : (parseMethodDescriptor y_MD_fault.desc).map (fun d => d.parameters.length) = some 2)⟩ ⟨Nat.le_of_ble_eq_true rfl, Nat.le_of_ble_eq_true rfl⟩ ⟨Nat.le_of_ble_eq_true rfl, Nat.le_of_ble_eq_true rfl⟩ (Nat.le_of_ble_eq_true rfl) hn rfl rfl rfl hp_no hp_no2 ?_
      refine g_iconst (nI 0) X d_MD_next_40 (by decide) ?_
      exact g_iret X hr d_MD_next_41 (Nat.le_of_ble_eq_true rfl) (Nat.le_of_ble_eq_true rfl) (⟨by rw [hm9], by rw [hm9]; rfl⟩)
  · have h4 := cv_n0 (b2n_31 _) h4
    have hm9 := mnx_stuck (b := ib) (m := mn a) (ids := (fun q => bk (128 * a + q))) (S := S) (D := D) (b2n_1 h4)
    refine g_iconst (nI 0) X d_MD_next_7 (by decide) ?_
    exact g_iret X hr d_MD_next_8 (Nat.le_of_ble_eq_true rfl) (Nat.le_of_ble_eq_true rfl) (⟨by rw [hm9], by rw [hm9]⟩)

set_option maxRecDepth 100000 in
set_option maxHeartbeats 1000000 in
theorem c_MD_begin {l : Launch} (hst : l.stackTraces = false) {h y1 y2 y3 y4 y5 y6 y7 y8 y9 y10 y11 y12 y13 y14 y15 y16 y17 M n u c pa el fn js : Nat} {th bd ck ps lc : Int32} {fb ib : Bool} {ek ev : Int64} (hn : [h].Nodup) {b : Bool} : fh_C l fhCl fhT y_MD_begin (.code y_MD_begin b_MD_begin 2 none) 0 0 [.ref h, .int (nI (b2n b))] (hp [(h, .inr (6, [.int th, .int (nI M), .int (nI n), .ref y1, .ref y2, .ref y3, .int (nI u), .ref y4, .ref y5, .ref y6, .ref y7, .int (nI c), .ref y8, .ref y9, .ref y10, .ref y11, .ref y12, .int bd, .int ck, .int ps, .int (nI pa), .int lc, .int (nI (b2n fb)), .long ek, .long ev, .int (nI el), .int (nI fn), .ref y13, .ref y14, .ref y15, .ref y16, .int (nI js), .ref y17, .int (nI (b2n ib))]))]) (hp []) 0 0 (fh_ret none [(h, .inr (6, [.int th, .int (nI M), .int (nI n), .ref y1, .ref y2, .ref y3, .int (nI u), .ref y4, .ref y5, .ref y6, .ref y7, .int (nI c), .ref y8, .ref y9, .ref y10, .ref y11, .ref y12, .int bd, .int ck, .int ps, .int (nI 0), .int (-1), .int (nI (b2n fb)), .long ek, .long ev, .int (nI el), .int (nI fn), .ref y13, .ref y14, .ref y15, .ref y16, .int (nI js), .ref y17, .int (nI (b2n b))]))]) := by
  refine fh_enter (by decide) hst (Nat.le_of_ble_eq_true rfl) ?_
  intro mD mp me sm mm margs mbel mmet mcod X hr hnm hno hf0
  show fh_G mp l me (fh_rm 0 0 0 0) sm mm margs mbel mmet mcod mD fhCl (hp [(h, .inr (6, [.int th, .int (nI M), .int (nI n), .ref y1, .ref y2, .ref y3, .int (nI u), .ref y4, .ref y5, .ref y6, .ref y7, .int (nI c), .ref y8, .ref y9, .ref y10, .ref y11, .ref y12, .int bd, .int ck, .int ps, .int (nI pa), .int lc, .int (nI (b2n fb)), .long ek, .long ev, .int (nI el), .int (nI fn), .ref y13, .ref y14, .ref y15, .ref y16, .int (nI js), .ref y17, .int (nI (b2n ib))]))]) 2 _ 0 0 (hp [(h, .inr (6, [.int th, .int (nI M), .int (nI n), .ref y1, .ref y2, .ref y3, .int (nI u), .ref y4, .ref y5, .ref y6, .ref y7, .int (nI c), .ref y8, .ref y9, .ref y10, .ref y11, .ref y12, .int bd, .int ck, .int ps, .int (nI pa), .int lc, .int (nI (b2n fb)), .long ek, .long ev, .int (nI el), .int (nI fn), .ref y13, .ref y14, .ref y15, .ref y16, .int (nI js), .ref y17, .int (nI (b2n ib))]))]) 0 [(0, .ref h), (1, .int (nI (b2n b)))] []
  refine g_aload_n X d_MD_begin_0 0 rfl ?_
  refine g_iconst (nI 0) X d_MD_begin_1 (by decide) ?_
  refine h_putf (k := 20) (ty := .int) 0 [(h, .inr (6, [.int th, .int (nI M), .int (nI n), .ref y1, .ref y2, .ref y3, .int (nI u), .ref y4, .ref y5, .ref y6, .ref y7, .int (nI c), .ref y8, .ref y9, .ref y10, .ref y11, .ref y12, .int bd, .int ck, .int ps, .int (nI 0), .int lc, .int (nI (b2n fb)), .long ek, .long ev, .int (nI el), .int (nI fn), .ref y13, .ref y14, .ref y15, .ref y16, .int (nI js), .ref y17, .int (nI (b2n ib))]))] X d_MD_begin_2 hn rfl rfl i_MD t_MD t_MD_ok n_MD (by decide) k_fl_MD_180 (fun _ h => h) rfl (by decide +kernel) rfl rfl (Nat.le_of_ble_eq_true rfl) rfl ?_
  refine g_aload_n X d_MD_begin_5 0 rfl ?_
  refine g_iconst (-1) X d_MD_begin_6 (by decide) ?_
  refine h_putf (k := 21) (ty := .int) 0 [(h, .inr (6, [.int th, .int (nI M), .int (nI n), .ref y1, .ref y2, .ref y3, .int (nI u), .ref y4, .ref y5, .ref y6, .ref y7, .int (nI c), .ref y8, .ref y9, .ref y10, .ref y11, .ref y12, .int bd, .int ck, .int ps, .int (nI 0), .int (-1), .int (nI (b2n fb)), .long ek, .long ev, .int (nI el), .int (nI fn), .ref y13, .ref y14, .ref y15, .ref y16, .int (nI js), .ref y17, .int (nI (b2n ib))]))] X d_MD_begin_7 hn rfl rfl i_MD t_MD t_MD_ok n_MD (by decide) k_fl_MD_186 (fun _ h => h) rfl (by decide +kernel) rfl rfl (Nat.le_of_ble_eq_true rfl) rfl ?_
  refine g_aload_n X d_MD_begin_10 0 rfl ?_
  refine g_iload_n X d_MD_begin_11 1 rfl ?_
  refine h_putf (k := 33) (ty := .boolean) 0 [(h, .inr (6, [.int th, .int (nI M), .int (nI n), .ref y1, .ref y2, .ref y3, .int (nI u), .ref y4, .ref y5, .ref y6, .ref y7, .int (nI c), .ref y8, .ref y9, .ref y10, .ref y11, .ref y12, .int bd, .int ck, .int ps, .int (nI 0), .int (-1), .int (nI (b2n fb)), .long ek, .long ev, .int (nI el), .int (nI fn), .ref y13, .ref y14, .ref y15, .ref y16, .int (nI js), .ref y17, .int (nI (b2n b))]))] X d_MD_begin_12 hn rfl rfl i_MD t_MD t_MD_ok n_MD (by decide) k_fl_MD_183 (fun _ h => h) rfl (by decide +kernel) (nar_b2n _) (fits_b2n _) (Nat.le_of_ble_eq_true rfl) rfl ?_
  exact g_vret X hr d_MD_begin_15 (Nat.le_of_ble_eq_true rfl) (Nat.le_of_ble_eq_true rfl) (fh_ret_i)

set_option maxRecDepth 100000 in
set_option maxHeartbeats 1000000 in
theorem c_MD_readKey {l : Launch} (hst : l.stackTraces = false) {h y1 y2 y3 y4 y5 y6 y7 y8 y9 y10 y11 y12 y13 y14 y15 y16 y17 M n u c el fn js : Nat} {s : R5} {th ps : Int32} {ib : Bool} {ek ev : Int64} {bk : Nat → Nat} {S : Nat → Int32} {D : Nat → Nat} {mn : Nat → Nat} (hn : [h, y11, y6, y5, y10].Nodup) {a : Nat} (ha : a < 17) (hmn : mn a ≤ 128) (hm1 : 1 ≤ mn a) (hbk : ∀ q, q < mn a → bk (128 * a + q) < 128) (hs : s.1 ≤ 4096) : fh_C l fhCl fhT y_MD_readKey (.code y_MD_readKey b_MD_readKey 3 none) 3 71 [.ref h, .int (nI a)] (hp [(h, .inr (6, [.int th, .int (nI M), .int (nI n), .ref y1, .ref y2, .ref y3, .int (nI u), .ref y4, .ref y5, .ref y6, .ref y7, .int (nI c), .ref y8, .ref y9, .ref y10, .ref y11, .ref y12, .int s.2.2.2.1, .int s.2.2.2.2, .int ps, .int (nI s.1), .int s.2.1, .int (nI (b2n s.2.2.1)), .long ek, .long ev, .int (nI el), .int (nI fn), .ref y13, .ref y14, .ref y15, .ref y16, .int (nI js), .ref y17, .int (nI (b2n ib))])), (y11, .inl (.int, 2176, .inl (fun q => nI (bk q)))), (y6, .inl (.int, 128, .inl S)), (y5, .inl (.int, 4096, .inl (fun q => nI (D q)))), (y10, .inl (.int, 17, .inl (fun q => nI (mn q))))]) (hp []) 0 0 (fh_ret none [(h, .inr (6, [.int th, .int (nI M), .int (nI n), .ref y1, .ref y2, .ref y3, .int (nI u), .ref y4, .ref y5, .ref y6, .ref y7, .int (nI c), .ref y8, .ref y9, .ref y10, .ref y11, .ref y12, .int ((mkK (mnx ib (mn a) (fun q => bk (128 * a + q)) S D) 8 s).1.2.2.2.1), .int ((mkK (mnx ib (mn a) (fun q => bk (128 * a + q)) S D) 8 s).1.2.2.2.2), .int ps, .int (nI ((mkK (mnx ib (mn a) (fun q => bk (128 * a + q)) S D) 8 s).1.1)), .int ((mkK (mnx ib (mn a) (fun q => bk (128 * a + q)) S D) 8 s).1.2.1), .int (nI (b2n (mkK (mnx ib (mn a) (fun q => bk (128 * a + q)) S D) 8 s).1.2.2.1)), .long ((mkK (mnx ib (mn a) (fun q => bk (128 * a + q)) S D) 8 s).2), .long ev, .int (nI el), .int (nI fn), .ref y13, .ref y14, .ref y15, .ref y16, .int (nI js), .ref y17, .int (nI (b2n ib))])), (y11, .inl (.int, 2176, .inl (fun q => nI (bk q)))), (y6, .inl (.int, 128, .inl S)), (y5, .inl (.int, 4096, .inl (fun q => nI (D q)))), (y10, .inl (.int, 17, .inl (fun q => nI (mn q))))]) := by
  refine fh_enter (by decide) hst (Nat.le_of_ble_eq_true rfl) ?_
  intro mD mp me sm mm margs mbel mmet mcod X hr hnm hno hf0
  show fh_G mp l me (fh_rm 3 71 0 0) sm mm margs mbel mmet mcod mD fhCl (hp [(h, .inr (6, [.int th, .int (nI M), .int (nI n), .ref y1, .ref y2, .ref y3, .int (nI u), .ref y4, .ref y5, .ref y6, .ref y7, .int (nI c), .ref y8, .ref y9, .ref y10, .ref y11, .ref y12, .int s.2.2.2.1, .int s.2.2.2.2, .int ps, .int (nI s.1), .int s.2.1, .int (nI (b2n s.2.2.1)), .long ek, .long ev, .int (nI el), .int (nI fn), .ref y13, .ref y14, .ref y15, .ref y16, .int (nI js), .ref y17, .int (nI (b2n ib))])), (y11, .inl (.int, 2176, .inl (fun q => nI (bk q)))), (y6, .inl (.int, 128, .inl S)), (y5, .inl (.int, 4096, .inl (fun q => nI (D q)))), (y10, .inl (.int, 17, .inl (fun q => nI (mn q))))]) 3 _ 0 0 (hp [(h, .inr (6, [.int th, .int (nI M), .int (nI n), .ref y1, .ref y2, .ref y3, .int (nI u), .ref y4, .ref y5, .ref y6, .ref y7, .int (nI c), .ref y8, .ref y9, .ref y10, .ref y11, .ref y12, .int s.2.2.2.1, .int s.2.2.2.2, .int ps, .int (nI s.1), .int s.2.1, .int (nI (b2n s.2.2.1)), .long ek, .long ev, .int (nI el), .int (nI fn), .ref y13, .ref y14, .ref y15, .ref y16, .int (nI js), .ref y17, .int (nI (b2n ib))])), (y11, .inl (.int, 2176, .inl (fun q => nI (bk q)))), (y6, .inl (.int, 128, .inl S)), (y5, .inl (.int, 4096, .inl (fun q => nI (D q)))), (y10, .inl (.int, 17, .inl (fun q => nI (mn q))))]) 0 [(0, .ref h), (1, .int (nI a))] []
  refine g_aload_n X d_MD_readKey_0 0 rfl ?_
  refine g_lconst 0 X d_MD_readKey_1 (by decide) ?_
  refine h_putf (k := 23) (ty := .long) 0 [(h, .inr (6, [.int th, .int (nI M), .int (nI n), .ref y1, .ref y2, .ref y3, .int (nI u), .ref y4, .ref y5, .ref y6, .ref y7, .int (nI c), .ref y8, .ref y9, .ref y10, .ref y11, .ref y12, .int s.2.2.2.1, .int s.2.2.2.2, .int ps, .int (nI s.1), .int s.2.1, .int (nI (b2n s.2.2.1)), .long 0, .long ev, .int (nI el), .int (nI fn), .ref y13, .ref y14, .ref y15, .ref y16, .int (nI js), .ref y17, .int (nI (b2n ib))])), (y11, .inl (.int, 2176, .inl (fun q => nI (bk q)))), (y6, .inl (.int, 128, .inl S)), (y5, .inl (.int, 4096, .inl (fun q => nI (D q)))), (y10, .inl (.int, 17, .inl (fun q => nI (mn q))))] X d_MD_readKey_2 hn rfl rfl i_MD t_MD t_MD_ok n_MD (by decide) k_fl_MD_193 (fun _ h => h) rfl (by decide +kernel) rfl rfl (Nat.le_of_ble_eq_true rfl) rfl ?_
  refine g_iconst (nI 0) X d_MD_readKey_5 (by decide) ?_
  refine g_istore_n [(2, .int (nI 0)), (0, .ref h), (1, .int (nI a))] X d_MD_readKey_6 (by decide) rfl ?_
  have L7 : ∀ (fu7 : Nat) (j : Nat), (j ≤ 8) → 8 - j < fu7 → fh_G mp l me (fh_rm 3 71 0 0) sm mm margs mbel mmet mcod mD fhCl (hp [(h, .inr (6, [.int th, .int (nI M), .int (nI n), .ref y1, .ref y2, .ref y3, .int (nI u), .ref y4, .ref y5, .ref y6, .ref y7, .int (nI c), .ref y8, .ref y9, .ref y10, .ref y11, .ref y12, .int s.2.2.2.1, .int s.2.2.2.2, .int ps, .int (nI s.1), .int s.2.1, .int (nI (b2n s.2.2.1)), .long ek, .long ev, .int (nI el), .int (nI fn), .ref y13, .ref y14, .ref y15, .ref y16, .int (nI js), .ref y17, .int (nI (b2n ib))])), (y11, .inl (.int, 2176, .inl (fun q => nI (bk q)))), (y6, .inl (.int, 128, .inl S)), (y5, .inl (.int, 4096, .inl (fun q => nI (D q)))), (y10, .inl (.int, 17, .inl (fun q => nI (mn q))))]) 3 (fh_MQ mbel mD fhCl (hp [(h, .inr (6, [.int th, .int (nI M), .int (nI n), .ref y1, .ref y2, .ref y3, .int (nI u), .ref y4, .ref y5, .ref y6, .ref y7, .int (nI c), .ref y8, .ref y9, .ref y10, .ref y11, .ref y12, .int s.2.2.2.1, .int s.2.2.2.2, .int ps, .int (nI s.1), .int s.2.1, .int (nI (b2n s.2.2.1)), .long ek, .long ev, .int (nI el), .int (nI fn), .ref y13, .ref y14, .ref y15, .ref y16, .int (nI js), .ref y17, .int (nI (b2n ib))])), (y11, .inl (.int, 2176, .inl (fun q => nI (bk q)))), (y6, .inl (.int, 128, .inl S)), (y5, .inl (.int, 4096, .inl (fun q => nI (D q)))), (y10, .inl (.int, 17, .inl (fun q => nI (mn q))))]) (fh_ret none [(h, .inr (6, [.int th, .int (nI M), .int (nI n), .ref y1, .ref y2, .ref y3, .int (nI u), .ref y4, .ref y5, .ref y6, .ref y7, .int (nI c), .ref y8, .ref y9, .ref y10, .ref y11, .ref y12, .int ((mkK (mnx ib (mn a) (fun q => bk (128 * a + q)) S D) 8 s).1.2.2.2.1), .int ((mkK (mnx ib (mn a) (fun q => bk (128 * a + q)) S D) 8 s).1.2.2.2.2), .int ps, .int (nI ((mkK (mnx ib (mn a) (fun q => bk (128 * a + q)) S D) 8 s).1.1)), .int ((mkK (mnx ib (mn a) (fun q => bk (128 * a + q)) S D) 8 s).1.2.1), .int (nI (b2n (mkK (mnx ib (mn a) (fun q => bk (128 * a + q)) S D) 8 s).1.2.2.1)), .long ((mkK (mnx ib (mn a) (fun q => bk (128 * a + q)) S D) 8 s).2), .long ev, .int (nI el), .int (nI fn), .ref y13, .ref y14, .ref y15, .ref y16, .int (nI js), .ref y17, .int (nI (b2n ib))])), (y11, .inl (.int, 2176, .inl (fun q => nI (bk q)))), (y6, .inl (.int, 128, .inl S)), (y5, .inl (.int, 4096, .inl (fun q => nI (D q)))), (y10, .inl (.int, 17, .inl (fun q => nI (mn q))))]) margs sm 0 0) 0 0 (hp [(h, .inr (6, [.int th, .int (nI M), .int (nI n), .ref y1, .ref y2, .ref y3, .int (nI u), .ref y4, .ref y5, .ref y6, .ref y7, .int (nI c), .ref y8, .ref y9, .ref y10, .ref y11, .ref y12, .int ((mkK (mnx ib (mn a) (fun q => bk (128 * a + q)) S D) j s).1.2.2.2.1), .int ((mkK (mnx ib (mn a) (fun q => bk (128 * a + q)) S D) j s).1.2.2.2.2), .int ps, .int (nI ((mkK (mnx ib (mn a) (fun q => bk (128 * a + q)) S D) j s).1.1)), .int ((mkK (mnx ib (mn a) (fun q => bk (128 * a + q)) S D) j s).1.2.1), .int (nI (b2n (mkK (mnx ib (mn a) (fun q => bk (128 * a + q)) S D) j s).1.2.2.1)), .long ((mkK (mnx ib (mn a) (fun q => bk (128 * a + q)) S D) j s).2), .long ev, .int (nI el), .int (nI fn), .ref y13, .ref y14, .ref y15, .ref y16, .int (nI js), .ref y17, .int (nI (b2n ib))])), (y11, .inl (.int, 2176, .inl (fun q => nI (bk q)))), (y6, .inl (.int, 128, .inl S)), (y5, .inl (.int, 4096, .inl (fun q => nI (D q)))), (y10, .inl (.int, 17, .inl (fun q => nI (mn q))))]) 7 [(2, .int (nI j)), (0, .ref h), (1, .int (nI a))] [] := by
    intro fu7
    induction fu7 with
    | zero => intro j q1 hm7; exact absurd hm7 (Nat.not_lt_zero _)
    | succ fu7 ih7 =>
      intro j q1 hm7
      refine g_iload_n X d_MD_readKey_7 0 rfl ?_
      refine g_bipush (nI 8) X d_MD_readKey_8 (by decide) ?_
      refine g_icmp_ge 37 X d_MD_readKey_10 (by decide) (fun h10 => ?_) (fun h10 => ?_)
      · have h10 := cv_le (by omega) (by omega) h10
        have e8 : j = 8 := by omega
        exact g_vret X hr d_MD_readKey_37 (Nat.le_of_ble_eq_true rfl) (Nat.le_of_ble_eq_true rfl) (⟨rfl, by rw [e8]⟩)
      · have h10 := cv_nle (by omega) (by omega) h10
        refine g_aload_n X d_MD_readKey_13 1 rfl ?_
        refine g_aload_n X d_MD_readKey_14 1 rfl ?_
        refine g_getf (k := 23) X d_MD_readKey_15 (hl_w 0 rfl hn) rfl i_MD (by decide) k_fl_MD_193 (fun _ h => h) rfl ?_
        refine g_bipush (nI 8) X d_MD_readKey_18 (by decide) ?_
        refine g_lshl X d_MD_readKey_20 ?_
        refine g_aload_n X d_MD_readKey_21 1 rfl ?_
        refine g_iload_n X d_MD_readKey_22 2 rfl ?_
        refine h_callV (As := [.int (nI a)]) (st := [.long (((mkK (mnx ib (mn a) (fun q => bk (128 * a + q)) S D) j s).2) <<< ((nI 8).toInt64 &&& 63)), .ref h]) [0, 1, 2, 3, 4] [(h, .inr (6, [.int th, .int (nI M), .int (nI n), .ref y1, .ref y2, .ref y3, .int (nI u), .ref y4, .ref y5, .ref y6, .ref y7, .int (nI c), .ref y8, .ref y9, .ref y10, .ref y11, .ref y12, .int (((mnx ib (mn a) (fun q => bk (128 * a + q)) S D) (mkK (mnx ib (mn a) (fun q => bk (128 * a + q)) S D) j s).1).1.2.2.2.1), .int (((mnx ib (mn a) (fun q => bk (128 * a + q)) S D) (mkK (mnx ib (mn a) (fun q => bk (128 * a + q)) S D) j s).1).1.2.2.2.2), .int ps, .int (nI (((mnx ib (mn a) (fun q => bk (128 * a + q)) S D) (mkK (mnx ib (mn a) (fun q => bk (128 * a + q)) S D) j s).1).1.1)), .int (((mnx ib (mn a) (fun q => bk (128 * a + q)) S D) (mkK (mnx ib (mn a) (fun q => bk (128 * a + q)) S D) j s).1).1.2.1), .int (nI (b2n ((mnx ib (mn a) (fun q => bk (128 * a + q)) S D) (mkK (mnx ib (mn a) (fun q => bk (128 * a + q)) S D) j s).1).1.2.2.1)), .long ((mkK (mnx ib (mn a) (fun q => bk (128 * a + q)) S D) j s).2), .long ev, .int (nI el), .int (nI fn), .ref y13, .ref y14, .ref y15, .ref y16, .int (nI js), .ref y17, .int (nI (b2n ib))])), (y11, .inl (.int, 2176, .inl (fun q => nI (bk q)))), (y6, .inl (.int, 128, .inl S)), (y5, .inl (.int, 4096, .inl (fun q => nI (D q)))), (y10, .inl (.int, 17, .inl (fun q => nI (mn q))))] X d_MD_readKey_23 (c_MD_next (s := (mkK (mnx ib (mn a) (fun q => bk (128 * a + q)) S D) j s).1) hst hn ha hmn hm1 hbk (mkK_at hmn hs j)) (hl_w 0 rfl hn) rfl rfl k_ml_MD_197 k_cd_MD_next k_in_MD k_im_MD_next k_se_MD_next ⟨by decide +kernel, by decide +kernel, (by decide +kernel : (parseMethodDescriptor y_MD_next.desc).map (fun d => d.parameters.length) = some 1)⟩ ⟨Nat.le_of_ble_eq_true rfl, Nat.le_of_ble_eq_true rfl⟩ ⟨Nat.le_of_ble_eq_true rfl, Nat.le_of_ble_eq_true rfl⟩ (Nat.le_of_ble_eq_true rfl) hn rfl rfl rfl hp_no hp_no2 ?_
        refine g_i2l X d_MD_readKey_26 ?_
        refine g_lor X d_MD_readKey_27 ?_
        refine h_putf (k := 23) (ty := .long) 0 [(h, .inr (6, [.int th, .int (nI M), .int (nI n), .ref y1, .ref y2, .ref y3, .int (nI u), .ref y4, .ref y5, .ref y6, .ref y7, .int (nI c), .ref y8, .ref y9, .ref y10, .ref y11, .ref y12, .int (((mnx ib (mn a) (fun q => bk (128 * a + q)) S D) (mkK (mnx ib (mn a) (fun q => bk (128 * a + q)) S D) j s).1).1.2.2.2.1), .int (((mnx ib (mn a) (fun q => bk (128 * a + q)) S D) (mkK (mnx ib (mn a) (fun q => bk (128 * a + q)) S D) j s).1).1.2.2.2.2), .int ps, .int (nI (((mnx ib (mn a) (fun q => bk (128 * a + q)) S D) (mkK (mnx ib (mn a) (fun q => bk (128 * a + q)) S D) j s).1).1.1)), .int (((mnx ib (mn a) (fun q => bk (128 * a + q)) S D) (mkK (mnx ib (mn a) (fun q => bk (128 * a + q)) S D) j s).1).1.2.1), .int (nI (b2n ((mnx ib (mn a) (fun q => bk (128 * a + q)) S D) (mkK (mnx ib (mn a) (fun q => bk (128 * a + q)) S D) j s).1).1.2.2.1)), .long ((((mkK (mnx ib (mn a) (fun q => bk (128 * a + q)) S D) j s).2) <<< ((nI 8).toInt64 &&& 63)) ||| ((nI (((mnx ib (mn a) (fun q => bk (128 * a + q)) S D) (mkK (mnx ib (mn a) (fun q => bk (128 * a + q)) S D) j s).1).2)).toInt64)), .long ev, .int (nI el), .int (nI fn), .ref y13, .ref y14, .ref y15, .ref y16, .int (nI js), .ref y17, .int (nI (b2n ib))])), (y11, .inl (.int, 2176, .inl (fun q => nI (bk q)))), (y6, .inl (.int, 128, .inl S)), (y5, .inl (.int, 4096, .inl (fun q => nI (D q)))), (y10, .inl (.int, 17, .inl (fun q => nI (mn q))))] X d_MD_readKey_28 hn rfl rfl i_MD t_MD t_MD_ok n_MD (by decide) k_fl_MD_193 (fun _ h => h) rfl (by decide +kernel) rfl rfl (Nat.le_of_ble_eq_true rfl) rfl ?_
        refine g_iinc (nI (j + 1)) 0 [(2, .int (nI (j + 1))), (0, .ref h), (1, .int (nI a))] X d_MD_readKey_31 rfl (nI_1 _) (by decide) rfl ?_
        refine g_goto 7 X d_MD_readKey_34 (by decide) ?_
        refine g_hp (ws' := [(h, .inr (6, [.int th, .int (nI M), .int (nI n), .ref y1, .ref y2, .ref y3, .int (nI u), .ref y4, .ref y5, .ref y6, .ref y7, .int (nI c), .ref y8, .ref y9, .ref y10, .ref y11, .ref y12, .int ((mkK (mnx ib (mn a) (fun q => bk (128 * a + q)) S D) (j + 1) s).1.2.2.2.1), .int ((mkK (mnx ib (mn a) (fun q => bk (128 * a + q)) S D) (j + 1) s).1.2.2.2.2), .int ps, .int (nI ((mkK (mnx ib (mn a) (fun q => bk (128 * a + q)) S D) (j + 1) s).1.1)), .int ((mkK (mnx ib (mn a) (fun q => bk (128 * a + q)) S D) (j + 1) s).1.2.1), .int (nI (b2n (mkK (mnx ib (mn a) (fun q => bk (128 * a + q)) S D) (j + 1) s).1.2.2.1)), .long ((mkK (mnx ib (mn a) (fun q => bk (128 * a + q)) S D) (j + 1) s).2), .long ev, .int (nI el), .int (nI fn), .ref y13, .ref y14, .ref y15, .ref y16, .int (nI js), .ref y17, .int (nI (b2n ib))])), (y11, .inl (.int, 2176, .inl (fun q => nI (bk q)))), (y6, .inl (.int, 128, .inl S)), (y5, .inl (.int, 4096, .inl (fun q => nI (D q)))), (y10, .inl (.int, 17, .inl (fun q => nI (mn q))))]) rfl ?_
        exact ih7 (j + 1) (by omega) (by omega)
  exact L7 _ 0 (Nat.zero_le _) (Nat.lt_succ_self _)

set_option maxRecDepth 100000 in
set_option maxHeartbeats 1000000 in
theorem c_MD_readLength {l : Launch} (hst : l.stackTraces = false) {h y1 y2 y3 y4 y5 y6 y7 y8 y9 y10 y11 y12 y13 y14 y15 y16 y17 M n u c el fn js : Nat} {s : R5} {th ps : Int32} {ib : Bool} {ek ev : Int64} {bk : Nat → Nat} {S : Nat → Int32} {D : Nat → Nat} {mn : Nat → Nat} (hn : [h, y11, y6, y5, y10].Nodup) {a : Nat} (ha : a < 17) (hmn : mn a ≤ 128) (hm1 : 1 ≤ mn a) (hbk : ∀ q, q < mn a → bk (128 * a + q) < 128) (hs : s.1 ≤ 4096) (hD : ∀ q, D q < 256) : fh_C l fhCl fhT y_MD_readLength (.code y_MD_readLength b_MD_readLength 3 none) 3 71 [.ref h, .int (nI a)] (hp [(h, .inr (6, [.int th, .int (nI M), .int (nI n), .ref y1, .ref y2, .ref y3, .int (nI u), .ref y4, .ref y5, .ref y6, .ref y7, .int (nI c), .ref y8, .ref y9, .ref y10, .ref y11, .ref y12, .int s.2.2.2.1, .int s.2.2.2.2, .int ps, .int (nI s.1), .int s.2.1, .int (nI (b2n s.2.2.1)), .long ek, .long ev, .int (nI el), .int (nI fn), .ref y13, .ref y14, .ref y15, .ref y16, .int (nI js), .ref y17, .int (nI (b2n ib))])), (y11, .inl (.int, 2176, .inl (fun q => nI (bk q)))), (y6, .inl (.int, 128, .inl S)), (y5, .inl (.int, 4096, .inl (fun q => nI (D q)))), (y10, .inl (.int, 17, .inl (fun q => nI (mn q))))]) (hp []) 0 0 (fh_ret none [(h, .inr (6, [.int th, .int (nI M), .int (nI n), .ref y1, .ref y2, .ref y3, .int (nI u), .ref y4, .ref y5, .ref y6, .ref y7, .int (nI c), .ref y8, .ref y9, .ref y10, .ref y11, .ref y12, .int ((mkL (mnx ib (mn a) (fun q => bk (128 * a + q)) S D) (fun q => bk (128 * a + q)) s).1.2.2.2.1), .int ((mkL (mnx ib (mn a) (fun q => bk (128 * a + q)) S D) (fun q => bk (128 * a + q)) s).1.2.2.2.2), .int ps, .int (nI ((mkL (mnx ib (mn a) (fun q => bk (128 * a + q)) S D) (fun q => bk (128 * a + q)) s).1.1)), .int ((mkL (mnx ib (mn a) (fun q => bk (128 * a + q)) S D) (fun q => bk (128 * a + q)) s).1.2.1), .int (nI (b2n (mkL (mnx ib (mn a) (fun q => bk (128 * a + q)) S D) (fun q => bk (128 * a + q)) s).1.2.2.1)), .long ek, .long ev, .int (nI ((mkL (mnx ib (mn a) (fun q => bk (128 * a + q)) S D) (fun q => bk (128 * a + q)) s).2)), .int (nI fn), .ref y13, .ref y14, .ref y15, .ref y16, .int (nI js), .ref y17, .int (nI (b2n ib))])), (y11, .inl (.int, 2176, .inl (fun q => nI (bk q)))), (y6, .inl (.int, 128, .inl S)), (y5, .inl (.int, 4096, .inl (fun q => nI (D q)))), (y10, .inl (.int, 17, .inl (fun q => nI (mn q))))]) := by
  refine fh_enter (by decide) hst (Nat.le_of_ble_eq_true rfl) ?_
  intro mD mp me sm mm margs mbel mmet mcod X hr hnm hno hf0
  show fh_G mp l me (fh_rm 3 71 0 0) sm mm margs mbel mmet mcod mD fhCl (hp [(h, .inr (6, [.int th, .int (nI M), .int (nI n), .ref y1, .ref y2, .ref y3, .int (nI u), .ref y4, .ref y5, .ref y6, .ref y7, .int (nI c), .ref y8, .ref y9, .ref y10, .ref y11, .ref y12, .int s.2.2.2.1, .int s.2.2.2.2, .int ps, .int (nI s.1), .int s.2.1, .int (nI (b2n s.2.2.1)), .long ek, .long ev, .int (nI el), .int (nI fn), .ref y13, .ref y14, .ref y15, .ref y16, .int (nI js), .ref y17, .int (nI (b2n ib))])), (y11, .inl (.int, 2176, .inl (fun q => nI (bk q)))), (y6, .inl (.int, 128, .inl S)), (y5, .inl (.int, 4096, .inl (fun q => nI (D q)))), (y10, .inl (.int, 17, .inl (fun q => nI (mn q))))]) 3 _ 0 0 (hp [(h, .inr (6, [.int th, .int (nI M), .int (nI n), .ref y1, .ref y2, .ref y3, .int (nI u), .ref y4, .ref y5, .ref y6, .ref y7, .int (nI c), .ref y8, .ref y9, .ref y10, .ref y11, .ref y12, .int s.2.2.2.1, .int s.2.2.2.2, .int ps, .int (nI s.1), .int s.2.1, .int (nI (b2n s.2.2.1)), .long ek, .long ev, .int (nI el), .int (nI fn), .ref y13, .ref y14, .ref y15, .ref y16, .int (nI js), .ref y17, .int (nI (b2n ib))])), (y11, .inl (.int, 2176, .inl (fun q => nI (bk q)))), (y6, .inl (.int, 128, .inl S)), (y5, .inl (.int, 4096, .inl (fun q => nI (D q)))), (y10, .inl (.int, 17, .inl (fun q => nI (mn q))))]) 0 [(0, .ref h), (1, .int (nI a))] []
  have hn11 : [h, y11].Nodup := (List.Nodup.sublist (by repeat first | exact List.nil_sublist _ | apply List.Sublist.cons₂ | apply List.Sublist.cons) hn)
  have hv9 := mnx_v (b := ib) (m := mn a) (ids := (fun q => bk (128 * a + q))) (S := S) (s := s) hD
  refine g_aload_n X d_MD_readLength_0 0 rfl ?_
  refine g_getf (k := 20) X d_MD_readLength_1 (hl_w 0 rfl hn) rfl i_MD (by decide) k_fl_MD_180 (fun _ h => h) rfl ?_
  refine g_bipush (nI 32) X d_MD_readLength_4 (by decide) ?_
  refine g_idiv X d_MD_readLength_6 (by decide) ?_
  refine g_vi (nI (s.1 / 32)) (pk_div (by omega) (by omega) (by omega)) ?_
  refine g_istore_n [(2, .int (nI (s.1 / 32))), (0, .ref h), (1, .int (nI a))] X d_MD_readLength_7 (by decide) rfl ?_
  refine g_aload_n X d_MD_readLength_8 1 rfl ?_
  refine g_aload_n X d_MD_readLength_9 1 rfl ?_
  refine g_iload_n X d_MD_readLength_10 2 rfl ?_
  refine h_callV (As := [.int (nI a)]) (st := [.ref h]) [0, 1, 2, 3, 4] [(h, .inr (6, [.int th, .int (nI M), .int (nI n), .ref y1, .ref y2, .ref y3, .int (nI u), .ref y4, .ref y5, .ref y6, .ref y7, .int (nI c), .ref y8, .ref y9, .ref y10, .ref y11, .ref y12, .int (((mnx ib (mn a) (fun q => bk (128 * a + q)) S D) s).1.2.2.2.1), .int (((mnx ib (mn a) (fun q => bk (128 * a + q)) S D) s).1.2.2.2.2), .int ps, .int (nI (((mnx ib (mn a) (fun q => bk (128 * a + q)) S D) s).1.1)), .int (((mnx ib (mn a) (fun q => bk (128 * a + q)) S D) s).1.2.1), .int (nI (b2n ((mnx ib (mn a) (fun q => bk (128 * a + q)) S D) s).1.2.2.1)), .long ek, .long ev, .int (nI el), .int (nI fn), .ref y13, .ref y14, .ref y15, .ref y16, .int (nI js), .ref y17, .int (nI (b2n ib))])), (y11, .inl (.int, 2176, .inl (fun q => nI (bk q)))), (y6, .inl (.int, 128, .inl S)), (y5, .inl (.int, 4096, .inl (fun q => nI (D q)))), (y10, .inl (.int, 17, .inl (fun q => nI (mn q))))] X d_MD_readLength_11 (c_MD_next (s := s) hst hn ha hmn hm1 hbk hs) (hl_w 0 rfl hn) rfl rfl k_ml_MD_197 k_cd_MD_next k_in_MD k_im_MD_next k_se_MD_next ⟨by decide +kernel, by decide +kernel, (by decide +kernel : (parseMethodDescriptor y_MD_next.desc).map (fun d => d.parameters.length) = some 1)⟩ ⟨Nat.le_of_ble_eq_true rfl, Nat.le_of_ble_eq_true rfl⟩ ⟨Nat.le_of_ble_eq_true rfl, Nat.le_of_ble_eq_true rfl⟩ (Nat.le_of_ble_eq_true rfl) hn rfl rfl rfl hp_no hp_no2 ?_
  refine h_putf (k := 25) (ty := .int) 0 [(h, .inr (6, [.int th, .int (nI M), .int (nI n), .ref y1, .ref y2, .ref y3, .int (nI u), .ref y4, .ref y5, .ref y6, .ref y7, .int (nI c), .ref y8, .ref y9, .ref y10, .ref y11, .ref y12, .int (((mnx ib (mn a) (fun q => bk (128 * a + q)) S D) s).1.2.2.2.1), .int (((mnx ib (mn a) (fun q => bk (128 * a + q)) S D) s).1.2.2.2.2), .int ps, .int (nI (((mnx ib (mn a) (fun q => bk (128 * a + q)) S D) s).1.1)), .int (((mnx ib (mn a) (fun q => bk (128 * a + q)) S D) s).1.2.1), .int (nI (b2n ((mnx ib (mn a) (fun q => bk (128 * a + q)) S D) s).1.2.2.1)), .long ek, .long ev, .int (nI (((mnx ib (mn a) (fun q => bk (128 * a + q)) S D) s).2)), .int (nI fn), .ref y13, .ref y14, .ref y15, .ref y16, .int (nI js), .ref y17, .int (nI (b2n ib))])), (y11, .inl (.int, 2176, .inl (fun q => nI (bk q)))), (y6, .inl (.int, 128, .inl S)), (y5, .inl (.int, 4096, .inl (fun q => nI (D q)))), (y10, .inl (.int, 17, .inl (fun q => nI (mn q))))] X d_MD_readLength_14 hn rfl rfl i_MD t_MD t_MD_ok n_MD (by decide) k_fl_MD_200 (fun _ h => h) rfl (by decide +kernel) rfl rfl (Nat.le_of_ble_eq_true rfl) rfl ?_
  refine g_aload_n X d_MD_readLength_17 1 rfl ?_
  refine g_getf (k := 22) X d_MD_readLength_18 (hl_w 0 rfl hn) rfl i_MD (by decide) k_fl_MD_170 (fun _ h => h) rfl ?_
  refine g_if_ne 49 X d_MD_readLength_21 (by decide) (fun h21 => ?_) (fun h21 => ?_)
  · have h21 := cv_n0 (b2n_31 _) h21
    have hm9 := mkL_a (ids := (fun q => bk (128 * a + q))) (Or.inl (b2n_1 h21))
    exact g_vret X hr d_MD_readLength_49 (Nat.le_of_ble_eq_true rfl) (Nat.le_of_ble_eq_true rfl) (⟨rfl, by rw [hm9] <;> rfl⟩)
  · have h21 := cv_e0 (b2n_31 _) h21
    have hf := b2n_0 h21
    have hl8 := mnx_lt hf
    refine g_aload_n X d_MD_readLength_24 1 rfl ?_
    refine g_getf (k := 25) X d_MD_readLength_25 (hl_w 0 rfl hn) rfl i_MD (by decide) k_fl_MD_200 (fun _ h => h) rfl ?_
    refine g_bipush (nI 8) X d_MD_readLength_28 (by decide) ?_
    refine g_icmp_le 49 X d_MD_readLength_30 (by decide) (fun h30 => ?_) (fun h30 => ?_)
    · have h30 := cv_le (by omega) (by omega) h30
      have hm9 := mkL_a (nx := (mnx ib (mn a) (fun q => bk (128 * a + q)) S D)) (ids := (fun q => bk (128 * a + q))) (s := s) (Or.inr (oknb_t (Or.inl h30)))
      exact g_vret X hr d_MD_readLength_49 (Nat.le_of_ble_eq_true rfl) (Nat.le_of_ble_eq_true rfl) (⟨rfl, by rw [hm9] <;> rfl⟩)
    · have h30 := cv_nle (by omega) (by omega) h30
      refine g_aload_n X d_MD_readLength_33 1 rfl ?_
      refine g_getf (k := 25) X d_MD_readLength_34 (hl_w 0 rfl hn) rfl i_MD (by decide) k_fl_MD_200 (fun _ h => h) rfl ?_
      refine g_sipush (nI 255) X d_MD_readLength_37 (by decide) ?_
      refine g_icmp_eq 49 X d_MD_readLength_40 (by decide) (fun h40 => ?_) (fun h40 => ?_)
      · have h40 := cv_eq (by omega) (by omega) h40
        have hm9 := mkL_a (nx := (mnx ib (mn a) (fun q => bk (128 * a + q)) S D)) (ids := (fun q => bk (128 * a + q))) (s := s) (Or.inr (oknb_t (Or.inr h40)))
        exact g_vret X hr d_MD_readLength_49 (Nat.le_of_ble_eq_true rfl) (Nat.le_of_ble_eq_true rfl) (⟨rfl, by rw [hm9] <;> rfl⟩)
      · have h40 := cv_ne (by omega) (by omega) h40
        have hm9 := mkL_b (nx := (mnx ib (mn a) (fun q => bk (128 * a + q)) S D)) (ids := (fun q => bk (128 * a + q))) (s := s) hf (oknb_f (fun z => by rcases z with z | z <;> omega))
        refine g_aload_n X d_MD_readLength_43 1 rfl ?_
        refine g_iload_n X d_MD_readLength_44 2 rfl ?_
        refine g_iload_n X d_MD_readLength_45 0 rfl ?_
        refine h_callV (As := [.int (nI a), .int (nI (s.1 / 32))]) (st := []) [0, 1] [(h, .inr (6, [.int th, .int (nI M), .int (nI n), .ref y1, .ref y2, .ref y3, .int (nI u), .ref y4, .ref y5, .ref y6, .ref y7, .int (nI c), .ref y8, .ref y9, .ref y10, .ref y11, .ref y12, .int (nI (bk (128 * a + s.1 / 32))), .int (((mnx ib (mn a) (fun q => bk (128 * a + q)) S D) s).1.2.2.2.2), .int ps, .int (nI (((mnx ib (mn a) (fun q => bk (128 * a + q)) S D) s).1.1)), .int (((mnx ib (mn a) (fun q => bk (128 * a + q)) S D) s).1.2.1), .int (nI 1), .long ek, .long ev, .int (nI (((mnx ib (mn a) (fun q => bk (128 * a + q)) S D) s).2)), .int (nI fn), .ref y13, .ref y14, .ref y15, .ref y16, .int (nI js), .ref y17, .int (nI (b2n ib))])), (y11, .inl (.int, 2176, .inl (fun q => nI (bk q)))), (y6, .inl (.int, 128, .inl S)), (y5, .inl (.int, 4096, .inl (fun q => nI (D q)))), (y10, .inl (.int, 17, .inl (fun q => nI (mn q))))] X d_MD_readLength_46 (c_MD_fault hst hn11 (by omega)) (hl_w 0 rfl hn) rfl rfl k_ml_MD_177 k_cd_MD_fault k_in_MD k_im_MD_fault k_se_MD_fault ⟨by decide +kernel, by decide +kernel, (by decide +kernel : (parseMethodDescriptor y_MD_fault.desc).map (fun d => d.parameters.length) = some 2)⟩ ⟨Nat.le_of_ble_eq_true rfl, Nat.le_of_ble_eq_true rfl⟩ ⟨Nat.le_of_ble_eq_true rfl, Nat.le_of_ble_eq_true rfl⟩ (Nat.le_of_ble_eq_true rfl) hn rfl rfl rfl hp_no hp_no2 ?_
        exact g_vret X hr d_MD_readLength_49 (Nat.le_of_ble_eq_true rfl) (Nat.le_of_ble_eq_true rfl) (⟨rfl, by rw [hm9] <;> rfl⟩)

set_option maxRecDepth 100000 in
set_option maxHeartbeats 1000000 in
theorem c_MD_readValue {l : Launch} (hst : l.stackTraces = false) {h y1 y2 y3 y4 y5 y6 y7 y8 y9 y10 y11 y12 y13 y14 y15 y16 y17 M n u c el fn js : Nat} {s : R5} {th ps : Int32} {ib : Bool} {ek ev : Int64} {bk : Nat → Nat} {S : Nat → Int32} {D : Nat → Nat} {mn : Nat → Nat} (hn : [h, y11, y6, y5, y10].Nodup) {a : Nat} (ha : a < 17) (hmn : mn a ≤ 128) (hm1 : 1 ≤ mn a) (hbk : ∀ q, q < mn a → bk (128 * a + q) < 128) (hs : s.1 ≤ 4096) (hel : okn el) : fh_C l fhCl fhT y_MD_readValue (.code y_MD_readValue b_MD_readValue 3 none) 3 71 [.ref h, .int (nI a)] (hp [(h, .inr (6, [.int th, .int (nI M), .int (nI n), .ref y1, .ref y2, .ref y3, .int (nI u), .ref y4, .ref y5, .ref y6, .ref y7, .int (nI c), .ref y8, .ref y9, .ref y10, .ref y11, .ref y12, .int s.2.2.2.1, .int s.2.2.2.2, .int ps, .int (nI s.1), .int s.2.1, .int (nI (b2n s.2.2.1)), .long ek, .long ev, .int (nI el), .int (nI fn), .ref y13, .ref y14, .ref y15, .ref y16, .int (nI js), .ref y17, .int (nI (b2n ib))])), (y11, .inl (.int, 2176, .inl (fun q => nI (bk q)))), (y6, .inl (.int, 128, .inl S)), (y5, .inl (.int, 4096, .inl (fun q => nI (D q)))), (y10, .inl (.int, 17, .inl (fun q => nI (mn q))))]) (hp []) 0 0 (fh_ret none [(h, .inr (6, [.int th, .int (nI M), .int (nI n), .ref y1, .ref y2, .ref y3, .int (nI u), .ref y4, .ref y5, .ref y6, .ref y7, .int (nI c), .ref y8, .ref y9, .ref y10, .ref y11, .ref y12, .int ((mkV (mnx ib (mn a) (fun q => bk (128 * a + q)) S D) (bOf el) s).1.2.2.2.1), .int ((mkV (mnx ib (mn a) (fun q => bk (128 * a + q)) S D) (bOf el) s).1.2.2.2.2), .int ps, .int (nI ((mkV (mnx ib (mn a) (fun q => bk (128 * a + q)) S D) (bOf el) s).1.1)), .int ((mkV (mnx ib (mn a) (fun q => bk (128 * a + q)) S D) (bOf el) s).1.2.1), .int (nI (b2n (mkV (mnx ib (mn a) (fun q => bk (128 * a + q)) S D) (bOf el) s).1.2.2.1)), .long ek, .long ((mkV (mnx ib (mn a) (fun q => bk (128 * a + q)) S D) (bOf el) s).2), .int (nI el), .int (nI fn), .ref y13, .ref y14, .ref y15, .ref y16, .int (nI js), .ref y17, .int (nI (b2n ib))])), (y11, .inl (.int, 2176, .inl (fun q => nI (bk q)))), (y6, .inl (.int, 128, .inl S)), (y5, .inl (.int, 4096, .inl (fun q => nI (D q)))), (y10, .inl (.int, 17, .inl (fun q => nI (mn q))))]) := by
  refine fh_enter (by decide) hst (Nat.le_of_ble_eq_true rfl) ?_
  intro mD mp me sm mm margs mbel mmet mcod X hr hnm hno hf0
  show fh_G mp l me (fh_rm 3 71 0 0) sm mm margs mbel mmet mcod mD fhCl (hp [(h, .inr (6, [.int th, .int (nI M), .int (nI n), .ref y1, .ref y2, .ref y3, .int (nI u), .ref y4, .ref y5, .ref y6, .ref y7, .int (nI c), .ref y8, .ref y9, .ref y10, .ref y11, .ref y12, .int s.2.2.2.1, .int s.2.2.2.2, .int ps, .int (nI s.1), .int s.2.1, .int (nI (b2n s.2.2.1)), .long ek, .long ev, .int (nI el), .int (nI fn), .ref y13, .ref y14, .ref y15, .ref y16, .int (nI js), .ref y17, .int (nI (b2n ib))])), (y11, .inl (.int, 2176, .inl (fun q => nI (bk q)))), (y6, .inl (.int, 128, .inl S)), (y5, .inl (.int, 4096, .inl (fun q => nI (D q)))), (y10, .inl (.int, 17, .inl (fun q => nI (mn q))))]) 3 _ 0 0 (hp [(h, .inr (6, [.int th, .int (nI M), .int (nI n), .ref y1, .ref y2, .ref y3, .int (nI u), .ref y4, .ref y5, .ref y6, .ref y7, .int (nI c), .ref y8, .ref y9, .ref y10, .ref y11, .ref y12, .int s.2.2.2.1, .int s.2.2.2.2, .int ps, .int (nI s.1), .int s.2.1, .int (nI (b2n s.2.2.1)), .long ek, .long ev, .int (nI el), .int (nI fn), .ref y13, .ref y14, .ref y15, .ref y16, .int (nI js), .ref y17, .int (nI (b2n ib))])), (y11, .inl (.int, 2176, .inl (fun q => nI (bk q)))), (y6, .inl (.int, 128, .inl S)), (y5, .inl (.int, 4096, .inl (fun q => nI (D q)))), (y10, .inl (.int, 17, .inl (fun q => nI (mn q))))]) 0 [(0, .ref h), (1, .int (nI a))] []
  have hb7 := bOf_le hel
  refine g_aload_n X d_MD_readValue_0 0 rfl ?_
  refine g_lconst 0 X d_MD_readValue_1 (by decide) ?_
  refine h_putf (k := 24) (ty := .long) 0 [(h, .inr (6, [.int th, .int (nI M), .int (nI n), .ref y1, .ref y2, .ref y3, .int (nI u), .ref y4, .ref y5, .ref y6, .ref y7, .int (nI c), .ref y8, .ref y9, .ref y10, .ref y11, .ref y12, .int s.2.2.2.1, .int s.2.2.2.2, .int ps, .int (nI s.1), .int s.2.1, .int (nI (b2n s.2.2.1)), .long ek, .long 0, .int (nI el), .int (nI fn), .ref y13, .ref y14, .ref y15, .ref y16, .int (nI js), .ref y17, .int (nI (b2n ib))])), (y11, .inl (.int, 2176, .inl (fun q => nI (bk q)))), (y6, .inl (.int, 128, .inl S)), (y5, .inl (.int, 4096, .inl (fun q => nI (D q)))), (y10, .inl (.int, 17, .inl (fun q => nI (mn q))))] X d_MD_readValue_2 hn rfl rfl i_MD t_MD t_MD_ok n_MD (by decide) k_fl_MD_203 (fun _ h => h) rfl (by decide +kernel) rfl rfl (Nat.le_of_ble_eq_true rfl) rfl ?_
  refine g_iconst (nI 0) X d_MD_readValue_5 (by decide) ?_
  refine g_istore_n [(2, .int (nI 0)), (0, .ref h), (1, .int (nI a))] X d_MD_readValue_6 (by decide) rfl ?_
  have L7 : ∀ (fu7 : Nat) (j : Nat), (j ≤ bOf el) → 9 - j < fu7 → fh_G mp l me (fh_rm 3 71 0 0) sm mm margs mbel mmet mcod mD fhCl (hp [(h, .inr (6, [.int th, .int (nI M), .int (nI n), .ref y1, .ref y2, .ref y3, .int (nI u), .ref y4, .ref y5, .ref y6, .ref y7, .int (nI c), .ref y8, .ref y9, .ref y10, .ref y11, .ref y12, .int s.2.2.2.1, .int s.2.2.2.2, .int ps, .int (nI s.1), .int s.2.1, .int (nI (b2n s.2.2.1)), .long ek, .long ev, .int (nI el), .int (nI fn), .ref y13, .ref y14, .ref y15, .ref y16, .int (nI js), .ref y17, .int (nI (b2n ib))])), (y11, .inl (.int, 2176, .inl (fun q => nI (bk q)))), (y6, .inl (.int, 128, .inl S)), (y5, .inl (.int, 4096, .inl (fun q => nI (D q)))), (y10, .inl (.int, 17, .inl (fun q => nI (mn q))))]) 3 (fh_MQ mbel mD fhCl (hp [(h, .inr (6, [.int th, .int (nI M), .int (nI n), .ref y1, .ref y2, .ref y3, .int (nI u), .ref y4, .ref y5, .ref y6, .ref y7, .int (nI c), .ref y8, .ref y9, .ref y10, .ref y11, .ref y12, .int s.2.2.2.1, .int s.2.2.2.2, .int ps, .int (nI s.1), .int s.2.1, .int (nI (b2n s.2.2.1)), .long ek, .long ev, .int (nI el), .int (nI fn), .ref y13, .ref y14, .ref y15, .ref y16, .int (nI js), .ref y17, .int (nI (b2n ib))])), (y11, .inl (.int, 2176, .inl (fun q => nI (bk q)))), (y6, .inl (.int, 128, .inl S)), (y5, .inl (.int, 4096, .inl (fun q => nI (D q)))), (y10, .inl (.int, 17, .inl (fun q => nI (mn q))))]) (fh_ret none [(h, .inr (6, [.int th, .int (nI M), .int (nI n), .ref y1, .ref y2, .ref y3, .int (nI u), .ref y4, .ref y5, .ref y6, .ref y7, .int (nI c), .ref y8, .ref y9, .ref y10, .ref y11, .ref y12, .int ((mkV (mnx ib (mn a) (fun q => bk (128 * a + q)) S D) (bOf el) s).1.2.2.2.1), .int ((mkV (mnx ib (mn a) (fun q => bk (128 * a + q)) S D) (bOf el) s).1.2.2.2.2), .int ps, .int (nI ((mkV (mnx ib (mn a) (fun q => bk (128 * a + q)) S D) (bOf el) s).1.1)), .int ((mkV (mnx ib (mn a) (fun q => bk (128 * a + q)) S D) (bOf el) s).1.2.1), .int (nI (b2n (mkV (mnx ib (mn a) (fun q => bk (128 * a + q)) S D) (bOf el) s).1.2.2.1)), .long ek, .long ((mkV (mnx ib (mn a) (fun q => bk (128 * a + q)) S D) (bOf el) s).2), .int (nI el), .int (nI fn), .ref y13, .ref y14, .ref y15, .ref y16, .int (nI js), .ref y17, .int (nI (b2n ib))])), (y11, .inl (.int, 2176, .inl (fun q => nI (bk q)))), (y6, .inl (.int, 128, .inl S)), (y5, .inl (.int, 4096, .inl (fun q => nI (D q)))), (y10, .inl (.int, 17, .inl (fun q => nI (mn q))))]) margs sm 0 0) 0 0 (hp [(h, .inr (6, [.int th, .int (nI M), .int (nI n), .ref y1, .ref y2, .ref y3, .int (nI u), .ref y4, .ref y5, .ref y6, .ref y7, .int (nI c), .ref y8, .ref y9, .ref y10, .ref y11, .ref y12, .int ((mkV (mnx ib (mn a) (fun q => bk (128 * a + q)) S D) j s).1.2.2.2.1), .int ((mkV (mnx ib (mn a) (fun q => bk (128 * a + q)) S D) j s).1.2.2.2.2), .int ps, .int (nI ((mkV (mnx ib (mn a) (fun q => bk (128 * a + q)) S D) j s).1.1)), .int ((mkV (mnx ib (mn a) (fun q => bk (128 * a + q)) S D) j s).1.2.1), .int (nI (b2n (mkV (mnx ib (mn a) (fun q => bk (128 * a + q)) S D) j s).1.2.2.1)), .long ek, .long ((mkV (mnx ib (mn a) (fun q => bk (128 * a + q)) S D) j s).2), .int (nI el), .int (nI fn), .ref y13, .ref y14, .ref y15, .ref y16, .int (nI js), .ref y17, .int (nI (b2n ib))])), (y11, .inl (.int, 2176, .inl (fun q => nI (bk q)))), (y6, .inl (.int, 128, .inl S)), (y5, .inl (.int, 4096, .inl (fun q => nI (D q)))), (y10, .inl (.int, 17, .inl (fun q => nI (mn q))))]) 7 [(2, .int (nI j)), (0, .ref h), (1, .int (nI a))] [] := by
    intro fu7
    induction fu7 with
    | zero => intro j q1 hm7; exact absurd hm7 (Nat.not_lt_zero _)
    | succ fu7 ih7 =>
      intro j q1 hm7
      refine g_iload_n X d_MD_readValue_7 0 rfl ?_
      refine g_aload_n X d_MD_readValue_8 1 rfl ?_
      refine g_getf (k := 25) X d_MD_readValue_9 (hl_w 0 rfl hn) rfl i_MD (by decide) k_fl_MD_200 (fun _ h => h) rfl ?_
      refine h_callS (As := [.int (nI el)]) (st := [.int (nI j)]) [] [(h, .inr (6, [.int th, .int (nI M), .int (nI n), .ref y1, .ref y2, .ref y3, .int (nI u), .ref y4, .ref y5, .ref y6, .ref y7, .int (nI c), .ref y8, .ref y9, .ref y10, .ref y11, .ref y12, .int ((mkV (mnx ib (mn a) (fun q => bk (128 * a + q)) S D) j s).1.2.2.2.1), .int ((mkV (mnx ib (mn a) (fun q => bk (128 * a + q)) S D) j s).1.2.2.2.2), .int ps, .int (nI ((mkV (mnx ib (mn a) (fun q => bk (128 * a + q)) S D) j s).1.1)), .int ((mkV (mnx ib (mn a) (fun q => bk (128 * a + q)) S D) j s).1.2.1), .int (nI (b2n (mkV (mnx ib (mn a) (fun q => bk (128 * a + q)) S D) j s).1.2.2.1)), .long ek, .long ((mkV (mnx ib (mn a) (fun q => bk (128 * a + q)) S D) j s).2), .int (nI el), .int (nI fn), .ref y13, .ref y14, .ref y15, .ref y16, .int (nI js), .ref y17, .int (nI (b2n ib))])), (y11, .inl (.int, 2176, .inl (fun q => nI (bk q)))), (y6, .inl (.int, 128, .inl S)), (y5, .inl (.int, 4096, .inl (fun q => nI (D q)))), (y10, .inl (.int, 17, .inl (fun q => nI (mn q))))] X d_MD_readValue_12 (c_MD_bytesOf hst (okn_lt hel)) rfl k_ml_MD_87 k_cd_MD_bytesOf k_in_MD k_st_MD_bytesOf ⟨by decide +kernel, by decide +kernel, (by decide +kernel : (parseMethodDescriptor y_MD_bytesOf.desc).map (fun d => d.parameters.length) = some 1)⟩ ⟨Nat.le_of_ble_eq_true rfl, Nat.le_of_ble_eq_true rfl⟩ ⟨Nat.le_of_ble_eq_true rfl, Nat.le_of_ble_eq_true rfl⟩ (Nat.le_of_ble_eq_true rfl) hn rfl rfl rfl hp_no hp_no2 ?_
      refine g_icmp_ge 49 X d_MD_readValue_15 (by decide) (fun h15 => ?_) (fun h15 => ?_)
      · have h15 := cv_le (by omega) (by omega) h15
        have hm9 : mkV (mnx ib (mn a) (fun q => bk (128 * a + q)) S D) (bOf el) s = mkV (mnx ib (mn a) (fun q => bk (128 * a + q)) S D) j s := by rw [show bOf el = j by omega]
        exact g_vret X hr d_MD_readValue_49 (Nat.le_of_ble_eq_true rfl) (Nat.le_of_ble_eq_true rfl) (⟨rfl, by rw [hm9]⟩)
      · have h15 := cv_nle (by omega) (by omega) h15
        refine g_aload_n X d_MD_readValue_18 1 rfl ?_
        refine g_getf (k := 22) X d_MD_readValue_19 (hl_w 0 rfl hn) rfl i_MD (by decide) k_fl_MD_170 (fun _ h => h) rfl ?_
        refine g_if_ne 49 X d_MD_readValue_22 (by decide) (fun h22 => ?_) (fun h22 => ?_)
        · have h22 := cv_n0 (b2n_31 _) h22
          have hm9 := mkV_stop (b2n_1 h22) (bOf el) q1
          exact g_vret X hr d_MD_readValue_49 (Nat.le_of_ble_eq_true rfl) (Nat.le_of_ble_eq_true rfl) (⟨rfl, by rw [hm9]⟩)
        · have h22 := cv_e0 (b2n_31 _) h22
          have hm9 := mkV_go (b2n_0 h22)
          refine g_aload_n X d_MD_readValue_25 1 rfl ?_
          refine g_aload_n X d_MD_readValue_26 1 rfl ?_
          refine g_getf (k := 24) X d_MD_readValue_27 (hl_w 0 rfl hn) rfl i_MD (by decide) k_fl_MD_203 (fun _ h => h) rfl ?_
          refine g_bipush (nI 8) X d_MD_readValue_30 (by decide) ?_
          refine g_lshl X d_MD_readValue_32 ?_
          refine g_aload_n X d_MD_readValue_33 1 rfl ?_
          refine g_iload_n X d_MD_readValue_34 2 rfl ?_
          refine h_callV (As := [.int (nI a)]) (st := [.long (((mkV (mnx ib (mn a) (fun q => bk (128 * a + q)) S D) j s).2) <<< ((nI 8).toInt64 &&& 63)), .ref h]) [0, 1, 2, 3, 4] [(h, .inr (6, [.int th, .int (nI M), .int (nI n), .ref y1, .ref y2, .ref y3, .int (nI u), .ref y4, .ref y5, .ref y6, .ref y7, .int (nI c), .ref y8, .ref y9, .ref y10, .ref y11, .ref y12, .int (((mnx ib (mn a) (fun q => bk (128 * a + q)) S D) (mkV (mnx ib (mn a) (fun q => bk (128 * a + q)) S D) j s).1).1.2.2.2.1), .int (((mnx ib (mn a) (fun q => bk (128 * a + q)) S D) (mkV (mnx ib (mn a) (fun q => bk (128 * a + q)) S D) j s).1).1.2.2.2.2), .int ps, .int (nI (((mnx ib (mn a) (fun q => bk (128 * a + q)) S D) (mkV (mnx ib (mn a) (fun q => bk (128 * a + q)) S D) j s).1).1.1)), .int (((mnx ib (mn a) (fun q => bk (128 * a + q)) S D) (mkV (mnx ib (mn a) (fun q => bk (128 * a + q)) S D) j s).1).1.2.1), .int (nI (b2n ((mnx ib (mn a) (fun q => bk (128 * a + q)) S D) (mkV (mnx ib (mn a) (fun q => bk (128 * a + q)) S D) j s).1).1.2.2.1)), .long ek, .long ((mkV (mnx ib (mn a) (fun q => bk (128 * a + q)) S D) j s).2), .int (nI el), .int (nI fn), .ref y13, .ref y14, .ref y15, .ref y16, .int (nI js), .ref y17, .int (nI (b2n ib))])), (y11, .inl (.int, 2176, .inl (fun q => nI (bk q)))), (y6, .inl (.int, 128, .inl S)), (y5, .inl (.int, 4096, .inl (fun q => nI (D q)))), (y10, .inl (.int, 17, .inl (fun q => nI (mn q))))] X d_MD_readValue_35 (c_MD_next (s := (mkV (mnx ib (mn a) (fun q => bk (128 * a + q)) S D) j s).1) hst hn ha hmn hm1 hbk (mkV_at hmn hs j)) (hl_w 0 rfl hn) rfl rfl k_ml_MD_197 k_cd_MD_next k_in_MD k_im_MD_next k_se_MD_next ⟨by decide +kernel, by decide +kernel, (by decide +kernel : (parseMethodDescriptor y_MD_next.desc).map (fun d => d.parameters.length) = some 1)⟩ ⟨Nat.le_of_ble_eq_true rfl, Nat.le_of_ble_eq_true rfl⟩ ⟨Nat.le_of_ble_eq_true rfl, Nat.le_of_ble_eq_true rfl⟩ (Nat.le_of_ble_eq_true rfl) hn rfl rfl rfl hp_no hp_no2 ?_
          refine g_i2l X d_MD_readValue_38 ?_
          refine g_lor X d_MD_readValue_39 ?_
          refine h_putf (k := 24) (ty := .long) 0 [(h, .inr (6, [.int th, .int (nI M), .int (nI n), .ref y1, .ref y2, .ref y3, .int (nI u), .ref y4, .ref y5, .ref y6, .ref y7, .int (nI c), .ref y8, .ref y9, .ref y10, .ref y11, .ref y12, .int (((mnx ib (mn a) (fun q => bk (128 * a + q)) S D) (mkV (mnx ib (mn a) (fun q => bk (128 * a + q)) S D) j s).1).1.2.2.2.1), .int (((mnx ib (mn a) (fun q => bk (128 * a + q)) S D) (mkV (mnx ib (mn a) (fun q => bk (128 * a + q)) S D) j s).1).1.2.2.2.2), .int ps, .int (nI (((mnx ib (mn a) (fun q => bk (128 * a + q)) S D) (mkV (mnx ib (mn a) (fun q => bk (128 * a + q)) S D) j s).1).1.1)), .int (((mnx ib (mn a) (fun q => bk (128 * a + q)) S D) (mkV (mnx ib (mn a) (fun q => bk (128 * a + q)) S D) j s).1).1.2.1), .int (nI (b2n ((mnx ib (mn a) (fun q => bk (128 * a + q)) S D) (mkV (mnx ib (mn a) (fun q => bk (128 * a + q)) S D) j s).1).1.2.2.1)), .long ek, .long ((((mkV (mnx ib (mn a) (fun q => bk (128 * a + q)) S D) j s).2) <<< ((nI 8).toInt64 &&& 63)) ||| ((nI (((mnx ib (mn a) (fun q => bk (128 * a + q)) S D) (mkV (mnx ib (mn a) (fun q => bk (128 * a + q)) S D) j s).1).2)).toInt64)), .int (nI el), .int (nI fn), .ref y13, .ref y14, .ref y15, .ref y16, .int (nI js), .ref y17, .int (nI (b2n ib))])), (y11, .inl (.int, 2176, .inl (fun q => nI (bk q)))), (y6, .inl (.int, 128, .inl S)), (y5, .inl (.int, 4096, .inl (fun q => nI (D q)))), (y10, .inl (.int, 17, .inl (fun q => nI (mn q))))] X d_MD_readValue_40 hn rfl rfl i_MD t_MD t_MD_ok n_MD (by decide) k_fl_MD_203 (fun _ h => h) rfl (by decide +kernel) rfl rfl (Nat.le_of_ble_eq_true rfl) rfl ?_
          refine g_iinc (nI (j + 1)) 0 [(2, .int (nI (j + 1))), (0, .ref h), (1, .int (nI a))] X d_MD_readValue_43 rfl (nI_1 _) (by decide) rfl ?_
          refine g_goto 7 X d_MD_readValue_46 (by decide) ?_
          refine g_hp (ws' := [(h, .inr (6, [.int th, .int (nI M), .int (nI n), .ref y1, .ref y2, .ref y3, .int (nI u), .ref y4, .ref y5, .ref y6, .ref y7, .int (nI c), .ref y8, .ref y9, .ref y10, .ref y11, .ref y12, .int ((mkV (mnx ib (mn a) (fun q => bk (128 * a + q)) S D) (j + 1) s).1.2.2.2.1), .int ((mkV (mnx ib (mn a) (fun q => bk (128 * a + q)) S D) (j + 1) s).1.2.2.2.2), .int ps, .int (nI ((mkV (mnx ib (mn a) (fun q => bk (128 * a + q)) S D) (j + 1) s).1.1)), .int ((mkV (mnx ib (mn a) (fun q => bk (128 * a + q)) S D) (j + 1) s).1.2.1), .int (nI (b2n (mkV (mnx ib (mn a) (fun q => bk (128 * a + q)) S D) (j + 1) s).1.2.2.1)), .long ek, .long ((mkV (mnx ib (mn a) (fun q => bk (128 * a + q)) S D) (j + 1) s).2), .int (nI el), .int (nI fn), .ref y13, .ref y14, .ref y15, .ref y16, .int (nI js), .ref y17, .int (nI (b2n ib))])), (y11, .inl (.int, 2176, .inl (fun q => nI (bk q)))), (y6, .inl (.int, 128, .inl S)), (y5, .inl (.int, 4096, .inl (fun q => nI (D q)))), (y10, .inl (.int, 17, .inl (fun q => nI (mn q))))]) (by rw [hm9]) ?_
          exact ih7 (j + 1) (by omega) (by omega)
  exact L7 _ 0 (Nat.zero_le _) (Nat.lt_succ_self _)

set_option maxRecDepth 100000 in
set_option maxHeartbeats 1000000 in
theorem c_MD_readEntry {l : Launch} (hst : l.stackTraces = false) {h y1 y2 y3 y4 y5 y6 y7 y8 y9 y10 y11 y12 y13 y14 y15 y16 y17 M n u c el fn js : Nat} {s : R5} {th ps : Int32} {ib : Bool} {ek ev : Int64} {bk : Nat → Nat} {S : Nat → Int32} {D : Nat → Nat} {mn : Nat → Nat} (hn : [h, y11, y6, y5, y10].Nodup) {a : Nat} (ha : a < 17) (hmn : mn a ≤ 128) (hm1 : 1 ≤ mn a) (hbk : ∀ q, q < mn a → bk (128 * a + q) < 128) (hs : s.1 ≤ 4096) (hD : ∀ q, D q < 256) : fh_C l fhCl fhT y_MD_readEntry (.code y_MD_readEntry b_MD_readEntry 2 none) 4 93 [.ref h, .int (nI a)] (hp [(h, .inr (6, [.int th, .int (nI M), .int (nI n), .ref y1, .ref y2, .ref y3, .int (nI u), .ref y4, .ref y5, .ref y6, .ref y7, .int (nI c), .ref y8, .ref y9, .ref y10, .ref y11, .ref y12, .int s.2.2.2.1, .int s.2.2.2.2, .int ps, .int (nI s.1), .int s.2.1, .int (nI (b2n s.2.2.1)), .long ek, .long ev, .int (nI el), .int (nI fn), .ref y13, .ref y14, .ref y15, .ref y16, .int (nI js), .ref y17, .int (nI (b2n ib))])), (y11, .inl (.int, 2176, .inl (fun q => nI (bk q)))), (y6, .inl (.int, 128, .inl S)), (y5, .inl (.int, 4096, .inl (fun q => nI (D q)))), (y10, .inl (.int, 17, .inl (fun q => nI (mn q))))]) (hp []) 0 0 (fh_ret none [(h, .inr (6, [.int th, .int (nI M), .int (nI n), .ref y1, .ref y2, .ref y3, .int (nI u), .ref y4, .ref y5, .ref y6, .ref y7, .int (nI c), .ref y8, .ref y9, .ref y10, .ref y11, .ref y12, .int ((mrE (mnx ib (mn a) (fun q => bk (128 * a + q)) S D) (fun q => bk (128 * a + q)) (s, ek, el, ev)).1.2.2.2.1), .int ((mrE (mnx ib (mn a) (fun q => bk (128 * a + q)) S D) (fun q => bk (128 * a + q)) (s, ek, el, ev)).1.2.2.2.2), .int ps, .int (nI ((mrE (mnx ib (mn a) (fun q => bk (128 * a + q)) S D) (fun q => bk (128 * a + q)) (s, ek, el, ev)).1.1)), .int ((mrE (mnx ib (mn a) (fun q => bk (128 * a + q)) S D) (fun q => bk (128 * a + q)) (s, ek, el, ev)).1.2.1), .int (nI (b2n (mrE (mnx ib (mn a) (fun q => bk (128 * a + q)) S D) (fun q => bk (128 * a + q)) (s, ek, el, ev)).1.2.2.1)), .long ((mrE (mnx ib (mn a) (fun q => bk (128 * a + q)) S D) (fun q => bk (128 * a + q)) (s, ek, el, ev)).2.1), .long ((mrE (mnx ib (mn a) (fun q => bk (128 * a + q)) S D) (fun q => bk (128 * a + q)) (s, ek, el, ev)).2.2.2), .int (nI ((mrE (mnx ib (mn a) (fun q => bk (128 * a + q)) S D) (fun q => bk (128 * a + q)) (s, ek, el, ev)).2.2.1)), .int (nI fn), .ref y13, .ref y14, .ref y15, .ref y16, .int (nI js), .ref y17, .int (nI (b2n ib))])), (y11, .inl (.int, 2176, .inl (fun q => nI (bk q)))), (y6, .inl (.int, 128, .inl S)), (y5, .inl (.int, 4096, .inl (fun q => nI (D q)))), (y10, .inl (.int, 17, .inl (fun q => nI (mn q))))]) := by
  refine fh_enter (by decide) hst (Nat.le_of_ble_eq_true rfl) ?_
  intro mD mp me sm mm margs mbel mmet mcod X hr hnm hno hf0
  show fh_G mp l me (fh_rm 4 93 0 0) sm mm margs mbel mmet mcod mD fhCl (hp [(h, .inr (6, [.int th, .int (nI M), .int (nI n), .ref y1, .ref y2, .ref y3, .int (nI u), .ref y4, .ref y5, .ref y6, .ref y7, .int (nI c), .ref y8, .ref y9, .ref y10, .ref y11, .ref y12, .int s.2.2.2.1, .int s.2.2.2.2, .int ps, .int (nI s.1), .int s.2.1, .int (nI (b2n s.2.2.1)), .long ek, .long ev, .int (nI el), .int (nI fn), .ref y13, .ref y14, .ref y15, .ref y16, .int (nI js), .ref y17, .int (nI (b2n ib))])), (y11, .inl (.int, 2176, .inl (fun q => nI (bk q)))), (y6, .inl (.int, 128, .inl S)), (y5, .inl (.int, 4096, .inl (fun q => nI (D q)))), (y10, .inl (.int, 17, .inl (fun q => nI (mn q))))]) 2 _ 0 0 (hp [(h, .inr (6, [.int th, .int (nI M), .int (nI n), .ref y1, .ref y2, .ref y3, .int (nI u), .ref y4, .ref y5, .ref y6, .ref y7, .int (nI c), .ref y8, .ref y9, .ref y10, .ref y11, .ref y12, .int s.2.2.2.1, .int s.2.2.2.2, .int ps, .int (nI s.1), .int s.2.1, .int (nI (b2n s.2.2.1)), .long ek, .long ev, .int (nI el), .int (nI fn), .ref y13, .ref y14, .ref y15, .ref y16, .int (nI js), .ref y17, .int (nI (b2n ib))])), (y11, .inl (.int, 2176, .inl (fun q => nI (bk q)))), (y6, .inl (.int, 128, .inl S)), (y5, .inl (.int, 4096, .inl (fun q => nI (D q)))), (y10, .inl (.int, 17, .inl (fun q => nI (mn q))))]) 0 [(0, .ref h), (1, .int (nI a))] []
  refine g_aload_n X d_MD_readEntry_0 0 rfl ?_
  refine g_iload_n X d_MD_readEntry_1 1 rfl ?_
  refine h_callV (As := [.int (nI a)]) (st := []) [0, 1, 2, 3, 4] [(h, .inr (6, [.int th, .int (nI M), .int (nI n), .ref y1, .ref y2, .ref y3, .int (nI u), .ref y4, .ref y5, .ref y6, .ref y7, .int (nI c), .ref y8, .ref y9, .ref y10, .ref y11, .ref y12, .int ((mkK (mnx ib (mn a) (fun q => bk (128 * a + q)) S D) 8 s).1.2.2.2.1), .int ((mkK (mnx ib (mn a) (fun q => bk (128 * a + q)) S D) 8 s).1.2.2.2.2), .int ps, .int (nI ((mkK (mnx ib (mn a) (fun q => bk (128 * a + q)) S D) 8 s).1.1)), .int ((mkK (mnx ib (mn a) (fun q => bk (128 * a + q)) S D) 8 s).1.2.1), .int (nI (b2n (mkK (mnx ib (mn a) (fun q => bk (128 * a + q)) S D) 8 s).1.2.2.1)), .long ((mkK (mnx ib (mn a) (fun q => bk (128 * a + q)) S D) 8 s).2), .long ev, .int (nI el), .int (nI fn), .ref y13, .ref y14, .ref y15, .ref y16, .int (nI js), .ref y17, .int (nI (b2n ib))])), (y11, .inl (.int, 2176, .inl (fun q => nI (bk q)))), (y6, .inl (.int, 128, .inl S)), (y5, .inl (.int, 4096, .inl (fun q => nI (D q)))), (y10, .inl (.int, 17, .inl (fun q => nI (mn q))))] X d_MD_readEntry_2 (c_MD_readKey hst hn ha hmn hm1 hbk hs) (hl_w 0 rfl hn) rfl rfl k_ml_MD_213 k_cd_MD_readKey k_in_MD k_im_MD_readKey k_se_MD_readKey ⟨by decide +kernel, by decide +kernel, (by decide +kernel : (parseMethodDescriptor y_MD_readKey.desc).map (fun d => d.parameters.length) = some 1)⟩ ⟨Nat.le_of_ble_eq_true rfl, Nat.le_of_ble_eq_true rfl⟩ ⟨Nat.le_of_ble_eq_true rfl, Nat.le_of_ble_eq_true rfl⟩ (Nat.le_of_ble_eq_true rfl) hn rfl rfl rfl hp_no hp_no2 ?_
  refine g_aload_n X d_MD_readEntry_5 0 rfl ?_
  refine g_getf (k := 22) X d_MD_readEntry_6 (hl_w 0 rfl hn) rfl i_MD (by decide) k_fl_MD_170 (fun _ h => h) rfl ?_
  refine g_if_ne 17 X d_MD_readEntry_9 (by decide) (fun h9 => ?_) (fun h9 => ?_)
  · have h9 := cv_n0 (b2n_31 _) h9
    have hf1 := b2n_1 h9
    have hm9 := mrE_1 (ids := (fun q => bk (128 * a + q))) (ek := ek) (el := el) (ev := ev) hf1
    refine g_aload_n X d_MD_readEntry_17 0 rfl ?_
    refine g_getf (k := 22) X d_MD_readEntry_18 (hl_w 0 rfl hn) rfl i_MD (by decide) k_fl_MD_170 (fun _ h => h) rfl ?_
    refine g_if_ne 29 X d_MD_readEntry_21 (by decide) (fun h21 => ?_) (fun h21 => ?_)
    · have h21 := cv_n0 (b2n_31 _) h21
      exact g_vret X hr d_MD_readEntry_29 (Nat.le_of_ble_eq_true rfl) (Nat.le_of_ble_eq_true rfl) (⟨rfl, by rw [hm9]⟩)
    · have h21 := cv_e0 (b2n_31 _) h21
      omega
  · have h9 := cv_e0 (b2n_31 _) h9
    have hf1 := b2n_0 h9
    refine g_aload_n X d_MD_readEntry_12 0 rfl ?_
    refine g_iload_n X d_MD_readEntry_13 1 rfl ?_
    refine h_callV (As := [.int (nI a)]) (st := []) [0, 1, 2, 3, 4] [(h, .inr (6, [.int th, .int (nI M), .int (nI n), .ref y1, .ref y2, .ref y3, .int (nI u), .ref y4, .ref y5, .ref y6, .ref y7, .int (nI c), .ref y8, .ref y9, .ref y10, .ref y11, .ref y12, .int ((mkL (mnx ib (mn a) (fun q => bk (128 * a + q)) S D) (fun q => bk (128 * a + q)) (mkK (mnx ib (mn a) (fun q => bk (128 * a + q)) S D) 8 s).1).1.2.2.2.1), .int ((mkL (mnx ib (mn a) (fun q => bk (128 * a + q)) S D) (fun q => bk (128 * a + q)) (mkK (mnx ib (mn a) (fun q => bk (128 * a + q)) S D) 8 s).1).1.2.2.2.2), .int ps, .int (nI ((mkL (mnx ib (mn a) (fun q => bk (128 * a + q)) S D) (fun q => bk (128 * a + q)) (mkK (mnx ib (mn a) (fun q => bk (128 * a + q)) S D) 8 s).1).1.1)), .int ((mkL (mnx ib (mn a) (fun q => bk (128 * a + q)) S D) (fun q => bk (128 * a + q)) (mkK (mnx ib (mn a) (fun q => bk (128 * a + q)) S D) 8 s).1).1.2.1), .int (nI (b2n (mkL (mnx ib (mn a) (fun q => bk (128 * a + q)) S D) (fun q => bk (128 * a + q)) (mkK (mnx ib (mn a) (fun q => bk (128 * a + q)) S D) 8 s).1).1.2.2.1)), .long ((mkK (mnx ib (mn a) (fun q => bk (128 * a + q)) S D) 8 s).2), .long ev, .int (nI ((mkL (mnx ib (mn a) (fun q => bk (128 * a + q)) S D) (fun q => bk (128 * a + q)) (mkK (mnx ib (mn a) (fun q => bk (128 * a + q)) S D) 8 s).1).2)), .int (nI fn), .ref y13, .ref y14, .ref y15, .ref y16, .int (nI js), .ref y17, .int (nI (b2n ib))])), (y11, .inl (.int, 2176, .inl (fun q => nI (bk q)))), (y6, .inl (.int, 128, .inl S)), (y5, .inl (.int, 4096, .inl (fun q => nI (D q)))), (y10, .inl (.int, 17, .inl (fun q => nI (mn q))))] X d_MD_readEntry_14 (c_MD_readLength (s := (mkK (mnx ib (mn a) (fun q => bk (128 * a + q)) S D) 8 s).1) hst hn ha hmn hm1 hbk (mkK_at hmn hs 8) hD) (hl_w 0 rfl hn) rfl rfl k_ml_MD_216 k_cd_MD_readLength k_in_MD k_im_MD_readLength k_se_MD_readLength ⟨by decide +kernel, by decide +kernel, (by decide +kernel : (parseMethodDescriptor y_MD_readLength.desc).map (fun d => d.parameters.length) = some 1)⟩ ⟨Nat.le_of_ble_eq_true rfl, Nat.le_of_ble_eq_true rfl⟩ ⟨Nat.le_of_ble_eq_true rfl, Nat.le_of_ble_eq_true rfl⟩ (Nat.le_of_ble_eq_true rfl) hn rfl rfl rfl hp_no hp_no2 ?_
    refine g_aload_n X d_MD_readEntry_17 0 rfl ?_
    refine g_getf (k := 22) X d_MD_readEntry_18 (hl_w 0 rfl hn) rfl i_MD (by decide) k_fl_MD_170 (fun _ h => h) rfl ?_
    refine g_if_ne 29 X d_MD_readEntry_21 (by decide) (fun h21 => ?_) (fun h21 => ?_)
    · have h21 := cv_n0 (b2n_31 _) h21
      have hm9 := mrE_2 (nx := (mnx ib (mn a) (fun q => bk (128 * a + q)) S D)) (ids := (fun q => bk (128 * a + q))) (s := s) (s1 := (mkK (mnx ib (mn a) (fun q => bk (128 * a + q)) S D) 8 s).1) (k := (mkK (mnx ib (mn a) (fun q => bk (128 * a + q)) S D) 8 s).2) (s2 := (mkL (mnx ib (mn a) (fun q => bk (128 * a + q)) S D) (fun q => bk (128 * a + q)) (mkK (mnx ib (mn a) (fun q => bk (128 * a + q)) S D) 8 s).1).1) (n := (mkL (mnx ib (mn a) (fun q => bk (128 * a + q)) S D) (fun q => bk (128 * a + q)) (mkK (mnx ib (mn a) (fun q => bk (128 * a + q)) S D) 8 s).1).2) (ek := ek) (el := el) (ev := ev) rfl hf1 rfl (b2n_1 h21)
      exact g_vret X hr d_MD_readEntry_29 (Nat.le_of_ble_eq_true rfl) (Nat.le_of_ble_eq_true rfl) (⟨rfl, by rw [hm9]⟩)
    · have h21 := cv_e0 (b2n_31 _) h21
      have hf2 := b2n_0 h21
      have hs3 : (mkL (mnx ib (mn a) (fun q => bk (128 * a + q)) S D) (fun q => bk (128 * a + q)) (mkK (mnx ib (mn a) (fun q => bk (128 * a + q)) S D) 8 s).1).1.1 ≤ 4096 := mkL_at hmn (mkK_at hmn hs 8)
      have hm9 := mrE_3 (nx := (mnx ib (mn a) (fun q => bk (128 * a + q)) S D)) (ids := (fun q => bk (128 * a + q))) (s := s) (s1 := (mkK (mnx ib (mn a) (fun q => bk (128 * a + q)) S D) 8 s).1) (k := (mkK (mnx ib (mn a) (fun q => bk (128 * a + q)) S D) 8 s).2) (s2 := (mkL (mnx ib (mn a) (fun q => bk (128 * a + q)) S D) (fun q => bk (128 * a + q)) (mkK (mnx ib (mn a) (fun q => bk (128 * a + q)) S D) 8 s).1).1) (n := (mkL (mnx ib (mn a) (fun q => bk (128 * a + q)) S D) (fun q => bk (128 * a + q)) (mkK (mnx ib (mn a) (fun q => bk (128 * a + q)) S D) 8 s).1).2) (s3 := (mkV (mnx ib (mn a) (fun q => bk (128 * a + q)) S D) (bOf (mkL (mnx ib (mn a) (fun q => bk (128 * a + q)) S D) (fun q => bk (128 * a + q)) (mkK (mnx ib (mn a) (fun q => bk (128 * a + q)) S D) 8 s).1).2) (mkL (mnx ib (mn a) (fun q => bk (128 * a + q)) S D) (fun q => bk (128 * a + q)) (mkK (mnx ib (mn a) (fun q => bk (128 * a + q)) S D) 8 s).1).1).1) (v := (mkV (mnx ib (mn a) (fun q => bk (128 * a + q)) S D) (bOf (mkL (mnx ib (mn a) (fun q => bk (128 * a + q)) S D) (fun q => bk (128 * a + q)) (mkK (mnx ib (mn a) (fun q => bk (128 * a + q)) S D) 8 s).1).2) (mkL (mnx ib (mn a) (fun q => bk (128 * a + q)) S D) (fun q => bk (128 * a + q)) (mkK (mnx ib (mn a) (fun q => bk (128 * a + q)) S D) 8 s).1).1).2) (ek := ek) (el := el) (ev := ev) rfl hf1 rfl hf2 rfl
      refine g_aload_n X d_MD_readEntry_24 0 rfl ?_
      refine g_iload_n X d_MD_readEntry_25 1 rfl ?_
      refine h_callV (As := [.int (nI a)]) (st := []) [0, 1, 2, 3, 4] [(h, .inr (6, [.int th, .int (nI M), .int (nI n), .ref y1, .ref y2, .ref y3, .int (nI u), .ref y4, .ref y5, .ref y6, .ref y7, .int (nI c), .ref y8, .ref y9, .ref y10, .ref y11, .ref y12, .int ((mkV (mnx ib (mn a) (fun q => bk (128 * a + q)) S D) (bOf (mkL (mnx ib (mn a) (fun q => bk (128 * a + q)) S D) (fun q => bk (128 * a + q)) (mkK (mnx ib (mn a) (fun q => bk (128 * a + q)) S D) 8 s).1).2) (mkL (mnx ib (mn a) (fun q => bk (128 * a + q)) S D) (fun q => bk (128 * a + q)) (mkK (mnx ib (mn a) (fun q => bk (128 * a + q)) S D) 8 s).1).1).1.2.2.2.1), .int ((mkV (mnx ib (mn a) (fun q => bk (128 * a + q)) S D) (bOf (mkL (mnx ib (mn a) (fun q => bk (128 * a + q)) S D) (fun q => bk (128 * a + q)) (mkK (mnx ib (mn a) (fun q => bk (128 * a + q)) S D) 8 s).1).2) (mkL (mnx ib (mn a) (fun q => bk (128 * a + q)) S D) (fun q => bk (128 * a + q)) (mkK (mnx ib (mn a) (fun q => bk (128 * a + q)) S D) 8 s).1).1).1.2.2.2.2), .int ps, .int (nI ((mkV (mnx ib (mn a) (fun q => bk (128 * a + q)) S D) (bOf (mkL (mnx ib (mn a) (fun q => bk (128 * a + q)) S D) (fun q => bk (128 * a + q)) (mkK (mnx ib (mn a) (fun q => bk (128 * a + q)) S D) 8 s).1).2) (mkL (mnx ib (mn a) (fun q => bk (128 * a + q)) S D) (fun q => bk (128 * a + q)) (mkK (mnx ib (mn a) (fun q => bk (128 * a + q)) S D) 8 s).1).1).1.1)), .int ((mkV (mnx ib (mn a) (fun q => bk (128 * a + q)) S D) (bOf (mkL (mnx ib (mn a) (fun q => bk (128 * a + q)) S D) (fun q => bk (128 * a + q)) (mkK (mnx ib (mn a) (fun q => bk (128 * a + q)) S D) 8 s).1).2) (mkL (mnx ib (mn a) (fun q => bk (128 * a + q)) S D) (fun q => bk (128 * a + q)) (mkK (mnx ib (mn a) (fun q => bk (128 * a + q)) S D) 8 s).1).1).1.2.1), .int (nI (b2n (mkV (mnx ib (mn a) (fun q => bk (128 * a + q)) S D) (bOf (mkL (mnx ib (mn a) (fun q => bk (128 * a + q)) S D) (fun q => bk (128 * a + q)) (mkK (mnx ib (mn a) (fun q => bk (128 * a + q)) S D) 8 s).1).2) (mkL (mnx ib (mn a) (fun q => bk (128 * a + q)) S D) (fun q => bk (128 * a + q)) (mkK (mnx ib (mn a) (fun q => bk (128 * a + q)) S D) 8 s).1).1).1.2.2.1)), .long ((mkK (mnx ib (mn a) (fun q => bk (128 * a + q)) S D) 8 s).2), .long ((mkV (mnx ib (mn a) (fun q => bk (128 * a + q)) S D) (bOf (mkL (mnx ib (mn a) (fun q => bk (128 * a + q)) S D) (fun q => bk (128 * a + q)) (mkK (mnx ib (mn a) (fun q => bk (128 * a + q)) S D) 8 s).1).2) (mkL (mnx ib (mn a) (fun q => bk (128 * a + q)) S D) (fun q => bk (128 * a + q)) (mkK (mnx ib (mn a) (fun q => bk (128 * a + q)) S D) 8 s).1).1).2), .int (nI ((mkL (mnx ib (mn a) (fun q => bk (128 * a + q)) S D) (fun q => bk (128 * a + q)) (mkK (mnx ib (mn a) (fun q => bk (128 * a + q)) S D) 8 s).1).2)), .int (nI fn), .ref y13, .ref y14, .ref y15, .ref y16, .int (nI js), .ref y17, .int (nI (b2n ib))])), (y11, .inl (.int, 2176, .inl (fun q => nI (bk q)))), (y6, .inl (.int, 128, .inl S)), (y5, .inl (.int, 4096, .inl (fun q => nI (D q)))), (y10, .inl (.int, 17, .inl (fun q => nI (mn q))))] X d_MD_readEntry_26 (c_MD_readValue (s := (mkL (mnx ib (mn a) (fun q => bk (128 * a + q)) S D) (fun q => bk (128 * a + q)) (mkK (mnx ib (mn a) (fun q => bk (128 * a + q)) S D) 8 s).1).1) hst hn ha hmn hm1 hbk hs3 (mkL_ok hf2)) (hl_w 0 rfl hn) rfl rfl k_ml_MD_219 k_cd_MD_readValue k_in_MD k_im_MD_readValue k_se_MD_readValue ⟨by decide +kernel, by decide +kernel, (by decide +kernel : (parseMethodDescriptor y_MD_readValue.desc).map (fun d => d.parameters.length) = some 1)⟩ ⟨Nat.le_of_ble_eq_true rfl, Nat.le_of_ble_eq_true rfl⟩ ⟨Nat.le_of_ble_eq_true rfl, Nat.le_of_ble_eq_true rfl⟩ (Nat.le_of_ble_eq_true rfl) hn rfl rfl rfl hp_no hp_no2 ?_
      exact g_vret X hr d_MD_readEntry_29 (Nat.le_of_ble_eq_true rfl) (Nat.le_of_ble_eq_true rfl) (⟨rfl, by rw [hm9]⟩)

set_option maxRecDepth 100000 in
set_option maxHeartbeats 1000000 in
theorem c_MD_come {l : Launch} (hst : l.stackTraces = false) {h y1 y2 y3 y4 y5 y6 y7 y8 y9 y10 y11 y12 y13 y14 y15 y16 y17 M n u c pa el fn js : Nat} {th bd ck ps lc : Int32} {fb ib : Bool} {ek ev : Int64} {GK : Nat → Int64} {GV : Nat → Int64} {Gz : Nat → Nat} (hn : [h, y13, y14, y15].Nodup) {k v : Int64} {m : Nat} (hfn : fn < 500) : fh_C l fhCl fhT y_MD_come (.code y_MD_come b_MD_come 8 none) 0 0 [.ref h, .long k, .long v, .int (nI m)] (hp [(h, .inr (6, [.int th, .int (nI M), .int (nI n), .ref y1, .ref y2, .ref y3, .int (nI u), .ref y4, .ref y5, .ref y6, .ref y7, .int (nI c), .ref y8, .ref y9, .ref y10, .ref y11, .ref y12, .int bd, .int ck, .int ps, .int (nI pa), .int lc, .int (nI (b2n fb)), .long ek, .long ev, .int (nI el), .int (nI fn), .ref y13, .ref y14, .ref y15, .ref y16, .int (nI js), .ref y17, .int (nI (b2n ib))])), (y13, .inl (.long, 500, .inr (.inl GK))), (y14, .inl (.long, 500, .inr (.inl GV))), (y15, .inl (.int, 500, .inl (fun q => nI (Gz q))))]) (hp []) 0 0 (fh_ret none [(h, .inr (6, [.int th, .int (nI M), .int (nI n), .ref y1, .ref y2, .ref y3, .int (nI u), .ref y4, .ref y5, .ref y6, .ref y7, .int (nI c), .ref y8, .ref y9, .ref y10, .ref y11, .ref y12, .int bd, .int ck, .int ps, .int (nI pa), .int lc, .int (nI (b2n fb)), .long ek, .long ev, .int (nI el), .int (nI ((adm (GK, Gz, GV, fn) k m v).2.2.2)), .ref y13, .ref y14, .ref y15, .ref y16, .int (nI js), .ref y17, .int (nI (b2n ib))])), (y13, .inl (.long, 500, .inr (.inl ((adm (GK, Gz, GV, fn) k m v).1)))), (y14, .inl (.long, 500, .inr (.inl ((adm (GK, Gz, GV, fn) k m v).2.2.1)))), (y15, .inl (.int, 500, .inl (fun q => nI (((adm (GK, Gz, GV, fn) k m v).2.1) q))))]) := by
  refine fh_enter (by decide) hst (Nat.le_of_ble_eq_true rfl) ?_
  intro mD mp me sm mm margs mbel mmet mcod X hr hnm hno hf0
  show fh_G mp l me (fh_rm 0 0 0 0) sm mm margs mbel mmet mcod mD fhCl (hp [(h, .inr (6, [.int th, .int (nI M), .int (nI n), .ref y1, .ref y2, .ref y3, .int (nI u), .ref y4, .ref y5, .ref y6, .ref y7, .int (nI c), .ref y8, .ref y9, .ref y10, .ref y11, .ref y12, .int bd, .int ck, .int ps, .int (nI pa), .int lc, .int (nI (b2n fb)), .long ek, .long ev, .int (nI el), .int (nI fn), .ref y13, .ref y14, .ref y15, .ref y16, .int (nI js), .ref y17, .int (nI (b2n ib))])), (y13, .inl (.long, 500, .inr (.inl GK))), (y14, .inl (.long, 500, .inr (.inl GV))), (y15, .inl (.int, 500, .inl (fun q => nI (Gz q))))]) 8 _ 0 0 (hp [(h, .inr (6, [.int th, .int (nI M), .int (nI n), .ref y1, .ref y2, .ref y3, .int (nI u), .ref y4, .ref y5, .ref y6, .ref y7, .int (nI c), .ref y8, .ref y9, .ref y10, .ref y11, .ref y12, .int bd, .int ck, .int ps, .int (nI pa), .int lc, .int (nI (b2n fb)), .long ek, .long ev, .int (nI el), .int (nI fn), .ref y13, .ref y14, .ref y15, .ref y16, .int (nI js), .ref y17, .int (nI (b2n ib))])), (y13, .inl (.long, 500, .inr (.inl GK))), (y14, .inl (.long, 500, .inr (.inl GV))), (y15, .inl (.int, 500, .inl (fun q => nI (Gz q))))]) 0 [(0, .ref h), (1, .long k), (3, .long v), (5, .int (nI m))] []
  have hl9 := plc_le GK k fn
  refine g_iconst (nI 0) X d_MD_come_0 (by decide) ?_
  refine g_istore [(6, .int (nI 0)), (0, .ref h), (1, .long k), (3, .long v), (5, .int (nI m))] X d_MD_come_1 (by decide) rfl ?_
  have L3 : ∀ (fu3 : Nat) (j : Nat), (j ≤ fn) → (∀ i, i < j → GK i < k) → fn - j < fu3 → fh_G mp l me (fh_rm 0 0 0 0) sm mm margs mbel mmet mcod mD fhCl (hp [(h, .inr (6, [.int th, .int (nI M), .int (nI n), .ref y1, .ref y2, .ref y3, .int (nI u), .ref y4, .ref y5, .ref y6, .ref y7, .int (nI c), .ref y8, .ref y9, .ref y10, .ref y11, .ref y12, .int bd, .int ck, .int ps, .int (nI pa), .int lc, .int (nI (b2n fb)), .long ek, .long ev, .int (nI el), .int (nI fn), .ref y13, .ref y14, .ref y15, .ref y16, .int (nI js), .ref y17, .int (nI (b2n ib))])), (y13, .inl (.long, 500, .inr (.inl GK))), (y14, .inl (.long, 500, .inr (.inl GV))), (y15, .inl (.int, 500, .inl (fun q => nI (Gz q))))]) 8 (fh_MQ mbel mD fhCl (hp [(h, .inr (6, [.int th, .int (nI M), .int (nI n), .ref y1, .ref y2, .ref y3, .int (nI u), .ref y4, .ref y5, .ref y6, .ref y7, .int (nI c), .ref y8, .ref y9, .ref y10, .ref y11, .ref y12, .int bd, .int ck, .int ps, .int (nI pa), .int lc, .int (nI (b2n fb)), .long ek, .long ev, .int (nI el), .int (nI fn), .ref y13, .ref y14, .ref y15, .ref y16, .int (nI js), .ref y17, .int (nI (b2n ib))])), (y13, .inl (.long, 500, .inr (.inl GK))), (y14, .inl (.long, 500, .inr (.inl GV))), (y15, .inl (.int, 500, .inl (fun q => nI (Gz q))))]) (fh_ret none [(h, .inr (6, [.int th, .int (nI M), .int (nI n), .ref y1, .ref y2, .ref y3, .int (nI u), .ref y4, .ref y5, .ref y6, .ref y7, .int (nI c), .ref y8, .ref y9, .ref y10, .ref y11, .ref y12, .int bd, .int ck, .int ps, .int (nI pa), .int lc, .int (nI (b2n fb)), .long ek, .long ev, .int (nI el), .int (nI ((adm (GK, Gz, GV, fn) k m v).2.2.2)), .ref y13, .ref y14, .ref y15, .ref y16, .int (nI js), .ref y17, .int (nI (b2n ib))])), (y13, .inl (.long, 500, .inr (.inl ((adm (GK, Gz, GV, fn) k m v).1)))), (y14, .inl (.long, 500, .inr (.inl ((adm (GK, Gz, GV, fn) k m v).2.2.1)))), (y15, .inl (.int, 500, .inl (fun q => nI (((adm (GK, Gz, GV, fn) k m v).2.1) q))))]) margs sm 0 0) 0 0 (hp [(h, .inr (6, [.int th, .int (nI M), .int (nI n), .ref y1, .ref y2, .ref y3, .int (nI u), .ref y4, .ref y5, .ref y6, .ref y7, .int (nI c), .ref y8, .ref y9, .ref y10, .ref y11, .ref y12, .int bd, .int ck, .int ps, .int (nI pa), .int lc, .int (nI (b2n fb)), .long ek, .long ev, .int (nI el), .int (nI fn), .ref y13, .ref y14, .ref y15, .ref y16, .int (nI js), .ref y17, .int (nI (b2n ib))])), (y13, .inl (.long, 500, .inr (.inl GK))), (y14, .inl (.long, 500, .inr (.inl GV))), (y15, .inl (.int, 500, .inl (fun q => nI (Gz q))))]) 3 [(6, .int (nI j)), (0, .ref h), (1, .long k), (3, .long v), (5, .int (nI m))] [] := by
    intro fu3
    induction fu3 with
    | zero => intro j q1 q2 hm3; exact absurd hm3 (Nat.not_lt_zero _)
    | succ fu3 ih3 =>
      intro j q1 q2 hm3
      refine g_iload X d_MD_come_3 0 rfl ?_
      refine g_aload_n X d_MD_come_5 1 rfl ?_
      refine g_getf (k := 26) X d_MD_come_6 (hl_w 0 rfl hn) rfl i_MD (by decide) k_fl_MD_232 (fun _ h => h) rfl ?_
      refine g_icmp_ge 30 X d_MD_come_9 (by decide) (fun h9 => ?_) (fun h9 => ?_)
      · have h9 := cv_le (by omega) (by omega) h9
        have hp9 : plc GK k fn = j := plc_is q1 q2 (fun z => absurd z (by omega))
        refine g_lve (lv' := [(6, .int (nI (plc GK k fn))), (0, .ref h), (1, .long k), (3, .long v), (5, .int (nI m))]) (by rw [hp9]) ?_
        refine g_iload X d_MD_come_30 0 rfl ?_
        refine g_aload_n X d_MD_come_32 1 rfl ?_
        refine g_getf (k := 26) X d_MD_come_33 (hl_w 0 rfl hn) rfl i_MD (by decide) k_fl_MD_232 (fun _ h => h) rfl ?_
        refine g_icmp_ge 52 X d_MD_come_36 (by decide) (fun h36 => ?_) (fun h36 => ?_)
        · have h36 := cv_le (by omega) (by omega) h36
          have hf : ¬ (plc GK k fn < fn ∧ GK (plc GK k fn) = k) := fun z => absurd z.1 (by omega)
          refine g_aload_n X d_MD_come_52 1 rfl ?_
          refine g_getf (k := 26) X d_MD_come_53 (hl_w 0 rfl hn) rfl i_MD (by decide) k_fl_MD_232 (fun _ h => h) rfl ?_
          refine g_hp (ws' := [(h, .inr (6, [.int th, .int (nI M), .int (nI n), .ref y1, .ref y2, .ref y3, .int (nI u), .ref y4, .ref y5, .ref y6, .ref y7, .int (nI c), .ref y8, .ref y9, .ref y10, .ref y11, .ref y12, .int bd, .int ck, .int ps, .int (nI pa), .int lc, .int (nI (b2n fb)), .long ek, .long ev, .int (nI el), .int (nI fn), .ref y13, .ref y14, .ref y15, .ref y16, .int (nI js), .ref y17, .int (nI (b2n ib))])), (y13, .inl (.long, 500, .inr (.inl (shf GK fn fn)))), (y14, .inl (.long, 500, .inr (.inl (shf GV fn fn)))), (y15, .inl (.int, 500, .inl (fun q => nI (((shf Gz fn fn)) q))))]) (by rw [shf_0, shf_0, shf_0]) ?_
          refine g_istore [(7, .int (nI fn)), (6, .int (nI (plc GK k fn))), (0, .ref h), (1, .long k), (3, .long v), (5, .int (nI m))] X d_MD_come_56 (by decide) rfl ?_
          have L58 : ∀ (fu58 : Nat) (j9 : Nat), (j9 ≤ fn) → (plc GK k fn ≤ j9) → j9 < fu58 → fh_G mp l me (fh_rm 0 0 0 0) sm mm margs mbel mmet mcod mD fhCl (hp [(h, .inr (6, [.int th, .int (nI M), .int (nI n), .ref y1, .ref y2, .ref y3, .int (nI u), .ref y4, .ref y5, .ref y6, .ref y7, .int (nI c), .ref y8, .ref y9, .ref y10, .ref y11, .ref y12, .int bd, .int ck, .int ps, .int (nI pa), .int lc, .int (nI (b2n fb)), .long ek, .long ev, .int (nI el), .int (nI fn), .ref y13, .ref y14, .ref y15, .ref y16, .int (nI js), .ref y17, .int (nI (b2n ib))])), (y13, .inl (.long, 500, .inr (.inl GK))), (y14, .inl (.long, 500, .inr (.inl GV))), (y15, .inl (.int, 500, .inl (fun q => nI (Gz q))))]) 8 (fh_MQ mbel mD fhCl (hp [(h, .inr (6, [.int th, .int (nI M), .int (nI n), .ref y1, .ref y2, .ref y3, .int (nI u), .ref y4, .ref y5, .ref y6, .ref y7, .int (nI c), .ref y8, .ref y9, .ref y10, .ref y11, .ref y12, .int bd, .int ck, .int ps, .int (nI pa), .int lc, .int (nI (b2n fb)), .long ek, .long ev, .int (nI el), .int (nI fn), .ref y13, .ref y14, .ref y15, .ref y16, .int (nI js), .ref y17, .int (nI (b2n ib))])), (y13, .inl (.long, 500, .inr (.inl GK))), (y14, .inl (.long, 500, .inr (.inl GV))), (y15, .inl (.int, 500, .inl (fun q => nI (Gz q))))]) (fh_ret none [(h, .inr (6, [.int th, .int (nI M), .int (nI n), .ref y1, .ref y2, .ref y3, .int (nI u), .ref y4, .ref y5, .ref y6, .ref y7, .int (nI c), .ref y8, .ref y9, .ref y10, .ref y11, .ref y12, .int bd, .int ck, .int ps, .int (nI pa), .int lc, .int (nI (b2n fb)), .long ek, .long ev, .int (nI el), .int (nI ((adm (GK, Gz, GV, fn) k m v).2.2.2)), .ref y13, .ref y14, .ref y15, .ref y16, .int (nI js), .ref y17, .int (nI (b2n ib))])), (y13, .inl (.long, 500, .inr (.inl ((adm (GK, Gz, GV, fn) k m v).1)))), (y14, .inl (.long, 500, .inr (.inl ((adm (GK, Gz, GV, fn) k m v).2.2.1)))), (y15, .inl (.int, 500, .inl (fun q => nI (((adm (GK, Gz, GV, fn) k m v).2.1) q))))]) margs sm 0 0) 0 0 (hp [(h, .inr (6, [.int th, .int (nI M), .int (nI n), .ref y1, .ref y2, .ref y3, .int (nI u), .ref y4, .ref y5, .ref y6, .ref y7, .int (nI c), .ref y8, .ref y9, .ref y10, .ref y11, .ref y12, .int bd, .int ck, .int ps, .int (nI pa), .int lc, .int (nI (b2n fb)), .long ek, .long ev, .int (nI el), .int (nI fn), .ref y13, .ref y14, .ref y15, .ref y16, .int (nI js), .ref y17, .int (nI (b2n ib))])), (y13, .inl (.long, 500, .inr (.inl (shf GK fn j9)))), (y14, .inl (.long, 500, .inr (.inl (shf GV fn j9)))), (y15, .inl (.int, 500, .inl (fun q => nI (((shf Gz fn j9)) q))))]) 58 [(7, .int (nI j9)), (6, .int (nI (plc GK k fn))), (0, .ref h), (1, .long k), (3, .long v), (5, .int (nI m))] [] := by
            intro fu58
            induction fu58 with
            | zero => intro j9 q3 q4 hm58; exact absurd hm58 (Nat.not_lt_zero _)
            | succ fu58 ih58 =>
              intro j9 q3 q4 hm58
              refine g_iload X d_MD_come_58 0 rfl ?_
              refine g_iload X d_MD_come_60 1 rfl ?_
              refine g_icmp_le 119 X d_MD_come_62 (by decide) (fun h62 => ?_) (fun h62 => ?_)
              · have h62 := cv_le (by omega) (by omega) h62
                have e8 : j9 = plc GK k fn := by omega
                refine g_hp (ws' := [(h, .inr (6, [.int th, .int (nI M), .int (nI n), .ref y1, .ref y2, .ref y3, .int (nI u), .ref y4, .ref y5, .ref y6, .ref y7, .int (nI c), .ref y8, .ref y9, .ref y10, .ref y11, .ref y12, .int bd, .int ck, .int ps, .int (nI pa), .int lc, .int (nI (b2n fb)), .long ek, .long ev, .int (nI el), .int (nI fn), .ref y13, .ref y14, .ref y15, .ref y16, .int (nI js), .ref y17, .int (nI (b2n ib))])), (y13, .inl (.long, 500, .inr (.inl (shf GK fn (plc GK k fn))))), (y14, .inl (.long, 500, .inr (.inl (shf GV fn (plc GK k fn))))), (y15, .inl (.int, 500, .inl (fun q => nI (((shf Gz fn (plc GK k fn))) q))))]) (by rw [e8]) ?_
                refine g_aload_n X d_MD_come_119 2 rfl ?_
                refine g_getf (k := 27) X d_MD_come_120 (hl_w 0 rfl hn) rfl i_MD (by decide) k_fl_MD_52 (fun _ h => h) rfl ?_
                refine g_iload X d_MD_come_123 1 rfl ?_
                refine g_lload_n X d_MD_come_125 3 rfl ?_
                refine h_last 1 [(h, .inr (6, [.int th, .int (nI M), .int (nI n), .ref y1, .ref y2, .ref y3, .int (nI u), .ref y4, .ref y5, .ref y6, .ref y7, .int (nI c), .ref y8, .ref y9, .ref y10, .ref y11, .ref y12, .int bd, .int ck, .int ps, .int (nI pa), .int lc, .int (nI (b2n fb)), .long ek, .long ev, .int (nI el), .int (nI fn), .ref y13, .ref y14, .ref y15, .ref y16, .int (nI js), .ref y17, .int (nI (b2n ib))])), (y13, .inl (.long, 500, .inr (.inl (va_up (shf GK fn (plc GK k fn)) (plc GK k fn) k)))), (y14, .inl (.long, 500, .inr (.inl (shf GV fn (plc GK k fn))))), (y15, .inl (.int, 500, .inl (fun q => nI (((shf Gz fn (plc GK k fn))) q))))] X d_MD_come_126 hn rfl (by omega) (by omega) rfl ?_
                refine g_aload_n X d_MD_come_127 2 rfl ?_
                refine g_getf (k := 28) X d_MD_come_128 (hl_w 0 rfl hn) rfl i_MD (by decide) k_fl_MD_55 (fun _ h => h) rfl ?_
                refine g_iload X d_MD_come_131 1 rfl ?_
                refine g_lload_n X d_MD_come_133 4 rfl ?_
                refine h_last 2 [(h, .inr (6, [.int th, .int (nI M), .int (nI n), .ref y1, .ref y2, .ref y3, .int (nI u), .ref y4, .ref y5, .ref y6, .ref y7, .int (nI c), .ref y8, .ref y9, .ref y10, .ref y11, .ref y12, .int bd, .int ck, .int ps, .int (nI pa), .int lc, .int (nI (b2n fb)), .long ek, .long ev, .int (nI el), .int (nI fn), .ref y13, .ref y14, .ref y15, .ref y16, .int (nI js), .ref y17, .int (nI (b2n ib))])), (y13, .inl (.long, 500, .inr (.inl (va_up (shf GK fn (plc GK k fn)) (plc GK k fn) k)))), (y14, .inl (.long, 500, .inr (.inl (va_up (shf GV fn (plc GK k fn)) (plc GK k fn) v)))), (y15, .inl (.int, 500, .inl (fun q => nI (((shf Gz fn (plc GK k fn))) q))))] X d_MD_come_134 hn rfl (by omega) (by omega) rfl ?_
                refine g_aload_n X d_MD_come_135 2 rfl ?_
                refine g_getf (k := 29) X d_MD_come_136 (hl_w 0 rfl hn) rfl i_MD (by decide) k_fl_MD_58 (fun _ h => h) rfl ?_
                refine g_iload X d_MD_come_139 1 rfl ?_
                refine g_iload X d_MD_come_141 5 rfl ?_
                refine h_iastN 3 [(h, .inr (6, [.int th, .int (nI M), .int (nI n), .ref y1, .ref y2, .ref y3, .int (nI u), .ref y4, .ref y5, .ref y6, .ref y7, .int (nI c), .ref y8, .ref y9, .ref y10, .ref y11, .ref y12, .int bd, .int ck, .int ps, .int (nI pa), .int lc, .int (nI (b2n fb)), .long ek, .long ev, .int (nI el), .int (nI fn), .ref y13, .ref y14, .ref y15, .ref y16, .int (nI js), .ref y17, .int (nI (b2n ib))])), (y13, .inl (.long, 500, .inr (.inl (va_up (shf GK fn (plc GK k fn)) (plc GK k fn) k)))), (y14, .inl (.long, 500, .inr (.inl (va_up (shf GV fn (plc GK k fn)) (plc GK k fn) v)))), (y15, .inl (.int, 500, .inl (fun q => nI ((va_up (shf Gz fn (plc GK k fn)) (plc GK k fn) m) q))))] X d_MD_come_143 hn rfl (by omega) (by omega) rfl ?_
                refine g_aload_n X d_MD_come_144 2 rfl ?_
                refine g_dup X d_MD_come_145 rfl ?_
                refine g_getf (k := 26) X d_MD_come_146 (hl_w 0 rfl hn) rfl i_MD (by decide) k_fl_MD_232 (fun _ h => h) rfl ?_
                refine g_iconst (nI 1) X d_MD_come_149 (by decide) ?_
                refine g_iadd X d_MD_come_150 ?_
                refine g_vi (nI (fn + 1)) (nI_add _ _) ?_
                refine h_putf (k := 26) (ty := .int) 0 [(h, .inr (6, [.int th, .int (nI M), .int (nI n), .ref y1, .ref y2, .ref y3, .int (nI u), .ref y4, .ref y5, .ref y6, .ref y7, .int (nI c), .ref y8, .ref y9, .ref y10, .ref y11, .ref y12, .int bd, .int ck, .int ps, .int (nI pa), .int lc, .int (nI (b2n fb)), .long ek, .long ev, .int (nI el), .int (nI (fn + 1)), .ref y13, .ref y14, .ref y15, .ref y16, .int (nI js), .ref y17, .int (nI (b2n ib))])), (y13, .inl (.long, 500, .inr (.inl (va_up (shf GK fn (plc GK k fn)) (plc GK k fn) k)))), (y14, .inl (.long, 500, .inr (.inl (va_up (shf GV fn (plc GK k fn)) (plc GK k fn) v)))), (y15, .inl (.int, 500, .inl (fun q => nI ((va_up (shf Gz fn (plc GK k fn)) (plc GK k fn) m) q))))] X d_MD_come_151 hn rfl rfl i_MD t_MD t_MD_ok n_MD (by decide) k_fl_MD_232 (fun _ h => h) rfl (by decide +kernel) rfl rfl (Nat.le_of_ble_eq_true rfl) rfl ?_
                exact g_vret X hr d_MD_come_154 (Nat.le_of_ble_eq_true rfl) (Nat.le_of_ble_eq_true rfl) (⟨rfl, by rw [adm_shf hf]⟩)
              · have h62 := cv_nle (by omega) (by omega) h62
                obtain ⟨j2, e8⟩ : ∃ j2, j9 = j2 + 1 := ⟨j9 - 1, by omega⟩
                subst e8
                refine g_aload_n X d_MD_come_65 2 rfl ?_
                refine g_getf (k := 27) X d_MD_come_66 (hl_w 0 rfl hn) rfl i_MD (by decide) k_fl_MD_52 (fun _ h => h) rfl ?_
                refine g_iload X d_MD_come_69 0 rfl ?_
                refine g_aload_n X d_MD_come_71 2 rfl ?_
                refine g_getf (k := 27) X d_MD_come_72 (hl_w 0 rfl hn) rfl i_MD (by decide) k_fl_MD_52 (fun _ h => h) rfl ?_
                refine g_iload X d_MD_come_75 0 rfl ?_
                refine g_iconst (nI 1) X d_MD_come_77 (by decide) ?_
                refine g_isub X d_MD_come_78 ?_
                refine g_vi (nI j2) (pk_sub (by omega)) ?_
                refine h_lald X d_MD_come_79 (hl_w 1 rfl hn) (by omega) (by omega) ?_
                refine h_last 1 [(h, .inr (6, [.int th, .int (nI M), .int (nI n), .ref y1, .ref y2, .ref y3, .int (nI u), .ref y4, .ref y5, .ref y6, .ref y7, .int (nI c), .ref y8, .ref y9, .ref y10, .ref y11, .ref y12, .int bd, .int ck, .int ps, .int (nI pa), .int lc, .int (nI (b2n fb)), .long ek, .long ev, .int (nI el), .int (nI fn), .ref y13, .ref y14, .ref y15, .ref y16, .int (nI js), .ref y17, .int (nI (b2n ib))])), (y13, .inl (.long, 500, .inr (.inl (va_up (shf GK fn (j2 + 1)) (j2 + 1) ((shf GK fn (j2 + 1)) j2))))), (y14, .inl (.long, 500, .inr (.inl (shf GV fn (j2 + 1))))), (y15, .inl (.int, 500, .inl (fun q => nI (((shf Gz fn (j2 + 1))) q))))] X d_MD_come_80 hn rfl (by omega) (by omega) rfl ?_
                refine g_aload_n X d_MD_come_81 2 rfl ?_
                refine g_getf (k := 28) X d_MD_come_82 (hl_w 0 rfl hn) rfl i_MD (by decide) k_fl_MD_55 (fun _ h => h) rfl ?_
                refine g_iload X d_MD_come_85 0 rfl ?_
                refine g_aload_n X d_MD_come_87 2 rfl ?_
                refine g_getf (k := 28) X d_MD_come_88 (hl_w 0 rfl hn) rfl i_MD (by decide) k_fl_MD_55 (fun _ h => h) rfl ?_
                refine g_iload X d_MD_come_91 0 rfl ?_
                refine g_iconst (nI 1) X d_MD_come_93 (by decide) ?_
                refine g_isub X d_MD_come_94 ?_
                refine g_vi (nI j2) (pk_sub (by omega)) ?_
                refine h_lald X d_MD_come_95 (hl_w 2 rfl hn) (by omega) (by omega) ?_
                refine h_last 2 [(h, .inr (6, [.int th, .int (nI M), .int (nI n), .ref y1, .ref y2, .ref y3, .int (nI u), .ref y4, .ref y5, .ref y6, .ref y7, .int (nI c), .ref y8, .ref y9, .ref y10, .ref y11, .ref y12, .int bd, .int ck, .int ps, .int (nI pa), .int lc, .int (nI (b2n fb)), .long ek, .long ev, .int (nI el), .int (nI fn), .ref y13, .ref y14, .ref y15, .ref y16, .int (nI js), .ref y17, .int (nI (b2n ib))])), (y13, .inl (.long, 500, .inr (.inl (va_up (shf GK fn (j2 + 1)) (j2 + 1) ((shf GK fn (j2 + 1)) j2))))), (y14, .inl (.long, 500, .inr (.inl (va_up (shf GV fn (j2 + 1)) (j2 + 1) ((shf GV fn (j2 + 1)) j2))))), (y15, .inl (.int, 500, .inl (fun q => nI (((shf Gz fn (j2 + 1))) q))))] X d_MD_come_96 hn rfl (by omega) (by omega) rfl ?_
                refine g_aload_n X d_MD_come_97 2 rfl ?_
                refine g_getf (k := 29) X d_MD_come_98 (hl_w 0 rfl hn) rfl i_MD (by decide) k_fl_MD_58 (fun _ h => h) rfl ?_
                refine g_iload X d_MD_come_101 0 rfl ?_
                refine g_aload_n X d_MD_come_103 2 rfl ?_
                refine g_getf (k := 29) X d_MD_come_104 (hl_w 0 rfl hn) rfl i_MD (by decide) k_fl_MD_58 (fun _ h => h) rfl ?_
                refine g_iload X d_MD_come_107 0 rfl ?_
                refine g_iconst (nI 1) X d_MD_come_109 (by decide) ?_
                refine g_isub X d_MD_come_110 ?_
                refine g_vi (nI j2) (pk_sub (by omega)) ?_
                refine h_iald X d_MD_come_111 (hl_w 3 rfl hn) (by omega) (by omega) ?_
                refine h_iastN 3 [(h, .inr (6, [.int th, .int (nI M), .int (nI n), .ref y1, .ref y2, .ref y3, .int (nI u), .ref y4, .ref y5, .ref y6, .ref y7, .int (nI c), .ref y8, .ref y9, .ref y10, .ref y11, .ref y12, .int bd, .int ck, .int ps, .int (nI pa), .int lc, .int (nI (b2n fb)), .long ek, .long ev, .int (nI el), .int (nI fn), .ref y13, .ref y14, .ref y15, .ref y16, .int (nI js), .ref y17, .int (nI (b2n ib))])), (y13, .inl (.long, 500, .inr (.inl (va_up (shf GK fn (j2 + 1)) (j2 + 1) ((shf GK fn (j2 + 1)) j2))))), (y14, .inl (.long, 500, .inr (.inl (va_up (shf GV fn (j2 + 1)) (j2 + 1) ((shf GV fn (j2 + 1)) j2))))), (y15, .inl (.int, 500, .inl (fun q => nI ((va_up (shf Gz fn (j2 + 1)) (j2 + 1) ((shf Gz fn (j2 + 1)) j2)) q))))] X d_MD_come_112 hn rfl (by omega) (by omega) rfl ?_
                refine g_iinc (nI j2) 0 [(7, .int (nI j2)), (6, .int (nI (plc GK k fn))), (0, .ref h), (1, .long k), (3, .long v), (5, .int (nI m))] X d_MD_come_113 rfl (pk_m1 _) (by decide) rfl ?_
                refine g_goto 58 X d_MD_come_116 (by decide) ?_
                refine g_hp (ws' := [(h, .inr (6, [.int th, .int (nI M), .int (nI n), .ref y1, .ref y2, .ref y3, .int (nI u), .ref y4, .ref y5, .ref y6, .ref y7, .int (nI c), .ref y8, .ref y9, .ref y10, .ref y11, .ref y12, .int bd, .int ck, .int ps, .int (nI pa), .int lc, .int (nI (b2n fb)), .long ek, .long ev, .int (nI el), .int (nI fn), .ref y13, .ref y14, .ref y15, .ref y16, .int (nI js), .ref y17, .int (nI (b2n ib))])), (y13, .inl (.long, 500, .inr (.inl (shf GK fn j2)))), (y14, .inl (.long, 500, .inr (.inl (shf GV fn j2)))), (y15, .inl (.int, 500, .inl (fun q => nI (((shf Gz fn j2)) q))))]) (by rw [← shf_s GK (show j2 + 1 ≤ fn by omega), ← shf_s GV (show j2 + 1 ≤ fn by omega), ← shf_s Gz (show j2 + 1 ≤ fn by omega), shf_low, shf_low, shf_low]) ?_
                exact ih58 j2 (by omega) (by omega) (by omega)
          exact L58 _ fn (Nat.le_refl _) hl9 (Nat.lt_succ_self _)
        · have h36 := cv_nle (by omega) (by omega) h36
          refine g_aload_n X d_MD_come_39 1 rfl ?_
          refine g_getf (k := 27) X d_MD_come_40 (hl_w 0 rfl hn) rfl i_MD (by decide) k_fl_MD_52 (fun _ h => h) rfl ?_
          refine g_iload X d_MD_come_43 0 rfl ?_
          refine h_lald X d_MD_come_45 (hl_w 1 rfl hn) (by omega) (by omega) ?_
          refine g_lload_n X d_MD_come_46 2 rfl ?_
          refine g_lcmp X d_MD_come_47 ?_
          refine g_if_ne 52 X d_MD_come_48 (by decide) (fun h48 => ?_) (fun h48 => ?_)
          · have h48 := fun z => h48 ((lg_cmp_eq (GK (plc GK k fn)) k).mpr z)
            have hf : ¬ (plc GK k fn < fn ∧ GK (plc GK k fn) = k) := fun z => h48 z.2
            refine g_aload_n X d_MD_come_52 1 rfl ?_
            refine g_getf (k := 26) X d_MD_come_53 (hl_w 0 rfl hn) rfl i_MD (by decide) k_fl_MD_232 (fun _ h => h) rfl ?_
            refine g_hp (ws' := [(h, .inr (6, [.int th, .int (nI M), .int (nI n), .ref y1, .ref y2, .ref y3, .int (nI u), .ref y4, .ref y5, .ref y6, .ref y7, .int (nI c), .ref y8, .ref y9, .ref y10, .ref y11, .ref y12, .int bd, .int ck, .int ps, .int (nI pa), .int lc, .int (nI (b2n fb)), .long ek, .long ev, .int (nI el), .int (nI fn), .ref y13, .ref y14, .ref y15, .ref y16, .int (nI js), .ref y17, .int (nI (b2n ib))])), (y13, .inl (.long, 500, .inr (.inl (shf GK fn fn)))), (y14, .inl (.long, 500, .inr (.inl (shf GV fn fn)))), (y15, .inl (.int, 500, .inl (fun q => nI (((shf Gz fn fn)) q))))]) (by rw [shf_0, shf_0, shf_0]) ?_
            refine g_istore [(7, .int (nI fn)), (6, .int (nI (plc GK k fn))), (0, .ref h), (1, .long k), (3, .long v), (5, .int (nI m))] X d_MD_come_56 (by decide) rfl ?_
            have L58 : ∀ (fu58 : Nat) (j9 : Nat), (j9 ≤ fn) → (plc GK k fn ≤ j9) → j9 < fu58 → fh_G mp l me (fh_rm 0 0 0 0) sm mm margs mbel mmet mcod mD fhCl (hp [(h, .inr (6, [.int th, .int (nI M), .int (nI n), .ref y1, .ref y2, .ref y3, .int (nI u), .ref y4, .ref y5, .ref y6, .ref y7, .int (nI c), .ref y8, .ref y9, .ref y10, .ref y11, .ref y12, .int bd, .int ck, .int ps, .int (nI pa), .int lc, .int (nI (b2n fb)), .long ek, .long ev, .int (nI el), .int (nI fn), .ref y13, .ref y14, .ref y15, .ref y16, .int (nI js), .ref y17, .int (nI (b2n ib))])), (y13, .inl (.long, 500, .inr (.inl GK))), (y14, .inl (.long, 500, .inr (.inl GV))), (y15, .inl (.int, 500, .inl (fun q => nI (Gz q))))]) 8 (fh_MQ mbel mD fhCl (hp [(h, .inr (6, [.int th, .int (nI M), .int (nI n), .ref y1, .ref y2, .ref y3, .int (nI u), .ref y4, .ref y5, .ref y6, .ref y7, .int (nI c), .ref y8, .ref y9, .ref y10, .ref y11, .ref y12, .int bd, .int ck, .int ps, .int (nI pa), .int lc, .int (nI (b2n fb)), .long ek, .long ev, .int (nI el), .int (nI fn), .ref y13, .ref y14, .ref y15, .ref y16, .int (nI js), .ref y17, .int (nI (b2n ib))])), (y13, .inl (.long, 500, .inr (.inl GK))), (y14, .inl (.long, 500, .inr (.inl GV))), (y15, .inl (.int, 500, .inl (fun q => nI (Gz q))))]) (fh_ret none [(h, .inr (6, [.int th, .int (nI M), .int (nI n), .ref y1, .ref y2, .ref y3, .int (nI u), .ref y4, .ref y5, .ref y6, .ref y7, .int (nI c), .ref y8, .ref y9, .ref y10, .ref y11, .ref y12, .int bd, .int ck, .int ps, .int (nI pa), .int lc, .int (nI (b2n fb)), .long ek, .long ev, .int (nI el), .int (nI ((adm (GK, Gz, GV, fn) k m v).2.2.2)), .ref y13, .ref y14, .ref y15, .ref y16, .int (nI js), .ref y17, .int (nI (b2n ib))])), (y13, .inl (.long, 500, .inr (.inl ((adm (GK, Gz, GV, fn) k m v).1)))), (y14, .inl (.long, 500, .inr (.inl ((adm (GK, Gz, GV, fn) k m v).2.2.1)))), (y15, .inl (.int, 500, .inl (fun q => nI (((adm (GK, Gz, GV, fn) k m v).2.1) q))))]) margs sm 0 0) 0 0 (hp [(h, .inr (6, [.int th, .int (nI M), .int (nI n), .ref y1, .ref y2, .ref y3, .int (nI u), .ref y4, .ref y5, .ref y6, .ref y7, .int (nI c), .ref y8, .ref y9, .ref y10, .ref y11, .ref y12, .int bd, .int ck, .int ps, .int (nI pa), .int lc, .int (nI (b2n fb)), .long ek, .long ev, .int (nI el), .int (nI fn), .ref y13, .ref y14, .ref y15, .ref y16, .int (nI js), .ref y17, .int (nI (b2n ib))])), (y13, .inl (.long, 500, .inr (.inl (shf GK fn j9)))), (y14, .inl (.long, 500, .inr (.inl (shf GV fn j9)))), (y15, .inl (.int, 500, .inl (fun q => nI (((shf Gz fn j9)) q))))]) 58 [(7, .int (nI j9)), (6, .int (nI (plc GK k fn))), (0, .ref h), (1, .long k), (3, .long v), (5, .int (nI m))] [] := by
              intro fu58
              induction fu58 with
              | zero => intro j9 q3 q4 hm58; exact absurd hm58 (Nat.not_lt_zero _)
              | succ fu58 ih58 =>
                intro j9 q3 q4 hm58
                refine g_iload X d_MD_come_58 0 rfl ?_
                refine g_iload X d_MD_come_60 1 rfl ?_
                refine g_icmp_le 119 X d_MD_come_62 (by decide) (fun h62 => ?_) (fun h62 => ?_)
                · have h62 := cv_le (by omega) (by omega) h62
                  have e8 : j9 = plc GK k fn := by omega
                  refine g_hp (ws' := [(h, .inr (6, [.int th, .int (nI M), .int (nI n), .ref y1, .ref y2, .ref y3, .int (nI u), .ref y4, .ref y5, .ref y6, .ref y7, .int (nI c), .ref y8, .ref y9, .ref y10, .ref y11, .ref y12, .int bd, .int ck, .int ps, .int (nI pa), .int lc, .int (nI (b2n fb)), .long ek, .long ev, .int (nI el), .int (nI fn), .ref y13, .ref y14, .ref y15, .ref y16, .int (nI js), .ref y17, .int (nI (b2n ib))])), (y13, .inl (.long, 500, .inr (.inl (shf GK fn (plc GK k fn))))), (y14, .inl (.long, 500, .inr (.inl (shf GV fn (plc GK k fn))))), (y15, .inl (.int, 500, .inl (fun q => nI (((shf Gz fn (plc GK k fn))) q))))]) (by rw [e8]) ?_
                  refine g_aload_n X d_MD_come_119 2 rfl ?_
                  refine g_getf (k := 27) X d_MD_come_120 (hl_w 0 rfl hn) rfl i_MD (by decide) k_fl_MD_52 (fun _ h => h) rfl ?_
                  refine g_iload X d_MD_come_123 1 rfl ?_
                  refine g_lload_n X d_MD_come_125 3 rfl ?_
                  refine h_last 1 [(h, .inr (6, [.int th, .int (nI M), .int (nI n), .ref y1, .ref y2, .ref y3, .int (nI u), .ref y4, .ref y5, .ref y6, .ref y7, .int (nI c), .ref y8, .ref y9, .ref y10, .ref y11, .ref y12, .int bd, .int ck, .int ps, .int (nI pa), .int lc, .int (nI (b2n fb)), .long ek, .long ev, .int (nI el), .int (nI fn), .ref y13, .ref y14, .ref y15, .ref y16, .int (nI js), .ref y17, .int (nI (b2n ib))])), (y13, .inl (.long, 500, .inr (.inl (va_up (shf GK fn (plc GK k fn)) (plc GK k fn) k)))), (y14, .inl (.long, 500, .inr (.inl (shf GV fn (plc GK k fn))))), (y15, .inl (.int, 500, .inl (fun q => nI (((shf Gz fn (plc GK k fn))) q))))] X d_MD_come_126 hn rfl (by omega) (by omega) rfl ?_
                  refine g_aload_n X d_MD_come_127 2 rfl ?_
                  refine g_getf (k := 28) X d_MD_come_128 (hl_w 0 rfl hn) rfl i_MD (by decide) k_fl_MD_55 (fun _ h => h) rfl ?_
                  refine g_iload X d_MD_come_131 1 rfl ?_
                  refine g_lload_n X d_MD_come_133 4 rfl ?_
                  refine h_last 2 [(h, .inr (6, [.int th, .int (nI M), .int (nI n), .ref y1, .ref y2, .ref y3, .int (nI u), .ref y4, .ref y5, .ref y6, .ref y7, .int (nI c), .ref y8, .ref y9, .ref y10, .ref y11, .ref y12, .int bd, .int ck, .int ps, .int (nI pa), .int lc, .int (nI (b2n fb)), .long ek, .long ev, .int (nI el), .int (nI fn), .ref y13, .ref y14, .ref y15, .ref y16, .int (nI js), .ref y17, .int (nI (b2n ib))])), (y13, .inl (.long, 500, .inr (.inl (va_up (shf GK fn (plc GK k fn)) (plc GK k fn) k)))), (y14, .inl (.long, 500, .inr (.inl (va_up (shf GV fn (plc GK k fn)) (plc GK k fn) v)))), (y15, .inl (.int, 500, .inl (fun q => nI (((shf Gz fn (plc GK k fn))) q))))] X d_MD_come_134 hn rfl (by omega) (by omega) rfl ?_
                  refine g_aload_n X d_MD_come_135 2 rfl ?_
                  refine g_getf (k := 29) X d_MD_come_136 (hl_w 0 rfl hn) rfl i_MD (by decide) k_fl_MD_58 (fun _ h => h) rfl ?_
                  refine g_iload X d_MD_come_139 1 rfl ?_
                  refine g_iload X d_MD_come_141 5 rfl ?_
                  refine h_iastN 3 [(h, .inr (6, [.int th, .int (nI M), .int (nI n), .ref y1, .ref y2, .ref y3, .int (nI u), .ref y4, .ref y5, .ref y6, .ref y7, .int (nI c), .ref y8, .ref y9, .ref y10, .ref y11, .ref y12, .int bd, .int ck, .int ps, .int (nI pa), .int lc, .int (nI (b2n fb)), .long ek, .long ev, .int (nI el), .int (nI fn), .ref y13, .ref y14, .ref y15, .ref y16, .int (nI js), .ref y17, .int (nI (b2n ib))])), (y13, .inl (.long, 500, .inr (.inl (va_up (shf GK fn (plc GK k fn)) (plc GK k fn) k)))), (y14, .inl (.long, 500, .inr (.inl (va_up (shf GV fn (plc GK k fn)) (plc GK k fn) v)))), (y15, .inl (.int, 500, .inl (fun q => nI ((va_up (shf Gz fn (plc GK k fn)) (plc GK k fn) m) q))))] X d_MD_come_143 hn rfl (by omega) (by omega) rfl ?_
                  refine g_aload_n X d_MD_come_144 2 rfl ?_
                  refine g_dup X d_MD_come_145 rfl ?_
                  refine g_getf (k := 26) X d_MD_come_146 (hl_w 0 rfl hn) rfl i_MD (by decide) k_fl_MD_232 (fun _ h => h) rfl ?_
                  refine g_iconst (nI 1) X d_MD_come_149 (by decide) ?_
                  refine g_iadd X d_MD_come_150 ?_
                  refine g_vi (nI (fn + 1)) (nI_add _ _) ?_
                  refine h_putf (k := 26) (ty := .int) 0 [(h, .inr (6, [.int th, .int (nI M), .int (nI n), .ref y1, .ref y2, .ref y3, .int (nI u), .ref y4, .ref y5, .ref y6, .ref y7, .int (nI c), .ref y8, .ref y9, .ref y10, .ref y11, .ref y12, .int bd, .int ck, .int ps, .int (nI pa), .int lc, .int (nI (b2n fb)), .long ek, .long ev, .int (nI el), .int (nI (fn + 1)), .ref y13, .ref y14, .ref y15, .ref y16, .int (nI js), .ref y17, .int (nI (b2n ib))])), (y13, .inl (.long, 500, .inr (.inl (va_up (shf GK fn (plc GK k fn)) (plc GK k fn) k)))), (y14, .inl (.long, 500, .inr (.inl (va_up (shf GV fn (plc GK k fn)) (plc GK k fn) v)))), (y15, .inl (.int, 500, .inl (fun q => nI ((va_up (shf Gz fn (plc GK k fn)) (plc GK k fn) m) q))))] X d_MD_come_151 hn rfl rfl i_MD t_MD t_MD_ok n_MD (by decide) k_fl_MD_232 (fun _ h => h) rfl (by decide +kernel) rfl rfl (Nat.le_of_ble_eq_true rfl) rfl ?_
                  exact g_vret X hr d_MD_come_154 (Nat.le_of_ble_eq_true rfl) (Nat.le_of_ble_eq_true rfl) (⟨rfl, by rw [adm_shf hf]⟩)
                · have h62 := cv_nle (by omega) (by omega) h62
                  obtain ⟨j2, e8⟩ : ∃ j2, j9 = j2 + 1 := ⟨j9 - 1, by omega⟩
                  subst e8
                  refine g_aload_n X d_MD_come_65 2 rfl ?_
                  refine g_getf (k := 27) X d_MD_come_66 (hl_w 0 rfl hn) rfl i_MD (by decide) k_fl_MD_52 (fun _ h => h) rfl ?_
                  refine g_iload X d_MD_come_69 0 rfl ?_
                  refine g_aload_n X d_MD_come_71 2 rfl ?_
                  refine g_getf (k := 27) X d_MD_come_72 (hl_w 0 rfl hn) rfl i_MD (by decide) k_fl_MD_52 (fun _ h => h) rfl ?_
                  refine g_iload X d_MD_come_75 0 rfl ?_
                  refine g_iconst (nI 1) X d_MD_come_77 (by decide) ?_
                  refine g_isub X d_MD_come_78 ?_
                  refine g_vi (nI j2) (pk_sub (by omega)) ?_
                  refine h_lald X d_MD_come_79 (hl_w 1 rfl hn) (by omega) (by omega) ?_
                  refine h_last 1 [(h, .inr (6, [.int th, .int (nI M), .int (nI n), .ref y1, .ref y2, .ref y3, .int (nI u), .ref y4, .ref y5, .ref y6, .ref y7, .int (nI c), .ref y8, .ref y9, .ref y10, .ref y11, .ref y12, .int bd, .int ck, .int ps, .int (nI pa), .int lc, .int (nI (b2n fb)), .long ek, .long ev, .int (nI el), .int (nI fn), .ref y13, .ref y14, .ref y15, .ref y16, .int (nI js), .ref y17, .int (nI (b2n ib))])), (y13, .inl (.long, 500, .inr (.inl (va_up (shf GK fn (j2 + 1)) (j2 + 1) ((shf GK fn (j2 + 1)) j2))))), (y14, .inl (.long, 500, .inr (.inl (shf GV fn (j2 + 1))))), (y15, .inl (.int, 500, .inl (fun q => nI (((shf Gz fn (j2 + 1))) q))))] X d_MD_come_80 hn rfl (by omega) (by omega) rfl ?_
                  refine g_aload_n X d_MD_come_81 2 rfl ?_
                  refine g_getf (k := 28) X d_MD_come_82 (hl_w 0 rfl hn) rfl i_MD (by decide) k_fl_MD_55 (fun _ h => h) rfl ?_
                  refine g_iload X d_MD_come_85 0 rfl ?_
                  refine g_aload_n X d_MD_come_87 2 rfl ?_
                  refine g_getf (k := 28) X d_MD_come_88 (hl_w 0 rfl hn) rfl i_MD (by decide) k_fl_MD_55 (fun _ h => h) rfl ?_
                  refine g_iload X d_MD_come_91 0 rfl ?_
                  refine g_iconst (nI 1) X d_MD_come_93 (by decide) ?_
                  refine g_isub X d_MD_come_94 ?_
                  refine g_vi (nI j2) (pk_sub (by omega)) ?_
                  refine h_lald X d_MD_come_95 (hl_w 2 rfl hn) (by omega) (by omega) ?_
                  refine h_last 2 [(h, .inr (6, [.int th, .int (nI M), .int (nI n), .ref y1, .ref y2, .ref y3, .int (nI u), .ref y4, .ref y5, .ref y6, .ref y7, .int (nI c), .ref y8, .ref y9, .ref y10, .ref y11, .ref y12, .int bd, .int ck, .int ps, .int (nI pa), .int lc, .int (nI (b2n fb)), .long ek, .long ev, .int (nI el), .int (nI fn), .ref y13, .ref y14, .ref y15, .ref y16, .int (nI js), .ref y17, .int (nI (b2n ib))])), (y13, .inl (.long, 500, .inr (.inl (va_up (shf GK fn (j2 + 1)) (j2 + 1) ((shf GK fn (j2 + 1)) j2))))), (y14, .inl (.long, 500, .inr (.inl (va_up (shf GV fn (j2 + 1)) (j2 + 1) ((shf GV fn (j2 + 1)) j2))))), (y15, .inl (.int, 500, .inl (fun q => nI (((shf Gz fn (j2 + 1))) q))))] X d_MD_come_96 hn rfl (by omega) (by omega) rfl ?_
                  refine g_aload_n X d_MD_come_97 2 rfl ?_
                  refine g_getf (k := 29) X d_MD_come_98 (hl_w 0 rfl hn) rfl i_MD (by decide) k_fl_MD_58 (fun _ h => h) rfl ?_
                  refine g_iload X d_MD_come_101 0 rfl ?_
                  refine g_aload_n X d_MD_come_103 2 rfl ?_
                  refine g_getf (k := 29) X d_MD_come_104 (hl_w 0 rfl hn) rfl i_MD (by decide) k_fl_MD_58 (fun _ h => h) rfl ?_
                  refine g_iload X d_MD_come_107 0 rfl ?_
                  refine g_iconst (nI 1) X d_MD_come_109 (by decide) ?_
                  refine g_isub X d_MD_come_110 ?_
                  refine g_vi (nI j2) (pk_sub (by omega)) ?_
                  refine h_iald X d_MD_come_111 (hl_w 3 rfl hn) (by omega) (by omega) ?_
                  refine h_iastN 3 [(h, .inr (6, [.int th, .int (nI M), .int (nI n), .ref y1, .ref y2, .ref y3, .int (nI u), .ref y4, .ref y5, .ref y6, .ref y7, .int (nI c), .ref y8, .ref y9, .ref y10, .ref y11, .ref y12, .int bd, .int ck, .int ps, .int (nI pa), .int lc, .int (nI (b2n fb)), .long ek, .long ev, .int (nI el), .int (nI fn), .ref y13, .ref y14, .ref y15, .ref y16, .int (nI js), .ref y17, .int (nI (b2n ib))])), (y13, .inl (.long, 500, .inr (.inl (va_up (shf GK fn (j2 + 1)) (j2 + 1) ((shf GK fn (j2 + 1)) j2))))), (y14, .inl (.long, 500, .inr (.inl (va_up (shf GV fn (j2 + 1)) (j2 + 1) ((shf GV fn (j2 + 1)) j2))))), (y15, .inl (.int, 500, .inl (fun q => nI ((va_up (shf Gz fn (j2 + 1)) (j2 + 1) ((shf Gz fn (j2 + 1)) j2)) q))))] X d_MD_come_112 hn rfl (by omega) (by omega) rfl ?_
                  refine g_iinc (nI j2) 0 [(7, .int (nI j2)), (6, .int (nI (plc GK k fn))), (0, .ref h), (1, .long k), (3, .long v), (5, .int (nI m))] X d_MD_come_113 rfl (pk_m1 _) (by decide) rfl ?_
                  refine g_goto 58 X d_MD_come_116 (by decide) ?_
                  refine g_hp (ws' := [(h, .inr (6, [.int th, .int (nI M), .int (nI n), .ref y1, .ref y2, .ref y3, .int (nI u), .ref y4, .ref y5, .ref y6, .ref y7, .int (nI c), .ref y8, .ref y9, .ref y10, .ref y11, .ref y12, .int bd, .int ck, .int ps, .int (nI pa), .int lc, .int (nI (b2n fb)), .long ek, .long ev, .int (nI el), .int (nI fn), .ref y13, .ref y14, .ref y15, .ref y16, .int (nI js), .ref y17, .int (nI (b2n ib))])), (y13, .inl (.long, 500, .inr (.inl (shf GK fn j2)))), (y14, .inl (.long, 500, .inr (.inl (shf GV fn j2)))), (y15, .inl (.int, 500, .inl (fun q => nI (((shf Gz fn j2)) q))))]) (by rw [← shf_s GK (show j2 + 1 ≤ fn by omega), ← shf_s GV (show j2 + 1 ≤ fn by omega), ← shf_s Gz (show j2 + 1 ≤ fn by omega), shf_low, shf_low, shf_low]) ?_
                  exact ih58 j2 (by omega) (by omega) (by omega)
            exact L58 _ fn (Nat.le_refl _) hl9 (Nat.lt_succ_self _)
          · have h48 := (lg_cmp_eq (GK (plc GK k fn)) k).mp h48
            have hf : plc GK k fn < fn ∧ GK (plc GK k fn) = k := ⟨h36, h48⟩
            exact g_vret X hr d_MD_come_51 (Nat.le_of_ble_eq_true rfl) (Nat.le_of_ble_eq_true rfl) (⟨rfl, by rw [adm_t hf]⟩)
      · have h9 := cv_nle (by omega) (by omega) h9
        refine g_aload_n X d_MD_come_12 1 rfl ?_
        refine g_getf (k := 27) X d_MD_come_13 (hl_w 0 rfl hn) rfl i_MD (by decide) k_fl_MD_52 (fun _ h => h) rfl ?_
        refine g_iload X d_MD_come_16 0 rfl ?_
        refine h_lald X d_MD_come_18 (hl_w 1 rfl hn) (by omega) (by omega) ?_
        refine g_lload_n X d_MD_come_19 2 rfl ?_
        refine g_lcmp X d_MD_come_20 ?_
        refine g_if_ge 30 X d_MD_come_21 (by decide) (fun h21 => ?_) (fun h21 => ?_)
        · have h21 := (lg_cmp_ge (GK j) k).mp h21
          have hp9 : plc GK k fn = j := plc_is q1 q2 (fun _ => l_nlt.mpr h21)
          refine g_lve (lv' := [(6, .int (nI (plc GK k fn))), (0, .ref h), (1, .long k), (3, .long v), (5, .int (nI m))]) (by rw [hp9]) ?_
          refine g_iload X d_MD_come_30 0 rfl ?_
          refine g_aload_n X d_MD_come_32 1 rfl ?_
          refine g_getf (k := 26) X d_MD_come_33 (hl_w 0 rfl hn) rfl i_MD (by decide) k_fl_MD_232 (fun _ h => h) rfl ?_
          refine g_icmp_ge 52 X d_MD_come_36 (by decide) (fun h36 => ?_) (fun h36 => ?_)
          · have h36 := cv_le (by omega) (by omega) h36
            have hf : ¬ (plc GK k fn < fn ∧ GK (plc GK k fn) = k) := fun z => absurd z.1 (by omega)
            refine g_aload_n X d_MD_come_52 1 rfl ?_
            refine g_getf (k := 26) X d_MD_come_53 (hl_w 0 rfl hn) rfl i_MD (by decide) k_fl_MD_232 (fun _ h => h) rfl ?_
            refine g_hp (ws' := [(h, .inr (6, [.int th, .int (nI M), .int (nI n), .ref y1, .ref y2, .ref y3, .int (nI u), .ref y4, .ref y5, .ref y6, .ref y7, .int (nI c), .ref y8, .ref y9, .ref y10, .ref y11, .ref y12, .int bd, .int ck, .int ps, .int (nI pa), .int lc, .int (nI (b2n fb)), .long ek, .long ev, .int (nI el), .int (nI fn), .ref y13, .ref y14, .ref y15, .ref y16, .int (nI js), .ref y17, .int (nI (b2n ib))])), (y13, .inl (.long, 500, .inr (.inl (shf GK fn fn)))), (y14, .inl (.long, 500, .inr (.inl (shf GV fn fn)))), (y15, .inl (.int, 500, .inl (fun q => nI (((shf Gz fn fn)) q))))]) (by rw [shf_0, shf_0, shf_0]) ?_
            refine g_istore [(7, .int (nI fn)), (6, .int (nI (plc GK k fn))), (0, .ref h), (1, .long k), (3, .long v), (5, .int (nI m))] X d_MD_come_56 (by decide) rfl ?_
            have L58 : ∀ (fu58 : Nat) (j9 : Nat), (j9 ≤ fn) → (plc GK k fn ≤ j9) → j9 < fu58 → fh_G mp l me (fh_rm 0 0 0 0) sm mm margs mbel mmet mcod mD fhCl (hp [(h, .inr (6, [.int th, .int (nI M), .int (nI n), .ref y1, .ref y2, .ref y3, .int (nI u), .ref y4, .ref y5, .ref y6, .ref y7, .int (nI c), .ref y8, .ref y9, .ref y10, .ref y11, .ref y12, .int bd, .int ck, .int ps, .int (nI pa), .int lc, .int (nI (b2n fb)), .long ek, .long ev, .int (nI el), .int (nI fn), .ref y13, .ref y14, .ref y15, .ref y16, .int (nI js), .ref y17, .int (nI (b2n ib))])), (y13, .inl (.long, 500, .inr (.inl GK))), (y14, .inl (.long, 500, .inr (.inl GV))), (y15, .inl (.int, 500, .inl (fun q => nI (Gz q))))]) 8 (fh_MQ mbel mD fhCl (hp [(h, .inr (6, [.int th, .int (nI M), .int (nI n), .ref y1, .ref y2, .ref y3, .int (nI u), .ref y4, .ref y5, .ref y6, .ref y7, .int (nI c), .ref y8, .ref y9, .ref y10, .ref y11, .ref y12, .int bd, .int ck, .int ps, .int (nI pa), .int lc, .int (nI (b2n fb)), .long ek, .long ev, .int (nI el), .int (nI fn), .ref y13, .ref y14, .ref y15, .ref y16, .int (nI js), .ref y17, .int (nI (b2n ib))])), (y13, .inl (.long, 500, .inr (.inl GK))), (y14, .inl (.long, 500, .inr (.inl GV))), (y15, .inl (.int, 500, .inl (fun q => nI (Gz q))))]) (fh_ret none [(h, .inr (6, [.int th, .int (nI M), .int (nI n), .ref y1, .ref y2, .ref y3, .int (nI u), .ref y4, .ref y5, .ref y6, .ref y7, .int (nI c), .ref y8, .ref y9, .ref y10, .ref y11, .ref y12, .int bd, .int ck, .int ps, .int (nI pa), .int lc, .int (nI (b2n fb)), .long ek, .long ev, .int (nI el), .int (nI ((adm (GK, Gz, GV, fn) k m v).2.2.2)), .ref y13, .ref y14, .ref y15, .ref y16, .int (nI js), .ref y17, .int (nI (b2n ib))])), (y13, .inl (.long, 500, .inr (.inl ((adm (GK, Gz, GV, fn) k m v).1)))), (y14, .inl (.long, 500, .inr (.inl ((adm (GK, Gz, GV, fn) k m v).2.2.1)))), (y15, .inl (.int, 500, .inl (fun q => nI (((adm (GK, Gz, GV, fn) k m v).2.1) q))))]) margs sm 0 0) 0 0 (hp [(h, .inr (6, [.int th, .int (nI M), .int (nI n), .ref y1, .ref y2, .ref y3, .int (nI u), .ref y4, .ref y5, .ref y6, .ref y7, .int (nI c), .ref y8, .ref y9, .ref y10, .ref y11, .ref y12, .int bd, .int ck, .int ps, .int (nI pa), .int lc, .int (nI (b2n fb)), .long ek, .long ev, .int (nI el), .int (nI fn), .ref y13, .ref y14, .ref y15, .ref y16, .int (nI js), .ref y17, .int (nI (b2n ib))])), (y13, .inl (.long, 500, .inr (.inl (shf GK fn j9)))), (y14, .inl (.long, 500, .inr (.inl (shf GV fn j9)))), (y15, .inl (.int, 500, .inl (fun q => nI (((shf Gz fn j9)) q))))]) 58 [(7, .int (nI j9)), (6, .int (nI (plc GK k fn))), (0, .ref h), (1, .long k), (3, .long v), (5, .int (nI m))] [] := by
              intro fu58
              induction fu58 with
              | zero => intro j9 q3 q4 hm58; exact absurd hm58 (Nat.not_lt_zero _)
              | succ fu58 ih58 =>
                intro j9 q3 q4 hm58
                refine g_iload X d_MD_come_58 0 rfl ?_
                refine g_iload X d_MD_come_60 1 rfl ?_
                refine g_icmp_le 119 X d_MD_come_62 (by decide) (fun h62 => ?_) (fun h62 => ?_)
                · have h62 := cv_le (by omega) (by omega) h62
                  have e8 : j9 = plc GK k fn := by omega
                  refine g_hp (ws' := [(h, .inr (6, [.int th, .int (nI M), .int (nI n), .ref y1, .ref y2, .ref y3, .int (nI u), .ref y4, .ref y5, .ref y6, .ref y7, .int (nI c), .ref y8, .ref y9, .ref y10, .ref y11, .ref y12, .int bd, .int ck, .int ps, .int (nI pa), .int lc, .int (nI (b2n fb)), .long ek, .long ev, .int (nI el), .int (nI fn), .ref y13, .ref y14, .ref y15, .ref y16, .int (nI js), .ref y17, .int (nI (b2n ib))])), (y13, .inl (.long, 500, .inr (.inl (shf GK fn (plc GK k fn))))), (y14, .inl (.long, 500, .inr (.inl (shf GV fn (plc GK k fn))))), (y15, .inl (.int, 500, .inl (fun q => nI (((shf Gz fn (plc GK k fn))) q))))]) (by rw [e8]) ?_
                  refine g_aload_n X d_MD_come_119 2 rfl ?_
                  refine g_getf (k := 27) X d_MD_come_120 (hl_w 0 rfl hn) rfl i_MD (by decide) k_fl_MD_52 (fun _ h => h) rfl ?_
                  refine g_iload X d_MD_come_123 1 rfl ?_
                  refine g_lload_n X d_MD_come_125 3 rfl ?_
                  refine h_last 1 [(h, .inr (6, [.int th, .int (nI M), .int (nI n), .ref y1, .ref y2, .ref y3, .int (nI u), .ref y4, .ref y5, .ref y6, .ref y7, .int (nI c), .ref y8, .ref y9, .ref y10, .ref y11, .ref y12, .int bd, .int ck, .int ps, .int (nI pa), .int lc, .int (nI (b2n fb)), .long ek, .long ev, .int (nI el), .int (nI fn), .ref y13, .ref y14, .ref y15, .ref y16, .int (nI js), .ref y17, .int (nI (b2n ib))])), (y13, .inl (.long, 500, .inr (.inl (va_up (shf GK fn (plc GK k fn)) (plc GK k fn) k)))), (y14, .inl (.long, 500, .inr (.inl (shf GV fn (plc GK k fn))))), (y15, .inl (.int, 500, .inl (fun q => nI (((shf Gz fn (plc GK k fn))) q))))] X d_MD_come_126 hn rfl (by omega) (by omega) rfl ?_
                  refine g_aload_n X d_MD_come_127 2 rfl ?_
                  refine g_getf (k := 28) X d_MD_come_128 (hl_w 0 rfl hn) rfl i_MD (by decide) k_fl_MD_55 (fun _ h => h) rfl ?_
                  refine g_iload X d_MD_come_131 1 rfl ?_
                  refine g_lload_n X d_MD_come_133 4 rfl ?_
                  refine h_last 2 [(h, .inr (6, [.int th, .int (nI M), .int (nI n), .ref y1, .ref y2, .ref y3, .int (nI u), .ref y4, .ref y5, .ref y6, .ref y7, .int (nI c), .ref y8, .ref y9, .ref y10, .ref y11, .ref y12, .int bd, .int ck, .int ps, .int (nI pa), .int lc, .int (nI (b2n fb)), .long ek, .long ev, .int (nI el), .int (nI fn), .ref y13, .ref y14, .ref y15, .ref y16, .int (nI js), .ref y17, .int (nI (b2n ib))])), (y13, .inl (.long, 500, .inr (.inl (va_up (shf GK fn (plc GK k fn)) (plc GK k fn) k)))), (y14, .inl (.long, 500, .inr (.inl (va_up (shf GV fn (plc GK k fn)) (plc GK k fn) v)))), (y15, .inl (.int, 500, .inl (fun q => nI (((shf Gz fn (plc GK k fn))) q))))] X d_MD_come_134 hn rfl (by omega) (by omega) rfl ?_
                  refine g_aload_n X d_MD_come_135 2 rfl ?_
                  refine g_getf (k := 29) X d_MD_come_136 (hl_w 0 rfl hn) rfl i_MD (by decide) k_fl_MD_58 (fun _ h => h) rfl ?_
                  refine g_iload X d_MD_come_139 1 rfl ?_
                  refine g_iload X d_MD_come_141 5 rfl ?_
                  refine h_iastN 3 [(h, .inr (6, [.int th, .int (nI M), .int (nI n), .ref y1, .ref y2, .ref y3, .int (nI u), .ref y4, .ref y5, .ref y6, .ref y7, .int (nI c), .ref y8, .ref y9, .ref y10, .ref y11, .ref y12, .int bd, .int ck, .int ps, .int (nI pa), .int lc, .int (nI (b2n fb)), .long ek, .long ev, .int (nI el), .int (nI fn), .ref y13, .ref y14, .ref y15, .ref y16, .int (nI js), .ref y17, .int (nI (b2n ib))])), (y13, .inl (.long, 500, .inr (.inl (va_up (shf GK fn (plc GK k fn)) (plc GK k fn) k)))), (y14, .inl (.long, 500, .inr (.inl (va_up (shf GV fn (plc GK k fn)) (plc GK k fn) v)))), (y15, .inl (.int, 500, .inl (fun q => nI ((va_up (shf Gz fn (plc GK k fn)) (plc GK k fn) m) q))))] X d_MD_come_143 hn rfl (by omega) (by omega) rfl ?_
                  refine g_aload_n X d_MD_come_144 2 rfl ?_
                  refine g_dup X d_MD_come_145 rfl ?_
                  refine g_getf (k := 26) X d_MD_come_146 (hl_w 0 rfl hn) rfl i_MD (by decide) k_fl_MD_232 (fun _ h => h) rfl ?_
                  refine g_iconst (nI 1) X d_MD_come_149 (by decide) ?_
                  refine g_iadd X d_MD_come_150 ?_
                  refine g_vi (nI (fn + 1)) (nI_add _ _) ?_
                  refine h_putf (k := 26) (ty := .int) 0 [(h, .inr (6, [.int th, .int (nI M), .int (nI n), .ref y1, .ref y2, .ref y3, .int (nI u), .ref y4, .ref y5, .ref y6, .ref y7, .int (nI c), .ref y8, .ref y9, .ref y10, .ref y11, .ref y12, .int bd, .int ck, .int ps, .int (nI pa), .int lc, .int (nI (b2n fb)), .long ek, .long ev, .int (nI el), .int (nI (fn + 1)), .ref y13, .ref y14, .ref y15, .ref y16, .int (nI js), .ref y17, .int (nI (b2n ib))])), (y13, .inl (.long, 500, .inr (.inl (va_up (shf GK fn (plc GK k fn)) (plc GK k fn) k)))), (y14, .inl (.long, 500, .inr (.inl (va_up (shf GV fn (plc GK k fn)) (plc GK k fn) v)))), (y15, .inl (.int, 500, .inl (fun q => nI ((va_up (shf Gz fn (plc GK k fn)) (plc GK k fn) m) q))))] X d_MD_come_151 hn rfl rfl i_MD t_MD t_MD_ok n_MD (by decide) k_fl_MD_232 (fun _ h => h) rfl (by decide +kernel) rfl rfl (Nat.le_of_ble_eq_true rfl) rfl ?_
                  exact g_vret X hr d_MD_come_154 (Nat.le_of_ble_eq_true rfl) (Nat.le_of_ble_eq_true rfl) (⟨rfl, by rw [adm_shf hf]⟩)
                · have h62 := cv_nle (by omega) (by omega) h62
                  obtain ⟨j2, e8⟩ : ∃ j2, j9 = j2 + 1 := ⟨j9 - 1, by omega⟩
                  subst e8
                  refine g_aload_n X d_MD_come_65 2 rfl ?_
                  refine g_getf (k := 27) X d_MD_come_66 (hl_w 0 rfl hn) rfl i_MD (by decide) k_fl_MD_52 (fun _ h => h) rfl ?_
                  refine g_iload X d_MD_come_69 0 rfl ?_
                  refine g_aload_n X d_MD_come_71 2 rfl ?_
                  refine g_getf (k := 27) X d_MD_come_72 (hl_w 0 rfl hn) rfl i_MD (by decide) k_fl_MD_52 (fun _ h => h) rfl ?_
                  refine g_iload X d_MD_come_75 0 rfl ?_
                  refine g_iconst (nI 1) X d_MD_come_77 (by decide) ?_
                  refine g_isub X d_MD_come_78 ?_
                  refine g_vi (nI j2) (pk_sub (by omega)) ?_
                  refine h_lald X d_MD_come_79 (hl_w 1 rfl hn) (by omega) (by omega) ?_
                  refine h_last 1 [(h, .inr (6, [.int th, .int (nI M), .int (nI n), .ref y1, .ref y2, .ref y3, .int (nI u), .ref y4, .ref y5, .ref y6, .ref y7, .int (nI c), .ref y8, .ref y9, .ref y10, .ref y11, .ref y12, .int bd, .int ck, .int ps, .int (nI pa), .int lc, .int (nI (b2n fb)), .long ek, .long ev, .int (nI el), .int (nI fn), .ref y13, .ref y14, .ref y15, .ref y16, .int (nI js), .ref y17, .int (nI (b2n ib))])), (y13, .inl (.long, 500, .inr (.inl (va_up (shf GK fn (j2 + 1)) (j2 + 1) ((shf GK fn (j2 + 1)) j2))))), (y14, .inl (.long, 500, .inr (.inl (shf GV fn (j2 + 1))))), (y15, .inl (.int, 500, .inl (fun q => nI (((shf Gz fn (j2 + 1))) q))))] X d_MD_come_80 hn rfl (by omega) (by omega) rfl ?_
                  refine g_aload_n X d_MD_come_81 2 rfl ?_
                  refine g_getf (k := 28) X d_MD_come_82 (hl_w 0 rfl hn) rfl i_MD (by decide) k_fl_MD_55 (fun _ h => h) rfl ?_
                  refine g_iload X d_MD_come_85 0 rfl ?_
                  refine g_aload_n X d_MD_come_87 2 rfl ?_
                  refine g_getf (k := 28) X d_MD_come_88 (hl_w 0 rfl hn) rfl i_MD (by decide) k_fl_MD_55 (fun _ h => h) rfl ?_
                  refine g_iload X d_MD_come_91 0 rfl ?_
                  refine g_iconst (nI 1) X d_MD_come_93 (by decide) ?_
                  refine g_isub X d_MD_come_94 ?_
                  refine g_vi (nI j2) (pk_sub (by omega)) ?_
                  refine h_lald X d_MD_come_95 (hl_w 2 rfl hn) (by omega) (by omega) ?_
                  refine h_last 2 [(h, .inr (6, [.int th, .int (nI M), .int (nI n), .ref y1, .ref y2, .ref y3, .int (nI u), .ref y4, .ref y5, .ref y6, .ref y7, .int (nI c), .ref y8, .ref y9, .ref y10, .ref y11, .ref y12, .int bd, .int ck, .int ps, .int (nI pa), .int lc, .int (nI (b2n fb)), .long ek, .long ev, .int (nI el), .int (nI fn), .ref y13, .ref y14, .ref y15, .ref y16, .int (nI js), .ref y17, .int (nI (b2n ib))])), (y13, .inl (.long, 500, .inr (.inl (va_up (shf GK fn (j2 + 1)) (j2 + 1) ((shf GK fn (j2 + 1)) j2))))), (y14, .inl (.long, 500, .inr (.inl (va_up (shf GV fn (j2 + 1)) (j2 + 1) ((shf GV fn (j2 + 1)) j2))))), (y15, .inl (.int, 500, .inl (fun q => nI (((shf Gz fn (j2 + 1))) q))))] X d_MD_come_96 hn rfl (by omega) (by omega) rfl ?_
                  refine g_aload_n X d_MD_come_97 2 rfl ?_
                  refine g_getf (k := 29) X d_MD_come_98 (hl_w 0 rfl hn) rfl i_MD (by decide) k_fl_MD_58 (fun _ h => h) rfl ?_
                  refine g_iload X d_MD_come_101 0 rfl ?_
                  refine g_aload_n X d_MD_come_103 2 rfl ?_
                  refine g_getf (k := 29) X d_MD_come_104 (hl_w 0 rfl hn) rfl i_MD (by decide) k_fl_MD_58 (fun _ h => h) rfl ?_
                  refine g_iload X d_MD_come_107 0 rfl ?_
                  refine g_iconst (nI 1) X d_MD_come_109 (by decide) ?_
                  refine g_isub X d_MD_come_110 ?_
                  refine g_vi (nI j2) (pk_sub (by omega)) ?_
                  refine h_iald X d_MD_come_111 (hl_w 3 rfl hn) (by omega) (by omega) ?_
                  refine h_iastN 3 [(h, .inr (6, [.int th, .int (nI M), .int (nI n), .ref y1, .ref y2, .ref y3, .int (nI u), .ref y4, .ref y5, .ref y6, .ref y7, .int (nI c), .ref y8, .ref y9, .ref y10, .ref y11, .ref y12, .int bd, .int ck, .int ps, .int (nI pa), .int lc, .int (nI (b2n fb)), .long ek, .long ev, .int (nI el), .int (nI fn), .ref y13, .ref y14, .ref y15, .ref y16, .int (nI js), .ref y17, .int (nI (b2n ib))])), (y13, .inl (.long, 500, .inr (.inl (va_up (shf GK fn (j2 + 1)) (j2 + 1) ((shf GK fn (j2 + 1)) j2))))), (y14, .inl (.long, 500, .inr (.inl (va_up (shf GV fn (j2 + 1)) (j2 + 1) ((shf GV fn (j2 + 1)) j2))))), (y15, .inl (.int, 500, .inl (fun q => nI ((va_up (shf Gz fn (j2 + 1)) (j2 + 1) ((shf Gz fn (j2 + 1)) j2)) q))))] X d_MD_come_112 hn rfl (by omega) (by omega) rfl ?_
                  refine g_iinc (nI j2) 0 [(7, .int (nI j2)), (6, .int (nI (plc GK k fn))), (0, .ref h), (1, .long k), (3, .long v), (5, .int (nI m))] X d_MD_come_113 rfl (pk_m1 _) (by decide) rfl ?_
                  refine g_goto 58 X d_MD_come_116 (by decide) ?_
                  refine g_hp (ws' := [(h, .inr (6, [.int th, .int (nI M), .int (nI n), .ref y1, .ref y2, .ref y3, .int (nI u), .ref y4, .ref y5, .ref y6, .ref y7, .int (nI c), .ref y8, .ref y9, .ref y10, .ref y11, .ref y12, .int bd, .int ck, .int ps, .int (nI pa), .int lc, .int (nI (b2n fb)), .long ek, .long ev, .int (nI el), .int (nI fn), .ref y13, .ref y14, .ref y15, .ref y16, .int (nI js), .ref y17, .int (nI (b2n ib))])), (y13, .inl (.long, 500, .inr (.inl (shf GK fn j2)))), (y14, .inl (.long, 500, .inr (.inl (shf GV fn j2)))), (y15, .inl (.int, 500, .inl (fun q => nI (((shf Gz fn j2)) q))))]) (by rw [← shf_s GK (show j2 + 1 ≤ fn by omega), ← shf_s GV (show j2 + 1 ≤ fn by omega), ← shf_s Gz (show j2 + 1 ≤ fn by omega), shf_low, shf_low, shf_low]) ?_
                  exact ih58 j2 (by omega) (by omega) (by omega)
            exact L58 _ fn (Nat.le_refl _) hl9 (Nat.lt_succ_self _)
          · have h36 := cv_nle (by omega) (by omega) h36
            refine g_aload_n X d_MD_come_39 1 rfl ?_
            refine g_getf (k := 27) X d_MD_come_40 (hl_w 0 rfl hn) rfl i_MD (by decide) k_fl_MD_52 (fun _ h => h) rfl ?_
            refine g_iload X d_MD_come_43 0 rfl ?_
            refine h_lald X d_MD_come_45 (hl_w 1 rfl hn) (by omega) (by omega) ?_
            refine g_lload_n X d_MD_come_46 2 rfl ?_
            refine g_lcmp X d_MD_come_47 ?_
            refine g_if_ne 52 X d_MD_come_48 (by decide) (fun h48 => ?_) (fun h48 => ?_)
            · have h48 := fun z => h48 ((lg_cmp_eq (GK (plc GK k fn)) k).mpr z)
              have hf : ¬ (plc GK k fn < fn ∧ GK (plc GK k fn) = k) := fun z => h48 z.2
              refine g_aload_n X d_MD_come_52 1 rfl ?_
              refine g_getf (k := 26) X d_MD_come_53 (hl_w 0 rfl hn) rfl i_MD (by decide) k_fl_MD_232 (fun _ h => h) rfl ?_
              refine g_hp (ws' := [(h, .inr (6, [.int th, .int (nI M), .int (nI n), .ref y1, .ref y2, .ref y3, .int (nI u), .ref y4, .ref y5, .ref y6, .ref y7, .int (nI c), .ref y8, .ref y9, .ref y10, .ref y11, .ref y12, .int bd, .int ck, .int ps, .int (nI pa), .int lc, .int (nI (b2n fb)), .long ek, .long ev, .int (nI el), .int (nI fn), .ref y13, .ref y14, .ref y15, .ref y16, .int (nI js), .ref y17, .int (nI (b2n ib))])), (y13, .inl (.long, 500, .inr (.inl (shf GK fn fn)))), (y14, .inl (.long, 500, .inr (.inl (shf GV fn fn)))), (y15, .inl (.int, 500, .inl (fun q => nI (((shf Gz fn fn)) q))))]) (by rw [shf_0, shf_0, shf_0]) ?_
              refine g_istore [(7, .int (nI fn)), (6, .int (nI (plc GK k fn))), (0, .ref h), (1, .long k), (3, .long v), (5, .int (nI m))] X d_MD_come_56 (by decide) rfl ?_
              have L58 : ∀ (fu58 : Nat) (j9 : Nat), (j9 ≤ fn) → (plc GK k fn ≤ j9) → j9 < fu58 → fh_G mp l me (fh_rm 0 0 0 0) sm mm margs mbel mmet mcod mD fhCl (hp [(h, .inr (6, [.int th, .int (nI M), .int (nI n), .ref y1, .ref y2, .ref y3, .int (nI u), .ref y4, .ref y5, .ref y6, .ref y7, .int (nI c), .ref y8, .ref y9, .ref y10, .ref y11, .ref y12, .int bd, .int ck, .int ps, .int (nI pa), .int lc, .int (nI (b2n fb)), .long ek, .long ev, .int (nI el), .int (nI fn), .ref y13, .ref y14, .ref y15, .ref y16, .int (nI js), .ref y17, .int (nI (b2n ib))])), (y13, .inl (.long, 500, .inr (.inl GK))), (y14, .inl (.long, 500, .inr (.inl GV))), (y15, .inl (.int, 500, .inl (fun q => nI (Gz q))))]) 8 (fh_MQ mbel mD fhCl (hp [(h, .inr (6, [.int th, .int (nI M), .int (nI n), .ref y1, .ref y2, .ref y3, .int (nI u), .ref y4, .ref y5, .ref y6, .ref y7, .int (nI c), .ref y8, .ref y9, .ref y10, .ref y11, .ref y12, .int bd, .int ck, .int ps, .int (nI pa), .int lc, .int (nI (b2n fb)), .long ek, .long ev, .int (nI el), .int (nI fn), .ref y13, .ref y14, .ref y15, .ref y16, .int (nI js), .ref y17, .int (nI (b2n ib))])), (y13, .inl (.long, 500, .inr (.inl GK))), (y14, .inl (.long, 500, .inr (.inl GV))), (y15, .inl (.int, 500, .inl (fun q => nI (Gz q))))]) (fh_ret none [(h, .inr (6, [.int th, .int (nI M), .int (nI n), .ref y1, .ref y2, .ref y3, .int (nI u), .ref y4, .ref y5, .ref y6, .ref y7, .int (nI c), .ref y8, .ref y9, .ref y10, .ref y11, .ref y12, .int bd, .int ck, .int ps, .int (nI pa), .int lc, .int (nI (b2n fb)), .long ek, .long ev, .int (nI el), .int (nI ((adm (GK, Gz, GV, fn) k m v).2.2.2)), .ref y13, .ref y14, .ref y15, .ref y16, .int (nI js), .ref y17, .int (nI (b2n ib))])), (y13, .inl (.long, 500, .inr (.inl ((adm (GK, Gz, GV, fn) k m v).1)))), (y14, .inl (.long, 500, .inr (.inl ((adm (GK, Gz, GV, fn) k m v).2.2.1)))), (y15, .inl (.int, 500, .inl (fun q => nI (((adm (GK, Gz, GV, fn) k m v).2.1) q))))]) margs sm 0 0) 0 0 (hp [(h, .inr (6, [.int th, .int (nI M), .int (nI n), .ref y1, .ref y2, .ref y3, .int (nI u), .ref y4, .ref y5, .ref y6, .ref y7, .int (nI c), .ref y8, .ref y9, .ref y10, .ref y11, .ref y12, .int bd, .int ck, .int ps, .int (nI pa), .int lc, .int (nI (b2n fb)), .long ek, .long ev, .int (nI el), .int (nI fn), .ref y13, .ref y14, .ref y15, .ref y16, .int (nI js), .ref y17, .int (nI (b2n ib))])), (y13, .inl (.long, 500, .inr (.inl (shf GK fn j9)))), (y14, .inl (.long, 500, .inr (.inl (shf GV fn j9)))), (y15, .inl (.int, 500, .inl (fun q => nI (((shf Gz fn j9)) q))))]) 58 [(7, .int (nI j9)), (6, .int (nI (plc GK k fn))), (0, .ref h), (1, .long k), (3, .long v), (5, .int (nI m))] [] := by
                intro fu58
                induction fu58 with
                | zero => intro j9 q3 q4 hm58; exact absurd hm58 (Nat.not_lt_zero _)
                | succ fu58 ih58 =>
                  intro j9 q3 q4 hm58
                  refine g_iload X d_MD_come_58 0 rfl ?_
                  refine g_iload X d_MD_come_60 1 rfl ?_
                  refine g_icmp_le 119 X d_MD_come_62 (by decide) (fun h62 => ?_) (fun h62 => ?_)
                  · have h62 := cv_le (by omega) (by omega) h62
                    have e8 : j9 = plc GK k fn := by omega
                    refine g_hp (ws' := [(h, .inr (6, [.int th, .int (nI M), .int (nI n), .ref y1, .ref y2, .ref y3, .int (nI u), .ref y4, .ref y5, .ref y6, .ref y7, .int (nI c), .ref y8, .ref y9, .ref y10, .ref y11, .ref y12, .int bd, .int ck, .int ps, .int (nI pa), .int lc, .int (nI (b2n fb)), .long ek, .long ev, .int (nI el), .int (nI fn), .ref y13, .ref y14, .ref y15, .ref y16, .int (nI js), .ref y17, .int (nI (b2n ib))])), (y13, .inl (.long, 500, .inr (.inl (shf GK fn (plc GK k fn))))), (y14, .inl (.long, 500, .inr (.inl (shf GV fn (plc GK k fn))))), (y15, .inl (.int, 500, .inl (fun q => nI (((shf Gz fn (plc GK k fn))) q))))]) (by rw [e8]) ?_
                    refine g_aload_n X d_MD_come_119 2 rfl ?_
                    refine g_getf (k := 27) X d_MD_come_120 (hl_w 0 rfl hn) rfl i_MD (by decide) k_fl_MD_52 (fun _ h => h) rfl ?_
                    refine g_iload X d_MD_come_123 1 rfl ?_
                    refine g_lload_n X d_MD_come_125 3 rfl ?_
                    refine h_last 1 [(h, .inr (6, [.int th, .int (nI M), .int (nI n), .ref y1, .ref y2, .ref y3, .int (nI u), .ref y4, .ref y5, .ref y6, .ref y7, .int (nI c), .ref y8, .ref y9, .ref y10, .ref y11, .ref y12, .int bd, .int ck, .int ps, .int (nI pa), .int lc, .int (nI (b2n fb)), .long ek, .long ev, .int (nI el), .int (nI fn), .ref y13, .ref y14, .ref y15, .ref y16, .int (nI js), .ref y17, .int (nI (b2n ib))])), (y13, .inl (.long, 500, .inr (.inl (va_up (shf GK fn (plc GK k fn)) (plc GK k fn) k)))), (y14, .inl (.long, 500, .inr (.inl (shf GV fn (plc GK k fn))))), (y15, .inl (.int, 500, .inl (fun q => nI (((shf Gz fn (plc GK k fn))) q))))] X d_MD_come_126 hn rfl (by omega) (by omega) rfl ?_
                    refine g_aload_n X d_MD_come_127 2 rfl ?_
                    refine g_getf (k := 28) X d_MD_come_128 (hl_w 0 rfl hn) rfl i_MD (by decide) k_fl_MD_55 (fun _ h => h) rfl ?_
                    refine g_iload X d_MD_come_131 1 rfl ?_
                    refine g_lload_n X d_MD_come_133 4 rfl ?_
                    refine h_last 2 [(h, .inr (6, [.int th, .int (nI M), .int (nI n), .ref y1, .ref y2, .ref y3, .int (nI u), .ref y4, .ref y5, .ref y6, .ref y7, .int (nI c), .ref y8, .ref y9, .ref y10, .ref y11, .ref y12, .int bd, .int ck, .int ps, .int (nI pa), .int lc, .int (nI (b2n fb)), .long ek, .long ev, .int (nI el), .int (nI fn), .ref y13, .ref y14, .ref y15, .ref y16, .int (nI js), .ref y17, .int (nI (b2n ib))])), (y13, .inl (.long, 500, .inr (.inl (va_up (shf GK fn (plc GK k fn)) (plc GK k fn) k)))), (y14, .inl (.long, 500, .inr (.inl (va_up (shf GV fn (plc GK k fn)) (plc GK k fn) v)))), (y15, .inl (.int, 500, .inl (fun q => nI (((shf Gz fn (plc GK k fn))) q))))] X d_MD_come_134 hn rfl (by omega) (by omega) rfl ?_
                    refine g_aload_n X d_MD_come_135 2 rfl ?_
                    refine g_getf (k := 29) X d_MD_come_136 (hl_w 0 rfl hn) rfl i_MD (by decide) k_fl_MD_58 (fun _ h => h) rfl ?_
                    refine g_iload X d_MD_come_139 1 rfl ?_
                    refine g_iload X d_MD_come_141 5 rfl ?_
                    refine h_iastN 3 [(h, .inr (6, [.int th, .int (nI M), .int (nI n), .ref y1, .ref y2, .ref y3, .int (nI u), .ref y4, .ref y5, .ref y6, .ref y7, .int (nI c), .ref y8, .ref y9, .ref y10, .ref y11, .ref y12, .int bd, .int ck, .int ps, .int (nI pa), .int lc, .int (nI (b2n fb)), .long ek, .long ev, .int (nI el), .int (nI fn), .ref y13, .ref y14, .ref y15, .ref y16, .int (nI js), .ref y17, .int (nI (b2n ib))])), (y13, .inl (.long, 500, .inr (.inl (va_up (shf GK fn (plc GK k fn)) (plc GK k fn) k)))), (y14, .inl (.long, 500, .inr (.inl (va_up (shf GV fn (plc GK k fn)) (plc GK k fn) v)))), (y15, .inl (.int, 500, .inl (fun q => nI ((va_up (shf Gz fn (plc GK k fn)) (plc GK k fn) m) q))))] X d_MD_come_143 hn rfl (by omega) (by omega) rfl ?_
                    refine g_aload_n X d_MD_come_144 2 rfl ?_
                    refine g_dup X d_MD_come_145 rfl ?_
                    refine g_getf (k := 26) X d_MD_come_146 (hl_w 0 rfl hn) rfl i_MD (by decide) k_fl_MD_232 (fun _ h => h) rfl ?_
                    refine g_iconst (nI 1) X d_MD_come_149 (by decide) ?_
                    refine g_iadd X d_MD_come_150 ?_
                    refine g_vi (nI (fn + 1)) (nI_add _ _) ?_
                    refine h_putf (k := 26) (ty := .int) 0 [(h, .inr (6, [.int th, .int (nI M), .int (nI n), .ref y1, .ref y2, .ref y3, .int (nI u), .ref y4, .ref y5, .ref y6, .ref y7, .int (nI c), .ref y8, .ref y9, .ref y10, .ref y11, .ref y12, .int bd, .int ck, .int ps, .int (nI pa), .int lc, .int (nI (b2n fb)), .long ek, .long ev, .int (nI el), .int (nI (fn + 1)), .ref y13, .ref y14, .ref y15, .ref y16, .int (nI js), .ref y17, .int (nI (b2n ib))])), (y13, .inl (.long, 500, .inr (.inl (va_up (shf GK fn (plc GK k fn)) (plc GK k fn) k)))), (y14, .inl (.long, 500, .inr (.inl (va_up (shf GV fn (plc GK k fn)) (plc GK k fn) v)))), (y15, .inl (.int, 500, .inl (fun q => nI ((va_up (shf Gz fn (plc GK k fn)) (plc GK k fn) m) q))))] X d_MD_come_151 hn rfl rfl i_MD t_MD t_MD_ok n_MD (by decide) k_fl_MD_232 (fun _ h => h) rfl (by decide +kernel) rfl rfl (Nat.le_of_ble_eq_true rfl) rfl ?_
                    exact g_vret X hr d_MD_come_154 (Nat.le_of_ble_eq_true rfl) (Nat.le_of_ble_eq_true rfl) (⟨rfl, by rw [adm_shf hf]⟩)
                  · have h62 := cv_nle (by omega) (by omega) h62
                    obtain ⟨j2, e8⟩ : ∃ j2, j9 = j2 + 1 := ⟨j9 - 1, by omega⟩
                    subst e8
                    refine g_aload_n X d_MD_come_65 2 rfl ?_
                    refine g_getf (k := 27) X d_MD_come_66 (hl_w 0 rfl hn) rfl i_MD (by decide) k_fl_MD_52 (fun _ h => h) rfl ?_
                    refine g_iload X d_MD_come_69 0 rfl ?_
                    refine g_aload_n X d_MD_come_71 2 rfl ?_
                    refine g_getf (k := 27) X d_MD_come_72 (hl_w 0 rfl hn) rfl i_MD (by decide) k_fl_MD_52 (fun _ h => h) rfl ?_
                    refine g_iload X d_MD_come_75 0 rfl ?_
                    refine g_iconst (nI 1) X d_MD_come_77 (by decide) ?_
                    refine g_isub X d_MD_come_78 ?_
                    refine g_vi (nI j2) (pk_sub (by omega)) ?_
                    refine h_lald X d_MD_come_79 (hl_w 1 rfl hn) (by omega) (by omega) ?_
                    refine h_last 1 [(h, .inr (6, [.int th, .int (nI M), .int (nI n), .ref y1, .ref y2, .ref y3, .int (nI u), .ref y4, .ref y5, .ref y6, .ref y7, .int (nI c), .ref y8, .ref y9, .ref y10, .ref y11, .ref y12, .int bd, .int ck, .int ps, .int (nI pa), .int lc, .int (nI (b2n fb)), .long ek, .long ev, .int (nI el), .int (nI fn), .ref y13, .ref y14, .ref y15, .ref y16, .int (nI js), .ref y17, .int (nI (b2n ib))])), (y13, .inl (.long, 500, .inr (.inl (va_up (shf GK fn (j2 + 1)) (j2 + 1) ((shf GK fn (j2 + 1)) j2))))), (y14, .inl (.long, 500, .inr (.inl (shf GV fn (j2 + 1))))), (y15, .inl (.int, 500, .inl (fun q => nI (((shf Gz fn (j2 + 1))) q))))] X d_MD_come_80 hn rfl (by omega) (by omega) rfl ?_
                    refine g_aload_n X d_MD_come_81 2 rfl ?_
                    refine g_getf (k := 28) X d_MD_come_82 (hl_w 0 rfl hn) rfl i_MD (by decide) k_fl_MD_55 (fun _ h => h) rfl ?_
                    refine g_iload X d_MD_come_85 0 rfl ?_
                    refine g_aload_n X d_MD_come_87 2 rfl ?_
                    refine g_getf (k := 28) X d_MD_come_88 (hl_w 0 rfl hn) rfl i_MD (by decide) k_fl_MD_55 (fun _ h => h) rfl ?_
                    refine g_iload X d_MD_come_91 0 rfl ?_
                    refine g_iconst (nI 1) X d_MD_come_93 (by decide) ?_
                    refine g_isub X d_MD_come_94 ?_
                    refine g_vi (nI j2) (pk_sub (by omega)) ?_
                    refine h_lald X d_MD_come_95 (hl_w 2 rfl hn) (by omega) (by omega) ?_
                    refine h_last 2 [(h, .inr (6, [.int th, .int (nI M), .int (nI n), .ref y1, .ref y2, .ref y3, .int (nI u), .ref y4, .ref y5, .ref y6, .ref y7, .int (nI c), .ref y8, .ref y9, .ref y10, .ref y11, .ref y12, .int bd, .int ck, .int ps, .int (nI pa), .int lc, .int (nI (b2n fb)), .long ek, .long ev, .int (nI el), .int (nI fn), .ref y13, .ref y14, .ref y15, .ref y16, .int (nI js), .ref y17, .int (nI (b2n ib))])), (y13, .inl (.long, 500, .inr (.inl (va_up (shf GK fn (j2 + 1)) (j2 + 1) ((shf GK fn (j2 + 1)) j2))))), (y14, .inl (.long, 500, .inr (.inl (va_up (shf GV fn (j2 + 1)) (j2 + 1) ((shf GV fn (j2 + 1)) j2))))), (y15, .inl (.int, 500, .inl (fun q => nI (((shf Gz fn (j2 + 1))) q))))] X d_MD_come_96 hn rfl (by omega) (by omega) rfl ?_
                    refine g_aload_n X d_MD_come_97 2 rfl ?_
                    refine g_getf (k := 29) X d_MD_come_98 (hl_w 0 rfl hn) rfl i_MD (by decide) k_fl_MD_58 (fun _ h => h) rfl ?_
                    refine g_iload X d_MD_come_101 0 rfl ?_
                    refine g_aload_n X d_MD_come_103 2 rfl ?_
                    refine g_getf (k := 29) X d_MD_come_104 (hl_w 0 rfl hn) rfl i_MD (by decide) k_fl_MD_58 (fun _ h => h) rfl ?_
                    refine g_iload X d_MD_come_107 0 rfl ?_
                    refine g_iconst (nI 1) X d_MD_come_109 (by decide) ?_
                    refine g_isub X d_MD_come_110 ?_
                    refine g_vi (nI j2) (pk_sub (by omega)) ?_
                    refine h_iald X d_MD_come_111 (hl_w 3 rfl hn) (by omega) (by omega) ?_
                    refine h_iastN 3 [(h, .inr (6, [.int th, .int (nI M), .int (nI n), .ref y1, .ref y2, .ref y3, .int (nI u), .ref y4, .ref y5, .ref y6, .ref y7, .int (nI c), .ref y8, .ref y9, .ref y10, .ref y11, .ref y12, .int bd, .int ck, .int ps, .int (nI pa), .int lc, .int (nI (b2n fb)), .long ek, .long ev, .int (nI el), .int (nI fn), .ref y13, .ref y14, .ref y15, .ref y16, .int (nI js), .ref y17, .int (nI (b2n ib))])), (y13, .inl (.long, 500, .inr (.inl (va_up (shf GK fn (j2 + 1)) (j2 + 1) ((shf GK fn (j2 + 1)) j2))))), (y14, .inl (.long, 500, .inr (.inl (va_up (shf GV fn (j2 + 1)) (j2 + 1) ((shf GV fn (j2 + 1)) j2))))), (y15, .inl (.int, 500, .inl (fun q => nI ((va_up (shf Gz fn (j2 + 1)) (j2 + 1) ((shf Gz fn (j2 + 1)) j2)) q))))] X d_MD_come_112 hn rfl (by omega) (by omega) rfl ?_
                    refine g_iinc (nI j2) 0 [(7, .int (nI j2)), (6, .int (nI (plc GK k fn))), (0, .ref h), (1, .long k), (3, .long v), (5, .int (nI m))] X d_MD_come_113 rfl (pk_m1 _) (by decide) rfl ?_
                    refine g_goto 58 X d_MD_come_116 (by decide) ?_
                    refine g_hp (ws' := [(h, .inr (6, [.int th, .int (nI M), .int (nI n), .ref y1, .ref y2, .ref y3, .int (nI u), .ref y4, .ref y5, .ref y6, .ref y7, .int (nI c), .ref y8, .ref y9, .ref y10, .ref y11, .ref y12, .int bd, .int ck, .int ps, .int (nI pa), .int lc, .int (nI (b2n fb)), .long ek, .long ev, .int (nI el), .int (nI fn), .ref y13, .ref y14, .ref y15, .ref y16, .int (nI js), .ref y17, .int (nI (b2n ib))])), (y13, .inl (.long, 500, .inr (.inl (shf GK fn j2)))), (y14, .inl (.long, 500, .inr (.inl (shf GV fn j2)))), (y15, .inl (.int, 500, .inl (fun q => nI (((shf Gz fn j2)) q))))]) (by rw [← shf_s GK (show j2 + 1 ≤ fn by omega), ← shf_s GV (show j2 + 1 ≤ fn by omega), ← shf_s Gz (show j2 + 1 ≤ fn by omega), shf_low, shf_low, shf_low]) ?_
                    exact ih58 j2 (by omega) (by omega) (by omega)
              exact L58 _ fn (Nat.le_refl _) hl9 (Nat.lt_succ_self _)
            · have h48 := (lg_cmp_eq (GK (plc GK k fn)) k).mp h48
              have hf : plc GK k fn < fn ∧ GK (plc GK k fn) = k := ⟨h36, h48⟩
              exact g_vret X hr d_MD_come_51 (Nat.le_of_ble_eq_true rfl) (Nat.le_of_ble_eq_true rfl) (⟨rfl, by rw [adm_t hf]⟩)
        · have h21 := fun z => h21 ((lg_cmp_ge (GK j) k).mpr z)
          refine g_iinc (nI (j + 1)) 0 [(6, .int (nI (j + 1))), (0, .ref h), (1, .long k), (3, .long v), (5, .int (nI m))] X d_MD_come_24 rfl (nI_1 _) (by decide) rfl ?_
          refine g_goto 3 X d_MD_come_27 (by decide) ?_
          exact ih3 (j + 1) (by omega) (pl_s q2 (l_nle.mp h21)) (by omega)
  exact L3 _ 0 (Nat.zero_le _) (fun i hi => absurd hi (Nat.not_lt_zero _)) (Nat.lt_succ_self _)
