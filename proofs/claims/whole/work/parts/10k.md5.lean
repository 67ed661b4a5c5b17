set_option maxRecDepth 100000 in
set_option maxHeartbeats 1000000 in
theorem c_MD_may_in {l : Launch} (hst : l.stackTraces = false) {h y1 y2 y3 y4 y5 y6 y7 y8 y9 y10 y11 y12 y13 y14 y15 y16 y17 M n u c pa el fn js : Nat} {th bd ck ps lc : Int32} {fb ib : Bool} {ek ev : Int64} {fl : Nat → Int64} (hn : [h, y12].Nodup) {j : Nat} {k : Int64} (hj : j < c) (hc16 : c ≤ 16) : fh_C l fhCl fhT y_MD_may (.code y_MD_may b_MD_may 4 (some .boolean)) 1 23 [.ref h, .int (nI j), .long k] (hp [(h, .inr (6, [.int th, .int (nI M), .int (nI n), .ref y1, .ref y2, .ref y3, .int (nI u), .ref y4, .ref y5, .ref y6, .ref y7, .int (nI c), .ref y8, .ref y9, .ref y10, .ref y11, .ref y12, .int bd, .int ck, .int ps, .int (nI pa), .int lc, .int (nI (b2n fb)), .long ek, .long ev, .int (nI el), .int (nI fn), .ref y13, .ref y14, .ref y15, .ref y16, .int (nI js), .ref y17, .int (nI (b2n ib))])), (y12, .inl (.long, 17, .inr (.inl fl)))]) (hp []) 0 0 (fh_ret (some (.int (nI (b2n (decide (fl j &&& fbits k = fbits k)))))) [(h, .inr (6, [.int (nI 0), .int (nI M), .int (nI n), .ref y1, .ref y2, .ref y3, .int (nI u), .ref y4, .ref y5, .ref y6, .ref y7, .int (nI c), .ref y8, .ref y9, .ref y10, .ref y11, .ref y12, .int bd, .int ck, .int ps, .int (nI pa), .int lc, .int (nI (b2n fb)), .long ek, .long ev, .int (nI el), .int (nI fn), .ref y13, .ref y14, .ref y15, .ref y16, .int (nI js), .ref y17, .int (nI (b2n ib))])), (y12, .inl (.long, 17, .inr (.inl fl)))]) := by
  refine fh_enter (by decide) hst (Nat.le_of_ble_eq_true rfl) ?_
  intro mD mp me sm mm margs mbel mmet mcod X hr hnm hno hf0
  show fh_G mp l me (fh_rm 1 23 0 0) sm mm margs mbel mmet mcod mD fhCl (hp [(h, .inr (6, [.int th, .int (nI M), .int (nI n), .ref y1, .ref y2, .ref y3, .int (nI u), .ref y4, .ref y5, .ref y6, .ref y7, .int (nI c), .ref y8, .ref y9, .ref y10, .ref y11, .ref y12, .int bd, .int ck, .int ps, .int (nI pa), .int lc, .int (nI (b2n fb)), .long ek, .long ev, .int (nI el), .int (nI fn), .ref y13, .ref y14, .ref y15, .ref y16, .int (nI js), .ref y17, .int (nI (b2n ib))])), (y12, .inl (.long, 17, .inr (.inl fl)))]) 4 _ 0 0 (hp [(h, .inr (6, [.int th, .int (nI M), .int (nI n), .ref y1, .ref y2, .ref y3, .int (nI u), .ref y4, .ref y5, .ref y6, .ref y7, .int (nI c), .ref y8, .ref y9, .ref y10, .ref y11, .ref y12, .int bd, .int ck, .int ps, .int (nI pa), .int lc, .int (nI (b2n fb)), .long ek, .long ev, .int (nI el), .int (nI fn), .ref y13, .ref y14, .ref y15, .ref y16, .int (nI js), .ref y17, .int (nI (b2n ib))])), (y12, .inl (.long, 17, .inr (.inl fl)))]) 0 [(0, .ref h), (1, .int (nI j)), (2, .long k)] []
  have hx := win_in hj (by omega)
  refine g_aload_n X d_MD_may_0 0 rfl ?_
  refine g_iload_n X d_MD_may_1 1 rfl ?_
  refine g_iconst (nI 0) X d_MD_may_2 (by decide) ?_
  refine g_aload_n X d_MD_may_3 0 rfl ?_
  refine g_getf (k := 11) X d_MD_may_4 (hl_w 0 rfl hn) rfl i_MD (by decide) k_fl_MD_136 (fun _ h => h) rfl ?_
  refine g_iconst (nI 1) X d_MD_may_7 (by decide) ?_
  refine g_isub X d_MD_may_8 ?_
  refine h_callS (As := [.int (nI j), .int (nI 0), .int ((nI c) - (nI 1))]) (st := [.ref h]) [] [(h, .inr (6, [.int th, .int (nI M), .int (nI n), .ref y1, .ref y2, .ref y3, .int (nI u), .ref y4, .ref y5, .ref y6, .ref y7, .int (nI c), .ref y8, .ref y9, .ref y10, .ref y11, .ref y12, .int bd, .int ck, .int ps, .int (nI pa), .int lc, .int (nI (b2n fb)), .long ek, .long ev, .int (nI el), .int (nI fn), .ref y13, .ref y14, .ref y15, .ref y16, .int (nI js), .ref y17, .int (nI (b2n ib))])), (y12, .inl (.long, 17, .inr (.inl fl)))] X d_MD_may_9 (c_MD_within hst) rfl k_ml_MD_109 k_cd_MD_within k_in_MD k_st_MD_within ⟨by decide +kernel, by decide +kernel, (by decide +kernel : (parseMethodDescriptor y_MD_within.desc).map (fun d => d.parameters.length) = some 3)⟩ ⟨Nat.le_of_ble_eq_true rfl, Nat.le_of_ble_eq_true rfl⟩ ⟨Nat.le_of_ble_eq_true rfl, Nat.le_of_ble_eq_true rfl⟩ (Nat.le_of_ble_eq_true rfl) hn rfl rfl rfl hp_no hp_no2 ?_
  refine g_if_eq 19 X d_MD_may_12 (by decide) (fun h12 => ?_) (fun h12 => ?_)
  · have h12 := cv_e0 (b2n_31 _) h12
    rw [hx] at h12
    exact absurd h12 (by decide)
  · have h12 := cv_n0 (b2n_31 _) h12
    refine g_iconst (nI 0) X d_MD_may_15 (by decide) ?_
    refine g_goto 20 X d_MD_may_16 (by decide) ?_
    refine h_putf (k := 0) (ty := .int) 0 [(h, .inr (6, [.int (nI 0), .int (nI M), .int (nI n), .ref y1, .ref y2, .ref y3, .int (nI u), .ref y4, .ref y5, .ref y6, .ref y7, .int (nI c), .ref y8, .ref y9, .ref y10, .ref y11, .ref y12, .int bd, .int ck, .int ps, .int (nI pa), .int lc, .int (nI (b2n fb)), .long ek, .long ev, .int (nI el), .int (nI fn), .ref y13, .ref y14, .ref y15, .ref y16, .int (nI js), .ref y17, .int (nI (b2n ib))])), (y12, .inl (.long, 17, .inr (.inl fl)))] X d_MD_may_20 hn rfl rfl i_MD t_MD t_MD_ok n_MD (by decide) k_fl_MD_70 (fun _ h => h) rfl (by decide +kernel) rfl rfl (Nat.le_of_ble_eq_true rfl) rfl ?_
    refine g_aload_n X d_MD_may_23 0 rfl ?_
    refine g_getf (k := 0) X d_MD_may_24 (hl_w 0 rfl hn) rfl i_MD (by decide) k_fl_MD_70 (fun _ h => h) rfl ?_
    refine g_if_ne 53 X d_MD_may_27 (by decide) (fun h27 => ?_) (fun h27 => ?_)
    · have h27 := cv_n0 (by omega) h27
      omega
    · have h27 := cv_e0 (by omega) h27
      refine g_aload_n X d_MD_may_30 0 rfl ?_
      refine g_getf (k := 16) X d_MD_may_31 (hl_w 0 rfl hn) rfl i_MD (by decide) k_fl_MD_45 (fun _ h => h) rfl ?_
      refine g_iload_n X d_MD_may_34 1 rfl ?_
      refine h_lald X d_MD_may_35 (hl_w 1 rfl hn) (by omega) (by omega) ?_
      refine g_lload_n X d_MD_may_36 2 rfl ?_
      refine h_callS (As := [.long k]) (st := [.long (fl j)]) [] [(h, .inr (6, [.int (nI 0), .int (nI M), .int (nI n), .ref y1, .ref y2, .ref y3, .int (nI u), .ref y4, .ref y5, .ref y6, .ref y7, .int (nI c), .ref y8, .ref y9, .ref y10, .ref y11, .ref y12, .int bd, .int ck, .int ps, .int (nI pa), .int lc, .int (nI (b2n fb)), .long ek, .long ev, .int (nI el), .int (nI fn), .ref y13, .ref y14, .ref y15, .ref y16, .int (nI js), .ref y17, .int (nI (b2n ib))])), (y12, .inl (.long, 17, .inr (.inl fl)))] X d_MD_may_37 (c_MD_bitsOf hst) rfl k_ml_MD_152 k_cd_MD_bitsOf k_in_MD k_st_MD_bitsOf ⟨by decide +kernel, by decide +kernel, (by decide +kernel : (parseMethodDescriptor y_MD_bitsOf.desc).map (fun d => d.parameters.length) = some 1)⟩ ⟨Nat.le_of_ble_eq_true rfl, Nat.le_of_ble_eq_true rfl⟩ ⟨Nat.le_of_ble_eq_true rfl, Nat.le_of_ble_eq_true rfl⟩ (Nat.le_of_ble_eq_true rfl) hn rfl rfl rfl hp_no hp_no2 ?_
      refine g_land X d_MD_may_40 ?_
      refine g_lload_n X d_MD_may_41 2 rfl ?_
      refine h_callS (As := [.long k]) (st := [.long ((fl j) &&& (fbits k))]) [] [(h, .inr (6, [.int (nI 0), .int (nI M), .int (nI n), .ref y1, .ref y2, .ref y3, .int (nI u), .ref y4, .ref y5, .ref y6, .ref y7, .int (nI c), .ref y8, .ref y9, .ref y10, .ref y11, .ref y12, .int bd, .int ck, .int ps, .int (nI pa), .int lc, .int (nI (b2n fb)), .long ek, .long ev, .int (nI el), .int (nI fn), .ref y13, .ref y14, .ref y15, .ref y16, .int (nI js), .ref y17, .int (nI (b2n ib))])), (y12, .inl (.long, 17, .inr (.inl fl)))] X d_MD_may_42 (c_MD_bitsOf hst) rfl k_ml_MD_152 k_cd_MD_bitsOf k_in_MD k_st_MD_bitsOf ⟨by decide +kernel, by decide +kernel, (by decide +kernel : (parseMethodDescriptor y_MD_bitsOf.desc).map (fun d => d.parameters.length) = some 1)⟩ ⟨Nat.le_of_ble_eq_true rfl, Nat.le_of_ble_eq_true rfl⟩ ⟨Nat.le_of_ble_eq_true rfl, Nat.le_of_ble_eq_true rfl⟩ (Nat.le_of_ble_eq_true rfl) hn rfl rfl rfl hp_no hp_no2 ?_
      refine g_lcmp X d_MD_may_45 ?_
      refine g_if_ne 53 X d_MD_may_46 (by decide) (fun h46 => ?_) (fun h46 => ?_)
      · have h46 := fun z => h46 ((lg_cmp_eq ((fl j) &&& (fbits k)) (fbits k)).mpr z)
        have hw9 : b2n (decide (fl j &&& fbits k = fbits k)) = 0 := by rw [decide_eq_false h46]; rfl
        refine g_iconst (nI 0) X d_MD_may_53 (by decide) ?_
        exact g_zret X hr rfl d_MD_may_54 (Nat.le_of_ble_eq_true rfl) (Nat.le_of_ble_eq_true rfl) (⟨by rw [hw9], rfl⟩)
      · have h46 := (lg_cmp_eq ((fl j) &&& (fbits k)) (fbits k)).mp h46
        have hw9 : b2n (decide (fl j &&& fbits k = fbits k)) = 1 := by rw [decide_eq_true h46]; rfl
        refine g_iconst (nI 1) X d_MD_may_49 (by decide) ?_
        refine g_goto 54 X d_MD_may_50 (by decide) ?_
        exact g_zret X hr rfl d_MD_may_54 (Nat.le_of_ble_eq_true rfl) (Nat.le_of_ble_eq_true rfl) (⟨by rw [hw9], rfl⟩)

set_option maxRecDepth 100000 in
set_option maxHeartbeats 1000000 in
theorem c_MD_may_no {l : Launch} (hst : l.stackTraces = false) {h y1 y2 y3 y4 y5 y6 y7 y8 y9 y10 y11 y12 y13 y14 y15 y16 y17 M n u c pa el fn js : Nat} {th bd ck ps lc : Int32} {fb ib : Bool} {ek ev : Int64} {fl : Nat → Int64} (hn : [h, y12].Nodup) {j : Int32} {k : Int64} (hx : j < 0 ∨ nI c ≤ j) (hc16 : c ≤ 16) : fh_C l fhCl fhT y_MD_may (.code y_MD_may b_MD_may 4 (some .boolean)) 1 23 [.ref h, .int j, .long k] (hp [(h, .inr (6, [.int th, .int (nI M), .int (nI n), .ref y1, .ref y2, .ref y3, .int (nI u), .ref y4, .ref y5, .ref y6, .ref y7, .int (nI c), .ref y8, .ref y9, .ref y10, .ref y11, .ref y12, .int bd, .int ck, .int ps, .int (nI pa), .int lc, .int (nI (b2n fb)), .long ek, .long ev, .int (nI el), .int (nI fn), .ref y13, .ref y14, .ref y15, .ref y16, .int (nI js), .ref y17, .int (nI (b2n ib))])), (y12, .inl (.long, 17, .inr (.inl fl)))]) (hp []) 0 0 (fh_ret (some (.int (nI 0))) [(h, .inr (6, [.int (nI 1), .int (nI M), .int (nI n), .ref y1, .ref y2, .ref y3, .int (nI u), .ref y4, .ref y5, .ref y6, .ref y7, .int (nI c), .ref y8, .ref y9, .ref y10, .ref y11, .ref y12, .int bd, .int ck, .int ps, .int (nI pa), .int lc, .int (nI (b2n fb)), .long ek, .long ev, .int (nI el), .int (nI fn), .ref y13, .ref y14, .ref y15, .ref y16, .int (nI js), .ref y17, .int (nI (b2n ib))])), (y12, .inl (.long, 17, .inr (.inl fl)))]) := by
  refine fh_enter (by decide) hst (Nat.le_of_ble_eq_true rfl) ?_
  intro mD mp me sm mm margs mbel mmet mcod X hr hnm hno hf0
  show fh_G mp l me (fh_rm 1 23 0 0) sm mm margs mbel mmet mcod mD fhCl (hp [(h, .inr (6, [.int th, .int (nI M), .int (nI n), .ref y1, .ref y2, .ref y3, .int (nI u), .ref y4, .ref y5, .ref y6, .ref y7, .int (nI c), .ref y8, .ref y9, .ref y10, .ref y11, .ref y12, .int bd, .int ck, .int ps, .int (nI pa), .int lc, .int (nI (b2n fb)), .long ek, .long ev, .int (nI el), .int (nI fn), .ref y13, .ref y14, .ref y15, .ref y16, .int (nI js), .ref y17, .int (nI (b2n ib))])), (y12, .inl (.long, 17, .inr (.inl fl)))]) 4 _ 0 0 (hp [(h, .inr (6, [.int th, .int (nI M), .int (nI n), .ref y1, .ref y2, .ref y3, .int (nI u), .ref y4, .ref y5, .ref y6, .ref y7, .int (nI c), .ref y8, .ref y9, .ref y10, .ref y11, .ref y12, .int bd, .int ck, .int ps, .int (nI pa), .int lc, .int (nI (b2n fb)), .long ek, .long ev, .int (nI el), .int (nI fn), .ref y13, .ref y14, .ref y15, .ref y16, .int (nI js), .ref y17, .int (nI (b2n ib))])), (y12, .inl (.long, 17, .inr (.inl fl)))]) 0 [(0, .ref h), (1, .int j), (2, .long k)] []
  have hx9 := win_no (by omega) hx
  refine g_aload_n X d_MD_may_0 0 rfl ?_
  refine g_iload_n X d_MD_may_1 1 rfl ?_
  refine g_iconst (nI 0) X d_MD_may_2 (by decide) ?_
  refine g_aload_n X d_MD_may_3 0 rfl ?_
  refine g_getf (k := 11) X d_MD_may_4 (hl_w 0 rfl hn) rfl i_MD (by decide) k_fl_MD_136 (fun _ h => h) rfl ?_
  refine g_iconst (nI 1) X d_MD_may_7 (by decide) ?_
  refine g_isub X d_MD_may_8 ?_
  refine h_callS (As := [.int j, .int (nI 0), .int ((nI c) - (nI 1))]) (st := [.ref h]) [] [(h, .inr (6, [.int th, .int (nI M), .int (nI n), .ref y1, .ref y2, .ref y3, .int (nI u), .ref y4, .ref y5, .ref y6, .ref y7, .int (nI c), .ref y8, .ref y9, .ref y10, .ref y11, .ref y12, .int bd, .int ck, .int ps, .int (nI pa), .int lc, .int (nI (b2n fb)), .long ek, .long ev, .int (nI el), .int (nI fn), .ref y13, .ref y14, .ref y15, .ref y16, .int (nI js), .ref y17, .int (nI (b2n ib))])), (y12, .inl (.long, 17, .inr (.inl fl)))] X d_MD_may_9 (c_MD_within hst) rfl k_ml_MD_109 k_cd_MD_within k_in_MD k_st_MD_within ⟨by decide +kernel, by decide +kernel, (by decide +kernel : (parseMethodDescriptor y_MD_within.desc).map (fun d => d.parameters.length) = some 3)⟩ ⟨Nat.le_of_ble_eq_true rfl, Nat.le_of_ble_eq_true rfl⟩ ⟨Nat.le_of_ble_eq_true rfl, Nat.le_of_ble_eq_true rfl⟩ (Nat.le_of_ble_eq_true rfl) hn rfl rfl rfl hp_no hp_no2 ?_
  refine g_if_eq 19 X d_MD_may_12 (by decide) (fun h12 => ?_) (fun h12 => ?_)
  · have h12 := cv_e0 (b2n_31 _) h12
    refine g_iconst (nI 1) X d_MD_may_19 (by decide) ?_
    refine h_putf (k := 0) (ty := .int) 0 [(h, .inr (6, [.int (nI 1), .int (nI M), .int (nI n), .ref y1, .ref y2, .ref y3, .int (nI u), .ref y4, .ref y5, .ref y6, .ref y7, .int (nI c), .ref y8, .ref y9, .ref y10, .ref y11, .ref y12, .int bd, .int ck, .int ps, .int (nI pa), .int lc, .int (nI (b2n fb)), .long ek, .long ev, .int (nI el), .int (nI fn), .ref y13, .ref y14, .ref y15, .ref y16, .int (nI js), .ref y17, .int (nI (b2n ib))])), (y12, .inl (.long, 17, .inr (.inl fl)))] X d_MD_may_20 hn rfl rfl i_MD t_MD t_MD_ok n_MD (by decide) k_fl_MD_70 (fun _ h => h) rfl (by decide +kernel) rfl rfl (Nat.le_of_ble_eq_true rfl) rfl ?_
    refine g_aload_n X d_MD_may_23 0 rfl ?_
    refine g_getf (k := 0) X d_MD_may_24 (hl_w 0 rfl hn) rfl i_MD (by decide) k_fl_MD_70 (fun _ h => h) rfl ?_
    refine g_if_ne 53 X d_MD_may_27 (by decide) (fun h27 => ?_) (fun h27 => ?_)
    · have h27 := cv_n0 (by omega) h27
      refine g_iconst (nI 0) X d_MD_may_53 (by decide) ?_
      exact g_zret X hr rfl d_MD_may_54 (Nat.le_of_ble_eq_true rfl) (Nat.le_of_ble_eq_true rfl) (⟨rfl, rfl⟩)
    · have h27 := cv_e0 (by omega) h27
      omega
  · have h12 := cv_n0 (b2n_31 _) h12
    rw [hx9] at h12
    exact absurd h12 (by decide)

set_option maxRecDepth 100000 in
set_option maxHeartbeats 1000000 in
theorem c_MD_table_0 {l : Launch} (hst : l.stackTraces = false) {h y1 y2 y3 y4 y5 y6 y7 y8 y9 y10 y11 y12 y13 y14 y15 y16 y17 M n u c pa el fn js : Nat} {th bd ck ps lc : Int32} {fb ib : Bool} {ek ev : Int64} {lv : Nat → Nat} {en : Nat → Nat} {mn : Nat → Nat} {bk : Nat → Nat} (hn : [h, y8, y9, y10, y11].Nodup) {j : Nat} (hj : j < c) (hc16 : c ≤ 16) : fh_C l fhCl fhT y_MD_table (.code y_MD_table b_MD_table 3 (some .int)) 1 22 [.ref h, .int (nI j), .int (nI 0)] (hp [(h, .inr (6, [.int th, .int (nI M), .int (nI n), .ref y1, .ref y2, .ref y3, .int (nI u), .ref y4, .ref y5, .ref y6, .ref y7, .int (nI c), .ref y8, .ref y9, .ref y10, .ref y11, .ref y12, .int bd, .int ck, .int ps, .int (nI pa), .int lc, .int (nI (b2n fb)), .long ek, .long ev, .int (nI el), .int (nI fn), .ref y13, .ref y14, .ref y15, .ref y16, .int (nI js), .ref y17, .int (nI (b2n ib))])), (y8, .inl (.int, 17, .inl (fun q => nI (lv q)))), (y9, .inl (.int, 17, .inl (fun q => nI (en q)))), (y10, .inl (.int, 17, .inl (fun q => nI (mn q)))), (y11, .inl (.int, 2176, .inl (fun q => nI (bk q))))]) (hp []) 0 0 (fh_ret (some (.int (nI (lv j)))) [(h, .inr (6, [.int (nI 0), .int (nI M), .int (nI n), .ref y1, .ref y2, .ref y3, .int (nI u), .ref y4, .ref y5, .ref y6, .ref y7, .int (nI c), .ref y8, .ref y9, .ref y10, .ref y11, .ref y12, .int bd, .int ck, .int ps, .int (nI pa), .int lc, .int (nI (b2n fb)), .long ek, .long ev, .int (nI el), .int (nI fn), .ref y13, .ref y14, .ref y15, .ref y16, .int (nI js), .ref y17, .int (nI (b2n ib))])), (y8, .inl (.int, 17, .inl (fun q => nI (lv q)))), (y9, .inl (.int, 17, .inl (fun q => nI (en q)))), (y10, .inl (.int, 17, .inl (fun q => nI (mn q)))), (y11, .inl (.int, 2176, .inl (fun q => nI (bk q))))]) := by
  refine fh_enter (by decide) hst (Nat.le_of_ble_eq_true rfl) ?_
  intro mD mp me sm mm margs mbel mmet mcod X hr hnm hno hf0
  show fh_G mp l me (fh_rm 1 22 0 0) sm mm margs mbel mmet mcod mD fhCl (hp [(h, .inr (6, [.int th, .int (nI M), .int (nI n), .ref y1, .ref y2, .ref y3, .int (nI u), .ref y4, .ref y5, .ref y6, .ref y7, .int (nI c), .ref y8, .ref y9, .ref y10, .ref y11, .ref y12, .int bd, .int ck, .int ps, .int (nI pa), .int lc, .int (nI (b2n fb)), .long ek, .long ev, .int (nI el), .int (nI fn), .ref y13, .ref y14, .ref y15, .ref y16, .int (nI js), .ref y17, .int (nI (b2n ib))])), (y8, .inl (.int, 17, .inl (fun q => nI (lv q)))), (y9, .inl (.int, 17, .inl (fun q => nI (en q)))), (y10, .inl (.int, 17, .inl (fun q => nI (mn q)))), (y11, .inl (.int, 2176, .inl (fun q => nI (bk q))))]) 3 _ 0 0 (hp [(h, .inr (6, [.int th, .int (nI M), .int (nI n), .ref y1, .ref y2, .ref y3, .int (nI u), .ref y4, .ref y5, .ref y6, .ref y7, .int (nI c), .ref y8, .ref y9, .ref y10, .ref y11, .ref y12, .int bd, .int ck, .int ps, .int (nI pa), .int lc, .int (nI (b2n fb)), .long ek, .long ev, .int (nI el), .int (nI fn), .ref y13, .ref y14, .ref y15, .ref y16, .int (nI js), .ref y17, .int (nI (b2n ib))])), (y8, .inl (.int, 17, .inl (fun q => nI (lv q)))), (y9, .inl (.int, 17, .inl (fun q => nI (en q)))), (y10, .inl (.int, 17, .inl (fun q => nI (mn q)))), (y11, .inl (.int, 2176, .inl (fun q => nI (bk q))))]) 0 [(0, .ref h), (1, .int (nI j)), (2, .int (nI 0))] []
  have hx := win_in hj (by omega)
  have hy9 := win_ki (show 0 ≤ 3 by decide) (by decide)
  refine g_aload_n X d_MD_table_0 0 rfl ?_
  refine g_iconst (nI 0) X d_MD_table_1 (by decide) ?_
  refine h_putf (k := 0) (ty := .int) 0 [(h, .inr (6, [.int (nI 0), .int (nI M), .int (nI n), .ref y1, .ref y2, .ref y3, .int (nI u), .ref y4, .ref y5, .ref y6, .ref y7, .int (nI c), .ref y8, .ref y9, .ref y10, .ref y11, .ref y12, .int bd, .int ck, .int ps, .int (nI pa), .int lc, .int (nI (b2n fb)), .long ek, .long ev, .int (nI el), .int (nI fn), .ref y13, .ref y14, .ref y15, .ref y16, .int (nI js), .ref y17, .int (nI (b2n ib))])), (y8, .inl (.int, 17, .inl (fun q => nI (lv q)))), (y9, .inl (.int, 17, .inl (fun q => nI (en q)))), (y10, .inl (.int, 17, .inl (fun q => nI (mn q)))), (y11, .inl (.int, 2176, .inl (fun q => nI (bk q))))] X d_MD_table_2 hn rfl rfl i_MD t_MD t_MD_ok n_MD (by decide) k_fl_MD_70 (fun _ h => h) rfl (by decide +kernel) rfl rfl (Nat.le_of_ble_eq_true rfl) rfl ?_
  refine g_iload_n X d_MD_table_5 1 rfl ?_
  refine g_iconst (nI 0) X d_MD_table_6 (by decide) ?_
  refine g_aload_n X d_MD_table_7 0 rfl ?_
  refine g_getf (k := 11) X d_MD_table_8 (hl_w 0 rfl hn) rfl i_MD (by decide) k_fl_MD_136 (fun _ h => h) rfl ?_
  refine g_iconst (nI 1) X d_MD_table_11 (by decide) ?_
  refine g_isub X d_MD_table_12 ?_
  refine h_callS (As := [.int (nI j), .int (nI 0), .int ((nI c) - (nI 1))]) (st := []) [] [(h, .inr (6, [.int (nI 0), .int (nI M), .int (nI n), .ref y1, .ref y2, .ref y3, .int (nI u), .ref y4, .ref y5, .ref y6, .ref y7, .int (nI c), .ref y8, .ref y9, .ref y10, .ref y11, .ref y12, .int bd, .int ck, .int ps, .int (nI pa), .int lc, .int (nI (b2n fb)), .long ek, .long ev, .int (nI el), .int (nI fn), .ref y13, .ref y14, .ref y15, .ref y16, .int (nI js), .ref y17, .int (nI (b2n ib))])), (y8, .inl (.int, 17, .inl (fun q => nI (lv q)))), (y9, .inl (.int, 17, .inl (fun q => nI (en q)))), (y10, .inl (.int, 17, .inl (fun q => nI (mn q)))), (y11, .inl (.int, 2176, .inl (fun q => nI (bk q))))] X d_MD_table_13 (c_MD_within hst) rfl k_ml_MD_109 k_cd_MD_within k_in_MD k_st_MD_within ⟨by decide +kernel, by decide +kernel, (by decide +kernel : (parseMethodDescriptor y_MD_within.desc).map (fun d => d.parameters.length) = some 3)⟩ ⟨Nat.le_of_ble_eq_true rfl, Nat.le_of_ble_eq_true rfl⟩ ⟨Nat.le_of_ble_eq_true rfl, Nat.le_of_ble_eq_true rfl⟩ (Nat.le_of_ble_eq_true rfl) hn rfl rfl rfl hp_no hp_no2 ?_
  refine g_if_eq 28 X d_MD_table_16 (by decide) (fun h16 => ?_) (fun h16 => ?_)
  · have h16 := cv_e0 (b2n_31 _) h16
    rw [hx] at h16
    exact absurd h16 (by decide)
  · have h16 := cv_n0 (b2n_31 _) h16
    refine g_iload_n X d_MD_table_19 2 rfl ?_
    refine g_iconst (nI 0) X d_MD_table_20 (by decide) ?_
    refine g_iconst (nI 3) X d_MD_table_21 (by decide) ?_
    refine h_callS (As := [.int (nI 0), .int (nI 0), .int (nI 3)]) (st := []) [] [(h, .inr (6, [.int (nI 0), .int (nI M), .int (nI n), .ref y1, .ref y2, .ref y3, .int (nI u), .ref y4, .ref y5, .ref y6, .ref y7, .int (nI c), .ref y8, .ref y9, .ref y10, .ref y11, .ref y12, .int bd, .int ck, .int ps, .int (nI pa), .int lc, .int (nI (b2n fb)), .long ek, .long ev, .int (nI el), .int (nI fn), .ref y13, .ref y14, .ref y15, .ref y16, .int (nI js), .ref y17, .int (nI (b2n ib))])), (y8, .inl (.int, 17, .inl (fun q => nI (lv q)))), (y9, .inl (.int, 17, .inl (fun q => nI (en q)))), (y10, .inl (.int, 17, .inl (fun q => nI (mn q)))), (y11, .inl (.int, 2176, .inl (fun q => nI (bk q))))] X d_MD_table_22 (c_MD_within hst) rfl k_ml_MD_109 k_cd_MD_within k_in_MD k_st_MD_within ⟨by decide +kernel, by decide +kernel, (by decide +kernel : (parseMethodDescriptor y_MD_within.desc).map (fun d => d.parameters.length) = some 3)⟩ ⟨Nat.le_of_ble_eq_true rfl, Nat.le_of_ble_eq_true rfl⟩ ⟨Nat.le_of_ble_eq_true rfl, Nat.le_of_ble_eq_true rfl⟩ (Nat.le_of_ble_eq_true rfl) hn rfl rfl rfl hp_no hp_no2 ?_
    refine g_if_ne 34 X d_MD_table_25 (by decide) (fun h25 => ?_) (fun h25 => ?_)
    · have h25 := cv_n0 (b2n_31 _) h25
      refine g_iload_n X d_MD_table_34 2 rfl ?_
      refine g_if_ne 47 X d_MD_table_35 (by decide) (fun h35 => ?_) (fun h35 => ?_)
      · have h35 := cv_n0 (by omega) h35
        omega
      · have h35 := cv_e0 (by omega) h35
        refine g_aload_n X d_MD_table_38 0 rfl ?_
        refine g_getf (k := 12) X d_MD_table_39 (hl_w 0 rfl hn) rfl i_MD (by decide) k_fl_MD_33 (fun _ h => h) rfl ?_
        refine g_iload_n X d_MD_table_42 1 rfl ?_
        refine h_iald X d_MD_table_43 (hl_w 1 rfl hn) (by omega) (by omega) ?_
        refine g_goto 85 X d_MD_table_44 (by decide) ?_
        exact g_iret X hr d_MD_table_85 (Nat.le_of_ble_eq_true rfl) (Nat.le_of_ble_eq_true rfl) (fh_ret_i)
    · have h25 := cv_e0 (b2n_31 _) h25
      rw [hy9] at h25
      exact absurd h25 (by decide)

set_option maxRecDepth 100000 in
set_option maxHeartbeats 1000000 in
theorem c_MD_table_1 {l : Launch} (hst : l.stackTraces = false) {h y1 y2 y3 y4 y5 y6 y7 y8 y9 y10 y11 y12 y13 y14 y15 y16 y17 M n u c pa el fn js : Nat} {th bd ck ps lc : Int32} {fb ib : Bool} {ek ev : Int64} {lv : Nat → Nat} {en : Nat → Nat} {mn : Nat → Nat} {bk : Nat → Nat} (hn : [h, y8, y9, y10, y11].Nodup) {j : Nat} (hj : j < c) (hc16 : c ≤ 16) : fh_C l fhCl fhT y_MD_table (.code y_MD_table b_MD_table 3 (some .int)) 1 22 [.ref h, .int (nI j), .int (nI 1)] (hp [(h, .inr (6, [.int th, .int (nI M), .int (nI n), .ref y1, .ref y2, .ref y3, .int (nI u), .ref y4, .ref y5, .ref y6, .ref y7, .int (nI c), .ref y8, .ref y9, .ref y10, .ref y11, .ref y12, .int bd, .int ck, .int ps, .int (nI pa), .int lc, .int (nI (b2n fb)), .long ek, .long ev, .int (nI el), .int (nI fn), .ref y13, .ref y14, .ref y15, .ref y16, .int (nI js), .ref y17, .int (nI (b2n ib))])), (y8, .inl (.int, 17, .inl (fun q => nI (lv q)))), (y9, .inl (.int, 17, .inl (fun q => nI (en q)))), (y10, .inl (.int, 17, .inl (fun q => nI (mn q)))), (y11, .inl (.int, 2176, .inl (fun q => nI (bk q))))]) (hp []) 0 0 (fh_ret (some (.int (nI (en j)))) [(h, .inr (6, [.int (nI 0), .int (nI M), .int (nI n), .ref y1, .ref y2, .ref y3, .int (nI u), .ref y4, .ref y5, .ref y6, .ref y7, .int (nI c), .ref y8, .ref y9, .ref y10, .ref y11, .ref y12, .int bd, .int ck, .int ps, .int (nI pa), .int lc, .int (nI (b2n fb)), .long ek, .long ev, .int (nI el), .int (nI fn), .ref y13, .ref y14, .ref y15, .ref y16, .int (nI js), .ref y17, .int (nI (b2n ib))])), (y8, .inl (.int, 17, .inl (fun q => nI (lv q)))), (y9, .inl (.int, 17, .inl (fun q => nI (en q)))), (y10, .inl (.int, 17, .inl (fun q => nI (mn q)))), (y11, .inl (.int, 2176, .inl (fun q => nI (bk q))))]) := by
  refine fh_enter (by decide) hst (Nat.le_of_ble_eq_true rfl) ?_
  intro mD mp me sm mm margs mbel mmet mcod X hr hnm hno hf0
  show fh_G mp l me (fh_rm 1 22 0 0) sm mm margs mbel mmet mcod mD fhCl (hp [(h, .inr (6, [.int th, .int (nI M), .int (nI n), .ref y1, .ref y2, .ref y3, .int (nI u), .ref y4, .ref y5, .ref y6, .ref y7, .int (nI c), .ref y8, .ref y9, .ref y10, .ref y11, .ref y12, .int bd, .int ck, .int ps, .int (nI pa), .int lc, .int (nI (b2n fb)), .long ek, .long ev, .int (nI el), .int (nI fn), .ref y13, .ref y14, .ref y15, .ref y16, .int (nI js), .ref y17, .int (nI (b2n ib))])), (y8, .inl (.int, 17, .inl (fun q => nI (lv q)))), (y9, .inl (.int, 17, .inl (fun q => nI (en q)))), (y10, .inl (.int, 17, .inl (fun q => nI (mn q)))), (y11, .inl (.int, 2176, .inl (fun q => nI (bk q))))]) 3 _ 0 0 (hp [(h, .inr (6, [.int th, .int (nI M), .int (nI n), .ref y1, .ref y2, .ref y3, .int (nI u), .ref y4, .ref y5, .ref y6, .ref y7, .int (nI c), .ref y8, .ref y9, .ref y10, .ref y11, .ref y12, .int bd, .int ck, .int ps, .int (nI pa), .int lc, .int (nI (b2n fb)), .long ek, .long ev, .int (nI el), .int (nI fn), .ref y13, .ref y14, .ref y15, .ref y16, .int (nI js), .ref y17, .int (nI (b2n ib))])), (y8, .inl (.int, 17, .inl (fun q => nI (lv q)))), (y9, .inl (.int, 17, .inl (fun q => nI (en q)))), (y10, .inl (.int, 17, .inl (fun q => nI (mn q)))), (y11, .inl (.int, 2176, .inl (fun q => nI (bk q))))]) 0 [(0, .ref h), (1, .int (nI j)), (2, .int (nI 1))] []
  have hx := win_in hj (by omega)
  have hy9 := win_ki (show 1 ≤ 3 by decide) (by decide)
  refine g_aload_n X d_MD_table_0 0 rfl ?_
  refine g_iconst (nI 0) X d_MD_table_1 (by decide) ?_
  refine h_putf (k := 0) (ty := .int) 0 [(h, .inr (6, [.int (nI 0), .int (nI M), .int (nI n), .ref y1, .ref y2, .ref y3, .int (nI u), .ref y4, .ref y5, .ref y6, .ref y7, .int (nI c), .ref y8, .ref y9, .ref y10, .ref y11, .ref y12, .int bd, .int ck, .int ps, .int (nI pa), .int lc, .int (nI (b2n fb)), .long ek, .long ev, .int (nI el), .int (nI fn), .ref y13, .ref y14, .ref y15, .ref y16, .int (nI js), .ref y17, .int (nI (b2n ib))])), (y8, .inl (.int, 17, .inl (fun q => nI (lv q)))), (y9, .inl (.int, 17, .inl (fun q => nI (en q)))), (y10, .inl (.int, 17, .inl (fun q => nI (mn q)))), (y11, .inl (.int, 2176, .inl (fun q => nI (bk q))))] X d_MD_table_2 hn rfl rfl i_MD t_MD t_MD_ok n_MD (by decide) k_fl_MD_70 (fun _ h => h) rfl (by decide +kernel) rfl rfl (Nat.le_of_ble_eq_true rfl) rfl ?_
  refine g_iload_n X d_MD_table_5 1 rfl ?_
  refine g_iconst (nI 0) X d_MD_table_6 (by decide) ?_
  refine g_aload_n X d_MD_table_7 0 rfl ?_
  refine g_getf (k := 11) X d_MD_table_8 (hl_w 0 rfl hn) rfl i_MD (by decide) k_fl_MD_136 (fun _ h => h) rfl ?_
  refine g_iconst (nI 1) X d_MD_table_11 (by decide) ?_
  refine g_isub X d_MD_table_12 ?_
  refine h_callS (As := [.int (nI j), .int (nI 0), .int ((nI c) - (nI 1))]) (st := []) [] [(h, .inr (6, [.int (nI 0), .int (nI M), .int (nI n), .ref y1, .ref y2, .ref y3, .int (nI u), .ref y4, .ref y5, .ref y6, .ref y7, .int (nI c), .ref y8, .ref y9, .ref y10, .ref y11, .ref y12, .int bd, .int ck, .int ps, .int (nI pa), .int lc, .int (nI (b2n fb)), .long ek, .long ev, .int (nI el), .int (nI fn), .ref y13, .ref y14, .ref y15, .ref y16, .int (nI js), .ref y17, .int (nI (b2n ib))])), (y8, .inl (.int, 17, .inl (fun q => nI (lv q)))), (y9, .inl (.int, 17, .inl (fun q => nI (en q)))), (y10, .inl (.int, 17, .inl (fun q => nI (mn q)))), (y11, .inl (.int, 2176, .inl (fun q => nI (bk q))))] X d_MD_table_13 (c_MD_within hst) rfl k_ml_MD_109 k_cd_MD_within k_in_MD k_st_MD_within ⟨by decide +kernel, by decide +kernel, (by decide +kernel : (parseMethodDescriptor y_MD_within.desc).map (fun d => d.parameters.length) = some 3)⟩ ⟨Nat.le_of_ble_eq_true rfl, Nat.le_of_ble_eq_true rfl⟩ ⟨Nat.le_of_ble_eq_true rfl, Nat.le_of_ble_eq_true rfl⟩ (Nat.le_of_ble_eq_true rfl) hn rfl rfl rfl hp_no hp_no2 ?_
  refine g_if_eq 28 X d_MD_table_16 (by decide) (fun h16 => ?_) (fun h16 => ?_)
  · have h16 := cv_e0 (b2n_31 _) h16
    rw [hx] at h16
    exact absurd h16 (by decide)
  · have h16 := cv_n0 (b2n_31 _) h16
    refine g_iload_n X d_MD_table_19 2 rfl ?_
    refine g_iconst (nI 0) X d_MD_table_20 (by decide) ?_
    refine g_iconst (nI 3) X d_MD_table_21 (by decide) ?_
    refine h_callS (As := [.int (nI 1), .int (nI 0), .int (nI 3)]) (st := []) [] [(h, .inr (6, [.int (nI 0), .int (nI M), .int (nI n), .ref y1, .ref y2, .ref y3, .int (nI u), .ref y4, .ref y5, .ref y6, .ref y7, .int (nI c), .ref y8, .ref y9, .ref y10, .ref y11, .ref y12, .int bd, .int ck, .int ps, .int (nI pa), .int lc, .int (nI (b2n fb)), .long ek, .long ev, .int (nI el), .int (nI fn), .ref y13, .ref y14, .ref y15, .ref y16, .int (nI js), .ref y17, .int (nI (b2n ib))])), (y8, .inl (.int, 17, .inl (fun q => nI (lv q)))), (y9, .inl (.int, 17, .inl (fun q => nI (en q)))), (y10, .inl (.int, 17, .inl (fun q => nI (mn q)))), (y11, .inl (.int, 2176, .inl (fun q => nI (bk q))))] X d_MD_table_22 (c_MD_within hst) rfl k_ml_MD_109 k_cd_MD_within k_in_MD k_st_MD_within ⟨by decide +kernel, by decide +kernel, (by decide +kernel : (parseMethodDescriptor y_MD_within.desc).map (fun d => d.parameters.length) = some 3)⟩ ⟨Nat.le_of_ble_eq_true rfl, Nat.le_of_ble_eq_true rfl⟩ ⟨Nat.le_of_ble_eq_true rfl, Nat.le_of_ble_eq_true rfl⟩ (Nat.le_of_ble_eq_true rfl) hn rfl rfl rfl hp_no hp_no2 ?_
    refine g_if_ne 34 X d_MD_table_25 (by decide) (fun h25 => ?_) (fun h25 => ?_)
    · have h25 := cv_n0 (b2n_31 _) h25
      refine g_iload_n X d_MD_table_34 2 rfl ?_
      refine g_if_ne 47 X d_MD_table_35 (by decide) (fun h35 => ?_) (fun h35 => ?_)
      · have h35 := cv_n0 (by omega) h35
        refine g_iload_n X d_MD_table_47 2 rfl ?_
        refine g_iconst (nI 1) X d_MD_table_48 (by decide) ?_
        refine g_icmp_ne 61 X d_MD_table_49 (by decide) (fun h49 => ?_) (fun h49 => ?_)
        · have h49 := cv_ne (by omega) (by omega) h49
          omega
        · have h49 := cv_eq (by omega) (by omega) h49
          refine g_aload_n X d_MD_table_52 0 rfl ?_
          refine g_getf (k := 13) X d_MD_table_53 (hl_w 0 rfl hn) rfl i_MD (by decide) k_fl_MD_36 (fun _ h => h) rfl ?_
          refine g_iload_n X d_MD_table_56 1 rfl ?_
          refine h_iald X d_MD_table_57 (hl_w 2 rfl hn) (by omega) (by omega) ?_
          refine g_goto 85 X d_MD_table_58 (by decide) ?_
          exact g_iret X hr d_MD_table_85 (Nat.le_of_ble_eq_true rfl) (Nat.le_of_ble_eq_true rfl) (fh_ret_i)
      · have h35 := cv_e0 (by omega) h35
        omega
    · have h25 := cv_e0 (b2n_31 _) h25
      rw [hy9] at h25
      exact absurd h25 (by decide)

set_option maxRecDepth 100000 in
set_option maxHeartbeats 1000000 in
theorem c_MD_table_2 {l : Launch} (hst : l.stackTraces = false) {h y1 y2 y3 y4 y5 y6 y7 y8 y9 y10 y11 y12 y13 y14 y15 y16 y17 M n u c pa el fn js : Nat} {th bd ck ps lc : Int32} {fb ib : Bool} {ek ev : Int64} {lv : Nat → Nat} {en : Nat → Nat} {mn : Nat → Nat} {bk : Nat → Nat} (hn : [h, y8, y9, y10, y11].Nodup) {j : Nat} (hj : j < c) (hc16 : c ≤ 16) : fh_C l fhCl fhT y_MD_table (.code y_MD_table b_MD_table 3 (some .int)) 1 22 [.ref h, .int (nI j), .int (nI 2)] (hp [(h, .inr (6, [.int th, .int (nI M), .int (nI n), .ref y1, .ref y2, .ref y3, .int (nI u), .ref y4, .ref y5, .ref y6, .ref y7, .int (nI c), .ref y8, .ref y9, .ref y10, .ref y11, .ref y12, .int bd, .int ck, .int ps, .int (nI pa), .int lc, .int (nI (b2n fb)), .long ek, .long ev, .int (nI el), .int (nI fn), .ref y13, .ref y14, .ref y15, .ref y16, .int (nI js), .ref y17, .int (nI (b2n ib))])), (y8, .inl (.int, 17, .inl (fun q => nI (lv q)))), (y9, .inl (.int, 17, .inl (fun q => nI (en q)))), (y10, .inl (.int, 17, .inl (fun q => nI (mn q)))), (y11, .inl (.int, 2176, .inl (fun q => nI (bk q))))]) (hp []) 0 0 (fh_ret (some (.int (nI (mn j)))) [(h, .inr (6, [.int (nI 0), .int (nI M), .int (nI n), .ref y1, .ref y2, .ref y3, .int (nI u), .ref y4, .ref y5, .ref y6, .ref y7, .int (nI c), .ref y8, .ref y9, .ref y10, .ref y11, .ref y12, .int bd, .int ck, .int ps, .int (nI pa), .int lc, .int (nI (b2n fb)), .long ek, .long ev, .int (nI el), .int (nI fn), .ref y13, .ref y14, .ref y15, .ref y16, .int (nI js), .ref y17, .int (nI (b2n ib))])), (y8, .inl (.int, 17, .inl (fun q => nI (lv q)))), (y9, .inl (.int, 17, .inl (fun q => nI (en q)))), (y10, .inl (.int, 17, .inl (fun q => nI (mn q)))), (y11, .inl (.int, 2176, .inl (fun q => nI (bk q))))]) := by
  refine fh_enter (by decide) hst (Nat.le_of_ble_eq_true rfl) ?_
  intro mD mp me sm mm margs mbel mmet mcod X hr hnm hno hf0
  show fh_G mp l me (fh_rm 1 22 0 0) sm mm margs mbel mmet mcod mD fhCl (hp [(h, .inr (6, [.int th, .int (nI M), .int (nI n), .ref y1, .ref y2, .ref y3, .int (nI u), .ref y4, .ref y5, .ref y6, .ref y7, .int (nI c), .ref y8, .ref y9, .ref y10, .ref y11, .ref y12, .int bd, .int ck, .int ps, .int (nI pa), .int lc, .int (nI (b2n fb)), .long ek, .long ev, .int (nI el), .int (nI fn), .ref y13, .ref y14, .ref y15, .ref y16, .int (nI js), .ref y17, .int (nI (b2n ib))])), (y8, .inl (.int, 17, .inl (fun q => nI (lv q)))), (y9, .inl (.int, 17, .inl (fun q => nI (en q)))), (y10, .inl (.int, 17, .inl (fun q => nI (mn q)))), (y11, .inl (.int, 2176, .inl (fun q => nI (bk q))))]) 3 _ 0 0 (hp [(h, .inr (6, [.int th, .int (nI M), .int (nI n), .ref y1, .ref y2, .ref y3, .int (nI u), .ref y4, .ref y5, .ref y6, .ref y7, .int (nI c), .ref y8, .ref y9, .ref y10, .ref y11, .ref y12, .int bd, .int ck, .int ps, .int (nI pa), .int lc, .int (nI (b2n fb)), .long ek, .long ev, .int (nI el), .int (nI fn), .ref y13, .ref y14, .ref y15, .ref y16, .int (nI js), .ref y17, .int (nI (b2n ib))])), (y8, .inl (.int, 17, .inl (fun q => nI (lv q)))), (y9, .inl (.int, 17, .inl (fun q => nI (en q)))), (y10, .inl (.int, 17, .inl (fun q => nI (mn q)))), (y11, .inl (.int, 2176, .inl (fun q => nI (bk q))))]) 0 [(0, .ref h), (1, .int (nI j)), (2, .int (nI 2))] []
  have hx := win_in hj (by omega)
  have hy9 := win_ki (show 2 ≤ 3 by decide) (by decide)
  refine g_aload_n X d_MD_table_0 0 rfl ?_
  refine g_iconst (nI 0) X d_MD_table_1 (by decide) ?_
  refine h_putf (k := 0) (ty := .int) 0 [(h, .inr (6, [.int (nI 0), .int (nI M), .int (nI n), .ref y1, .ref y2, .ref y3, .int (nI u), .ref y4, .ref y5, .ref y6, .ref y7, .int (nI c), .ref y8, .ref y9, .ref y10, .ref y11, .ref y12, .int bd, .int ck, .int ps, .int (nI pa), .int lc, .int (nI (b2n fb)), .long ek, .long ev, .int (nI el), .int (nI fn), .ref y13, .ref y14, .ref y15, .ref y16, .int (nI js), .ref y17, .int (nI (b2n ib))])), (y8, .inl (.int, 17, .inl (fun q => nI (lv q)))), (y9, .inl (.int, 17, .inl (fun q => nI (en q)))), (y10, .inl (.int, 17, .inl (fun q => nI (mn q)))), (y11, .inl (.int, 2176, .inl (fun q => nI (bk q))))] X d_MD_table_2 hn rfl rfl i_MD t_MD t_MD_ok n_MD (by decide) k_fl_MD_70 (fun _ h => h) rfl (by decide +kernel) rfl rfl (Nat.le_of_ble_eq_true rfl) rfl ?_
  refine g_iload_n X d_MD_table_5 1 rfl ?_
  refine g_iconst (nI 0) X d_MD_table_6 (by decide) ?_
  refine g_aload_n X d_MD_table_7 0 rfl ?_
  refine g_getf (k := 11) X d_MD_table_8 (hl_w 0 rfl hn) rfl i_MD (by decide) k_fl_MD_136 (fun _ h => h) rfl ?_
  refine g_iconst (nI 1) X d_MD_table_11 (by decide) ?_
  refine g_isub X d_MD_table_12 ?_
  refine h_callS (As := [.int (nI j), .int (nI 0), .int ((nI c) - (nI 1))]) (st := []) [] [(h, .inr (6, [.int (nI 0), .int (nI M), .int (nI n), .ref y1, .ref y2, .ref y3, .int (nI u), .ref y4, .ref y5, .ref y6, .ref y7, .int (nI c), .ref y8, .ref y9, .ref y10, .ref y11, .ref y12, .int bd, .int ck, .int ps, .int (nI pa), .int lc, .int (nI (b2n fb)), .long ek, .long ev, .int (nI el), .int (nI fn), .ref y13, .ref y14, .ref y15, .ref y16, .int (nI js), .ref y17, .int (nI (b2n ib))])), (y8, .inl (.int, 17, .inl (fun q => nI (lv q)))), (y9, .inl (.int, 17, .inl (fun q => nI (en q)))), (y10, .inl (.int, 17, .inl (fun q => nI (mn q)))), (y11, .inl (.int, 2176, .inl (fun q => nI (bk q))))] X d_MD_table_13 (c_MD_within hst) rfl k_ml_MD_109 k_cd_MD_within k_in_MD k_st_MD_within ⟨by decide +kernel, by decide +kernel, (by decide +kernel : (parseMethodDescriptor y_MD_within.desc).map (fun d => d.parameters.length) = some 3)⟩ ⟨Nat.le_of_ble_eq_true rfl, Nat.le_of_ble_eq_true rfl⟩ ⟨Nat.le_of_ble_eq_true rfl, Nat.le_of_ble_eq_true rfl⟩ (Nat.le_of_ble_eq_true rfl) hn rfl rfl rfl hp_no hp_no2 ?_
  refine g_if_eq 28 X d_MD_table_16 (by decide) (fun h16 => ?_) (fun h16 => ?_)
  · have h16 := cv_e0 (b2n_31 _) h16
    rw [hx] at h16
    exact absurd h16 (by decide)
  · have h16 := cv_n0 (b2n_31 _) h16
    refine g_iload_n X d_MD_table_19 2 rfl ?_
    refine g_iconst (nI 0) X d_MD_table_20 (by decide) ?_
    refine g_iconst (nI 3) X d_MD_table_21 (by decide) ?_
    refine h_callS (As := [.int (nI 2), .int (nI 0), .int (nI 3)]) (st := []) [] [(h, .inr (6, [.int (nI 0), .int (nI M), .int (nI n), .ref y1, .ref y2, .ref y3, .int (nI u), .ref y4, .ref y5, .ref y6, .ref y7, .int (nI c), .ref y8, .ref y9, .ref y10, .ref y11, .ref y12, .int bd, .int ck, .int ps, .int (nI pa), .int lc, .int (nI (b2n fb)), .long ek, .long ev, .int (nI el), .int (nI fn), .ref y13, .ref y14, .ref y15, .ref y16, .int (nI js), .ref y17, .int (nI (b2n ib))])), (y8, .inl (.int, 17, .inl (fun q => nI (lv q)))), (y9, .inl (.int, 17, .inl (fun q => nI (en q)))), (y10, .inl (.int, 17, .inl (fun q => nI (mn q)))), (y11, .inl (.int, 2176, .inl (fun q => nI (bk q))))] X d_MD_table_22 (c_MD_within hst) rfl k_ml_MD_109 k_cd_MD_within k_in_MD k_st_MD_within ⟨by decide +kernel, by decide +kernel, (by decide +kernel : (parseMethodDescriptor y_MD_within.desc).map (fun d => d.parameters.length) = some 3)⟩ ⟨Nat.le_of_ble_eq_true rfl, Nat.le_of_ble_eq_true rfl⟩ ⟨Nat.le_of_ble_eq_true rfl, Nat.le_of_ble_eq_true rfl⟩ (Nat.le_of_ble_eq_true rfl) hn rfl rfl rfl hp_no hp_no2 ?_
    refine g_if_ne 34 X d_MD_table_25 (by decide) (fun h25 => ?_) (fun h25 => ?_)
    · have h25 := cv_n0 (b2n_31 _) h25
      refine g_iload_n X d_MD_table_34 2 rfl ?_
      refine g_if_ne 47 X d_MD_table_35 (by decide) (fun h35 => ?_) (fun h35 => ?_)
      · have h35 := cv_n0 (by omega) h35
        refine g_iload_n X d_MD_table_47 2 rfl ?_
        refine g_iconst (nI 1) X d_MD_table_48 (by decide) ?_
        refine g_icmp_ne 61 X d_MD_table_49 (by decide) (fun h49 => ?_) (fun h49 => ?_)
        · have h49 := cv_ne (by omega) (by omega) h49
          refine g_iload_n X d_MD_table_61 2 rfl ?_
          refine g_iconst (nI 2) X d_MD_table_62 (by decide) ?_
          refine g_icmp_ne 75 X d_MD_table_63 (by decide) (fun h63 => ?_) (fun h63 => ?_)
          · have h63 := cv_ne (by omega) (by omega) h63
            omega
          · have h63 := cv_eq (by omega) (by omega) h63
            refine g_aload_n X d_MD_table_66 0 rfl ?_
            refine g_getf (k := 14) X d_MD_table_67 (hl_w 0 rfl hn) rfl i_MD (by decide) k_fl_MD_39 (fun _ h => h) rfl ?_
            refine g_iload_n X d_MD_table_70 1 rfl ?_
            refine h_iald X d_MD_table_71 (hl_w 3 rfl hn) (by omega) (by omega) ?_
            refine g_goto 85 X d_MD_table_72 (by decide) ?_
            exact g_iret X hr d_MD_table_85 (Nat.le_of_ble_eq_true rfl) (Nat.le_of_ble_eq_true rfl) (fh_ret_i)
        · have h49 := cv_eq (by omega) (by omega) h49
          omega
      · have h35 := cv_e0 (by omega) h35
        omega
    · have h25 := cv_e0 (b2n_31 _) h25
      rw [hy9] at h25
      exact absurd h25 (by decide)

set_option maxRecDepth 100000 in
set_option maxHeartbeats 1000000 in
theorem c_MD_table_3 {l : Launch} (hst : l.stackTraces = false) {h y1 y2 y3 y4 y5 y6 y7 y8 y9 y10 y11 y12 y13 y14 y15 y16 y17 M n u c pa el fn js : Nat} {th bd ck ps lc : Int32} {fb ib : Bool} {ek ev : Int64} {lv : Nat → Nat} {en : Nat → Nat} {mn : Nat → Nat} {bk : Nat → Nat} (hn : [h, y8, y9, y10, y11].Nodup) {j : Nat} (hj : j < c) (hc16 : c ≤ 16) : fh_C l fhCl fhT y_MD_table (.code y_MD_table b_MD_table 3 (some .int)) 1 22 [.ref h, .int (nI j), .int (nI 3)] (hp [(h, .inr (6, [.int th, .int (nI M), .int (nI n), .ref y1, .ref y2, .ref y3, .int (nI u), .ref y4, .ref y5, .ref y6, .ref y7, .int (nI c), .ref y8, .ref y9, .ref y10, .ref y11, .ref y12, .int bd, .int ck, .int ps, .int (nI pa), .int lc, .int (nI (b2n fb)), .long ek, .long ev, .int (nI el), .int (nI fn), .ref y13, .ref y14, .ref y15, .ref y16, .int (nI js), .ref y17, .int (nI (b2n ib))])), (y8, .inl (.int, 17, .inl (fun q => nI (lv q)))), (y9, .inl (.int, 17, .inl (fun q => nI (en q)))), (y10, .inl (.int, 17, .inl (fun q => nI (mn q)))), (y11, .inl (.int, 2176, .inl (fun q => nI (bk q))))]) (hp []) 0 0 (fh_ret (some (.int (nI (bk (128 * j))))) [(h, .inr (6, [.int (nI 0), .int (nI M), .int (nI n), .ref y1, .ref y2, .ref y3, .int (nI u), .ref y4, .ref y5, .ref y6, .ref y7, .int (nI c), .ref y8, .ref y9, .ref y10, .ref y11, .ref y12, .int bd, .int ck, .int ps, .int (nI pa), .int lc, .int (nI (b2n fb)), .long ek, .long ev, .int (nI el), .int (nI fn), .ref y13, .ref y14, .ref y15, .ref y16, .int (nI js), .ref y17, .int (nI (b2n ib))])), (y8, .inl (.int, 17, .inl (fun q => nI (lv q)))), (y9, .inl (.int, 17, .inl (fun q => nI (en q)))), (y10, .inl (.int, 17, .inl (fun q => nI (mn q)))), (y11, .inl (.int, 2176, .inl (fun q => nI (bk q))))]) := by
  refine fh_enter (by decide) hst (Nat.le_of_ble_eq_true rfl) ?_
  intro mD mp me sm mm margs mbel mmet mcod X hr hnm hno hf0
  show fh_G mp l me (fh_rm 1 22 0 0) sm mm margs mbel mmet mcod mD fhCl (hp [(h, .inr (6, [.int th, .int (nI M), .int (nI n), .ref y1, .ref y2, .ref y3, .int (nI u), .ref y4, .ref y5, .ref y6, .ref y7, .int (nI c), .ref y8, .ref y9, .ref y10, .ref y11, .ref y12, .int bd, .int ck, .int ps, .int (nI pa), .int lc, .int (nI (b2n fb)), .long ek, .long ev, .int (nI el), .int (nI fn), .ref y13, .ref y14, .ref y15, .ref y16, .int (nI js), .ref y17, .int (nI (b2n ib))])), (y8, .inl (.int, 17, .inl (fun q => nI (lv q)))), (y9, .inl (.int, 17, .inl (fun q => nI (en q)))), (y10, .inl (.int, 17, .inl (fun q => nI (mn q)))), (y11, .inl (.int, 2176, .inl (fun q => nI (bk q))))]) 3 _ 0 0 (hp [(h, .inr (6, [.int th, .int (nI M), .int (nI n), .ref y1, .ref y2, .ref y3, .int (nI u), .ref y4, .ref y5, .ref y6, .ref y7, .int (nI c), .ref y8, .ref y9, .ref y10, .ref y11, .ref y12, .int bd, .int ck, .int ps, .int (nI pa), .int lc, .int (nI (b2n fb)), .long ek, .long ev, .int (nI el), .int (nI fn), .ref y13, .ref y14, .ref y15, .ref y16, .int (nI js), .ref y17, .int (nI (b2n ib))])), (y8, .inl (.int, 17, .inl (fun q => nI (lv q)))), (y9, .inl (.int, 17, .inl (fun q => nI (en q)))), (y10, .inl (.int, 17, .inl (fun q => nI (mn q)))), (y11, .inl (.int, 2176, .inl (fun q => nI (bk q))))]) 0 [(0, .ref h), (1, .int (nI j)), (2, .int (nI 3))] []
  have hx := win_in hj (by omega)
  have hy9 := win_ki (show 3 ≤ 3 by decide) (by decide)
  refine g_aload_n X d_MD_table_0 0 rfl ?_
  refine g_iconst (nI 0) X d_MD_table_1 (by decide) ?_
  refine h_putf (k := 0) (ty := .int) 0 [(h, .inr (6, [.int (nI 0), .int (nI M), .int (nI n), .ref y1, .ref y2, .ref y3, .int (nI u), .ref y4, .ref y5, .ref y6, .ref y7, .int (nI c), .ref y8, .ref y9, .ref y10, .ref y11, .ref y12, .int bd, .int ck, .int ps, .int (nI pa), .int lc, .int (nI (b2n fb)), .long ek, .long ev, .int (nI el), .int (nI fn), .ref y13, .ref y14, .ref y15, .ref y16, .int (nI js), .ref y17, .int (nI (b2n ib))])), (y8, .inl (.int, 17, .inl (fun q => nI (lv q)))), (y9, .inl (.int, 17, .inl (fun q => nI (en q)))), (y10, .inl (.int, 17, .inl (fun q => nI (mn q)))), (y11, .inl (.int, 2176, .inl (fun q => nI (bk q))))] X d_MD_table_2 hn rfl rfl i_MD t_MD t_MD_ok n_MD (by decide) k_fl_MD_70 (fun _ h => h) rfl (by decide +kernel) rfl rfl (Nat.le_of_ble_eq_true rfl) rfl ?_
  refine g_iload_n X d_MD_table_5 1 rfl ?_
  refine g_iconst (nI 0) X d_MD_table_6 (by decide) ?_
  refine g_aload_n X d_MD_table_7 0 rfl ?_
  refine g_getf (k := 11) X d_MD_table_8 (hl_w 0 rfl hn) rfl i_MD (by decide) k_fl_MD_136 (fun _ h => h) rfl ?_
  refine g_iconst (nI 1) X d_MD_table_11 (by decide) ?_
  refine g_isub X d_MD_table_12 ?_
  refine h_callS (As := [.int (nI j), .int (nI 0), .int ((nI c) - (nI 1))]) (st := []) [] [(h, .inr (6, [.int (nI 0), .int (nI M), .int (nI n), .ref y1, .ref y2, .ref y3, .int (nI u), .ref y4, .ref y5, .ref y6, .ref y7, .int (nI c), .ref y8, .ref y9, .ref y10, .ref y11, .ref y12, .int bd, .int ck, .int ps, .int (nI pa), .int lc, .int (nI (b2n fb)), .long ek, .long ev, .int (nI el), .int (nI fn), .ref y13, .ref y14, .ref y15, .ref y16, .int (nI js), .ref y17, .int (nI (b2n ib))])), (y8, .inl (.int, 17, .inl (fun q => nI (lv q)))), (y9, .inl (.int, 17, .inl (fun q => nI (en q)))), (y10, .inl (.int, 17, .inl (fun q => nI (mn q)))), (y11, .inl (.int, 2176, .inl (fun q => nI (bk q))))] X d_MD_table_13 (c_MD_within hst) rfl k_ml_MD_109 k_cd_MD_within k_in_MD k_st_MD_within ⟨by decide +kernel, by decide +kernel, (by decide +kernel : (parseMethodDescriptor y_MD_within.desc).map (fun d => d.parameters.length) = some 3)⟩ ⟨Nat.le_of_ble_eq_true rfl, Nat.le_of_ble_eq_true rfl⟩ ⟨Nat.le_of_ble_eq_true rfl, Nat.le_of_ble_eq_true rfl⟩ (Nat.le_of_ble_eq_true rfl) hn rfl rfl rfl hp_no hp_no2 ?_
  refine g_if_eq 28 X d_MD_table_16 (by decide) (fun h16 => ?_) (fun h16 => ?_)
  · have h16 := cv_e0 (b2n_31 _) h16
    rw [hx] at h16
    exact absurd h16 (by decide)
  · have h16 := cv_n0 (b2n_31 _) h16
    refine g_iload_n X d_MD_table_19 2 rfl ?_
    refine g_iconst (nI 0) X d_MD_table_20 (by decide) ?_
    refine g_iconst (nI 3) X d_MD_table_21 (by decide) ?_
    refine h_callS (As := [.int (nI 3), .int (nI 0), .int (nI 3)]) (st := []) [] [(h, .inr (6, [.int (nI 0), .int (nI M), .int (nI n), .ref y1, .ref y2, .ref y3, .int (nI u), .ref y4, .ref y5, .ref y6, .ref y7, .int (nI c), .ref y8, .ref y9, .ref y10, .ref y11, .ref y12, .int bd, .int ck, .int ps, .int (nI pa), .int lc, .int (nI (b2n fb)), .long ek, .long ev, .int (nI el), .int (nI fn), .ref y13, .ref y14, .ref y15, .ref y16, .int (nI js), .ref y17, .int (nI (b2n ib))])), (y8, .inl (.int, 17, .inl (fun q => nI (lv q)))), (y9, .inl (.int, 17, .inl (fun q => nI (en q)))), (y10, .inl (.int, 17, .inl (fun q => nI (mn q)))), (y11, .inl (.int, 2176, .inl (fun q => nI (bk q))))] X d_MD_table_22 (c_MD_within hst) rfl k_ml_MD_109 k_cd_MD_within k_in_MD k_st_MD_within ⟨by decide +kernel, by decide +kernel, (by decide +kernel : (parseMethodDescriptor y_MD_within.desc).map (fun d => d.parameters.length) = some 3)⟩ ⟨Nat.le_of_ble_eq_true rfl, Nat.le_of_ble_eq_true rfl⟩ ⟨Nat.le_of_ble_eq_true rfl, Nat.le_of_ble_eq_true rfl⟩ (Nat.le_of_ble_eq_true rfl) hn rfl rfl rfl hp_no hp_no2 ?_
    refine g_if_ne 34 X d_MD_table_25 (by decide) (fun h25 => ?_) (fun h25 => ?_)
    · have h25 := cv_n0 (b2n_31 _) h25
      refine g_iload_n X d_MD_table_34 2 rfl ?_
      refine g_if_ne 47 X d_MD_table_35 (by decide) (fun h35 => ?_) (fun h35 => ?_)
      · have h35 := cv_n0 (by omega) h35
        refine g_iload_n X d_MD_table_47 2 rfl ?_
        refine g_iconst (nI 1) X d_MD_table_48 (by decide) ?_
        refine g_icmp_ne 61 X d_MD_table_49 (by decide) (fun h49 => ?_) (fun h49 => ?_)
        · have h49 := cv_ne (by omega) (by omega) h49
          refine g_iload_n X d_MD_table_61 2 rfl ?_
          refine g_iconst (nI 2) X d_MD_table_62 (by decide) ?_
          refine g_icmp_ne 75 X d_MD_table_63 (by decide) (fun h63 => ?_) (fun h63 => ?_)
          · have h63 := cv_ne (by omega) (by omega) h63
            refine g_aload_n X d_MD_table_75 0 rfl ?_
            refine g_getf (k := 15) X d_MD_table_76 (hl_w 0 rfl hn) rfl i_MD (by decide) k_fl_MD_42 (fun _ h => h) rfl ?_
            refine g_sipush (nI 128) X d_MD_table_79 (by decide) ?_
            refine g_iload_n X d_MD_table_82 1 rfl ?_
            refine g_imul X d_MD_table_83 ?_
            refine g_vi (nI (128 * j)) (pk_mul _ _) ?_
            refine h_iald X d_MD_table_84 (hl_w 4 rfl hn) (by omega) (by omega) ?_
            exact g_iret X hr d_MD_table_85 (Nat.le_of_ble_eq_true rfl) (Nat.le_of_ble_eq_true rfl) (fh_ret_i)
          · have h63 := cv_eq (by omega) (by omega) h63
            omega
        · have h49 := cv_eq (by omega) (by omega) h49
          omega
      · have h35 := cv_e0 (by omega) h35
        omega
    · have h25 := cv_e0 (b2n_31 _) h25
      rw [hy9] at h25
      exact absurd h25 (by decide)

set_option maxRecDepth 100000 in
set_option maxHeartbeats 1000000 in
theorem c_MD_table_bad {l : Launch} (hst : l.stackTraces = false) {h y1 y2 y3 y4 y5 y6 y7 y8 y9 y10 y11 y12 y13 y14 y15 y16 y17 M n u c pa el fn js : Nat} {th bd ck ps lc : Int32} {fb ib : Bool} {ek ev : Int64} {lv : Nat → Nat} {en : Nat → Nat} {mn : Nat → Nat} {bk : Nat → Nat} (hn : [h, y8, y9, y10, y11].Nodup) {j : Nat} (hj : j < c) {v : Int32} (hv : v < 0 ∨ nI 4 ≤ v) (hc16 : c ≤ 16) : fh_C l fhCl fhT y_MD_table (.code y_MD_table b_MD_table 3 (some .int)) 1 22 [.ref h, .int (nI j), .int v] (hp [(h, .inr (6, [.int th, .int (nI M), .int (nI n), .ref y1, .ref y2, .ref y3, .int (nI u), .ref y4, .ref y5, .ref y6, .ref y7, .int (nI c), .ref y8, .ref y9, .ref y10, .ref y11, .ref y12, .int bd, .int ck, .int ps, .int (nI pa), .int lc, .int (nI (b2n fb)), .long ek, .long ev, .int (nI el), .int (nI fn), .ref y13, .ref y14, .ref y15, .ref y16, .int (nI js), .ref y17, .int (nI (b2n ib))])), (y8, .inl (.int, 17, .inl (fun q => nI (lv q)))), (y9, .inl (.int, 17, .inl (fun q => nI (en q)))), (y10, .inl (.int, 17, .inl (fun q => nI (mn q)))), (y11, .inl (.int, 2176, .inl (fun q => nI (bk q))))]) (hp []) 0 0 (fh_ret (some (.int (nI 0))) [(h, .inr (6, [.int (nI 1), .int (nI M), .int (nI n), .ref y1, .ref y2, .ref y3, .int (nI u), .ref y4, .ref y5, .ref y6, .ref y7, .int (nI c), .ref y8, .ref y9, .ref y10, .ref y11, .ref y12, .int bd, .int ck, .int ps, .int (nI pa), .int lc, .int (nI (b2n fb)), .long ek, .long ev, .int (nI el), .int (nI fn), .ref y13, .ref y14, .ref y15, .ref y16, .int (nI js), .ref y17, .int (nI (b2n ib))])), (y8, .inl (.int, 17, .inl (fun q => nI (lv q)))), (y9, .inl (.int, 17, .inl (fun q => nI (en q)))), (y10, .inl (.int, 17, .inl (fun q => nI (mn q)))), (y11, .inl (.int, 2176, .inl (fun q => nI (bk q))))]) := by
  refine fh_enter (by decide) hst (Nat.le_of_ble_eq_true rfl) ?_
  intro mD mp me sm mm margs mbel mmet mcod X hr hnm hno hf0
  show fh_G mp l me (fh_rm 1 22 0 0) sm mm margs mbel mmet mcod mD fhCl (hp [(h, .inr (6, [.int th, .int (nI M), .int (nI n), .ref y1, .ref y2, .ref y3, .int (nI u), .ref y4, .ref y5, .ref y6, .ref y7, .int (nI c), .ref y8, .ref y9, .ref y10, .ref y11, .ref y12, .int bd, .int ck, .int ps, .int (nI pa), .int lc, .int (nI (b2n fb)), .long ek, .long ev, .int (nI el), .int (nI fn), .ref y13, .ref y14, .ref y15, .ref y16, .int (nI js), .ref y17, .int (nI (b2n ib))])), (y8, .inl (.int, 17, .inl (fun q => nI (lv q)))), (y9, .inl (.int, 17, .inl (fun q => nI (en q)))), (y10, .inl (.int, 17, .inl (fun q => nI (mn q)))), (y11, .inl (.int, 2176, .inl (fun q => nI (bk q))))]) 3 _ 0 0 (hp [(h, .inr (6, [.int th, .int (nI M), .int (nI n), .ref y1, .ref y2, .ref y3, .int (nI u), .ref y4, .ref y5, .ref y6, .ref y7, .int (nI c), .ref y8, .ref y9, .ref y10, .ref y11, .ref y12, .int bd, .int ck, .int ps, .int (nI pa), .int lc, .int (nI (b2n fb)), .long ek, .long ev, .int (nI el), .int (nI fn), .ref y13, .ref y14, .ref y15, .ref y16, .int (nI js), .ref y17, .int (nI (b2n ib))])), (y8, .inl (.int, 17, .inl (fun q => nI (lv q)))), (y9, .inl (.int, 17, .inl (fun q => nI (en q)))), (y10, .inl (.int, 17, .inl (fun q => nI (mn q)))), (y11, .inl (.int, 2176, .inl (fun q => nI (bk q))))]) 0 [(0, .ref h), (1, .int (nI j)), (2, .int v)] []
  have hx := win_in hj (by omega)
  have hy9 := win_k (b := 3) (by decide) hv (by decide)
  have hn0 : [h].Nodup := (List.Nodup.sublist (by repeat first | exact List.nil_sublist _ | apply List.Sublist.cons₂ | apply List.Sublist.cons) hn)
  refine g_aload_n X d_MD_table_0 0 rfl ?_
  refine g_iconst (nI 0) X d_MD_table_1 (by decide) ?_
  refine h_putf (k := 0) (ty := .int) 0 [(h, .inr (6, [.int (nI 0), .int (nI M), .int (nI n), .ref y1, .ref y2, .ref y3, .int (nI u), .ref y4, .ref y5, .ref y6, .ref y7, .int (nI c), .ref y8, .ref y9, .ref y10, .ref y11, .ref y12, .int bd, .int ck, .int ps, .int (nI pa), .int lc, .int (nI (b2n fb)), .long ek, .long ev, .int (nI el), .int (nI fn), .ref y13, .ref y14, .ref y15, .ref y16, .int (nI js), .ref y17, .int (nI (b2n ib))])), (y8, .inl (.int, 17, .inl (fun q => nI (lv q)))), (y9, .inl (.int, 17, .inl (fun q => nI (en q)))), (y10, .inl (.int, 17, .inl (fun q => nI (mn q)))), (y11, .inl (.int, 2176, .inl (fun q => nI (bk q))))] X d_MD_table_2 hn rfl rfl i_MD t_MD t_MD_ok n_MD (by decide) k_fl_MD_70 (fun _ h => h) rfl (by decide +kernel) rfl rfl (Nat.le_of_ble_eq_true rfl) rfl ?_
  refine g_iload_n X d_MD_table_5 1 rfl ?_
  refine g_iconst (nI 0) X d_MD_table_6 (by decide) ?_
  refine g_aload_n X d_MD_table_7 0 rfl ?_
  refine g_getf (k := 11) X d_MD_table_8 (hl_w 0 rfl hn) rfl i_MD (by decide) k_fl_MD_136 (fun _ h => h) rfl ?_
  refine g_iconst (nI 1) X d_MD_table_11 (by decide) ?_
  refine g_isub X d_MD_table_12 ?_
  refine h_callS (As := [.int (nI j), .int (nI 0), .int ((nI c) - (nI 1))]) (st := []) [] [(h, .inr (6, [.int (nI 0), .int (nI M), .int (nI n), .ref y1, .ref y2, .ref y3, .int (nI u), .ref y4, .ref y5, .ref y6, .ref y7, .int (nI c), .ref y8, .ref y9, .ref y10, .ref y11, .ref y12, .int bd, .int ck, .int ps, .int (nI pa), .int lc, .int (nI (b2n fb)), .long ek, .long ev, .int (nI el), .int (nI fn), .ref y13, .ref y14, .ref y15, .ref y16, .int (nI js), .ref y17, .int (nI (b2n ib))])), (y8, .inl (.int, 17, .inl (fun q => nI (lv q)))), (y9, .inl (.int, 17, .inl (fun q => nI (en q)))), (y10, .inl (.int, 17, .inl (fun q => nI (mn q)))), (y11, .inl (.int, 2176, .inl (fun q => nI (bk q))))] X d_MD_table_13 (c_MD_within hst) rfl k_ml_MD_109 k_cd_MD_within k_in_MD k_st_MD_within ⟨by decide +kernel, by decide +kernel, (by decide +kernel : (parseMethodDescriptor y_MD_within.desc).map (fun d => d.parameters.length) = some 3)⟩ ⟨Nat.le_of_ble_eq_true rfl, Nat.le_of_ble_eq_true rfl⟩ ⟨Nat.le_of_ble_eq_true rfl, Nat.le_of_ble_eq_true rfl⟩ (Nat.le_of_ble_eq_true rfl) hn rfl rfl rfl hp_no hp_no2 ?_
  refine g_if_eq 28 X d_MD_table_16 (by decide) (fun h16 => ?_) (fun h16 => ?_)
  · have h16 := cv_e0 (b2n_31 _) h16
    rw [hx] at h16
    exact absurd h16 (by decide)
  · have h16 := cv_n0 (b2n_31 _) h16
    refine g_iload_n X d_MD_table_19 2 rfl ?_
    refine g_iconst (nI 0) X d_MD_table_20 (by decide) ?_
    refine g_iconst (nI 3) X d_MD_table_21 (by decide) ?_
    refine h_callS (As := [.int v, .int (nI 0), .int (nI 3)]) (st := []) [] [(h, .inr (6, [.int (nI 0), .int (nI M), .int (nI n), .ref y1, .ref y2, .ref y3, .int (nI u), .ref y4, .ref y5, .ref y6, .ref y7, .int (nI c), .ref y8, .ref y9, .ref y10, .ref y11, .ref y12, .int bd, .int ck, .int ps, .int (nI pa), .int lc, .int (nI (b2n fb)), .long ek, .long ev, .int (nI el), .int (nI fn), .ref y13, .ref y14, .ref y15, .ref y16, .int (nI js), .ref y17, .int (nI (b2n ib))])), (y8, .inl (.int, 17, .inl (fun q => nI (lv q)))), (y9, .inl (.int, 17, .inl (fun q => nI (en q)))), (y10, .inl (.int, 17, .inl (fun q => nI (mn q)))), (y11, .inl (.int, 2176, .inl (fun q => nI (bk q))))] X d_MD_table_22 (c_MD_within hst) rfl k_ml_MD_109 k_cd_MD_within k_in_MD k_st_MD_within ⟨by decide +kernel, by decide +kernel, (by decide +kernel : (parseMethodDescriptor y_MD_within.desc).map (fun d => d.parameters.length) = some 3)⟩ ⟨Nat.le_of_ble_eq_true rfl, Nat.le_of_ble_eq_true rfl⟩ ⟨Nat.le_of_ble_eq_true rfl, Nat.le_of_ble_eq_true rfl⟩ (Nat.le_of_ble_eq_true rfl) hn rfl rfl rfl hp_no hp_no2 ?_
    refine g_if_ne 34 X d_MD_table_25 (by decide) (fun h25 => ?_) (fun h25 => ?_)
    · have h25 := cv_n0 (b2n_31 _) h25
      rw [hy9] at h25
      exact absurd h25 (by decide)
    · have h25 := cv_e0 (b2n_31 _) h25
      refine g_aload_n X d_MD_table_28 0 rfl ?_
      refine g_iconst (nI 1) X d_MD_table_29 (by decide) ?_
      refine h_callV (As := [.int (nI 1)]) (st := []) [0] [(h, .inr (6, [.int (nI 1), .int (nI M), .int (nI n), .ref y1, .ref y2, .ref y3, .int (nI u), .ref y4, .ref y5, .ref y6, .ref y7, .int (nI c), .ref y8, .ref y9, .ref y10, .ref y11, .ref y12, .int bd, .int ck, .int ps, .int (nI pa), .int lc, .int (nI (b2n fb)), .long ek, .long ev, .int (nI el), .int (nI fn), .ref y13, .ref y14, .ref y15, .ref y16, .int (nI js), .ref y17, .int (nI (b2n ib))])), (y8, .inl (.int, 17, .inl (fun q => nI (lv q)))), (y9, .inl (.int, 17, .inl (fun q => nI (en q)))), (y10, .inl (.int, 17, .inl (fun q => nI (mn q)))), (y11, .inl (.int, 2176, .inl (fun q => nI (bk q))))] X d_MD_table_30 (c_MD_fail hst hn0) (hl_w 0 rfl hn) rfl rfl k_ml_MD_113 k_cd_MD_fail k_in_MD k_im_MD_fail k_se_MD_fail ⟨by decide +kernel, by decide +kernel, (by decide +kernel : (parseMethodDescriptor y_MD_fail.desc).map (fun d => d.parameters.length) = some 1)⟩ ⟨Nat.le_of_ble_eq_true rfl, Nat.le_of_ble_eq_true rfl⟩ ⟨Nat.le_of_ble_eq_true rfl, Nat.le_of_ble_eq_true rfl⟩ (Nat.le_of_ble_eq_true rfl) hn rfl rfl rfl hp_no hp_no2 ?_
      exact g_iret X hr d_MD_table_33 (Nat.le_of_ble_eq_true rfl) (Nat.le_of_ble_eq_true rfl) (fh_ret_i)

set_option maxRecDepth 100000 in
set_option maxHeartbeats 1000000 in
theorem c_MD_table_no {l : Launch} (hst : l.stackTraces = false) {h y1 y2 y3 y4 y5 y6 y7 y8 y9 y10 y11 y12 y13 y14 y15 y16 y17 M n u c pa el fn js : Nat} {th bd ck ps lc : Int32} {fb ib : Bool} {ek ev : Int64} {lv : Nat → Nat} {en : Nat → Nat} {mn : Nat → Nat} {bk : Nat → Nat} (hn : [h, y8, y9, y10, y11].Nodup) {j v : Int32} (hx : j < 0 ∨ nI c ≤ j) (hc16 : c ≤ 16) : fh_C l fhCl fhT y_MD_table (.code y_MD_table b_MD_table 3 (some .int)) 1 22 [.ref h, .int j, .int v] (hp [(h, .inr (6, [.int th, .int (nI M), .int (nI n), .ref y1, .ref y2, .ref y3, .int (nI u), .ref y4, .ref y5, .ref y6, .ref y7, .int (nI c), .ref y8, .ref y9, .ref y10, .ref y11, .ref y12, .int bd, .int ck, .int ps, .int (nI pa), .int lc, .int (nI (b2n fb)), .long ek, .long ev, .int (nI el), .int (nI fn), .ref y13, .ref y14, .ref y15, .ref y16, .int (nI js), .ref y17, .int (nI (b2n ib))])), (y8, .inl (.int, 17, .inl (fun q => nI (lv q)))), (y9, .inl (.int, 17, .inl (fun q => nI (en q)))), (y10, .inl (.int, 17, .inl (fun q => nI (mn q)))), (y11, .inl (.int, 2176, .inl (fun q => nI (bk q))))]) (hp []) 0 0 (fh_ret (some (.int (nI 0))) [(h, .inr (6, [.int (nI 1), .int (nI M), .int (nI n), .ref y1, .ref y2, .ref y3, .int (nI u), .ref y4, .ref y5, .ref y6, .ref y7, .int (nI c), .ref y8, .ref y9, .ref y10, .ref y11, .ref y12, .int bd, .int ck, .int ps, .int (nI pa), .int lc, .int (nI (b2n fb)), .long ek, .long ev, .int (nI el), .int (nI fn), .ref y13, .ref y14, .ref y15, .ref y16, .int (nI js), .ref y17, .int (nI (b2n ib))])), (y8, .inl (.int, 17, .inl (fun q => nI (lv q)))), (y9, .inl (.int, 17, .inl (fun q => nI (en q)))), (y10, .inl (.int, 17, .inl (fun q => nI (mn q)))), (y11, .inl (.int, 2176, .inl (fun q => nI (bk q))))]) := by
  refine fh_enter (by decide) hst (Nat.le_of_ble_eq_true rfl) ?_
  intro mD mp me sm mm margs mbel mmet mcod X hr hnm hno hf0
  show fh_G mp l me (fh_rm 1 22 0 0) sm mm margs mbel mmet mcod mD fhCl (hp [(h, .inr (6, [.int th, .int (nI M), .int (nI n), .ref y1, .ref y2, .ref y3, .int (nI u), .ref y4, .ref y5, .ref y6, .ref y7, .int (nI c), .ref y8, .ref y9, .ref y10, .ref y11, .ref y12, .int bd, .int ck, .int ps, .int (nI pa), .int lc, .int (nI (b2n fb)), .long ek, .long ev, .int (nI el), .int (nI fn), .ref y13, .ref y14, .ref y15, .ref y16, .int (nI js), .ref y17, .int (nI (b2n ib))])), (y8, .inl (.int, 17, .inl (fun q => nI (lv q)))), (y9, .inl (.int, 17, .inl (fun q => nI (en q)))), (y10, .inl (.int, 17, .inl (fun q => nI (mn q)))), (y11, .inl (.int, 2176, .inl (fun q => nI (bk q))))]) 3 _ 0 0 (hp [(h, .inr (6, [.int th, .int (nI M), .int (nI n), .ref y1, .ref y2, .ref y3, .int (nI u), .ref y4, .ref y5, .ref y6, .ref y7, .int (nI c), .ref y8, .ref y9, .ref y10, .ref y11, .ref y12, .int bd, .int ck, .int ps, .int (nI pa), .int lc, .int (nI (b2n fb)), .long ek, .long ev, .int (nI el), .int (nI fn), .ref y13, .ref y14, .ref y15, .ref y16, .int (nI js), .ref y17, .int (nI (b2n ib))])), (y8, .inl (.int, 17, .inl (fun q => nI (lv q)))), (y9, .inl (.int, 17, .inl (fun q => nI (en q)))), (y10, .inl (.int, 17, .inl (fun q => nI (mn q)))), (y11, .inl (.int, 2176, .inl (fun q => nI (bk q))))]) 0 [(0, .ref h), (1, .int j), (2, .int v)] []
  have hx9 := win_no (by omega) hx
  have hn0 : [h].Nodup := (List.Nodup.sublist (by repeat first | exact List.nil_sublist _ | apply List.Sublist.cons₂ | apply List.Sublist.cons) hn)
  refine g_aload_n X d_MD_table_0 0 rfl ?_
  refine g_iconst (nI 0) X d_MD_table_1 (by decide) ?_
  refine h_putf (k := 0) (ty := .int) 0 [(h, .inr (6, [.int (nI 0), .int (nI M), .int (nI n), .ref y1, .ref y2, .ref y3, .int (nI u), .ref y4, .ref y5, .ref y6, .ref y7, .int (nI c), .ref y8, .ref y9, .ref y10, .ref y11, .ref y12, .int bd, .int ck, .int ps, .int (nI pa), .int lc, .int (nI (b2n fb)), .long ek, .long ev, .int (nI el), .int (nI fn), .ref y13, .ref y14, .ref y15, .ref y16, .int (nI js), .ref y17, .int (nI (b2n ib))])), (y8, .inl (.int, 17, .inl (fun q => nI (lv q)))), (y9, .inl (.int, 17, .inl (fun q => nI (en q)))), (y10, .inl (.int, 17, .inl (fun q => nI (mn q)))), (y11, .inl (.int, 2176, .inl (fun q => nI (bk q))))] X d_MD_table_2 hn rfl rfl i_MD t_MD t_MD_ok n_MD (by decide) k_fl_MD_70 (fun _ h => h) rfl (by decide +kernel) rfl rfl (Nat.le_of_ble_eq_true rfl) rfl ?_
  refine g_iload_n X d_MD_table_5 1 rfl ?_
  refine g_iconst (nI 0) X d_MD_table_6 (by decide) ?_
  refine g_aload_n X d_MD_table_7 0 rfl ?_
  refine g_getf (k := 11) X d_MD_table_8 (hl_w 0 rfl hn) rfl i_MD (by decide) k_fl_MD_136 (fun _ h => h) rfl ?_
  refine g_iconst (nI 1) X d_MD_table_11 (by decide) ?_
  refine g_isub X d_MD_table_12 ?_
  refine h_callS (As := [.int j, .int (nI 0), .int ((nI c) - (nI 1))]) (st := []) [] [(h, .inr (6, [.int (nI 0), .int (nI M), .int (nI n), .ref y1, .ref y2, .ref y3, .int (nI u), .ref y4, .ref y5, .ref y6, .ref y7, .int (nI c), .ref y8, .ref y9, .ref y10, .ref y11, .ref y12, .int bd, .int ck, .int ps, .int (nI pa), .int lc, .int (nI (b2n fb)), .long ek, .long ev, .int (nI el), .int (nI fn), .ref y13, .ref y14, .ref y15, .ref y16, .int (nI js), .ref y17, .int (nI (b2n ib))])), (y8, .inl (.int, 17, .inl (fun q => nI (lv q)))), (y9, .inl (.int, 17, .inl (fun q => nI (en q)))), (y10, .inl (.int, 17, .inl (fun q => nI (mn q)))), (y11, .inl (.int, 2176, .inl (fun q => nI (bk q))))] X d_MD_table_13 (c_MD_within hst) rfl k_ml_MD_109 k_cd_MD_within k_in_MD k_st_MD_within ⟨by decide +kernel, by decide +kernel, (by decide +kernel : (parseMethodDescriptor y_MD_within.desc).map (fun d => d.parameters.length) = some 3)⟩ ⟨Nat.le_of_ble_eq_true rfl, Nat.le_of_ble_eq_true rfl⟩ ⟨Nat.le_of_ble_eq_true rfl, Nat.le_of_ble_eq_true rfl⟩ (Nat.le_of_ble_eq_true rfl) hn rfl rfl rfl hp_no hp_no2 ?_
  refine g_if_eq 28 X d_MD_table_16 (by decide) (fun h16 => ?_) (fun h16 => ?_)
  · have h16 := cv_e0 (b2n_31 _) h16
    refine g_aload_n X d_MD_table_28 0 rfl ?_
    refine g_iconst (nI 1) X d_MD_table_29 (by decide) ?_
    refine h_callV (As := [.int (nI 1)]) (st := []) [0] [(h, .inr (6, [.int (nI 1), .int (nI M), .int (nI n), .ref y1, .ref y2, .ref y3, .int (nI u), .ref y4, .ref y5, .ref y6, .ref y7, .int (nI c), .ref y8, .ref y9, .ref y10, .ref y11, .ref y12, .int bd, .int ck, .int ps, .int (nI pa), .int lc, .int (nI (b2n fb)), .long ek, .long ev, .int (nI el), .int (nI fn), .ref y13, .ref y14, .ref y15, .ref y16, .int (nI js), .ref y17, .int (nI (b2n ib))])), (y8, .inl (.int, 17, .inl (fun q => nI (lv q)))), (y9, .inl (.int, 17, .inl (fun q => nI (en q)))), (y10, .inl (.int, 17, .inl (fun q => nI (mn q)))), (y11, .inl (.int, 2176, .inl (fun q => nI (bk q))))] X d_MD_table_30 (c_MD_fail hst hn0) (hl_w 0 rfl hn) rfl rfl k_ml_MD_113 k_cd_MD_fail k_in_MD k_im_MD_fail k_se_MD_fail ⟨by decide +kernel, by decide +kernel, (by decide +kernel : (parseMethodDescriptor y_MD_fail.desc).map (fun d => d.parameters.length) = some 1)⟩ ⟨Nat.le_of_ble_eq_true rfl, Nat.le_of_ble_eq_true rfl⟩ ⟨Nat.le_of_ble_eq_true rfl, Nat.le_of_ble_eq_true rfl⟩ (Nat.le_of_ble_eq_true rfl) hn rfl rfl rfl hp_no hp_no2 ?_
    exact g_iret X hr d_MD_table_33 (Nat.le_of_ble_eq_true rfl) (Nat.le_of_ble_eq_true rfl) (fh_ret_i)
  · have h16 := cv_n0 (b2n_31 _) h16
    rw [hx9] at h16
    exact absurd h16 (by decide)

set_option maxRecDepth 100000 in
set_option maxHeartbeats 1000000 in
theorem c_MD_isByte_in {l : Launch} (hst : l.stackTraces = false) {h y1 y2 y3 y4 y5 y6 y7 y8 y9 y10 y11 y12 y13 y14 y15 y16 y17 M n u c pa el fn js : Nat} {th bd ck ps lc : Int32} {fb ib : Bool} {ek ev : Int64} (hn : [h].Nodup) {j k : Nat} (hj : j < M) (hk : k < 32) (hM : M ≤ 128) : fh_C l fhCl fhT y_MD_isByte (.code y_MD_isByte b_MD_isByte 3 (some .boolean)) 1 22 [.ref h, .int (nI j), .int (nI k)] (hp [(h, .inr (6, [.int th, .int (nI M), .int (nI n), .ref y1, .ref y2, .ref y3, .int (nI u), .ref y4, .ref y5, .ref y6, .ref y7, .int (nI c), .ref y8, .ref y9, .ref y10, .ref y11, .ref y12, .int bd, .int ck, .int ps, .int (nI pa), .int lc, .int (nI (b2n fb)), .long ek, .long ev, .int (nI el), .int (nI fn), .ref y13, .ref y14, .ref y15, .ref y16, .int (nI js), .ref y17, .int (nI (b2n ib))]))]) (hp []) 0 0 (fh_ret (some (.int (nI 1))) [(h, .inr (6, [.int (nI 0), .int (nI M), .int (nI n), .ref y1, .ref y2, .ref y3, .int (nI u), .ref y4, .ref y5, .ref y6, .ref y7, .int (nI c), .ref y8, .ref y9, .ref y10, .ref y11, .ref y12, .int bd, .int ck, .int ps, .int (nI pa), .int lc, .int (nI (b2n fb)), .long ek, .long ev, .int (nI el), .int (nI fn), .ref y13, .ref y14, .ref y15, .ref y16, .int (nI js), .ref y17, .int (nI (b2n ib))]))]) := by
  refine fh_enter (by decide) hst (Nat.le_of_ble_eq_true rfl) ?_
  intro mD mp me sm mm margs mbel mmet mcod X hr hnm hno hf0
  show fh_G mp l me (fh_rm 1 22 0 0) sm mm margs mbel mmet mcod mD fhCl (hp [(h, .inr (6, [.int th, .int (nI M), .int (nI n), .ref y1, .ref y2, .ref y3, .int (nI u), .ref y4, .ref y5, .ref y6, .ref y7, .int (nI c), .ref y8, .ref y9, .ref y10, .ref y11, .ref y12, .int bd, .int ck, .int ps, .int (nI pa), .int lc, .int (nI (b2n fb)), .long ek, .long ev, .int (nI el), .int (nI fn), .ref y13, .ref y14, .ref y15, .ref y16, .int (nI js), .ref y17, .int (nI (b2n ib))]))]) 3 _ 0 0 (hp [(h, .inr (6, [.int th, .int (nI M), .int (nI n), .ref y1, .ref y2, .ref y3, .int (nI u), .ref y4, .ref y5, .ref y6, .ref y7, .int (nI c), .ref y8, .ref y9, .ref y10, .ref y11, .ref y12, .int bd, .int ck, .int ps, .int (nI pa), .int lc, .int (nI (b2n fb)), .long ek, .long ev, .int (nI el), .int (nI fn), .ref y13, .ref y14, .ref y15, .ref y16, .int (nI js), .ref y17, .int (nI (b2n ib))]))]) 0 [(0, .ref h), (1, .int (nI j)), (2, .int (nI k))] []
  have hx := win_in hj (by omega)
  have hy9 := win_ki (show k ≤ 31 by omega) (by decide)
  refine g_aload_n X d_MD_isByte_0 0 rfl ?_
  refine g_iload_n X d_MD_isByte_1 1 rfl ?_
  refine g_iconst (nI 0) X d_MD_isByte_2 (by decide) ?_
  refine g_aload_n X d_MD_isByte_3 0 rfl ?_
  refine g_getf (k := 1) X d_MD_isByte_4 (hl_w 0 rfl hn) rfl i_MD (by decide) k_fl_MD_67 (fun _ h => h) rfl ?_
  refine g_iconst (nI 1) X d_MD_isByte_7 (by decide) ?_
  refine g_isub X d_MD_isByte_8 ?_
  refine h_callS (As := [.int (nI j), .int (nI 0), .int ((nI M) - (nI 1))]) (st := [.ref h]) [] [(h, .inr (6, [.int th, .int (nI M), .int (nI n), .ref y1, .ref y2, .ref y3, .int (nI u), .ref y4, .ref y5, .ref y6, .ref y7, .int (nI c), .ref y8, .ref y9, .ref y10, .ref y11, .ref y12, .int bd, .int ck, .int ps, .int (nI pa), .int lc, .int (nI (b2n fb)), .long ek, .long ev, .int (nI el), .int (nI fn), .ref y13, .ref y14, .ref y15, .ref y16, .int (nI js), .ref y17, .int (nI (b2n ib))]))] X d_MD_isByte_9 (c_MD_within hst) rfl k_ml_MD_109 k_cd_MD_within k_in_MD k_st_MD_within ⟨by decide +kernel, by decide +kernel, (by decide +kernel : (parseMethodDescriptor y_MD_within.desc).map (fun d => d.parameters.length) = some 3)⟩ ⟨Nat.le_of_ble_eq_true rfl, Nat.le_of_ble_eq_true rfl⟩ ⟨Nat.le_of_ble_eq_true rfl, Nat.le_of_ble_eq_true rfl⟩ (Nat.le_of_ble_eq_true rfl) hn rfl rfl rfl hp_no hp_no2 ?_
  refine g_if_eq 29 X d_MD_isByte_12 (by decide) (fun h12 => ?_) (fun h12 => ?_)
  · have h12 := cv_e0 (b2n_31 _) h12
    rw [hx] at h12
    exact absurd h12 (by decide)
  · have h12 := cv_n0 (b2n_31 _) h12
    refine g_iload_n X d_MD_isByte_15 2 rfl ?_
    refine g_iconst (nI 0) X d_MD_isByte_16 (by decide) ?_
    refine g_bipush (nI 31) X d_MD_isByte_17 (by decide) ?_
    refine h_callS (As := [.int (nI k), .int (nI 0), .int (nI 31)]) (st := [.ref h]) [] [(h, .inr (6, [.int th, .int (nI M), .int (nI n), .ref y1, .ref y2, .ref y3, .int (nI u), .ref y4, .ref y5, .ref y6, .ref y7, .int (nI c), .ref y8, .ref y9, .ref y10, .ref y11, .ref y12, .int bd, .int ck, .int ps, .int (nI pa), .int lc, .int (nI (b2n fb)), .long ek, .long ev, .int (nI el), .int (nI fn), .ref y13, .ref y14, .ref y15, .ref y16, .int (nI js), .ref y17, .int (nI (b2n ib))]))] X d_MD_isByte_19 (c_MD_within hst) rfl k_ml_MD_109 k_cd_MD_within k_in_MD k_st_MD_within ⟨by decide +kernel, by decide +kernel, (by decide +kernel : (parseMethodDescriptor y_MD_within.desc).map (fun d => d.parameters.length) = some 3)⟩ ⟨Nat.le_of_ble_eq_true rfl, Nat.le_of_ble_eq_true rfl⟩ ⟨Nat.le_of_ble_eq_true rfl, Nat.le_of_ble_eq_true rfl⟩ (Nat.le_of_ble_eq_true rfl) hn rfl rfl rfl hp_no hp_no2 ?_
    refine g_if_eq 29 X d_MD_isByte_22 (by decide) (fun h22 => ?_) (fun h22 => ?_)
    · have h22 := cv_e0 (b2n_31 _) h22
      rw [hy9] at h22
      exact absurd h22 (by decide)
    · have h22 := cv_n0 (b2n_31 _) h22
      refine g_iconst (nI 0) X d_MD_isByte_25 (by decide) ?_
      refine g_goto 30 X d_MD_isByte_26 (by decide) ?_
      refine h_putf (k := 0) (ty := .int) 0 [(h, .inr (6, [.int (nI 0), .int (nI M), .int (nI n), .ref y1, .ref y2, .ref y3, .int (nI u), .ref y4, .ref y5, .ref y6, .ref y7, .int (nI c), .ref y8, .ref y9, .ref y10, .ref y11, .ref y12, .int bd, .int ck, .int ps, .int (nI pa), .int lc, .int (nI (b2n fb)), .long ek, .long ev, .int (nI el), .int (nI fn), .ref y13, .ref y14, .ref y15, .ref y16, .int (nI js), .ref y17, .int (nI (b2n ib))]))] X d_MD_isByte_30 hn rfl rfl i_MD t_MD t_MD_ok n_MD (by decide) k_fl_MD_70 (fun _ h => h) rfl (by decide +kernel) rfl rfl (Nat.le_of_ble_eq_true rfl) rfl ?_
      refine g_aload_n X d_MD_isByte_33 0 rfl ?_
      refine g_getf (k := 0) X d_MD_isByte_34 (hl_w 0 rfl hn) rfl i_MD (by decide) k_fl_MD_70 (fun _ h => h) rfl ?_
      refine g_if_ne 44 X d_MD_isByte_37 (by decide) (fun h37 => ?_) (fun h37 => ?_)
      · have h37 := cv_n0 (by omega) h37
        omega
      · have h37 := cv_e0 (by omega) h37
        refine g_iconst (nI 1) X d_MD_isByte_40 (by decide) ?_
        refine g_goto 45 X d_MD_isByte_41 (by decide) ?_
        exact g_zret X hr rfl d_MD_isByte_45 (Nat.le_of_ble_eq_true rfl) (Nat.le_of_ble_eq_true rfl) (⟨rfl, rfl⟩)

set_option maxRecDepth 100000 in
set_option maxHeartbeats 1000000 in
theorem c_MD_isByte_no {l : Launch} (hst : l.stackTraces = false) {h y1 y2 y3 y4 y5 y6 y7 y8 y9 y10 y11 y12 y13 y14 y15 y16 y17 M n u c pa el fn js : Nat} {th bd ck ps lc : Int32} {fb ib : Bool} {ek ev : Int64} (hn : [h].Nodup) {b9 i9 : Int32} (hx : wnb b9 (nI 0) (nI M - nI 1) = true → wnb i9 (nI 0) (nI 31) = true → False) (hM : M ≤ 128) : fh_C l fhCl fhT y_MD_isByte (.code y_MD_isByte b_MD_isByte 3 (some .boolean)) 1 22 [.ref h, .int b9, .int i9] (hp [(h, .inr (6, [.int th, .int (nI M), .int (nI n), .ref y1, .ref y2, .ref y3, .int (nI u), .ref y4, .ref y5, .ref y6, .ref y7, .int (nI c), .ref y8, .ref y9, .ref y10, .ref y11, .ref y12, .int bd, .int ck, .int ps, .int (nI pa), .int lc, .int (nI (b2n fb)), .long ek, .long ev, .int (nI el), .int (nI fn), .ref y13, .ref y14, .ref y15, .ref y16, .int (nI js), .ref y17, .int (nI (b2n ib))]))]) (hp []) 0 0 (fh_ret (some (.int (nI 0))) [(h, .inr (6, [.int (nI 1), .int (nI M), .int (nI n), .ref y1, .ref y2, .ref y3, .int (nI u), .ref y4, .ref y5, .ref y6, .ref y7, .int (nI c), .ref y8, .ref y9, .ref y10, .ref y11, .ref y12, .int bd, .int ck, .int ps, .int (nI pa), .int lc, .int (nI (b2n fb)), .long ek, .long ev, .int (nI el), .int (nI fn), .ref y13, .ref y14, .ref y15, .ref y16, .int (nI js), .ref y17, .int (nI (b2n ib))]))]) := by
  refine fh_enter (by decide) hst (Nat.le_of_ble_eq_true rfl) ?_
  intro mD mp me sm mm margs mbel mmet mcod X hr hnm hno hf0
  show fh_G mp l me (fh_rm 1 22 0 0) sm mm margs mbel mmet mcod mD fhCl (hp [(h, .inr (6, [.int th, .int (nI M), .int (nI n), .ref y1, .ref y2, .ref y3, .int (nI u), .ref y4, .ref y5, .ref y6, .ref y7, .int (nI c), .ref y8, .ref y9, .ref y10, .ref y11, .ref y12, .int bd, .int ck, .int ps, .int (nI pa), .int lc, .int (nI (b2n fb)), .long ek, .long ev, .int (nI el), .int (nI fn), .ref y13, .ref y14, .ref y15, .ref y16, .int (nI js), .ref y17, .int (nI (b2n ib))]))]) 3 _ 0 0 (hp [(h, .inr (6, [.int th, .int (nI M), .int (nI n), .ref y1, .ref y2, .ref y3, .int (nI u), .ref y4, .ref y5, .ref y6, .ref y7, .int (nI c), .ref y8, .ref y9, .ref y10, .ref y11, .ref y12, .int bd, .int ck, .int ps, .int (nI pa), .int lc, .int (nI (b2n fb)), .long ek, .long ev, .int (nI el), .int (nI fn), .ref y13, .ref y14, .ref y15, .ref y16, .int (nI js), .ref y17, .int (nI (b2n ib))]))]) 0 [(0, .ref h), (1, .int b9), (2, .int i9)] []
  refine g_aload_n X d_MD_isByte_0 0 rfl ?_
  refine g_iload_n X d_MD_isByte_1 1 rfl ?_
  refine g_iconst (nI 0) X d_MD_isByte_2 (by decide) ?_
  refine g_aload_n X d_MD_isByte_3 0 rfl ?_
  refine g_getf (k := 1) X d_MD_isByte_4 (hl_w 0 rfl hn) rfl i_MD (by decide) k_fl_MD_67 (fun _ h => h) rfl ?_
  refine g_iconst (nI 1) X d_MD_isByte_7 (by decide) ?_
  refine g_isub X d_MD_isByte_8 ?_
  refine h_callS (As := [.int b9, .int (nI 0), .int ((nI M) - (nI 1))]) (st := [.ref h]) [] [(h, .inr (6, [.int th, .int (nI M), .int (nI n), .ref y1, .ref y2, .ref y3, .int (nI u), .ref y4, .ref y5, .ref y6, .ref y7, .int (nI c), .ref y8, .ref y9, .ref y10, .ref y11, .ref y12, .int bd, .int ck, .int ps, .int (nI pa), .int lc, .int (nI (b2n fb)), .long ek, .long ev, .int (nI el), .int (nI fn), .ref y13, .ref y14, .ref y15, .ref y16, .int (nI js), .ref y17, .int (nI (b2n ib))]))] X d_MD_isByte_9 (c_MD_within hst) rfl k_ml_MD_109 k_cd_MD_within k_in_MD k_st_MD_within ⟨by decide +kernel, by decide +kernel, (by decide +kernel : (parseMethodDescriptor y_MD_within.desc).map (fun d => d.parameters.length) = some 3)⟩ ⟨Nat.le_of_ble_eq_true rfl, Nat.le_of_ble_eq_true rfl⟩ ⟨Nat.le_of_ble_eq_true rfl, Nat.le_of_ble_eq_true rfl⟩ (Nat.le_of_ble_eq_true rfl) hn rfl rfl rfl hp_no hp_no2 ?_
  refine g_if_eq 29 X d_MD_isByte_12 (by decide) (fun h12 => ?_) (fun h12 => ?_)
  · have h12 := cv_e0 (b2n_31 _) h12
    refine g_iconst (nI 1) X d_MD_isByte_29 (by decide) ?_
    refine h_putf (k := 0) (ty := .int) 0 [(h, .inr (6, [.int (nI 1), .int (nI M), .int (nI n), .ref y1, .ref y2, .ref y3, .int (nI u), .ref y4, .ref y5, .ref y6, .ref y7, .int (nI c), .ref y8, .ref y9, .ref y10, .ref y11, .ref y12, .int bd, .int ck, .int ps, .int (nI pa), .int lc, .int (nI (b2n fb)), .long ek, .long ev, .int (nI el), .int (nI fn), .ref y13, .ref y14, .ref y15, .ref y16, .int (nI js), .ref y17, .int (nI (b2n ib))]))] X d_MD_isByte_30 hn rfl rfl i_MD t_MD t_MD_ok n_MD (by decide) k_fl_MD_70 (fun _ h => h) rfl (by decide +kernel) rfl rfl (Nat.le_of_ble_eq_true rfl) rfl ?_
    refine g_aload_n X d_MD_isByte_33 0 rfl ?_
    refine g_getf (k := 0) X d_MD_isByte_34 (hl_w 0 rfl hn) rfl i_MD (by decide) k_fl_MD_70 (fun _ h => h) rfl ?_
    refine g_if_ne 44 X d_MD_isByte_37 (by decide) (fun h37 => ?_) (fun h37 => ?_)
    · have h37 := cv_n0 (by omega) h37
      refine g_iconst (nI 0) X d_MD_isByte_44 (by decide) ?_
      exact g_zret X hr rfl d_MD_isByte_45 (Nat.le_of_ble_eq_true rfl) (Nat.le_of_ble_eq_true rfl) (⟨rfl, rfl⟩)
    · have h37 := cv_e0 (by omega) h37
      omega
  · have h12 := cv_n0 (b2n_31 _) h12
    refine g_iload_n X d_MD_isByte_15 2 rfl ?_
    refine g_iconst (nI 0) X d_MD_isByte_16 (by decide) ?_
    refine g_bipush (nI 31) X d_MD_isByte_17 (by decide) ?_
    refine h_callS (As := [.int i9, .int (nI 0), .int (nI 31)]) (st := [.ref h]) [] [(h, .inr (6, [.int th, .int (nI M), .int (nI n), .ref y1, .ref y2, .ref y3, .int (nI u), .ref y4, .ref y5, .ref y6, .ref y7, .int (nI c), .ref y8, .ref y9, .ref y10, .ref y11, .ref y12, .int bd, .int ck, .int ps, .int (nI pa), .int lc, .int (nI (b2n fb)), .long ek, .long ev, .int (nI el), .int (nI fn), .ref y13, .ref y14, .ref y15, .ref y16, .int (nI js), .ref y17, .int (nI (b2n ib))]))] X d_MD_isByte_19 (c_MD_within hst) rfl k_ml_MD_109 k_cd_MD_within k_in_MD k_st_MD_within ⟨by decide +kernel, by decide +kernel, (by decide +kernel : (parseMethodDescriptor y_MD_within.desc).map (fun d => d.parameters.length) = some 3)⟩ ⟨Nat.le_of_ble_eq_true rfl, Nat.le_of_ble_eq_true rfl⟩ ⟨Nat.le_of_ble_eq_true rfl, Nat.le_of_ble_eq_true rfl⟩ (Nat.le_of_ble_eq_true rfl) hn rfl rfl rfl hp_no hp_no2 ?_
    refine g_if_eq 29 X d_MD_isByte_22 (by decide) (fun h22 => ?_) (fun h22 => ?_)
    · have h22 := cv_e0 (b2n_31 _) h22
      refine g_iconst (nI 1) X d_MD_isByte_29 (by decide) ?_
      refine h_putf (k := 0) (ty := .int) 0 [(h, .inr (6, [.int (nI 1), .int (nI M), .int (nI n), .ref y1, .ref y2, .ref y3, .int (nI u), .ref y4, .ref y5, .ref y6, .ref y7, .int (nI c), .ref y8, .ref y9, .ref y10, .ref y11, .ref y12, .int bd, .int ck, .int ps, .int (nI pa), .int lc, .int (nI (b2n fb)), .long ek, .long ev, .int (nI el), .int (nI fn), .ref y13, .ref y14, .ref y15, .ref y16, .int (nI js), .ref y17, .int (nI (b2n ib))]))] X d_MD_isByte_30 hn rfl rfl i_MD t_MD t_MD_ok n_MD (by decide) k_fl_MD_70 (fun _ h => h) rfl (by decide +kernel) rfl rfl (Nat.le_of_ble_eq_true rfl) rfl ?_
      refine g_aload_n X d_MD_isByte_33 0 rfl ?_
      refine g_getf (k := 0) X d_MD_isByte_34 (hl_w 0 rfl hn) rfl i_MD (by decide) k_fl_MD_70 (fun _ h => h) rfl ?_
      refine g_if_ne 44 X d_MD_isByte_37 (by decide) (fun h37 => ?_) (fun h37 => ?_)
      · have h37 := cv_n0 (by omega) h37
        refine g_iconst (nI 0) X d_MD_isByte_44 (by decide) ?_
        exact g_zret X hr rfl d_MD_isByte_45 (Nat.le_of_ble_eq_true rfl) (Nat.le_of_ble_eq_true rfl) (⟨rfl, rfl⟩)
      · have h37 := cv_e0 (by omega) h37
        omega
    · have h22 := cv_n0 (b2n_31 _) h22
      exact absurd (hx (b2n_1 h12) (b2n_1 h22)) id

set_option maxRecDepth 100000 in
set_option maxHeartbeats 1000000 in
theorem c_MD_byteAt_in {l : Launch} (hst : l.stackTraces = false) {h y1 y2 y3 y4 y5 y6 y7 y8 y9 y10 y11 y12 y13 y14 y15 y16 y17 M n u c pa el fn js : Nat} {th bd ck ps lc : Int32} {fb ib : Bool} {ek ev : Int64} {D : Nat → Nat} (hn : [h, y5].Nodup) {j k : Nat} (hj : j < M) (hk : k < 32) (hM : M ≤ 128) : fh_C l fhCl fhT y_MD_byteAt (.code y_MD_byteAt b_MD_byteAt 3 (some .int)) 2 44 [.ref h, .int (nI j), .int (nI k)] (hp [(h, .inr (6, [.int th, .int (nI M), .int (nI n), .ref y1, .ref y2, .ref y3, .int (nI u), .ref y4, .ref y5, .ref y6, .ref y7, .int (nI c), .ref y8, .ref y9, .ref y10, .ref y11, .ref y12, .int bd, .int ck, .int ps, .int (nI pa), .int lc, .int (nI (b2n fb)), .long ek, .long ev, .int (nI el), .int (nI fn), .ref y13, .ref y14, .ref y15, .ref y16, .int (nI js), .ref y17, .int (nI (b2n ib))])), (y5, .inl (.int, 4096, .inl (fun q => nI (D q))))]) (hp []) 0 0 (fh_ret (some (.int (nI (D (j * 32 + k))))) [(h, .inr (6, [.int (nI 0), .int (nI M), .int (nI n), .ref y1, .ref y2, .ref y3, .int (nI u), .ref y4, .ref y5, .ref y6, .ref y7, .int (nI c), .ref y8, .ref y9, .ref y10, .ref y11, .ref y12, .int bd, .int ck, .int ps, .int (nI pa), .int lc, .int (nI (b2n fb)), .long ek, .long ev, .int (nI el), .int (nI fn), .ref y13, .ref y14, .ref y15, .ref y16, .int (nI js), .ref y17, .int (nI (b2n ib))])), (y5, .inl (.int, 4096, .inl (fun q => nI (D q))))]) := by
  refine fh_enter (by decide) hst (Nat.le_of_ble_eq_true rfl) ?_
  intro mD mp me sm mm margs mbel mmet mcod X hr hnm hno hf0
  show fh_G mp l me (fh_rm 2 44 0 0) sm mm margs mbel mmet mcod mD fhCl (hp [(h, .inr (6, [.int th, .int (nI M), .int (nI n), .ref y1, .ref y2, .ref y3, .int (nI u), .ref y4, .ref y5, .ref y6, .ref y7, .int (nI c), .ref y8, .ref y9, .ref y10, .ref y11, .ref y12, .int bd, .int ck, .int ps, .int (nI pa), .int lc, .int (nI (b2n fb)), .long ek, .long ev, .int (nI el), .int (nI fn), .ref y13, .ref y14, .ref y15, .ref y16, .int (nI js), .ref y17, .int (nI (b2n ib))])), (y5, .inl (.int, 4096, .inl (fun q => nI (D q))))]) 3 _ 0 0 (hp [(h, .inr (6, [.int th, .int (nI M), .int (nI n), .ref y1, .ref y2, .ref y3, .int (nI u), .ref y4, .ref y5, .ref y6, .ref y7, .int (nI c), .ref y8, .ref y9, .ref y10, .ref y11, .ref y12, .int bd, .int ck, .int ps, .int (nI pa), .int lc, .int (nI (b2n fb)), .long ek, .long ev, .int (nI el), .int (nI fn), .ref y13, .ref y14, .ref y15, .ref y16, .int (nI js), .ref y17, .int (nI (b2n ib))])), (y5, .inl (.int, 4096, .inl (fun q => nI (D q))))]) 0 [(0, .ref h), (1, .int (nI j)), (2, .int (nI k))] []
  have hn0 : [h].Nodup := (List.Nodup.sublist (by repeat first | exact List.nil_sublist _ | apply List.Sublist.cons₂ | apply List.Sublist.cons) hn)
  refine g_aload_n X d_MD_byteAt_0 0 rfl ?_
  refine g_iload_n X d_MD_byteAt_1 1 rfl ?_
  refine g_iload_n X d_MD_byteAt_2 2 rfl ?_
  refine h_callV (As := [.int (nI j), .int (nI k)]) (st := []) [0] [(h, .inr (6, [.int (nI 0), .int (nI M), .int (nI n), .ref y1, .ref y2, .ref y3, .int (nI u), .ref y4, .ref y5, .ref y6, .ref y7, .int (nI c), .ref y8, .ref y9, .ref y10, .ref y11, .ref y12, .int bd, .int ck, .int ps, .int (nI pa), .int lc, .int (nI (b2n fb)), .long ek, .long ev, .int (nI el), .int (nI fn), .ref y13, .ref y14, .ref y15, .ref y16, .int (nI js), .ref y17, .int (nI (b2n ib))])), (y5, .inl (.int, 4096, .inl (fun q => nI (D q))))] X d_MD_byteAt_3 (c_MD_isByte_in hst hn0 hj hk hM) (hl_w 0 rfl hn) rfl rfl k_ml_MD_258 k_cd_MD_isByte k_in_MD k_im_MD_isByte k_se_MD_isByte ⟨by decide +kernel, by decide +kernel, (by decide +kernel : (parseMethodDescriptor y_MD_isByte.desc).map (fun d => d.parameters.length) = some 2)⟩ ⟨Nat.le_of_ble_eq_true rfl, Nat.le_of_ble_eq_true rfl⟩ ⟨Nat.le_of_ble_eq_true rfl, Nat.le_of_ble_eq_true rfl⟩ (Nat.le_of_ble_eq_true rfl) hn rfl rfl rfl hp_no hp_no2 ?_
  refine g_if_eq 23 X d_MD_byteAt_6 (by decide) (fun h6 => ?_) (fun h6 => ?_)
  · have h6 := cv_e0 (by omega) h6
    omega
  · have h6 := cv_n0 (by omega) h6
    refine g_aload_n X d_MD_byteAt_9 0 rfl ?_
    refine g_getf (k := 8) X d_MD_byteAt_10 (hl_w 0 rfl hn) rfl i_MD (by decide) k_fl_MD_23 (fun _ h => h) rfl ?_
    refine g_bipush (nI 32) X d_MD_byteAt_13 (by decide) ?_
    refine g_iload_n X d_MD_byteAt_15 1 rfl ?_
    refine g_imul X d_MD_byteAt_16 ?_
    refine g_vi (nI (32 * j)) (pk_mul _ _) ?_
    refine g_iload_n X d_MD_byteAt_17 2 rfl ?_
    refine g_iadd X d_MD_byteAt_18 ?_
    refine g_vi (nI (32 * j + k)) (nI_add _ _) ?_
    refine h_iald X d_MD_byteAt_19 (hl_w 1 rfl hn) (by omega) (by omega) ?_
    refine g_goto 24 X d_MD_byteAt_20 (by decide) ?_
    exact g_iret X hr d_MD_byteAt_24 (Nat.le_of_ble_eq_true rfl) (Nat.le_of_ble_eq_true rfl) (⟨by rw [Nat.mul_comm 32 j], rfl⟩)

set_option maxRecDepth 100000 in
set_option maxHeartbeats 1000000 in
theorem c_MD_byteAt_no {l : Launch} (hst : l.stackTraces = false) {h y1 y2 y3 y4 y5 y6 y7 y8 y9 y10 y11 y12 y13 y14 y15 y16 y17 M n u c pa el fn js : Nat} {th bd ck ps lc : Int32} {fb ib : Bool} {ek ev : Int64} {D : Nat → Nat} (hn : [h, y5].Nodup) {b9 i9 : Int32} (hx : wnb b9 (nI 0) (nI M - nI 1) = true → wnb i9 (nI 0) (nI 31) = true → False) (hM : M ≤ 128) : fh_C l fhCl fhT y_MD_byteAt (.code y_MD_byteAt b_MD_byteAt 3 (some .int)) 2 44 [.ref h, .int b9, .int i9] (hp [(h, .inr (6, [.int th, .int (nI M), .int (nI n), .ref y1, .ref y2, .ref y3, .int (nI u), .ref y4, .ref y5, .ref y6, .ref y7, .int (nI c), .ref y8, .ref y9, .ref y10, .ref y11, .ref y12, .int bd, .int ck, .int ps, .int (nI pa), .int lc, .int (nI (b2n fb)), .long ek, .long ev, .int (nI el), .int (nI fn), .ref y13, .ref y14, .ref y15, .ref y16, .int (nI js), .ref y17, .int (nI (b2n ib))])), (y5, .inl (.int, 4096, .inl (fun q => nI (D q))))]) (hp []) 0 0 (fh_ret (some (.int (nI 0))) [(h, .inr (6, [.int (nI 1), .int (nI M), .int (nI n), .ref y1, .ref y2, .ref y3, .int (nI u), .ref y4, .ref y5, .ref y6, .ref y7, .int (nI c), .ref y8, .ref y9, .ref y10, .ref y11, .ref y12, .int bd, .int ck, .int ps, .int (nI pa), .int lc, .int (nI (b2n fb)), .long ek, .long ev, .int (nI el), .int (nI fn), .ref y13, .ref y14, .ref y15, .ref y16, .int (nI js), .ref y17, .int (nI (b2n ib))])), (y5, .inl (.int, 4096, .inl (fun q => nI (D q))))]) := by
  refine fh_enter (by decide) hst (Nat.le_of_ble_eq_true rfl) ?_
  intro mD mp me sm mm margs mbel mmet mcod X hr hnm hno hf0
  show fh_G mp l me (fh_rm 2 44 0 0) sm mm margs mbel mmet mcod mD fhCl (hp [(h, .inr (6, [.int th, .int (nI M), .int (nI n), .ref y1, .ref y2, .ref y3, .int (nI u), .ref y4, .ref y5, .ref y6, .ref y7, .int (nI c), .ref y8, .ref y9, .ref y10, .ref y11, .ref y12, .int bd, .int ck, .int ps, .int (nI pa), .int lc, .int (nI (b2n fb)), .long ek, .long ev, .int (nI el), .int (nI fn), .ref y13, .ref y14, .ref y15, .ref y16, .int (nI js), .ref y17, .int (nI (b2n ib))])), (y5, .inl (.int, 4096, .inl (fun q => nI (D q))))]) 3 _ 0 0 (hp [(h, .inr (6, [.int th, .int (nI M), .int (nI n), .ref y1, .ref y2, .ref y3, .int (nI u), .ref y4, .ref y5, .ref y6, .ref y7, .int (nI c), .ref y8, .ref y9, .ref y10, .ref y11, .ref y12, .int bd, .int ck, .int ps, .int (nI pa), .int lc, .int (nI (b2n fb)), .long ek, .long ev, .int (nI el), .int (nI fn), .ref y13, .ref y14, .ref y15, .ref y16, .int (nI js), .ref y17, .int (nI (b2n ib))])), (y5, .inl (.int, 4096, .inl (fun q => nI (D q))))]) 0 [(0, .ref h), (1, .int b9), (2, .int i9)] []
  have hn0 : [h].Nodup := (List.Nodup.sublist (by repeat first | exact List.nil_sublist _ | apply List.Sublist.cons₂ | apply List.Sublist.cons) hn)
  refine g_aload_n X d_MD_byteAt_0 0 rfl ?_
  refine g_iload_n X d_MD_byteAt_1 1 rfl ?_
  refine g_iload_n X d_MD_byteAt_2 2 rfl ?_
  refine h_callV (As := [.int b9, .int i9]) (st := []) [0] [(h, .inr (6, [.int (nI 1), .int (nI M), .int (nI n), .ref y1, .ref y2, .ref y3, .int (nI u), .ref y4, .ref y5, .ref y6, .ref y7, .int (nI c), .ref y8, .ref y9, .ref y10, .ref y11, .ref y12, .int bd, .int ck, .int ps, .int (nI pa), .int lc, .int (nI (b2n fb)), .long ek, .long ev, .int (nI el), .int (nI fn), .ref y13, .ref y14, .ref y15, .ref y16, .int (nI js), .ref y17, .int (nI (b2n ib))])), (y5, .inl (.int, 4096, .inl (fun q => nI (D q))))] X d_MD_byteAt_3 (c_MD_isByte_no hst hn0 hx hM) (hl_w 0 rfl hn) rfl rfl k_ml_MD_258 k_cd_MD_isByte k_in_MD k_im_MD_isByte k_se_MD_isByte ⟨by decide +kernel, by decide +kernel, (by decide +kernel : (parseMethodDescriptor y_MD_isByte.desc).map (fun d => d.parameters.length) = some 2)⟩ ⟨Nat.le_of_ble_eq_true rfl, Nat.le_of_ble_eq_true rfl⟩ ⟨Nat.le_of_ble_eq_true rfl, Nat.le_of_ble_eq_true rfl⟩ (Nat.le_of_ble_eq_true rfl) hn rfl rfl rfl hp_no hp_no2 ?_
  refine g_if_eq 23 X d_MD_byteAt_6 (by decide) (fun h6 => ?_) (fun h6 => ?_)
  · have h6 := cv_e0 (by omega) h6
    refine g_iconst (nI 0) X d_MD_byteAt_23 (by decide) ?_
    exact g_iret X hr d_MD_byteAt_24 (Nat.le_of_ble_eq_true rfl) (Nat.le_of_ble_eq_true rfl) (fh_ret_i)
  · have h6 := cv_n0 (by omega) h6
    omega

set_option maxRecDepth 100000 in
set_option maxHeartbeats 1000000 in
theorem c_MD_poke_in {l : Launch} (hst : l.stackTraces = false) {h y1 y2 y3 y4 y5 y6 y7 y8 y9 y10 y11 y12 y13 y14 y15 y16 y17 M n u c pa el fn js : Nat} {th bd ck ps lc : Int32} {fb ib : Bool} {ek ev : Int64} {D : Nat → Nat} (hn : [h, y5].Nodup) {j k : Nat} (hj : j < M) (hk : k < 32) (hM : M ≤ 128) {wm : Int32} (hD : ∀ q, D q < 256) : fh_C l fhCl fhT y_MD_poke (.code y_MD_poke b_MD_poke 4 (some .int)) 2 44 [.ref h, .int (nI j), .int (nI k), .int wm] (hp [(h, .inr (6, [.int th, .int (nI M), .int (nI n), .ref y1, .ref y2, .ref y3, .int (nI u), .ref y4, .ref y5, .ref y6, .ref y7, .int (nI c), .ref y8, .ref y9, .ref y10, .ref y11, .ref y12, .int bd, .int ck, .int ps, .int (nI pa), .int lc, .int (nI (b2n fb)), .long ek, .long ev, .int (nI el), .int (nI fn), .ref y13, .ref y14, .ref y15, .ref y16, .int (nI js), .ref y17, .int (nI (b2n ib))])), (y5, .inl (.int, 4096, .inl (fun q => nI (D q))))]) (hp []) 0 0 (fh_ret (some (.int (nI (xrb (D (j * 32 + k)) wm)))) [(h, .inr (6, [.int (nI 0), .int (nI M), .int (nI n), .ref y1, .ref y2, .ref y3, .int (nI u), .ref y4, .ref y5, .ref y6, .ref y7, .int (nI c), .ref y8, .ref y9, .ref y10, .ref y11, .ref y12, .int bd, .int ck, .int ps, .int (nI pa), .int lc, .int (nI (b2n fb)), .long ek, .long ev, .int (nI el), .int (nI fn), .ref y13, .ref y14, .ref y15, .ref y16, .int (nI js), .ref y17, .int (nI (b2n ib))])), (y5, .inl (.int, 4096, .inl (fun q => nI (((va_up D (j * 32 + k) (xrb (D (j * 32 + k)) wm))) q))))]) := by
  refine fh_enter (by decide) hst (Nat.le_of_ble_eq_true rfl) ?_
  intro mD mp me sm mm margs mbel mmet mcod X hr hnm hno hf0
  show fh_G mp l me (fh_rm 2 44 0 0) sm mm margs mbel mmet mcod mD fhCl (hp [(h, .inr (6, [.int th, .int (nI M), .int (nI n), .ref y1, .ref y2, .ref y3, .int (nI u), .ref y4, .ref y5, .ref y6, .ref y7, .int (nI c), .ref y8, .ref y9, .ref y10, .ref y11, .ref y12, .int bd, .int ck, .int ps, .int (nI pa), .int lc, .int (nI (b2n fb)), .long ek, .long ev, .int (nI el), .int (nI fn), .ref y13, .ref y14, .ref y15, .ref y16, .int (nI js), .ref y17, .int (nI (b2n ib))])), (y5, .inl (.int, 4096, .inl (fun q => nI (D q))))]) 4 _ 0 0 (hp [(h, .inr (6, [.int th, .int (nI M), .int (nI n), .ref y1, .ref y2, .ref y3, .int (nI u), .ref y4, .ref y5, .ref y6, .ref y7, .int (nI c), .ref y8, .ref y9, .ref y10, .ref y11, .ref y12, .int bd, .int ck, .int ps, .int (nI pa), .int lc, .int (nI (b2n fb)), .long ek, .long ev, .int (nI el), .int (nI fn), .ref y13, .ref y14, .ref y15, .ref y16, .int (nI js), .ref y17, .int (nI (b2n ib))])), (y5, .inl (.int, 4096, .inl (fun q => nI (D q))))]) 0 [(0, .ref h), (1, .int (nI j)), (2, .int (nI k)), (3, .int wm)] []
  have hn0 : [h].Nodup := (List.Nodup.sublist (by repeat first | exact List.nil_sublist _ | apply List.Sublist.cons₂ | apply List.Sublist.cons) hn)
  refine g_aload_n X d_MD_poke_0 0 rfl ?_
  refine g_iload_n X d_MD_poke_1 1 rfl ?_
  refine g_iload_n X d_MD_poke_2 2 rfl ?_
  refine h_callV (As := [.int (nI j), .int (nI k)]) (st := []) [0] [(h, .inr (6, [.int (nI 0), .int (nI M), .int (nI n), .ref y1, .ref y2, .ref y3, .int (nI u), .ref y4, .ref y5, .ref y6, .ref y7, .int (nI c), .ref y8, .ref y9, .ref y10, .ref y11, .ref y12, .int bd, .int ck, .int ps, .int (nI pa), .int lc, .int (nI (b2n fb)), .long ek, .long ev, .int (nI el), .int (nI fn), .ref y13, .ref y14, .ref y15, .ref y16, .int (nI js), .ref y17, .int (nI (b2n ib))])), (y5, .inl (.int, 4096, .inl (fun q => nI (D q))))] X d_MD_poke_3 (c_MD_isByte_in hst hn0 hj hk hM) (hl_w 0 rfl hn) rfl rfl k_ml_MD_258 k_cd_MD_isByte k_in_MD k_im_MD_isByte k_se_MD_isByte ⟨by decide +kernel, by decide +kernel, (by decide +kernel : (parseMethodDescriptor y_MD_isByte.desc).map (fun d => d.parameters.length) = some 2)⟩ ⟨Nat.le_of_ble_eq_true rfl, Nat.le_of_ble_eq_true rfl⟩ ⟨Nat.le_of_ble_eq_true rfl, Nat.le_of_ble_eq_true rfl⟩ (Nat.le_of_ble_eq_true rfl) hn rfl rfl rfl hp_no hp_no2 ?_
  refine g_if_ne 11 X d_MD_poke_6 (by decide) (fun h6 => ?_) (fun h6 => ?_)
  · have h6 := cv_n0 (by omega) h6
    refine g_aload_n X d_MD_poke_11 0 rfl ?_
    refine g_getf (k := 8) X d_MD_poke_12 (hl_w 0 rfl hn) rfl i_MD (by decide) k_fl_MD_23 (fun _ h => h) rfl ?_
    refine g_bipush (nI 32) X d_MD_poke_15 (by decide) ?_
    refine g_iload_n X d_MD_poke_17 1 rfl ?_
    refine g_imul X d_MD_poke_18 ?_
    refine g_vi (nI (32 * j)) (pk_mul _ _) ?_
    refine g_iload_n X d_MD_poke_19 2 rfl ?_
    refine g_iadd X d_MD_poke_20 ?_
    refine g_vi (nI (32 * j + k)) (nI_add _ _) ?_
    refine g_aload_n X d_MD_poke_21 0 rfl ?_
    refine g_getf (k := 8) X d_MD_poke_22 (hl_w 0 rfl hn) rfl i_MD (by decide) k_fl_MD_23 (fun _ h => h) rfl ?_
    refine g_bipush (nI 32) X d_MD_poke_25 (by decide) ?_
    refine g_iload_n X d_MD_poke_27 1 rfl ?_
    refine g_imul X d_MD_poke_28 ?_
    refine g_vi (nI (32 * j)) (pk_mul _ _) ?_
    refine g_iload_n X d_MD_poke_29 2 rfl ?_
    refine g_iadd X d_MD_poke_30 ?_
    refine g_vi (nI (32 * j + k)) (nI_add _ _) ?_
    refine h_iald X d_MD_poke_31 (hl_w 1 rfl hn) (by omega) (by omega) ?_
    refine g_iload_n X d_MD_poke_32 3 rfl ?_
    refine g_sipush (nI 255) X d_MD_poke_33 (by decide) ?_
    refine g_iand X d_MD_poke_36 ?_
    refine g_ixor X d_MD_poke_37 ?_
    refine g_vi (nI (xrb (D (32 * j + k)) wm)) (xor255 (hD _) wm) ?_
    refine h_iastN 1 [(h, .inr (6, [.int (nI 0), .int (nI M), .int (nI n), .ref y1, .ref y2, .ref y3, .int (nI u), .ref y4, .ref y5, .ref y6, .ref y7, .int (nI c), .ref y8, .ref y9, .ref y10, .ref y11, .ref y12, .int bd, .int ck, .int ps, .int (nI pa), .int lc, .int (nI (b2n fb)), .long ek, .long ev, .int (nI el), .int (nI fn), .ref y13, .ref y14, .ref y15, .ref y16, .int (nI js), .ref y17, .int (nI (b2n ib))])), (y5, .inl (.int, 4096, .inl (fun q => nI ((va_up D (32 * j + k) (xrb (D (32 * j + k)) wm)) q))))] X d_MD_poke_38 hn rfl (by omega) (by omega) rfl ?_
    refine g_aload_n X d_MD_poke_39 0 rfl ?_
    refine g_getf (k := 8) X d_MD_poke_40 (hl_w 0 rfl hn) rfl i_MD (by decide) k_fl_MD_23 (fun _ h => h) rfl ?_
    refine g_bipush (nI 32) X d_MD_poke_43 (by decide) ?_
    refine g_iload_n X d_MD_poke_45 1 rfl ?_
    refine g_imul X d_MD_poke_46 ?_
    refine g_vi (nI (32 * j)) (pk_mul _ _) ?_
    refine g_iload_n X d_MD_poke_47 2 rfl ?_
    refine g_iadd X d_MD_poke_48 ?_
    refine g_vi (nI (32 * j + k)) (nI_add _ _) ?_
    refine h_iald X d_MD_poke_49 (hl_w 1 rfl hn) (by omega) (by omega) ?_
    exact g_iret X hr d_MD_poke_50 (Nat.le_of_ble_eq_true rfl) (Nat.le_of_ble_eq_true rfl) (⟨by rw [va_up_self, Nat.mul_comm 32 j], by rw [Nat.mul_comm 32 j]⟩)
  · have h6 := cv_e0 (by omega) h6
    omega

set_option maxRecDepth 100000 in
set_option maxHeartbeats 1000000 in
theorem c_MD_poke_no {l : Launch} (hst : l.stackTraces = false) {h y1 y2 y3 y4 y5 y6 y7 y8 y9 y10 y11 y12 y13 y14 y15 y16 y17 M n u c pa el fn js : Nat} {th bd ck ps lc : Int32} {fb ib : Bool} {ek ev : Int64} {D : Nat → Nat} (hn : [h, y5].Nodup) {b9 i9 : Int32} (hx : wnb b9 (nI 0) (nI M - nI 1) = true → wnb i9 (nI 0) (nI 31) = true → False) (hM : M ≤ 128) {wm : Int32} : fh_C l fhCl fhT y_MD_poke (.code y_MD_poke b_MD_poke 4 (some .int)) 2 44 [.ref h, .int b9, .int i9, .int wm] (hp [(h, .inr (6, [.int th, .int (nI M), .int (nI n), .ref y1, .ref y2, .ref y3, .int (nI u), .ref y4, .ref y5, .ref y6, .ref y7, .int (nI c), .ref y8, .ref y9, .ref y10, .ref y11, .ref y12, .int bd, .int ck, .int ps, .int (nI pa), .int lc, .int (nI (b2n fb)), .long ek, .long ev, .int (nI el), .int (nI fn), .ref y13, .ref y14, .ref y15, .ref y16, .int (nI js), .ref y17, .int (nI (b2n ib))])), (y5, .inl (.int, 4096, .inl (fun q => nI (D q))))]) (hp []) 0 0 (fh_ret (some (.int (nI 0))) [(h, .inr (6, [.int (nI 1), .int (nI M), .int (nI n), .ref y1, .ref y2, .ref y3, .int (nI u), .ref y4, .ref y5, .ref y6, .ref y7, .int (nI c), .ref y8, .ref y9, .ref y10, .ref y11, .ref y12, .int bd, .int ck, .int ps, .int (nI pa), .int lc, .int (nI (b2n fb)), .long ek, .long ev, .int (nI el), .int (nI fn), .ref y13, .ref y14, .ref y15, .ref y16, .int (nI js), .ref y17, .int (nI (b2n ib))])), (y5, .inl (.int, 4096, .inl (fun q => nI (D q))))]) := by
  refine fh_enter (by decide) hst (Nat.le_of_ble_eq_true rfl) ?_
  intro mD mp me sm mm margs mbel mmet mcod X hr hnm hno hf0
  show fh_G mp l me (fh_rm 2 44 0 0) sm mm margs mbel mmet mcod mD fhCl (hp [(h, .inr (6, [.int th, .int (nI M), .int (nI n), .ref y1, .ref y2, .ref y3, .int (nI u), .ref y4, .ref y5, .ref y6, .ref y7, .int (nI c), .ref y8, .ref y9, .ref y10, .ref y11, .ref y12, .int bd, .int ck, .int ps, .int (nI pa), .int lc, .int (nI (b2n fb)), .long ek, .long ev, .int (nI el), .int (nI fn), .ref y13, .ref y14, .ref y15, .ref y16, .int (nI js), .ref y17, .int (nI (b2n ib))])), (y5, .inl (.int, 4096, .inl (fun q => nI (D q))))]) 4 _ 0 0 (hp [(h, .inr (6, [.int th, .int (nI M), .int (nI n), .ref y1, .ref y2, .ref y3, .int (nI u), .ref y4, .ref y5, .ref y6, .ref y7, .int (nI c), .ref y8, .ref y9, .ref y10, .ref y11, .ref y12, .int bd, .int ck, .int ps, .int (nI pa), .int lc, .int (nI (b2n fb)), .long ek, .long ev, .int (nI el), .int (nI fn), .ref y13, .ref y14, .ref y15, .ref y16, .int (nI js), .ref y17, .int (nI (b2n ib))])), (y5, .inl (.int, 4096, .inl (fun q => nI (D q))))]) 0 [(0, .ref h), (1, .int b9), (2, .int i9), (3, .int wm)] []
  have hn0 : [h].Nodup := (List.Nodup.sublist (by repeat first | exact List.nil_sublist _ | apply List.Sublist.cons₂ | apply List.Sublist.cons) hn)
  refine g_aload_n X d_MD_poke_0 0 rfl ?_
  refine g_iload_n X d_MD_poke_1 1 rfl ?_
  refine g_iload_n X d_MD_poke_2 2 rfl ?_
  refine h_callV (As := [.int b9, .int i9]) (st := []) [0] [(h, .inr (6, [.int (nI 1), .int (nI M), .int (nI n), .ref y1, .ref y2, .ref y3, .int (nI u), .ref y4, .ref y5, .ref y6, .ref y7, .int (nI c), .ref y8, .ref y9, .ref y10, .ref y11, .ref y12, .int bd, .int ck, .int ps, .int (nI pa), .int lc, .int (nI (b2n fb)), .long ek, .long ev, .int (nI el), .int (nI fn), .ref y13, .ref y14, .ref y15, .ref y16, .int (nI js), .ref y17, .int (nI (b2n ib))])), (y5, .inl (.int, 4096, .inl (fun q => nI (D q))))] X d_MD_poke_3 (c_MD_isByte_no hst hn0 hx hM) (hl_w 0 rfl hn) rfl rfl k_ml_MD_258 k_cd_MD_isByte k_in_MD k_im_MD_isByte k_se_MD_isByte ⟨by decide +kernel, by decide +kernel, (by decide +kernel : (parseMethodDescriptor y_MD_isByte.desc).map (fun d => d.parameters.length) = some 2)⟩ ⟨Nat.le_of_ble_eq_true rfl, Nat.le_of_ble_eq_true rfl⟩ ⟨Nat.le_of_ble_eq_true rfl, Nat.le_of_ble_eq_true rfl⟩ (Nat.le_of_ble_eq_true rfl) hn rfl rfl rfl hp_no hp_no2 ?_
  refine g_if_ne 11 X d_MD_poke_6 (by decide) (fun h6 => ?_) (fun h6 => ?_)
  · have h6 := cv_n0 (by omega) h6
    omega
  · have h6 := cv_e0 (by omega) h6
    refine g_iconst (nI 0) X d_MD_poke_9 (by decide) ?_
    exact g_iret X hr d_MD_poke_10 (Nat.le_of_ble_eq_true rfl) (Nat.le_of_ble_eq_true rfl) (fh_ret_i)

set_option maxRecDepth 100000 in
set_option maxHeartbeats 1000000 in
theorem c_MD_sum_in {l : Launch} (hst : l.stackTraces = false) {h y1 y2 y3 y4 y5 y6 y7 y8 y9 y10 y11 y12 y13 y14 y15 y16 y17 M n u c pa el fn js : Nat} {th bd ck ps lc : Int32} {fb ib : Bool} {ek ev : Int64} {S : Nat → Int32} (hn : [h, y6].Nodup) {j : Nat} (hj : j < M) (hM : M ≤ 128) : fh_C l fhCl fhT y_MD_sum (.code y_MD_sum b_MD_sum 2 (some .int)) 1 22 [.ref h, .int (nI j)] (hp [(h, .inr (6, [.int th, .int (nI M), .int (nI n), .ref y1, .ref y2, .ref y3, .int (nI u), .ref y4, .ref y5, .ref y6, .ref y7, .int (nI c), .ref y8, .ref y9, .ref y10, .ref y11, .ref y12, .int bd, .int ck, .int ps, .int (nI pa), .int lc, .int (nI (b2n fb)), .long ek, .long ev, .int (nI el), .int (nI fn), .ref y13, .ref y14, .ref y15, .ref y16, .int (nI js), .ref y17, .int (nI (b2n ib))])), (y6, .inl (.int, 128, .inl S))]) (hp []) 0 0 (fh_ret (some (.int (S j))) [(h, .inr (6, [.int (nI 0), .int (nI M), .int (nI n), .ref y1, .ref y2, .ref y3, .int (nI u), .ref y4, .ref y5, .ref y6, .ref y7, .int (nI c), .ref y8, .ref y9, .ref y10, .ref y11, .ref y12, .int bd, .int ck, .int ps, .int (nI pa), .int lc, .int (nI (b2n fb)), .long ek, .long ev, .int (nI el), .int (nI fn), .ref y13, .ref y14, .ref y15, .ref y16, .int (nI js), .ref y17, .int (nI (b2n ib))])), (y6, .inl (.int, 128, .inl S))]) := by
  refine fh_enter (by decide) hst (Nat.le_of_ble_eq_true rfl) ?_
  intro mD mp me sm mm margs mbel mmet mcod X hr hnm hno hf0
  show fh_G mp l me (fh_rm 1 22 0 0) sm mm margs mbel mmet mcod mD fhCl (hp [(h, .inr (6, [.int th, .int (nI M), .int (nI n), .ref y1, .ref y2, .ref y3, .int (nI u), .ref y4, .ref y5, .ref y6, .ref y7, .int (nI c), .ref y8, .ref y9, .ref y10, .ref y11, .ref y12, .int bd, .int ck, .int ps, .int (nI pa), .int lc, .int (nI (b2n fb)), .long ek, .long ev, .int (nI el), .int (nI fn), .ref y13, .ref y14, .ref y15, .ref y16, .int (nI js), .ref y17, .int (nI (b2n ib))])), (y6, .inl (.int, 128, .inl S))]) 2 _ 0 0 (hp [(h, .inr (6, [.int th, .int (nI M), .int (nI n), .ref y1, .ref y2, .ref y3, .int (nI u), .ref y4, .ref y5, .ref y6, .ref y7, .int (nI c), .ref y8, .ref y9, .ref y10, .ref y11, .ref y12, .int bd, .int ck, .int ps, .int (nI pa), .int lc, .int (nI (b2n fb)), .long ek, .long ev, .int (nI el), .int (nI fn), .ref y13, .ref y14, .ref y15, .ref y16, .int (nI js), .ref y17, .int (nI (b2n ib))])), (y6, .inl (.int, 128, .inl S))]) 0 [(0, .ref h), (1, .int (nI j))] []
  have hx := win_in hj (by omega)
  refine g_aload_n X d_MD_sum_0 0 rfl ?_
  refine g_iconst (nI 0) X d_MD_sum_1 (by decide) ?_
  refine h_putf (k := 0) (ty := .int) 0 [(h, .inr (6, [.int (nI 0), .int (nI M), .int (nI n), .ref y1, .ref y2, .ref y3, .int (nI u), .ref y4, .ref y5, .ref y6, .ref y7, .int (nI c), .ref y8, .ref y9, .ref y10, .ref y11, .ref y12, .int bd, .int ck, .int ps, .int (nI pa), .int lc, .int (nI (b2n fb)), .long ek, .long ev, .int (nI el), .int (nI fn), .ref y13, .ref y14, .ref y15, .ref y16, .int (nI js), .ref y17, .int (nI (b2n ib))])), (y6, .inl (.int, 128, .inl S))] X d_MD_sum_2 hn rfl rfl i_MD t_MD t_MD_ok n_MD (by decide) k_fl_MD_70 (fun _ h => h) rfl (by decide +kernel) rfl rfl (Nat.le_of_ble_eq_true rfl) rfl ?_
  refine g_iload_n X d_MD_sum_5 1 rfl ?_
  refine g_iconst (nI 0) X d_MD_sum_6 (by decide) ?_
  refine g_aload_n X d_MD_sum_7 0 rfl ?_
  refine g_getf (k := 1) X d_MD_sum_8 (hl_w 0 rfl hn) rfl i_MD (by decide) k_fl_MD_67 (fun _ h => h) rfl ?_
  refine g_iconst (nI 1) X d_MD_sum_11 (by decide) ?_
  refine g_isub X d_MD_sum_12 ?_
  refine h_callS (As := [.int (nI j), .int (nI 0), .int ((nI M) - (nI 1))]) (st := []) [] [(h, .inr (6, [.int (nI 0), .int (nI M), .int (nI n), .ref y1, .ref y2, .ref y3, .int (nI u), .ref y4, .ref y5, .ref y6, .ref y7, .int (nI c), .ref y8, .ref y9, .ref y10, .ref y11, .ref y12, .int bd, .int ck, .int ps, .int (nI pa), .int lc, .int (nI (b2n fb)), .long ek, .long ev, .int (nI el), .int (nI fn), .ref y13, .ref y14, .ref y15, .ref y16, .int (nI js), .ref y17, .int (nI (b2n ib))])), (y6, .inl (.int, 128, .inl S))] X d_MD_sum_13 (c_MD_within hst) rfl k_ml_MD_109 k_cd_MD_within k_in_MD k_st_MD_within ⟨by decide +kernel, by decide +kernel, (by decide +kernel : (parseMethodDescriptor y_MD_within.desc).map (fun d => d.parameters.length) = some 3)⟩ ⟨Nat.le_of_ble_eq_true rfl, Nat.le_of_ble_eq_true rfl⟩ ⟨Nat.le_of_ble_eq_true rfl, Nat.le_of_ble_eq_true rfl⟩ (Nat.le_of_ble_eq_true rfl) hn rfl rfl rfl hp_no hp_no2 ?_
  refine g_if_eq 28 X d_MD_sum_16 (by decide) (fun h16 => ?_) (fun h16 => ?_)
  · have h16 := cv_e0 (b2n_31 _) h16
    rw [hx] at h16
    exact absurd h16 (by decide)
  · have h16 := cv_n0 (b2n_31 _) h16
    refine g_aload_n X d_MD_sum_19 0 rfl ?_
    refine g_getf (k := 9) X d_MD_sum_20 (hl_w 0 rfl hn) rfl i_MD (by decide) k_fl_MD_26 (fun _ h => h) rfl ?_
    refine g_iload_n X d_MD_sum_23 1 rfl ?_
    refine h_iald X d_MD_sum_24 (hl_w 1 rfl hn) (by omega) (by omega) ?_
    refine g_goto 33 X d_MD_sum_25 (by decide) ?_
    exact g_iret X hr d_MD_sum_33 (Nat.le_of_ble_eq_true rfl) (Nat.le_of_ble_eq_true rfl) (fh_ret_i)

set_option maxRecDepth 100000 in
set_option maxHeartbeats 1000000 in
theorem c_MD_sum_no {l : Launch} (hst : l.stackTraces = false) {h y1 y2 y3 y4 y5 y6 y7 y8 y9 y10 y11 y12 y13 y14 y15 y16 y17 M n u c pa el fn js : Nat} {th bd ck ps lc : Int32} {fb ib : Bool} {ek ev : Int64} {S : Nat → Int32} (hn : [h, y6].Nodup) {j : Int32} (hx : j < 0 ∨ nI M ≤ j) (hM : M ≤ 128) : fh_C l fhCl fhT y_MD_sum (.code y_MD_sum b_MD_sum 2 (some .int)) 1 22 [.ref h, .int j] (hp [(h, .inr (6, [.int th, .int (nI M), .int (nI n), .ref y1, .ref y2, .ref y3, .int (nI u), .ref y4, .ref y5, .ref y6, .ref y7, .int (nI c), .ref y8, .ref y9, .ref y10, .ref y11, .ref y12, .int bd, .int ck, .int ps, .int (nI pa), .int lc, .int (nI (b2n fb)), .long ek, .long ev, .int (nI el), .int (nI fn), .ref y13, .ref y14, .ref y15, .ref y16, .int (nI js), .ref y17, .int (nI (b2n ib))])), (y6, .inl (.int, 128, .inl S))]) (hp []) 0 0 (fh_ret (some (.int (nI 0))) [(h, .inr (6, [.int (nI 1), .int (nI M), .int (nI n), .ref y1, .ref y2, .ref y3, .int (nI u), .ref y4, .ref y5, .ref y6, .ref y7, .int (nI c), .ref y8, .ref y9, .ref y10, .ref y11, .ref y12, .int bd, .int ck, .int ps, .int (nI pa), .int lc, .int (nI (b2n fb)), .long ek, .long ev, .int (nI el), .int (nI fn), .ref y13, .ref y14, .ref y15, .ref y16, .int (nI js), .ref y17, .int (nI (b2n ib))])), (y6, .inl (.int, 128, .inl S))]) := by
  refine fh_enter (by decide) hst (Nat.le_of_ble_eq_true rfl) ?_
  intro mD mp me sm mm margs mbel mmet mcod X hr hnm hno hf0
  show fh_G mp l me (fh_rm 1 22 0 0) sm mm margs mbel mmet mcod mD fhCl (hp [(h, .inr (6, [.int th, .int (nI M), .int (nI n), .ref y1, .ref y2, .ref y3, .int (nI u), .ref y4, .ref y5, .ref y6, .ref y7, .int (nI c), .ref y8, .ref y9, .ref y10, .ref y11, .ref y12, .int bd, .int ck, .int ps, .int (nI pa), .int lc, .int (nI (b2n fb)), .long ek, .long ev, .int (nI el), .int (nI fn), .ref y13, .ref y14, .ref y15, .ref y16, .int (nI js), .ref y17, .int (nI (b2n ib))])), (y6, .inl (.int, 128, .inl S))]) 2 _ 0 0 (hp [(h, .inr (6, [.int th, .int (nI M), .int (nI n), .ref y1, .ref y2, .ref y3, .int (nI u), .ref y4, .ref y5, .ref y6, .ref y7, .int (nI c), .ref y8, .ref y9, .ref y10, .ref y11, .ref y12, .int bd, .int ck, .int ps, .int (nI pa), .int lc, .int (nI (b2n fb)), .long ek, .long ev, .int (nI el), .int (nI fn), .ref y13, .ref y14, .ref y15, .ref y16, .int (nI js), .ref y17, .int (nI (b2n ib))])), (y6, .inl (.int, 128, .inl S))]) 0 [(0, .ref h), (1, .int j)] []
  have hx9 := win_no (by omega) hx
  have hn0 : [h].Nodup := (List.Nodup.sublist (by repeat first | exact List.nil_sublist _ | apply List.Sublist.cons₂ | apply List.Sublist.cons) hn)
  refine g_aload_n X d_MD_sum_0 0 rfl ?_
  refine g_iconst (nI 0) X d_MD_sum_1 (by decide) ?_
  refine h_putf (k := 0) (ty := .int) 0 [(h, .inr (6, [.int (nI 0), .int (nI M), .int (nI n), .ref y1, .ref y2, .ref y3, .int (nI u), .ref y4, .ref y5, .ref y6, .ref y7, .int (nI c), .ref y8, .ref y9, .ref y10, .ref y11, .ref y12, .int bd, .int ck, .int ps, .int (nI pa), .int lc, .int (nI (b2n fb)), .long ek, .long ev, .int (nI el), .int (nI fn), .ref y13, .ref y14, .ref y15, .ref y16, .int (nI js), .ref y17, .int (nI (b2n ib))])), (y6, .inl (.int, 128, .inl S))] X d_MD_sum_2 hn rfl rfl i_MD t_MD t_MD_ok n_MD (by decide) k_fl_MD_70 (fun _ h => h) rfl (by decide +kernel) rfl rfl (Nat.le_of_ble_eq_true rfl) rfl ?_
  refine g_iload_n X d_MD_sum_5 1 rfl ?_
  refine g_iconst (nI 0) X d_MD_sum_6 (by decide) ?_
  refine g_aload_n X d_MD_sum_7 0 rfl ?_
  refine g_getf (k := 1) X d_MD_sum_8 (hl_w 0 rfl hn) rfl i_MD (by decide) k_fl_MD_67 (fun _ h => h) rfl ?_
  refine g_iconst (nI 1) X d_MD_sum_11 (by decide) ?_
  refine g_isub X d_MD_sum_12 ?_
  refine h_callS (As := [.int j, .int (nI 0), .int ((nI M) - (nI 1))]) (st := []) [] [(h, .inr (6, [.int (nI 0), .int (nI M), .int (nI n), .ref y1, .ref y2, .ref y3, .int (nI u), .ref y4, .ref y5, .ref y6, .ref y7, .int (nI c), .ref y8, .ref y9, .ref y10, .ref y11, .ref y12, .int bd, .int ck, .int ps, .int (nI pa), .int lc, .int (nI (b2n fb)), .long ek, .long ev, .int (nI el), .int (nI fn), .ref y13, .ref y14, .ref y15, .ref y16, .int (nI js), .ref y17, .int (nI (b2n ib))])), (y6, .inl (.int, 128, .inl S))] X d_MD_sum_13 (c_MD_within hst) rfl k_ml_MD_109 k_cd_MD_within k_in_MD k_st_MD_within ⟨by decide +kernel, by decide +kernel, (by decide +kernel : (parseMethodDescriptor y_MD_within.desc).map (fun d => d.parameters.length) = some 3)⟩ ⟨Nat.le_of_ble_eq_true rfl, Nat.le_of_ble_eq_true rfl⟩ ⟨Nat.le_of_ble_eq_true rfl, Nat.le_of_ble_eq_true rfl⟩ (Nat.le_of_ble_eq_true rfl) hn rfl rfl rfl hp_no hp_no2 ?_
  refine g_if_eq 28 X d_MD_sum_16 (by decide) (fun h16 => ?_) (fun h16 => ?_)
  · have h16 := cv_e0 (b2n_31 _) h16
    refine g_aload_n X d_MD_sum_28 0 rfl ?_
    refine g_iconst (nI 1) X d_MD_sum_29 (by decide) ?_
    refine h_callV (As := [.int (nI 1)]) (st := []) [0] [(h, .inr (6, [.int (nI 1), .int (nI M), .int (nI n), .ref y1, .ref y2, .ref y3, .int (nI u), .ref y4, .ref y5, .ref y6, .ref y7, .int (nI c), .ref y8, .ref y9, .ref y10, .ref y11, .ref y12, .int bd, .int ck, .int ps, .int (nI pa), .int lc, .int (nI (b2n fb)), .long ek, .long ev, .int (nI el), .int (nI fn), .ref y13, .ref y14, .ref y15, .ref y16, .int (nI js), .ref y17, .int (nI (b2n ib))])), (y6, .inl (.int, 128, .inl S))] X d_MD_sum_30 (c_MD_fail hst hn0) (hl_w 0 rfl hn) rfl rfl k_ml_MD_113 k_cd_MD_fail k_in_MD k_im_MD_fail k_se_MD_fail ⟨by decide +kernel, by decide +kernel, (by decide +kernel : (parseMethodDescriptor y_MD_fail.desc).map (fun d => d.parameters.length) = some 1)⟩ ⟨Nat.le_of_ble_eq_true rfl, Nat.le_of_ble_eq_true rfl⟩ ⟨Nat.le_of_ble_eq_true rfl, Nat.le_of_ble_eq_true rfl⟩ (Nat.le_of_ble_eq_true rfl) hn rfl rfl rfl hp_no hp_no2 ?_
    exact g_iret X hr d_MD_sum_33 (Nat.le_of_ble_eq_true rfl) (Nat.le_of_ble_eq_true rfl) (fh_ret_i)
  · have h16 := cv_n0 (b2n_31 _) h16
    rw [hx9] at h16
    exact absurd h16 (by decide)

set_option maxRecDepth 100000 in
set_option maxHeartbeats 1000000 in
theorem c_MD_logged_in {l : Launch} (hst : l.stackTraces = false) {h y1 y2 y3 y4 y5 y6 y7 y8 y9 y10 y11 y12 y13 y14 y15 y16 y17 M n u c pa el fn js : Nat} {th bd ck ps lc : Int32} {fb ib : Bool} {ek ev : Int64} {L : Nat → Nat} (hn : [h, y4].Nodup) {j : Nat} (hj : j < u) (hu : u ≤ 1024) : fh_C l fhCl fhT y_MD_logged (.code y_MD_logged b_MD_logged 2 (some .int)) 1 22 [.ref h, .int (nI j)] (hp [(h, .inr (6, [.int th, .int (nI M), .int (nI n), .ref y1, .ref y2, .ref y3, .int (nI u), .ref y4, .ref y5, .ref y6, .ref y7, .int (nI c), .ref y8, .ref y9, .ref y10, .ref y11, .ref y12, .int bd, .int ck, .int ps, .int (nI pa), .int lc, .int (nI (b2n fb)), .long ek, .long ev, .int (nI el), .int (nI fn), .ref y13, .ref y14, .ref y15, .ref y16, .int (nI js), .ref y17, .int (nI (b2n ib))])), (y4, .inl (.int, 1024, .inl (fun q => nI (L q))))]) (hp []) 0 0 (fh_ret (some (.int (nI (L j)))) [(h, .inr (6, [.int (nI 0), .int (nI M), .int (nI n), .ref y1, .ref y2, .ref y3, .int (nI u), .ref y4, .ref y5, .ref y6, .ref y7, .int (nI c), .ref y8, .ref y9, .ref y10, .ref y11, .ref y12, .int bd, .int ck, .int ps, .int (nI pa), .int lc, .int (nI (b2n fb)), .long ek, .long ev, .int (nI el), .int (nI fn), .ref y13, .ref y14, .ref y15, .ref y16, .int (nI js), .ref y17, .int (nI (b2n ib))])), (y4, .inl (.int, 1024, .inl (fun q => nI (L q))))]) := by
  refine fh_enter (by decide) hst (Nat.le_of_ble_eq_true rfl) ?_
  intro mD mp me sm mm margs mbel mmet mcod X hr hnm hno hf0
  show fh_G mp l me (fh_rm 1 22 0 0) sm mm margs mbel mmet mcod mD fhCl (hp [(h, .inr (6, [.int th, .int (nI M), .int (nI n), .ref y1, .ref y2, .ref y3, .int (nI u), .ref y4, .ref y5, .ref y6, .ref y7, .int (nI c), .ref y8, .ref y9, .ref y10, .ref y11, .ref y12, .int bd, .int ck, .int ps, .int (nI pa), .int lc, .int (nI (b2n fb)), .long ek, .long ev, .int (nI el), .int (nI fn), .ref y13, .ref y14, .ref y15, .ref y16, .int (nI js), .ref y17, .int (nI (b2n ib))])), (y4, .inl (.int, 1024, .inl (fun q => nI (L q))))]) 2 _ 0 0 (hp [(h, .inr (6, [.int th, .int (nI M), .int (nI n), .ref y1, .ref y2, .ref y3, .int (nI u), .ref y4, .ref y5, .ref y6, .ref y7, .int (nI c), .ref y8, .ref y9, .ref y10, .ref y11, .ref y12, .int bd, .int ck, .int ps, .int (nI pa), .int lc, .int (nI (b2n fb)), .long ek, .long ev, .int (nI el), .int (nI fn), .ref y13, .ref y14, .ref y15, .ref y16, .int (nI js), .ref y17, .int (nI (b2n ib))])), (y4, .inl (.int, 1024, .inl (fun q => nI (L q))))]) 0 [(0, .ref h), (1, .int (nI j))] []
  have hx := win_in hj (by omega)
  refine g_aload_n X d_MD_logged_0 0 rfl ?_
  refine g_iconst (nI 0) X d_MD_logged_1 (by decide) ?_
  refine h_putf (k := 0) (ty := .int) 0 [(h, .inr (6, [.int (nI 0), .int (nI M), .int (nI n), .ref y1, .ref y2, .ref y3, .int (nI u), .ref y4, .ref y5, .ref y6, .ref y7, .int (nI c), .ref y8, .ref y9, .ref y10, .ref y11, .ref y12, .int bd, .int ck, .int ps, .int (nI pa), .int lc, .int (nI (b2n fb)), .long ek, .long ev, .int (nI el), .int (nI fn), .ref y13, .ref y14, .ref y15, .ref y16, .int (nI js), .ref y17, .int (nI (b2n ib))])), (y4, .inl (.int, 1024, .inl (fun q => nI (L q))))] X d_MD_logged_2 hn rfl rfl i_MD t_MD t_MD_ok n_MD (by decide) k_fl_MD_70 (fun _ h => h) rfl (by decide +kernel) rfl rfl (Nat.le_of_ble_eq_true rfl) rfl ?_
  refine g_iload_n X d_MD_logged_5 1 rfl ?_
  refine g_iconst (nI 0) X d_MD_logged_6 (by decide) ?_
  refine g_aload_n X d_MD_logged_7 0 rfl ?_
  refine g_getf (k := 6) X d_MD_logged_8 (hl_w 0 rfl hn) rfl i_MD (by decide) k_fl_MD_84 (fun _ h => h) rfl ?_
  refine g_iconst (nI 1) X d_MD_logged_11 (by decide) ?_
  refine g_isub X d_MD_logged_12 ?_
  refine h_callS (As := [.int (nI j), .int (nI 0), .int ((nI u) - (nI 1))]) (st := []) [] [(h, .inr (6, [.int (nI 0), .int (nI M), .int (nI n), .ref y1, .ref y2, .ref y3, .int (nI u), .ref y4, .ref y5, .ref y6, .ref y7, .int (nI c), .ref y8, .ref y9, .ref y10, .ref y11, .ref y12, .int bd, .int ck, .int ps, .int (nI pa), .int lc, .int (nI (b2n fb)), .long ek, .long ev, .int (nI el), .int (nI fn), .ref y13, .ref y14, .ref y15, .ref y16, .int (nI js), .ref y17, .int (nI (b2n ib))])), (y4, .inl (.int, 1024, .inl (fun q => nI (L q))))] X d_MD_logged_13 (c_MD_within hst) rfl k_ml_MD_109 k_cd_MD_within k_in_MD k_st_MD_within ⟨by decide +kernel, by decide +kernel, (by decide +kernel : (parseMethodDescriptor y_MD_within.desc).map (fun d => d.parameters.length) = some 3)⟩ ⟨Nat.le_of_ble_eq_true rfl, Nat.le_of_ble_eq_true rfl⟩ ⟨Nat.le_of_ble_eq_true rfl, Nat.le_of_ble_eq_true rfl⟩ (Nat.le_of_ble_eq_true rfl) hn rfl rfl rfl hp_no hp_no2 ?_
  refine g_if_eq 28 X d_MD_logged_16 (by decide) (fun h16 => ?_) (fun h16 => ?_)
  · have h16 := cv_e0 (b2n_31 _) h16
    rw [hx] at h16
    exact absurd h16 (by decide)
  · have h16 := cv_n0 (b2n_31 _) h16
    refine g_aload_n X d_MD_logged_19 0 rfl ?_
    refine g_getf (k := 7) X d_MD_logged_20 (hl_w 0 rfl hn) rfl i_MD (by decide) k_fl_MD_20 (fun _ h => h) rfl ?_
    refine g_iload_n X d_MD_logged_23 1 rfl ?_
    refine h_iald X d_MD_logged_24 (hl_w 1 rfl hn) (by omega) (by omega) ?_
    refine g_goto 33 X d_MD_logged_25 (by decide) ?_
    exact g_iret X hr d_MD_logged_33 (Nat.le_of_ble_eq_true rfl) (Nat.le_of_ble_eq_true rfl) (fh_ret_i)

set_option maxRecDepth 100000 in
set_option maxHeartbeats 1000000 in
theorem c_MD_logged_no {l : Launch} (hst : l.stackTraces = false) {h y1 y2 y3 y4 y5 y6 y7 y8 y9 y10 y11 y12 y13 y14 y15 y16 y17 M n u c pa el fn js : Nat} {th bd ck ps lc : Int32} {fb ib : Bool} {ek ev : Int64} {L : Nat → Nat} (hn : [h, y4].Nodup) {j : Int32} (hx : j < 0 ∨ nI u ≤ j) (hu : u ≤ 1024) : fh_C l fhCl fhT y_MD_logged (.code y_MD_logged b_MD_logged 2 (some .int)) 1 22 [.ref h, .int j] (hp [(h, .inr (6, [.int th, .int (nI M), .int (nI n), .ref y1, .ref y2, .ref y3, .int (nI u), .ref y4, .ref y5, .ref y6, .ref y7, .int (nI c), .ref y8, .ref y9, .ref y10, .ref y11, .ref y12, .int bd, .int ck, .int ps, .int (nI pa), .int lc, .int (nI (b2n fb)), .long ek, .long ev, .int (nI el), .int (nI fn), .ref y13, .ref y14, .ref y15, .ref y16, .int (nI js), .ref y17, .int (nI (b2n ib))])), (y4, .inl (.int, 1024, .inl (fun q => nI (L q))))]) (hp []) 0 0 (fh_ret (some (.int (nI 0))) [(h, .inr (6, [.int (nI 1), .int (nI M), .int (nI n), .ref y1, .ref y2, .ref y3, .int (nI u), .ref y4, .ref y5, .ref y6, .ref y7, .int (nI c), .ref y8, .ref y9, .ref y10, .ref y11, .ref y12, .int bd, .int ck, .int ps, .int (nI pa), .int lc, .int (nI (b2n fb)), .long ek, .long ev, .int (nI el), .int (nI fn), .ref y13, .ref y14, .ref y15, .ref y16, .int (nI js), .ref y17, .int (nI (b2n ib))])), (y4, .inl (.int, 1024, .inl (fun q => nI (L q))))]) := by
  refine fh_enter (by decide) hst (Nat.le_of_ble_eq_true rfl) ?_
  intro mD mp me sm mm margs mbel mmet mcod X hr hnm hno hf0
  show fh_G mp l me (fh_rm 1 22 0 0) sm mm margs mbel mmet mcod mD fhCl (hp [(h, .inr (6, [.int th, .int (nI M), .int (nI n), .ref y1, .ref y2, .ref y3, .int (nI u), .ref y4, .ref y5, .ref y6, .ref y7, .int (nI c), .ref y8, .ref y9, .ref y10, .ref y11, .ref y12, .int bd, .int ck, .int ps, .int (nI pa), .int lc, .int (nI (b2n fb)), .long ek, .long ev, .int (nI el), .int (nI fn), .ref y13, .ref y14, .ref y15, .ref y16, .int (nI js), .ref y17, .int (nI (b2n ib))])), (y4, .inl (.int, 1024, .inl (fun q => nI (L q))))]) 2 _ 0 0 (hp [(h, .inr (6, [.int th, .int (nI M), .int (nI n), .ref y1, .ref y2, .ref y3, .int (nI u), .ref y4, .ref y5, .ref y6, .ref y7, .int (nI c), .ref y8, .ref y9, .ref y10, .ref y11, .ref y12, .int bd, .int ck, .int ps, .int (nI pa), .int lc, .int (nI (b2n fb)), .long ek, .long ev, .int (nI el), .int (nI fn), .ref y13, .ref y14, .ref y15, .ref y16, .int (nI js), .ref y17, .int (nI (b2n ib))])), (y4, .inl (.int, 1024, .inl (fun q => nI (L q))))]) 0 [(0, .ref h), (1, .int j)] []
  have hx9 := win_no (by omega) hx
  have hn0 : [h].Nodup := (List.Nodup.sublist (by repeat first | exact List.nil_sublist _ | apply List.Sublist.cons₂ | apply List.Sublist.cons) hn)
  refine g_aload_n X d_MD_logged_0 0 rfl ?_
  refine g_iconst (nI 0) X d_MD_logged_1 (by decide) ?_
  refine h_putf (k := 0) (ty := .int) 0 [(h, .inr (6, [.int (nI 0), .int (nI M), .int (nI n), .ref y1, .ref y2, .ref y3, .int (nI u), .ref y4, .ref y5, .ref y6, .ref y7, .int (nI c), .ref y8, .ref y9, .ref y10, .ref y11, .ref y12, .int bd, .int ck, .int ps, .int (nI pa), .int lc, .int (nI (b2n fb)), .long ek, .long ev, .int (nI el), .int (nI fn), .ref y13, .ref y14, .ref y15, .ref y16, .int (nI js), .ref y17, .int (nI (b2n ib))])), (y4, .inl (.int, 1024, .inl (fun q => nI (L q))))] X d_MD_logged_2 hn rfl rfl i_MD t_MD t_MD_ok n_MD (by decide) k_fl_MD_70 (fun _ h => h) rfl (by decide +kernel) rfl rfl (Nat.le_of_ble_eq_true rfl) rfl ?_
  refine g_iload_n X d_MD_logged_5 1 rfl ?_
  refine g_iconst (nI 0) X d_MD_logged_6 (by decide) ?_
  refine g_aload_n X d_MD_logged_7 0 rfl ?_
  refine g_getf (k := 6) X d_MD_logged_8 (hl_w 0 rfl hn) rfl i_MD (by decide) k_fl_MD_84 (fun _ h => h) rfl ?_
  refine g_iconst (nI 1) X d_MD_logged_11 (by decide) ?_
  refine g_isub X d_MD_logged_12 ?_
  refine h_callS (As := [.int j, .int (nI 0), .int ((nI u) - (nI 1))]) (st := []) [] [(h, .inr (6, [.int (nI 0), .int (nI M), .int (nI n), .ref y1, .ref y2, .ref y3, .int (nI u), .ref y4, .ref y5, .ref y6, .ref y7, .int (nI c), .ref y8, .ref y9, .ref y10, .ref y11, .ref y12, .int bd, .int ck, .int ps, .int (nI pa), .int lc, .int (nI (b2n fb)), .long ek, .long ev, .int (nI el), .int (nI fn), .ref y13, .ref y14, .ref y15, .ref y16, .int (nI js), .ref y17, .int (nI (b2n ib))])), (y4, .inl (.int, 1024, .inl (fun q => nI (L q))))] X d_MD_logged_13 (c_MD_within hst) rfl k_ml_MD_109 k_cd_MD_within k_in_MD k_st_MD_within ⟨by decide +kernel, by decide +kernel, (by decide +kernel : (parseMethodDescriptor y_MD_within.desc).map (fun d => d.parameters.length) = some 3)⟩ ⟨Nat.le_of_ble_eq_true rfl, Nat.le_of_ble_eq_true rfl⟩ ⟨Nat.le_of_ble_eq_true rfl, Nat.le_of_ble_eq_true rfl⟩ (Nat.le_of_ble_eq_true rfl) hn rfl rfl rfl hp_no hp_no2 ?_
  refine g_if_eq 28 X d_MD_logged_16 (by decide) (fun h16 => ?_) (fun h16 => ?_)
  · have h16 := cv_e0 (b2n_31 _) h16
    refine g_aload_n X d_MD_logged_28 0 rfl ?_
    refine g_iconst (nI 1) X d_MD_logged_29 (by decide) ?_
    refine h_callV (As := [.int (nI 1)]) (st := []) [0] [(h, .inr (6, [.int (nI 1), .int (nI M), .int (nI n), .ref y1, .ref y2, .ref y3, .int (nI u), .ref y4, .ref y5, .ref y6, .ref y7, .int (nI c), .ref y8, .ref y9, .ref y10, .ref y11, .ref y12, .int bd, .int ck, .int ps, .int (nI pa), .int lc, .int (nI (b2n fb)), .long ek, .long ev, .int (nI el), .int (nI fn), .ref y13, .ref y14, .ref y15, .ref y16, .int (nI js), .ref y17, .int (nI (b2n ib))])), (y4, .inl (.int, 1024, .inl (fun q => nI (L q))))] X d_MD_logged_30 (c_MD_fail hst hn0) (hl_w 0 rfl hn) rfl rfl k_ml_MD_113 k_cd_MD_fail k_in_MD k_im_MD_fail k_se_MD_fail ⟨by decide +kernel, by decide +kernel, (by decide +kernel : (parseMethodDescriptor y_MD_fail.desc).map (fun d => d.parameters.length) = some 1)⟩ ⟨Nat.le_of_ble_eq_true rfl, Nat.le_of_ble_eq_true rfl⟩ ⟨Nat.le_of_ble_eq_true rfl, Nat.le_of_ble_eq_true rfl⟩ (Nat.le_of_ble_eq_true rfl) hn rfl rfl rfl hp_no hp_no2 ?_
    exact g_iret X hr d_MD_logged_33 (Nat.le_of_ble_eq_true rfl) (Nat.le_of_ble_eq_true rfl) (fh_ret_i)
  · have h16 := cv_n0 (b2n_31 _) h16
    rw [hx9] at h16
    exact absurd h16 (by decide)

set_option maxRecDepth 100000 in
set_option maxHeartbeats 1000000 in
theorem c_MD_badAt {l : Launch} (hst : l.stackTraces = false) {h y1 y2 y3 y4 y5 y6 y7 y8 y9 y10 y11 y12 y13 y14 y15 y16 y17 M n u c pa el fn js : Nat} {th bd ck ps lc : Int32} {fb ib : Bool} {ek ev : Int64} (hn : [h].Nodup)  : fh_C l fhCl fhT y_MD_badAt (.code y_MD_badAt b_MD_badAt 1 (some .int)) 0 0 [.ref h] (hp [(h, .inr (6, [.int th, .int (nI M), .int (nI n), .ref y1, .ref y2, .ref y3, .int (nI u), .ref y4, .ref y5, .ref y6, .ref y7, .int (nI c), .ref y8, .ref y9, .ref y10, .ref y11, .ref y12, .int bd, .int ck, .int ps, .int (nI pa), .int lc, .int (nI (b2n fb)), .long ek, .long ev, .int (nI el), .int (nI fn), .ref y13, .ref y14, .ref y15, .ref y16, .int (nI js), .ref y17, .int (nI (b2n ib))]))]) (hp []) 0 0 (fh_ret (some (.int (bd))) [(h, .inr (6, [.int (nI 0), .int (nI M), .int (nI n), .ref y1, .ref y2, .ref y3, .int (nI u), .ref y4, .ref y5, .ref y6, .ref y7, .int (nI c), .ref y8, .ref y9, .ref y10, .ref y11, .ref y12, .int bd, .int ck, .int ps, .int (nI pa), .int lc, .int (nI (b2n fb)), .long ek, .long ev, .int (nI el), .int (nI fn), .ref y13, .ref y14, .ref y15, .ref y16, .int (nI js), .ref y17, .int (nI (b2n ib))]))]) := by
  refine fh_enter (by decide) hst (Nat.le_of_ble_eq_true rfl) ?_
  intro mD mp me sm mm margs mbel mmet mcod X hr hnm hno hf0
  show fh_G mp l me (fh_rm 0 0 0 0) sm mm margs mbel mmet mcod mD fhCl (hp [(h, .inr (6, [.int th, .int (nI M), .int (nI n), .ref y1, .ref y2, .ref y3, .int (nI u), .ref y4, .ref y5, .ref y6, .ref y7, .int (nI c), .ref y8, .ref y9, .ref y10, .ref y11, .ref y12, .int bd, .int ck, .int ps, .int (nI pa), .int lc, .int (nI (b2n fb)), .long ek, .long ev, .int (nI el), .int (nI fn), .ref y13, .ref y14, .ref y15, .ref y16, .int (nI js), .ref y17, .int (nI (b2n ib))]))]) 1 _ 0 0 (hp [(h, .inr (6, [.int th, .int (nI M), .int (nI n), .ref y1, .ref y2, .ref y3, .int (nI u), .ref y4, .ref y5, .ref y6, .ref y7, .int (nI c), .ref y8, .ref y9, .ref y10, .ref y11, .ref y12, .int bd, .int ck, .int ps, .int (nI pa), .int lc, .int (nI (b2n fb)), .long ek, .long ev, .int (nI el), .int (nI fn), .ref y13, .ref y14, .ref y15, .ref y16, .int (nI js), .ref y17, .int (nI (b2n ib))]))]) 0 [(0, .ref h)] []
  refine g_aload_n X d_MD_badAt_0 0 rfl ?_
  refine g_iconst (nI 0) X d_MD_badAt_1 (by decide) ?_
  refine h_putf (k := 0) (ty := .int) 0 [(h, .inr (6, [.int (nI 0), .int (nI M), .int (nI n), .ref y1, .ref y2, .ref y3, .int (nI u), .ref y4, .ref y5, .ref y6, .ref y7, .int (nI c), .ref y8, .ref y9, .ref y10, .ref y11, .ref y12, .int bd, .int ck, .int ps, .int (nI pa), .int lc, .int (nI (b2n fb)), .long ek, .long ev, .int (nI el), .int (nI fn), .ref y13, .ref y14, .ref y15, .ref y16, .int (nI js), .ref y17, .int (nI (b2n ib))]))] X d_MD_badAt_2 hn rfl rfl i_MD t_MD t_MD_ok n_MD (by decide) k_fl_MD_70 (fun _ h => h) rfl (by decide +kernel) rfl rfl (Nat.le_of_ble_eq_true rfl) rfl ?_
  refine g_aload_n X d_MD_badAt_5 0 rfl ?_
  refine g_getf (k := 17) X d_MD_badAt_6 (hl_w 0 rfl hn) rfl i_MD (by decide) k_fl_MD_48 (fun _ h => h) rfl ?_
  exact g_iret X hr d_MD_badAt_9 (Nat.le_of_ble_eq_true rfl) (Nat.le_of_ble_eq_true rfl) (fh_ret_i)

set_option maxRecDepth 100000 in
set_option maxHeartbeats 1000000 in
theorem c_MD_count_0 {l : Launch} (hst : l.stackTraces = false) {h y1 y2 y3 y4 y5 y6 y7 y8 y9 y10 y11 y12 y13 y14 y15 y16 y17 M n u c pa el fn js : Nat} {th bd ck ps lc : Int32} {fb ib : Bool} {ek ev : Int64} {en : Nat → Nat} {Xt : Nat → Int32} (hn : [h, y9, y7].Nodup) (hc16 : c ≤ 16) {tb : Nat → TBr} (hA : ∀ t, t < c → en t = (tb t).en) (hE : ∀ t, t < c → (tb t).en ≤ 455) {T : Nat → Int32} (hX : rX Xt T M) (hM : M ≤ 128) : fh_C l fhCl fhT y_MD_count (.code y_MD_count b_MD_count 4 (some .int)) 1 22 [.ref h, .int (nI 0)] (hp [(h, .inr (6, [.int th, .int (nI M), .int (nI n), .ref y1, .ref y2, .ref y3, .int (nI u), .ref y4, .ref y5, .ref y6, .ref y7, .int (nI c), .ref y8, .ref y9, .ref y10, .ref y11, .ref y12, .int bd, .int ck, .int ps, .int (nI pa), .int lc, .int (nI (b2n fb)), .long ek, .long ev, .int (nI el), .int (nI fn), .ref y13, .ref y14, .ref y15, .ref y16, .int (nI js), .ref y17, .int (nI (b2n ib))])), (y9, .inl (.int, 17, .inl (fun q => nI (en q)))), (y7, .inl (.boolean, 128, .inl Xt))]) (hp []) 0 0 (fh_ret (some (.int (nI M))) [(h, .inr (6, [.int (nI 0), .int (nI M), .int (nI n), .ref y1, .ref y2, .ref y3, .int (nI u), .ref y4, .ref y5, .ref y6, .ref y7, .int (nI c), .ref y8, .ref y9, .ref y10, .ref y11, .ref y12, .int bd, .int ck, .int ps, .int (nI pa), .int lc, .int (nI (b2n fb)), .long ek, .long ev, .int (nI el), .int (nI fn), .ref y13, .ref y14, .ref y15, .ref y16, .int (nI js), .ref y17, .int (nI (b2n ib))])), (y9, .inl (.int, 17, .inl (fun q => nI (en q)))), (y7, .inl (.boolean, 128, .inl Xt))]) := by
  refine fh_enter (by decide) hst (Nat.le_of_ble_eq_true rfl) ?_
  intro mD mp me sm mm margs mbel mmet mcod X hr hnm hno hf0
  show fh_G mp l me (fh_rm 1 22 0 0) sm mm margs mbel mmet mcod mD fhCl (hp [(h, .inr (6, [.int th, .int (nI M), .int (nI n), .ref y1, .ref y2, .ref y3, .int (nI u), .ref y4, .ref y5, .ref y6, .ref y7, .int (nI c), .ref y8, .ref y9, .ref y10, .ref y11, .ref y12, .int bd, .int ck, .int ps, .int (nI pa), .int lc, .int (nI (b2n fb)), .long ek, .long ev, .int (nI el), .int (nI fn), .ref y13, .ref y14, .ref y15, .ref y16, .int (nI js), .ref y17, .int (nI (b2n ib))])), (y9, .inl (.int, 17, .inl (fun q => nI (en q)))), (y7, .inl (.boolean, 128, .inl Xt))]) 4 _ 0 0 (hp [(h, .inr (6, [.int th, .int (nI M), .int (nI n), .ref y1, .ref y2, .ref y3, .int (nI u), .ref y4, .ref y5, .ref y6, .ref y7, .int (nI c), .ref y8, .ref y9, .ref y10, .ref y11, .ref y12, .int bd, .int ck, .int ps, .int (nI pa), .int lc, .int (nI (b2n fb)), .long ek, .long ev, .int (nI el), .int (nI fn), .ref y13, .ref y14, .ref y15, .ref y16, .int (nI js), .ref y17, .int (nI (b2n ib))])), (y9, .inl (.int, 17, .inl (fun q => nI (en q)))), (y7, .inl (.boolean, 128, .inl Xt))]) 0 [(0, .ref h), (1, .int (nI 0))] []
  have hn7 : [h, y7].Nodup := (List.Nodup.sublist (by repeat first | exact List.nil_sublist _ | apply List.Sublist.cons₂ | apply List.Sublist.cons) hn)
  refine g_aload_n X d_MD_count_0 0 rfl ?_
  refine g_iconst (nI 0) X d_MD_count_1 (by decide) ?_
  refine h_putf (k := 0) (ty := .int) 0 [(h, .inr (6, [.int (nI 0), .int (nI M), .int (nI n), .ref y1, .ref y2, .ref y3, .int (nI u), .ref y4, .ref y5, .ref y6, .ref y7, .int (nI c), .ref y8, .ref y9, .ref y10, .ref y11, .ref y12, .int bd, .int ck, .int ps, .int (nI pa), .int lc, .int (nI (b2n fb)), .long ek, .long ev, .int (nI el), .int (nI fn), .ref y13, .ref y14, .ref y15, .ref y16, .int (nI js), .ref y17, .int (nI (b2n ib))])), (y9, .inl (.int, 17, .inl (fun q => nI (en q)))), (y7, .inl (.boolean, 128, .inl Xt))] X d_MD_count_2 hn rfl rfl i_MD t_MD t_MD_ok n_MD (by decide) k_fl_MD_70 (fun _ h => h) rfl (by decide +kernel) rfl rfl (Nat.le_of_ble_eq_true rfl) rfl ?_
  refine g_iconst (nI 0) X d_MD_count_5 (by decide) ?_
  refine g_istore_n [(2, .int (nI 0)), (0, .ref h), (1, .int (nI 0))] X d_MD_count_6 (by decide) rfl ?_
  refine g_iconst (nI 0) X d_MD_count_7 (by decide) ?_
  refine g_istore_n [(3, .int (nI 0)), (2, .int (nI 0)), (0, .ref h), (1, .int (nI 0))] X d_MD_count_8 (by decide) rfl ?_
  have L9 : ∀ (fu9 : Nat) (t : Nat), (t ≤ c) → c - t < fu9 → fh_G mp l me (fh_rm 1 22 0 0) sm mm margs mbel mmet mcod mD fhCl (hp [(h, .inr (6, [.int th, .int (nI M), .int (nI n), .ref y1, .ref y2, .ref y3, .int (nI u), .ref y4, .ref y5, .ref y6, .ref y7, .int (nI c), .ref y8, .ref y9, .ref y10, .ref y11, .ref y12, .int bd, .int ck, .int ps, .int (nI pa), .int lc, .int (nI (b2n fb)), .long ek, .long ev, .int (nI el), .int (nI fn), .ref y13, .ref y14, .ref y15, .ref y16, .int (nI js), .ref y17, .int (nI (b2n ib))])), (y9, .inl (.int, 17, .inl (fun q => nI (en q)))), (y7, .inl (.boolean, 128, .inl Xt))]) 4 (fh_MQ mbel mD fhCl (hp [(h, .inr (6, [.int th, .int (nI M), .int (nI n), .ref y1, .ref y2, .ref y3, .int (nI u), .ref y4, .ref y5, .ref y6, .ref y7, .int (nI c), .ref y8, .ref y9, .ref y10, .ref y11, .ref y12, .int bd, .int ck, .int ps, .int (nI pa), .int lc, .int (nI (b2n fb)), .long ek, .long ev, .int (nI el), .int (nI fn), .ref y13, .ref y14, .ref y15, .ref y16, .int (nI js), .ref y17, .int (nI (b2n ib))])), (y9, .inl (.int, 17, .inl (fun q => nI (en q)))), (y7, .inl (.boolean, 128, .inl Xt))]) (fh_ret (some (.int (nI M))) [(h, .inr (6, [.int (nI 0), .int (nI M), .int (nI n), .ref y1, .ref y2, .ref y3, .int (nI u), .ref y4, .ref y5, .ref y6, .ref y7, .int (nI c), .ref y8, .ref y9, .ref y10, .ref y11, .ref y12, .int bd, .int ck, .int ps, .int (nI pa), .int lc, .int (nI (b2n fb)), .long ek, .long ev, .int (nI el), .int (nI fn), .ref y13, .ref y14, .ref y15, .ref y16, .int (nI js), .ref y17, .int (nI (b2n ib))])), (y9, .inl (.int, 17, .inl (fun q => nI (en q)))), (y7, .inl (.boolean, 128, .inl Xt))]) margs sm 0 0) 0 0 (hp [(h, .inr (6, [.int (nI 0), .int (nI M), .int (nI n), .ref y1, .ref y2, .ref y3, .int (nI u), .ref y4, .ref y5, .ref y6, .ref y7, .int (nI c), .ref y8, .ref y9, .ref y10, .ref y11, .ref y12, .int bd, .int ck, .int ps, .int (nI pa), .int lc, .int (nI (b2n fb)), .long ek, .long ev, .int (nI el), .int (nI fn), .ref y13, .ref y14, .ref y15, .ref y16, .int (nI js), .ref y17, .int (nI (b2n ib))])), (y9, .inl (.int, 17, .inl (fun q => nI (en q)))), (y7, .inl (.boolean, 128, .inl Xt))]) 9 [(3, .int (nI t)), (2, .int (nI (sEn tb t))), (0, .ref h), (1, .int (nI 0))] [] := by
    intro fu9
    induction fu9 with
    | zero => intro t q1 hm9; exact absurd hm9 (Nat.not_lt_zero _)
    | succ fu9 ih9 =>
      intro t q1 hm9
      have hs9 := sEn_le hE t (by omega)
      refine g_iload_n X d_MD_count_9 0 rfl ?_
      refine g_aload_n X d_MD_count_10 2 rfl ?_
      refine g_getf (k := 11) X d_MD_count_11 (hl_w 0 rfl hn) rfl i_MD (by decide) k_fl_MD_136 (fun _ h => h) rfl ?_
      refine g_icmp_ge 32 X d_MD_count_14 (by decide) (fun h14 => ?_) (fun h14 => ?_)
      · have h14 := cv_le (by omega) (by omega) h14
        have e8 : t = c := by omega
        refine g_iload_n X d_MD_count_32 3 rfl ?_
        refine g_tableIn (off := 47) 80 X d_MD_count_33 (by decide) (by decide) (by decide) (by decide) ?_
        refine g_aload_n X d_MD_count_80 2 rfl ?_
        refine g_getf (k := 1) X d_MD_count_81 (hl_w 0 rfl hn) rfl i_MD (by decide) k_fl_MD_67 (fun _ h => h) rfl ?_
        exact g_iret X hr d_MD_count_84 (Nat.le_of_ble_eq_true rfl) (Nat.le_of_ble_eq_true rfl) (⟨rfl, rfl⟩)
      · have h14 := cv_nle (by omega) (by omega) h14
        refine g_iload_n X d_MD_count_17 1 rfl ?_
        refine g_aload_n X d_MD_count_18 2 rfl ?_
        refine g_getf (k := 13) X d_MD_count_19 (hl_w 0 rfl hn) rfl i_MD (by decide) k_fl_MD_36 (fun _ h => h) rfl ?_
        refine g_iload_n X d_MD_count_22 0 rfl ?_
        refine h_iald X d_MD_count_23 (hl_w 1 rfl hn) (by omega) (by omega) ?_
        refine g_iadd X d_MD_count_24 ?_
        refine g_vi (nI (sEn tb t + en t)) (nI_add _ _) ?_
        refine g_istore_n [(2, .int (nI (sEn tb t + en t))), (3, .int (nI t)), (0, .ref h), (1, .int (nI 0))] X d_MD_count_25 (by decide) rfl ?_
        refine g_iinc (nI (t + 1)) 1 [(3, .int (nI (t + 1))), (2, .int (nI (sEn tb t + en t))), (0, .ref h), (1, .int (nI 0))] X d_MD_count_26 rfl (nI_1 _) (by decide) rfl ?_
        refine g_goto 9 X d_MD_count_29 (by decide) ?_
        refine g_lve (lv' := [(3, .int (nI (t + 1))), (2, .int (nI (sEn tb (t + 1)))), (0, .ref h), (1, .int (nI 0))]) (by rw [sEn, hA t (by omega)]) ?_
        exact ih9 (t + 1) (by omega) (by omega)
  exact L9 _ 0 (Nat.zero_le _) (Nat.lt_succ_self _)

set_option maxRecDepth 100000 in
set_option maxHeartbeats 1000000 in
theorem c_MD_count_1 {l : Launch} (hst : l.stackTraces = false) {h y1 y2 y3 y4 y5 y6 y7 y8 y9 y10 y11 y12 y13 y14 y15 y16 y17 M n u c pa el fn js : Nat} {th bd ck ps lc : Int32} {fb ib : Bool} {ek ev : Int64} {en : Nat → Nat} {Xt : Nat → Int32} (hn : [h, y9, y7].Nodup) (hc16 : c ≤ 16) {tb : Nat → TBr} (hA : ∀ t, t < c → en t = (tb t).en) (hE : ∀ t, t < c → (tb t).en ≤ 455) {T : Nat → Int32} (hX : rX Xt T M) (hM : M ≤ 128) : fh_C l fhCl fhT y_MD_count (.code y_MD_count b_MD_count 4 (some .int)) 1 22 [.ref h, .int (nI 1)] (hp [(h, .inr (6, [.int th, .int (nI M), .int (nI n), .ref y1, .ref y2, .ref y3, .int (nI u), .ref y4, .ref y5, .ref y6, .ref y7, .int (nI c), .ref y8, .ref y9, .ref y10, .ref y11, .ref y12, .int bd, .int ck, .int ps, .int (nI pa), .int lc, .int (nI (b2n fb)), .long ek, .long ev, .int (nI el), .int (nI fn), .ref y13, .ref y14, .ref y15, .ref y16, .int (nI js), .ref y17, .int (nI (b2n ib))])), (y9, .inl (.int, 17, .inl (fun q => nI (en q)))), (y7, .inl (.boolean, 128, .inl Xt))]) (hp []) 0 0 (fh_ret (some (.int (nI n))) [(h, .inr (6, [.int (nI 0), .int (nI M), .int (nI n), .ref y1, .ref y2, .ref y3, .int (nI u), .ref y4, .ref y5, .ref y6, .ref y7, .int (nI c), .ref y8, .ref y9, .ref y10, .ref y11, .ref y12, .int bd, .int ck, .int ps, .int (nI pa), .int lc, .int (nI (b2n fb)), .long ek, .long ev, .int (nI el), .int (nI fn), .ref y13, .ref y14, .ref y15, .ref y16, .int (nI js), .ref y17, .int (nI (b2n ib))])), (y9, .inl (.int, 17, .inl (fun q => nI (en q)))), (y7, .inl (.boolean, 128, .inl Xt))]) := by
  refine fh_enter (by decide) hst (Nat.le_of_ble_eq_true rfl) ?_
  intro mD mp me sm mm margs mbel mmet mcod X hr hnm hno hf0
  show fh_G mp l me (fh_rm 1 22 0 0) sm mm margs mbel mmet mcod mD fhCl (hp [(h, .inr (6, [.int th, .int (nI M), .int (nI n), .ref y1, .ref y2, .ref y3, .int (nI u), .ref y4, .ref y5, .ref y6, .ref y7, .int (nI c), .ref y8, .ref y9, .ref y10, .ref y11, .ref y12, .int bd, .int ck, .int ps, .int (nI pa), .int lc, .int (nI (b2n fb)), .long ek, .long ev, .int (nI el), .int (nI fn), .ref y13, .ref y14, .ref y15, .ref y16, .int (nI js), .ref y17, .int (nI (b2n ib))])), (y9, .inl (.int, 17, .inl (fun q => nI (en q)))), (y7, .inl (.boolean, 128, .inl Xt))]) 4 _ 0 0 (hp [(h, .inr (6, [.int th, .int (nI M), .int (nI n), .ref y1, .ref y2, .ref y3, .int (nI u), .ref y4, .ref y5, .ref y6, .ref y7, .int (nI c), .ref y8, .ref y9, .ref y10, .ref y11, .ref y12, .int bd, .int ck, .int ps, .int (nI pa), .int lc, .int (nI (b2n fb)), .long ek, .long ev, .int (nI el), .int (nI fn), .ref y13, .ref y14, .ref y15, .ref y16, .int (nI js), .ref y17, .int (nI (b2n ib))])), (y9, .inl (.int, 17, .inl (fun q => nI (en q)))), (y7, .inl (.boolean, 128, .inl Xt))]) 0 [(0, .ref h), (1, .int (nI 1))] []
  have hn7 : [h, y7].Nodup := (List.Nodup.sublist (by repeat first | exact List.nil_sublist _ | apply List.Sublist.cons₂ | apply List.Sublist.cons) hn)
  refine g_aload_n X d_MD_count_0 0 rfl ?_
  refine g_iconst (nI 0) X d_MD_count_1 (by decide) ?_
  refine h_putf (k := 0) (ty := .int) 0 [(h, .inr (6, [.int (nI 0), .int (nI M), .int (nI n), .ref y1, .ref y2, .ref y3, .int (nI u), .ref y4, .ref y5, .ref y6, .ref y7, .int (nI c), .ref y8, .ref y9, .ref y10, .ref y11, .ref y12, .int bd, .int ck, .int ps, .int (nI pa), .int lc, .int (nI (b2n fb)), .long ek, .long ev, .int (nI el), .int (nI fn), .ref y13, .ref y14, .ref y15, .ref y16, .int (nI js), .ref y17, .int (nI (b2n ib))])), (y9, .inl (.int, 17, .inl (fun q => nI (en q)))), (y7, .inl (.boolean, 128, .inl Xt))] X d_MD_count_2 hn rfl rfl i_MD t_MD t_MD_ok n_MD (by decide) k_fl_MD_70 (fun _ h => h) rfl (by decide +kernel) rfl rfl (Nat.le_of_ble_eq_true rfl) rfl ?_
  refine g_iconst (nI 0) X d_MD_count_5 (by decide) ?_
  refine g_istore_n [(2, .int (nI 0)), (0, .ref h), (1, .int (nI 1))] X d_MD_count_6 (by decide) rfl ?_
  refine g_iconst (nI 0) X d_MD_count_7 (by decide) ?_
  refine g_istore_n [(3, .int (nI 0)), (2, .int (nI 0)), (0, .ref h), (1, .int (nI 1))] X d_MD_count_8 (by decide) rfl ?_
  have L9 : ∀ (fu9 : Nat) (t : Nat), (t ≤ c) → c - t < fu9 → fh_G mp l me (fh_rm 1 22 0 0) sm mm margs mbel mmet mcod mD fhCl (hp [(h, .inr (6, [.int th, .int (nI M), .int (nI n), .ref y1, .ref y2, .ref y3, .int (nI u), .ref y4, .ref y5, .ref y6, .ref y7, .int (nI c), .ref y8, .ref y9, .ref y10, .ref y11, .ref y12, .int bd, .int ck, .int ps, .int (nI pa), .int lc, .int (nI (b2n fb)), .long ek, .long ev, .int (nI el), .int (nI fn), .ref y13, .ref y14, .ref y15, .ref y16, .int (nI js), .ref y17, .int (nI (b2n ib))])), (y9, .inl (.int, 17, .inl (fun q => nI (en q)))), (y7, .inl (.boolean, 128, .inl Xt))]) 4 (fh_MQ mbel mD fhCl (hp [(h, .inr (6, [.int th, .int (nI M), .int (nI n), .ref y1, .ref y2, .ref y3, .int (nI u), .ref y4, .ref y5, .ref y6, .ref y7, .int (nI c), .ref y8, .ref y9, .ref y10, .ref y11, .ref y12, .int bd, .int ck, .int ps, .int (nI pa), .int lc, .int (nI (b2n fb)), .long ek, .long ev, .int (nI el), .int (nI fn), .ref y13, .ref y14, .ref y15, .ref y16, .int (nI js), .ref y17, .int (nI (b2n ib))])), (y9, .inl (.int, 17, .inl (fun q => nI (en q)))), (y7, .inl (.boolean, 128, .inl Xt))]) (fh_ret (some (.int (nI n))) [(h, .inr (6, [.int (nI 0), .int (nI M), .int (nI n), .ref y1, .ref y2, .ref y3, .int (nI u), .ref y4, .ref y5, .ref y6, .ref y7, .int (nI c), .ref y8, .ref y9, .ref y10, .ref y11, .ref y12, .int bd, .int ck, .int ps, .int (nI pa), .int lc, .int (nI (b2n fb)), .long ek, .long ev, .int (nI el), .int (nI fn), .ref y13, .ref y14, .ref y15, .ref y16, .int (nI js), .ref y17, .int (nI (b2n ib))])), (y9, .inl (.int, 17, .inl (fun q => nI (en q)))), (y7, .inl (.boolean, 128, .inl Xt))]) margs sm 0 0) 0 0 (hp [(h, .inr (6, [.int (nI 0), .int (nI M), .int (nI n), .ref y1, .ref y2, .ref y3, .int (nI u), .ref y4, .ref y5, .ref y6, .ref y7, .int (nI c), .ref y8, .ref y9, .ref y10, .ref y11, .ref y12, .int bd, .int ck, .int ps, .int (nI pa), .int lc, .int (nI (b2n fb)), .long ek, .long ev, .int (nI el), .int (nI fn), .ref y13, .ref y14, .ref y15, .ref y16, .int (nI js), .ref y17, .int (nI (b2n ib))])), (y9, .inl (.int, 17, .inl (fun q => nI (en q)))), (y7, .inl (.boolean, 128, .inl Xt))]) 9 [(3, .int (nI t)), (2, .int (nI (sEn tb t))), (0, .ref h), (1, .int (nI 1))] [] := by
    intro fu9
    induction fu9 with
    | zero => intro t q1 hm9; exact absurd hm9 (Nat.not_lt_zero _)
    | succ fu9 ih9 =>
      intro t q1 hm9
      have hs9 := sEn_le hE t (by omega)
      refine g_iload_n X d_MD_count_9 0 rfl ?_
      refine g_aload_n X d_MD_count_10 2 rfl ?_
      refine g_getf (k := 11) X d_MD_count_11 (hl_w 0 rfl hn) rfl i_MD (by decide) k_fl_MD_136 (fun _ h => h) rfl ?_
      refine g_icmp_ge 32 X d_MD_count_14 (by decide) (fun h14 => ?_) (fun h14 => ?_)
      · have h14 := cv_le (by omega) (by omega) h14
        have e8 : t = c := by omega
        refine g_iload_n X d_MD_count_32 3 rfl ?_
        refine g_tableIn (off := 52) 85 X d_MD_count_33 (by decide) (by decide) (by decide) (by decide) ?_
        refine g_aload_n X d_MD_count_85 2 rfl ?_
        refine g_getf (k := 2) X d_MD_count_86 (hl_w 0 rfl hn) rfl i_MD (by decide) k_fl_MD_73 (fun _ h => h) rfl ?_
        exact g_iret X hr d_MD_count_89 (Nat.le_of_ble_eq_true rfl) (Nat.le_of_ble_eq_true rfl) (⟨rfl, rfl⟩)
      · have h14 := cv_nle (by omega) (by omega) h14
        refine g_iload_n X d_MD_count_17 1 rfl ?_
        refine g_aload_n X d_MD_count_18 2 rfl ?_
        refine g_getf (k := 13) X d_MD_count_19 (hl_w 0 rfl hn) rfl i_MD (by decide) k_fl_MD_36 (fun _ h => h) rfl ?_
        refine g_iload_n X d_MD_count_22 0 rfl ?_
        refine h_iald X d_MD_count_23 (hl_w 1 rfl hn) (by omega) (by omega) ?_
        refine g_iadd X d_MD_count_24 ?_
        refine g_vi (nI (sEn tb t + en t)) (nI_add _ _) ?_
        refine g_istore_n [(2, .int (nI (sEn tb t + en t))), (3, .int (nI t)), (0, .ref h), (1, .int (nI 1))] X d_MD_count_25 (by decide) rfl ?_
        refine g_iinc (nI (t + 1)) 1 [(3, .int (nI (t + 1))), (2, .int (nI (sEn tb t + en t))), (0, .ref h), (1, .int (nI 1))] X d_MD_count_26 rfl (nI_1 _) (by decide) rfl ?_
        refine g_goto 9 X d_MD_count_29 (by decide) ?_
        refine g_lve (lv' := [(3, .int (nI (t + 1))), (2, .int (nI (sEn tb (t + 1)))), (0, .ref h), (1, .int (nI 1))]) (by rw [sEn, hA t (by omega)]) ?_
        exact ih9 (t + 1) (by omega) (by omega)
  exact L9 _ 0 (Nat.zero_le _) (Nat.lt_succ_self _)

set_option maxRecDepth 100000 in
set_option maxHeartbeats 1000000 in
theorem c_MD_count_2 {l : Launch} (hst : l.stackTraces = false) {h y1 y2 y3 y4 y5 y6 y7 y8 y9 y10 y11 y12 y13 y14 y15 y16 y17 M n u c pa el fn js : Nat} {th bd ck ps lc : Int32} {fb ib : Bool} {ek ev : Int64} {en : Nat → Nat} {Xt : Nat → Int32} (hn : [h, y9, y7].Nodup) (hc16 : c ≤ 16) {tb : Nat → TBr} (hA : ∀ t, t < c → en t = (tb t).en) (hE : ∀ t, t < c → (tb t).en ≤ 455) {T : Nat → Int32} (hX : rX Xt T M) (hM : M ≤ 128) : fh_C l fhCl fhT y_MD_count (.code y_MD_count b_MD_count 4 (some .int)) 1 22 [.ref h, .int (nI 2)] (hp [(h, .inr (6, [.int th, .int (nI M), .int (nI n), .ref y1, .ref y2, .ref y3, .int (nI u), .ref y4, .ref y5, .ref y6, .ref y7, .int (nI c), .ref y8, .ref y9, .ref y10, .ref y11, .ref y12, .int bd, .int ck, .int ps, .int (nI pa), .int lc, .int (nI (b2n fb)), .long ek, .long ev, .int (nI el), .int (nI fn), .ref y13, .ref y14, .ref y15, .ref y16, .int (nI js), .ref y17, .int (nI (b2n ib))])), (y9, .inl (.int, 17, .inl (fun q => nI (en q)))), (y7, .inl (.boolean, 128, .inl Xt))]) (hp []) 0 0 (fh_ret (some (.int (nI u))) [(h, .inr (6, [.int (nI 0), .int (nI M), .int (nI n), .ref y1, .ref y2, .ref y3, .int (nI u), .ref y4, .ref y5, .ref y6, .ref y7, .int (nI c), .ref y8, .ref y9, .ref y10, .ref y11, .ref y12, .int bd, .int ck, .int ps, .int (nI pa), .int lc, .int (nI (b2n fb)), .long ek, .long ev, .int (nI el), .int (nI fn), .ref y13, .ref y14, .ref y15, .ref y16, .int (nI js), .ref y17, .int (nI (b2n ib))])), (y9, .inl (.int, 17, .inl (fun q => nI (en q)))), (y7, .inl (.boolean, 128, .inl Xt))]) := by
  refine fh_enter (by decide) hst (Nat.le_of_ble_eq_true rfl) ?_
  intro mD mp me sm mm margs mbel mmet mcod X hr hnm hno hf0
  show fh_G mp l me (fh_rm 1 22 0 0) sm mm margs mbel mmet mcod mD fhCl (hp [(h, .inr (6, [.int th, .int (nI M), .int (nI n), .ref y1, .ref y2, .ref y3, .int (nI u), .ref y4, .ref y5, .ref y6, .ref y7, .int (nI c), .ref y8, .ref y9, .ref y10, .ref y11, .ref y12, .int bd, .int ck, .int ps, .int (nI pa), .int lc, .int (nI (b2n fb)), .long ek, .long ev, .int (nI el), .int (nI fn), .ref y13, .ref y14, .ref y15, .ref y16, .int (nI js), .ref y17, .int (nI (b2n ib))])), (y9, .inl (.int, 17, .inl (fun q => nI (en q)))), (y7, .inl (.boolean, 128, .inl Xt))]) 4 _ 0 0 (hp [(h, .inr (6, [.int th, .int (nI M), .int (nI n), .ref y1, .ref y2, .ref y3, .int (nI u), .ref y4, .ref y5, .ref y6, .ref y7, .int (nI c), .ref y8, .ref y9, .ref y10, .ref y11, .ref y12, .int bd, .int ck, .int ps, .int (nI pa), .int lc, .int (nI (b2n fb)), .long ek, .long ev, .int (nI el), .int (nI fn), .ref y13, .ref y14, .ref y15, .ref y16, .int (nI js), .ref y17, .int (nI (b2n ib))])), (y9, .inl (.int, 17, .inl (fun q => nI (en q)))), (y7, .inl (.boolean, 128, .inl Xt))]) 0 [(0, .ref h), (1, .int (nI 2))] []
  have hn7 : [h, y7].Nodup := (List.Nodup.sublist (by repeat first | exact List.nil_sublist _ | apply List.Sublist.cons₂ | apply List.Sublist.cons) hn)
  refine g_aload_n X d_MD_count_0 0 rfl ?_
  refine g_iconst (nI 0) X d_MD_count_1 (by decide) ?_
  refine h_putf (k := 0) (ty := .int) 0 [(h, .inr (6, [.int (nI 0), .int (nI M), .int (nI n), .ref y1, .ref y2, .ref y3, .int (nI u), .ref y4, .ref y5, .ref y6, .ref y7, .int (nI c), .ref y8, .ref y9, .ref y10, .ref y11, .ref y12, .int bd, .int ck, .int ps, .int (nI pa), .int lc, .int (nI (b2n fb)), .long ek, .long ev, .int (nI el), .int (nI fn), .ref y13, .ref y14, .ref y15, .ref y16, .int (nI js), .ref y17, .int (nI (b2n ib))])), (y9, .inl (.int, 17, .inl (fun q => nI (en q)))), (y7, .inl (.boolean, 128, .inl Xt))] X d_MD_count_2 hn rfl rfl i_MD t_MD t_MD_ok n_MD (by decide) k_fl_MD_70 (fun _ h => h) rfl (by decide +kernel) rfl rfl (Nat.le_of_ble_eq_true rfl) rfl ?_
  refine g_iconst (nI 0) X d_MD_count_5 (by decide) ?_
  refine g_istore_n [(2, .int (nI 0)), (0, .ref h), (1, .int (nI 2))] X d_MD_count_6 (by decide) rfl ?_
  refine g_iconst (nI 0) X d_MD_count_7 (by decide) ?_
  refine g_istore_n [(3, .int (nI 0)), (2, .int (nI 0)), (0, .ref h), (1, .int (nI 2))] X d_MD_count_8 (by decide) rfl ?_
  have L9 : ∀ (fu9 : Nat) (t : Nat), (t ≤ c) → c - t < fu9 → fh_G mp l me (fh_rm 1 22 0 0) sm mm margs mbel mmet mcod mD fhCl (hp [(h, .inr (6, [.int th, .int (nI M), .int (nI n), .ref y1, .ref y2, .ref y3, .int (nI u), .ref y4, .ref y5, .ref y6, .ref y7, .int (nI c), .ref y8, .ref y9, .ref y10, .ref y11, .ref y12, .int bd, .int ck, .int ps, .int (nI pa), .int lc, .int (nI (b2n fb)), .long ek, .long ev, .int (nI el), .int (nI fn), .ref y13, .ref y14, .ref y15, .ref y16, .int (nI js), .ref y17, .int (nI (b2n ib))])), (y9, .inl (.int, 17, .inl (fun q => nI (en q)))), (y7, .inl (.boolean, 128, .inl Xt))]) 4 (fh_MQ mbel mD fhCl (hp [(h, .inr (6, [.int th, .int (nI M), .int (nI n), .ref y1, .ref y2, .ref y3, .int (nI u), .ref y4, .ref y5, .ref y6, .ref y7, .int (nI c), .ref y8, .ref y9, .ref y10, .ref y11, .ref y12, .int bd, .int ck, .int ps, .int (nI pa), .int lc, .int (nI (b2n fb)), .long ek, .long ev, .int (nI el), .int (nI fn), .ref y13, .ref y14, .ref y15, .ref y16, .int (nI js), .ref y17, .int (nI (b2n ib))])), (y9, .inl (.int, 17, .inl (fun q => nI (en q)))), (y7, .inl (.boolean, 128, .inl Xt))]) (fh_ret (some (.int (nI u))) [(h, .inr (6, [.int (nI 0), .int (nI M), .int (nI n), .ref y1, .ref y2, .ref y3, .int (nI u), .ref y4, .ref y5, .ref y6, .ref y7, .int (nI c), .ref y8, .ref y9, .ref y10, .ref y11, .ref y12, .int bd, .int ck, .int ps, .int (nI pa), .int lc, .int (nI (b2n fb)), .long ek, .long ev, .int (nI el), .int (nI fn), .ref y13, .ref y14, .ref y15, .ref y16, .int (nI js), .ref y17, .int (nI (b2n ib))])), (y9, .inl (.int, 17, .inl (fun q => nI (en q)))), (y7, .inl (.boolean, 128, .inl Xt))]) margs sm 0 0) 0 0 (hp [(h, .inr (6, [.int (nI 0), .int (nI M), .int (nI n), .ref y1, .ref y2, .ref y3, .int (nI u), .ref y4, .ref y5, .ref y6, .ref y7, .int (nI c), .ref y8, .ref y9, .ref y10, .ref y11, .ref y12, .int bd, .int ck, .int ps, .int (nI pa), .int lc, .int (nI (b2n fb)), .long ek, .long ev, .int (nI el), .int (nI fn), .ref y13, .ref y14, .ref y15, .ref y16, .int (nI js), .ref y17, .int (nI (b2n ib))])), (y9, .inl (.int, 17, .inl (fun q => nI (en q)))), (y7, .inl (.boolean, 128, .inl Xt))]) 9 [(3, .int (nI t)), (2, .int (nI (sEn tb t))), (0, .ref h), (1, .int (nI 2))] [] := by
    intro fu9
    induction fu9 with
    | zero => intro t q1 hm9; exact absurd hm9 (Nat.not_lt_zero _)
    | succ fu9 ih9 =>
      intro t q1 hm9
      have hs9 := sEn_le hE t (by omega)
      refine g_iload_n X d_MD_count_9 0 rfl ?_
      refine g_aload_n X d_MD_count_10 2 rfl ?_
      refine g_getf (k := 11) X d_MD_count_11 (hl_w 0 rfl hn) rfl i_MD (by decide) k_fl_MD_136 (fun _ h => h) rfl ?_
      refine g_icmp_ge 32 X d_MD_count_14 (by decide) (fun h14 => ?_) (fun h14 => ?_)
      · have h14 := cv_le (by omega) (by omega) h14
        have e8 : t = c := by omega
        refine g_iload_n X d_MD_count_32 3 rfl ?_
        refine g_tableIn (off := 57) 90 X d_MD_count_33 (by decide) (by decide) (by decide) (by decide) ?_
        refine g_aload_n X d_MD_count_90 2 rfl ?_
        refine g_getf (k := 6) X d_MD_count_91 (hl_w 0 rfl hn) rfl i_MD (by decide) k_fl_MD_84 (fun _ h => h) rfl ?_
        exact g_iret X hr d_MD_count_94 (Nat.le_of_ble_eq_true rfl) (Nat.le_of_ble_eq_true rfl) (⟨rfl, rfl⟩)
      · have h14 := cv_nle (by omega) (by omega) h14
        refine g_iload_n X d_MD_count_17 1 rfl ?_
        refine g_aload_n X d_MD_count_18 2 rfl ?_
        refine g_getf (k := 13) X d_MD_count_19 (hl_w 0 rfl hn) rfl i_MD (by decide) k_fl_MD_36 (fun _ h => h) rfl ?_
        refine g_iload_n X d_MD_count_22 0 rfl ?_
        refine h_iald X d_MD_count_23 (hl_w 1 rfl hn) (by omega) (by omega) ?_
        refine g_iadd X d_MD_count_24 ?_
        refine g_vi (nI (sEn tb t + en t)) (nI_add _ _) ?_
        refine g_istore_n [(2, .int (nI (sEn tb t + en t))), (3, .int (nI t)), (0, .ref h), (1, .int (nI 2))] X d_MD_count_25 (by decide) rfl ?_
        refine g_iinc (nI (t + 1)) 1 [(3, .int (nI (t + 1))), (2, .int (nI (sEn tb t + en t))), (0, .ref h), (1, .int (nI 2))] X d_MD_count_26 rfl (nI_1 _) (by decide) rfl ?_
        refine g_goto 9 X d_MD_count_29 (by decide) ?_
        refine g_lve (lv' := [(3, .int (nI (t + 1))), (2, .int (nI (sEn tb (t + 1)))), (0, .ref h), (1, .int (nI 2))]) (by rw [sEn, hA t (by omega)]) ?_
        exact ih9 (t + 1) (by omega) (by omega)
  exact L9 _ 0 (Nat.zero_le _) (Nat.lt_succ_self _)

set_option maxRecDepth 100000 in
set_option maxHeartbeats 1000000 in
theorem c_MD_count_3 {l : Launch} (hst : l.stackTraces = false) {h y1 y2 y3 y4 y5 y6 y7 y8 y9 y10 y11 y12 y13 y14 y15 y16 y17 M n u c pa el fn js : Nat} {th bd ck ps lc : Int32} {fb ib : Bool} {ek ev : Int64} {en : Nat → Nat} {Xt : Nat → Int32} (hn : [h, y9, y7].Nodup) (hc16 : c ≤ 16) {tb : Nat → TBr} (hA : ∀ t, t < c → en t = (tb t).en) (hE : ∀ t, t < c → (tb t).en ≤ 455) {T : Nat → Int32} (hX : rX Xt T M) (hM : M ≤ 128) : fh_C l fhCl fhT y_MD_count (.code y_MD_count b_MD_count 4 (some .int)) 1 22 [.ref h, .int (nI 3)] (hp [(h, .inr (6, [.int th, .int (nI M), .int (nI n), .ref y1, .ref y2, .ref y3, .int (nI u), .ref y4, .ref y5, .ref y6, .ref y7, .int (nI c), .ref y8, .ref y9, .ref y10, .ref y11, .ref y12, .int bd, .int ck, .int ps, .int (nI pa), .int lc, .int (nI (b2n fb)), .long ek, .long ev, .int (nI el), .int (nI fn), .ref y13, .ref y14, .ref y15, .ref y16, .int (nI js), .ref y17, .int (nI (b2n ib))])), (y9, .inl (.int, 17, .inl (fun q => nI (en q)))), (y7, .inl (.boolean, 128, .inl Xt))]) (hp []) 0 0 (fh_ret (some (.int (nI c))) [(h, .inr (6, [.int (nI 0), .int (nI M), .int (nI n), .ref y1, .ref y2, .ref y3, .int (nI u), .ref y4, .ref y5, .ref y6, .ref y7, .int (nI c), .ref y8, .ref y9, .ref y10, .ref y11, .ref y12, .int bd, .int ck, .int ps, .int (nI pa), .int lc, .int (nI (b2n fb)), .long ek, .long ev, .int (nI el), .int (nI fn), .ref y13, .ref y14, .ref y15, .ref y16, .int (nI js), .ref y17, .int (nI (b2n ib))])), (y9, .inl (.int, 17, .inl (fun q => nI (en q)))), (y7, .inl (.boolean, 128, .inl Xt))]) := by
  refine fh_enter (by decide) hst (Nat.le_of_ble_eq_true rfl) ?_
  intro mD mp me sm mm margs mbel mmet mcod X hr hnm hno hf0
  show fh_G mp l me (fh_rm 1 22 0 0) sm mm margs mbel mmet mcod mD fhCl (hp [(h, .inr (6, [.int th, .int (nI M), .int (nI n), .ref y1, .ref y2, .ref y3, .int (nI u), .ref y4, .ref y5, .ref y6, .ref y7, .int (nI c), .ref y8, .ref y9, .ref y10, .ref y11, .ref y12, .int bd, .int ck, .int ps, .int (nI pa), .int lc, .int (nI (b2n fb)), .long ek, .long ev, .int (nI el), .int (nI fn), .ref y13, .ref y14, .ref y15, .ref y16, .int (nI js), .ref y17, .int (nI (b2n ib))])), (y9, .inl (.int, 17, .inl (fun q => nI (en q)))), (y7, .inl (.boolean, 128, .inl Xt))]) 4 _ 0 0 (hp [(h, .inr (6, [.int th, .int (nI M), .int (nI n), .ref y1, .ref y2, .ref y3, .int (nI u), .ref y4, .ref y5, .ref y6, .ref y7, .int (nI c), .ref y8, .ref y9, .ref y10, .ref y11, .ref y12, .int bd, .int ck, .int ps, .int (nI pa), .int lc, .int (nI (b2n fb)), .long ek, .long ev, .int (nI el), .int (nI fn), .ref y13, .ref y14, .ref y15, .ref y16, .int (nI js), .ref y17, .int (nI (b2n ib))])), (y9, .inl (.int, 17, .inl (fun q => nI (en q)))), (y7, .inl (.boolean, 128, .inl Xt))]) 0 [(0, .ref h), (1, .int (nI 3))] []
  have hn7 : [h, y7].Nodup := (List.Nodup.sublist (by repeat first | exact List.nil_sublist _ | apply List.Sublist.cons₂ | apply List.Sublist.cons) hn)
  refine g_aload_n X d_MD_count_0 0 rfl ?_
  refine g_iconst (nI 0) X d_MD_count_1 (by decide) ?_
  refine h_putf (k := 0) (ty := .int) 0 [(h, .inr (6, [.int (nI 0), .int (nI M), .int (nI n), .ref y1, .ref y2, .ref y3, .int (nI u), .ref y4, .ref y5, .ref y6, .ref y7, .int (nI c), .ref y8, .ref y9, .ref y10, .ref y11, .ref y12, .int bd, .int ck, .int ps, .int (nI pa), .int lc, .int (nI (b2n fb)), .long ek, .long ev, .int (nI el), .int (nI fn), .ref y13, .ref y14, .ref y15, .ref y16, .int (nI js), .ref y17, .int (nI (b2n ib))])), (y9, .inl (.int, 17, .inl (fun q => nI (en q)))), (y7, .inl (.boolean, 128, .inl Xt))] X d_MD_count_2 hn rfl rfl i_MD t_MD t_MD_ok n_MD (by decide) k_fl_MD_70 (fun _ h => h) rfl (by decide +kernel) rfl rfl (Nat.le_of_ble_eq_true rfl) rfl ?_
  refine g_iconst (nI 0) X d_MD_count_5 (by decide) ?_
  refine g_istore_n [(2, .int (nI 0)), (0, .ref h), (1, .int (nI 3))] X d_MD_count_6 (by decide) rfl ?_
  refine g_iconst (nI 0) X d_MD_count_7 (by decide) ?_
  refine g_istore_n [(3, .int (nI 0)), (2, .int (nI 0)), (0, .ref h), (1, .int (nI 3))] X d_MD_count_8 (by decide) rfl ?_
  have L9 : ∀ (fu9 : Nat) (t : Nat), (t ≤ c) → c - t < fu9 → fh_G mp l me (fh_rm 1 22 0 0) sm mm margs mbel mmet mcod mD fhCl (hp [(h, .inr (6, [.int th, .int (nI M), .int (nI n), .ref y1, .ref y2, .ref y3, .int (nI u), .ref y4, .ref y5, .ref y6, .ref y7, .int (nI c), .ref y8, .ref y9, .ref y10, .ref y11, .ref y12, .int bd, .int ck, .int ps, .int (nI pa), .int lc, .int (nI (b2n fb)), .long ek, .long ev, .int (nI el), .int (nI fn), .ref y13, .ref y14, .ref y15, .ref y16, .int (nI js), .ref y17, .int (nI (b2n ib))])), (y9, .inl (.int, 17, .inl (fun q => nI (en q)))), (y7, .inl (.boolean, 128, .inl Xt))]) 4 (fh_MQ mbel mD fhCl (hp [(h, .inr (6, [.int th, .int (nI M), .int (nI n), .ref y1, .ref y2, .ref y3, .int (nI u), .ref y4, .ref y5, .ref y6, .ref y7, .int (nI c), .ref y8, .ref y9, .ref y10, .ref y11, .ref y12, .int bd, .int ck, .int ps, .int (nI pa), .int lc, .int (nI (b2n fb)), .long ek, .long ev, .int (nI el), .int (nI fn), .ref y13, .ref y14, .ref y15, .ref y16, .int (nI js), .ref y17, .int (nI (b2n ib))])), (y9, .inl (.int, 17, .inl (fun q => nI (en q)))), (y7, .inl (.boolean, 128, .inl Xt))]) (fh_ret (some (.int (nI c))) [(h, .inr (6, [.int (nI 0), .int (nI M), .int (nI n), .ref y1, .ref y2, .ref y3, .int (nI u), .ref y4, .ref y5, .ref y6, .ref y7, .int (nI c), .ref y8, .ref y9, .ref y10, .ref y11, .ref y12, .int bd, .int ck, .int ps, .int (nI pa), .int lc, .int (nI (b2n fb)), .long ek, .long ev, .int (nI el), .int (nI fn), .ref y13, .ref y14, .ref y15, .ref y16, .int (nI js), .ref y17, .int (nI (b2n ib))])), (y9, .inl (.int, 17, .inl (fun q => nI (en q)))), (y7, .inl (.boolean, 128, .inl Xt))]) margs sm 0 0) 0 0 (hp [(h, .inr (6, [.int (nI 0), .int (nI M), .int (nI n), .ref y1, .ref y2, .ref y3, .int (nI u), .ref y4, .ref y5, .ref y6, .ref y7, .int (nI c), .ref y8, .ref y9, .ref y10, .ref y11, .ref y12, .int bd, .int ck, .int ps, .int (nI pa), .int lc, .int (nI (b2n fb)), .long ek, .long ev, .int (nI el), .int (nI fn), .ref y13, .ref y14, .ref y15, .ref y16, .int (nI js), .ref y17, .int (nI (b2n ib))])), (y9, .inl (.int, 17, .inl (fun q => nI (en q)))), (y7, .inl (.boolean, 128, .inl Xt))]) 9 [(3, .int (nI t)), (2, .int (nI (sEn tb t))), (0, .ref h), (1, .int (nI 3))] [] := by
    intro fu9
    induction fu9 with
    | zero => intro t q1 hm9; exact absurd hm9 (Nat.not_lt_zero _)
    | succ fu9 ih9 =>
      intro t q1 hm9
      have hs9 := sEn_le hE t (by omega)
      refine g_iload_n X d_MD_count_9 0 rfl ?_
      refine g_aload_n X d_MD_count_10 2 rfl ?_
      refine g_getf (k := 11) X d_MD_count_11 (hl_w 0 rfl hn) rfl i_MD (by decide) k_fl_MD_136 (fun _ h => h) rfl ?_
      refine g_icmp_ge 32 X d_MD_count_14 (by decide) (fun h14 => ?_) (fun h14 => ?_)
      · have h14 := cv_le (by omega) (by omega) h14
        have e8 : t = c := by omega
        refine g_iload_n X d_MD_count_32 3 rfl ?_
        refine g_tableIn (off := 62) 95 X d_MD_count_33 (by decide) (by decide) (by decide) (by decide) ?_
        refine g_aload_n X d_MD_count_95 2 rfl ?_
        refine g_getf (k := 11) X d_MD_count_96 (hl_w 0 rfl hn) rfl i_MD (by decide) k_fl_MD_136 (fun _ h => h) rfl ?_
        exact g_iret X hr d_MD_count_99 (Nat.le_of_ble_eq_true rfl) (Nat.le_of_ble_eq_true rfl) (⟨rfl, rfl⟩)
      · have h14 := cv_nle (by omega) (by omega) h14
        refine g_iload_n X d_MD_count_17 1 rfl ?_
        refine g_aload_n X d_MD_count_18 2 rfl ?_
        refine g_getf (k := 13) X d_MD_count_19 (hl_w 0 rfl hn) rfl i_MD (by decide) k_fl_MD_36 (fun _ h => h) rfl ?_
        refine g_iload_n X d_MD_count_22 0 rfl ?_
        refine h_iald X d_MD_count_23 (hl_w 1 rfl hn) (by omega) (by omega) ?_
        refine g_iadd X d_MD_count_24 ?_
        refine g_vi (nI (sEn tb t + en t)) (nI_add _ _) ?_
        refine g_istore_n [(2, .int (nI (sEn tb t + en t))), (3, .int (nI t)), (0, .ref h), (1, .int (nI 3))] X d_MD_count_25 (by decide) rfl ?_
        refine g_iinc (nI (t + 1)) 1 [(3, .int (nI (t + 1))), (2, .int (nI (sEn tb t + en t))), (0, .ref h), (1, .int (nI 3))] X d_MD_count_26 rfl (nI_1 _) (by decide) rfl ?_
        refine g_goto 9 X d_MD_count_29 (by decide) ?_
        refine g_lve (lv' := [(3, .int (nI (t + 1))), (2, .int (nI (sEn tb (t + 1)))), (0, .ref h), (1, .int (nI 3))]) (by rw [sEn, hA t (by omega)]) ?_
        exact ih9 (t + 1) (by omega) (by omega)
  exact L9 _ 0 (Nat.zero_le _) (Nat.lt_succ_self _)

set_option maxRecDepth 100000 in
set_option maxHeartbeats 1000000 in
theorem c_MD_count_4 {l : Launch} (hst : l.stackTraces = false) {h y1 y2 y3 y4 y5 y6 y7 y8 y9 y10 y11 y12 y13 y14 y15 y16 y17 M n u c pa el fn js : Nat} {th bd ck ps lc : Int32} {fb ib : Bool} {ek ev : Int64} {en : Nat → Nat} {Xt : Nat → Int32} (hn : [h, y9, y7].Nodup) (hc16 : c ≤ 16) {tb : Nat → TBr} (hA : ∀ t, t < c → en t = (tb t).en) (hE : ∀ t, t < c → (tb t).en ≤ 455) {T : Nat → Int32} (hX : rX Xt T M) (hM : M ≤ 128) : fh_C l fhCl fhT y_MD_count (.code y_MD_count b_MD_count 4 (some .int)) 1 22 [.ref h, .int (nI 4)] (hp [(h, .inr (6, [.int th, .int (nI M), .int (nI n), .ref y1, .ref y2, .ref y3, .int (nI u), .ref y4, .ref y5, .ref y6, .ref y7, .int (nI c), .ref y8, .ref y9, .ref y10, .ref y11, .ref y12, .int bd, .int ck, .int ps, .int (nI pa), .int lc, .int (nI (b2n fb)), .long ek, .long ev, .int (nI el), .int (nI fn), .ref y13, .ref y14, .ref y15, .ref y16, .int (nI js), .ref y17, .int (nI (b2n ib))])), (y9, .inl (.int, 17, .inl (fun q => nI (en q)))), (y7, .inl (.boolean, 128, .inl Xt))]) (hp []) 0 0 (fh_ret (some (.int (nI (fcn T M)))) [(h, .inr (6, [.int (nI 0), .int (nI M), .int (nI n), .ref y1, .ref y2, .ref y3, .int (nI u), .ref y4, .ref y5, .ref y6, .ref y7, .int (nI c), .ref y8, .ref y9, .ref y10, .ref y11, .ref y12, .int bd, .int ck, .int ps, .int (nI pa), .int lc, .int (nI (b2n fb)), .long ek, .long ev, .int (nI el), .int (nI fn), .ref y13, .ref y14, .ref y15, .ref y16, .int (nI js), .ref y17, .int (nI (b2n ib))])), (y9, .inl (.int, 17, .inl (fun q => nI (en q)))), (y7, .inl (.boolean, 128, .inl Xt))]) := by
  refine fh_enter (by decide) hst (Nat.le_of_ble_eq_true rfl) ?_
  intro mD mp me sm mm margs mbel mmet mcod X hr hnm hno hf0
  show fh_G mp l me (fh_rm 1 22 0 0) sm mm margs mbel mmet mcod mD fhCl (hp [(h, .inr (6, [.int th, .int (nI M), .int (nI n), .ref y1, .ref y2, .ref y3, .int (nI u), .ref y4, .ref y5, .ref y6, .ref y7, .int (nI c), .ref y8, .ref y9, .ref y10, .ref y11, .ref y12, .int bd, .int ck, .int ps, .int (nI pa), .int lc, .int (nI (b2n fb)), .long ek, .long ev, .int (nI el), .int (nI fn), .ref y13, .ref y14, .ref y15, .ref y16, .int (nI js), .ref y17, .int (nI (b2n ib))])), (y9, .inl (.int, 17, .inl (fun q => nI (en q)))), (y7, .inl (.boolean, 128, .inl Xt))]) 4 _ 0 0 (hp [(h, .inr (6, [.int th, .int (nI M), .int (nI n), .ref y1, .ref y2, .ref y3, .int (nI u), .ref y4, .ref y5, .ref y6, .ref y7, .int (nI c), .ref y8, .ref y9, .ref y10, .ref y11, .ref y12, .int bd, .int ck, .int ps, .int (nI pa), .int lc, .int (nI (b2n fb)), .long ek, .long ev, .int (nI el), .int (nI fn), .ref y13, .ref y14, .ref y15, .ref y16, .int (nI js), .ref y17, .int (nI (b2n ib))])), (y9, .inl (.int, 17, .inl (fun q => nI (en q)))), (y7, .inl (.boolean, 128, .inl Xt))]) 0 [(0, .ref h), (1, .int (nI 4))] []
  have hn7 : [h, y7].Nodup := (List.Nodup.sublist (by repeat first | exact List.nil_sublist _ | apply List.Sublist.cons₂ | apply List.Sublist.cons) hn)
  refine g_aload_n X d_MD_count_0 0 rfl ?_
  refine g_iconst (nI 0) X d_MD_count_1 (by decide) ?_
  refine h_putf (k := 0) (ty := .int) 0 [(h, .inr (6, [.int (nI 0), .int (nI M), .int (nI n), .ref y1, .ref y2, .ref y3, .int (nI u), .ref y4, .ref y5, .ref y6, .ref y7, .int (nI c), .ref y8, .ref y9, .ref y10, .ref y11, .ref y12, .int bd, .int ck, .int ps, .int (nI pa), .int lc, .int (nI (b2n fb)), .long ek, .long ev, .int (nI el), .int (nI fn), .ref y13, .ref y14, .ref y15, .ref y16, .int (nI js), .ref y17, .int (nI (b2n ib))])), (y9, .inl (.int, 17, .inl (fun q => nI (en q)))), (y7, .inl (.boolean, 128, .inl Xt))] X d_MD_count_2 hn rfl rfl i_MD t_MD t_MD_ok n_MD (by decide) k_fl_MD_70 (fun _ h => h) rfl (by decide +kernel) rfl rfl (Nat.le_of_ble_eq_true rfl) rfl ?_
  refine g_iconst (nI 0) X d_MD_count_5 (by decide) ?_
  refine g_istore_n [(2, .int (nI 0)), (0, .ref h), (1, .int (nI 4))] X d_MD_count_6 (by decide) rfl ?_
  refine g_iconst (nI 0) X d_MD_count_7 (by decide) ?_
  refine g_istore_n [(3, .int (nI 0)), (2, .int (nI 0)), (0, .ref h), (1, .int (nI 4))] X d_MD_count_8 (by decide) rfl ?_
  have L9 : ∀ (fu9 : Nat) (t : Nat), (t ≤ c) → c - t < fu9 → fh_G mp l me (fh_rm 1 22 0 0) sm mm margs mbel mmet mcod mD fhCl (hp [(h, .inr (6, [.int th, .int (nI M), .int (nI n), .ref y1, .ref y2, .ref y3, .int (nI u), .ref y4, .ref y5, .ref y6, .ref y7, .int (nI c), .ref y8, .ref y9, .ref y10, .ref y11, .ref y12, .int bd, .int ck, .int ps, .int (nI pa), .int lc, .int (nI (b2n fb)), .long ek, .long ev, .int (nI el), .int (nI fn), .ref y13, .ref y14, .ref y15, .ref y16, .int (nI js), .ref y17, .int (nI (b2n ib))])), (y9, .inl (.int, 17, .inl (fun q => nI (en q)))), (y7, .inl (.boolean, 128, .inl Xt))]) 4 (fh_MQ mbel mD fhCl (hp [(h, .inr (6, [.int th, .int (nI M), .int (nI n), .ref y1, .ref y2, .ref y3, .int (nI u), .ref y4, .ref y5, .ref y6, .ref y7, .int (nI c), .ref y8, .ref y9, .ref y10, .ref y11, .ref y12, .int bd, .int ck, .int ps, .int (nI pa), .int lc, .int (nI (b2n fb)), .long ek, .long ev, .int (nI el), .int (nI fn), .ref y13, .ref y14, .ref y15, .ref y16, .int (nI js), .ref y17, .int (nI (b2n ib))])), (y9, .inl (.int, 17, .inl (fun q => nI (en q)))), (y7, .inl (.boolean, 128, .inl Xt))]) (fh_ret (some (.int (nI (fcn T M)))) [(h, .inr (6, [.int (nI 0), .int (nI M), .int (nI n), .ref y1, .ref y2, .ref y3, .int (nI u), .ref y4, .ref y5, .ref y6, .ref y7, .int (nI c), .ref y8, .ref y9, .ref y10, .ref y11, .ref y12, .int bd, .int ck, .int ps, .int (nI pa), .int lc, .int (nI (b2n fb)), .long ek, .long ev, .int (nI el), .int (nI fn), .ref y13, .ref y14, .ref y15, .ref y16, .int (nI js), .ref y17, .int (nI (b2n ib))])), (y9, .inl (.int, 17, .inl (fun q => nI (en q)))), (y7, .inl (.boolean, 128, .inl Xt))]) margs sm 0 0) 0 0 (hp [(h, .inr (6, [.int (nI 0), .int (nI M), .int (nI n), .ref y1, .ref y2, .ref y3, .int (nI u), .ref y4, .ref y5, .ref y6, .ref y7, .int (nI c), .ref y8, .ref y9, .ref y10, .ref y11, .ref y12, .int bd, .int ck, .int ps, .int (nI pa), .int lc, .int (nI (b2n fb)), .long ek, .long ev, .int (nI el), .int (nI fn), .ref y13, .ref y14, .ref y15, .ref y16, .int (nI js), .ref y17, .int (nI (b2n ib))])), (y9, .inl (.int, 17, .inl (fun q => nI (en q)))), (y7, .inl (.boolean, 128, .inl Xt))]) 9 [(3, .int (nI t)), (2, .int (nI (sEn tb t))), (0, .ref h), (1, .int (nI 4))] [] := by
    intro fu9
    induction fu9 with
    | zero => intro t q1 hm9; exact absurd hm9 (Nat.not_lt_zero _)
    | succ fu9 ih9 =>
      intro t q1 hm9
      have hs9 := sEn_le hE t (by omega)
      refine g_iload_n X d_MD_count_9 0 rfl ?_
      refine g_aload_n X d_MD_count_10 2 rfl ?_
      refine g_getf (k := 11) X d_MD_count_11 (hl_w 0 rfl hn) rfl i_MD (by decide) k_fl_MD_136 (fun _ h => h) rfl ?_
      refine g_icmp_ge 32 X d_MD_count_14 (by decide) (fun h14 => ?_) (fun h14 => ?_)
      · have h14 := cv_le (by omega) (by omega) h14
        have e8 : t = c := by omega
        refine g_iload_n X d_MD_count_32 3 rfl ?_
        refine g_tableIn (off := 67) 100 X d_MD_count_33 (by decide) (by decide) (by decide) (by decide) ?_
        refine g_aload_n X d_MD_count_100 2 rfl ?_
        refine h_callV (As := []) (st := []) [0, 2] [(h, .inr (6, [.int (nI 0), .int (nI M), .int (nI n), .ref y1, .ref y2, .ref y3, .int (nI u), .ref y4, .ref y5, .ref y6, .ref y7, .int (nI c), .ref y8, .ref y9, .ref y10, .ref y11, .ref y12, .int bd, .int ck, .int ps, .int (nI pa), .int lc, .int (nI (b2n fb)), .long ek, .long ev, .int (nI el), .int (nI fn), .ref y13, .ref y14, .ref y15, .ref y16, .int (nI js), .ref y17, .int (nI (b2n ib))])), (y9, .inl (.int, 17, .inl (fun q => nI (en q)))), (y7, .inl (.boolean, 128, .inl Xt))] X d_MD_count_101 (c_MD_freeBlocks hst hn7 hX hM) (hl_w 0 rfl hn) rfl rfl k_ml_MD_156 k_cd_MD_freeBlocks k_in_MD k_im_MD_freeBlocks k_se_MD_freeBlocks ⟨by decide +kernel, by decide +kernel, (by decide +kernel : (parseMethodDescriptor y_MD_freeBlocks.desc).map (fun d => d.parameters.length) = some 0)⟩ ⟨Nat.le_of_ble_eq_true rfl, Nat.le_of_ble_eq_true rfl⟩ ⟨Nat.le_of_ble_eq_true rfl, Nat.le_of_ble_eq_true rfl⟩ (Nat.le_of_ble_eq_true rfl) hn rfl rfl rfl hp_no hp_no2 ?_
        exact g_iret X hr d_MD_count_104 (Nat.le_of_ble_eq_true rfl) (Nat.le_of_ble_eq_true rfl) (⟨rfl, rfl⟩)
      · have h14 := cv_nle (by omega) (by omega) h14
        refine g_iload_n X d_MD_count_17 1 rfl ?_
        refine g_aload_n X d_MD_count_18 2 rfl ?_
        refine g_getf (k := 13) X d_MD_count_19 (hl_w 0 rfl hn) rfl i_MD (by decide) k_fl_MD_36 (fun _ h => h) rfl ?_
        refine g_iload_n X d_MD_count_22 0 rfl ?_
        refine h_iald X d_MD_count_23 (hl_w 1 rfl hn) (by omega) (by omega) ?_
        refine g_iadd X d_MD_count_24 ?_
        refine g_vi (nI (sEn tb t + en t)) (nI_add _ _) ?_
        refine g_istore_n [(2, .int (nI (sEn tb t + en t))), (3, .int (nI t)), (0, .ref h), (1, .int (nI 4))] X d_MD_count_25 (by decide) rfl ?_
        refine g_iinc (nI (t + 1)) 1 [(3, .int (nI (t + 1))), (2, .int (nI (sEn tb t + en t))), (0, .ref h), (1, .int (nI 4))] X d_MD_count_26 rfl (nI_1 _) (by decide) rfl ?_
        refine g_goto 9 X d_MD_count_29 (by decide) ?_
        refine g_lve (lv' := [(3, .int (nI (t + 1))), (2, .int (nI (sEn tb (t + 1)))), (0, .ref h), (1, .int (nI 4))]) (by rw [sEn, hA t (by omega)]) ?_
        exact ih9 (t + 1) (by omega) (by omega)
  exact L9 _ 0 (Nat.zero_le _) (Nat.lt_succ_self _)

set_option maxRecDepth 100000 in
set_option maxHeartbeats 1000000 in
theorem c_MD_count_5 {l : Launch} (hst : l.stackTraces = false) {h y1 y2 y3 y4 y5 y6 y7 y8 y9 y10 y11 y12 y13 y14 y15 y16 y17 M n u c pa el fn js : Nat} {th bd ck ps lc : Int32} {fb ib : Bool} {ek ev : Int64} {en : Nat → Nat} {Xt : Nat → Int32} (hn : [h, y9, y7].Nodup) (hc16 : c ≤ 16) {tb : Nat → TBr} (hA : ∀ t, t < c → en t = (tb t).en) (hE : ∀ t, t < c → (tb t).en ≤ 455) {T : Nat → Int32} (hX : rX Xt T M) (hM : M ≤ 128) : fh_C l fhCl fhT y_MD_count (.code y_MD_count b_MD_count 4 (some .int)) 1 22 [.ref h, .int (nI 5)] (hp [(h, .inr (6, [.int th, .int (nI M), .int (nI n), .ref y1, .ref y2, .ref y3, .int (nI u), .ref y4, .ref y5, .ref y6, .ref y7, .int (nI c), .ref y8, .ref y9, .ref y10, .ref y11, .ref y12, .int bd, .int ck, .int ps, .int (nI pa), .int lc, .int (nI (b2n fb)), .long ek, .long ev, .int (nI el), .int (nI fn), .ref y13, .ref y14, .ref y15, .ref y16, .int (nI js), .ref y17, .int (nI (b2n ib))])), (y9, .inl (.int, 17, .inl (fun q => nI (en q)))), (y7, .inl (.boolean, 128, .inl Xt))]) (hp []) 0 0 (fh_ret (some (.int (ck))) [(h, .inr (6, [.int (nI 0), .int (nI M), .int (nI n), .ref y1, .ref y2, .ref y3, .int (nI u), .ref y4, .ref y5, .ref y6, .ref y7, .int (nI c), .ref y8, .ref y9, .ref y10, .ref y11, .ref y12, .int bd, .int ck, .int ps, .int (nI pa), .int lc, .int (nI (b2n fb)), .long ek, .long ev, .int (nI el), .int (nI fn), .ref y13, .ref y14, .ref y15, .ref y16, .int (nI js), .ref y17, .int (nI (b2n ib))])), (y9, .inl (.int, 17, .inl (fun q => nI (en q)))), (y7, .inl (.boolean, 128, .inl Xt))]) := by
  refine fh_enter (by decide) hst (Nat.le_of_ble_eq_true rfl) ?_
  intro mD mp me sm mm margs mbel mmet mcod X hr hnm hno hf0
  show fh_G mp l me (fh_rm 1 22 0 0) sm mm margs mbel mmet mcod mD fhCl (hp [(h, .inr (6, [.int th, .int (nI M), .int (nI n), .ref y1, .ref y2, .ref y3, .int (nI u), .ref y4, .ref y5, .ref y6, .ref y7, .int (nI c), .ref y8, .ref y9, .ref y10, .ref y11, .ref y12, .int bd, .int ck, .int ps, .int (nI pa), .int lc, .int (nI (b2n fb)), .long ek, .long ev, .int (nI el), .int (nI fn), .ref y13, .ref y14, .ref y15, .ref y16, .int (nI js), .ref y17, .int (nI (b2n ib))])), (y9, .inl (.int, 17, .inl (fun q => nI (en q)))), (y7, .inl (.boolean, 128, .inl Xt))]) 4 _ 0 0 (hp [(h, .inr (6, [.int th, .int (nI M), .int (nI n), .ref y1, .ref y2, .ref y3, .int (nI u), .ref y4, .ref y5, .ref y6, .ref y7, .int (nI c), .ref y8, .ref y9, .ref y10, .ref y11, .ref y12, .int bd, .int ck, .int ps, .int (nI pa), .int lc, .int (nI (b2n fb)), .long ek, .long ev, .int (nI el), .int (nI fn), .ref y13, .ref y14, .ref y15, .ref y16, .int (nI js), .ref y17, .int (nI (b2n ib))])), (y9, .inl (.int, 17, .inl (fun q => nI (en q)))), (y7, .inl (.boolean, 128, .inl Xt))]) 0 [(0, .ref h), (1, .int (nI 5))] []
  have hn7 : [h, y7].Nodup := (List.Nodup.sublist (by repeat first | exact List.nil_sublist _ | apply List.Sublist.cons₂ | apply List.Sublist.cons) hn)
  refine g_aload_n X d_MD_count_0 0 rfl ?_
  refine g_iconst (nI 0) X d_MD_count_1 (by decide) ?_
  refine h_putf (k := 0) (ty := .int) 0 [(h, .inr (6, [.int (nI 0), .int (nI M), .int (nI n), .ref y1, .ref y2, .ref y3, .int (nI u), .ref y4, .ref y5, .ref y6, .ref y7, .int (nI c), .ref y8, .ref y9, .ref y10, .ref y11, .ref y12, .int bd, .int ck, .int ps, .int (nI pa), .int lc, .int (nI (b2n fb)), .long ek, .long ev, .int (nI el), .int (nI fn), .ref y13, .ref y14, .ref y15, .ref y16, .int (nI js), .ref y17, .int (nI (b2n ib))])), (y9, .inl (.int, 17, .inl (fun q => nI (en q)))), (y7, .inl (.boolean, 128, .inl Xt))] X d_MD_count_2 hn rfl rfl i_MD t_MD t_MD_ok n_MD (by decide) k_fl_MD_70 (fun _ h => h) rfl (by decide +kernel) rfl rfl (Nat.le_of_ble_eq_true rfl) rfl ?_
  refine g_iconst (nI 0) X d_MD_count_5 (by decide) ?_
  refine g_istore_n [(2, .int (nI 0)), (0, .ref h), (1, .int (nI 5))] X d_MD_count_6 (by decide) rfl ?_
  refine g_iconst (nI 0) X d_MD_count_7 (by decide) ?_
  refine g_istore_n [(3, .int (nI 0)), (2, .int (nI 0)), (0, .ref h), (1, .int (nI 5))] X d_MD_count_8 (by decide) rfl ?_
  have L9 : ∀ (fu9 : Nat) (t : Nat), (t ≤ c) → c - t < fu9 → fh_G mp l me (fh_rm 1 22 0 0) sm mm margs mbel mmet mcod mD fhCl (hp [(h, .inr (6, [.int th, .int (nI M), .int (nI n), .ref y1, .ref y2, .ref y3, .int (nI u), .ref y4, .ref y5, .ref y6, .ref y7, .int (nI c), .ref y8, .ref y9, .ref y10, .ref y11, .ref y12, .int bd, .int ck, .int ps, .int (nI pa), .int lc, .int (nI (b2n fb)), .long ek, .long ev, .int (nI el), .int (nI fn), .ref y13, .ref y14, .ref y15, .ref y16, .int (nI js), .ref y17, .int (nI (b2n ib))])), (y9, .inl (.int, 17, .inl (fun q => nI (en q)))), (y7, .inl (.boolean, 128, .inl Xt))]) 4 (fh_MQ mbel mD fhCl (hp [(h, .inr (6, [.int th, .int (nI M), .int (nI n), .ref y1, .ref y2, .ref y3, .int (nI u), .ref y4, .ref y5, .ref y6, .ref y7, .int (nI c), .ref y8, .ref y9, .ref y10, .ref y11, .ref y12, .int bd, .int ck, .int ps, .int (nI pa), .int lc, .int (nI (b2n fb)), .long ek, .long ev, .int (nI el), .int (nI fn), .ref y13, .ref y14, .ref y15, .ref y16, .int (nI js), .ref y17, .int (nI (b2n ib))])), (y9, .inl (.int, 17, .inl (fun q => nI (en q)))), (y7, .inl (.boolean, 128, .inl Xt))]) (fh_ret (some (.int (ck))) [(h, .inr (6, [.int (nI 0), .int (nI M), .int (nI n), .ref y1, .ref y2, .ref y3, .int (nI u), .ref y4, .ref y5, .ref y6, .ref y7, .int (nI c), .ref y8, .ref y9, .ref y10, .ref y11, .ref y12, .int bd, .int ck, .int ps, .int (nI pa), .int lc, .int (nI (b2n fb)), .long ek, .long ev, .int (nI el), .int (nI fn), .ref y13, .ref y14, .ref y15, .ref y16, .int (nI js), .ref y17, .int (nI (b2n ib))])), (y9, .inl (.int, 17, .inl (fun q => nI (en q)))), (y7, .inl (.boolean, 128, .inl Xt))]) margs sm 0 0) 0 0 (hp [(h, .inr (6, [.int (nI 0), .int (nI M), .int (nI n), .ref y1, .ref y2, .ref y3, .int (nI u), .ref y4, .ref y5, .ref y6, .ref y7, .int (nI c), .ref y8, .ref y9, .ref y10, .ref y11, .ref y12, .int bd, .int ck, .int ps, .int (nI pa), .int lc, .int (nI (b2n fb)), .long ek, .long ev, .int (nI el), .int (nI fn), .ref y13, .ref y14, .ref y15, .ref y16, .int (nI js), .ref y17, .int (nI (b2n ib))])), (y9, .inl (.int, 17, .inl (fun q => nI (en q)))), (y7, .inl (.boolean, 128, .inl Xt))]) 9 [(3, .int (nI t)), (2, .int (nI (sEn tb t))), (0, .ref h), (1, .int (nI 5))] [] := by
    intro fu9
    induction fu9 with
    | zero => intro t q1 hm9; exact absurd hm9 (Nat.not_lt_zero _)
    | succ fu9 ih9 =>
      intro t q1 hm9
      have hs9 := sEn_le hE t (by omega)
      refine g_iload_n X d_MD_count_9 0 rfl ?_
      refine g_aload_n X d_MD_count_10 2 rfl ?_
      refine g_getf (k := 11) X d_MD_count_11 (hl_w 0 rfl hn) rfl i_MD (by decide) k_fl_MD_136 (fun _ h => h) rfl ?_
      refine g_icmp_ge 32 X d_MD_count_14 (by decide) (fun h14 => ?_) (fun h14 => ?_)
      · have h14 := cv_le (by omega) (by omega) h14
        have e8 : t = c := by omega
        refine g_iload_n X d_MD_count_32 3 rfl ?_
        refine g_tableIn (off := 72) 105 X d_MD_count_33 (by decide) (by decide) (by decide) (by decide) ?_
        refine g_aload_n X d_MD_count_105 2 rfl ?_
        refine g_getf (k := 18) X d_MD_count_106 (hl_w 0 rfl hn) rfl i_MD (by decide) k_fl_MD_174 (fun _ h => h) rfl ?_
        exact g_iret X hr d_MD_count_109 (Nat.le_of_ble_eq_true rfl) (Nat.le_of_ble_eq_true rfl) (⟨rfl, rfl⟩)
      · have h14 := cv_nle (by omega) (by omega) h14
        refine g_iload_n X d_MD_count_17 1 rfl ?_
        refine g_aload_n X d_MD_count_18 2 rfl ?_
        refine g_getf (k := 13) X d_MD_count_19 (hl_w 0 rfl hn) rfl i_MD (by decide) k_fl_MD_36 (fun _ h => h) rfl ?_
        refine g_iload_n X d_MD_count_22 0 rfl ?_
        refine h_iald X d_MD_count_23 (hl_w 1 rfl hn) (by omega) (by omega) ?_
        refine g_iadd X d_MD_count_24 ?_
        refine g_vi (nI (sEn tb t + en t)) (nI_add _ _) ?_
        refine g_istore_n [(2, .int (nI (sEn tb t + en t))), (3, .int (nI t)), (0, .ref h), (1, .int (nI 5))] X d_MD_count_25 (by decide) rfl ?_
        refine g_iinc (nI (t + 1)) 1 [(3, .int (nI (t + 1))), (2, .int (nI (sEn tb t + en t))), (0, .ref h), (1, .int (nI 5))] X d_MD_count_26 rfl (nI_1 _) (by decide) rfl ?_
        refine g_goto 9 X d_MD_count_29 (by decide) ?_
        refine g_lve (lv' := [(3, .int (nI (t + 1))), (2, .int (nI (sEn tb (t + 1)))), (0, .ref h), (1, .int (nI 5))]) (by rw [sEn, hA t (by omega)]) ?_
        exact ih9 (t + 1) (by omega) (by omega)
  exact L9 _ 0 (Nat.zero_le _) (Nat.lt_succ_self _)

set_option maxRecDepth 100000 in
set_option maxHeartbeats 1000000 in
theorem c_MD_count_6 {l : Launch} (hst : l.stackTraces = false) {h y1 y2 y3 y4 y5 y6 y7 y8 y9 y10 y11 y12 y13 y14 y15 y16 y17 M n u c pa el fn js : Nat} {th bd ck ps lc : Int32} {fb ib : Bool} {ek ev : Int64} {en : Nat → Nat} {Xt : Nat → Int32} (hn : [h, y9, y7].Nodup) (hc16 : c ≤ 16) {tb : Nat → TBr} (hA : ∀ t, t < c → en t = (tb t).en) (hE : ∀ t, t < c → (tb t).en ≤ 455) {T : Nat → Int32} (hX : rX Xt T M) (hM : M ≤ 128) : fh_C l fhCl fhT y_MD_count (.code y_MD_count b_MD_count 4 (some .int)) 1 22 [.ref h, .int (nI 6)] (hp [(h, .inr (6, [.int th, .int (nI M), .int (nI n), .ref y1, .ref y2, .ref y3, .int (nI u), .ref y4, .ref y5, .ref y6, .ref y7, .int (nI c), .ref y8, .ref y9, .ref y10, .ref y11, .ref y12, .int bd, .int ck, .int ps, .int (nI pa), .int lc, .int (nI (b2n fb)), .long ek, .long ev, .int (nI el), .int (nI fn), .ref y13, .ref y14, .ref y15, .ref y16, .int (nI js), .ref y17, .int (nI (b2n ib))])), (y9, .inl (.int, 17, .inl (fun q => nI (en q)))), (y7, .inl (.boolean, 128, .inl Xt))]) (hp []) 0 0 (fh_ret (some (.int (ps))) [(h, .inr (6, [.int (nI 0), .int (nI M), .int (nI n), .ref y1, .ref y2, .ref y3, .int (nI u), .ref y4, .ref y5, .ref y6, .ref y7, .int (nI c), .ref y8, .ref y9, .ref y10, .ref y11, .ref y12, .int bd, .int ck, .int ps, .int (nI pa), .int lc, .int (nI (b2n fb)), .long ek, .long ev, .int (nI el), .int (nI fn), .ref y13, .ref y14, .ref y15, .ref y16, .int (nI js), .ref y17, .int (nI (b2n ib))])), (y9, .inl (.int, 17, .inl (fun q => nI (en q)))), (y7, .inl (.boolean, 128, .inl Xt))]) := by
  refine fh_enter (by decide) hst (Nat.le_of_ble_eq_true rfl) ?_
  intro mD mp me sm mm margs mbel mmet mcod X hr hnm hno hf0
  show fh_G mp l me (fh_rm 1 22 0 0) sm mm margs mbel mmet mcod mD fhCl (hp [(h, .inr (6, [.int th, .int (nI M), .int (nI n), .ref y1, .ref y2, .ref y3, .int (nI u), .ref y4, .ref y5, .ref y6, .ref y7, .int (nI c), .ref y8, .ref y9, .ref y10, .ref y11, .ref y12, .int bd, .int ck, .int ps, .int (nI pa), .int lc, .int (nI (b2n fb)), .long ek, .long ev, .int (nI el), .int (nI fn), .ref y13, .ref y14, .ref y15, .ref y16, .int (nI js), .ref y17, .int (nI (b2n ib))])), (y9, .inl (.int, 17, .inl (fun q => nI (en q)))), (y7, .inl (.boolean, 128, .inl Xt))]) 4 _ 0 0 (hp [(h, .inr (6, [.int th, .int (nI M), .int (nI n), .ref y1, .ref y2, .ref y3, .int (nI u), .ref y4, .ref y5, .ref y6, .ref y7, .int (nI c), .ref y8, .ref y9, .ref y10, .ref y11, .ref y12, .int bd, .int ck, .int ps, .int (nI pa), .int lc, .int (nI (b2n fb)), .long ek, .long ev, .int (nI el), .int (nI fn), .ref y13, .ref y14, .ref y15, .ref y16, .int (nI js), .ref y17, .int (nI (b2n ib))])), (y9, .inl (.int, 17, .inl (fun q => nI (en q)))), (y7, .inl (.boolean, 128, .inl Xt))]) 0 [(0, .ref h), (1, .int (nI 6))] []
  have hn7 : [h, y7].Nodup := (List.Nodup.sublist (by repeat first | exact List.nil_sublist _ | apply List.Sublist.cons₂ | apply List.Sublist.cons) hn)
  refine g_aload_n X d_MD_count_0 0 rfl ?_
  refine g_iconst (nI 0) X d_MD_count_1 (by decide) ?_
  refine h_putf (k := 0) (ty := .int) 0 [(h, .inr (6, [.int (nI 0), .int (nI M), .int (nI n), .ref y1, .ref y2, .ref y3, .int (nI u), .ref y4, .ref y5, .ref y6, .ref y7, .int (nI c), .ref y8, .ref y9, .ref y10, .ref y11, .ref y12, .int bd, .int ck, .int ps, .int (nI pa), .int lc, .int (nI (b2n fb)), .long ek, .long ev, .int (nI el), .int (nI fn), .ref y13, .ref y14, .ref y15, .ref y16, .int (nI js), .ref y17, .int (nI (b2n ib))])), (y9, .inl (.int, 17, .inl (fun q => nI (en q)))), (y7, .inl (.boolean, 128, .inl Xt))] X d_MD_count_2 hn rfl rfl i_MD t_MD t_MD_ok n_MD (by decide) k_fl_MD_70 (fun _ h => h) rfl (by decide +kernel) rfl rfl (Nat.le_of_ble_eq_true rfl) rfl ?_
  refine g_iconst (nI 0) X d_MD_count_5 (by decide) ?_
  refine g_istore_n [(2, .int (nI 0)), (0, .ref h), (1, .int (nI 6))] X d_MD_count_6 (by decide) rfl ?_
  refine g_iconst (nI 0) X d_MD_count_7 (by decide) ?_
  refine g_istore_n [(3, .int (nI 0)), (2, .int (nI 0)), (0, .ref h), (1, .int (nI 6))] X d_MD_count_8 (by decide) rfl ?_
  have L9 : ∀ (fu9 : Nat) (t : Nat), (t ≤ c) → c - t < fu9 → fh_G mp l me (fh_rm 1 22 0 0) sm mm margs mbel mmet mcod mD fhCl (hp [(h, .inr (6, [.int th, .int (nI M), .int (nI n), .ref y1, .ref y2, .ref y3, .int (nI u), .ref y4, .ref y5, .ref y6, .ref y7, .int (nI c), .ref y8, .ref y9, .ref y10, .ref y11, .ref y12, .int bd, .int ck, .int ps, .int (nI pa), .int lc, .int (nI (b2n fb)), .long ek, .long ev, .int (nI el), .int (nI fn), .ref y13, .ref y14, .ref y15, .ref y16, .int (nI js), .ref y17, .int (nI (b2n ib))])), (y9, .inl (.int, 17, .inl (fun q => nI (en q)))), (y7, .inl (.boolean, 128, .inl Xt))]) 4 (fh_MQ mbel mD fhCl (hp [(h, .inr (6, [.int th, .int (nI M), .int (nI n), .ref y1, .ref y2, .ref y3, .int (nI u), .ref y4, .ref y5, .ref y6, .ref y7, .int (nI c), .ref y8, .ref y9, .ref y10, .ref y11, .ref y12, .int bd, .int ck, .int ps, .int (nI pa), .int lc, .int (nI (b2n fb)), .long ek, .long ev, .int (nI el), .int (nI fn), .ref y13, .ref y14, .ref y15, .ref y16, .int (nI js), .ref y17, .int (nI (b2n ib))])), (y9, .inl (.int, 17, .inl (fun q => nI (en q)))), (y7, .inl (.boolean, 128, .inl Xt))]) (fh_ret (some (.int (ps))) [(h, .inr (6, [.int (nI 0), .int (nI M), .int (nI n), .ref y1, .ref y2, .ref y3, .int (nI u), .ref y4, .ref y5, .ref y6, .ref y7, .int (nI c), .ref y8, .ref y9, .ref y10, .ref y11, .ref y12, .int bd, .int ck, .int ps, .int (nI pa), .int lc, .int (nI (b2n fb)), .long ek, .long ev, .int (nI el), .int (nI fn), .ref y13, .ref y14, .ref y15, .ref y16, .int (nI js), .ref y17, .int (nI (b2n ib))])), (y9, .inl (.int, 17, .inl (fun q => nI (en q)))), (y7, .inl (.boolean, 128, .inl Xt))]) margs sm 0 0) 0 0 (hp [(h, .inr (6, [.int (nI 0), .int (nI M), .int (nI n), .ref y1, .ref y2, .ref y3, .int (nI u), .ref y4, .ref y5, .ref y6, .ref y7, .int (nI c), .ref y8, .ref y9, .ref y10, .ref y11, .ref y12, .int bd, .int ck, .int ps, .int (nI pa), .int lc, .int (nI (b2n fb)), .long ek, .long ev, .int (nI el), .int (nI fn), .ref y13, .ref y14, .ref y15, .ref y16, .int (nI js), .ref y17, .int (nI (b2n ib))])), (y9, .inl (.int, 17, .inl (fun q => nI (en q)))), (y7, .inl (.boolean, 128, .inl Xt))]) 9 [(3, .int (nI t)), (2, .int (nI (sEn tb t))), (0, .ref h), (1, .int (nI 6))] [] := by
    intro fu9
    induction fu9 with
    | zero => intro t q1 hm9; exact absurd hm9 (Nat.not_lt_zero _)
    | succ fu9 ih9 =>
      intro t q1 hm9
      have hs9 := sEn_le hE t (by omega)
      refine g_iload_n X d_MD_count_9 0 rfl ?_
      refine g_aload_n X d_MD_count_10 2 rfl ?_
      refine g_getf (k := 11) X d_MD_count_11 (hl_w 0 rfl hn) rfl i_MD (by decide) k_fl_MD_136 (fun _ h => h) rfl ?_
      refine g_icmp_ge 32 X d_MD_count_14 (by decide) (fun h14 => ?_) (fun h14 => ?_)
      · have h14 := cv_le (by omega) (by omega) h14
        have e8 : t = c := by omega
        refine g_iload_n X d_MD_count_32 3 rfl ?_
        refine g_tableIn (off := 77) 110 X d_MD_count_33 (by decide) (by decide) (by decide) (by decide) ?_
        refine g_aload_n X d_MD_count_110 2 rfl ?_
        refine g_getf (k := 19) X d_MD_count_111 (hl_w 0 rfl hn) rfl i_MD (by decide) k_fl_MD_222 (fun _ h => h) rfl ?_
        exact g_iret X hr d_MD_count_114 (Nat.le_of_ble_eq_true rfl) (Nat.le_of_ble_eq_true rfl) (⟨rfl, rfl⟩)
      · have h14 := cv_nle (by omega) (by omega) h14
        refine g_iload_n X d_MD_count_17 1 rfl ?_
        refine g_aload_n X d_MD_count_18 2 rfl ?_
        refine g_getf (k := 13) X d_MD_count_19 (hl_w 0 rfl hn) rfl i_MD (by decide) k_fl_MD_36 (fun _ h => h) rfl ?_
        refine g_iload_n X d_MD_count_22 0 rfl ?_
        refine h_iald X d_MD_count_23 (hl_w 1 rfl hn) (by omega) (by omega) ?_
        refine g_iadd X d_MD_count_24 ?_
        refine g_vi (nI (sEn tb t + en t)) (nI_add _ _) ?_
        refine g_istore_n [(2, .int (nI (sEn tb t + en t))), (3, .int (nI t)), (0, .ref h), (1, .int (nI 6))] X d_MD_count_25 (by decide) rfl ?_
        refine g_iinc (nI (t + 1)) 1 [(3, .int (nI (t + 1))), (2, .int (nI (sEn tb t + en t))), (0, .ref h), (1, .int (nI 6))] X d_MD_count_26 rfl (nI_1 _) (by decide) rfl ?_
        refine g_goto 9 X d_MD_count_29 (by decide) ?_
        refine g_lve (lv' := [(3, .int (nI (t + 1))), (2, .int (nI (sEn tb (t + 1)))), (0, .ref h), (1, .int (nI 6))]) (by rw [sEn, hA t (by omega)]) ?_
        exact ih9 (t + 1) (by omega) (by omega)
  exact L9 _ 0 (Nat.zero_le _) (Nat.lt_succ_self _)

set_option maxRecDepth 100000 in
set_option maxHeartbeats 1000000 in
theorem c_MD_count_7 {l : Launch} (hst : l.stackTraces = false) {h y1 y2 y3 y4 y5 y6 y7 y8 y9 y10 y11 y12 y13 y14 y15 y16 y17 M n u c pa el fn js : Nat} {th bd ck ps lc : Int32} {fb ib : Bool} {ek ev : Int64} {en : Nat → Nat} {Xt : Nat → Int32} (hn : [h, y9, y7].Nodup) (hc16 : c ≤ 16) {tb : Nat → TBr} (hA : ∀ t, t < c → en t = (tb t).en) (hE : ∀ t, t < c → (tb t).en ≤ 455) {T : Nat → Int32} (hX : rX Xt T M) (hM : M ≤ 128) : fh_C l fhCl fhT y_MD_count (.code y_MD_count b_MD_count 4 (some .int)) 1 22 [.ref h, .int (nI 7)] (hp [(h, .inr (6, [.int th, .int (nI M), .int (nI n), .ref y1, .ref y2, .ref y3, .int (nI u), .ref y4, .ref y5, .ref y6, .ref y7, .int (nI c), .ref y8, .ref y9, .ref y10, .ref y11, .ref y12, .int bd, .int ck, .int ps, .int (nI pa), .int lc, .int (nI (b2n fb)), .long ek, .long ev, .int (nI el), .int (nI fn), .ref y13, .ref y14, .ref y15, .ref y16, .int (nI js), .ref y17, .int (nI (b2n ib))])), (y9, .inl (.int, 17, .inl (fun q => nI (en q)))), (y7, .inl (.boolean, 128, .inl Xt))]) (hp []) 0 0 (fh_ret (some (.int (nI (sEn tb c)))) [(h, .inr (6, [.int (nI 0), .int (nI M), .int (nI n), .ref y1, .ref y2, .ref y3, .int (nI u), .ref y4, .ref y5, .ref y6, .ref y7, .int (nI c), .ref y8, .ref y9, .ref y10, .ref y11, .ref y12, .int bd, .int ck, .int ps, .int (nI pa), .int lc, .int (nI (b2n fb)), .long ek, .long ev, .int (nI el), .int (nI fn), .ref y13, .ref y14, .ref y15, .ref y16, .int (nI js), .ref y17, .int (nI (b2n ib))])), (y9, .inl (.int, 17, .inl (fun q => nI (en q)))), (y7, .inl (.boolean, 128, .inl Xt))]) := by
  refine fh_enter (by decide) hst (Nat.le_of_ble_eq_true rfl) ?_
  intro mD mp me sm mm margs mbel mmet mcod X hr hnm hno hf0
  show fh_G mp l me (fh_rm 1 22 0 0) sm mm margs mbel mmet mcod mD fhCl (hp [(h, .inr (6, [.int th, .int (nI M), .int (nI n), .ref y1, .ref y2, .ref y3, .int (nI u), .ref y4, .ref y5, .ref y6, .ref y7, .int (nI c), .ref y8, .ref y9, .ref y10, .ref y11, .ref y12, .int bd, .int ck, .int ps, .int (nI pa), .int lc, .int (nI (b2n fb)), .long ek, .long ev, .int (nI el), .int (nI fn), .ref y13, .ref y14, .ref y15, .ref y16, .int (nI js), .ref y17, .int (nI (b2n ib))])), (y9, .inl (.int, 17, .inl (fun q => nI (en q)))), (y7, .inl (.boolean, 128, .inl Xt))]) 4 _ 0 0 (hp [(h, .inr (6, [.int th, .int (nI M), .int (nI n), .ref y1, .ref y2, .ref y3, .int (nI u), .ref y4, .ref y5, .ref y6, .ref y7, .int (nI c), .ref y8, .ref y9, .ref y10, .ref y11, .ref y12, .int bd, .int ck, .int ps, .int (nI pa), .int lc, .int (nI (b2n fb)), .long ek, .long ev, .int (nI el), .int (nI fn), .ref y13, .ref y14, .ref y15, .ref y16, .int (nI js), .ref y17, .int (nI (b2n ib))])), (y9, .inl (.int, 17, .inl (fun q => nI (en q)))), (y7, .inl (.boolean, 128, .inl Xt))]) 0 [(0, .ref h), (1, .int (nI 7))] []
  have hn7 : [h, y7].Nodup := (List.Nodup.sublist (by repeat first | exact List.nil_sublist _ | apply List.Sublist.cons₂ | apply List.Sublist.cons) hn)
  refine g_aload_n X d_MD_count_0 0 rfl ?_
  refine g_iconst (nI 0) X d_MD_count_1 (by decide) ?_
  refine h_putf (k := 0) (ty := .int) 0 [(h, .inr (6, [.int (nI 0), .int (nI M), .int (nI n), .ref y1, .ref y2, .ref y3, .int (nI u), .ref y4, .ref y5, .ref y6, .ref y7, .int (nI c), .ref y8, .ref y9, .ref y10, .ref y11, .ref y12, .int bd, .int ck, .int ps, .int (nI pa), .int lc, .int (nI (b2n fb)), .long ek, .long ev, .int (nI el), .int (nI fn), .ref y13, .ref y14, .ref y15, .ref y16, .int (nI js), .ref y17, .int (nI (b2n ib))])), (y9, .inl (.int, 17, .inl (fun q => nI (en q)))), (y7, .inl (.boolean, 128, .inl Xt))] X d_MD_count_2 hn rfl rfl i_MD t_MD t_MD_ok n_MD (by decide) k_fl_MD_70 (fun _ h => h) rfl (by decide +kernel) rfl rfl (Nat.le_of_ble_eq_true rfl) rfl ?_
  refine g_iconst (nI 0) X d_MD_count_5 (by decide) ?_
  refine g_istore_n [(2, .int (nI 0)), (0, .ref h), (1, .int (nI 7))] X d_MD_count_6 (by decide) rfl ?_
  refine g_iconst (nI 0) X d_MD_count_7 (by decide) ?_
  refine g_istore_n [(3, .int (nI 0)), (2, .int (nI 0)), (0, .ref h), (1, .int (nI 7))] X d_MD_count_8 (by decide) rfl ?_
  have L9 : ∀ (fu9 : Nat) (t : Nat), (t ≤ c) → c - t < fu9 → fh_G mp l me (fh_rm 1 22 0 0) sm mm margs mbel mmet mcod mD fhCl (hp [(h, .inr (6, [.int th, .int (nI M), .int (nI n), .ref y1, .ref y2, .ref y3, .int (nI u), .ref y4, .ref y5, .ref y6, .ref y7, .int (nI c), .ref y8, .ref y9, .ref y10, .ref y11, .ref y12, .int bd, .int ck, .int ps, .int (nI pa), .int lc, .int (nI (b2n fb)), .long ek, .long ev, .int (nI el), .int (nI fn), .ref y13, .ref y14, .ref y15, .ref y16, .int (nI js), .ref y17, .int (nI (b2n ib))])), (y9, .inl (.int, 17, .inl (fun q => nI (en q)))), (y7, .inl (.boolean, 128, .inl Xt))]) 4 (fh_MQ mbel mD fhCl (hp [(h, .inr (6, [.int th, .int (nI M), .int (nI n), .ref y1, .ref y2, .ref y3, .int (nI u), .ref y4, .ref y5, .ref y6, .ref y7, .int (nI c), .ref y8, .ref y9, .ref y10, .ref y11, .ref y12, .int bd, .int ck, .int ps, .int (nI pa), .int lc, .int (nI (b2n fb)), .long ek, .long ev, .int (nI el), .int (nI fn), .ref y13, .ref y14, .ref y15, .ref y16, .int (nI js), .ref y17, .int (nI (b2n ib))])), (y9, .inl (.int, 17, .inl (fun q => nI (en q)))), (y7, .inl (.boolean, 128, .inl Xt))]) (fh_ret (some (.int (nI (sEn tb c)))) [(h, .inr (6, [.int (nI 0), .int (nI M), .int (nI n), .ref y1, .ref y2, .ref y3, .int (nI u), .ref y4, .ref y5, .ref y6, .ref y7, .int (nI c), .ref y8, .ref y9, .ref y10, .ref y11, .ref y12, .int bd, .int ck, .int ps, .int (nI pa), .int lc, .int (nI (b2n fb)), .long ek, .long ev, .int (nI el), .int (nI fn), .ref y13, .ref y14, .ref y15, .ref y16, .int (nI js), .ref y17, .int (nI (b2n ib))])), (y9, .inl (.int, 17, .inl (fun q => nI (en q)))), (y7, .inl (.boolean, 128, .inl Xt))]) margs sm 0 0) 0 0 (hp [(h, .inr (6, [.int (nI 0), .int (nI M), .int (nI n), .ref y1, .ref y2, .ref y3, .int (nI u), .ref y4, .ref y5, .ref y6, .ref y7, .int (nI c), .ref y8, .ref y9, .ref y10, .ref y11, .ref y12, .int bd, .int ck, .int ps, .int (nI pa), .int lc, .int (nI (b2n fb)), .long ek, .long ev, .int (nI el), .int (nI fn), .ref y13, .ref y14, .ref y15, .ref y16, .int (nI js), .ref y17, .int (nI (b2n ib))])), (y9, .inl (.int, 17, .inl (fun q => nI (en q)))), (y7, .inl (.boolean, 128, .inl Xt))]) 9 [(3, .int (nI t)), (2, .int (nI (sEn tb t))), (0, .ref h), (1, .int (nI 7))] [] := by
    intro fu9
    induction fu9 with
    | zero => intro t q1 hm9; exact absurd hm9 (Nat.not_lt_zero _)
    | succ fu9 ih9 =>
      intro t q1 hm9
      have hs9 := sEn_le hE t (by omega)
      refine g_iload_n X d_MD_count_9 0 rfl ?_
      refine g_aload_n X d_MD_count_10 2 rfl ?_
      refine g_getf (k := 11) X d_MD_count_11 (hl_w 0 rfl hn) rfl i_MD (by decide) k_fl_MD_136 (fun _ h => h) rfl ?_
      refine g_icmp_ge 32 X d_MD_count_14 (by decide) (fun h14 => ?_) (fun h14 => ?_)
      · have h14 := cv_le (by omega) (by omega) h14
        have e8 : t = c := by omega
        refine g_iload_n X d_MD_count_32 3 rfl ?_
        refine g_tableIn (off := 82) 115 X d_MD_count_33 (by decide) (by decide) (by decide) (by decide) ?_
        refine g_iload_n X d_MD_count_115 1 rfl ?_
        exact g_iret X hr d_MD_count_116 (Nat.le_of_ble_eq_true rfl) (Nat.le_of_ble_eq_true rfl) (⟨by rw [e8], rfl⟩)
      · have h14 := cv_nle (by omega) (by omega) h14
        refine g_iload_n X d_MD_count_17 1 rfl ?_
        refine g_aload_n X d_MD_count_18 2 rfl ?_
        refine g_getf (k := 13) X d_MD_count_19 (hl_w 0 rfl hn) rfl i_MD (by decide) k_fl_MD_36 (fun _ h => h) rfl ?_
        refine g_iload_n X d_MD_count_22 0 rfl ?_
        refine h_iald X d_MD_count_23 (hl_w 1 rfl hn) (by omega) (by omega) ?_
        refine g_iadd X d_MD_count_24 ?_
        refine g_vi (nI (sEn tb t + en t)) (nI_add _ _) ?_
        refine g_istore_n [(2, .int (nI (sEn tb t + en t))), (3, .int (nI t)), (0, .ref h), (1, .int (nI 7))] X d_MD_count_25 (by decide) rfl ?_
        refine g_iinc (nI (t + 1)) 1 [(3, .int (nI (t + 1))), (2, .int (nI (sEn tb t + en t))), (0, .ref h), (1, .int (nI 7))] X d_MD_count_26 rfl (nI_1 _) (by decide) rfl ?_
        refine g_goto 9 X d_MD_count_29 (by decide) ?_
        refine g_lve (lv' := [(3, .int (nI (t + 1))), (2, .int (nI (sEn tb (t + 1)))), (0, .ref h), (1, .int (nI 7))]) (by rw [sEn, hA t (by omega)]) ?_
        exact ih9 (t + 1) (by omega) (by omega)
  exact L9 _ 0 (Nat.zero_le _) (Nat.lt_succ_self _)

set_option maxRecDepth 100000 in
set_option maxHeartbeats 1000000 in
theorem c_MD_count_out {l : Launch} (hst : l.stackTraces = false) {h y1 y2 y3 y4 y5 y6 y7 y8 y9 y10 y11 y12 y13 y14 y15 y16 y17 M n u c pa el fn js : Nat} {th bd ck ps lc : Int32} {fb ib : Bool} {ek ev : Int64} {en : Nat → Nat} {Xt : Nat → Int32} (hn : [h, y9, y7].Nodup) (hc16 : c ≤ 16) {tb : Nat → TBr} (hA : ∀ t, t < c → en t = (tb t).en) (hE : ∀ t, t < c → (tb t).en ≤ 455) {T : Nat → Int32} (hX : rX Xt T M) (hM : M ≤ 128) {v : Int32} (hv : v < 0 ∨ nI 8 ≤ v) : fh_C l fhCl fhT y_MD_count (.code y_MD_count b_MD_count 4 (some .int)) 1 22 [.ref h, .int v] (hp [(h, .inr (6, [.int th, .int (nI M), .int (nI n), .ref y1, .ref y2, .ref y3, .int (nI u), .ref y4, .ref y5, .ref y6, .ref y7, .int (nI c), .ref y8, .ref y9, .ref y10, .ref y11, .ref y12, .int bd, .int ck, .int ps, .int (nI pa), .int lc, .int (nI (b2n fb)), .long ek, .long ev, .int (nI el), .int (nI fn), .ref y13, .ref y14, .ref y15, .ref y16, .int (nI js), .ref y17, .int (nI (b2n ib))])), (y9, .inl (.int, 17, .inl (fun q => nI (en q)))), (y7, .inl (.boolean, 128, .inl Xt))]) (hp []) 0 0 (fh_ret (some (.int ((-1)))) [(h, .inr (6, [.int (nI 0), .int (nI M), .int (nI n), .ref y1, .ref y2, .ref y3, .int (nI u), .ref y4, .ref y5, .ref y6, .ref y7, .int (nI c), .ref y8, .ref y9, .ref y10, .ref y11, .ref y12, .int bd, .int ck, .int ps, .int (nI pa), .int lc, .int (nI (b2n fb)), .long ek, .long ev, .int (nI el), .int (nI fn), .ref y13, .ref y14, .ref y15, .ref y16, .int (nI js), .ref y17, .int (nI (b2n ib))])), (y9, .inl (.int, 17, .inl (fun q => nI (en q)))), (y7, .inl (.boolean, 128, .inl Xt))]) := by
  refine fh_enter (by decide) hst (Nat.le_of_ble_eq_true rfl) ?_
  intro mD mp me sm mm margs mbel mmet mcod X hr hnm hno hf0
  show fh_G mp l me (fh_rm 1 22 0 0) sm mm margs mbel mmet mcod mD fhCl (hp [(h, .inr (6, [.int th, .int (nI M), .int (nI n), .ref y1, .ref y2, .ref y3, .int (nI u), .ref y4, .ref y5, .ref y6, .ref y7, .int (nI c), .ref y8, .ref y9, .ref y10, .ref y11, .ref y12, .int bd, .int ck, .int ps, .int (nI pa), .int lc, .int (nI (b2n fb)), .long ek, .long ev, .int (nI el), .int (nI fn), .ref y13, .ref y14, .ref y15, .ref y16, .int (nI js), .ref y17, .int (nI (b2n ib))])), (y9, .inl (.int, 17, .inl (fun q => nI (en q)))), (y7, .inl (.boolean, 128, .inl Xt))]) 4 _ 0 0 (hp [(h, .inr (6, [.int th, .int (nI M), .int (nI n), .ref y1, .ref y2, .ref y3, .int (nI u), .ref y4, .ref y5, .ref y6, .ref y7, .int (nI c), .ref y8, .ref y9, .ref y10, .ref y11, .ref y12, .int bd, .int ck, .int ps, .int (nI pa), .int lc, .int (nI (b2n fb)), .long ek, .long ev, .int (nI el), .int (nI fn), .ref y13, .ref y14, .ref y15, .ref y16, .int (nI js), .ref y17, .int (nI (b2n ib))])), (y9, .inl (.int, 17, .inl (fun q => nI (en q)))), (y7, .inl (.boolean, 128, .inl Xt))]) 0 [(0, .ref h), (1, .int v)] []
  have hn7 : [h, y7].Nodup := (List.Nodup.sublist (by repeat first | exact List.nil_sublist _ | apply List.Sublist.cons₂ | apply List.Sublist.cons) hn)
  refine g_aload_n X d_MD_count_0 0 rfl ?_
  refine g_iconst (nI 0) X d_MD_count_1 (by decide) ?_
  refine h_putf (k := 0) (ty := .int) 0 [(h, .inr (6, [.int (nI 0), .int (nI M), .int (nI n), .ref y1, .ref y2, .ref y3, .int (nI u), .ref y4, .ref y5, .ref y6, .ref y7, .int (nI c), .ref y8, .ref y9, .ref y10, .ref y11, .ref y12, .int bd, .int ck, .int ps, .int (nI pa), .int lc, .int (nI (b2n fb)), .long ek, .long ev, .int (nI el), .int (nI fn), .ref y13, .ref y14, .ref y15, .ref y16, .int (nI js), .ref y17, .int (nI (b2n ib))])), (y9, .inl (.int, 17, .inl (fun q => nI (en q)))), (y7, .inl (.boolean, 128, .inl Xt))] X d_MD_count_2 hn rfl rfl i_MD t_MD t_MD_ok n_MD (by decide) k_fl_MD_70 (fun _ h => h) rfl (by decide +kernel) rfl rfl (Nat.le_of_ble_eq_true rfl) rfl ?_
  refine g_iconst (nI 0) X d_MD_count_5 (by decide) ?_
  refine g_istore_n [(2, .int (nI 0)), (0, .ref h), (1, .int v)] X d_MD_count_6 (by decide) rfl ?_
  refine g_iconst (nI 0) X d_MD_count_7 (by decide) ?_
  refine g_istore_n [(3, .int (nI 0)), (2, .int (nI 0)), (0, .ref h), (1, .int v)] X d_MD_count_8 (by decide) rfl ?_
  have L9 : ∀ (fu9 : Nat) (t : Nat), (t ≤ c) → c - t < fu9 → fh_G mp l me (fh_rm 1 22 0 0) sm mm margs mbel mmet mcod mD fhCl (hp [(h, .inr (6, [.int th, .int (nI M), .int (nI n), .ref y1, .ref y2, .ref y3, .int (nI u), .ref y4, .ref y5, .ref y6, .ref y7, .int (nI c), .ref y8, .ref y9, .ref y10, .ref y11, .ref y12, .int bd, .int ck, .int ps, .int (nI pa), .int lc, .int (nI (b2n fb)), .long ek, .long ev, .int (nI el), .int (nI fn), .ref y13, .ref y14, .ref y15, .ref y16, .int (nI js), .ref y17, .int (nI (b2n ib))])), (y9, .inl (.int, 17, .inl (fun q => nI (en q)))), (y7, .inl (.boolean, 128, .inl Xt))]) 4 (fh_MQ mbel mD fhCl (hp [(h, .inr (6, [.int th, .int (nI M), .int (nI n), .ref y1, .ref y2, .ref y3, .int (nI u), .ref y4, .ref y5, .ref y6, .ref y7, .int (nI c), .ref y8, .ref y9, .ref y10, .ref y11, .ref y12, .int bd, .int ck, .int ps, .int (nI pa), .int lc, .int (nI (b2n fb)), .long ek, .long ev, .int (nI el), .int (nI fn), .ref y13, .ref y14, .ref y15, .ref y16, .int (nI js), .ref y17, .int (nI (b2n ib))])), (y9, .inl (.int, 17, .inl (fun q => nI (en q)))), (y7, .inl (.boolean, 128, .inl Xt))]) (fh_ret (some (.int ((-1)))) [(h, .inr (6, [.int (nI 0), .int (nI M), .int (nI n), .ref y1, .ref y2, .ref y3, .int (nI u), .ref y4, .ref y5, .ref y6, .ref y7, .int (nI c), .ref y8, .ref y9, .ref y10, .ref y11, .ref y12, .int bd, .int ck, .int ps, .int (nI pa), .int lc, .int (nI (b2n fb)), .long ek, .long ev, .int (nI el), .int (nI fn), .ref y13, .ref y14, .ref y15, .ref y16, .int (nI js), .ref y17, .int (nI (b2n ib))])), (y9, .inl (.int, 17, .inl (fun q => nI (en q)))), (y7, .inl (.boolean, 128, .inl Xt))]) margs sm 0 0) 0 0 (hp [(h, .inr (6, [.int (nI 0), .int (nI M), .int (nI n), .ref y1, .ref y2, .ref y3, .int (nI u), .ref y4, .ref y5, .ref y6, .ref y7, .int (nI c), .ref y8, .ref y9, .ref y10, .ref y11, .ref y12, .int bd, .int ck, .int ps, .int (nI pa), .int lc, .int (nI (b2n fb)), .long ek, .long ev, .int (nI el), .int (nI fn), .ref y13, .ref y14, .ref y15, .ref y16, .int (nI js), .ref y17, .int (nI (b2n ib))])), (y9, .inl (.int, 17, .inl (fun q => nI (en q)))), (y7, .inl (.boolean, 128, .inl Xt))]) 9 [(3, .int (nI t)), (2, .int (nI (sEn tb t))), (0, .ref h), (1, .int v)] [] := by
    intro fu9
    induction fu9 with
    | zero => intro t q1 hm9; exact absurd hm9 (Nat.not_lt_zero _)
    | succ fu9 ih9 =>
      intro t q1 hm9
      have hs9 := sEn_le hE t (by omega)
      refine g_iload_n X d_MD_count_9 0 rfl ?_
      refine g_aload_n X d_MD_count_10 2 rfl ?_
      refine g_getf (k := 11) X d_MD_count_11 (hl_w 0 rfl hn) rfl i_MD (by decide) k_fl_MD_136 (fun _ h => h) rfl ?_
      refine g_icmp_ge 32 X d_MD_count_14 (by decide) (fun h14 => ?_) (fun h14 => ?_)
      · have h14 := cv_le (by omega) (by omega) h14
        have e8 : t = c := by omega
        refine g_iload_n X d_MD_count_32 3 rfl ?_
        refine g_tableOut 117 X d_MD_count_33 ((i32_out hv)) (by decide) ?_
        refine g_iconst (-1) X d_MD_count_117 (by decide) ?_
        exact g_iret X hr d_MD_count_118 (Nat.le_of_ble_eq_true rfl) (Nat.le_of_ble_eq_true rfl) (⟨rfl, rfl⟩)
      · have h14 := cv_nle (by omega) (by omega) h14
        refine g_iload_n X d_MD_count_17 1 rfl ?_
        refine g_aload_n X d_MD_count_18 2 rfl ?_
        refine g_getf (k := 13) X d_MD_count_19 (hl_w 0 rfl hn) rfl i_MD (by decide) k_fl_MD_36 (fun _ h => h) rfl ?_
        refine g_iload_n X d_MD_count_22 0 rfl ?_
        refine h_iald X d_MD_count_23 (hl_w 1 rfl hn) (by omega) (by omega) ?_
        refine g_iadd X d_MD_count_24 ?_
        refine g_vi (nI (sEn tb t + en t)) (nI_add _ _) ?_
        refine g_istore_n [(2, .int (nI (sEn tb t + en t))), (3, .int (nI t)), (0, .ref h), (1, .int v)] X d_MD_count_25 (by decide) rfl ?_
        refine g_iinc (nI (t + 1)) 1 [(3, .int (nI (t + 1))), (2, .int (nI (sEn tb t + en t))), (0, .ref h), (1, .int v)] X d_MD_count_26 rfl (nI_1 _) (by decide) rfl ?_
        refine g_goto 9 X d_MD_count_29 (by decide) ?_
        refine g_lve (lv' := [(3, .int (nI (t + 1))), (2, .int (nI (sEn tb (t + 1)))), (0, .ref h), (1, .int v)]) (by rw [sEn, hA t (by omega)]) ?_
        exact ih9 (t + 1) (by omega) (by omega)
  exact L9 _ 0 (Nat.zero_le _) (Nat.lt_succ_self _)

set_option maxRecDepth 100000 in
set_option maxHeartbeats 1000000 in
theorem c_MD_wholeAt {l : Launch} (hst : l.stackTraces = false) {h y1 y2 y3 y4 y5 y6 y7 y8 y9 y10 y11 y12 y13 y14 y15 y16 y17 M n u c pa el fn js : Nat} {th bd ck ps lc : Int32} {fb ib : Bool} {ek ev : Int64} {L : Nat → Nat} (hn : [h, y4].Nodup) {p u9 : Nat} (hu9 : u9 ≤ 1024) (hpu : p ≤ u9) (hL : ∀ q, L q < 256) : fh_C l fhCl fhT y_MD_wholeAt (.code y_MD_wholeAt b_MD_wholeAt 5 (some .int)) 1 24 [.ref h, .int (nI p), .int (nI u9)] (hp [(h, .inr (6, [.int th, .int (nI M), .int (nI n), .ref y1, .ref y2, .ref y3, .int (nI u), .ref y4, .ref y5, .ref y6, .ref y7, .int (nI c), .ref y8, .ref y9, .ref y10, .ref y11, .ref y12, .int bd, .int ck, .int ps, .int (nI pa), .int lc, .int (nI (b2n fb)), .long ek, .long ev, .int (nI el), .int (nI fn), .ref y13, .ref y14, .ref y15, .ref y16, .int (nI js), .ref y17, .int (nI (b2n ib))])), (y4, .inl (.int, 1024, .inl (fun q => nI (L q))))]) (hp []) 0 0 (fh_ret (some (.int (nI (whl L p u9)))) [(h, .inr (6, [.int th, .int (nI M), .int (nI n), .ref y1, .ref y2, .ref y3, .int (nI u), .ref y4, .ref y5, .ref y6, .ref y7, .int (nI c), .ref y8, .ref y9, .ref y10, .ref y11, .ref y12, .int bd, .int ck, .int ps, .int (nI pa), .int lc, .int (nI (b2n fb)), .long ek, .long ev, .int (nI el), .int (nI fn), .ref y13, .ref y14, .ref y15, .ref y16, .int (nI js), .ref y17, .int (nI (b2n ib))])), (y4, .inl (.int, 1024, .inl (fun q => nI (L q))))]) := by
  refine fh_enter (by decide) hst (Nat.le_of_ble_eq_true rfl) ?_
  intro mD mp me sm mm margs mbel mmet mcod X hr hnm hno hf0
  show fh_G mp l me (fh_rm 1 24 0 0) sm mm margs mbel mmet mcod mD fhCl (hp [(h, .inr (6, [.int th, .int (nI M), .int (nI n), .ref y1, .ref y2, .ref y3, .int (nI u), .ref y4, .ref y5, .ref y6, .ref y7, .int (nI c), .ref y8, .ref y9, .ref y10, .ref y11, .ref y12, .int bd, .int ck, .int ps, .int (nI pa), .int lc, .int (nI (b2n fb)), .long ek, .long ev, .int (nI el), .int (nI fn), .ref y13, .ref y14, .ref y15, .ref y16, .int (nI js), .ref y17, .int (nI (b2n ib))])), (y4, .inl (.int, 1024, .inl (fun q => nI (L q))))]) 5 _ 0 0 (hp [(h, .inr (6, [.int th, .int (nI M), .int (nI n), .ref y1, .ref y2, .ref y3, .int (nI u), .ref y4, .ref y5, .ref y6, .ref y7, .int (nI c), .ref y8, .ref y9, .ref y10, .ref y11, .ref y12, .int bd, .int ck, .int ps, .int (nI pa), .int lc, .int (nI (b2n fb)), .long ek, .long ev, .int (nI el), .int (nI fn), .ref y13, .ref y14, .ref y15, .ref y16, .int (nI js), .ref y17, .int (nI (b2n ib))])), (y4, .inl (.int, 1024, .inl (fun q => nI (L q))))]) 0 [(0, .ref h), (1, .int (nI p)), (2, .int (nI u9))] []
  have hb9 := ebn_bOf (L (p + 8))
  have hb8 := bOf_m (L (p + 8))
  have hb7 := hL (p + 8)
  have hbq := hL (p + 9 + bOf (L (p + 8)))
  refine g_iload_n X d_MD_wholeAt_0 1 rfl ?_
  refine g_bipush (nI 10) X d_MD_wholeAt_1 (by decide) ?_
  refine g_iadd X d_MD_wholeAt_3 ?_
  refine g_vi (nI (p + 10)) (nI_add _ _) ?_
  refine g_iload_n X d_MD_wholeAt_4 2 rfl ?_
  refine g_icmp_le 10 X d_MD_wholeAt_5 (by decide) (fun h5 => ?_) (fun h5 => ?_)
  · have h5 := cv_le (by omega) (by omega) h5
    refine g_aload_n X d_MD_wholeAt_10 0 rfl ?_
    refine g_getf (k := 7) X d_MD_wholeAt_11 (hl_w 0 rfl hn) rfl i_MD (by decide) k_fl_MD_20 (fun _ h => h) rfl ?_
    refine g_iload_n X d_MD_wholeAt_14 1 rfl ?_
    refine g_bipush (nI 8) X d_MD_wholeAt_15 (by decide) ?_
    refine g_iadd X d_MD_wholeAt_17 ?_
    refine g_vi (nI (p + 8)) (nI_add _ _) ?_
    refine h_iald X d_MD_wholeAt_18 (hl_w 1 rfl hn) (by omega) (by omega) ?_
    refine g_istore_n [(3, .int (nI (L (p + 8)))), (0, .ref h), (1, .int (nI p)), (2, .int (nI u9))] X d_MD_wholeAt_19 (by decide) rfl ?_
    refine g_iload_n X d_MD_wholeAt_20 0 rfl ?_
    refine g_bipush (nI 8) X d_MD_wholeAt_21 (by decide) ?_
    refine g_icmp_le 35 X d_MD_wholeAt_23 (by decide) (fun h23 => ?_) (fun h23 => ?_)
    · have h23 := cv_le (by omega) (by omega) h23
      have hk9 : okn (L (p + 8)) := Or.inl h23
      refine g_iload_n X d_MD_wholeAt_35 2 rfl ?_
      refine g_bipush (nI 9) X d_MD_wholeAt_36 (by decide) ?_
      refine g_iadd X d_MD_wholeAt_38 ?_
      refine g_vi (nI (p + 9)) (nI_add _ _) ?_
      refine g_iload_n X d_MD_wholeAt_39 0 rfl ?_
      refine h_callS (As := [.int (nI (L (p + 8)))]) (st := [.int (nI (p + 9))]) [] [(h, .inr (6, [.int th, .int (nI M), .int (nI n), .ref y1, .ref y2, .ref y3, .int (nI u), .ref y4, .ref y5, .ref y6, .ref y7, .int (nI c), .ref y8, .ref y9, .ref y10, .ref y11, .ref y12, .int bd, .int ck, .int ps, .int (nI pa), .int lc, .int (nI (b2n fb)), .long ek, .long ev, .int (nI el), .int (nI fn), .ref y13, .ref y14, .ref y15, .ref y16, .int (nI js), .ref y17, .int (nI (b2n ib))])), (y4, .inl (.int, 1024, .inl (fun q => nI (L q))))] X d_MD_wholeAt_40 (c_MD_bytesOf hst (hL _)) rfl k_ml_MD_87 k_cd_MD_bytesOf k_in_MD k_st_MD_bytesOf ⟨by decide +kernel, by decide +kernel, (by decide +kernel : (parseMethodDescriptor y_MD_bytesOf.desc).map (fun d => d.parameters.length) = some 1)⟩ ⟨Nat.le_of_ble_eq_true rfl, Nat.le_of_ble_eq_true rfl⟩ ⟨Nat.le_of_ble_eq_true rfl, Nat.le_of_ble_eq_true rfl⟩ (Nat.le_of_ble_eq_true rfl) hn rfl rfl rfl hp_no hp_no2 ?_
      refine g_iadd X d_MD_wholeAt_43 ?_
      refine g_vi (nI (p + 9 + bOf (L (p + 8)))) (nI_add _ _) ?_
      refine g_istore [(4, .int (nI (p + 9 + bOf (L (p + 8))))), (3, .int (nI (L (p + 8)))), (0, .ref h), (1, .int (nI p)), (2, .int (nI u9))] X d_MD_wholeAt_44 (by decide) rfl ?_
      refine g_iload X d_MD_wholeAt_46 0 rfl ?_
      refine g_iload_n X d_MD_wholeAt_48 4 rfl ?_
      refine g_icmp_ge 69 X d_MD_wholeAt_49 (by decide) (fun h49 => ?_) (fun h49 => ?_)
      · have h49 := cv_le (by omega) (by omega) h49
        have hw9 := whl_f (B := L) (p := p) (u := u9) (fun z => by have h1 := z.2.1; omega)
        refine g_iconst (nI 0) X d_MD_wholeAt_69 (by decide) ?_
        refine g_goto 79 X d_MD_wholeAt_70 (by decide) ?_
        exact g_iret X hr d_MD_wholeAt_79 (Nat.le_of_ble_eq_true rfl) (Nat.le_of_ble_eq_true rfl) (⟨by rw [hw9], rfl⟩)
      · have h49 := cv_nle (by omega) (by omega) h49
        refine g_aload_n X d_MD_wholeAt_52 2 rfl ?_
        refine g_iload_n X d_MD_wholeAt_53 3 rfl ?_
        refine g_iload X d_MD_wholeAt_54 0 rfl ?_
        refine h_callV (As := [.int (nI p), .int (nI (p + 9 + bOf (L (p + 8))))]) (st := []) [0, 1] [(h, .inr (6, [.int th, .int (nI M), .int (nI n), .ref y1, .ref y2, .ref y3, .int (nI u), .ref y4, .ref y5, .ref y6, .ref y7, .int (nI c), .ref y8, .ref y9, .ref y10, .ref y11, .ref y12, .int bd, .int ck, .int ps, .int (nI pa), .int lc, .int (nI (b2n fb)), .long ek, .long ev, .int (nI el), .int (nI fn), .ref y13, .ref y14, .ref y15, .ref y16, .int (nI js), .ref y17, .int (nI (b2n ib))])), (y4, .inl (.int, 1024, .inl (fun q => nI (L q))))] X d_MD_wholeAt_56 (c_MD_logSum hst hn (by omega) (by omega) hL) (hl_w 0 rfl hn) rfl rfl k_ml_MD_101 k_cd_MD_logSum k_in_MD k_im_MD_logSum k_se_MD_logSum ⟨by decide +kernel, by decide +kernel, (by decide +kernel : (parseMethodDescriptor y_MD_logSum.desc).map (fun d => d.parameters.length) = some 2)⟩ ⟨Nat.le_of_ble_eq_true rfl, Nat.le_of_ble_eq_true rfl⟩ ⟨Nat.le_of_ble_eq_true rfl, Nat.le_of_ble_eq_true rfl⟩ (Nat.le_of_ble_eq_true rfl) hn rfl rfl rfl hp_no hp_no2 ?_
        refine g_vi (nI (smf (fun i => L (p + i)) (ebn (L (p + 8))) % 256)) (by rw [show p + 9 + bOf (L (p + 8)) - p = ebn (L (p + 8)) by omega]) ?_
        refine g_aload_n X d_MD_wholeAt_59 2 rfl ?_
        refine g_getf (k := 7) X d_MD_wholeAt_60 (hl_w 0 rfl hn) rfl i_MD (by decide) k_fl_MD_20 (fun _ h => h) rfl ?_
        refine g_iload X d_MD_wholeAt_63 0 rfl ?_
        refine h_iald X d_MD_wholeAt_65 (hl_w 1 rfl hn) (by omega) (by omega) ?_
        refine g_icmp_eq 73 X d_MD_wholeAt_66 (by decide) (fun h66 => ?_) (fun h66 => ?_)
        · have h66 := cv_eq (by omega) (by omega) h66
          have hw9 := whl_t (B := L) (p := p) (u := u9) ⟨⟨by omega, hk9, by show p + ebn (L (p + 8)) ≤ u9; omega⟩, by omega, by rw [show p + ebn (L (p + 8)) = p + 9 + bOf (L (p + 8)) by omega]; exact h66.symm⟩
          refine g_iload X d_MD_wholeAt_73 0 rfl ?_
          refine g_iconst (nI 1) X d_MD_wholeAt_75 (by decide) ?_
          refine g_iadd X d_MD_wholeAt_76 ?_
          refine g_vi (nI (p + 9 + bOf (L (p + 8)) + 1)) (nI_add _ _) ?_
          refine g_iload_n X d_MD_wholeAt_77 3 rfl ?_
          refine g_isub X d_MD_wholeAt_78 ?_
          refine g_vi (nI ((p + 9 + bOf (L (p + 8)) + 1) - p)) (pk_sub (by omega)) ?_
          exact g_iret X hr d_MD_wholeAt_79 (Nat.le_of_ble_eq_true rfl) (Nat.le_of_ble_eq_true rfl) (⟨by rw [hw9, show p + 9 + bOf (L (p + 8)) + 1 - p = ebn (L (p + 8)) + 1 by omega], rfl⟩)
        · have h66 := cv_ne (by omega) (by omega) h66
          have hw9 := whl_f (B := L) (p := p) (u := u9) (fun z => by have h1 := z.2.2; rw [show p + ebn (L (p + 8)) = p + 9 + bOf (L (p + 8)) by omega] at h1; exact h66 h1.symm)
          refine g_iconst (nI 0) X d_MD_wholeAt_69 (by decide) ?_
          refine g_goto 79 X d_MD_wholeAt_70 (by decide) ?_
          exact g_iret X hr d_MD_wholeAt_79 (Nat.le_of_ble_eq_true rfl) (Nat.le_of_ble_eq_true rfl) (⟨by rw [hw9], rfl⟩)
    · have h23 := cv_nle (by omega) (by omega) h23
      refine g_iload_n X d_MD_wholeAt_26 0 rfl ?_
      refine g_sipush (nI 255) X d_MD_wholeAt_27 (by decide) ?_
      refine g_icmp_eq 35 X d_MD_wholeAt_30 (by decide) (fun h30 => ?_) (fun h30 => ?_)
      · have h30 := cv_eq (by omega) (by omega) h30
        have hk9 : okn (L (p + 8)) := Or.inr h30
        refine g_iload_n X d_MD_wholeAt_35 2 rfl ?_
        refine g_bipush (nI 9) X d_MD_wholeAt_36 (by decide) ?_
        refine g_iadd X d_MD_wholeAt_38 ?_
        refine g_vi (nI (p + 9)) (nI_add _ _) ?_
        refine g_iload_n X d_MD_wholeAt_39 0 rfl ?_
        refine h_callS (As := [.int (nI (L (p + 8)))]) (st := [.int (nI (p + 9))]) [] [(h, .inr (6, [.int th, .int (nI M), .int (nI n), .ref y1, .ref y2, .ref y3, .int (nI u), .ref y4, .ref y5, .ref y6, .ref y7, .int (nI c), .ref y8, .ref y9, .ref y10, .ref y11, .ref y12, .int bd, .int ck, .int ps, .int (nI pa), .int lc, .int (nI (b2n fb)), .long ek, .long ev, .int (nI el), .int (nI fn), .ref y13, .ref y14, .ref y15, .ref y16, .int (nI js), .ref y17, .int (nI (b2n ib))])), (y4, .inl (.int, 1024, .inl (fun q => nI (L q))))] X d_MD_wholeAt_40 (c_MD_bytesOf hst (hL _)) rfl k_ml_MD_87 k_cd_MD_bytesOf k_in_MD k_st_MD_bytesOf ⟨by decide +kernel, by decide +kernel, (by decide +kernel : (parseMethodDescriptor y_MD_bytesOf.desc).map (fun d => d.parameters.length) = some 1)⟩ ⟨Nat.le_of_ble_eq_true rfl, Nat.le_of_ble_eq_true rfl⟩ ⟨Nat.le_of_ble_eq_true rfl, Nat.le_of_ble_eq_true rfl⟩ (Nat.le_of_ble_eq_true rfl) hn rfl rfl rfl hp_no hp_no2 ?_
        refine g_iadd X d_MD_wholeAt_43 ?_
        refine g_vi (nI (p + 9 + bOf (L (p + 8)))) (nI_add _ _) ?_
        refine g_istore [(4, .int (nI (p + 9 + bOf (L (p + 8))))), (3, .int (nI (L (p + 8)))), (0, .ref h), (1, .int (nI p)), (2, .int (nI u9))] X d_MD_wholeAt_44 (by decide) rfl ?_
        refine g_iload X d_MD_wholeAt_46 0 rfl ?_
        refine g_iload_n X d_MD_wholeAt_48 4 rfl ?_
        refine g_icmp_ge 69 X d_MD_wholeAt_49 (by decide) (fun h49 => ?_) (fun h49 => ?_)
        · have h49 := cv_le (by omega) (by omega) h49
          have hw9 := whl_f (B := L) (p := p) (u := u9) (fun z => by have h1 := z.2.1; omega)
          refine g_iconst (nI 0) X d_MD_wholeAt_69 (by decide) ?_
          refine g_goto 79 X d_MD_wholeAt_70 (by decide) ?_
          exact g_iret X hr d_MD_wholeAt_79 (Nat.le_of_ble_eq_true rfl) (Nat.le_of_ble_eq_true rfl) (⟨by rw [hw9], rfl⟩)
        · have h49 := cv_nle (by omega) (by omega) h49
          refine g_aload_n X d_MD_wholeAt_52 2 rfl ?_
          refine g_iload_n X d_MD_wholeAt_53 3 rfl ?_
          refine g_iload X d_MD_wholeAt_54 0 rfl ?_
          refine h_callV (As := [.int (nI p), .int (nI (p + 9 + bOf (L (p + 8))))]) (st := []) [0, 1] [(h, .inr (6, [.int th, .int (nI M), .int (nI n), .ref y1, .ref y2, .ref y3, .int (nI u), .ref y4, .ref y5, .ref y6, .ref y7, .int (nI c), .ref y8, .ref y9, .ref y10, .ref y11, .ref y12, .int bd, .int ck, .int ps, .int (nI pa), .int lc, .int (nI (b2n fb)), .long ek, .long ev, .int (nI el), .int (nI fn), .ref y13, .ref y14, .ref y15, .ref y16, .int (nI js), .ref y17, .int (nI (b2n ib))])), (y4, .inl (.int, 1024, .inl (fun q => nI (L q))))] X d_MD_wholeAt_56 (c_MD_logSum hst hn (by omega) (by omega) hL) (hl_w 0 rfl hn) rfl rfl k_ml_MD_101 k_cd_MD_logSum k_in_MD k_im_MD_logSum k_se_MD_logSum ⟨by decide +kernel, by decide +kernel, (by decide +kernel : (parseMethodDescriptor y_MD_logSum.desc).map (fun d => d.parameters.length) = some 2)⟩ ⟨Nat.le_of_ble_eq_true rfl, Nat.le_of_ble_eq_true rfl⟩ ⟨Nat.le_of_ble_eq_true rfl, Nat.le_of_ble_eq_true rfl⟩ (Nat.le_of_ble_eq_true rfl) hn rfl rfl rfl hp_no hp_no2 ?_
          refine g_vi (nI (smf (fun i => L (p + i)) (ebn (L (p + 8))) % 256)) (by rw [show p + 9 + bOf (L (p + 8)) - p = ebn (L (p + 8)) by omega]) ?_
          refine g_aload_n X d_MD_wholeAt_59 2 rfl ?_
          refine g_getf (k := 7) X d_MD_wholeAt_60 (hl_w 0 rfl hn) rfl i_MD (by decide) k_fl_MD_20 (fun _ h => h) rfl ?_
          refine g_iload X d_MD_wholeAt_63 0 rfl ?_
          refine h_iald X d_MD_wholeAt_65 (hl_w 1 rfl hn) (by omega) (by omega) ?_
          refine g_icmp_eq 73 X d_MD_wholeAt_66 (by decide) (fun h66 => ?_) (fun h66 => ?_)
          · have h66 := cv_eq (by omega) (by omega) h66
            have hw9 := whl_t (B := L) (p := p) (u := u9) ⟨⟨by omega, hk9, by show p + ebn (L (p + 8)) ≤ u9; omega⟩, by omega, by rw [show p + ebn (L (p + 8)) = p + 9 + bOf (L (p + 8)) by omega]; exact h66.symm⟩
            refine g_iload X d_MD_wholeAt_73 0 rfl ?_
            refine g_iconst (nI 1) X d_MD_wholeAt_75 (by decide) ?_
            refine g_iadd X d_MD_wholeAt_76 ?_
            refine g_vi (nI (p + 9 + bOf (L (p + 8)) + 1)) (nI_add _ _) ?_
            refine g_iload_n X d_MD_wholeAt_77 3 rfl ?_
            refine g_isub X d_MD_wholeAt_78 ?_
            refine g_vi (nI ((p + 9 + bOf (L (p + 8)) + 1) - p)) (pk_sub (by omega)) ?_
            exact g_iret X hr d_MD_wholeAt_79 (Nat.le_of_ble_eq_true rfl) (Nat.le_of_ble_eq_true rfl) (⟨by rw [hw9, show p + 9 + bOf (L (p + 8)) + 1 - p = ebn (L (p + 8)) + 1 by omega], rfl⟩)
          · have h66 := cv_ne (by omega) (by omega) h66
            have hw9 := whl_f (B := L) (p := p) (u := u9) (fun z => by have h1 := z.2.2; rw [show p + ebn (L (p + 8)) = p + 9 + bOf (L (p + 8)) by omega] at h1; exact h66 h1.symm)
            refine g_iconst (nI 0) X d_MD_wholeAt_69 (by decide) ?_
            refine g_goto 79 X d_MD_wholeAt_70 (by decide) ?_
            exact g_iret X hr d_MD_wholeAt_79 (Nat.le_of_ble_eq_true rfl) (Nat.le_of_ble_eq_true rfl) (⟨by rw [hw9], rfl⟩)
      · have h30 := cv_ne (by omega) (by omega) h30
        have hw9 := whl_f (B := L) (p := p) (u := u9) (fun z => by have h1 : okn (L (p + 8)) := z.1.2.1; rcases h1 with h1 | h1 <;> omega)
        refine g_iconst (nI 0) X d_MD_wholeAt_33 (by decide) ?_
        exact g_iret X hr d_MD_wholeAt_34 (Nat.le_of_ble_eq_true rfl) (Nat.le_of_ble_eq_true rfl) (⟨by rw [hw9], rfl⟩)
  · have h5 := cv_nle (by omega) (by omega) h5
    have hw9 := whl_f (B := L) (p := p) (u := u9) (fun z => by have h1 := z.2.1; omega)
    refine g_iconst (nI 0) X d_MD_wholeAt_8 (by decide) ?_
    exact g_iret X hr d_MD_wholeAt_9 (Nat.le_of_ble_eq_true rfl) (Nat.le_of_ble_eq_true rfl) (⟨by rw [hw9], rfl⟩)

set_option maxRecDepth 100000 in
set_option maxHeartbeats 1000000 in
theorem c_MD_crash_bad {l : Launch} (hst : l.stackTraces = false) {h y1 y2 y3 y4 y5 y6 y7 y8 y9 y10 y11 y12 y13 y14 y15 y16 y17 M n u c pa el fn js : Nat} {th bd ck ps lc : Int32} {fb ib : Bool} {ek ev : Int64} {K : Nat → Int64} {V : Nat → Int64} {z : Nat → Nat} {L : Nat → Nat} (hn : [h, y1, y2, y3, y4].Nodup) {k9 i9 wm : Int32} (hx : wnb k9 (nI 0) (nI u) = true → wnb i9 (-1) (k9 - nI 1) = true → False) : fh_C l fhCl fhT y_MD_crash (.code y_MD_crash b_MD_crash 12 (some .int)) 2 50 [.ref h, .int k9, .int i9, .int wm] (hp [(h, .inr (6, [.int th, .int (nI M), .int (nI n), .ref y1, .ref y2, .ref y3, .int (nI u), .ref y4, .ref y5, .ref y6, .ref y7, .int (nI c), .ref y8, .ref y9, .ref y10, .ref y11, .ref y12, .int bd, .int ck, .int ps, .int (nI pa), .int lc, .int (nI (b2n fb)), .long ek, .long ev, .int (nI el), .int (nI fn), .ref y13, .ref y14, .ref y15, .ref y16, .int (nI js), .ref y17, .int (nI (b2n ib))])), (y1, .inl (.long, 25, .inr (.inl K))), (y2, .inl (.long, 25, .inr (.inl V))), (y3, .inl (.int, 25, .inl (fun q => nI (z q)))), (y4, .inl (.int, 1024, .inl (fun q => nI (L q))))]) (hp []) 0 0 (fh_ret (some (.int (nI 0))) [(h, .inr (6, [.int (nI 1), .int (nI M), .int (nI n), .ref y1, .ref y2, .ref y3, .int (nI u), .ref y4, .ref y5, .ref y6, .ref y7, .int (nI c), .ref y8, .ref y9, .ref y10, .ref y11, .ref y12, .int bd, .int ck, .int ps, .int (nI pa), .int lc, .int (nI (b2n fb)), .long ek, .long ev, .int (nI el), .int (nI fn), .ref y13, .ref y14, .ref y15, .ref y16, .int (nI js), .ref y17, .int (nI (b2n ib))])), (y1, .inl (.long, 25, .inr (.inl K))), (y2, .inl (.long, 25, .inr (.inl V))), (y3, .inl (.int, 25, .inl (fun q => nI (z q)))), (y4, .inl (.int, 1024, .inl (fun q => nI (L q))))]) := by
  refine fh_enter (by decide) hst (Nat.le_of_ble_eq_true rfl) ?_
  intro mD mp me sm mm margs mbel mmet mcod X hr hnm hno hf0
  show fh_G mp l me (fh_rm 2 50 0 0) sm mm margs mbel mmet mcod mD fhCl (hp [(h, .inr (6, [.int th, .int (nI M), .int (nI n), .ref y1, .ref y2, .ref y3, .int (nI u), .ref y4, .ref y5, .ref y6, .ref y7, .int (nI c), .ref y8, .ref y9, .ref y10, .ref y11, .ref y12, .int bd, .int ck, .int ps, .int (nI pa), .int lc, .int (nI (b2n fb)), .long ek, .long ev, .int (nI el), .int (nI fn), .ref y13, .ref y14, .ref y15, .ref y16, .int (nI js), .ref y17, .int (nI (b2n ib))])), (y1, .inl (.long, 25, .inr (.inl K))), (y2, .inl (.long, 25, .inr (.inl V))), (y3, .inl (.int, 25, .inl (fun q => nI (z q)))), (y4, .inl (.int, 1024, .inl (fun q => nI (L q))))]) 12 _ 0 0 (hp [(h, .inr (6, [.int th, .int (nI M), .int (nI n), .ref y1, .ref y2, .ref y3, .int (nI u), .ref y4, .ref y5, .ref y6, .ref y7, .int (nI c), .ref y8, .ref y9, .ref y10, .ref y11, .ref y12, .int bd, .int ck, .int ps, .int (nI pa), .int lc, .int (nI (b2n fb)), .long ek, .long ev, .int (nI el), .int (nI fn), .ref y13, .ref y14, .ref y15, .ref y16, .int (nI js), .ref y17, .int (nI (b2n ib))])), (y1, .inl (.long, 25, .inr (.inl K))), (y2, .inl (.long, 25, .inr (.inl V))), (y3, .inl (.int, 25, .inl (fun q => nI (z q)))), (y4, .inl (.int, 1024, .inl (fun q => nI (L q))))]) 0 [(0, .ref h), (1, .int k9), (2, .int i9), (3, .int wm)] []
  have hn0 : [h].Nodup := (List.Nodup.sublist (by repeat first | exact List.nil_sublist _ | apply List.Sublist.cons₂ | apply List.Sublist.cons) hn)
  refine g_aload_n X d_MD_crash_0 0 rfl ?_
  refine g_iconst (nI 0) X d_MD_crash_1 (by decide) ?_
  refine h_putf (k := 0) (ty := .int) 0 [(h, .inr (6, [.int (nI 0), .int (nI M), .int (nI n), .ref y1, .ref y2, .ref y3, .int (nI u), .ref y4, .ref y5, .ref y6, .ref y7, .int (nI c), .ref y8, .ref y9, .ref y10, .ref y11, .ref y12, .int bd, .int ck, .int ps, .int (nI pa), .int lc, .int (nI (b2n fb)), .long ek, .long ev, .int (nI el), .int (nI fn), .ref y13, .ref y14, .ref y15, .ref y16, .int (nI js), .ref y17, .int (nI (b2n ib))])), (y1, .inl (.long, 25, .inr (.inl K))), (y2, .inl (.long, 25, .inr (.inl V))), (y3, .inl (.int, 25, .inl (fun q => nI (z q)))), (y4, .inl (.int, 1024, .inl (fun q => nI (L q))))] X d_MD_crash_2 hn rfl rfl i_MD t_MD t_MD_ok n_MD (by decide) k_fl_MD_70 (fun _ h => h) rfl (by decide +kernel) rfl rfl (Nat.le_of_ble_eq_true rfl) rfl ?_
  refine g_iload_n X d_MD_crash_5 1 rfl ?_
  refine g_iconst (nI 0) X d_MD_crash_6 (by decide) ?_
  refine g_aload_n X d_MD_crash_7 0 rfl ?_
  refine g_getf (k := 6) X d_MD_crash_8 (hl_w 0 rfl hn) rfl i_MD (by decide) k_fl_MD_84 (fun _ h => h) rfl ?_
  refine h_callS (As := [.int k9, .int (nI 0), .int (nI u)]) (st := []) [] [(h, .inr (6, [.int (nI 0), .int (nI M), .int (nI n), .ref y1, .ref y2, .ref y3, .int (nI u), .ref y4, .ref y5, .ref y6, .ref y7, .int (nI c), .ref y8, .ref y9, .ref y10, .ref y11, .ref y12, .int bd, .int ck, .int ps, .int (nI pa), .int lc, .int (nI (b2n fb)), .long ek, .long ev, .int (nI el), .int (nI fn), .ref y13, .ref y14, .ref y15, .ref y16, .int (nI js), .ref y17, .int (nI (b2n ib))])), (y1, .inl (.long, 25, .inr (.inl K))), (y2, .inl (.long, 25, .inr (.inl V))), (y3, .inl (.int, 25, .inl (fun q => nI (z q)))), (y4, .inl (.int, 1024, .inl (fun q => nI (L q))))] X d_MD_crash_11 (c_MD_within hst) rfl k_ml_MD_109 k_cd_MD_within k_in_MD k_st_MD_within ⟨by decide +kernel, by decide +kernel, (by decide +kernel : (parseMethodDescriptor y_MD_within.desc).map (fun d => d.parameters.length) = some 3)⟩ ⟨Nat.le_of_ble_eq_true rfl, Nat.le_of_ble_eq_true rfl⟩ ⟨Nat.le_of_ble_eq_true rfl, Nat.le_of_ble_eq_true rfl⟩ (Nat.le_of_ble_eq_true rfl) hn rfl rfl rfl hp_no hp_no2 ?_
  refine g_if_eq 28 X d_MD_crash_14 (by decide) (fun h14 => ?_) (fun h14 => ?_)
  · have h14 := cv_e0 (b2n_31 _) h14
    refine g_aload_n X d_MD_crash_28 0 rfl ?_
    refine g_iconst (nI 1) X d_MD_crash_29 (by decide) ?_
    refine h_callV (As := [.int (nI 1)]) (st := []) [0] [(h, .inr (6, [.int (nI 1), .int (nI M), .int (nI n), .ref y1, .ref y2, .ref y3, .int (nI u), .ref y4, .ref y5, .ref y6, .ref y7, .int (nI c), .ref y8, .ref y9, .ref y10, .ref y11, .ref y12, .int bd, .int ck, .int ps, .int (nI pa), .int lc, .int (nI (b2n fb)), .long ek, .long ev, .int (nI el), .int (nI fn), .ref y13, .ref y14, .ref y15, .ref y16, .int (nI js), .ref y17, .int (nI (b2n ib))])), (y1, .inl (.long, 25, .inr (.inl K))), (y2, .inl (.long, 25, .inr (.inl V))), (y3, .inl (.int, 25, .inl (fun q => nI (z q)))), (y4, .inl (.int, 1024, .inl (fun q => nI (L q))))] X d_MD_crash_30 (c_MD_fail hst hn0) (hl_w 0 rfl hn) rfl rfl k_ml_MD_113 k_cd_MD_fail k_in_MD k_im_MD_fail k_se_MD_fail ⟨by decide +kernel, by decide +kernel, (by decide +kernel : (parseMethodDescriptor y_MD_fail.desc).map (fun d => d.parameters.length) = some 1)⟩ ⟨Nat.le_of_ble_eq_true rfl, Nat.le_of_ble_eq_true rfl⟩ ⟨Nat.le_of_ble_eq_true rfl, Nat.le_of_ble_eq_true rfl⟩ (Nat.le_of_ble_eq_true rfl) hn rfl rfl rfl hp_no hp_no2 ?_
    exact g_iret X hr d_MD_crash_33 (Nat.le_of_ble_eq_true rfl) (Nat.le_of_ble_eq_true rfl) (fh_ret_i)
  · have h14 := cv_n0 (b2n_31 _) h14
    refine g_iload_n X d_MD_crash_17 2 rfl ?_
    refine g_iconst (-1) X d_MD_crash_18 (by decide) ?_
    refine g_iload_n X d_MD_crash_19 1 rfl ?_
    refine g_iconst (nI 1) X d_MD_crash_20 (by decide) ?_
    refine g_isub X d_MD_crash_21 ?_
    refine h_callS (As := [.int i9, .int (-1), .int (k9 - (nI 1))]) (st := []) [] [(h, .inr (6, [.int (nI 0), .int (nI M), .int (nI n), .ref y1, .ref y2, .ref y3, .int (nI u), .ref y4, .ref y5, .ref y6, .ref y7, .int (nI c), .ref y8, .ref y9, .ref y10, .ref y11, .ref y12, .int bd, .int ck, .int ps, .int (nI pa), .int lc, .int (nI (b2n fb)), .long ek, .long ev, .int (nI el), .int (nI fn), .ref y13, .ref y14, .ref y15, .ref y16, .int (nI js), .ref y17, .int (nI (b2n ib))])), (y1, .inl (.long, 25, .inr (.inl K))), (y2, .inl (.long, 25, .inr (.inl V))), (y3, .inl (.int, 25, .inl (fun q => nI (z q)))), (y4, .inl (.int, 1024, .inl (fun q => nI (L q))))] X d_MD_crash_22 (c_MD_within hst) rfl k_ml_MD_109 k_cd_MD_within k_in_MD k_st_MD_within ⟨by decide +kernel, by decide +kernel, (by decide +kernel : (parseMethodDescriptor y_MD_within.desc).map (fun d => d.parameters.length) = some 3)⟩ ⟨Nat.le_of_ble_eq_true rfl, Nat.le_of_ble_eq_true rfl⟩ ⟨Nat.le_of_ble_eq_true rfl, Nat.le_of_ble_eq_true rfl⟩ (Nat.le_of_ble_eq_true rfl) hn rfl rfl rfl hp_no hp_no2 ?_
    refine g_if_ne 34 X d_MD_crash_25 (by decide) (fun h25 => ?_) (fun h25 => ?_)
    · have h25 := cv_n0 (b2n_31 _) h25
      exact absurd (hx (b2n_1 h14) (b2n_1 h25)) id
    · have h25 := cv_e0 (b2n_31 _) h25
      refine g_aload_n X d_MD_crash_28 0 rfl ?_
      refine g_iconst (nI 1) X d_MD_crash_29 (by decide) ?_
      refine h_callV (As := [.int (nI 1)]) (st := []) [0] [(h, .inr (6, [.int (nI 1), .int (nI M), .int (nI n), .ref y1, .ref y2, .ref y3, .int (nI u), .ref y4, .ref y5, .ref y6, .ref y7, .int (nI c), .ref y8, .ref y9, .ref y10, .ref y11, .ref y12, .int bd, .int ck, .int ps, .int (nI pa), .int lc, .int (nI (b2n fb)), .long ek, .long ev, .int (nI el), .int (nI fn), .ref y13, .ref y14, .ref y15, .ref y16, .int (nI js), .ref y17, .int (nI (b2n ib))])), (y1, .inl (.long, 25, .inr (.inl K))), (y2, .inl (.long, 25, .inr (.inl V))), (y3, .inl (.int, 25, .inl (fun q => nI (z q)))), (y4, .inl (.int, 1024, .inl (fun q => nI (L q))))] X d_MD_crash_30 (c_MD_fail hst hn0) (hl_w 0 rfl hn) rfl rfl k_ml_MD_113 k_cd_MD_fail k_in_MD k_im_MD_fail k_se_MD_fail ⟨by decide +kernel, by decide +kernel, (by decide +kernel : (parseMethodDescriptor y_MD_fail.desc).map (fun d => d.parameters.length) = some 1)⟩ ⟨Nat.le_of_ble_eq_true rfl, Nat.le_of_ble_eq_true rfl⟩ ⟨Nat.le_of_ble_eq_true rfl, Nat.le_of_ble_eq_true rfl⟩ (Nat.le_of_ble_eq_true rfl) hn rfl rfl rfl hp_no hp_no2 ?_
      exact g_iret X hr d_MD_crash_33 (Nat.le_of_ble_eq_true rfl) (Nat.le_of_ble_eq_true rfl) (fh_ret_i)

set_option maxRecDepth 100000 in
set_option maxHeartbeats 1000000 in
theorem c_MD_crash_cut {l : Launch} (hst : l.stackTraces = false) {h y1 y2 y3 y4 y5 y6 y7 y8 y9 y10 y11 y12 y13 y14 y15 y16 y17 M n u c pa el fn js : Nat} {th bd ck ps lc : Int32} {fb ib : Bool} {ek ev : Int64} {K : Nat → Int64} {V : Nat → Int64} {z : Nat → Nat} {L : Nat → Nat} (hn : [h, y1, y2, y3, y4].Nodup) {a : Nat} {wm : Int32} (ha : a ≤ u) (hu : u ≤ 1024) (hL : ∀ q, L q < 256) : fh_C l fhCl fhT y_MD_crash (.code y_MD_crash b_MD_crash 12 (some .int)) 2 50 [.ref h, .int (nI a), .int (-1), .int wm] (hp [(h, .inr (6, [.int th, .int (nI M), .int (nI n), .ref y1, .ref y2, .ref y3, .int (nI u), .ref y4, .ref y5, .ref y6, .ref y7, .int (nI c), .ref y8, .ref y9, .ref y10, .ref y11, .ref y12, .int bd, .int ck, .int ps, .int (nI pa), .int lc, .int (nI (b2n fb)), .long ek, .long ev, .int (nI el), .int (nI fn), .ref y13, .ref y14, .ref y15, .ref y16, .int (nI js), .ref y17, .int (nI (b2n ib))])), (y1, .inl (.long, 25, .inr (.inl K))), (y2, .inl (.long, 25, .inr (.inl V))), (y3, .inl (.int, 25, .inl (fun q => nI (z q)))), (y4, .inl (.int, 1024, .inl (fun q => nI (L q))))]) (hp []) 0 0 (fh_ret (some (.int (nI (redo L a 24 1024 (K, z, V, 0) 0).1.2.2.2))) [(h, .inr (6, [.int (nI 0), .int (nI M), .int (nI ((redo L a 24 1024 (K, z, V, 0) 0).1.2.2.2)), .ref y1, .ref y2, .ref y3, .int (nI ((redo L a 24 1024 (K, z, V, 0) 0).2)), .ref y4, .ref y5, .ref y6, .ref y7, .int (nI c), .ref y8, .ref y9, .ref y10, .ref y11, .ref y12, .int bd, .int ck, .int ps, .int (nI pa), .int lc, .int (nI (b2n fb)), .long ek, .long ev, .int (nI el), .int (nI fn), .ref y13, .ref y14, .ref y15, .ref y16, .int (nI js), .ref y17, .int (nI (b2n ib))])), (y1, .inl (.long, 25, .inr (.inl ((redo L a 24 1024 (K, z, V, 0) 0).1.1)))), (y2, .inl (.long, 25, .inr (.inl ((redo L a 24 1024 (K, z, V, 0) 0).1.2.2.1)))), (y3, .inl (.int, 25, .inl (fun q => nI (((redo L a 24 1024 (K, z, V, 0) 0).1.2.1) q)))), (y4, .inl (.int, 1024, .inl (fun q => nI (L q))))]) := by
  refine fh_enter (by decide) hst (Nat.le_of_ble_eq_true rfl) ?_
  intro mD mp me sm mm margs mbel mmet mcod X hr hnm hno hf0
  show fh_G mp l me (fh_rm 2 50 0 0) sm mm margs mbel mmet mcod mD fhCl (hp [(h, .inr (6, [.int th, .int (nI M), .int (nI n), .ref y1, .ref y2, .ref y3, .int (nI u), .ref y4, .ref y5, .ref y6, .ref y7, .int (nI c), .ref y8, .ref y9, .ref y10, .ref y11, .ref y12, .int bd, .int ck, .int ps, .int (nI pa), .int lc, .int (nI (b2n fb)), .long ek, .long ev, .int (nI el), .int (nI fn), .ref y13, .ref y14, .ref y15, .ref y16, .int (nI js), .ref y17, .int (nI (b2n ib))])), (y1, .inl (.long, 25, .inr (.inl K))), (y2, .inl (.long, 25, .inr (.inl V))), (y3, .inl (.int, 25, .inl (fun q => nI (z q)))), (y4, .inl (.int, 1024, .inl (fun q => nI (L q))))]) 12 _ 0 0 (hp [(h, .inr (6, [.int th, .int (nI M), .int (nI n), .ref y1, .ref y2, .ref y3, .int (nI u), .ref y4, .ref y5, .ref y6, .ref y7, .int (nI c), .ref y8, .ref y9, .ref y10, .ref y11, .ref y12, .int bd, .int ck, .int ps, .int (nI pa), .int lc, .int (nI (b2n fb)), .long ek, .long ev, .int (nI el), .int (nI fn), .ref y13, .ref y14, .ref y15, .ref y16, .int (nI js), .ref y17, .int (nI (b2n ib))])), (y1, .inl (.long, 25, .inr (.inl K))), (y2, .inl (.long, 25, .inr (.inl V))), (y3, .inl (.int, 25, .inl (fun q => nI (z q)))), (y4, .inl (.int, 1024, .inl (fun q => nI (L q))))]) 0 [(0, .ref h), (1, .int (nI a)), (2, .int (-1)), (3, .int wm)] []
  have hn4 : [h, y4].Nodup := (List.Nodup.sublist (by repeat first | exact List.nil_sublist _ | apply List.Sublist.cons₂ | apply List.Sublist.cons) hn)
  have hn1 : [h, y1].Nodup := (List.Nodup.sublist (by repeat first | exact List.nil_sublist _ | apply List.Sublist.cons₂ | apply List.Sublist.cons) hn)
  have hn3 : [h, y1, y2, y3].Nodup := (List.Nodup.sublist (by repeat first | exact List.nil_sublist _ | apply List.Sublist.cons₂ | apply List.Sublist.cons) hn)
  have hx1 := win_ki ha (by omega)
  have hx2 : wnb (-1) (-1) (nI a - nI 1) = true := win_m (by omega)
  have hL9 : ∀ q, L q < 256 := hL
  refine g_aload_n X d_MD_crash_0 0 rfl ?_
  refine g_iconst (nI 0) X d_MD_crash_1 (by decide) ?_
  refine h_putf (k := 0) (ty := .int) 0 [(h, .inr (6, [.int (nI 0), .int (nI M), .int (nI n), .ref y1, .ref y2, .ref y3, .int (nI u), .ref y4, .ref y5, .ref y6, .ref y7, .int (nI c), .ref y8, .ref y9, .ref y10, .ref y11, .ref y12, .int bd, .int ck, .int ps, .int (nI pa), .int lc, .int (nI (b2n fb)), .long ek, .long ev, .int (nI el), .int (nI fn), .ref y13, .ref y14, .ref y15, .ref y16, .int (nI js), .ref y17, .int (nI (b2n ib))])), (y1, .inl (.long, 25, .inr (.inl K))), (y2, .inl (.long, 25, .inr (.inl V))), (y3, .inl (.int, 25, .inl (fun q => nI (z q)))), (y4, .inl (.int, 1024, .inl (fun q => nI (L q))))] X d_MD_crash_2 hn rfl rfl i_MD t_MD t_MD_ok n_MD (by decide) k_fl_MD_70 (fun _ h => h) rfl (by decide +kernel) rfl rfl (Nat.le_of_ble_eq_true rfl) rfl ?_
  refine g_iload_n X d_MD_crash_5 1 rfl ?_
  refine g_iconst (nI 0) X d_MD_crash_6 (by decide) ?_
  refine g_aload_n X d_MD_crash_7 0 rfl ?_
  refine g_getf (k := 6) X d_MD_crash_8 (hl_w 0 rfl hn) rfl i_MD (by decide) k_fl_MD_84 (fun _ h => h) rfl ?_
  refine h_callS (As := [.int (nI a), .int (nI 0), .int (nI u)]) (st := []) [] [(h, .inr (6, [.int (nI 0), .int (nI M), .int (nI n), .ref y1, .ref y2, .ref y3, .int (nI u), .ref y4, .ref y5, .ref y6, .ref y7, .int (nI c), .ref y8, .ref y9, .ref y10, .ref y11, .ref y12, .int bd, .int ck, .int ps, .int (nI pa), .int lc, .int (nI (b2n fb)), .long ek, .long ev, .int (nI el), .int (nI fn), .ref y13, .ref y14, .ref y15, .ref y16, .int (nI js), .ref y17, .int (nI (b2n ib))])), (y1, .inl (.long, 25, .inr (.inl K))), (y2, .inl (.long, 25, .inr (.inl V))), (y3, .inl (.int, 25, .inl (fun q => nI (z q)))), (y4, .inl (.int, 1024, .inl (fun q => nI (L q))))] X d_MD_crash_11 (c_MD_within hst) rfl k_ml_MD_109 k_cd_MD_within k_in_MD k_st_MD_within ⟨by decide +kernel, by decide +kernel, (by decide +kernel : (parseMethodDescriptor y_MD_within.desc).map (fun d => d.parameters.length) = some 3)⟩ ⟨Nat.le_of_ble_eq_true rfl, Nat.le_of_ble_eq_true rfl⟩ ⟨Nat.le_of_ble_eq_true rfl, Nat.le_of_ble_eq_true rfl⟩ (Nat.le_of_ble_eq_true rfl) hn rfl rfl rfl hp_no hp_no2 ?_
  refine g_if_eq 28 X d_MD_crash_14 (by decide) (fun h14 => ?_) (fun h14 => ?_)
  · have h14 := cv_e0 (b2n_31 _) h14
    rw [hx1] at h14
    exact absurd h14 (by decide)
  · have h14 := cv_n0 (b2n_31 _) h14
    refine g_iload_n X d_MD_crash_17 2 rfl ?_
    refine g_iconst (-1) X d_MD_crash_18 (by decide) ?_
    refine g_iload_n X d_MD_crash_19 1 rfl ?_
    refine g_iconst (nI 1) X d_MD_crash_20 (by decide) ?_
    refine g_isub X d_MD_crash_21 ?_
    refine h_callS (As := [.int (-1), .int (-1), .int ((nI a) - (nI 1))]) (st := []) [] [(h, .inr (6, [.int (nI 0), .int (nI M), .int (nI n), .ref y1, .ref y2, .ref y3, .int (nI u), .ref y4, .ref y5, .ref y6, .ref y7, .int (nI c), .ref y8, .ref y9, .ref y10, .ref y11, .ref y12, .int bd, .int ck, .int ps, .int (nI pa), .int lc, .int (nI (b2n fb)), .long ek, .long ev, .int (nI el), .int (nI fn), .ref y13, .ref y14, .ref y15, .ref y16, .int (nI js), .ref y17, .int (nI (b2n ib))])), (y1, .inl (.long, 25, .inr (.inl K))), (y2, .inl (.long, 25, .inr (.inl V))), (y3, .inl (.int, 25, .inl (fun q => nI (z q)))), (y4, .inl (.int, 1024, .inl (fun q => nI (L q))))] X d_MD_crash_22 (c_MD_within hst) rfl k_ml_MD_109 k_cd_MD_within k_in_MD k_st_MD_within ⟨by decide +kernel, by decide +kernel, (by decide +kernel : (parseMethodDescriptor y_MD_within.desc).map (fun d => d.parameters.length) = some 3)⟩ ⟨Nat.le_of_ble_eq_true rfl, Nat.le_of_ble_eq_true rfl⟩ ⟨Nat.le_of_ble_eq_true rfl, Nat.le_of_ble_eq_true rfl⟩ (Nat.le_of_ble_eq_true rfl) hn rfl rfl rfl hp_no hp_no2 ?_
    refine g_if_ne 34 X d_MD_crash_25 (by decide) (fun h25 => ?_) (fun h25 => ?_)
    · have h25 := cv_n0 (b2n_31 _) h25
      refine g_iload_n X d_MD_crash_34 2 rfl ?_
      refine g_if_lt 56 X d_MD_crash_35 (by decide) (fun h35 => ?_) (fun h35 => ?_)
      · refine g_aload_n X d_MD_crash_56 0 rfl ?_
        refine g_iconst (nI 0) X d_MD_crash_57 (by decide) ?_
        refine h_putf (k := 2) (ty := .int) 0 [(h, .inr (6, [.int (nI 0), .int (nI M), .int (nI 0), .ref y1, .ref y2, .ref y3, .int (nI u), .ref y4, .ref y5, .ref y6, .ref y7, .int (nI c), .ref y8, .ref y9, .ref y10, .ref y11, .ref y12, .int bd, .int ck, .int ps, .int (nI pa), .int lc, .int (nI (b2n fb)), .long ek, .long ev, .int (nI el), .int (nI fn), .ref y13, .ref y14, .ref y15, .ref y16, .int (nI js), .ref y17, .int (nI (b2n ib))])), (y1, .inl (.long, 25, .inr (.inl K))), (y2, .inl (.long, 25, .inr (.inl V))), (y3, .inl (.int, 25, .inl (fun q => nI (z q)))), (y4, .inl (.int, 1024, .inl (fun q => nI (L q))))] X d_MD_crash_58 hn rfl rfl i_MD t_MD t_MD_ok n_MD (by decide) k_fl_MD_73 (fun _ h => h) rfl (by decide +kernel) rfl rfl (Nat.le_of_ble_eq_true rfl) rfl ?_
        refine g_hp (ws' := [(h, .inr (6, [.int (nI 0), .int (nI M), .int (nI (((K, z, V, 0) : R4).2.2.2)), .ref y1, .ref y2, .ref y3, .int (nI u), .ref y4, .ref y5, .ref y6, .ref y7, .int (nI c), .ref y8, .ref y9, .ref y10, .ref y11, .ref y12, .int bd, .int ck, .int ps, .int (nI pa), .int lc, .int (nI (b2n fb)), .long ek, .long ev, .int (nI el), .int (nI fn), .ref y13, .ref y14, .ref y15, .ref y16, .int (nI js), .ref y17, .int (nI (b2n ib))])), (y1, .inl (.long, 25, .inr (.inl (((K, z, V, 0) : R4).1)))), (y2, .inl (.long, 25, .inr (.inl (((K, z, V, 0) : R4).2.2.1)))), (y3, .inl (.int, 25, .inl (fun q => nI ((((K, z, V, 0) : R4).2.1) q)))), (y4, .inl (.int, 1024, .inl (fun q => nI (L q))))]) (rfl) ?_
        refine g_iconst (nI 0) X d_MD_crash_61 (by decide) ?_
        refine g_istore [(4, .int (nI 0)), (0, .ref h), (1, .int (nI a)), (2, .int (-1)), (3, .int wm)] X d_MD_crash_62 (by decide) rfl ?_
        refine g_aload_n X d_MD_crash_64 1 rfl ?_
        refine g_iconst (nI 0) X d_MD_crash_65 (by decide) ?_
        refine g_iload_n X d_MD_crash_66 2 rfl ?_
        refine h_callV (As := [.int (nI 0), .int (nI a)]) (st := []) [0, 4] [(h, .inr (6, [.int (nI 0), .int (nI M), .int (nI (((K, z, V, 0) : R4).2.2.2)), .ref y1, .ref y2, .ref y3, .int (nI u), .ref y4, .ref y5, .ref y6, .ref y7, .int (nI c), .ref y8, .ref y9, .ref y10, .ref y11, .ref y12, .int bd, .int ck, .int ps, .int (nI pa), .int lc, .int (nI (b2n fb)), .long ek, .long ev, .int (nI el), .int (nI fn), .ref y13, .ref y14, .ref y15, .ref y16, .int (nI js), .ref y17, .int (nI (b2n ib))])), (y1, .inl (.long, 25, .inr (.inl (((K, z, V, 0) : R4).1)))), (y2, .inl (.long, 25, .inr (.inl (((K, z, V, 0) : R4).2.2.1)))), (y3, .inl (.int, 25, .inl (fun q => nI ((((K, z, V, 0) : R4).2.1) q)))), (y4, .inl (.int, 1024, .inl (fun q => nI (L q))))] X d_MD_crash_67 (c_MD_wholeAt hst hn4 (by omega) (Nat.zero_le _) hL9) (hl_w 0 rfl hn) rfl rfl k_ml_MD_261 k_cd_MD_wholeAt k_in_MD k_im_MD_wholeAt k_se_MD_wholeAt ⟨by decide +kernel, by decide +kernel, (by decide +kernel : (parseMethodDescriptor y_MD_wholeAt.desc).map (fun d => d.parameters.length) = some 2)⟩ ⟨Nat.le_of_ble_eq_true rfl, Nat.le_of_ble_eq_true rfl⟩ ⟨Nat.le_of_ble_eq_true rfl, Nat.le_of_ble_eq_true rfl⟩ (Nat.le_of_ble_eq_true rfl) hn rfl rfl rfl hp_no hp_no2 ?_
        refine g_istore [(5, .int (nI (whl L 0 a))), (4, .int (nI 0)), (0, .ref h), (1, .int (nI a)), (2, .int (-1)), (3, .int wm)] X d_MD_crash_70 (by decide) rfl ?_
        have L72 : ∀ (fu72 : Nat) (t : Nat) (Rr : R4) (p : Nat), ((redo L a 24 1024 (K, z, V, 0) 0) = (redo L a 24 t Rr p)) → (p ≤ a) → (1024 ≤ t + p) → (Rr.2.2.2 ≤ 24) → t < fu72 → fh_G mp l me (fh_rm 2 50 0 0) sm mm margs mbel mmet mcod mD fhCl (hp [(h, .inr (6, [.int th, .int (nI M), .int (nI n), .ref y1, .ref y2, .ref y3, .int (nI u), .ref y4, .ref y5, .ref y6, .ref y7, .int (nI c), .ref y8, .ref y9, .ref y10, .ref y11, .ref y12, .int bd, .int ck, .int ps, .int (nI pa), .int lc, .int (nI (b2n fb)), .long ek, .long ev, .int (nI el), .int (nI fn), .ref y13, .ref y14, .ref y15, .ref y16, .int (nI js), .ref y17, .int (nI (b2n ib))])), (y1, .inl (.long, 25, .inr (.inl K))), (y2, .inl (.long, 25, .inr (.inl V))), (y3, .inl (.int, 25, .inl (fun q => nI (z q)))), (y4, .inl (.int, 1024, .inl (fun q => nI (L q))))]) 12 (fh_MQ mbel mD fhCl (hp [(h, .inr (6, [.int th, .int (nI M), .int (nI n), .ref y1, .ref y2, .ref y3, .int (nI u), .ref y4, .ref y5, .ref y6, .ref y7, .int (nI c), .ref y8, .ref y9, .ref y10, .ref y11, .ref y12, .int bd, .int ck, .int ps, .int (nI pa), .int lc, .int (nI (b2n fb)), .long ek, .long ev, .int (nI el), .int (nI fn), .ref y13, .ref y14, .ref y15, .ref y16, .int (nI js), .ref y17, .int (nI (b2n ib))])), (y1, .inl (.long, 25, .inr (.inl K))), (y2, .inl (.long, 25, .inr (.inl V))), (y3, .inl (.int, 25, .inl (fun q => nI (z q)))), (y4, .inl (.int, 1024, .inl (fun q => nI (L q))))]) (fh_ret (some (.int (nI (redo L a 24 1024 (K, z, V, 0) 0).1.2.2.2))) [(h, .inr (6, [.int (nI 0), .int (nI M), .int (nI ((redo L a 24 1024 (K, z, V, 0) 0).1.2.2.2)), .ref y1, .ref y2, .ref y3, .int (nI ((redo L a 24 1024 (K, z, V, 0) 0).2)), .ref y4, .ref y5, .ref y6, .ref y7, .int (nI c), .ref y8, .ref y9, .ref y10, .ref y11, .ref y12, .int bd, .int ck, .int ps, .int (nI pa), .int lc, .int (nI (b2n fb)), .long ek, .long ev, .int (nI el), .int (nI fn), .ref y13, .ref y14, .ref y15, .ref y16, .int (nI js), .ref y17, .int (nI (b2n ib))])), (y1, .inl (.long, 25, .inr (.inl ((redo L a 24 1024 (K, z, V, 0) 0).1.1)))), (y2, .inl (.long, 25, .inr (.inl ((redo L a 24 1024 (K, z, V, 0) 0).1.2.2.1)))), (y3, .inl (.int, 25, .inl (fun q => nI (((redo L a 24 1024 (K, z, V, 0) 0).1.2.1) q)))), (y4, .inl (.int, 1024, .inl (fun q => nI (L q))))]) margs sm 0 0) 0 0 (hp [(h, .inr (6, [.int (nI 0), .int (nI M), .int (nI Rr.2.2.2), .ref y1, .ref y2, .ref y3, .int (nI u), .ref y4, .ref y5, .ref y6, .ref y7, .int (nI c), .ref y8, .ref y9, .ref y10, .ref y11, .ref y12, .int bd, .int ck, .int ps, .int (nI pa), .int lc, .int (nI (b2n fb)), .long ek, .long ev, .int (nI el), .int (nI fn), .ref y13, .ref y14, .ref y15, .ref y16, .int (nI js), .ref y17, .int (nI (b2n ib))])), (y1, .inl (.long, 25, .inr (.inl Rr.1))), (y2, .inl (.long, 25, .inr (.inl Rr.2.2.1))), (y3, .inl (.int, 25, .inl (fun q => nI ((Rr.2.1) q)))), (y4, .inl (.int, 1024, .inl (fun q => nI (L q))))]) 72 [(4, .int (nI p)), (5, .int (nI (whl L p a))), (0, .ref h), (1, .int (nI a)), (2, .int (-1)), (3, .int wm)] [] := by
          intro fu72
          induction fu72 with
          | zero => intro t Rr p q1 q2 q3 q4 hm72; exact absurd hm72 (Nat.not_lt_zero _)
          | succ fu72 ih72 =>
            intro t Rr p q1 q2 q3 q4 hm72
            have hw18 := whl_le (p := p) (u := a) hL9
            refine g_iload X d_MD_crash_72 1 rfl ?_
            refine g_if_le 221 X d_MD_crash_74 (by decide) (fun h74 => ?_) (fun h74 => ?_)
            · have h74 := cv_le0 (by omega) h74
              have hz9 := redo_stop (N := 24) (t := t) (S := Rr) (whl_0 h74)
              refine g_aload_n X d_MD_crash_221 2 rfl ?_
              refine g_iload X d_MD_crash_222 0 rfl ?_
              refine h_putf (k := 6) (ty := .int) 0 [(h, .inr (6, [.int (nI 0), .int (nI M), .int (nI Rr.2.2.2), .ref y1, .ref y2, .ref y3, .int (nI p), .ref y4, .ref y5, .ref y6, .ref y7, .int (nI c), .ref y8, .ref y9, .ref y10, .ref y11, .ref y12, .int bd, .int ck, .int ps, .int (nI pa), .int lc, .int (nI (b2n fb)), .long ek, .long ev, .int (nI el), .int (nI fn), .ref y13, .ref y14, .ref y15, .ref y16, .int (nI js), .ref y17, .int (nI (b2n ib))])), (y1, .inl (.long, 25, .inr (.inl Rr.1))), (y2, .inl (.long, 25, .inr (.inl Rr.2.2.1))), (y3, .inl (.int, 25, .inl (fun q => nI ((Rr.2.1) q)))), (y4, .inl (.int, 1024, .inl (fun q => nI (L q))))] X d_MD_crash_224 hn rfl rfl i_MD t_MD t_MD_ok n_MD (by decide) k_fl_MD_84 (fun _ h => h) rfl (by decide +kernel) rfl rfl (Nat.le_of_ble_eq_true rfl) rfl ?_
              refine g_aload_n X d_MD_crash_227 2 rfl ?_
              refine g_getf (k := 2) X d_MD_crash_228 (hl_w 0 rfl hn) rfl i_MD (by decide) k_fl_MD_73 (fun _ h => h) rfl ?_
              exact g_iret X hr d_MD_crash_231 (Nat.le_of_ble_eq_true rfl) (Nat.le_of_ble_eq_true rfl) (⟨by rw [q1, hz9], by rw [q1, hz9]⟩)
            · have h74 : 0 < whl L p a := Nat.pos_of_ne_zero (fun z => h74 (by rw [z, nI_0]; exact Int32.le_refl _))
              have hk8 := whl_p h74
              have hk7 : okn (L (p + 8)) := hk8.1.2.1
              have hb9 := ebn_bOf (L (p + 8))
              have hb7 := bOf_le hk7
              have hw9 := whl_t hk8
              have hk6 := hk8.2.1
              refine g_lconst 0 X d_MD_crash_77 (by decide) ?_
              refine g_lstore [(6, .long 0), (4, .int (nI p)), (5, .int (nI (whl L p a))), (0, .ref h), (1, .int (nI a)), (2, .int (-1)), (3, .int wm)] X d_MD_crash_78 (by decide) rfl ?_
              refine g_iconst (nI 0) X d_MD_crash_80 (by decide) ?_
              refine g_istore [(8, .int (nI 0)), (6, .long 0), (4, .int (nI p)), (5, .int (nI (whl L p a))), (0, .ref h), (1, .int (nI a)), (2, .int (-1)), (3, .int wm)] X d_MD_crash_81 (by decide) rfl ?_
              have L83 : ∀ (fu83 : Nat) (j : Nat), (j ≤ 8) → 8 - j < fu83 → fh_G mp l me (fh_rm 2 50 0 0) sm mm margs mbel mmet mcod mD fhCl (hp [(h, .inr (6, [.int th, .int (nI M), .int (nI n), .ref y1, .ref y2, .ref y3, .int (nI u), .ref y4, .ref y5, .ref y6, .ref y7, .int (nI c), .ref y8, .ref y9, .ref y10, .ref y11, .ref y12, .int bd, .int ck, .int ps, .int (nI pa), .int lc, .int (nI (b2n fb)), .long ek, .long ev, .int (nI el), .int (nI fn), .ref y13, .ref y14, .ref y15, .ref y16, .int (nI js), .ref y17, .int (nI (b2n ib))])), (y1, .inl (.long, 25, .inr (.inl K))), (y2, .inl (.long, 25, .inr (.inl V))), (y3, .inl (.int, 25, .inl (fun q => nI (z q)))), (y4, .inl (.int, 1024, .inl (fun q => nI (L q))))]) 12 (fh_MQ mbel mD fhCl (hp [(h, .inr (6, [.int th, .int (nI M), .int (nI n), .ref y1, .ref y2, .ref y3, .int (nI u), .ref y4, .ref y5, .ref y6, .ref y7, .int (nI c), .ref y8, .ref y9, .ref y10, .ref y11, .ref y12, .int bd, .int ck, .int ps, .int (nI pa), .int lc, .int (nI (b2n fb)), .long ek, .long ev, .int (nI el), .int (nI fn), .ref y13, .ref y14, .ref y15, .ref y16, .int (nI js), .ref y17, .int (nI (b2n ib))])), (y1, .inl (.long, 25, .inr (.inl K))), (y2, .inl (.long, 25, .inr (.inl V))), (y3, .inl (.int, 25, .inl (fun q => nI (z q)))), (y4, .inl (.int, 1024, .inl (fun q => nI (L q))))]) (fh_ret (some (.int (nI (redo L a 24 1024 (K, z, V, 0) 0).1.2.2.2))) [(h, .inr (6, [.int (nI 0), .int (nI M), .int (nI ((redo L a 24 1024 (K, z, V, 0) 0).1.2.2.2)), .ref y1, .ref y2, .ref y3, .int (nI ((redo L a 24 1024 (K, z, V, 0) 0).2)), .ref y4, .ref y5, .ref y6, .ref y7, .int (nI c), .ref y8, .ref y9, .ref y10, .ref y11, .ref y12, .int bd, .int ck, .int ps, .int (nI pa), .int lc, .int (nI (b2n fb)), .long ek, .long ev, .int (nI el), .int (nI fn), .ref y13, .ref y14, .ref y15, .ref y16, .int (nI js), .ref y17, .int (nI (b2n ib))])), (y1, .inl (.long, 25, .inr (.inl ((redo L a 24 1024 (K, z, V, 0) 0).1.1)))), (y2, .inl (.long, 25, .inr (.inl ((redo L a 24 1024 (K, z, V, 0) 0).1.2.2.1)))), (y3, .inl (.int, 25, .inl (fun q => nI (((redo L a 24 1024 (K, z, V, 0) 0).1.2.1) q)))), (y4, .inl (.int, 1024, .inl (fun q => nI (L q))))]) margs sm 0 0) 0 0 (hp [(h, .inr (6, [.int (nI 0), .int (nI M), .int (nI Rr.2.2.2), .ref y1, .ref y2, .ref y3, .int (nI u), .ref y4, .ref y5, .ref y6, .ref y7, .int (nI c), .ref y8, .ref y9, .ref y10, .ref y11, .ref y12, .int bd, .int ck, .int ps, .int (nI pa), .int lc, .int (nI (b2n fb)), .long ek, .long ev, .int (nI el), .int (nI fn), .ref y13, .ref y14, .ref y15, .ref y16, .int (nI js), .ref y17, .int (nI (b2n ib))])), (y1, .inl (.long, 25, .inr (.inl Rr.1))), (y2, .inl (.long, 25, .inr (.inl Rr.2.2.1))), (y3, .inl (.int, 25, .inl (fun q => nI ((Rr.2.1) q)))), (y4, .inl (.int, 1024, .inl (fun q => nI (L q))))]) 83 [(8, .int (nI j)), (6, .long (rdK (fun i => L (p + i)) j)), (4, .int (nI p)), (5, .int (nI (whl L p a))), (0, .ref h), (1, .int (nI a)), (2, .int (-1)), (3, .int wm)] [] := by
                intro fu83
                induction fu83 with
                | zero => intro j q5 hm83; exact absurd hm83 (Nat.not_lt_zero _)
                | succ fu83 ih83 =>
                  intro j q5 hm83
                  refine g_iload X d_MD_crash_83 0 rfl ?_
                  refine g_bipush (nI 8) X d_MD_crash_85 (by decide) ?_
                  refine g_icmp_ge 115 X d_MD_crash_87 (by decide) (fun h87 => ?_) (fun h87 => ?_)
                  · have h87 := cv_le (by omega) (by omega) h87
                    have e8 : j = 8 := by omega
                    refine g_lve (lv' := [(8, .int (nI j)), (6, .long (enK L p)), (4, .int (nI p)), (5, .int (nI (whl L p a))), (0, .ref h), (1, .int (nI a)), (2, .int (-1)), (3, .int wm)]) (by rw [e8]; rfl) ?_
                    refine g_aload_n X d_MD_crash_115 4 rfl ?_
                    refine g_getf (k := 2) X d_MD_crash_116 (hl_w 0 rfl hn) rfl i_MD (by decide) k_fl_MD_73 (fun _ h => h) rfl ?_
                    refine g_bipush (nI 24) X d_MD_crash_119 (by decide) ?_
                    refine g_icmp_ne 136 X d_MD_crash_121 (by decide) (fun h121 => ?_) (fun h121 => ?_)
                    · have h121 := cv_ne (by omega) (by omega) h121
                      have hr9 : (plc Rr.1 (enK L p) Rr.2.2.2 < Rr.2.2.2 ∧ Rr.1 (plc Rr.1 (enK L p) Rr.2.2.2) = (enK L p)) ∨ Rr.2.2.2 < 24 := Or.inr (by omega)
                      refine g_aload_n X d_MD_crash_136 4 rfl ?_
                      refine g_getf (k := 7) X d_MD_crash_137 (hl_w 0 rfl hn) rfl i_MD (by decide) k_fl_MD_20 (fun _ h => h) rfl ?_
                      refine g_iload X d_MD_crash_140 2 rfl ?_
                      refine g_bipush (nI 8) X d_MD_crash_142 (by decide) ?_
                      refine g_iadd X d_MD_crash_144 ?_
                      refine g_vi (nI (p + 8)) (nI_add _ _) ?_
                      refine h_iald X d_MD_crash_145 (hl_w 4 rfl hn) (by omega) (by omega) ?_
                      refine g_istore [(8, .int (nI (L (p + 8)))), (6, .long (enK L p)), (4, .int (nI p)), (5, .int (nI (whl L p a))), (0, .ref h), (1, .int (nI a)), (2, .int (-1)), (3, .int wm)] X d_MD_crash_146 (by decide) rfl ?_
                      refine g_lconst 0 X d_MD_crash_148 (by decide) ?_
                      refine g_lstore [(9, .long 0), (8, .int (nI (L (p + 8)))), (6, .long (enK L p)), (4, .int (nI p)), (5, .int (nI (whl L p a))), (0, .ref h), (1, .int (nI a)), (2, .int (-1)), (3, .int wm)] X d_MD_crash_149 (by decide) rfl ?_
                      refine g_iconst (nI 0) X d_MD_crash_151 (by decide) ?_
                      refine g_istore [(11, .int (nI 0)), (9, .long 0), (8, .int (nI (L (p + 8)))), (6, .long (enK L p)), (4, .int (nI p)), (5, .int (nI (whl L p a))), (0, .ref h), (1, .int (nI a)), (2, .int (-1)), (3, .int wm)] X d_MD_crash_152 (by decide) rfl ?_
                      have L154 : ∀ (fu154 : Nat) (j : Nat), (j ≤ bOf (L (p + 8))) → 9 - j < fu154 → fh_G mp l me (fh_rm 2 50 0 0) sm mm margs mbel mmet mcod mD fhCl (hp [(h, .inr (6, [.int th, .int (nI M), .int (nI n), .ref y1, .ref y2, .ref y3, .int (nI u), .ref y4, .ref y5, .ref y6, .ref y7, .int (nI c), .ref y8, .ref y9, .ref y10, .ref y11, .ref y12, .int bd, .int ck, .int ps, .int (nI pa), .int lc, .int (nI (b2n fb)), .long ek, .long ev, .int (nI el), .int (nI fn), .ref y13, .ref y14, .ref y15, .ref y16, .int (nI js), .ref y17, .int (nI (b2n ib))])), (y1, .inl (.long, 25, .inr (.inl K))), (y2, .inl (.long, 25, .inr (.inl V))), (y3, .inl (.int, 25, .inl (fun q => nI (z q)))), (y4, .inl (.int, 1024, .inl (fun q => nI (L q))))]) 12 (fh_MQ mbel mD fhCl (hp [(h, .inr (6, [.int th, .int (nI M), .int (nI n), .ref y1, .ref y2, .ref y3, .int (nI u), .ref y4, .ref y5, .ref y6, .ref y7, .int (nI c), .ref y8, .ref y9, .ref y10, .ref y11, .ref y12, .int bd, .int ck, .int ps, .int (nI pa), .int lc, .int (nI (b2n fb)), .long ek, .long ev, .int (nI el), .int (nI fn), .ref y13, .ref y14, .ref y15, .ref y16, .int (nI js), .ref y17, .int (nI (b2n ib))])), (y1, .inl (.long, 25, .inr (.inl K))), (y2, .inl (.long, 25, .inr (.inl V))), (y3, .inl (.int, 25, .inl (fun q => nI (z q)))), (y4, .inl (.int, 1024, .inl (fun q => nI (L q))))]) (fh_ret (some (.int (nI (redo L a 24 1024 (K, z, V, 0) 0).1.2.2.2))) [(h, .inr (6, [.int (nI 0), .int (nI M), .int (nI ((redo L a 24 1024 (K, z, V, 0) 0).1.2.2.2)), .ref y1, .ref y2, .ref y3, .int (nI ((redo L a 24 1024 (K, z, V, 0) 0).2)), .ref y4, .ref y5, .ref y6, .ref y7, .int (nI c), .ref y8, .ref y9, .ref y10, .ref y11, .ref y12, .int bd, .int ck, .int ps, .int (nI pa), .int lc, .int (nI (b2n fb)), .long ek, .long ev, .int (nI el), .int (nI fn), .ref y13, .ref y14, .ref y15, .ref y16, .int (nI js), .ref y17, .int (nI (b2n ib))])), (y1, .inl (.long, 25, .inr (.inl ((redo L a 24 1024 (K, z, V, 0) 0).1.1)))), (y2, .inl (.long, 25, .inr (.inl ((redo L a 24 1024 (K, z, V, 0) 0).1.2.2.1)))), (y3, .inl (.int, 25, .inl (fun q => nI (((redo L a 24 1024 (K, z, V, 0) 0).1.2.1) q)))), (y4, .inl (.int, 1024, .inl (fun q => nI (L q))))]) margs sm 0 0) 0 0 (hp [(h, .inr (6, [.int (nI 0), .int (nI M), .int (nI Rr.2.2.2), .ref y1, .ref y2, .ref y3, .int (nI u), .ref y4, .ref y5, .ref y6, .ref y7, .int (nI c), .ref y8, .ref y9, .ref y10, .ref y11, .ref y12, .int bd, .int ck, .int ps, .int (nI pa), .int lc, .int (nI (b2n fb)), .long ek, .long ev, .int (nI el), .int (nI fn), .ref y13, .ref y14, .ref y15, .ref y16, .int (nI js), .ref y17, .int (nI (b2n ib))])), (y1, .inl (.long, 25, .inr (.inl Rr.1))), (y2, .inl (.long, 25, .inr (.inl Rr.2.2.1))), (y3, .inl (.int, 25, .inl (fun q => nI ((Rr.2.1) q)))), (y4, .inl (.int, 1024, .inl (fun q => nI (L q))))]) 154 [(11, .int (nI j)), (9, .long (rdK (fun i => L (p + (9 + i))) j)), (8, .int (nI (L (p + 8)))), (6, .long (enK L p)), (4, .int (nI p)), (5, .int (nI (whl L p a))), (0, .ref h), (1, .int (nI a)), (2, .int (-1)), (3, .int wm)] [] := by
                        intro fu154
                        induction fu154 with
                        | zero => intro j q5 hm154; exact absurd hm154 (Nat.not_lt_zero _)
                        | succ fu154 ih154 =>
                          intro j q5 hm154
                          refine g_iload X d_MD_crash_154 0 rfl ?_
                          refine g_iload X d_MD_crash_156 2 rfl ?_
                          refine h_callS (As := [.int (nI (L (p + 8)))]) (st := [.int (nI j)]) [] [(h, .inr (6, [.int (nI 0), .int (nI M), .int (nI Rr.2.2.2), .ref y1, .ref y2, .ref y3, .int (nI u), .ref y4, .ref y5, .ref y6, .ref y7, .int (nI c), .ref y8, .ref y9, .ref y10, .ref y11, .ref y12, .int bd, .int ck, .int ps, .int (nI pa), .int lc, .int (nI (b2n fb)), .long ek, .long ev, .int (nI el), .int (nI fn), .ref y13, .ref y14, .ref y15, .ref y16, .int (nI js), .ref y17, .int (nI (b2n ib))])), (y1, .inl (.long, 25, .inr (.inl Rr.1))), (y2, .inl (.long, 25, .inr (.inl Rr.2.2.1))), (y3, .inl (.int, 25, .inl (fun q => nI ((Rr.2.1) q)))), (y4, .inl (.int, 1024, .inl (fun q => nI (L q))))] X d_MD_crash_158 (c_MD_bytesOf hst (hL9 _)) rfl k_ml_MD_87 k_cd_MD_bytesOf k_in_MD k_st_MD_bytesOf ⟨by decide +kernel, by decide +kernel, (by decide +kernel : (parseMethodDescriptor y_MD_bytesOf.desc).map (fun d => d.parameters.length) = some 1)⟩ ⟨Nat.le_of_ble_eq_true rfl, Nat.le_of_ble_eq_true rfl⟩ ⟨Nat.le_of_ble_eq_true rfl, Nat.le_of_ble_eq_true rfl⟩ (Nat.le_of_ble_eq_true rfl) hn rfl rfl rfl hp_no hp_no2 ?_
                          refine g_icmp_ge 192 X d_MD_crash_161 (by decide) (fun h161 => ?_) (fun h161 => ?_)
                          · have h161 := cv_le (by omega) (by omega) h161
                            have e8 : j = bOf (L (p + 8)) := by omega
                            refine g_lve (lv' := [(11, .int (nI j)), (9, .long (enV L p)), (8, .int (nI (L (p + 8)))), (6, .long (enK L p)), (4, .int (nI p)), (5, .int (nI (whl L p a))), (0, .ref h), (1, .int (nI a)), (2, .int (-1)), (3, .int wm)]) (by rw [e8, enV, hb9, Nat.add_sub_cancel_left]) ?_
                            refine g_aload_n X d_MD_crash_192 6 rfl ?_
                            refine g_lload X d_MD_crash_193 3 rfl ?_
                            refine g_lload X d_MD_crash_195 1 rfl ?_
                            refine g_iload X d_MD_crash_197 2 rfl ?_
                            refine h_callV (As := [.long (enK L p), .long (enV L p), .int (nI (L (p + 8)))]) (st := []) [0, 1, 2, 3] [(h, .inr (6, [.int (nI 0), .int (nI M), .int (nI ((stm Rr (enK L p) (L (p + 8)) (enV L p)).2.2.2)), .ref y1, .ref y2, .ref y3, .int (nI u), .ref y4, .ref y5, .ref y6, .ref y7, .int (nI c), .ref y8, .ref y9, .ref y10, .ref y11, .ref y12, .int bd, .int ck, .int ps, .int (nI pa), .int lc, .int (nI (b2n fb)), .long ek, .long ev, .int (nI el), .int (nI fn), .ref y13, .ref y14, .ref y15, .ref y16, .int (nI js), .ref y17, .int (nI (b2n ib))])), (y1, .inl (.long, 25, .inr (.inl ((stm Rr (enK L p) (L (p + 8)) (enV L p)).1)))), (y2, .inl (.long, 25, .inr (.inl ((stm Rr (enK L p) (L (p + 8)) (enV L p)).2.2.1)))), (y3, .inl (.int, 25, .inl (fun q => nI (((stm Rr (enK L p) (L (p + 8)) (enV L p)).2.1) q)))), (y4, .inl (.int, 1024, .inl (fun q => nI (L q))))] X d_MD_crash_199 (c_MD_set (K := Rr.1) (z := Rr.2.1) (V := Rr.2.2.1) (n := Rr.2.2.2) hst hn3 q4 hr9) (hl_w 0 rfl hn) rfl rfl k_ml_MD_105 k_cd_MD_set k_in_MD k_im_MD_set k_se_MD_set ⟨by decide +kernel, by decide +kernel, (by decide +kernel : (parseMethodDescriptor y_MD_set.desc).map (fun d => d.parameters.length) = some 3)⟩ ⟨Nat.le_of_ble_eq_true rfl, Nat.le_of_ble_eq_true rfl⟩ ⟨Nat.le_of_ble_eq_true rfl, Nat.le_of_ble_eq_true rfl⟩ (Nat.le_of_ble_eq_true rfl) hn rfl rfl rfl hp_no hp_no2 ?_
                            refine g_iload X d_MD_crash_202 4 rfl ?_
                            refine g_iload X d_MD_crash_204 5 rfl ?_
                            refine g_iadd X d_MD_crash_206 ?_
                            refine g_vi (nI (p + whl L p a)) (nI_add _ _) ?_
                            refine g_istore [(4, .int (nI (p + whl L p a))), (11, .int (nI j)), (9, .long (enV L p)), (8, .int (nI (L (p + 8)))), (6, .long (enK L p)), (5, .int (nI (whl L p a))), (0, .ref h), (1, .int (nI a)), (2, .int (-1)), (3, .int wm)] X d_MD_crash_207 (by decide) rfl ?_
                            refine g_lve (lv' := [(4, .int (nI (p + ebn (L (p + 8)) + 1))), (11, .int (nI j)), (9, .long (enV L p)), (8, .int (nI (L (p + 8)))), (6, .long (enK L p)), (5, .int (nI (whl L p a))), (0, .ref h), (1, .int (nI a)), (2, .int (-1)), (3, .int wm)]) (by rw [hw9, Nat.add_assoc]) ?_
                            refine g_aload_n X d_MD_crash_209 6 rfl ?_
                            refine g_iload X d_MD_crash_210 0 rfl ?_
                            refine g_iload_n X d_MD_crash_212 7 rfl ?_
                            refine h_callV (As := [.int (nI (p + ebn (L (p + 8)) + 1)), .int (nI a)]) (st := []) [0, 4] [(h, .inr (6, [.int (nI 0), .int (nI M), .int (nI ((stm Rr (enK L p) (L (p + 8)) (enV L p)).2.2.2)), .ref y1, .ref y2, .ref y3, .int (nI u), .ref y4, .ref y5, .ref y6, .ref y7, .int (nI c), .ref y8, .ref y9, .ref y10, .ref y11, .ref y12, .int bd, .int ck, .int ps, .int (nI pa), .int lc, .int (nI (b2n fb)), .long ek, .long ev, .int (nI el), .int (nI fn), .ref y13, .ref y14, .ref y15, .ref y16, .int (nI js), .ref y17, .int (nI (b2n ib))])), (y1, .inl (.long, 25, .inr (.inl ((stm Rr (enK L p) (L (p + 8)) (enV L p)).1)))), (y2, .inl (.long, 25, .inr (.inl ((stm Rr (enK L p) (L (p + 8)) (enV L p)).2.2.1)))), (y3, .inl (.int, 25, .inl (fun q => nI (((stm Rr (enK L p) (L (p + 8)) (enV L p)).2.1) q)))), (y4, .inl (.int, 1024, .inl (fun q => nI (L q))))] X d_MD_crash_213 (c_MD_wholeAt hst hn4 (by omega) (by have := hk8.2.1; omega) hL9) (hl_w 0 rfl hn) rfl rfl k_ml_MD_261 k_cd_MD_wholeAt k_in_MD k_im_MD_wholeAt k_se_MD_wholeAt ⟨by decide +kernel, by decide +kernel, (by decide +kernel : (parseMethodDescriptor y_MD_wholeAt.desc).map (fun d => d.parameters.length) = some 2)⟩ ⟨Nat.le_of_ble_eq_true rfl, Nat.le_of_ble_eq_true rfl⟩ ⟨Nat.le_of_ble_eq_true rfl, Nat.le_of_ble_eq_true rfl⟩ (Nat.le_of_ble_eq_true rfl) hn rfl rfl rfl hp_no hp_no2 ?_
                            refine g_istore [(5, .int (nI (whl L (p + ebn (L (p + 8)) + 1) a))), (4, .int (nI (p + ebn (L (p + 8)) + 1))), (11, .int (nI j)), (9, .long (enV L p)), (8, .int (nI (L (p + 8)))), (6, .long (enK L p)), (0, .ref h), (1, .int (nI a)), (2, .int (-1)), (3, .int wm)] X d_MD_crash_216 (by decide) rfl ?_
                            refine g_goto 72 X d_MD_crash_218 (by decide) ?_
                            refine g_lv [0, 1, 6, 7, 8, 9] [(5, .int (nI (whl L (p + ebn (L (p + 8)) + 1) a))), (4, .int (nI (p + ebn (L (p + 8)) + 1))), (0, .ref h), (1, .int (nI a)), (2, .int (-1)), (3, .int wm)] rfl ?_
                            have hst9 := redo_step (B := L) (u := a) (N := 24) (t := t - 1) (K := Rr.1) (z := Rr.2.1) (V := Rr.2.2.1) (n := Rr.2.2.2) hk8 hr9
                            rw [show t - 1 + 1 = t by omega] at hst9
                            have hr8 : isIn Rr.1 Rr.2.2.2 (enK L p) = true ∨ Rr.2.2.2 < 24 := hr9.imp isIn_t id
                            refine g_lv [1, 0, 2, 3, 4, 5] [(4, .int (nI (p + ebn (L (p + 8)) + 1))), (5, .int (nI (whl L (p + ebn (L (p + 8)) + 1) a))), (0, .ref h), (1, .int (nI a)), (2, .int (-1)), (3, .int wm)] rfl ?_
                            exact ih72 (t - 1) (stm Rr (enK L p) (L (p + 8)) (enV L p)) (p + ebn (L (p + 8)) + 1) (by rw [q1, ← hst9]) (by have := hk8.2.1; omega) (by omega) (stm_cnt q4 hr8) (by omega)
                          · have h161 := cv_nle (by omega) (by omega) h161
                            refine g_lload X d_MD_crash_164 1 rfl ?_
                            refine g_bipush (nI 8) X d_MD_crash_166 (by decide) ?_
                            refine g_lshl X d_MD_crash_168 ?_
                            refine g_aload_n X d_MD_crash_169 6 rfl ?_
                            refine g_getf (k := 7) X d_MD_crash_170 (hl_w 0 rfl hn) rfl i_MD (by decide) k_fl_MD_20 (fun _ h => h) rfl ?_
                            refine g_iload X d_MD_crash_173 4 rfl ?_
                            refine g_bipush (nI 9) X d_MD_crash_175 (by decide) ?_
                            refine g_iadd X d_MD_crash_177 ?_
                            refine g_vi (nI (p + 9)) (nI_add _ _) ?_
                            refine g_iload X d_MD_crash_178 0 rfl ?_
                            refine g_iadd X d_MD_crash_180 ?_
                            refine g_vi (nI (p + 9 + j)) (nI_add _ _) ?_
                            refine h_iald X d_MD_crash_181 (hl_w 4 rfl hn) (by omega) (by omega) ?_
                            refine g_i2l X d_MD_crash_182 ?_
                            refine g_lor X d_MD_crash_183 ?_
                            refine g_lstore [(9, .long (((rdK (fun i => L (p + (9 + i))) j) <<< ((nI 8).toInt64 &&& 63)) ||| ((nI (L (p + 9 + j))).toInt64))), (11, .int (nI j)), (8, .int (nI (L (p + 8)))), (6, .long (enK L p)), (4, .int (nI p)), (5, .int (nI (whl L p a))), (0, .ref h), (1, .int (nI a)), (2, .int (-1)), (3, .int wm)] X d_MD_crash_184 (by decide) rfl ?_
                            refine g_iinc (nI (j + 1)) 1 [(11, .int (nI (j + 1))), (9, .long (((rdK (fun i => L (p + (9 + i))) j) <<< ((nI 8).toInt64 &&& 63)) ||| ((nI (L (p + 9 + j))).toInt64))), (8, .int (nI (L (p + 8)))), (6, .long (enK L p)), (4, .int (nI p)), (5, .int (nI (whl L p a))), (0, .ref h), (1, .int (nI a)), (2, .int (-1)), (3, .int wm)] X d_MD_crash_186 rfl (nI_1 _) (by decide) rfl ?_
                            refine g_goto 154 X d_MD_crash_189 (by decide) ?_
                            refine g_lve (lv' := [(11, .int (nI (j + 1))), (9, .long (rdK (fun i => L (p + (9 + i))) (j + 1))), (8, .int (nI (L (p + 8)))), (6, .long (enK L p)), (4, .int (nI p)), (5, .int (nI (whl L p a))), (0, .ref h), (1, .int (nI a)), (2, .int (-1)), (3, .int wm)]) (by rw [show p + 9 + j = p + (9 + j) by omega]; rfl) ?_
                            exact ih154 (j + 1) (by omega) (by omega)
                      exact L154 _ 0 (Nat.zero_le _) (Nat.lt_succ_self _)
                    · have h121 := cv_eq (by omega) (by omega) h121
                      refine g_aload_n X d_MD_crash_124 4 rfl ?_
                      refine g_lload X d_MD_crash_125 1 rfl ?_
                      refine h_callV (As := [.long (enK L p)]) (st := []) [0, 1] [(h, .inr (6, [.int (nI 0), .int (nI M), .int (nI Rr.2.2.2), .ref y1, .ref y2, .ref y3, .int (nI u), .ref y4, .ref y5, .ref y6, .ref y7, .int (nI c), .ref y8, .ref y9, .ref y10, .ref y11, .ref y12, .int bd, .int ck, .int ps, .int (nI pa), .int lc, .int (nI (b2n fb)), .long ek, .long ev, .int (nI el), .int (nI fn), .ref y13, .ref y14, .ref y15, .ref y16, .int (nI js), .ref y17, .int (nI (b2n ib))])), (y1, .inl (.long, 25, .inr (.inl Rr.1))), (y2, .inl (.long, 25, .inr (.inl Rr.2.2.1))), (y3, .inl (.int, 25, .inl (fun q => nI ((Rr.2.1) q)))), (y4, .inl (.int, 1024, .inl (fun q => nI (L q))))] X d_MD_crash_127 (c_MD_hasKey (K := Rr.1) (n := Rr.2.2.2) hst hn1 q4) (hl_w 0 rfl hn) rfl rfl k_ml_MD_80 k_cd_MD_hasKey k_in_MD k_im_MD_hasKey k_se_MD_hasKey ⟨by decide +kernel, by decide +kernel, (by decide +kernel : (parseMethodDescriptor y_MD_hasKey.desc).map (fun d => d.parameters.length) = some 1)⟩ ⟨Nat.le_of_ble_eq_true rfl, Nat.le_of_ble_eq_true rfl⟩ ⟨Nat.le_of_ble_eq_true rfl, Nat.le_of_ble_eq_true rfl⟩ (Nat.le_of_ble_eq_true rfl) hn rfl rfl rfl hp_no hp_no2 ?_
                      refine g_if_ne 136 X d_MD_crash_130 (by decide) (fun h130 => ?_) (fun h130 => ?_)
                      · have h130 := cv_n0 (b2n_31 _) h130
                        have hr9 : (plc Rr.1 (enK L p) Rr.2.2.2 < Rr.2.2.2 ∧ Rr.1 (plc Rr.1 (enK L p) Rr.2.2.2) = (enK L p)) ∨ Rr.2.2.2 < 24 := Or.inl (of_decide_eq_true (b2n_1 h130))
                        refine g_aload_n X d_MD_crash_136 4 rfl ?_
                        refine g_getf (k := 7) X d_MD_crash_137 (hl_w 0 rfl hn) rfl i_MD (by decide) k_fl_MD_20 (fun _ h => h) rfl ?_
                        refine g_iload X d_MD_crash_140 2 rfl ?_
                        refine g_bipush (nI 8) X d_MD_crash_142 (by decide) ?_
                        refine g_iadd X d_MD_crash_144 ?_
                        refine g_vi (nI (p + 8)) (nI_add _ _) ?_
                        refine h_iald X d_MD_crash_145 (hl_w 4 rfl hn) (by omega) (by omega) ?_
                        refine g_istore [(8, .int (nI (L (p + 8)))), (6, .long (enK L p)), (4, .int (nI p)), (5, .int (nI (whl L p a))), (0, .ref h), (1, .int (nI a)), (2, .int (-1)), (3, .int wm)] X d_MD_crash_146 (by decide) rfl ?_
                        refine g_lconst 0 X d_MD_crash_148 (by decide) ?_
                        refine g_lstore [(9, .long 0), (8, .int (nI (L (p + 8)))), (6, .long (enK L p)), (4, .int (nI p)), (5, .int (nI (whl L p a))), (0, .ref h), (1, .int (nI a)), (2, .int (-1)), (3, .int wm)] X d_MD_crash_149 (by decide) rfl ?_
                        refine g_iconst (nI 0) X d_MD_crash_151 (by decide) ?_
                        refine g_istore [(11, .int (nI 0)), (9, .long 0), (8, .int (nI (L (p + 8)))), (6, .long (enK L p)), (4, .int (nI p)), (5, .int (nI (whl L p a))), (0, .ref h), (1, .int (nI a)), (2, .int (-1)), (3, .int wm)] X d_MD_crash_152 (by decide) rfl ?_
                        have L154 : ∀ (fu154 : Nat) (j : Nat), (j ≤ bOf (L (p + 8))) → 9 - j < fu154 → fh_G mp l me (fh_rm 2 50 0 0) sm mm margs mbel mmet mcod mD fhCl (hp [(h, .inr (6, [.int th, .int (nI M), .int (nI n), .ref y1, .ref y2, .ref y3, .int (nI u), .ref y4, .ref y5, .ref y6, .ref y7, .int (nI c), .ref y8, .ref y9, .ref y10, .ref y11, .ref y12, .int bd, .int ck, .int ps, .int (nI pa), .int lc, .int (nI (b2n fb)), .long ek, .long ev, .int (nI el), .int (nI fn), .ref y13, .ref y14, .ref y15, .ref y16, .int (nI js), .ref y17, .int (nI (b2n ib))])), (y1, .inl (.long, 25, .inr (.inl K))), (y2, .inl (.long, 25, .inr (.inl V))), (y3, .inl (.int, 25, .inl (fun q => nI (z q)))), (y4, .inl (.int, 1024, .inl (fun q => nI (L q))))]) 12 (fh_MQ mbel mD fhCl (hp [(h, .inr (6, [.int th, .int (nI M), .int (nI n), .ref y1, .ref y2, .ref y3, .int (nI u), .ref y4, .ref y5, .ref y6, .ref y7, .int (nI c), .ref y8, .ref y9, .ref y10, .ref y11, .ref y12, .int bd, .int ck, .int ps, .int (nI pa), .int lc, .int (nI (b2n fb)), .long ek, .long ev, .int (nI el), .int (nI fn), .ref y13, .ref y14, .ref y15, .ref y16, .int (nI js), .ref y17, .int (nI (b2n ib))])), (y1, .inl (.long, 25, .inr (.inl K))), (y2, .inl (.long, 25, .inr (.inl V))), (y3, .inl (.int, 25, .inl (fun q => nI (z q)))), (y4, .inl (.int, 1024, .inl (fun q => nI (L q))))]) (fh_ret (some (.int (nI (redo L a 24 1024 (K, z, V, 0) 0).1.2.2.2))) [(h, .inr (6, [.int (nI 0), .int (nI M), .int (nI ((redo L a 24 1024 (K, z, V, 0) 0).1.2.2.2)), .ref y1, .ref y2, .ref y3, .int (nI ((redo L a 24 1024 (K, z, V, 0) 0).2)), .ref y4, .ref y5, .ref y6, .ref y7, .int (nI c), .ref y8, .ref y9, .ref y10, .ref y11, .ref y12, .int bd, .int ck, .int ps, .int (nI pa), .int lc, .int (nI (b2n fb)), .long ek, .long ev, .int (nI el), .int (nI fn), .ref y13, .ref y14, .ref y15, .ref y16, .int (nI js), .ref y17, .int (nI (b2n ib))])), (y1, .inl (.long, 25, .inr (.inl ((redo L a 24 1024 (K, z, V, 0) 0).1.1)))), (y2, .inl (.long, 25, .inr (.inl ((redo L a 24 1024 (K, z, V, 0) 0).1.2.2.1)))), (y3, .inl (.int, 25, .inl (fun q => nI (((redo L a 24 1024 (K, z, V, 0) 0).1.2.1) q)))), (y4, .inl (.int, 1024, .inl (fun q => nI (L q))))]) margs sm 0 0) 0 0 (hp [(h, .inr (6, [.int (nI 0), .int (nI M), .int (nI Rr.2.2.2), .ref y1, .ref y2, .ref y3, .int (nI u), .ref y4, .ref y5, .ref y6, .ref y7, .int (nI c), .ref y8, .ref y9, .ref y10, .ref y11, .ref y12, .int bd, .int ck, .int ps, .int (nI pa), .int lc, .int (nI (b2n fb)), .long ek, .long ev, .int (nI el), .int (nI fn), .ref y13, .ref y14, .ref y15, .ref y16, .int (nI js), .ref y17, .int (nI (b2n ib))])), (y1, .inl (.long, 25, .inr (.inl Rr.1))), (y2, .inl (.long, 25, .inr (.inl Rr.2.2.1))), (y3, .inl (.int, 25, .inl (fun q => nI ((Rr.2.1) q)))), (y4, .inl (.int, 1024, .inl (fun q => nI (L q))))]) 154 [(11, .int (nI j)), (9, .long (rdK (fun i => L (p + (9 + i))) j)), (8, .int (nI (L (p + 8)))), (6, .long (enK L p)), (4, .int (nI p)), (5, .int (nI (whl L p a))), (0, .ref h), (1, .int (nI a)), (2, .int (-1)), (3, .int wm)] [] := by
                          intro fu154
                          induction fu154 with
                          | zero => intro j q5 hm154; exact absurd hm154 (Nat.not_lt_zero _)
                          | succ fu154 ih154 =>
                            intro j q5 hm154
                            refine g_iload X d_MD_crash_154 0 rfl ?_
                            refine g_iload X d_MD_crash_156 2 rfl ?_
                            refine h_callS (As := [.int (nI (L (p + 8)))]) (st := [.int (nI j)]) [] [(h, .inr (6, [.int (nI 0), .int (nI M), .int (nI Rr.2.2.2), .ref y1, .ref y2, .ref y3, .int (nI u), .ref y4, .ref y5, .ref y6, .ref y7, .int (nI c), .ref y8, .ref y9, .ref y10, .ref y11, .ref y12, .int bd, .int ck, .int ps, .int (nI pa), .int lc, .int (nI (b2n fb)), .long ek, .long ev, .int (nI el), .int (nI fn), .ref y13, .ref y14, .ref y15, .ref y16, .int (nI js), .ref y17, .int (nI (b2n ib))])), (y1, .inl (.long, 25, .inr (.inl Rr.1))), (y2, .inl (.long, 25, .inr (.inl Rr.2.2.1))), (y3, .inl (.int, 25, .inl (fun q => nI ((Rr.2.1) q)))), (y4, .inl (.int, 1024, .inl (fun q => nI (L q))))] X d_MD_crash_158 (c_MD_bytesOf hst (hL9 _)) rfl k_ml_MD_87 k_cd_MD_bytesOf k_in_MD k_st_MD_bytesOf ⟨by decide +kernel, by decide +kernel, (by decide +kernel : (parseMethodDescriptor y_MD_bytesOf.desc).map (fun d => d.parameters.length) = some 1)⟩ ⟨Nat.le_of_ble_eq_true rfl, Nat.le_of_ble_eq_true rfl⟩ ⟨Nat.le_of_ble_eq_true rfl, Nat.le_of_ble_eq_true rfl⟩ (Nat.le_of_ble_eq_true rfl) hn rfl rfl rfl hp_no hp_no2 ?_
                            refine g_icmp_ge 192 X d_MD_crash_161 (by decide) (fun h161 => ?_) (fun h161 => ?_)
                            · have h161 := cv_le (by omega) (by omega) h161
                              have e8 : j = bOf (L (p + 8)) := by omega
                              refine g_lve (lv' := [(11, .int (nI j)), (9, .long (enV L p)), (8, .int (nI (L (p + 8)))), (6, .long (enK L p)), (4, .int (nI p)), (5, .int (nI (whl L p a))), (0, .ref h), (1, .int (nI a)), (2, .int (-1)), (3, .int wm)]) (by rw [e8, enV, hb9, Nat.add_sub_cancel_left]) ?_
                              refine g_aload_n X d_MD_crash_192 6 rfl ?_
                              refine g_lload X d_MD_crash_193 3 rfl ?_
                              refine g_lload X d_MD_crash_195 1 rfl ?_
                              refine g_iload X d_MD_crash_197 2 rfl ?_
                              refine h_callV (As := [.long (enK L p), .long (enV L p), .int (nI (L (p + 8)))]) (st := []) [0, 1, 2, 3] [(h, .inr (6, [.int (nI 0), .int (nI M), .int (nI ((stm Rr (enK L p) (L (p + 8)) (enV L p)).2.2.2)), .ref y1, .ref y2, .ref y3, .int (nI u), .ref y4, .ref y5, .ref y6, .ref y7, .int (nI c), .ref y8, .ref y9, .ref y10, .ref y11, .ref y12, .int bd, .int ck, .int ps, .int (nI pa), .int lc, .int (nI (b2n fb)), .long ek, .long ev, .int (nI el), .int (nI fn), .ref y13, .ref y14, .ref y15, .ref y16, .int (nI js), .ref y17, .int (nI (b2n ib))])), (y1, .inl (.long, 25, .inr (.inl ((stm Rr (enK L p) (L (p + 8)) (enV L p)).1)))), (y2, .inl (.long, 25, .inr (.inl ((stm Rr (enK L p) (L (p + 8)) (enV L p)).2.2.1)))), (y3, .inl (.int, 25, .inl (fun q => nI (((stm Rr (enK L p) (L (p + 8)) (enV L p)).2.1) q)))), (y4, .inl (.int, 1024, .inl (fun q => nI (L q))))] X d_MD_crash_199 (c_MD_set (K := Rr.1) (z := Rr.2.1) (V := Rr.2.2.1) (n := Rr.2.2.2) hst hn3 q4 hr9) (hl_w 0 rfl hn) rfl rfl k_ml_MD_105 k_cd_MD_set k_in_MD k_im_MD_set k_se_MD_set ⟨by decide +kernel, by decide +kernel, (by decide +kernel : (parseMethodDescriptor y_MD_set.desc).map (fun d => d.parameters.length) = some 3)⟩ ⟨Nat.le_of_ble_eq_true rfl, Nat.le_of_ble_eq_true rfl⟩ ⟨Nat.le_of_ble_eq_true rfl, Nat.le_of_ble_eq_true rfl⟩ (Nat.le_of_ble_eq_true rfl) hn rfl rfl rfl hp_no hp_no2 ?_
                              refine g_iload X d_MD_crash_202 4 rfl ?_
                              refine g_iload X d_MD_crash_204 5 rfl ?_
                              refine g_iadd X d_MD_crash_206 ?_
                              refine g_vi (nI (p + whl L p a)) (nI_add _ _) ?_
                              refine g_istore [(4, .int (nI (p + whl L p a))), (11, .int (nI j)), (9, .long (enV L p)), (8, .int (nI (L (p + 8)))), (6, .long (enK L p)), (5, .int (nI (whl L p a))), (0, .ref h), (1, .int (nI a)), (2, .int (-1)), (3, .int wm)] X d_MD_crash_207 (by decide) rfl ?_
                              refine g_lve (lv' := [(4, .int (nI (p + ebn (L (p + 8)) + 1))), (11, .int (nI j)), (9, .long (enV L p)), (8, .int (nI (L (p + 8)))), (6, .long (enK L p)), (5, .int (nI (whl L p a))), (0, .ref h), (1, .int (nI a)), (2, .int (-1)), (3, .int wm)]) (by rw [hw9, Nat.add_assoc]) ?_
                              refine g_aload_n X d_MD_crash_209 6 rfl ?_
                              refine g_iload X d_MD_crash_210 0 rfl ?_
                              refine g_iload_n X d_MD_crash_212 7 rfl ?_
                              refine h_callV (As := [.int (nI (p + ebn (L (p + 8)) + 1)), .int (nI a)]) (st := []) [0, 4] [(h, .inr (6, [.int (nI 0), .int (nI M), .int (nI ((stm Rr (enK L p) (L (p + 8)) (enV L p)).2.2.2)), .ref y1, .ref y2, .ref y3, .int (nI u), .ref y4, .ref y5, .ref y6, .ref y7, .int (nI c), .ref y8, .ref y9, .ref y10, .ref y11, .ref y12, .int bd, .int ck, .int ps, .int (nI pa), .int lc, .int (nI (b2n fb)), .long ek, .long ev, .int (nI el), .int (nI fn), .ref y13, .ref y14, .ref y15, .ref y16, .int (nI js), .ref y17, .int (nI (b2n ib))])), (y1, .inl (.long, 25, .inr (.inl ((stm Rr (enK L p) (L (p + 8)) (enV L p)).1)))), (y2, .inl (.long, 25, .inr (.inl ((stm Rr (enK L p) (L (p + 8)) (enV L p)).2.2.1)))), (y3, .inl (.int, 25, .inl (fun q => nI (((stm Rr (enK L p) (L (p + 8)) (enV L p)).2.1) q)))), (y4, .inl (.int, 1024, .inl (fun q => nI (L q))))] X d_MD_crash_213 (c_MD_wholeAt hst hn4 (by omega) (by have := hk8.2.1; omega) hL9) (hl_w 0 rfl hn) rfl rfl k_ml_MD_261 k_cd_MD_wholeAt k_in_MD k_im_MD_wholeAt k_se_MD_wholeAt ⟨by decide +kernel, by decide +kernel, (by decide +kernel : (parseMethodDescriptor y_MD_wholeAt.desc).map (fun d => d.parameters.length) = some 2)⟩ ⟨Nat.le_of_ble_eq_true rfl, Nat.le_of_ble_eq_true rfl⟩ ⟨Nat.le_of_ble_eq_true rfl, Nat.le_of_ble_eq_true rfl⟩ (Nat.le_of_ble_eq_true rfl) hn rfl rfl rfl hp_no hp_no2 ?_
                              refine g_istore [(5, .int (nI (whl L (p + ebn (L (p + 8)) + 1) a))), (4, .int (nI (p + ebn (L (p + 8)) + 1))), (11, .int (nI j)), (9, .long (enV L p)), (8, .int (nI (L (p + 8)))), (6, .long (enK L p)), (0, .ref h), (1, .int (nI a)), (2, .int (-1)), (3, .int wm)] X d_MD_crash_216 (by decide) rfl ?_
                              refine g_goto 72 X d_MD_crash_218 (by decide) ?_
                              refine g_lv [0, 1, 6, 7, 8, 9] [(5, .int (nI (whl L (p + ebn (L (p + 8)) + 1) a))), (4, .int (nI (p + ebn (L (p + 8)) + 1))), (0, .ref h), (1, .int (nI a)), (2, .int (-1)), (3, .int wm)] rfl ?_
                              have hst9 := redo_step (B := L) (u := a) (N := 24) (t := t - 1) (K := Rr.1) (z := Rr.2.1) (V := Rr.2.2.1) (n := Rr.2.2.2) hk8 hr9
                              rw [show t - 1 + 1 = t by omega] at hst9
                              have hr8 : isIn Rr.1 Rr.2.2.2 (enK L p) = true ∨ Rr.2.2.2 < 24 := hr9.imp isIn_t id
                              refine g_lv [1, 0, 2, 3, 4, 5] [(4, .int (nI (p + ebn (L (p + 8)) + 1))), (5, .int (nI (whl L (p + ebn (L (p + 8)) + 1) a))), (0, .ref h), (1, .int (nI a)), (2, .int (-1)), (3, .int wm)] rfl ?_
                              exact ih72 (t - 1) (stm Rr (enK L p) (L (p + 8)) (enV L p)) (p + ebn (L (p + 8)) + 1) (by rw [q1, ← hst9]) (by have := hk8.2.1; omega) (by omega) (stm_cnt q4 hr8) (by omega)
                            · have h161 := cv_nle (by omega) (by omega) h161
                              refine g_lload X d_MD_crash_164 1 rfl ?_
                              refine g_bipush (nI 8) X d_MD_crash_166 (by decide) ?_
                              refine g_lshl X d_MD_crash_168 ?_
                              refine g_aload_n X d_MD_crash_169 6 rfl ?_
                              refine g_getf (k := 7) X d_MD_crash_170 (hl_w 0 rfl hn) rfl i_MD (by decide) k_fl_MD_20 (fun _ h => h) rfl ?_
                              refine g_iload X d_MD_crash_173 4 rfl ?_
                              refine g_bipush (nI 9) X d_MD_crash_175 (by decide) ?_
                              refine g_iadd X d_MD_crash_177 ?_
                              refine g_vi (nI (p + 9)) (nI_add _ _) ?_
                              refine g_iload X d_MD_crash_178 0 rfl ?_
                              refine g_iadd X d_MD_crash_180 ?_
                              refine g_vi (nI (p + 9 + j)) (nI_add _ _) ?_
                              refine h_iald X d_MD_crash_181 (hl_w 4 rfl hn) (by omega) (by omega) ?_
                              refine g_i2l X d_MD_crash_182 ?_
                              refine g_lor X d_MD_crash_183 ?_
                              refine g_lstore [(9, .long (((rdK (fun i => L (p + (9 + i))) j) <<< ((nI 8).toInt64 &&& 63)) ||| ((nI (L (p + 9 + j))).toInt64))), (11, .int (nI j)), (8, .int (nI (L (p + 8)))), (6, .long (enK L p)), (4, .int (nI p)), (5, .int (nI (whl L p a))), (0, .ref h), (1, .int (nI a)), (2, .int (-1)), (3, .int wm)] X d_MD_crash_184 (by decide) rfl ?_
                              refine g_iinc (nI (j + 1)) 1 [(11, .int (nI (j + 1))), (9, .long (((rdK (fun i => L (p + (9 + i))) j) <<< ((nI 8).toInt64 &&& 63)) ||| ((nI (L (p + 9 + j))).toInt64))), (8, .int (nI (L (p + 8)))), (6, .long (enK L p)), (4, .int (nI p)), (5, .int (nI (whl L p a))), (0, .ref h), (1, .int (nI a)), (2, .int (-1)), (3, .int wm)] X d_MD_crash_186 rfl (nI_1 _) (by decide) rfl ?_
                              refine g_goto 154 X d_MD_crash_189 (by decide) ?_
                              refine g_lve (lv' := [(11, .int (nI (j + 1))), (9, .long (rdK (fun i => L (p + (9 + i))) (j + 1))), (8, .int (nI (L (p + 8)))), (6, .long (enK L p)), (4, .int (nI p)), (5, .int (nI (whl L p a))), (0, .ref h), (1, .int (nI a)), (2, .int (-1)), (3, .int wm)]) (by rw [show p + 9 + j = p + (9 + j) by omega]; rfl) ?_
                              exact ih154 (j + 1) (by omega) (by omega)
                        exact L154 _ 0 (Nat.zero_le _) (Nat.lt_succ_self _)
                      · have h130 := cv_e0 (b2n_31 _) h130
                        have hz9 := redo_full (B := L) (u := a) (N := 24) (t := t) (p := p) (K := Rr.1) (z := Rr.2.1) (V := Rr.2.2.1) (n := Rr.2.2.2) (of_decide_eq_false (b2n_0 h130)) (by omega)
                        refine g_goto 221 X d_MD_crash_133 (by decide) ?_
                        refine g_aload_n X d_MD_crash_221 4 rfl ?_
                        refine g_iload X d_MD_crash_222 2 rfl ?_
                        refine h_putf (k := 6) (ty := .int) 0 [(h, .inr (6, [.int (nI 0), .int (nI M), .int (nI Rr.2.2.2), .ref y1, .ref y2, .ref y3, .int (nI p), .ref y4, .ref y5, .ref y6, .ref y7, .int (nI c), .ref y8, .ref y9, .ref y10, .ref y11, .ref y12, .int bd, .int ck, .int ps, .int (nI pa), .int lc, .int (nI (b2n fb)), .long ek, .long ev, .int (nI el), .int (nI fn), .ref y13, .ref y14, .ref y15, .ref y16, .int (nI js), .ref y17, .int (nI (b2n ib))])), (y1, .inl (.long, 25, .inr (.inl Rr.1))), (y2, .inl (.long, 25, .inr (.inl Rr.2.2.1))), (y3, .inl (.int, 25, .inl (fun q => nI ((Rr.2.1) q)))), (y4, .inl (.int, 1024, .inl (fun q => nI (L q))))] X d_MD_crash_224 hn rfl rfl i_MD t_MD t_MD_ok n_MD (by decide) k_fl_MD_84 (fun _ h => h) rfl (by decide +kernel) rfl rfl (Nat.le_of_ble_eq_true rfl) rfl ?_
                        refine g_aload_n X d_MD_crash_227 4 rfl ?_
                        refine g_getf (k := 2) X d_MD_crash_228 (hl_w 0 rfl hn) rfl i_MD (by decide) k_fl_MD_73 (fun _ h => h) rfl ?_
                        exact g_iret X hr d_MD_crash_231 (Nat.le_of_ble_eq_true rfl) (Nat.le_of_ble_eq_true rfl) (⟨by rw [q1, hz9], by rw [q1, hz9]⟩)
                  · have h87 := cv_nle (by omega) (by omega) h87
                    refine g_lload X d_MD_crash_90 1 rfl ?_
                    refine g_bipush (nI 8) X d_MD_crash_92 (by decide) ?_
                    refine g_lshl X d_MD_crash_94 ?_
                    refine g_aload_n X d_MD_crash_95 4 rfl ?_
                    refine g_getf (k := 7) X d_MD_crash_96 (hl_w 0 rfl hn) rfl i_MD (by decide) k_fl_MD_20 (fun _ h => h) rfl ?_
                    refine g_iload X d_MD_crash_99 2 rfl ?_
                    refine g_iload X d_MD_crash_101 0 rfl ?_
                    refine g_iadd X d_MD_crash_103 ?_
                    refine g_vi (nI (p + j)) (nI_add _ _) ?_
                    refine h_iald X d_MD_crash_104 (hl_w 4 rfl hn) (by omega) (by omega) ?_
                    refine g_i2l X d_MD_crash_105 ?_
                    refine g_lor X d_MD_crash_106 ?_
                    refine g_lstore [(6, .long (((rdK (fun i => L (p + i)) j) <<< ((nI 8).toInt64 &&& 63)) ||| ((nI (L (p + j))).toInt64))), (8, .int (nI j)), (4, .int (nI p)), (5, .int (nI (whl L p a))), (0, .ref h), (1, .int (nI a)), (2, .int (-1)), (3, .int wm)] X d_MD_crash_107 (by decide) rfl ?_
                    refine g_iinc (nI (j + 1)) 1 [(8, .int (nI (j + 1))), (6, .long (((rdK (fun i => L (p + i)) j) <<< ((nI 8).toInt64 &&& 63)) ||| ((nI (L (p + j))).toInt64))), (4, .int (nI p)), (5, .int (nI (whl L p a))), (0, .ref h), (1, .int (nI a)), (2, .int (-1)), (3, .int wm)] X d_MD_crash_109 rfl (nI_1 _) (by decide) rfl ?_
                    refine g_goto 83 X d_MD_crash_112 (by decide) ?_
                    refine g_lve (lv' := [(8, .int (nI (j + 1))), (6, .long (rdK (fun i => L (p + i)) (j + 1))), (4, .int (nI p)), (5, .int (nI (whl L p a))), (0, .ref h), (1, .int (nI a)), (2, .int (-1)), (3, .int wm)]) rfl ?_
                    exact ih83 (j + 1) (by omega) (by omega)
              exact L83 _ 0 (Nat.zero_le _) (Nat.lt_succ_self _)
        refine g_lv [1, 0, 2, 3, 4, 5] [(4, .int (nI 0)), (5, .int (nI (whl L 0 a))), (0, .ref h), (1, .int (nI a)), (2, .int (-1)), (3, .int wm)] rfl ?_
        exact L72 _ 1024 (K, z, V, 0) 0 rfl (Nat.zero_le _) (by omega) (Nat.zero_le _) (Nat.lt_succ_self _)
      · exact absurd (by decide) h35
    · have h25 := cv_e0 (b2n_31 _) h25
      rw [hx2] at h25
      exact absurd h25 (by decide)

set_option maxRecDepth 100000 in
set_option maxHeartbeats 1000000 in
theorem c_MD_crash_alter {l : Launch} (hst : l.stackTraces = false) {h y1 y2 y3 y4 y5 y6 y7 y8 y9 y10 y11 y12 y13 y14 y15 y16 y17 M n u c pa el fn js : Nat} {th bd ck ps lc : Int32} {fb ib : Bool} {ek ev : Int64} {K : Nat → Int64} {V : Nat → Int64} {z : Nat → Nat} {L : Nat → Nat} (hn : [h, y1, y2, y3, y4].Nodup) {a : Nat} {wm : Int32} (ha : a ≤ u) (hu : u ≤ 1024) (hL : ∀ q, L q < 256) {j9 : Nat} (hj9 : j9 < a) : fh_C l fhCl fhT y_MD_crash (.code y_MD_crash b_MD_crash 12 (some .int)) 2 50 [.ref h, .int (nI a), .int (nI j9), .int wm] (hp [(h, .inr (6, [.int th, .int (nI M), .int (nI n), .ref y1, .ref y2, .ref y3, .int (nI u), .ref y4, .ref y5, .ref y6, .ref y7, .int (nI c), .ref y8, .ref y9, .ref y10, .ref y11, .ref y12, .int bd, .int ck, .int ps, .int (nI pa), .int lc, .int (nI (b2n fb)), .long ek, .long ev, .int (nI el), .int (nI fn), .ref y13, .ref y14, .ref y15, .ref y16, .int (nI js), .ref y17, .int (nI (b2n ib))])), (y1, .inl (.long, 25, .inr (.inl K))), (y2, .inl (.long, 25, .inr (.inl V))), (y3, .inl (.int, 25, .inl (fun q => nI (z q)))), (y4, .inl (.int, 1024, .inl (fun q => nI (L q))))]) (hp []) 0 0 (fh_ret (some (.int (nI (redo (va_up L j9 (xrb (L j9) wm)) a 24 1024 (K, z, V, 0) 0).1.2.2.2))) [(h, .inr (6, [.int (nI 0), .int (nI M), .int (nI ((redo (va_up L j9 (xrb (L j9) wm)) a 24 1024 (K, z, V, 0) 0).1.2.2.2)), .ref y1, .ref y2, .ref y3, .int (nI ((redo (va_up L j9 (xrb (L j9) wm)) a 24 1024 (K, z, V, 0) 0).2)), .ref y4, .ref y5, .ref y6, .ref y7, .int (nI c), .ref y8, .ref y9, .ref y10, .ref y11, .ref y12, .int bd, .int ck, .int ps, .int (nI pa), .int lc, .int (nI (b2n fb)), .long ek, .long ev, .int (nI el), .int (nI fn), .ref y13, .ref y14, .ref y15, .ref y16, .int (nI js), .ref y17, .int (nI (b2n ib))])), (y1, .inl (.long, 25, .inr (.inl ((redo (va_up L j9 (xrb (L j9) wm)) a 24 1024 (K, z, V, 0) 0).1.1)))), (y2, .inl (.long, 25, .inr (.inl ((redo (va_up L j9 (xrb (L j9) wm)) a 24 1024 (K, z, V, 0) 0).1.2.2.1)))), (y3, .inl (.int, 25, .inl (fun q => nI (((redo (va_up L j9 (xrb (L j9) wm)) a 24 1024 (K, z, V, 0) 0).1.2.1) q)))), (y4, .inl (.int, 1024, .inl (fun q => nI (((va_up L j9 (xrb (L j9) wm))) q))))]) := by
  refine fh_enter (by decide) hst (Nat.le_of_ble_eq_true rfl) ?_
  intro mD mp me sm mm margs mbel mmet mcod X hr hnm hno hf0
  show fh_G mp l me (fh_rm 2 50 0 0) sm mm margs mbel mmet mcod mD fhCl (hp [(h, .inr (6, [.int th, .int (nI M), .int (nI n), .ref y1, .ref y2, .ref y3, .int (nI u), .ref y4, .ref y5, .ref y6, .ref y7, .int (nI c), .ref y8, .ref y9, .ref y10, .ref y11, .ref y12, .int bd, .int ck, .int ps, .int (nI pa), .int lc, .int (nI (b2n fb)), .long ek, .long ev, .int (nI el), .int (nI fn), .ref y13, .ref y14, .ref y15, .ref y16, .int (nI js), .ref y17, .int (nI (b2n ib))])), (y1, .inl (.long, 25, .inr (.inl K))), (y2, .inl (.long, 25, .inr (.inl V))), (y3, .inl (.int, 25, .inl (fun q => nI (z q)))), (y4, .inl (.int, 1024, .inl (fun q => nI (L q))))]) 12 _ 0 0 (hp [(h, .inr (6, [.int th, .int (nI M), .int (nI n), .ref y1, .ref y2, .ref y3, .int (nI u), .ref y4, .ref y5, .ref y6, .ref y7, .int (nI c), .ref y8, .ref y9, .ref y10, .ref y11, .ref y12, .int bd, .int ck, .int ps, .int (nI pa), .int lc, .int (nI (b2n fb)), .long ek, .long ev, .int (nI el), .int (nI fn), .ref y13, .ref y14, .ref y15, .ref y16, .int (nI js), .ref y17, .int (nI (b2n ib))])), (y1, .inl (.long, 25, .inr (.inl K))), (y2, .inl (.long, 25, .inr (.inl V))), (y3, .inl (.int, 25, .inl (fun q => nI (z q)))), (y4, .inl (.int, 1024, .inl (fun q => nI (L q))))]) 0 [(0, .ref h), (1, .int (nI a)), (2, .int (nI j9)), (3, .int wm)] []
  have hn4 : [h, y4].Nodup := (List.Nodup.sublist (by repeat first | exact List.nil_sublist _ | apply List.Sublist.cons₂ | apply List.Sublist.cons) hn)
  have hn1 : [h, y1].Nodup := (List.Nodup.sublist (by repeat first | exact List.nil_sublist _ | apply List.Sublist.cons₂ | apply List.Sublist.cons) hn)
  have hn3 : [h, y1, y2, y3].Nodup := (List.Nodup.sublist (by repeat first | exact List.nil_sublist _ | apply List.Sublist.cons₂ | apply List.Sublist.cons) hn)
  have hx1 := win_ki ha (by omega)
  have hx2 : wnb (nI j9) (-1) (nI a - nI 1) = true := win_a hj9 (by omega)
  have hL9 : ∀ q, (va_up L j9 (xrb (L j9) wm)) q < 256 := fun q => by unfold va_up; split; exact xrb_lt _ _; exact hL q
  refine g_aload_n X d_MD_crash_0 0 rfl ?_
  refine g_iconst (nI 0) X d_MD_crash_1 (by decide) ?_
  refine h_putf (k := 0) (ty := .int) 0 [(h, .inr (6, [.int (nI 0), .int (nI M), .int (nI n), .ref y1, .ref y2, .ref y3, .int (nI u), .ref y4, .ref y5, .ref y6, .ref y7, .int (nI c), .ref y8, .ref y9, .ref y10, .ref y11, .ref y12, .int bd, .int ck, .int ps, .int (nI pa), .int lc, .int (nI (b2n fb)), .long ek, .long ev, .int (nI el), .int (nI fn), .ref y13, .ref y14, .ref y15, .ref y16, .int (nI js), .ref y17, .int (nI (b2n ib))])), (y1, .inl (.long, 25, .inr (.inl K))), (y2, .inl (.long, 25, .inr (.inl V))), (y3, .inl (.int, 25, .inl (fun q => nI (z q)))), (y4, .inl (.int, 1024, .inl (fun q => nI (L q))))] X d_MD_crash_2 hn rfl rfl i_MD t_MD t_MD_ok n_MD (by decide) k_fl_MD_70 (fun _ h => h) rfl (by decide +kernel) rfl rfl (Nat.le_of_ble_eq_true rfl) rfl ?_
  refine g_iload_n X d_MD_crash_5 1 rfl ?_
  refine g_iconst (nI 0) X d_MD_crash_6 (by decide) ?_
  refine g_aload_n X d_MD_crash_7 0 rfl ?_
  refine g_getf (k := 6) X d_MD_crash_8 (hl_w 0 rfl hn) rfl i_MD (by decide) k_fl_MD_84 (fun _ h => h) rfl ?_
  refine h_callS (As := [.int (nI a), .int (nI 0), .int (nI u)]) (st := []) [] [(h, .inr (6, [.int (nI 0), .int (nI M), .int (nI n), .ref y1, .ref y2, .ref y3, .int (nI u), .ref y4, .ref y5, .ref y6, .ref y7, .int (nI c), .ref y8, .ref y9, .ref y10, .ref y11, .ref y12, .int bd, .int ck, .int ps, .int (nI pa), .int lc, .int (nI (b2n fb)), .long ek, .long ev, .int (nI el), .int (nI fn), .ref y13, .ref y14, .ref y15, .ref y16, .int (nI js), .ref y17, .int (nI (b2n ib))])), (y1, .inl (.long, 25, .inr (.inl K))), (y2, .inl (.long, 25, .inr (.inl V))), (y3, .inl (.int, 25, .inl (fun q => nI (z q)))), (y4, .inl (.int, 1024, .inl (fun q => nI (L q))))] X d_MD_crash_11 (c_MD_within hst) rfl k_ml_MD_109 k_cd_MD_within k_in_MD k_st_MD_within ⟨by decide +kernel, by decide +kernel, (by decide +kernel : (parseMethodDescriptor y_MD_within.desc).map (fun d => d.parameters.length) = some 3)⟩ ⟨Nat.le_of_ble_eq_true rfl, Nat.le_of_ble_eq_true rfl⟩ ⟨Nat.le_of_ble_eq_true rfl, Nat.le_of_ble_eq_true rfl⟩ (Nat.le_of_ble_eq_true rfl) hn rfl rfl rfl hp_no hp_no2 ?_
  refine g_if_eq 28 X d_MD_crash_14 (by decide) (fun h14 => ?_) (fun h14 => ?_)
  · have h14 := cv_e0 (b2n_31 _) h14
    rw [hx1] at h14
    exact absurd h14 (by decide)
  · have h14 := cv_n0 (b2n_31 _) h14
    refine g_iload_n X d_MD_crash_17 2 rfl ?_
    refine g_iconst (-1) X d_MD_crash_18 (by decide) ?_
    refine g_iload_n X d_MD_crash_19 1 rfl ?_
    refine g_iconst (nI 1) X d_MD_crash_20 (by decide) ?_
    refine g_isub X d_MD_crash_21 ?_
    refine h_callS (As := [.int (nI j9), .int (-1), .int ((nI a) - (nI 1))]) (st := []) [] [(h, .inr (6, [.int (nI 0), .int (nI M), .int (nI n), .ref y1, .ref y2, .ref y3, .int (nI u), .ref y4, .ref y5, .ref y6, .ref y7, .int (nI c), .ref y8, .ref y9, .ref y10, .ref y11, .ref y12, .int bd, .int ck, .int ps, .int (nI pa), .int lc, .int (nI (b2n fb)), .long ek, .long ev, .int (nI el), .int (nI fn), .ref y13, .ref y14, .ref y15, .ref y16, .int (nI js), .ref y17, .int (nI (b2n ib))])), (y1, .inl (.long, 25, .inr (.inl K))), (y2, .inl (.long, 25, .inr (.inl V))), (y3, .inl (.int, 25, .inl (fun q => nI (z q)))), (y4, .inl (.int, 1024, .inl (fun q => nI (L q))))] X d_MD_crash_22 (c_MD_within hst) rfl k_ml_MD_109 k_cd_MD_within k_in_MD k_st_MD_within ⟨by decide +kernel, by decide +kernel, (by decide +kernel : (parseMethodDescriptor y_MD_within.desc).map (fun d => d.parameters.length) = some 3)⟩ ⟨Nat.le_of_ble_eq_true rfl, Nat.le_of_ble_eq_true rfl⟩ ⟨Nat.le_of_ble_eq_true rfl, Nat.le_of_ble_eq_true rfl⟩ (Nat.le_of_ble_eq_true rfl) hn rfl rfl rfl hp_no hp_no2 ?_
    refine g_if_ne 34 X d_MD_crash_25 (by decide) (fun h25 => ?_) (fun h25 => ?_)
    · have h25 := cv_n0 (b2n_31 _) h25
      refine g_iload_n X d_MD_crash_34 2 rfl ?_
      refine g_if_lt 56 X d_MD_crash_35 (by decide) (fun h35 => ?_) (fun h35 => ?_)
      · exact (cv_l0 (by omega) h35).elim
      · refine g_aload_n X d_MD_crash_38 0 rfl ?_
        refine g_getf (k := 7) X d_MD_crash_39 (hl_w 0 rfl hn) rfl i_MD (by decide) k_fl_MD_20 (fun _ h => h) rfl ?_
        refine g_iload_n X d_MD_crash_42 2 rfl ?_
        refine g_aload_n X d_MD_crash_43 0 rfl ?_
        refine g_getf (k := 7) X d_MD_crash_44 (hl_w 0 rfl hn) rfl i_MD (by decide) k_fl_MD_20 (fun _ h => h) rfl ?_
        refine g_iload_n X d_MD_crash_47 2 rfl ?_
        refine h_iald X d_MD_crash_48 (hl_w 4 rfl hn) (by omega) (by omega) ?_
        refine g_iload_n X d_MD_crash_49 3 rfl ?_
        refine g_sipush (nI 255) X d_MD_crash_50 (by decide) ?_
        refine g_iand X d_MD_crash_53 ?_
        refine g_ixor X d_MD_crash_54 ?_
        refine g_vi (nI (xrb (L j9) wm)) (xor255 (hL _) wm) ?_
        refine h_iastN 4 [(h, .inr (6, [.int (nI 0), .int (nI M), .int (nI n), .ref y1, .ref y2, .ref y3, .int (nI u), .ref y4, .ref y5, .ref y6, .ref y7, .int (nI c), .ref y8, .ref y9, .ref y10, .ref y11, .ref y12, .int bd, .int ck, .int ps, .int (nI pa), .int lc, .int (nI (b2n fb)), .long ek, .long ev, .int (nI el), .int (nI fn), .ref y13, .ref y14, .ref y15, .ref y16, .int (nI js), .ref y17, .int (nI (b2n ib))])), (y1, .inl (.long, 25, .inr (.inl K))), (y2, .inl (.long, 25, .inr (.inl V))), (y3, .inl (.int, 25, .inl (fun q => nI (z q)))), (y4, .inl (.int, 1024, .inl (fun q => nI ((va_up L j9 (xrb (L j9) wm)) q))))] X d_MD_crash_55 hn rfl (by omega) (by omega) rfl ?_
        refine g_aload_n X d_MD_crash_56 0 rfl ?_
        refine g_iconst (nI 0) X d_MD_crash_57 (by decide) ?_
        refine h_putf (k := 2) (ty := .int) 0 [(h, .inr (6, [.int (nI 0), .int (nI M), .int (nI 0), .ref y1, .ref y2, .ref y3, .int (nI u), .ref y4, .ref y5, .ref y6, .ref y7, .int (nI c), .ref y8, .ref y9, .ref y10, .ref y11, .ref y12, .int bd, .int ck, .int ps, .int (nI pa), .int lc, .int (nI (b2n fb)), .long ek, .long ev, .int (nI el), .int (nI fn), .ref y13, .ref y14, .ref y15, .ref y16, .int (nI js), .ref y17, .int (nI (b2n ib))])), (y1, .inl (.long, 25, .inr (.inl K))), (y2, .inl (.long, 25, .inr (.inl V))), (y3, .inl (.int, 25, .inl (fun q => nI (z q)))), (y4, .inl (.int, 1024, .inl (fun q => nI ((va_up L j9 (xrb (L j9) wm)) q))))] X d_MD_crash_58 hn rfl rfl i_MD t_MD t_MD_ok n_MD (by decide) k_fl_MD_73 (fun _ h => h) rfl (by decide +kernel) rfl rfl (Nat.le_of_ble_eq_true rfl) rfl ?_
        refine g_hp (ws' := [(h, .inr (6, [.int (nI 0), .int (nI M), .int (nI (((K, z, V, 0) : R4).2.2.2)), .ref y1, .ref y2, .ref y3, .int (nI u), .ref y4, .ref y5, .ref y6, .ref y7, .int (nI c), .ref y8, .ref y9, .ref y10, .ref y11, .ref y12, .int bd, .int ck, .int ps, .int (nI pa), .int lc, .int (nI (b2n fb)), .long ek, .long ev, .int (nI el), .int (nI fn), .ref y13, .ref y14, .ref y15, .ref y16, .int (nI js), .ref y17, .int (nI (b2n ib))])), (y1, .inl (.long, 25, .inr (.inl (((K, z, V, 0) : R4).1)))), (y2, .inl (.long, 25, .inr (.inl (((K, z, V, 0) : R4).2.2.1)))), (y3, .inl (.int, 25, .inl (fun q => nI ((((K, z, V, 0) : R4).2.1) q)))), (y4, .inl (.int, 1024, .inl (fun q => nI (((va_up L j9 (xrb (L j9) wm))) q))))]) (rfl) ?_
        refine g_iconst (nI 0) X d_MD_crash_61 (by decide) ?_
        refine g_istore [(4, .int (nI 0)), (0, .ref h), (1, .int (nI a)), (2, .int (nI j9)), (3, .int wm)] X d_MD_crash_62 (by decide) rfl ?_
        refine g_aload_n X d_MD_crash_64 1 rfl ?_
        refine g_iconst (nI 0) X d_MD_crash_65 (by decide) ?_
        refine g_iload_n X d_MD_crash_66 2 rfl ?_
        refine h_callV (As := [.int (nI 0), .int (nI a)]) (st := []) [0, 4] [(h, .inr (6, [.int (nI 0), .int (nI M), .int (nI (((K, z, V, 0) : R4).2.2.2)), .ref y1, .ref y2, .ref y3, .int (nI u), .ref y4, .ref y5, .ref y6, .ref y7, .int (nI c), .ref y8, .ref y9, .ref y10, .ref y11, .ref y12, .int bd, .int ck, .int ps, .int (nI pa), .int lc, .int (nI (b2n fb)), .long ek, .long ev, .int (nI el), .int (nI fn), .ref y13, .ref y14, .ref y15, .ref y16, .int (nI js), .ref y17, .int (nI (b2n ib))])), (y1, .inl (.long, 25, .inr (.inl (((K, z, V, 0) : R4).1)))), (y2, .inl (.long, 25, .inr (.inl (((K, z, V, 0) : R4).2.2.1)))), (y3, .inl (.int, 25, .inl (fun q => nI ((((K, z, V, 0) : R4).2.1) q)))), (y4, .inl (.int, 1024, .inl (fun q => nI (((va_up L j9 (xrb (L j9) wm))) q))))] X d_MD_crash_67 (c_MD_wholeAt hst hn4 (by omega) (Nat.zero_le _) hL9) (hl_w 0 rfl hn) rfl rfl k_ml_MD_261 k_cd_MD_wholeAt k_in_MD k_im_MD_wholeAt k_se_MD_wholeAt ⟨by decide +kernel, by decide +kernel, (by decide +kernel : (parseMethodDescriptor y_MD_wholeAt.desc).map (fun d => d.parameters.length) = some 2)⟩ ⟨Nat.le_of_ble_eq_true rfl, Nat.le_of_ble_eq_true rfl⟩ ⟨Nat.le_of_ble_eq_true rfl, Nat.le_of_ble_eq_true rfl⟩ (Nat.le_of_ble_eq_true rfl) hn rfl rfl rfl hp_no hp_no2 ?_
        refine g_istore [(5, .int (nI (whl (va_up L j9 (xrb (L j9) wm)) 0 a))), (4, .int (nI 0)), (0, .ref h), (1, .int (nI a)), (2, .int (nI j9)), (3, .int wm)] X d_MD_crash_70 (by decide) rfl ?_
        have L72 : ∀ (fu72 : Nat) (t : Nat) (Rr : R4) (p : Nat), ((redo (va_up L j9 (xrb (L j9) wm)) a 24 1024 (K, z, V, 0) 0) = (redo (va_up L j9 (xrb (L j9) wm)) a 24 t Rr p)) → (p ≤ a) → (1024 ≤ t + p) → (Rr.2.2.2 ≤ 24) → t < fu72 → fh_G mp l me (fh_rm 2 50 0 0) sm mm margs mbel mmet mcod mD fhCl (hp [(h, .inr (6, [.int th, .int (nI M), .int (nI n), .ref y1, .ref y2, .ref y3, .int (nI u), .ref y4, .ref y5, .ref y6, .ref y7, .int (nI c), .ref y8, .ref y9, .ref y10, .ref y11, .ref y12, .int bd, .int ck, .int ps, .int (nI pa), .int lc, .int (nI (b2n fb)), .long ek, .long ev, .int (nI el), .int (nI fn), .ref y13, .ref y14, .ref y15, .ref y16, .int (nI js), .ref y17, .int (nI (b2n ib))])), (y1, .inl (.long, 25, .inr (.inl K))), (y2, .inl (.long, 25, .inr (.inl V))), (y3, .inl (.int, 25, .inl (fun q => nI (z q)))), (y4, .inl (.int, 1024, .inl (fun q => nI (L q))))]) 12 (fh_MQ mbel mD fhCl (hp [(h, .inr (6, [.int th, .int (nI M), .int (nI n), .ref y1, .ref y2, .ref y3, .int (nI u), .ref y4, .ref y5, .ref y6, .ref y7, .int (nI c), .ref y8, .ref y9, .ref y10, .ref y11, .ref y12, .int bd, .int ck, .int ps, .int (nI pa), .int lc, .int (nI (b2n fb)), .long ek, .long ev, .int (nI el), .int (nI fn), .ref y13, .ref y14, .ref y15, .ref y16, .int (nI js), .ref y17, .int (nI (b2n ib))])), (y1, .inl (.long, 25, .inr (.inl K))), (y2, .inl (.long, 25, .inr (.inl V))), (y3, .inl (.int, 25, .inl (fun q => nI (z q)))), (y4, .inl (.int, 1024, .inl (fun q => nI (L q))))]) (fh_ret (some (.int (nI (redo (va_up L j9 (xrb (L j9) wm)) a 24 1024 (K, z, V, 0) 0).1.2.2.2))) [(h, .inr (6, [.int (nI 0), .int (nI M), .int (nI ((redo (va_up L j9 (xrb (L j9) wm)) a 24 1024 (K, z, V, 0) 0).1.2.2.2)), .ref y1, .ref y2, .ref y3, .int (nI ((redo (va_up L j9 (xrb (L j9) wm)) a 24 1024 (K, z, V, 0) 0).2)), .ref y4, .ref y5, .ref y6, .ref y7, .int (nI c), .ref y8, .ref y9, .ref y10, .ref y11, .ref y12, .int bd, .int ck, .int ps, .int (nI pa), .int lc, .int (nI (b2n fb)), .long ek, .long ev, .int (nI el), .int (nI fn), .ref y13, .ref y14, .ref y15, .ref y16, .int (nI js), .ref y17, .int (nI (b2n ib))])), (y1, .inl (.long, 25, .inr (.inl ((redo (va_up L j9 (xrb (L j9) wm)) a 24 1024 (K, z, V, 0) 0).1.1)))), (y2, .inl (.long, 25, .inr (.inl ((redo (va_up L j9 (xrb (L j9) wm)) a 24 1024 (K, z, V, 0) 0).1.2.2.1)))), (y3, .inl (.int, 25, .inl (fun q => nI (((redo (va_up L j9 (xrb (L j9) wm)) a 24 1024 (K, z, V, 0) 0).1.2.1) q)))), (y4, .inl (.int, 1024, .inl (fun q => nI (((va_up L j9 (xrb (L j9) wm))) q))))]) margs sm 0 0) 0 0 (hp [(h, .inr (6, [.int (nI 0), .int (nI M), .int (nI Rr.2.2.2), .ref y1, .ref y2, .ref y3, .int (nI u), .ref y4, .ref y5, .ref y6, .ref y7, .int (nI c), .ref y8, .ref y9, .ref y10, .ref y11, .ref y12, .int bd, .int ck, .int ps, .int (nI pa), .int lc, .int (nI (b2n fb)), .long ek, .long ev, .int (nI el), .int (nI fn), .ref y13, .ref y14, .ref y15, .ref y16, .int (nI js), .ref y17, .int (nI (b2n ib))])), (y1, .inl (.long, 25, .inr (.inl Rr.1))), (y2, .inl (.long, 25, .inr (.inl Rr.2.2.1))), (y3, .inl (.int, 25, .inl (fun q => nI ((Rr.2.1) q)))), (y4, .inl (.int, 1024, .inl (fun q => nI (((va_up L j9 (xrb (L j9) wm))) q))))]) 72 [(4, .int (nI p)), (5, .int (nI (whl (va_up L j9 (xrb (L j9) wm)) p a))), (0, .ref h), (1, .int (nI a)), (2, .int (nI j9)), (3, .int wm)] [] := by
          intro fu72
          induction fu72 with
          | zero => intro t Rr p q1 q2 q3 q4 hm72; exact absurd hm72 (Nat.not_lt_zero _)
          | succ fu72 ih72 =>
            intro t Rr p q1 q2 q3 q4 hm72
            have hw18 := whl_le (p := p) (u := a) hL9
            refine g_iload X d_MD_crash_72 1 rfl ?_
            refine g_if_le 221 X d_MD_crash_74 (by decide) (fun h74 => ?_) (fun h74 => ?_)
            · have h74 := cv_le0 (by omega) h74
              have hz9 := redo_stop (N := 24) (t := t) (S := Rr) (whl_0 h74)
              refine g_aload_n X d_MD_crash_221 2 rfl ?_
              refine g_iload X d_MD_crash_222 0 rfl ?_
              refine h_putf (k := 6) (ty := .int) 0 [(h, .inr (6, [.int (nI 0), .int (nI M), .int (nI Rr.2.2.2), .ref y1, .ref y2, .ref y3, .int (nI p), .ref y4, .ref y5, .ref y6, .ref y7, .int (nI c), .ref y8, .ref y9, .ref y10, .ref y11, .ref y12, .int bd, .int ck, .int ps, .int (nI pa), .int lc, .int (nI (b2n fb)), .long ek, .long ev, .int (nI el), .int (nI fn), .ref y13, .ref y14, .ref y15, .ref y16, .int (nI js), .ref y17, .int (nI (b2n ib))])), (y1, .inl (.long, 25, .inr (.inl Rr.1))), (y2, .inl (.long, 25, .inr (.inl Rr.2.2.1))), (y3, .inl (.int, 25, .inl (fun q => nI ((Rr.2.1) q)))), (y4, .inl (.int, 1024, .inl (fun q => nI (((va_up L j9 (xrb (L j9) wm))) q))))] X d_MD_crash_224 hn rfl rfl i_MD t_MD t_MD_ok n_MD (by decide) k_fl_MD_84 (fun _ h => h) rfl (by decide +kernel) rfl rfl (Nat.le_of_ble_eq_true rfl) rfl ?_
              refine g_aload_n X d_MD_crash_227 2 rfl ?_
              refine g_getf (k := 2) X d_MD_crash_228 (hl_w 0 rfl hn) rfl i_MD (by decide) k_fl_MD_73 (fun _ h => h) rfl ?_
              exact g_iret X hr d_MD_crash_231 (Nat.le_of_ble_eq_true rfl) (Nat.le_of_ble_eq_true rfl) (⟨by rw [q1, hz9], by rw [q1, hz9]⟩)
            · have h74 : 0 < whl (va_up L j9 (xrb (L j9) wm)) p a := Nat.pos_of_ne_zero (fun z => h74 (by rw [z, nI_0]; exact Int32.le_refl _))
              have hk8 := whl_p h74
              have hk7 : okn ((va_up L j9 (xrb (L j9) wm)) (p + 8)) := hk8.1.2.1
              have hb9 := ebn_bOf ((va_up L j9 (xrb (L j9) wm)) (p + 8))
              have hb7 := bOf_le hk7
              have hw9 := whl_t hk8
              have hk6 := hk8.2.1
              refine g_lconst 0 X d_MD_crash_77 (by decide) ?_
              refine g_lstore [(6, .long 0), (4, .int (nI p)), (5, .int (nI (whl (va_up L j9 (xrb (L j9) wm)) p a))), (0, .ref h), (1, .int (nI a)), (2, .int (nI j9)), (3, .int wm)] X d_MD_crash_78 (by decide) rfl ?_
              refine g_iconst (nI 0) X d_MD_crash_80 (by decide) ?_
              refine g_istore [(8, .int (nI 0)), (6, .long 0), (4, .int (nI p)), (5, .int (nI (whl (va_up L j9 (xrb (L j9) wm)) p a))), (0, .ref h), (1, .int (nI a)), (2, .int (nI j9)), (3, .int wm)] X d_MD_crash_81 (by decide) rfl ?_
              have L83 : ∀ (fu83 : Nat) (j : Nat), (j ≤ 8) → 8 - j < fu83 → fh_G mp l me (fh_rm 2 50 0 0) sm mm margs mbel mmet mcod mD fhCl (hp [(h, .inr (6, [.int th, .int (nI M), .int (nI n), .ref y1, .ref y2, .ref y3, .int (nI u), .ref y4, .ref y5, .ref y6, .ref y7, .int (nI c), .ref y8, .ref y9, .ref y10, .ref y11, .ref y12, .int bd, .int ck, .int ps, .int (nI pa), .int lc, .int (nI (b2n fb)), .long ek, .long ev, .int (nI el), .int (nI fn), .ref y13, .ref y14, .ref y15, .ref y16, .int (nI js), .ref y17, .int (nI (b2n ib))])), (y1, .inl (.long, 25, .inr (.inl K))), (y2, .inl (.long, 25, .inr (.inl V))), (y3, .inl (.int, 25, .inl (fun q => nI (z q)))), (y4, .inl (.int, 1024, .inl (fun q => nI (L q))))]) 12 (fh_MQ mbel mD fhCl (hp [(h, .inr (6, [.int th, .int (nI M), .int (nI n), .ref y1, .ref y2, .ref y3, .int (nI u), .ref y4, .ref y5, .ref y6, .ref y7, .int (nI c), .ref y8, .ref y9, .ref y10, .ref y11, .ref y12, .int bd, .int ck, .int ps, .int (nI pa), .int lc, .int (nI (b2n fb)), .long ek, .long ev, .int (nI el), .int (nI fn), .ref y13, .ref y14, .ref y15, .ref y16, .int (nI js), .ref y17, .int (nI (b2n ib))])), (y1, .inl (.long, 25, .inr (.inl K))), (y2, .inl (.long, 25, .inr (.inl V))), (y3, .inl (.int, 25, .inl (fun q => nI (z q)))), (y4, .inl (.int, 1024, .inl (fun q => nI (L q))))]) (fh_ret (some (.int (nI (redo (va_up L j9 (xrb (L j9) wm)) a 24 1024 (K, z, V, 0) 0).1.2.2.2))) [(h, .inr (6, [.int (nI 0), .int (nI M), .int (nI ((redo (va_up L j9 (xrb (L j9) wm)) a 24 1024 (K, z, V, 0) 0).1.2.2.2)), .ref y1, .ref y2, .ref y3, .int (nI ((redo (va_up L j9 (xrb (L j9) wm)) a 24 1024 (K, z, V, 0) 0).2)), .ref y4, .ref y5, .ref y6, .ref y7, .int (nI c), .ref y8, .ref y9, .ref y10, .ref y11, .ref y12, .int bd, .int ck, .int ps, .int (nI pa), .int lc, .int (nI (b2n fb)), .long ek, .long ev, .int (nI el), .int (nI fn), .ref y13, .ref y14, .ref y15, .ref y16, .int (nI js), .ref y17, .int (nI (b2n ib))])), (y1, .inl (.long, 25, .inr (.inl ((redo (va_up L j9 (xrb (L j9) wm)) a 24 1024 (K, z, V, 0) 0).1.1)))), (y2, .inl (.long, 25, .inr (.inl ((redo (va_up L j9 (xrb (L j9) wm)) a 24 1024 (K, z, V, 0) 0).1.2.2.1)))), (y3, .inl (.int, 25, .inl (fun q => nI (((redo (va_up L j9 (xrb (L j9) wm)) a 24 1024 (K, z, V, 0) 0).1.2.1) q)))), (y4, .inl (.int, 1024, .inl (fun q => nI (((va_up L j9 (xrb (L j9) wm))) q))))]) margs sm 0 0) 0 0 (hp [(h, .inr (6, [.int (nI 0), .int (nI M), .int (nI Rr.2.2.2), .ref y1, .ref y2, .ref y3, .int (nI u), .ref y4, .ref y5, .ref y6, .ref y7, .int (nI c), .ref y8, .ref y9, .ref y10, .ref y11, .ref y12, .int bd, .int ck, .int ps, .int (nI pa), .int lc, .int (nI (b2n fb)), .long ek, .long ev, .int (nI el), .int (nI fn), .ref y13, .ref y14, .ref y15, .ref y16, .int (nI js), .ref y17, .int (nI (b2n ib))])), (y1, .inl (.long, 25, .inr (.inl Rr.1))), (y2, .inl (.long, 25, .inr (.inl Rr.2.2.1))), (y3, .inl (.int, 25, .inl (fun q => nI ((Rr.2.1) q)))), (y4, .inl (.int, 1024, .inl (fun q => nI (((va_up L j9 (xrb (L j9) wm))) q))))]) 83 [(8, .int (nI j)), (6, .long (rdK (fun i => (va_up L j9 (xrb (L j9) wm)) (p + i)) j)), (4, .int (nI p)), (5, .int (nI (whl (va_up L j9 (xrb (L j9) wm)) p a))), (0, .ref h), (1, .int (nI a)), (2, .int (nI j9)), (3, .int wm)] [] := by
                intro fu83
                induction fu83 with
                | zero => intro j q5 hm83; exact absurd hm83 (Nat.not_lt_zero _)
                | succ fu83 ih83 =>
                  intro j q5 hm83
                  refine g_iload X d_MD_crash_83 0 rfl ?_
                  refine g_bipush (nI 8) X d_MD_crash_85 (by decide) ?_
                  refine g_icmp_ge 115 X d_MD_crash_87 (by decide) (fun h87 => ?_) (fun h87 => ?_)
                  · have h87 := cv_le (by omega) (by omega) h87
                    have e8 : j = 8 := by omega
                    refine g_lve (lv' := [(8, .int (nI j)), (6, .long (enK (va_up L j9 (xrb (L j9) wm)) p)), (4, .int (nI p)), (5, .int (nI (whl (va_up L j9 (xrb (L j9) wm)) p a))), (0, .ref h), (1, .int (nI a)), (2, .int (nI j9)), (3, .int wm)]) (by rw [e8]; rfl) ?_
                    refine g_aload_n X d_MD_crash_115 4 rfl ?_
                    refine g_getf (k := 2) X d_MD_crash_116 (hl_w 0 rfl hn) rfl i_MD (by decide) k_fl_MD_73 (fun _ h => h) rfl ?_
                    refine g_bipush (nI 24) X d_MD_crash_119 (by decide) ?_
                    refine g_icmp_ne 136 X d_MD_crash_121 (by decide) (fun h121 => ?_) (fun h121 => ?_)
                    · have h121 := cv_ne (by omega) (by omega) h121
                      have hr9 : (plc Rr.1 (enK (va_up L j9 (xrb (L j9) wm)) p) Rr.2.2.2 < Rr.2.2.2 ∧ Rr.1 (plc Rr.1 (enK (va_up L j9 (xrb (L j9) wm)) p) Rr.2.2.2) = (enK (va_up L j9 (xrb (L j9) wm)) p)) ∨ Rr.2.2.2 < 24 := Or.inr (by omega)
                      refine g_aload_n X d_MD_crash_136 4 rfl ?_
                      refine g_getf (k := 7) X d_MD_crash_137 (hl_w 0 rfl hn) rfl i_MD (by decide) k_fl_MD_20 (fun _ h => h) rfl ?_
                      refine g_iload X d_MD_crash_140 2 rfl ?_
                      refine g_bipush (nI 8) X d_MD_crash_142 (by decide) ?_
                      refine g_iadd X d_MD_crash_144 ?_
                      refine g_vi (nI (p + 8)) (nI_add _ _) ?_
                      refine h_iald X d_MD_crash_145 (hl_w 4 rfl hn) (by omega) (by omega) ?_
                      refine g_istore [(8, .int (nI ((va_up L j9 (xrb (L j9) wm)) (p + 8)))), (6, .long (enK (va_up L j9 (xrb (L j9) wm)) p)), (4, .int (nI p)), (5, .int (nI (whl (va_up L j9 (xrb (L j9) wm)) p a))), (0, .ref h), (1, .int (nI a)), (2, .int (nI j9)), (3, .int wm)] X d_MD_crash_146 (by decide) rfl ?_
                      refine g_lconst 0 X d_MD_crash_148 (by decide) ?_
                      refine g_lstore [(9, .long 0), (8, .int (nI ((va_up L j9 (xrb (L j9) wm)) (p + 8)))), (6, .long (enK (va_up L j9 (xrb (L j9) wm)) p)), (4, .int (nI p)), (5, .int (nI (whl (va_up L j9 (xrb (L j9) wm)) p a))), (0, .ref h), (1, .int (nI a)), (2, .int (nI j9)), (3, .int wm)] X d_MD_crash_149 (by decide) rfl ?_
                      refine g_iconst (nI 0) X d_MD_crash_151 (by decide) ?_
                      refine g_istore [(11, .int (nI 0)), (9, .long 0), (8, .int (nI ((va_up L j9 (xrb (L j9) wm)) (p + 8)))), (6, .long (enK (va_up L j9 (xrb (L j9) wm)) p)), (4, .int (nI p)), (5, .int (nI (whl (va_up L j9 (xrb (L j9) wm)) p a))), (0, .ref h), (1, .int (nI a)), (2, .int (nI j9)), (3, .int wm)] X d_MD_crash_152 (by decide) rfl ?_
                      have L154 : ∀ (fu154 : Nat) (j : Nat), (j ≤ bOf ((va_up L j9 (xrb (L j9) wm)) (p + 8))) → 9 - j < fu154 → fh_G mp l me (fh_rm 2 50 0 0) sm mm margs mbel mmet mcod mD fhCl (hp [(h, .inr (6, [.int th, .int (nI M), .int (nI n), .ref y1, .ref y2, .ref y3, .int (nI u), .ref y4, .ref y5, .ref y6, .ref y7, .int (nI c), .ref y8, .ref y9, .ref y10, .ref y11, .ref y12, .int bd, .int ck, .int ps, .int (nI pa), .int lc, .int (nI (b2n fb)), .long ek, .long ev, .int (nI el), .int (nI fn), .ref y13, .ref y14, .ref y15, .ref y16, .int (nI js), .ref y17, .int (nI (b2n ib))])), (y1, .inl (.long, 25, .inr (.inl K))), (y2, .inl (.long, 25, .inr (.inl V))), (y3, .inl (.int, 25, .inl (fun q => nI (z q)))), (y4, .inl (.int, 1024, .inl (fun q => nI (L q))))]) 12 (fh_MQ mbel mD fhCl (hp [(h, .inr (6, [.int th, .int (nI M), .int (nI n), .ref y1, .ref y2, .ref y3, .int (nI u), .ref y4, .ref y5, .ref y6, .ref y7, .int (nI c), .ref y8, .ref y9, .ref y10, .ref y11, .ref y12, .int bd, .int ck, .int ps, .int (nI pa), .int lc, .int (nI (b2n fb)), .long ek, .long ev, .int (nI el), .int (nI fn), .ref y13, .ref y14, .ref y15, .ref y16, .int (nI js), .ref y17, .int (nI (b2n ib))])), (y1, .inl (.long, 25, .inr (.inl K))), (y2, .inl (.long, 25, .inr (.inl V))), (y3, .inl (.int, 25, .inl (fun q => nI (z q)))), (y4, .inl (.int, 1024, .inl (fun q => nI (L q))))]) (fh_ret (some (.int (nI (redo (va_up L j9 (xrb (L j9) wm)) a 24 1024 (K, z, V, 0) 0).1.2.2.2))) [(h, .inr (6, [.int (nI 0), .int (nI M), .int (nI ((redo (va_up L j9 (xrb (L j9) wm)) a 24 1024 (K, z, V, 0) 0).1.2.2.2)), .ref y1, .ref y2, .ref y3, .int (nI ((redo (va_up L j9 (xrb (L j9) wm)) a 24 1024 (K, z, V, 0) 0).2)), .ref y4, .ref y5, .ref y6, .ref y7, .int (nI c), .ref y8, .ref y9, .ref y10, .ref y11, .ref y12, .int bd, .int ck, .int ps, .int (nI pa), .int lc, .int (nI (b2n fb)), .long ek, .long ev, .int (nI el), .int (nI fn), .ref y13, .ref y14, .ref y15, .ref y16, .int (nI js), .ref y17, .int (nI (b2n ib))])), (y1, .inl (.long, 25, .inr (.inl ((redo (va_up L j9 (xrb (L j9) wm)) a 24 1024 (K, z, V, 0) 0).1.1)))), (y2, .inl (.long, 25, .inr (.inl ((redo (va_up L j9 (xrb (L j9) wm)) a 24 1024 (K, z, V, 0) 0).1.2.2.1)))), (y3, .inl (.int, 25, .inl (fun q => nI (((redo (va_up L j9 (xrb (L j9) wm)) a 24 1024 (K, z, V, 0) 0).1.2.1) q)))), (y4, .inl (.int, 1024, .inl (fun q => nI (((va_up L j9 (xrb (L j9) wm))) q))))]) margs sm 0 0) 0 0 (hp [(h, .inr (6, [.int (nI 0), .int (nI M), .int (nI Rr.2.2.2), .ref y1, .ref y2, .ref y3, .int (nI u), .ref y4, .ref y5, .ref y6, .ref y7, .int (nI c), .ref y8, .ref y9, .ref y10, .ref y11, .ref y12, .int bd, .int ck, .int ps, .int (nI pa), .int lc, .int (nI (b2n fb)), .long ek, .long ev, .int (nI el), .int (nI fn), .ref y13, .ref y14, .ref y15, .ref y16, .int (nI js), .ref y17, .int (nI (b2n ib))])), (y1, .inl (.long, 25, .inr (.inl Rr.1))), (y2, .inl (.long, 25, .inr (.inl Rr.2.2.1))), (y3, .inl (.int, 25, .inl (fun q => nI ((Rr.2.1) q)))), (y4, .inl (.int, 1024, .inl (fun q => nI (((va_up L j9 (xrb (L j9) wm))) q))))]) 154 [(11, .int (nI j)), (9, .long (rdK (fun i => (va_up L j9 (xrb (L j9) wm)) (p + (9 + i))) j)), (8, .int (nI ((va_up L j9 (xrb (L j9) wm)) (p + 8)))), (6, .long (enK (va_up L j9 (xrb (L j9) wm)) p)), (4, .int (nI p)), (5, .int (nI (whl (va_up L j9 (xrb (L j9) wm)) p a))), (0, .ref h), (1, .int (nI a)), (2, .int (nI j9)), (3, .int wm)] [] := by
                        intro fu154
                        induction fu154 with
                        | zero => intro j q5 hm154; exact absurd hm154 (Nat.not_lt_zero _)
                        | succ fu154 ih154 =>
                          intro j q5 hm154
                          refine g_iload X d_MD_crash_154 0 rfl ?_
                          refine g_iload X d_MD_crash_156 2 rfl ?_
                          refine h_callS (As := [.int (nI ((va_up L j9 (xrb (L j9) wm)) (p + 8)))]) (st := [.int (nI j)]) [] [(h, .inr (6, [.int (nI 0), .int (nI M), .int (nI Rr.2.2.2), .ref y1, .ref y2, .ref y3, .int (nI u), .ref y4, .ref y5, .ref y6, .ref y7, .int (nI c), .ref y8, .ref y9, .ref y10, .ref y11, .ref y12, .int bd, .int ck, .int ps, .int (nI pa), .int lc, .int (nI (b2n fb)), .long ek, .long ev, .int (nI el), .int (nI fn), .ref y13, .ref y14, .ref y15, .ref y16, .int (nI js), .ref y17, .int (nI (b2n ib))])), (y1, .inl (.long, 25, .inr (.inl Rr.1))), (y2, .inl (.long, 25, .inr (.inl Rr.2.2.1))), (y3, .inl (.int, 25, .inl (fun q => nI ((Rr.2.1) q)))), (y4, .inl (.int, 1024, .inl (fun q => nI (((va_up L j9 (xrb (L j9) wm))) q))))] X d_MD_crash_158 (c_MD_bytesOf hst (hL9 _)) rfl k_ml_MD_87 k_cd_MD_bytesOf k_in_MD k_st_MD_bytesOf ⟨by decide +kernel, by decide +kernel, (by decide +kernel : (parseMethodDescriptor y_MD_bytesOf.desc).map (fun d => d.parameters.length) = some 1)⟩ ⟨Nat.le_of_ble_eq_true rfl, Nat.le_of_ble_eq_true rfl⟩ ⟨Nat.le_of_ble_eq_true rfl, Nat.le_of_ble_eq_true rfl⟩ (Nat.le_of_ble_eq_true rfl) hn rfl rfl rfl hp_no hp_no2 ?_
                          refine g_icmp_ge 192 X d_MD_crash_161 (by decide) (fun h161 => ?_) (fun h161 => ?_)
                          · have h161 := cv_le (by omega) (by omega) h161
                            have e8 : j = bOf ((va_up L j9 (xrb (L j9) wm)) (p + 8)) := by omega
                            refine g_lve (lv' := [(11, .int (nI j)), (9, .long (enV (va_up L j9 (xrb (L j9) wm)) p)), (8, .int (nI ((va_up L j9 (xrb (L j9) wm)) (p + 8)))), (6, .long (enK (va_up L j9 (xrb (L j9) wm)) p)), (4, .int (nI p)), (5, .int (nI (whl (va_up L j9 (xrb (L j9) wm)) p a))), (0, .ref h), (1, .int (nI a)), (2, .int (nI j9)), (3, .int wm)]) (by rw [e8, enV, hb9, Nat.add_sub_cancel_left]) ?_
                            refine g_aload_n X d_MD_crash_192 6 rfl ?_
                            refine g_lload X d_MD_crash_193 3 rfl ?_
                            refine g_lload X d_MD_crash_195 1 rfl ?_
                            refine g_iload X d_MD_crash_197 2 rfl ?_
                            refine h_callV (As := [.long (enK (va_up L j9 (xrb (L j9) wm)) p), .long (enV (va_up L j9 (xrb (L j9) wm)) p), .int (nI ((va_up L j9 (xrb (L j9) wm)) (p + 8)))]) (st := []) [0, 1, 2, 3] [(h, .inr (6, [.int (nI 0), .int (nI M), .int (nI ((stm Rr (enK (va_up L j9 (xrb (L j9) wm)) p) ((va_up L j9 (xrb (L j9) wm)) (p + 8)) (enV (va_up L j9 (xrb (L j9) wm)) p)).2.2.2)), .ref y1, .ref y2, .ref y3, .int (nI u), .ref y4, .ref y5, .ref y6, .ref y7, .int (nI c), .ref y8, .ref y9, .ref y10, .ref y11, .ref y12, .int bd, .int ck, .int ps, .int (nI pa), .int lc, .int (nI (b2n fb)), .long ek, .long ev, .int (nI el), .int (nI fn), .ref y13, .ref y14, .ref y15, .ref y16, .int (nI js), .ref y17, .int (nI (b2n ib))])), (y1, .inl (.long, 25, .inr (.inl ((stm Rr (enK (va_up L j9 (xrb (L j9) wm)) p) ((va_up L j9 (xrb (L j9) wm)) (p + 8)) (enV (va_up L j9 (xrb (L j9) wm)) p)).1)))), (y2, .inl (.long, 25, .inr (.inl ((stm Rr (enK (va_up L j9 (xrb (L j9) wm)) p) ((va_up L j9 (xrb (L j9) wm)) (p + 8)) (enV (va_up L j9 (xrb (L j9) wm)) p)).2.2.1)))), (y3, .inl (.int, 25, .inl (fun q => nI (((stm Rr (enK (va_up L j9 (xrb (L j9) wm)) p) ((va_up L j9 (xrb (L j9) wm)) (p + 8)) (enV (va_up L j9 (xrb (L j9) wm)) p)).2.1) q)))), (y4, .inl (.int, 1024, .inl (fun q => nI (((va_up L j9 (xrb (L j9) wm))) q))))] X d_MD_crash_199 (c_MD_set (K := Rr.1) (z := Rr.2.1) (V := Rr.2.2.1) (n := Rr.2.2.2) hst hn3 q4 hr9) (hl_w 0 rfl hn) rfl rfl k_ml_MD_105 k_cd_MD_set k_in_MD k_im_MD_set k_se_MD_set ⟨by decide +kernel, by decide +kernel, (by decide +kernel : (parseMethodDescriptor y_MD_set.desc).map (fun d => d.parameters.length) = some 3)⟩ ⟨Nat.le_of_ble_eq_true rfl, Nat.le_of_ble_eq_true rfl⟩ ⟨Nat.le_of_ble_eq_true rfl, Nat.le_of_ble_eq_true rfl⟩ (Nat.le_of_ble_eq_true rfl) hn rfl rfl rfl hp_no hp_no2 ?_
                            refine g_iload X d_MD_crash_202 4 rfl ?_
                            refine g_iload X d_MD_crash_204 5 rfl ?_
                            refine g_iadd X d_MD_crash_206 ?_
                            refine g_vi (nI (p + whl (va_up L j9 (xrb (L j9) wm)) p a)) (nI_add _ _) ?_
                            refine g_istore [(4, .int (nI (p + whl (va_up L j9 (xrb (L j9) wm)) p a))), (11, .int (nI j)), (9, .long (enV (va_up L j9 (xrb (L j9) wm)) p)), (8, .int (nI ((va_up L j9 (xrb (L j9) wm)) (p + 8)))), (6, .long (enK (va_up L j9 (xrb (L j9) wm)) p)), (5, .int (nI (whl (va_up L j9 (xrb (L j9) wm)) p a))), (0, .ref h), (1, .int (nI a)), (2, .int (nI j9)), (3, .int wm)] X d_MD_crash_207 (by decide) rfl ?_
                            refine g_lve (lv' := [(4, .int (nI (p + ebn ((va_up L j9 (xrb (L j9) wm)) (p + 8)) + 1))), (11, .int (nI j)), (9, .long (enV (va_up L j9 (xrb (L j9) wm)) p)), (8, .int (nI ((va_up L j9 (xrb (L j9) wm)) (p + 8)))), (6, .long (enK (va_up L j9 (xrb (L j9) wm)) p)), (5, .int (nI (whl (va_up L j9 (xrb (L j9) wm)) p a))), (0, .ref h), (1, .int (nI a)), (2, .int (nI j9)), (3, .int wm)]) (by rw [hw9, Nat.add_assoc]) ?_
                            refine g_aload_n X d_MD_crash_209 6 rfl ?_
                            refine g_iload X d_MD_crash_210 0 rfl ?_
                            refine g_iload_n X d_MD_crash_212 7 rfl ?_
                            refine h_callV (As := [.int (nI (p + ebn ((va_up L j9 (xrb (L j9) wm)) (p + 8)) + 1)), .int (nI a)]) (st := []) [0, 4] [(h, .inr (6, [.int (nI 0), .int (nI M), .int (nI ((stm Rr (enK (va_up L j9 (xrb (L j9) wm)) p) ((va_up L j9 (xrb (L j9) wm)) (p + 8)) (enV (va_up L j9 (xrb (L j9) wm)) p)).2.2.2)), .ref y1, .ref y2, .ref y3, .int (nI u), .ref y4, .ref y5, .ref y6, .ref y7, .int (nI c), .ref y8, .ref y9, .ref y10, .ref y11, .ref y12, .int bd, .int ck, .int ps, .int (nI pa), .int lc, .int (nI (b2n fb)), .long ek, .long ev, .int (nI el), .int (nI fn), .ref y13, .ref y14, .ref y15, .ref y16, .int (nI js), .ref y17, .int (nI (b2n ib))])), (y1, .inl (.long, 25, .inr (.inl ((stm Rr (enK (va_up L j9 (xrb (L j9) wm)) p) ((va_up L j9 (xrb (L j9) wm)) (p + 8)) (enV (va_up L j9 (xrb (L j9) wm)) p)).1)))), (y2, .inl (.long, 25, .inr (.inl ((stm Rr (enK (va_up L j9 (xrb (L j9) wm)) p) ((va_up L j9 (xrb (L j9) wm)) (p + 8)) (enV (va_up L j9 (xrb (L j9) wm)) p)).2.2.1)))), (y3, .inl (.int, 25, .inl (fun q => nI (((stm Rr (enK (va_up L j9 (xrb (L j9) wm)) p) ((va_up L j9 (xrb (L j9) wm)) (p + 8)) (enV (va_up L j9 (xrb (L j9) wm)) p)).2.1) q)))), (y4, .inl (.int, 1024, .inl (fun q => nI (((va_up L j9 (xrb (L j9) wm))) q))))] X d_MD_crash_213 (c_MD_wholeAt hst hn4 (by omega) (by have := hk8.2.1; omega) hL9) (hl_w 0 rfl hn) rfl rfl k_ml_MD_261 k_cd_MD_wholeAt k_in_MD k_im_MD_wholeAt k_se_MD_wholeAt ⟨by decide +kernel, by decide +kernel, (by decide +kernel : (parseMethodDescriptor y_MD_wholeAt.desc).map (fun d => d.parameters.length) = some 2)⟩ ⟨Nat.le_of_ble_eq_true rfl, Nat.le_of_ble_eq_true rfl⟩ ⟨Nat.le_of_ble_eq_true rfl, Nat.le_of_ble_eq_true rfl⟩ (Nat.le_of_ble_eq_true rfl) hn rfl rfl rfl hp_no hp_no2 ?_
                            refine g_istore [(5, .int (nI (whl (va_up L j9 (xrb (L j9) wm)) (p + ebn ((va_up L j9 (xrb (L j9) wm)) (p + 8)) + 1) a))), (4, .int (nI (p + ebn ((va_up L j9 (xrb (L j9) wm)) (p + 8)) + 1))), (11, .int (nI j)), (9, .long (enV (va_up L j9 (xrb (L j9) wm)) p)), (8, .int (nI ((va_up L j9 (xrb (L j9) wm)) (p + 8)))), (6, .long (enK (va_up L j9 (xrb (L j9) wm)) p)), (0, .ref h), (1, .int (nI a)), (2, .int (nI j9)), (3, .int wm)] X d_MD_crash_216 (by decide) rfl ?_
                            refine g_goto 72 X d_MD_crash_218 (by decide) ?_
                            refine g_lv [0, 1, 6, 7, 8, 9] [(5, .int (nI (whl (va_up L j9 (xrb (L j9) wm)) (p + ebn ((va_up L j9 (xrb (L j9) wm)) (p + 8)) + 1) a))), (4, .int (nI (p + ebn ((va_up L j9 (xrb (L j9) wm)) (p + 8)) + 1))), (0, .ref h), (1, .int (nI a)), (2, .int (nI j9)), (3, .int wm)] rfl ?_
                            have hst9 := redo_step (B := (va_up L j9 (xrb (L j9) wm))) (u := a) (N := 24) (t := t - 1) (K := Rr.1) (z := Rr.2.1) (V := Rr.2.2.1) (n := Rr.2.2.2) hk8 hr9
                            rw [show t - 1 + 1 = t by omega] at hst9
                            have hr8 : isIn Rr.1 Rr.2.2.2 (enK (va_up L j9 (xrb (L j9) wm)) p) = true ∨ Rr.2.2.2 < 24 := hr9.imp isIn_t id
                            refine g_lv [1, 0, 2, 3, 4, 5] [(4, .int (nI (p + ebn ((va_up L j9 (xrb (L j9) wm)) (p + 8)) + 1))), (5, .int (nI (whl (va_up L j9 (xrb (L j9) wm)) (p + ebn ((va_up L j9 (xrb (L j9) wm)) (p + 8)) + 1) a))), (0, .ref h), (1, .int (nI a)), (2, .int (nI j9)), (3, .int wm)] rfl ?_
                            exact ih72 (t - 1) (stm Rr (enK (va_up L j9 (xrb (L j9) wm)) p) ((va_up L j9 (xrb (L j9) wm)) (p + 8)) (enV (va_up L j9 (xrb (L j9) wm)) p)) (p + ebn ((va_up L j9 (xrb (L j9) wm)) (p + 8)) + 1) (by rw [q1, ← hst9]) (by have := hk8.2.1; omega) (by omega) (stm_cnt q4 hr8) (by omega)
                          · have h161 := cv_nle (by omega) (by omega) h161
                            refine g_lload X d_MD_crash_164 1 rfl ?_
                            refine g_bipush (nI 8) X d_MD_crash_166 (by decide) ?_
                            refine g_lshl X d_MD_crash_168 ?_
                            refine g_aload_n X d_MD_crash_169 6 rfl ?_
                            refine g_getf (k := 7) X d_MD_crash_170 (hl_w 0 rfl hn) rfl i_MD (by decide) k_fl_MD_20 (fun _ h => h) rfl ?_
                            refine g_iload X d_MD_crash_173 4 rfl ?_
                            refine g_bipush (nI 9) X d_MD_crash_175 (by decide) ?_
                            refine g_iadd X d_MD_crash_177 ?_
                            refine g_vi (nI (p + 9)) (nI_add _ _) ?_
                            refine g_iload X d_MD_crash_178 0 rfl ?_
                            refine g_iadd X d_MD_crash_180 ?_
                            refine g_vi (nI (p + 9 + j)) (nI_add _ _) ?_
                            refine h_iald X d_MD_crash_181 (hl_w 4 rfl hn) (by omega) (by omega) ?_
                            refine g_i2l X d_MD_crash_182 ?_
                            refine g_lor X d_MD_crash_183 ?_
                            refine g_lstore [(9, .long (((rdK (fun i => (va_up L j9 (xrb (L j9) wm)) (p + (9 + i))) j) <<< ((nI 8).toInt64 &&& 63)) ||| ((nI ((va_up L j9 (xrb (L j9) wm)) (p + 9 + j))).toInt64))), (11, .int (nI j)), (8, .int (nI ((va_up L j9 (xrb (L j9) wm)) (p + 8)))), (6, .long (enK (va_up L j9 (xrb (L j9) wm)) p)), (4, .int (nI p)), (5, .int (nI (whl (va_up L j9 (xrb (L j9) wm)) p a))), (0, .ref h), (1, .int (nI a)), (2, .int (nI j9)), (3, .int wm)] X d_MD_crash_184 (by decide) rfl ?_
                            refine g_iinc (nI (j + 1)) 1 [(11, .int (nI (j + 1))), (9, .long (((rdK (fun i => (va_up L j9 (xrb (L j9) wm)) (p + (9 + i))) j) <<< ((nI 8).toInt64 &&& 63)) ||| ((nI ((va_up L j9 (xrb (L j9) wm)) (p + 9 + j))).toInt64))), (8, .int (nI ((va_up L j9 (xrb (L j9) wm)) (p + 8)))), (6, .long (enK (va_up L j9 (xrb (L j9) wm)) p)), (4, .int (nI p)), (5, .int (nI (whl (va_up L j9 (xrb (L j9) wm)) p a))), (0, .ref h), (1, .int (nI a)), (2, .int (nI j9)), (3, .int wm)] X d_MD_crash_186 rfl (nI_1 _) (by decide) rfl ?_
                            refine g_goto 154 X d_MD_crash_189 (by decide) ?_
                            refine g_lve (lv' := [(11, .int (nI (j + 1))), (9, .long (rdK (fun i => (va_up L j9 (xrb (L j9) wm)) (p + (9 + i))) (j + 1))), (8, .int (nI ((va_up L j9 (xrb (L j9) wm)) (p + 8)))), (6, .long (enK (va_up L j9 (xrb (L j9) wm)) p)), (4, .int (nI p)), (5, .int (nI (whl (va_up L j9 (xrb (L j9) wm)) p a))), (0, .ref h), (1, .int (nI a)), (2, .int (nI j9)), (3, .int wm)]) (by rw [show p + 9 + j = p + (9 + j) by omega]; rfl) ?_
                            exact ih154 (j + 1) (by omega) (by omega)
                      exact L154 _ 0 (Nat.zero_le _) (Nat.lt_succ_self _)
                    · have h121 := cv_eq (by omega) (by omega) h121
                      refine g_aload_n X d_MD_crash_124 4 rfl ?_
                      refine g_lload X d_MD_crash_125 1 rfl ?_
                      refine h_callV (As := [.long (enK (va_up L j9 (xrb (L j9) wm)) p)]) (st := []) [0, 1] [(h, .inr (6, [.int (nI 0), .int (nI M), .int (nI Rr.2.2.2), .ref y1, .ref y2, .ref y3, .int (nI u), .ref y4, .ref y5, .ref y6, .ref y7, .int (nI c), .ref y8, .ref y9, .ref y10, .ref y11, .ref y12, .int bd, .int ck, .int ps, .int (nI pa), .int lc, .int (nI (b2n fb)), .long ek, .long ev, .int (nI el), .int (nI fn), .ref y13, .ref y14, .ref y15, .ref y16, .int (nI js), .ref y17, .int (nI (b2n ib))])), (y1, .inl (.long, 25, .inr (.inl Rr.1))), (y2, .inl (.long, 25, .inr (.inl Rr.2.2.1))), (y3, .inl (.int, 25, .inl (fun q => nI ((Rr.2.1) q)))), (y4, .inl (.int, 1024, .inl (fun q => nI (((va_up L j9 (xrb (L j9) wm))) q))))] X d_MD_crash_127 (c_MD_hasKey (K := Rr.1) (n := Rr.2.2.2) hst hn1 q4) (hl_w 0 rfl hn) rfl rfl k_ml_MD_80 k_cd_MD_hasKey k_in_MD k_im_MD_hasKey k_se_MD_hasKey ⟨by decide +kernel, by decide +kernel, (by decide +kernel : (parseMethodDescriptor y_MD_hasKey.desc).map (fun d => d.parameters.length) = some 1)⟩ ⟨Nat.le_of_ble_eq_true rfl, Nat.le_of_ble_eq_true rfl⟩ ⟨Nat.le_of_ble_eq_true rfl, Nat.le_of_ble_eq_true rfl⟩ (Nat.le_of_ble_eq_true rfl) hn rfl rfl rfl hp_no hp_no2 ?_
                      refine g_if_ne 136 X d_MD_crash_130 (by decide) (fun h130 => ?_) (fun h130 => ?_)
                      · have h130 := cv_n0 (b2n_31 _) h130
                        have hr9 : (plc Rr.1 (enK (va_up L j9 (xrb (L j9) wm)) p) Rr.2.2.2 < Rr.2.2.2 ∧ Rr.1 (plc Rr.1 (enK (va_up L j9 (xrb (L j9) wm)) p) Rr.2.2.2) = (enK (va_up L j9 (xrb (L j9) wm)) p)) ∨ Rr.2.2.2 < 24 := Or.inl (of_decide_eq_true (b2n_1 h130))
                        refine g_aload_n X d_MD_crash_136 4 rfl ?_
                        refine g_getf (k := 7) X d_MD_crash_137 (hl_w 0 rfl hn) rfl i_MD (by decide) k_fl_MD_20 (fun _ h => h) rfl ?_
                        refine g_iload X d_MD_crash_140 2 rfl ?_
                        refine g_bipush (nI 8) X d_MD_crash_142 (by decide) ?_
                        refine g_iadd X d_MD_crash_144 ?_
                        refine g_vi (nI (p + 8)) (nI_add _ _) ?_
                        refine h_iald X d_MD_crash_145 (hl_w 4 rfl hn) (by omega) (by omega) ?_
                        refine g_istore [(8, .int (nI ((va_up L j9 (xrb (L j9) wm)) (p + 8)))), (6, .long (enK (va_up L j9 (xrb (L j9) wm)) p)), (4, .int (nI p)), (5, .int (nI (whl (va_up L j9 (xrb (L j9) wm)) p a))), (0, .ref h), (1, .int (nI a)), (2, .int (nI j9)), (3, .int wm)] X d_MD_crash_146 (by decide) rfl ?_
                        refine g_lconst 0 X d_MD_crash_148 (by decide) ?_
                        refine g_lstore [(9, .long 0), (8, .int (nI ((va_up L j9 (xrb (L j9) wm)) (p + 8)))), (6, .long (enK (va_up L j9 (xrb (L j9) wm)) p)), (4, .int (nI p)), (5, .int (nI (whl (va_up L j9 (xrb (L j9) wm)) p a))), (0, .ref h), (1, .int (nI a)), (2, .int (nI j9)), (3, .int wm)] X d_MD_crash_149 (by decide) rfl ?_
                        refine g_iconst (nI 0) X d_MD_crash_151 (by decide) ?_
                        refine g_istore [(11, .int (nI 0)), (9, .long 0), (8, .int (nI ((va_up L j9 (xrb (L j9) wm)) (p + 8)))), (6, .long (enK (va_up L j9 (xrb (L j9) wm)) p)), (4, .int (nI p)), (5, .int (nI (whl (va_up L j9 (xrb (L j9) wm)) p a))), (0, .ref h), (1, .int (nI a)), (2, .int (nI j9)), (3, .int wm)] X d_MD_crash_152 (by decide) rfl ?_
                        have L154 : ∀ (fu154 : Nat) (j : Nat), (j ≤ bOf ((va_up L j9 (xrb (L j9) wm)) (p + 8))) → 9 - j < fu154 → fh_G mp l me (fh_rm 2 50 0 0) sm mm margs mbel mmet mcod mD fhCl (hp [(h, .inr (6, [.int th, .int (nI M), .int (nI n), .ref y1, .ref y2, .ref y3, .int (nI u), .ref y4, .ref y5, .ref y6, .ref y7, .int (nI c), .ref y8, .ref y9, .ref y10, .ref y11, .ref y12, .int bd, .int ck, .int ps, .int (nI pa), .int lc, .int (nI (b2n fb)), .long ek, .long ev, .int (nI el), .int (nI fn), .ref y13, .ref y14, .ref y15, .ref y16, .int (nI js), .ref y17, .int (nI (b2n ib))])), (y1, .inl (.long, 25, .inr (.inl K))), (y2, .inl (.long, 25, .inr (.inl V))), (y3, .inl (.int, 25, .inl (fun q => nI (z q)))), (y4, .inl (.int, 1024, .inl (fun q => nI (L q))))]) 12 (fh_MQ mbel mD fhCl (hp [(h, .inr (6, [.int th, .int (nI M), .int (nI n), .ref y1, .ref y2, .ref y3, .int (nI u), .ref y4, .ref y5, .ref y6, .ref y7, .int (nI c), .ref y8, .ref y9, .ref y10, .ref y11, .ref y12, .int bd, .int ck, .int ps, .int (nI pa), .int lc, .int (nI (b2n fb)), .long ek, .long ev, .int (nI el), .int (nI fn), .ref y13, .ref y14, .ref y15, .ref y16, .int (nI js), .ref y17, .int (nI (b2n ib))])), (y1, .inl (.long, 25, .inr (.inl K))), (y2, .inl (.long, 25, .inr (.inl V))), (y3, .inl (.int, 25, .inl (fun q => nI (z q)))), (y4, .inl (.int, 1024, .inl (fun q => nI (L q))))]) (fh_ret (some (.int (nI (redo (va_up L j9 (xrb (L j9) wm)) a 24 1024 (K, z, V, 0) 0).1.2.2.2))) [(h, .inr (6, [.int (nI 0), .int (nI M), .int (nI ((redo (va_up L j9 (xrb (L j9) wm)) a 24 1024 (K, z, V, 0) 0).1.2.2.2)), .ref y1, .ref y2, .ref y3, .int (nI ((redo (va_up L j9 (xrb (L j9) wm)) a 24 1024 (K, z, V, 0) 0).2)), .ref y4, .ref y5, .ref y6, .ref y7, .int (nI c), .ref y8, .ref y9, .ref y10, .ref y11, .ref y12, .int bd, .int ck, .int ps, .int (nI pa), .int lc, .int (nI (b2n fb)), .long ek, .long ev, .int (nI el), .int (nI fn), .ref y13, .ref y14, .ref y15, .ref y16, .int (nI js), .ref y17, .int (nI (b2n ib))])), (y1, .inl (.long, 25, .inr (.inl ((redo (va_up L j9 (xrb (L j9) wm)) a 24 1024 (K, z, V, 0) 0).1.1)))), (y2, .inl (.long, 25, .inr (.inl ((redo (va_up L j9 (xrb (L j9) wm)) a 24 1024 (K, z, V, 0) 0).1.2.2.1)))), (y3, .inl (.int, 25, .inl (fun q => nI (((redo (va_up L j9 (xrb (L j9) wm)) a 24 1024 (K, z, V, 0) 0).1.2.1) q)))), (y4, .inl (.int, 1024, .inl (fun q => nI (((va_up L j9 (xrb (L j9) wm))) q))))]) margs sm 0 0) 0 0 (hp [(h, .inr (6, [.int (nI 0), .int (nI M), .int (nI Rr.2.2.2), .ref y1, .ref y2, .ref y3, .int (nI u), .ref y4, .ref y5, .ref y6, .ref y7, .int (nI c), .ref y8, .ref y9, .ref y10, .ref y11, .ref y12, .int bd, .int ck, .int ps, .int (nI pa), .int lc, .int (nI (b2n fb)), .long ek, .long ev, .int (nI el), .int (nI fn), .ref y13, .ref y14, .ref y15, .ref y16, .int (nI js), .ref y17, .int (nI (b2n ib))])), (y1, .inl (.long, 25, .inr (.inl Rr.1))), (y2, .inl (.long, 25, .inr (.inl Rr.2.2.1))), (y3, .inl (.int, 25, .inl (fun q => nI ((Rr.2.1) q)))), (y4, .inl (.int, 1024, .inl (fun q => nI (((va_up L j9 (xrb (L j9) wm))) q))))]) 154 [(11, .int (nI j)), (9, .long (rdK (fun i => (va_up L j9 (xrb (L j9) wm)) (p + (9 + i))) j)), (8, .int (nI ((va_up L j9 (xrb (L j9) wm)) (p + 8)))), (6, .long (enK (va_up L j9 (xrb (L j9) wm)) p)), (4, .int (nI p)), (5, .int (nI (whl (va_up L j9 (xrb (L j9) wm)) p a))), (0, .ref h), (1, .int (nI a)), (2, .int (nI j9)), (3, .int wm)] [] := by
                          intro fu154
                          induction fu154 with
                          | zero => intro j q5 hm154; exact absurd hm154 (Nat.not_lt_zero _)
                          | succ fu154 ih154 =>
                            intro j q5 hm154
                            refine g_iload X d_MD_crash_154 0 rfl ?_
                            refine g_iload X d_MD_crash_156 2 rfl ?_
                            refine h_callS (As := [.int (nI ((va_up L j9 (xrb (L j9) wm)) (p + 8)))]) (st := [.int (nI j)]) [] [(h, .inr (6, [.int (nI 0), .int (nI M), .int (nI Rr.2.2.2), .ref y1, .ref y2, .ref y3, .int (nI u), .ref y4, .ref y5, .ref y6, .ref y7, .int (nI c), .ref y8, .ref y9, .ref y10, .ref y11, .ref y12, .int bd, .int ck, .int ps, .int (nI pa), .int lc, .int (nI (b2n fb)), .long ek, .long ev, .int (nI el), .int (nI fn), .ref y13, .ref y14, .ref y15, .ref y16, .int (nI js), .ref y17, .int (nI (b2n ib))])), (y1, .inl (.long, 25, .inr (.inl Rr.1))), (y2, .inl (.long, 25, .inr (.inl Rr.2.2.1))), (y3, .inl (.int, 25, .inl (fun q => nI ((Rr.2.1) q)))), (y4, .inl (.int, 1024, .inl (fun q => nI (((va_up L j9 (xrb (L j9) wm))) q))))] X d_MD_crash_158 (c_MD_bytesOf hst (hL9 _)) rfl k_ml_MD_87 k_cd_MD_bytesOf k_in_MD k_st_MD_bytesOf ⟨by decide +kernel, by decide +kernel, (by decide +kernel : (parseMethodDescriptor y_MD_bytesOf.desc).map (fun d => d.parameters.length) = some 1)⟩ ⟨Nat.le_of_ble_eq_true rfl, Nat.le_of_ble_eq_true rfl⟩ ⟨Nat.le_of_ble_eq_true rfl, Nat.le_of_ble_eq_true rfl⟩ (Nat.le_of_ble_eq_true rfl) hn rfl rfl rfl hp_no hp_no2 ?_
                            refine g_icmp_ge 192 X d_MD_crash_161 (by decide) (fun h161 => ?_) (fun h161 => ?_)
                            · have h161 := cv_le (by omega) (by omega) h161
                              have e8 : j = bOf ((va_up L j9 (xrb (L j9) wm)) (p + 8)) := by omega
                              refine g_lve (lv' := [(11, .int (nI j)), (9, .long (enV (va_up L j9 (xrb (L j9) wm)) p)), (8, .int (nI ((va_up L j9 (xrb (L j9) wm)) (p + 8)))), (6, .long (enK (va_up L j9 (xrb (L j9) wm)) p)), (4, .int (nI p)), (5, .int (nI (whl (va_up L j9 (xrb (L j9) wm)) p a))), (0, .ref h), (1, .int (nI a)), (2, .int (nI j9)), (3, .int wm)]) (by rw [e8, enV, hb9, Nat.add_sub_cancel_left]) ?_
                              refine g_aload_n X d_MD_crash_192 6 rfl ?_
                              refine g_lload X d_MD_crash_193 3 rfl ?_
                              refine g_lload X d_MD_crash_195 1 rfl ?_
                              refine g_iload X d_MD_crash_197 2 rfl ?_
                              refine h_callV (As := [.long (enK (va_up L j9 (xrb (L j9) wm)) p), .long (enV (va_up L j9 (xrb (L j9) wm)) p), .int (nI ((va_up L j9 (xrb (L j9) wm)) (p + 8)))]) (st := []) [0, 1, 2, 3] [(h, .inr (6, [.int (nI 0), .int (nI M), .int (nI ((stm Rr (enK (va_up L j9 (xrb (L j9) wm)) p) ((va_up L j9 (xrb (L j9) wm)) (p + 8)) (enV (va_up L j9 (xrb (L j9) wm)) p)).2.2.2)), .ref y1, .ref y2, .ref y3, .int (nI u), .ref y4, .ref y5, .ref y6, .ref y7, .int (nI c), .ref y8, .ref y9, .ref y10, .ref y11, .ref y12, .int bd, .int ck, .int ps, .int (nI pa), .int lc, .int (nI (b2n fb)), .long ek, .long ev, .int (nI el), .int (nI fn), .ref y13, .ref y14, .ref y15, .ref y16, .int (nI js), .ref y17, .int (nI (b2n ib))])), (y1, .inl (.long, 25, .inr (.inl ((stm Rr (enK (va_up L j9 (xrb (L j9) wm)) p) ((va_up L j9 (xrb (L j9) wm)) (p + 8)) (enV (va_up L j9 (xrb (L j9) wm)) p)).1)))), (y2, .inl (.long, 25, .inr (.inl ((stm Rr (enK (va_up L j9 (xrb (L j9) wm)) p) ((va_up L j9 (xrb (L j9) wm)) (p + 8)) (enV (va_up L j9 (xrb (L j9) wm)) p)).2.2.1)))), (y3, .inl (.int, 25, .inl (fun q => nI (((stm Rr (enK (va_up L j9 (xrb (L j9) wm)) p) ((va_up L j9 (xrb (L j9) wm)) (p + 8)) (enV (va_up L j9 (xrb (L j9) wm)) p)).2.1) q)))), (y4, .inl (.int, 1024, .inl (fun q => nI (((va_up L j9 (xrb (L j9) wm))) q))))] X d_MD_crash_199 (c_MD_set (K := Rr.1) (z := Rr.2.1) (V := Rr.2.2.1) (n := Rr.2.2.2) hst hn3 q4 hr9) (hl_w 0 rfl hn) rfl rfl k_ml_MD_105 k_cd_MD_set k_in_MD k_im_MD_set k_se_MD_set ⟨by decide +kernel, by decide +kernel, (by decide +kernel : (parseMethodDescriptor y_MD_set.desc).map (fun d => d.parameters.length) = some 3)⟩ ⟨Nat.le_of_ble_eq_true rfl, Nat.le_of_ble_eq_true rfl⟩ ⟨Nat.le_of_ble_eq_true rfl, Nat.le_of_ble_eq_true rfl⟩ (Nat.le_of_ble_eq_true rfl) hn rfl rfl rfl hp_no hp_no2 ?_
                              refine g_iload X d_MD_crash_202 4 rfl ?_
                              refine g_iload X d_MD_crash_204 5 rfl ?_
                              refine g_iadd X d_MD_crash_206 ?_
                              refine g_vi (nI (p + whl (va_up L j9 (xrb (L j9) wm)) p a)) (nI_add _ _) ?_
                              refine g_istore [(4, .int (nI (p + whl (va_up L j9 (xrb (L j9) wm)) p a))), (11, .int (nI j)), (9, .long (enV (va_up L j9 (xrb (L j9) wm)) p)), (8, .int (nI ((va_up L j9 (xrb (L j9) wm)) (p + 8)))), (6, .long (enK (va_up L j9 (xrb (L j9) wm)) p)), (5, .int (nI (whl (va_up L j9 (xrb (L j9) wm)) p a))), (0, .ref h), (1, .int (nI a)), (2, .int (nI j9)), (3, .int wm)] X d_MD_crash_207 (by decide) rfl ?_
                              refine g_lve (lv' := [(4, .int (nI (p + ebn ((va_up L j9 (xrb (L j9) wm)) (p + 8)) + 1))), (11, .int (nI j)), (9, .long (enV (va_up L j9 (xrb (L j9) wm)) p)), (8, .int (nI ((va_up L j9 (xrb (L j9) wm)) (p + 8)))), (6, .long (enK (va_up L j9 (xrb (L j9) wm)) p)), (5, .int (nI (whl (va_up L j9 (xrb (L j9) wm)) p a))), (0, .ref h), (1, .int (nI a)), (2, .int (nI j9)), (3, .int wm)]) (by rw [hw9, Nat.add_assoc]) ?_
                              refine g_aload_n X d_MD_crash_209 6 rfl ?_
                              refine g_iload X d_MD_crash_210 0 rfl ?_
                              refine g_iload_n X d_MD_crash_212 7 rfl ?_
                              refine h_callV (As := [.int (nI (p + ebn ((va_up L j9 (xrb (L j9) wm)) (p + 8)) + 1)), .int (nI a)]) (st := []) [0, 4] [(h, .inr (6, [.int (nI 0), .int (nI M), .int (nI ((stm Rr (enK (va_up L j9 (xrb (L j9) wm)) p) ((va_up L j9 (xrb (L j9) wm)) (p + 8)) (enV (va_up L j9 (xrb (L j9) wm)) p)).2.2.2)), .ref y1, .ref y2, .ref y3, .int (nI u), .ref y4, .ref y5, .ref y6, .ref y7, .int (nI c), .ref y8, .ref y9, .ref y10, .ref y11, .ref y12, .int bd, .int ck, .int ps, .int (nI pa), .int lc, .int (nI (b2n fb)), .long ek, .long ev, .int (nI el), .int (nI fn), .ref y13, .ref y14, .ref y15, .ref y16, .int (nI js), .ref y17, .int (nI (b2n ib))])), (y1, .inl (.long, 25, .inr (.inl ((stm Rr (enK (va_up L j9 (xrb (L j9) wm)) p) ((va_up L j9 (xrb (L j9) wm)) (p + 8)) (enV (va_up L j9 (xrb (L j9) wm)) p)).1)))), (y2, .inl (.long, 25, .inr (.inl ((stm Rr (enK (va_up L j9 (xrb (L j9) wm)) p) ((va_up L j9 (xrb (L j9) wm)) (p + 8)) (enV (va_up L j9 (xrb (L j9) wm)) p)).2.2.1)))), (y3, .inl (.int, 25, .inl (fun q => nI (((stm Rr (enK (va_up L j9 (xrb (L j9) wm)) p) ((va_up L j9 (xrb (L j9) wm)) (p + 8)) (enV (va_up L j9 (xrb (L j9) wm)) p)).2.1) q)))), (y4, .inl (.int, 1024, .inl (fun q => nI (((va_up L j9 (xrb (L j9) wm))) q))))] X d_MD_crash_213 (c_MD_wholeAt hst hn4 (by omega) (by have := hk8.2.1; omega) hL9) (hl_w 0 rfl hn) rfl rfl k_ml_MD_261 k_cd_MD_wholeAt k_in_MD k_im_MD_wholeAt k_se_MD_wholeAt ⟨by decide +kernel, by decide +kernel, (by decide +kernel : (parseMethodDescriptor y_MD_wholeAt.desc).map (fun d => d.parameters.length) = some 2)⟩ ⟨Nat.le_of_ble_eq_true rfl, Nat.le_of_ble_eq_true rfl⟩ ⟨Nat.le_of_ble_eq_true rfl, Nat.le_of_ble_eq_true rfl⟩ (Nat.le_of_ble_eq_true rfl) hn rfl rfl rfl hp_no hp_no2 ?_
                              refine g_istore [(5, .int (nI (whl (va_up L j9 (xrb (L j9) wm)) (p + ebn ((va_up L j9 (xrb (L j9) wm)) (p + 8)) + 1) a))), (4, .int (nI (p + ebn ((va_up L j9 (xrb (L j9) wm)) (p + 8)) + 1))), (11, .int (nI j)), (9, .long (enV (va_up L j9 (xrb (L j9) wm)) p)), (8, .int (nI ((va_up L j9 (xrb (L j9) wm)) (p + 8)))), (6, .long (enK (va_up L j9 (xrb (L j9) wm)) p)), (0, .ref h), (1, .int (nI a)), (2, .int (nI j9)), (3, .int wm)] X d_MD_crash_216 (by decide) rfl ?_
                              refine g_goto 72 X d_MD_crash_218 (by decide) ?_
                              refine g_lv [0, 1, 6, 7, 8, 9] [(5, .int (nI (whl (va_up L j9 (xrb (L j9) wm)) (p + ebn ((va_up L j9 (xrb (L j9) wm)) (p + 8)) + 1) a))), (4, .int (nI (p + ebn ((va_up L j9 (xrb (L j9) wm)) (p + 8)) + 1))), (0, .ref h), (1, .int (nI a)), (2, .int (nI j9)), (3, .int wm)] rfl ?_
                              have hst9 := redo_step (B := (va_up L j9 (xrb (L j9) wm))) (u := a) (N := 24) (t := t - 1) (K := Rr.1) (z := Rr.2.1) (V := Rr.2.2.1) (n := Rr.2.2.2) hk8 hr9
                              rw [show t - 1 + 1 = t by omega] at hst9
                              have hr8 : isIn Rr.1 Rr.2.2.2 (enK (va_up L j9 (xrb (L j9) wm)) p) = true ∨ Rr.2.2.2 < 24 := hr9.imp isIn_t id
                              refine g_lv [1, 0, 2, 3, 4, 5] [(4, .int (nI (p + ebn ((va_up L j9 (xrb (L j9) wm)) (p + 8)) + 1))), (5, .int (nI (whl (va_up L j9 (xrb (L j9) wm)) (p + ebn ((va_up L j9 (xrb (L j9) wm)) (p + 8)) + 1) a))), (0, .ref h), (1, .int (nI a)), (2, .int (nI j9)), (3, .int wm)] rfl ?_
                              exact ih72 (t - 1) (stm Rr (enK (va_up L j9 (xrb (L j9) wm)) p) ((va_up L j9 (xrb (L j9) wm)) (p + 8)) (enV (va_up L j9 (xrb (L j9) wm)) p)) (p + ebn ((va_up L j9 (xrb (L j9) wm)) (p + 8)) + 1) (by rw [q1, ← hst9]) (by have := hk8.2.1; omega) (by omega) (stm_cnt q4 hr8) (by omega)
                            · have h161 := cv_nle (by omega) (by omega) h161
                              refine g_lload X d_MD_crash_164 1 rfl ?_
                              refine g_bipush (nI 8) X d_MD_crash_166 (by decide) ?_
                              refine g_lshl X d_MD_crash_168 ?_
                              refine g_aload_n X d_MD_crash_169 6 rfl ?_
                              refine g_getf (k := 7) X d_MD_crash_170 (hl_w 0 rfl hn) rfl i_MD (by decide) k_fl_MD_20 (fun _ h => h) rfl ?_
                              refine g_iload X d_MD_crash_173 4 rfl ?_
                              refine g_bipush (nI 9) X d_MD_crash_175 (by decide) ?_
                              refine g_iadd X d_MD_crash_177 ?_
                              refine g_vi (nI (p + 9)) (nI_add _ _) ?_
                              refine g_iload X d_MD_crash_178 0 rfl ?_
                              refine g_iadd X d_MD_crash_180 ?_
                              refine g_vi (nI (p + 9 + j)) (nI_add _ _) ?_
                              refine h_iald X d_MD_crash_181 (hl_w 4 rfl hn) (by omega) (by omega) ?_
                              refine g_i2l X d_MD_crash_182 ?_
                              refine g_lor X d_MD_crash_183 ?_
                              refine g_lstore [(9, .long (((rdK (fun i => (va_up L j9 (xrb (L j9) wm)) (p + (9 + i))) j) <<< ((nI 8).toInt64 &&& 63)) ||| ((nI ((va_up L j9 (xrb (L j9) wm)) (p + 9 + j))).toInt64))), (11, .int (nI j)), (8, .int (nI ((va_up L j9 (xrb (L j9) wm)) (p + 8)))), (6, .long (enK (va_up L j9 (xrb (L j9) wm)) p)), (4, .int (nI p)), (5, .int (nI (whl (va_up L j9 (xrb (L j9) wm)) p a))), (0, .ref h), (1, .int (nI a)), (2, .int (nI j9)), (3, .int wm)] X d_MD_crash_184 (by decide) rfl ?_
                              refine g_iinc (nI (j + 1)) 1 [(11, .int (nI (j + 1))), (9, .long (((rdK (fun i => (va_up L j9 (xrb (L j9) wm)) (p + (9 + i))) j) <<< ((nI 8).toInt64 &&& 63)) ||| ((nI ((va_up L j9 (xrb (L j9) wm)) (p + 9 + j))).toInt64))), (8, .int (nI ((va_up L j9 (xrb (L j9) wm)) (p + 8)))), (6, .long (enK (va_up L j9 (xrb (L j9) wm)) p)), (4, .int (nI p)), (5, .int (nI (whl (va_up L j9 (xrb (L j9) wm)) p a))), (0, .ref h), (1, .int (nI a)), (2, .int (nI j9)), (3, .int wm)] X d_MD_crash_186 rfl (nI_1 _) (by decide) rfl ?_
                              refine g_goto 154 X d_MD_crash_189 (by decide) ?_
                              refine g_lve (lv' := [(11, .int (nI (j + 1))), (9, .long (rdK (fun i => (va_up L j9 (xrb (L j9) wm)) (p + (9 + i))) (j + 1))), (8, .int (nI ((va_up L j9 (xrb (L j9) wm)) (p + 8)))), (6, .long (enK (va_up L j9 (xrb (L j9) wm)) p)), (4, .int (nI p)), (5, .int (nI (whl (va_up L j9 (xrb (L j9) wm)) p a))), (0, .ref h), (1, .int (nI a)), (2, .int (nI j9)), (3, .int wm)]) (by rw [show p + 9 + j = p + (9 + j) by omega]; rfl) ?_
                              exact ih154 (j + 1) (by omega) (by omega)
                        exact L154 _ 0 (Nat.zero_le _) (Nat.lt_succ_self _)
                      · have h130 := cv_e0 (b2n_31 _) h130
                        have hz9 := redo_full (B := (va_up L j9 (xrb (L j9) wm))) (u := a) (N := 24) (t := t) (p := p) (K := Rr.1) (z := Rr.2.1) (V := Rr.2.2.1) (n := Rr.2.2.2) (of_decide_eq_false (b2n_0 h130)) (by omega)
                        refine g_goto 221 X d_MD_crash_133 (by decide) ?_
                        refine g_aload_n X d_MD_crash_221 4 rfl ?_
                        refine g_iload X d_MD_crash_222 2 rfl ?_
                        refine h_putf (k := 6) (ty := .int) 0 [(h, .inr (6, [.int (nI 0), .int (nI M), .int (nI Rr.2.2.2), .ref y1, .ref y2, .ref y3, .int (nI p), .ref y4, .ref y5, .ref y6, .ref y7, .int (nI c), .ref y8, .ref y9, .ref y10, .ref y11, .ref y12, .int bd, .int ck, .int ps, .int (nI pa), .int lc, .int (nI (b2n fb)), .long ek, .long ev, .int (nI el), .int (nI fn), .ref y13, .ref y14, .ref y15, .ref y16, .int (nI js), .ref y17, .int (nI (b2n ib))])), (y1, .inl (.long, 25, .inr (.inl Rr.1))), (y2, .inl (.long, 25, .inr (.inl Rr.2.2.1))), (y3, .inl (.int, 25, .inl (fun q => nI ((Rr.2.1) q)))), (y4, .inl (.int, 1024, .inl (fun q => nI (((va_up L j9 (xrb (L j9) wm))) q))))] X d_MD_crash_224 hn rfl rfl i_MD t_MD t_MD_ok n_MD (by decide) k_fl_MD_84 (fun _ h => h) rfl (by decide +kernel) rfl rfl (Nat.le_of_ble_eq_true rfl) rfl ?_
                        refine g_aload_n X d_MD_crash_227 4 rfl ?_
                        refine g_getf (k := 2) X d_MD_crash_228 (hl_w 0 rfl hn) rfl i_MD (by decide) k_fl_MD_73 (fun _ h => h) rfl ?_
                        exact g_iret X hr d_MD_crash_231 (Nat.le_of_ble_eq_true rfl) (Nat.le_of_ble_eq_true rfl) (⟨by rw [q1, hz9], by rw [q1, hz9]⟩)
                  · have h87 := cv_nle (by omega) (by omega) h87
                    refine g_lload X d_MD_crash_90 1 rfl ?_
                    refine g_bipush (nI 8) X d_MD_crash_92 (by decide) ?_
                    refine g_lshl X d_MD_crash_94 ?_
                    refine g_aload_n X d_MD_crash_95 4 rfl ?_
                    refine g_getf (k := 7) X d_MD_crash_96 (hl_w 0 rfl hn) rfl i_MD (by decide) k_fl_MD_20 (fun _ h => h) rfl ?_
                    refine g_iload X d_MD_crash_99 2 rfl ?_
                    refine g_iload X d_MD_crash_101 0 rfl ?_
                    refine g_iadd X d_MD_crash_103 ?_
                    refine g_vi (nI (p + j)) (nI_add _ _) ?_
                    refine h_iald X d_MD_crash_104 (hl_w 4 rfl hn) (by omega) (by omega) ?_
                    refine g_i2l X d_MD_crash_105 ?_
                    refine g_lor X d_MD_crash_106 ?_
                    refine g_lstore [(6, .long (((rdK (fun i => (va_up L j9 (xrb (L j9) wm)) (p + i)) j) <<< ((nI 8).toInt64 &&& 63)) ||| ((nI ((va_up L j9 (xrb (L j9) wm)) (p + j))).toInt64))), (8, .int (nI j)), (4, .int (nI p)), (5, .int (nI (whl (va_up L j9 (xrb (L j9) wm)) p a))), (0, .ref h), (1, .int (nI a)), (2, .int (nI j9)), (3, .int wm)] X d_MD_crash_107 (by decide) rfl ?_
                    refine g_iinc (nI (j + 1)) 1 [(8, .int (nI (j + 1))), (6, .long (((rdK (fun i => (va_up L j9 (xrb (L j9) wm)) (p + i)) j) <<< ((nI 8).toInt64 &&& 63)) ||| ((nI ((va_up L j9 (xrb (L j9) wm)) (p + j))).toInt64))), (4, .int (nI p)), (5, .int (nI (whl (va_up L j9 (xrb (L j9) wm)) p a))), (0, .ref h), (1, .int (nI a)), (2, .int (nI j9)), (3, .int wm)] X d_MD_crash_109 rfl (nI_1 _) (by decide) rfl ?_
                    refine g_goto 83 X d_MD_crash_112 (by decide) ?_
                    refine g_lve (lv' := [(8, .int (nI (j + 1))), (6, .long (rdK (fun i => (va_up L j9 (xrb (L j9) wm)) (p + i)) (j + 1))), (4, .int (nI p)), (5, .int (nI (whl (va_up L j9 (xrb (L j9) wm)) p a))), (0, .ref h), (1, .int (nI a)), (2, .int (nI j9)), (3, .int wm)]) rfl ?_
                    exact ih83 (j + 1) (by omega) (by omega)
              exact L83 _ 0 (Nat.zero_le _) (Nat.lt_succ_self _)
        refine g_lv [1, 0, 2, 3, 4, 5] [(4, .int (nI 0)), (5, .int (nI (whl (va_up L j9 (xrb (L j9) wm)) 0 a))), (0, .ref h), (1, .int (nI a)), (2, .int (nI j9)), (3, .int wm)] rfl ?_
        exact L72 _ 1024 (K, z, V, 0) 0 rfl (Nat.zero_le _) (by omega) (Nat.zero_le _) (Nat.lt_succ_self _)
    · have h25 := cv_e0 (b2n_31 _) h25
      rw [hx2] at h25
      exact absurd h25 (by decide)
