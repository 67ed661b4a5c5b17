set_option maxRecDepth 100000 in
set_option maxHeartbeats 1000000 in
theorem c_RS_tableNumbered_in {l : Launch} (hst : l.stackTraces = false) {x xm xl xb xr xt xg c : Nat} {sv : Int64} {ps bd : Int32} (hn : [x, xt].Nodup) {P : fh_M} {rf : Nat → Option Nat} {tq ti : Nat → Nat} {tb : Nat → TBr} (hP : pool P rf tq ti tb c) (hc16 : c ≤ 16) {j : Nat} (hj : j < c) : fh_C l fhCl fhT y_RS_tableNumbered (.code y_RS_tableNumbered b_RS_tableNumbered 2 (some (.object "RunStore$Table"))) 0 0 [.ref x, .int (nI j)] (hp [(x, .inr (5, [.ref xm, .ref xl, .ref xb, .ref xr, .ref xt, .int (nI c), .ref xg, .long sv, .int ps, .int bd])), (xt, .inl (.object "RunStore$Table", 16, .inr (.inr (.inr (.inr rf)))))]) P 0 0 (fh_ret (some (.ref (tq j))) [(x, .inr (5, [.ref xm, .ref xl, .ref xb, .ref xr, .ref xt, .int (nI c), .ref xg, .long sv, .int ps, .int bd])), (xt, .inl (.object "RunStore$Table", 16, .inr (.inr (.inr (.inr rf)))))]) := by
  refine fh_enter (by decide) hst (Nat.le_of_ble_eq_true rfl) ?_
  intro mD mp me sm mm margs mbel mmet mcod X hr hnm hno hf0
  show fh_G mp l me (fh_rm 0 0 0 0) sm mm margs mbel mmet mcod mD fhCl (hp [(x, .inr (5, [.ref xm, .ref xl, .ref xb, .ref xr, .ref xt, .int (nI c), .ref xg, .long sv, .int ps, .int bd])), (xt, .inl (.object "RunStore$Table", 16, .inr (.inr (.inr (.inr rf)))))]) 2 _ 0 0 (hp [(x, .inr (5, [.ref xm, .ref xl, .ref xb, .ref xr, .ref xt, .int (nI c), .ref xg, .long sv, .int ps, .int bd])), (xt, .inl (.object "RunStore$Table", 16, .inr (.inr (.inr (.inr rf)))))]) 0 [(0, .ref x), (1, .int (nI j))] []
  refine g_iload_n X d_RS_tableNumbered_0 1 rfl ?_
  refine g_if_lt 21 X d_RS_tableNumbered_1 (by decide) (fun h1 => ?_) (fun h1 => ?_)
  · exact (cv_l0 (by omega) h1).elim
  · refine g_iload_n X d_RS_tableNumbered_4 1 rfl ?_
    refine g_aload_n X d_RS_tableNumbered_5 0 rfl ?_
    refine g_getf (k := 5) X d_RS_tableNumbered_6 (hl_w 0 rfl hn) rfl i_RS (by decide) k_fl_RS_83 (fun _ h => h) rfl ?_
    refine g_icmp_ge 21 X d_RS_tableNumbered_9 (by decide) (fun h9 => ?_) (fun h9 => ?_)
    · have h9 := cv_le (by omega) (by omega) h9
      omega
    · have h9 := cv_nle (by omega) (by omega) h9
      refine g_aload_n X d_RS_tableNumbered_12 0 rfl ?_
      refine g_getf (k := 4) X d_RS_tableNumbered_13 (hl_w 0 rfl hn) rfl i_RS (by decide) k_fl_RS_49 (fun _ h => h) rfl ?_
      refine g_iload_n X d_RS_tableNumbered_16 1 rfl ?_
      refine h_aald X d_RS_tableNumbered_17 (hl_w 1 rfl hn) (by omega) (by omega) ?_
      refine g_vv (.ref ((tq j))) (by rw [(hP j hj).1]; rfl) ?_
      refine g_ifnonnull 32 X d_RS_tableNumbered_18 (by decide) ?_
      refine g_aload_n X d_RS_tableNumbered_32 0 rfl ?_
      refine g_getf (k := 4) X d_RS_tableNumbered_33 (hl_w 0 rfl hn) rfl i_RS (by decide) k_fl_RS_49 (fun _ h => h) rfl ?_
      refine g_iload_n X d_RS_tableNumbered_36 1 rfl ?_
      refine h_aald X d_RS_tableNumbered_37 (hl_w 1 rfl hn) (by omega) (by omega) ?_
      refine g_vv (.ref ((tq j))) (by rw [(hP j hj).1]; rfl) ?_
      exact g_aret X hr (Or.inl ⟨_, rfl⟩) (Or.inr ⟨_, rfl⟩) d_RS_tableNumbered_38 (Nat.le_of_ble_eq_true rfl) (Nat.le_of_ble_eq_true rfl) (fh_ret_i)

set_option maxRecDepth 100000 in
set_option maxHeartbeats 1000000 in
theorem c_RS_tableNumbered_no {l : Launch} (hst : l.stackTraces = false) {x xm xl xb xr xt xg c : Nat} {sv : Int64} {ps bd : Int32} (hn : [x, xt].Nodup) {P : fh_M} {rf : Nat → Option Nat} {tq ti : Nat → Nat} {tb : Nat → TBr} (hP : pool P rf tq ti tb c) (hc16 : c ≤ 16) {j : Int32} (hx : j < 0 ∨ nI c ≤ j) : fh_C l fhCl fhT y_RS_tableNumbered (.code y_RS_tableNumbered b_RS_tableNumbered 2 (some (.object "RunStore$Table"))) 6 82 [.ref x, .int j] (hp [(x, .inr (5, [.ref xm, .ref xl, .ref xb, .ref xr, .ref xt, .int (nI c), .ref xg, .long sv, .int ps, .int bd])), (xt, .inl (.object "RunStore$Table", 16, .inr (.inr (.inr (.inr rf)))))]) P 1 6 (fh_thr nEI [(x, .inr (5, [.ref xm, .ref xl, .ref xb, .ref xr, .ref xt, .int (nI c), .ref xg, .long sv, .int ps, .int bd])), (xt, .inl (.object "RunStore$Table", 16, .inr (.inr (.inr (.inr rf)))))]) := by
  refine fh_enter (by decide) hst (Nat.le_of_ble_eq_true rfl) ?_
  intro mD mp me sm mm margs mbel mmet mcod X hr hnm hno hf0
  show fh_G mp l me (fh_rm 6 82 1 6) sm mm margs mbel mmet mcod mD fhCl (hp [(x, .inr (5, [.ref xm, .ref xl, .ref xb, .ref xr, .ref xt, .int (nI c), .ref xg, .long sv, .int ps, .int bd])), (xt, .inl (.object "RunStore$Table", 16, .inr (.inr (.inr (.inr rf)))))]) 2 _ 0 0 (hp [(x, .inr (5, [.ref xm, .ref xl, .ref xb, .ref xr, .ref xt, .int (nI c), .ref xg, .long sv, .int ps, .int bd])), (xt, .inl (.object "RunStore$Table", 16, .inr (.inr (.inr (.inr rf)))))]) 0 [(0, .ref x), (1, .int j)] []
  refine g_iload_n X d_RS_tableNumbered_0 1 rfl ?_
  refine g_if_lt 21 X d_RS_tableNumbered_1 (by decide) (fun h1 => ?_) (fun h1 => ?_)
  · exact g_throwSW (names := thrEA) X hno d_RS_tableNumbered_21 d_RS_tableNumbered_24 d_RS_tableNumbered_25 d_RS_tableNumbered_28 d_RS_tableNumbered_31 (by decide +kernel) (by decide +kernel) k_cl_RS_164 k_in_EI k_sr_RS_281 thr_RS_168 (Nat.le_of_ble_eq_true rfl) (Nat.le_of_ble_eq_true rfl) (Nat.le_of_ble_eq_true rfl) (Nat.le_of_ble_eq_true rfl) (Nat.le_of_ble_eq_true rfl) (Nat.le_of_ble_eq_true rfl) (⟨rfl, rfl⟩)
  · refine g_iload_n X d_RS_tableNumbered_4 1 rfl ?_
    refine g_aload_n X d_RS_tableNumbered_5 0 rfl ?_
    refine g_getf (k := 5) X d_RS_tableNumbered_6 (hl_w 0 rfl hn) rfl i_RS (by decide) k_fl_RS_83 (fun _ h => h) rfl ?_
    refine g_icmp_ge 21 X d_RS_tableNumbered_9 (by decide) (fun h9 => ?_) (fun h9 => ?_)
    · exact g_throwSW (names := thrEA) X hno d_RS_tableNumbered_21 d_RS_tableNumbered_24 d_RS_tableNumbered_25 d_RS_tableNumbered_28 d_RS_tableNumbered_31 (by decide +kernel) (by decide +kernel) k_cl_RS_164 k_in_EI k_sr_RS_281 thr_RS_168 (Nat.le_of_ble_eq_true rfl) (Nat.le_of_ble_eq_true rfl) (Nat.le_of_ble_eq_true rfl) (Nat.le_of_ble_eq_true rfl) (Nat.le_of_ble_eq_true rfl) (Nat.le_of_ble_eq_true rfl) (⟨rfl, rfl⟩)
    · exact (hx.elim h1 h9).elim

set_option maxRecDepth 100000 in
set_option maxHeartbeats 1000000 in
theorem c_RS_may_in {l : Launch} (hst : l.stackTraces = false) {x xm xl xb xr xt xg c : Nat} {sv : Int64} {ps bd : Int32} {M : Nat} (hn : [x, xt].Nodup) {P : fh_M} {rf : Nat → Option Nat} {tq ti : Nat → Nat} {tb : Nat → TBr} (hP : pool P rf tq ti tb c) (hc16 : c ≤ 16) (hT : ∀ u, u < c → tbOk M (tb u)) {j : Nat} {k : Int64} (hj : j < c) : fh_C l fhCl fhT y_RS_may (.code y_RS_may b_RS_may 4 (some .boolean)) 2 47 [.ref x, .int (nI j), .long k] (hp [(x, .inr (5, [.ref xm, .ref xl, .ref xb, .ref xr, .ref xt, .int (nI c), .ref xg, .long sv, .int ps, .int bd])), (xt, .inl (.object "RunStore$Table", 16, .inr (.inr (.inr (.inr rf)))))]) P 0 0 (fh_ret (some (.int (nI (b2n (decide ((tb j).fl &&& fbits k = fbits k)))))) [(x, .inr (5, [.ref xm, .ref xl, .ref xb, .ref xr, .ref xt, .int (nI c), .ref xg, .long sv, .int ps, .int bd])), (xt, .inl (.object "RunStore$Table", 16, .inr (.inr (.inr (.inr rf)))))]) := by
  refine fh_enter (by decide) hst (Nat.le_of_ble_eq_true rfl) ?_
  intro mD mp me sm mm margs mbel mmet mcod X hr hnm hno hf0
  show fh_G mp l me (fh_rm 2 47 0 0) sm mm margs mbel mmet mcod mD fhCl (hp [(x, .inr (5, [.ref xm, .ref xl, .ref xb, .ref xr, .ref xt, .int (nI c), .ref xg, .long sv, .int ps, .int bd])), (xt, .inl (.object "RunStore$Table", 16, .inr (.inr (.inr (.inr rf)))))]) 4 _ 0 0 (hp [(x, .inr (5, [.ref xm, .ref xl, .ref xb, .ref xr, .ref xt, .int (nI c), .ref xg, .long sv, .int ps, .int bd])), (xt, .inl (.object "RunStore$Table", 16, .inr (.inr (.inr (.inr rf)))))]) 0 [(0, .ref x), (1, .int (nI j)), (2, .long k)] []
  refine g_aload_n X d_RS_may_0 0 rfl ?_
  refine g_iload_n X d_RS_may_1 1 rfl ?_
  refine h_callVr (As := [.int (nI j)]) (st := []) [0, 1] [(x, .inr (5, [.ref xm, .ref xl, .ref xb, .ref xr, .ref xt, .int (nI c), .ref xg, .long sv, .int ps, .int bd])), (xt, .inl (.object "RunStore$Table", 16, .inr (.inr (.inr (.inr rf)))))] X d_RS_may_2 (c_RS_tableNumbered_in hst hn hP hc16 hj) (hl_w 0 rfl hn) rfl rfl k_ml_RS_147 k_cd_RS_tableNumbered k_in_RS k_im_RS_tableNumbered k_se_RS_tableNumbered ⟨by decide +kernel, by decide +kernel, (by decide +kernel : (parseMethodDescriptor y_RS_tableNumbered.desc).map (fun d => d.parameters.length) = some 1)⟩ ⟨Nat.le_of_ble_eq_true rfl, Nat.le_of_ble_eq_true rfl⟩ ⟨Nat.le_of_ble_eq_true rfl, Nat.le_of_ble_eq_true rfl⟩ (Nat.le_of_ble_eq_true rfl) hn rfl rfl rfl (fun q9 x9 h9 => h9) ?_
  refine g_lload_n X d_RS_may_5 2 rfl ?_
  refine h_callVr (As := [.long k]) (st := []) [] [(x, .inr (5, [.ref xm, .ref xl, .ref xb, .ref xr, .ref xt, .int (nI c), .ref xg, .long sv, .int ps, .int bd])), (xt, .inl (.object "RunStore$Table", 16, .inr (.inr (.inr (.inr rf)))))] X d_RS_may_6 (c_TB_passes hst (hP j hj).2.2.2 (hT j hj).2.1) (Or.inr (hP j hj).2.1) rfl rfl k_ml_RS_151 k_cd_TB_passes k_in_TB k_im_TB_passes k_se_TB_passes ⟨by decide +kernel, by decide +kernel, (by decide +kernel : (parseMethodDescriptor y_TB_passes.desc).map (fun d => d.parameters.length) = some 1)⟩ ⟨Nat.le_of_ble_eq_true rfl, Nat.le_of_ble_eq_true rfl⟩ ⟨Nat.le_of_ble_eq_true rfl, Nat.le_of_ble_eq_true rfl⟩ (Nat.le_of_ble_eq_true rfl) hn rfl rfl rfl (hp_in2 (hP j hj).2.1 (hP j hj).2.2.1) ?_
  exact g_zret X hr (nar_b2n _) d_RS_may_9 (Nat.le_of_ble_eq_true rfl) (Nat.le_of_ble_eq_true rfl) (⟨rfl, rfl⟩)

set_option maxRecDepth 100000 in
set_option maxHeartbeats 1000000 in
theorem c_RS_may_no {l : Launch} (hst : l.stackTraces = false) {x xm xl xb xr xt xg c : Nat} {sv : Int64} {ps bd : Int32} (hn : [x, xt].Nodup) {P : fh_M} {rf : Nat → Option Nat} {tq ti : Nat → Nat} {tb : Nat → TBr} (hP : pool P rf tq ti tb c) (hc16 : c ≤ 16) {j : Int32} {k : Int64} (hx : j < 0 ∨ nI c ≤ j) : fh_C l fhCl fhT y_RS_may (.code y_RS_may b_RS_may 4 (some .boolean)) 7 103 [.ref x, .int j, .long k] (hp [(x, .inr (5, [.ref xm, .ref xl, .ref xb, .ref xr, .ref xt, .int (nI c), .ref xg, .long sv, .int ps, .int bd])), (xt, .inl (.object "RunStore$Table", 16, .inr (.inr (.inr (.inr rf)))))]) P 1 6 (fh_thr nEI [(x, .inr (5, [.ref xm, .ref xl, .ref xb, .ref xr, .ref xt, .int (nI c), .ref xg, .long sv, .int ps, .int bd])), (xt, .inl (.object "RunStore$Table", 16, .inr (.inr (.inr (.inr rf)))))]) := by
  refine fh_enter (by decide) hst (Nat.le_of_ble_eq_true rfl) ?_
  intro mD mp me sm mm margs mbel mmet mcod X hr hnm hno hf0
  show fh_G mp l me (fh_rm 7 103 1 6) sm mm margs mbel mmet mcod mD fhCl (hp [(x, .inr (5, [.ref xm, .ref xl, .ref xb, .ref xr, .ref xt, .int (nI c), .ref xg, .long sv, .int ps, .int bd])), (xt, .inl (.object "RunStore$Table", 16, .inr (.inr (.inr (.inr rf)))))]) 4 _ 0 0 (hp [(x, .inr (5, [.ref xm, .ref xl, .ref xb, .ref xr, .ref xt, .int (nI c), .ref xg, .long sv, .int ps, .int bd])), (xt, .inl (.object "RunStore$Table", 16, .inr (.inr (.inr (.inr rf)))))]) 0 [(0, .ref x), (1, .int j), (2, .long k)] []
  refine g_aload_n X d_RS_may_0 0 rfl ?_
  refine g_iload_n X d_RS_may_1 1 rfl ?_
  refine g_callXf (As := [.int j]) (st := []) X d_RS_may_2 (c_RS_tableNumbered_no hst hn hP hc16 hx) (hl_w 0 rfl hn) rfl rfl k_ml_RS_147 k_cd_RS_tableNumbered k_in_RS k_im_RS_tableNumbered k_se_RS_tableNumbered ⟨by decide +kernel, by decide +kernel, (by decide +kernel : (parseMethodDescriptor "(I)LRunStore$Table;").map (fun d => d.parameters.length) = some 1)⟩ ⟨Nat.le_of_ble_eq_true rfl, Nat.le_of_ble_eq_true rfl⟩ ⟨Nat.le_of_ble_eq_true rfl, Nat.le_of_ble_eq_true rfl⟩ (Nat.le_of_ble_eq_true rfl) (hp_sub hn [0, 1] rfl) (hrx_r (fun q9 x9 h9 => h9)) (fun v9 g9 hq hfr => by obtain ⟨hv9, hg9⟩ := hq; cases hv9) (fun E9 g9 hq => ?_)
  obtain ⟨hv9, hg9⟩ := hq
  cases hv9
  subst hg9
  rw [hp_over (ws := [(x, .inr (5, [.ref xm, .ref xl, .ref xb, .ref xr, .ref xt, .int (nI c), .ref xg, .long sv, .int ps, .int bd])), (xt, .inl (.object "RunStore$Table", 16, .inr (.inr (.inr (.inr rf)))))]) hn [0, 1] _ rfl]
  exact g_out (f := hp [(x, .inr (5, [.ref xm, .ref xl, .ref xb, .ref xr, .ref xt, .int (nI c), .ref xg, .long sv, .int ps, .int bd])), (xt, .inl (.object "RunStore$Table", 16, .inr (.inr (.inr (.inr rf)))))]) X hno (Nat.le_of_ble_eq_true rfl) (Nat.le_of_ble_eq_true rfl) (⟨rfl, rfl⟩)

set_option maxRecDepth 100000 in
set_option maxHeartbeats 1000000 in
theorem c_RS_table_0 {l : Launch} (hst : l.stackTraces = false) {x xm xl xb xr xt xg c : Nat} {sv : Int64} {ps bd : Int32} {M : Nat} (hn : [x, xt].Nodup) {P : fh_M} {rf : Nat → Option Nat} {tq ti : Nat → Nat} {tb : Nat → TBr} (hP : pool P rf tq ti tb c) (hc16 : c ≤ 16) (hT : ∀ u, u < c → tbOk M (tb u)) {j : Nat} (hj : j < c) : fh_C l fhCl fhT y_RS_table (.code y_RS_table b_RS_table 4 (some .int)) 7 103 [.ref x, .int (nI j), .int (nI 0)] (hp [(x, .inr (5, [.ref xm, .ref xl, .ref xb, .ref xr, .ref xt, .int (nI c), .ref xg, .long sv, .int ps, .int bd])), (xt, .inl (.object "RunStore$Table", 16, .inr (.inr (.inr (.inr rf)))))]) P 1 6 (fh_ret (some (.int (nI (tb j).lv))) [(x, .inr (5, [.ref xm, .ref xl, .ref xb, .ref xr, .ref xt, .int (nI c), .ref xg, .long sv, .int ps, .int bd])), (xt, .inl (.object "RunStore$Table", 16, .inr (.inr (.inr (.inr rf)))))]) := by
  refine fh_enter (by decide) hst (Nat.le_of_ble_eq_true rfl) ?_
  intro mD mp me sm mm margs mbel mmet mcod X hr hnm hno hf0
  show fh_G mp l me (fh_rm 7 103 1 6) sm mm margs mbel mmet mcod mD fhCl (hp [(x, .inr (5, [.ref xm, .ref xl, .ref xb, .ref xr, .ref xt, .int (nI c), .ref xg, .long sv, .int ps, .int bd])), (xt, .inl (.object "RunStore$Table", 16, .inr (.inr (.inr (.inr rf)))))]) 4 _ 0 0 (hp [(x, .inr (5, [.ref xm, .ref xl, .ref xb, .ref xr, .ref xt, .int (nI c), .ref xg, .long sv, .int ps, .int bd])), (xt, .inl (.object "RunStore$Table", 16, .inr (.inr (.inr (.inr rf)))))]) 0 [(0, .ref x), (1, .int (nI j)), (2, .int (nI 0))] []
  refine g_aload_n X d_RS_table_0 0 rfl ?_
  refine g_iload_n X d_RS_table_1 1 rfl ?_
  refine h_callVr (As := [.int (nI j)]) (st := []) [0, 1] [(x, .inr (5, [.ref xm, .ref xl, .ref xb, .ref xr, .ref xt, .int (nI c), .ref xg, .long sv, .int ps, .int bd])), (xt, .inl (.object "RunStore$Table", 16, .inr (.inr (.inr (.inr rf)))))] X d_RS_table_2 (c_RS_tableNumbered_in hst hn hP hc16 hj) (hl_w 0 rfl hn) rfl rfl k_ml_RS_147 k_cd_RS_tableNumbered k_in_RS k_im_RS_tableNumbered k_se_RS_tableNumbered ⟨by decide +kernel, by decide +kernel, (by decide +kernel : (parseMethodDescriptor y_RS_tableNumbered.desc).map (fun d => d.parameters.length) = some 1)⟩ ⟨Nat.le_of_ble_eq_true rfl, Nat.le_of_ble_eq_true rfl⟩ ⟨Nat.le_of_ble_eq_true rfl, Nat.le_of_ble_eq_true rfl⟩ (Nat.le_of_ble_eq_true rfl) hn rfl rfl rfl (fun q9 x9 h9 => h9) ?_
  refine g_astore_n [(3, .ref (tq j)), (0, .ref x), (1, .int (nI j)), (2, .int (nI 0))] X d_RS_table_5 (by decide) rfl ?_
  refine g_iload_n X d_RS_table_6 3 rfl ?_
  refine g_tableIn (off := 29) 36 X d_RS_table_7 (by decide) (by decide) (by decide) (by decide) ?_
  refine g_aload_n X d_RS_table_36 0 rfl ?_
  refine g_getN (k := 0) X d_RS_table_37 (Or.inr (hP j hj).2.1) rfl i_TB (by decide) k_fl_RS_155 (fun _ h => h) rfl ?_
  exact g_iret X hr d_RS_table_40 (Nat.le_of_ble_eq_true rfl) (Nat.le_of_ble_eq_true rfl) (⟨rfl, rfl⟩)

set_option maxRecDepth 100000 in
set_option maxHeartbeats 1000000 in
theorem c_RS_table_1 {l : Launch} (hst : l.stackTraces = false) {x xm xl xb xr xt xg c : Nat} {sv : Int64} {ps bd : Int32} {M : Nat} (hn : [x, xt].Nodup) {P : fh_M} {rf : Nat → Option Nat} {tq ti : Nat → Nat} {tb : Nat → TBr} (hP : pool P rf tq ti tb c) (hc16 : c ≤ 16) (hT : ∀ u, u < c → tbOk M (tb u)) {j : Nat} (hj : j < c) : fh_C l fhCl fhT y_RS_table (.code y_RS_table b_RS_table 4 (some .int)) 7 103 [.ref x, .int (nI j), .int (nI 1)] (hp [(x, .inr (5, [.ref xm, .ref xl, .ref xb, .ref xr, .ref xt, .int (nI c), .ref xg, .long sv, .int ps, .int bd])), (xt, .inl (.object "RunStore$Table", 16, .inr (.inr (.inr (.inr rf)))))]) P 1 6 (fh_ret (some (.int (nI (tb j).en))) [(x, .inr (5, [.ref xm, .ref xl, .ref xb, .ref xr, .ref xt, .int (nI c), .ref xg, .long sv, .int ps, .int bd])), (xt, .inl (.object "RunStore$Table", 16, .inr (.inr (.inr (.inr rf)))))]) := by
  refine fh_enter (by decide) hst (Nat.le_of_ble_eq_true rfl) ?_
  intro mD mp me sm mm margs mbel mmet mcod X hr hnm hno hf0
  show fh_G mp l me (fh_rm 7 103 1 6) sm mm margs mbel mmet mcod mD fhCl (hp [(x, .inr (5, [.ref xm, .ref xl, .ref xb, .ref xr, .ref xt, .int (nI c), .ref xg, .long sv, .int ps, .int bd])), (xt, .inl (.object "RunStore$Table", 16, .inr (.inr (.inr (.inr rf)))))]) 4 _ 0 0 (hp [(x, .inr (5, [.ref xm, .ref xl, .ref xb, .ref xr, .ref xt, .int (nI c), .ref xg, .long sv, .int ps, .int bd])), (xt, .inl (.object "RunStore$Table", 16, .inr (.inr (.inr (.inr rf)))))]) 0 [(0, .ref x), (1, .int (nI j)), (2, .int (nI 1))] []
  refine g_aload_n X d_RS_table_0 0 rfl ?_
  refine g_iload_n X d_RS_table_1 1 rfl ?_
  refine h_callVr (As := [.int (nI j)]) (st := []) [0, 1] [(x, .inr (5, [.ref xm, .ref xl, .ref xb, .ref xr, .ref xt, .int (nI c), .ref xg, .long sv, .int ps, .int bd])), (xt, .inl (.object "RunStore$Table", 16, .inr (.inr (.inr (.inr rf)))))] X d_RS_table_2 (c_RS_tableNumbered_in hst hn hP hc16 hj) (hl_w 0 rfl hn) rfl rfl k_ml_RS_147 k_cd_RS_tableNumbered k_in_RS k_im_RS_tableNumbered k_se_RS_tableNumbered ⟨by decide +kernel, by decide +kernel, (by decide +kernel : (parseMethodDescriptor y_RS_tableNumbered.desc).map (fun d => d.parameters.length) = some 1)⟩ ⟨Nat.le_of_ble_eq_true rfl, Nat.le_of_ble_eq_true rfl⟩ ⟨Nat.le_of_ble_eq_true rfl, Nat.le_of_ble_eq_true rfl⟩ (Nat.le_of_ble_eq_true rfl) hn rfl rfl rfl (fun q9 x9 h9 => h9) ?_
  refine g_astore_n [(3, .ref (tq j)), (0, .ref x), (1, .int (nI j)), (2, .int (nI 1))] X d_RS_table_5 (by decide) rfl ?_
  refine g_iload_n X d_RS_table_6 3 rfl ?_
  refine g_tableIn (off := 34) 41 X d_RS_table_7 (by decide) (by decide) (by decide) (by decide) ?_
  refine g_aload_n X d_RS_table_41 0 rfl ?_
  refine g_getN (k := 1) X d_RS_table_42 (Or.inr (hP j hj).2.1) rfl i_TB (by decide) k_fl_RS_158 (fun _ h => h) rfl ?_
  exact g_iret X hr d_RS_table_45 (Nat.le_of_ble_eq_true rfl) (Nat.le_of_ble_eq_true rfl) (⟨rfl, rfl⟩)

set_option maxRecDepth 100000 in
set_option maxHeartbeats 1000000 in
theorem c_RS_table_2 {l : Launch} (hst : l.stackTraces = false) {x xm xl xb xr xt xg c : Nat} {sv : Int64} {ps bd : Int32} {M : Nat} (hn : [x, xt].Nodup) {P : fh_M} {rf : Nat → Option Nat} {tq ti : Nat → Nat} {tb : Nat → TBr} (hP : pool P rf tq ti tb c) (hc16 : c ≤ 16) (hT : ∀ u, u < c → tbOk M (tb u)) {j : Nat} (hj : j < c) : fh_C l fhCl fhT y_RS_table (.code y_RS_table b_RS_table 4 (some .int)) 7 103 [.ref x, .int (nI j), .int (nI 2)] (hp [(x, .inr (5, [.ref xm, .ref xl, .ref xb, .ref xr, .ref xt, .int (nI c), .ref xg, .long sv, .int ps, .int bd])), (xt, .inl (.object "RunStore$Table", 16, .inr (.inr (.inr (.inr rf)))))]) P 1 6 (fh_ret (some (.int (nI (tb j).mn))) [(x, .inr (5, [.ref xm, .ref xl, .ref xb, .ref xr, .ref xt, .int (nI c), .ref xg, .long sv, .int ps, .int bd])), (xt, .inl (.object "RunStore$Table", 16, .inr (.inr (.inr (.inr rf)))))]) := by
  refine fh_enter (by decide) hst (Nat.le_of_ble_eq_true rfl) ?_
  intro mD mp me sm mm margs mbel mmet mcod X hr hnm hno hf0
  show fh_G mp l me (fh_rm 7 103 1 6) sm mm margs mbel mmet mcod mD fhCl (hp [(x, .inr (5, [.ref xm, .ref xl, .ref xb, .ref xr, .ref xt, .int (nI c), .ref xg, .long sv, .int ps, .int bd])), (xt, .inl (.object "RunStore$Table", 16, .inr (.inr (.inr (.inr rf)))))]) 4 _ 0 0 (hp [(x, .inr (5, [.ref xm, .ref xl, .ref xb, .ref xr, .ref xt, .int (nI c), .ref xg, .long sv, .int ps, .int bd])), (xt, .inl (.object "RunStore$Table", 16, .inr (.inr (.inr (.inr rf)))))]) 0 [(0, .ref x), (1, .int (nI j)), (2, .int (nI 2))] []
  refine g_aload_n X d_RS_table_0 0 rfl ?_
  refine g_iload_n X d_RS_table_1 1 rfl ?_
  refine h_callVr (As := [.int (nI j)]) (st := []) [0, 1] [(x, .inr (5, [.ref xm, .ref xl, .ref xb, .ref xr, .ref xt, .int (nI c), .ref xg, .long sv, .int ps, .int bd])), (xt, .inl (.object "RunStore$Table", 16, .inr (.inr (.inr (.inr rf)))))] X d_RS_table_2 (c_RS_tableNumbered_in hst hn hP hc16 hj) (hl_w 0 rfl hn) rfl rfl k_ml_RS_147 k_cd_RS_tableNumbered k_in_RS k_im_RS_tableNumbered k_se_RS_tableNumbered ⟨by decide +kernel, by decide +kernel, (by decide +kernel : (parseMethodDescriptor y_RS_tableNumbered.desc).map (fun d => d.parameters.length) = some 1)⟩ ⟨Nat.le_of_ble_eq_true rfl, Nat.le_of_ble_eq_true rfl⟩ ⟨Nat.le_of_ble_eq_true rfl, Nat.le_of_ble_eq_true rfl⟩ (Nat.le_of_ble_eq_true rfl) hn rfl rfl rfl (fun q9 x9 h9 => h9) ?_
  refine g_astore_n [(3, .ref (tq j)), (0, .ref x), (1, .int (nI j)), (2, .int (nI 2))] X d_RS_table_5 (by decide) rfl ?_
  refine g_iload_n X d_RS_table_6 3 rfl ?_
  refine g_tableIn (off := 39) 46 X d_RS_table_7 (by decide) (by decide) (by decide) (by decide) ?_
  refine g_aload_n X d_RS_table_46 0 rfl ?_
  refine g_getN (k := 3) X d_RS_table_47 (Or.inr (hP j hj).2.1) rfl i_TB (by decide) k_fl_RS_105 (fun _ h => h) rfl ?_
  refine g_alen X d_RS_table_50 (Or.inr (hP j hj).2.2.1) ?_
  exact g_iret X hr d_RS_table_51 (Nat.le_of_ble_eq_true rfl) (Nat.le_of_ble_eq_true rfl) (⟨rfl, rfl⟩)

set_option maxRecDepth 100000 in
set_option maxHeartbeats 1000000 in
theorem c_RS_table_3 {l : Launch} (hst : l.stackTraces = false) {x xm xl xb xr xt xg c : Nat} {sv : Int64} {ps bd : Int32} {M : Nat} (hn : [x, xt].Nodup) {P : fh_M} {rf : Nat → Option Nat} {tq ti : Nat → Nat} {tb : Nat → TBr} (hP : pool P rf tq ti tb c) (hc16 : c ≤ 16) (hT : ∀ u, u < c → tbOk M (tb u)) {j : Nat} (hj : j < c) : fh_C l fhCl fhT y_RS_table (.code y_RS_table b_RS_table 4 (some .int)) 7 103 [.ref x, .int (nI j), .int (nI 3)] (hp [(x, .inr (5, [.ref xm, .ref xl, .ref xb, .ref xr, .ref xt, .int (nI c), .ref xg, .long sv, .int ps, .int bd])), (xt, .inl (.object "RunStore$Table", 16, .inr (.inr (.inr (.inr rf)))))]) P 1 6 (fh_ret (some (.int (nI ((tb j).id 0)))) [(x, .inr (5, [.ref xm, .ref xl, .ref xb, .ref xr, .ref xt, .int (nI c), .ref xg, .long sv, .int ps, .int bd])), (xt, .inl (.object "RunStore$Table", 16, .inr (.inr (.inr (.inr rf)))))]) := by
  refine fh_enter (by decide) hst (Nat.le_of_ble_eq_true rfl) ?_
  intro mD mp me sm mm margs mbel mmet mcod X hr hnm hno hf0
  show fh_G mp l me (fh_rm 7 103 1 6) sm mm margs mbel mmet mcod mD fhCl (hp [(x, .inr (5, [.ref xm, .ref xl, .ref xb, .ref xr, .ref xt, .int (nI c), .ref xg, .long sv, .int ps, .int bd])), (xt, .inl (.object "RunStore$Table", 16, .inr (.inr (.inr (.inr rf)))))]) 4 _ 0 0 (hp [(x, .inr (5, [.ref xm, .ref xl, .ref xb, .ref xr, .ref xt, .int (nI c), .ref xg, .long sv, .int ps, .int bd])), (xt, .inl (.object "RunStore$Table", 16, .inr (.inr (.inr (.inr rf)))))]) 0 [(0, .ref x), (1, .int (nI j)), (2, .int (nI 3))] []
  refine g_aload_n X d_RS_table_0 0 rfl ?_
  refine g_iload_n X d_RS_table_1 1 rfl ?_
  refine h_callVr (As := [.int (nI j)]) (st := []) [0, 1] [(x, .inr (5, [.ref xm, .ref xl, .ref xb, .ref xr, .ref xt, .int (nI c), .ref xg, .long sv, .int ps, .int bd])), (xt, .inl (.object "RunStore$Table", 16, .inr (.inr (.inr (.inr rf)))))] X d_RS_table_2 (c_RS_tableNumbered_in hst hn hP hc16 hj) (hl_w 0 rfl hn) rfl rfl k_ml_RS_147 k_cd_RS_tableNumbered k_in_RS k_im_RS_tableNumbered k_se_RS_tableNumbered ⟨by decide +kernel, by decide +kernel, (by decide +kernel : (parseMethodDescriptor y_RS_tableNumbered.desc).map (fun d => d.parameters.length) = some 1)⟩ ⟨Nat.le_of_ble_eq_true rfl, Nat.le_of_ble_eq_true rfl⟩ ⟨Nat.le_of_ble_eq_true rfl, Nat.le_of_ble_eq_true rfl⟩ (Nat.le_of_ble_eq_true rfl) hn rfl rfl rfl (fun q9 x9 h9 => h9) ?_
  refine g_astore_n [(3, .ref (tq j)), (0, .ref x), (1, .int (nI j)), (2, .int (nI 3))] X d_RS_table_5 (by decide) rfl ?_
  refine g_iload_n X d_RS_table_6 3 rfl ?_
  refine g_tableIn (off := 45) 52 X d_RS_table_7 (by decide) (by decide) (by decide) (by decide) ?_
  refine g_aload_n X d_RS_table_52 0 rfl ?_
  refine g_iconst (nI 0) X d_RS_table_53 (by decide) ?_
  refine h_callVr (As := [.int (nI 0)]) (st := []) [] [(x, .inr (5, [.ref xm, .ref xl, .ref xb, .ref xr, .ref xt, .int (nI c), .ref xg, .long sv, .int ps, .int bd])), (xt, .inl (.object "RunStore$Table", 16, .inr (.inr (.inr (.inr rf)))))] X d_RS_table_54 (c_TB_idAt_in hst (hP j hj).2.2.2 (hT j hj).2.1 (hT j hj).1) (Or.inr (hP j hj).2.1) rfl rfl k_ml_RS_161 k_cd_TB_idAt k_in_TB k_im_TB_idAt k_se_TB_idAt ⟨by decide +kernel, by decide +kernel, (by decide +kernel : (parseMethodDescriptor y_TB_idAt.desc).map (fun d => d.parameters.length) = some 1)⟩ ⟨Nat.le_of_ble_eq_true rfl, Nat.le_of_ble_eq_true rfl⟩ ⟨Nat.le_of_ble_eq_true rfl, Nat.le_of_ble_eq_true rfl⟩ (Nat.le_of_ble_eq_true rfl) hn rfl rfl rfl (hp_in2 (hP j hj).2.1 (hP j hj).2.2.1) ?_
  exact g_iret X hr d_RS_table_57 (Nat.le_of_ble_eq_true rfl) (Nat.le_of_ble_eq_true rfl) (⟨rfl, rfl⟩)

set_option maxRecDepth 100000 in
set_option maxHeartbeats 1000000 in
theorem c_RS_table_bad {l : Launch} (hst : l.stackTraces = false) {x xm xl xb xr xt xg c : Nat} {sv : Int64} {ps bd : Int32} (hn : [x, xt].Nodup) {P : fh_M} {rf : Nat → Option Nat} {tq ti : Nat → Nat} {tb : Nat → TBr} (hP : pool P rf tq ti tb c) (hc16 : c ≤ 16) {j : Nat} (hj : j < c) {v : Int32} (hv : v < 0 ∨ nI 4 ≤ v) : fh_C l fhCl fhT y_RS_table (.code y_RS_table b_RS_table 4 (some .int)) 7 103 [.ref x, .int (nI j), .int v] (hp [(x, .inr (5, [.ref xm, .ref xl, .ref xb, .ref xr, .ref xt, .int (nI c), .ref xg, .long sv, .int ps, .int bd])), (xt, .inl (.object "RunStore$Table", 16, .inr (.inr (.inr (.inr rf)))))]) P 1 6 (fh_thr nEI [(x, .inr (5, [.ref xm, .ref xl, .ref xb, .ref xr, .ref xt, .int (nI c), .ref xg, .long sv, .int ps, .int bd])), (xt, .inl (.object "RunStore$Table", 16, .inr (.inr (.inr (.inr rf)))))]) := by
  refine fh_enter (by decide) hst (Nat.le_of_ble_eq_true rfl) ?_
  intro mD mp me sm mm margs mbel mmet mcod X hr hnm hno hf0
  show fh_G mp l me (fh_rm 7 103 1 6) sm mm margs mbel mmet mcod mD fhCl (hp [(x, .inr (5, [.ref xm, .ref xl, .ref xb, .ref xr, .ref xt, .int (nI c), .ref xg, .long sv, .int ps, .int bd])), (xt, .inl (.object "RunStore$Table", 16, .inr (.inr (.inr (.inr rf)))))]) 4 _ 0 0 (hp [(x, .inr (5, [.ref xm, .ref xl, .ref xb, .ref xr, .ref xt, .int (nI c), .ref xg, .long sv, .int ps, .int bd])), (xt, .inl (.object "RunStore$Table", 16, .inr (.inr (.inr (.inr rf)))))]) 0 [(0, .ref x), (1, .int (nI j)), (2, .int v)] []
  refine g_aload_n X d_RS_table_0 0 rfl ?_
  refine g_iload_n X d_RS_table_1 1 rfl ?_
  refine h_callVr (As := [.int (nI j)]) (st := []) [0, 1] [(x, .inr (5, [.ref xm, .ref xl, .ref xb, .ref xr, .ref xt, .int (nI c), .ref xg, .long sv, .int ps, .int bd])), (xt, .inl (.object "RunStore$Table", 16, .inr (.inr (.inr (.inr rf)))))] X d_RS_table_2 (c_RS_tableNumbered_in hst hn hP hc16 hj) (hl_w 0 rfl hn) rfl rfl k_ml_RS_147 k_cd_RS_tableNumbered k_in_RS k_im_RS_tableNumbered k_se_RS_tableNumbered ⟨by decide +kernel, by decide +kernel, (by decide +kernel : (parseMethodDescriptor y_RS_tableNumbered.desc).map (fun d => d.parameters.length) = some 1)⟩ ⟨Nat.le_of_ble_eq_true rfl, Nat.le_of_ble_eq_true rfl⟩ ⟨Nat.le_of_ble_eq_true rfl, Nat.le_of_ble_eq_true rfl⟩ (Nat.le_of_ble_eq_true rfl) hn rfl rfl rfl (fun q9 x9 h9 => h9) ?_
  refine g_astore_n [(3, .ref (tq j)), (0, .ref x), (1, .int (nI j)), (2, .int v)] X d_RS_table_5 (by decide) rfl ?_
  refine g_iload_n X d_RS_table_6 3 rfl ?_
  refine g_tableOut 58 X d_RS_table_7 ((i32_out hv)) (by decide) ?_
  exact g_throwS (names := thrEA) X hno d_RS_table_58 d_RS_table_61 d_RS_table_62 d_RS_table_64 d_RS_table_67 (by decide +kernel) (by decide +kernel) k_cl_RS_164 k_in_EI k_sr_RS_166 thr_RS_168 (Nat.le_of_ble_eq_true rfl) (Nat.le_of_ble_eq_true rfl) (Nat.le_of_ble_eq_true rfl) (Nat.le_of_ble_eq_true rfl) (Nat.le_of_ble_eq_true rfl) (Nat.le_of_ble_eq_true rfl) (⟨rfl, rfl⟩)

set_option maxRecDepth 100000 in
set_option maxHeartbeats 1000000 in
theorem c_RS_table_no {l : Launch} (hst : l.stackTraces = false) {x xm xl xb xr xt xg c : Nat} {sv : Int64} {ps bd : Int32} (hn : [x, xt].Nodup) {P : fh_M} {rf : Nat → Option Nat} {tq ti : Nat → Nat} {tb : Nat → TBr} (hP : pool P rf tq ti tb c) (hc16 : c ≤ 16) {j v : Int32} (hx : j < 0 ∨ nI c ≤ j) : fh_C l fhCl fhT y_RS_table (.code y_RS_table b_RS_table 4 (some .int)) 7 103 [.ref x, .int j, .int v] (hp [(x, .inr (5, [.ref xm, .ref xl, .ref xb, .ref xr, .ref xt, .int (nI c), .ref xg, .long sv, .int ps, .int bd])), (xt, .inl (.object "RunStore$Table", 16, .inr (.inr (.inr (.inr rf)))))]) P 1 6 (fh_thr nEI [(x, .inr (5, [.ref xm, .ref xl, .ref xb, .ref xr, .ref xt, .int (nI c), .ref xg, .long sv, .int ps, .int bd])), (xt, .inl (.object "RunStore$Table", 16, .inr (.inr (.inr (.inr rf)))))]) := by
  refine fh_enter (by decide) hst (Nat.le_of_ble_eq_true rfl) ?_
  intro mD mp me sm mm margs mbel mmet mcod X hr hnm hno hf0
  show fh_G mp l me (fh_rm 7 103 1 6) sm mm margs mbel mmet mcod mD fhCl (hp [(x, .inr (5, [.ref xm, .ref xl, .ref xb, .ref xr, .ref xt, .int (nI c), .ref xg, .long sv, .int ps, .int bd])), (xt, .inl (.object "RunStore$Table", 16, .inr (.inr (.inr (.inr rf)))))]) 4 _ 0 0 (hp [(x, .inr (5, [.ref xm, .ref xl, .ref xb, .ref xr, .ref xt, .int (nI c), .ref xg, .long sv, .int ps, .int bd])), (xt, .inl (.object "RunStore$Table", 16, .inr (.inr (.inr (.inr rf)))))]) 0 [(0, .ref x), (1, .int j), (2, .int v)] []
  refine g_aload_n X d_RS_table_0 0 rfl ?_
  refine g_iload_n X d_RS_table_1 1 rfl ?_
  refine g_callXf (As := [.int j]) (st := []) X d_RS_table_2 (c_RS_tableNumbered_no hst hn hP hc16 hx) (hl_w 0 rfl hn) rfl rfl k_ml_RS_147 k_cd_RS_tableNumbered k_in_RS k_im_RS_tableNumbered k_se_RS_tableNumbered ⟨by decide +kernel, by decide +kernel, (by decide +kernel : (parseMethodDescriptor "(I)LRunStore$Table;").map (fun d => d.parameters.length) = some 1)⟩ ⟨Nat.le_of_ble_eq_true rfl, Nat.le_of_ble_eq_true rfl⟩ ⟨Nat.le_of_ble_eq_true rfl, Nat.le_of_ble_eq_true rfl⟩ (Nat.le_of_ble_eq_true rfl) (hp_sub hn [0, 1] rfl) (hrx_r (fun q9 x9 h9 => h9)) (fun v9 g9 hq hfr => by obtain ⟨hv9, hg9⟩ := hq; cases hv9) (fun E9 g9 hq => ?_)
  obtain ⟨hv9, hg9⟩ := hq
  cases hv9
  subst hg9
  rw [hp_over (ws := [(x, .inr (5, [.ref xm, .ref xl, .ref xb, .ref xr, .ref xt, .int (nI c), .ref xg, .long sv, .int ps, .int bd])), (xt, .inl (.object "RunStore$Table", 16, .inr (.inr (.inr (.inr rf)))))]) hn [0, 1] _ rfl]
  exact g_out (f := hp [(x, .inr (5, [.ref xm, .ref xl, .ref xb, .ref xr, .ref xt, .int (nI c), .ref xg, .long sv, .int ps, .int bd])), (xt, .inl (.object "RunStore$Table", 16, .inr (.inr (.inr (.inr rf)))))]) X hno (Nat.le_of_ble_eq_true rfl) (Nat.le_of_ble_eq_true rfl) (⟨rfl, rfl⟩)

set_option maxRecDepth 100000 in
set_option maxHeartbeats 1000000 in
theorem c_RS_refuseNoByte_in {l : Launch} (hst : l.stackTraces = false) {x xm xl xb xr xt xg c : Nat} {sv : Int64} {ps bd : Int32} {y s t M : Nat} {w : Int32} {S T : Nat → Int32} {D : Nat → Nat} (hD : ∀ q, D q < 256) (hM : M ≤ 128) (hn : [x, xb, y, s, t].Nodup) {j k : Nat} (hj : j < M) (hk : k < 32) : fh_C l fhCl fhT y_RS_refuseNoByte (.code y_RS_refuseNoByte b_RS_refuseNoByte 3 none) 6 82 [.ref x, .int (nI j), .int (nI k)] (hp [(x, .inr (5, [.ref xm, .ref xl, .ref xb, .ref xr, .ref xt, .int (nI c), .ref xg, .long sv, .int ps, .int bd])), (xb, .inr (0, [.ref y, .ref s, .ref t, .int w])), (y, .inl (.byte, M * 32, .inl (fun q => sb_b (D q)))), (s, .inl (.int, M, .inl S)), (t, .inl (.int, M, .inl T))]) (hp []) 1 6 (fh_ret none [(x, .inr (5, [.ref xm, .ref xl, .ref xb, .ref xr, .ref xt, .int (nI c), .ref xg, .long sv, .int ps, .int bd])), (xb, .inr (0, [.ref y, .ref s, .ref t, .int w])), (y, .inl (.byte, M * 32, .inl (fun q => sb_b (D q)))), (s, .inl (.int, M, .inl S)), (t, .inl (.int, M, .inl T))]) := by
  refine fh_enter (by decide) hst (Nat.le_of_ble_eq_true rfl) ?_
  intro mD mp me sm mm margs mbel mmet mcod X hr hnm hno hf0
  show fh_G mp l me (fh_rm 6 82 1 6) sm mm margs mbel mmet mcod mD fhCl (hp [(x, .inr (5, [.ref xm, .ref xl, .ref xb, .ref xr, .ref xt, .int (nI c), .ref xg, .long sv, .int ps, .int bd])), (xb, .inr (0, [.ref y, .ref s, .ref t, .int w])), (y, .inl (.byte, M * 32, .inl (fun q => sb_b (D q)))), (s, .inl (.int, M, .inl S)), (t, .inl (.int, M, .inl T))]) 3 _ 0 0 (hp [(x, .inr (5, [.ref xm, .ref xl, .ref xb, .ref xr, .ref xt, .int (nI c), .ref xg, .long sv, .int ps, .int bd])), (xb, .inr (0, [.ref y, .ref s, .ref t, .int w])), (y, .inl (.byte, M * 32, .inl (fun q => sb_b (D q)))), (s, .inl (.int, M, .inl S)), (t, .inl (.int, M, .inl T))]) 0 [(0, .ref x), (1, .int (nI j)), (2, .int (nI k))] []
  have hn1 : [xb, y, s, t].Nodup := (List.Nodup.sublist (by repeat first | exact List.nil_sublist _ | apply List.Sublist.cons₂ | apply List.Sublist.cons) hn)
  refine g_aload_n X d_RS_refuseNoByte_0 0 rfl ?_
  refine g_getf (k := 2) X d_RS_refuseNoByte_1 (hl_w 0 rfl hn) rfl i_RS (by decide) k_fl_RS_34 (fun _ h => h) rfl ?_
  refine g_iload_n X d_RS_refuseNoByte_4 1 rfl ?_
  refine h_callV (As := [.int (nI j)]) (st := []) [1, 2, 3, 4] [(x, .inr (5, [.ref xm, .ref xl, .ref xb, .ref xr, .ref xt, .int (nI c), .ref xg, .long sv, .int ps, .int bd])), (xb, .inr (0, [.ref y, .ref s, .ref t, .int w])), (y, .inl (.byte, M * 32, .inl (fun q => sb_b (D q)))), (s, .inl (.int, M, .inl S)), (t, .inl (.int, M, .inl T))] X d_RS_refuseNoByte_5 (c_BL_has_in hst hn1 hD hM hj) (hl_w 1 rfl hn) rfl rfl k_ml_RS_179 k_cd_BL_has k_in_BL k_im_BL_has k_se_BL_has ⟨by decide +kernel, by decide +kernel, (by decide +kernel : (parseMethodDescriptor y_BL_has.desc).map (fun d => d.parameters.length) = some 1)⟩ ⟨Nat.le_of_ble_eq_true rfl, Nat.le_of_ble_eq_true rfl⟩ ⟨Nat.le_of_ble_eq_true rfl, Nat.le_of_ble_eq_true rfl⟩ (Nat.le_of_ble_eq_true rfl) hn rfl rfl rfl hp_no hp_no2 ?_
  refine g_if_eq 21 X d_RS_refuseNoByte_8 (by decide) (fun h8 => ?_) (fun h8 => ?_)
  · have h8 := cv_e0 (by omega) h8
    exact absurd h8 (by decide)
  · have h8 := cv_n0 (by omega) h8
    refine g_iload_n X d_RS_refuseNoByte_11 2 rfl ?_
    refine g_if_lt 21 X d_RS_refuseNoByte_12 (by decide) (fun h12 => ?_) (fun h12 => ?_)
    · exact (cv_l0 (by omega) h12).elim
    · refine g_iload_n X d_RS_refuseNoByte_15 2 rfl ?_
      refine g_bipush (nI 32) X d_RS_refuseNoByte_16 (by decide) ?_
      refine g_icmp_lt 32 X d_RS_refuseNoByte_18 (by decide) (fun h18 => ?_) (fun h18 => ?_)
      · have h18 := cv_lt (by omega) (by omega) h18
        exact g_vret X hr d_RS_refuseNoByte_32 (Nat.le_of_ble_eq_true rfl) (Nat.le_of_ble_eq_true rfl) (⟨rfl, rfl⟩)
      · have h18 := cv_nlt (by omega) (by omega) h18
        omega

set_option maxRecDepth 100000 in
set_option maxHeartbeats 1000000 in
theorem c_RS_refuseNoByte_no {l : Launch} (hst : l.stackTraces = false) {x xm xl xb xr xt xg c : Nat} {sv : Int64} {ps bd : Int32} {y s t M : Nat} {w : Int32} {S T : Nat → Int32} {D : Nat → Nat} (hD : ∀ q, D q < 256) (hM : M ≤ 128) (hn : [x, xb, y, s, t].Nodup) {b9 i9 : Int32} (hx : ∀ j, j < M → b9 = nI j → ¬ i9 < 0 → i9 < nI 32 → False) : fh_C l fhCl fhT y_RS_refuseNoByte (.code y_RS_refuseNoByte b_RS_refuseNoByte 3 none) 6 82 [.ref x, .int b9, .int i9] (hp [(x, .inr (5, [.ref xm, .ref xl, .ref xb, .ref xr, .ref xt, .int (nI c), .ref xg, .long sv, .int ps, .int bd])), (xb, .inr (0, [.ref y, .ref s, .ref t, .int w])), (y, .inl (.byte, M * 32, .inl (fun q => sb_b (D q)))), (s, .inl (.int, M, .inl S)), (t, .inl (.int, M, .inl T))]) (hp []) 1 6 (fh_thr nEI [(x, .inr (5, [.ref xm, .ref xl, .ref xb, .ref xr, .ref xt, .int (nI c), .ref xg, .long sv, .int ps, .int bd])), (xb, .inr (0, [.ref y, .ref s, .ref t, .int w])), (y, .inl (.byte, M * 32, .inl (fun q => sb_b (D q)))), (s, .inl (.int, M, .inl S)), (t, .inl (.int, M, .inl T))]) := by
  refine fh_enter (by decide) hst (Nat.le_of_ble_eq_true rfl) ?_
  intro mD mp me sm mm margs mbel mmet mcod X hr hnm hno hf0
  show fh_G mp l me (fh_rm 6 82 1 6) sm mm margs mbel mmet mcod mD fhCl (hp [(x, .inr (5, [.ref xm, .ref xl, .ref xb, .ref xr, .ref xt, .int (nI c), .ref xg, .long sv, .int ps, .int bd])), (xb, .inr (0, [.ref y, .ref s, .ref t, .int w])), (y, .inl (.byte, M * 32, .inl (fun q => sb_b (D q)))), (s, .inl (.int, M, .inl S)), (t, .inl (.int, M, .inl T))]) 3 _ 0 0 (hp [(x, .inr (5, [.ref xm, .ref xl, .ref xb, .ref xr, .ref xt, .int (nI c), .ref xg, .long sv, .int ps, .int bd])), (xb, .inr (0, [.ref y, .ref s, .ref t, .int w])), (y, .inl (.byte, M * 32, .inl (fun q => sb_b (D q)))), (s, .inl (.int, M, .inl S)), (t, .inl (.int, M, .inl T))]) 0 [(0, .ref x), (1, .int b9), (2, .int i9)] []
  have hn1 : [xb, y, s, t].Nodup := (List.Nodup.sublist (by repeat first | exact List.nil_sublist _ | apply List.Sublist.cons₂ | apply List.Sublist.cons) hn)
  refine g_aload_n X d_RS_refuseNoByte_0 0 rfl ?_
  refine g_getf (k := 2) X d_RS_refuseNoByte_1 (hl_w 0 rfl hn) rfl i_RS (by decide) k_fl_RS_34 (fun _ h => h) rfl ?_
  refine g_iload_n X d_RS_refuseNoByte_4 1 rfl ?_
  rcases i32c b9 (M := M) (by omega) with hneg | hbig | ⟨j, hj, e9⟩
  · refine h_callV (As := [.int b9]) (st := []) [1, 2, 3, 4] [(x, .inr (5, [.ref xm, .ref xl, .ref xb, .ref xr, .ref xt, .int (nI c), .ref xg, .long sv, .int ps, .int bd])), (xb, .inr (0, [.ref y, .ref s, .ref t, .int w])), (y, .inl (.byte, M * 32, .inl (fun q => sb_b (D q)))), (s, .inl (.int, M, .inl S)), (t, .inl (.int, M, .inl T))] X d_RS_refuseNoByte_5 (c_BL_has_neg hst hn1 hD hM hneg) (hl_w 1 rfl hn) rfl rfl k_ml_RS_179 k_cd_BL_has k_in_BL k_im_BL_has k_se_BL_has ⟨by decide +kernel, by decide +kernel, (by decide +kernel : (parseMethodDescriptor y_BL_has.desc).map (fun d => d.parameters.length) = some 1)⟩ ⟨Nat.le_of_ble_eq_true rfl, Nat.le_of_ble_eq_true rfl⟩ ⟨Nat.le_of_ble_eq_true rfl, Nat.le_of_ble_eq_true rfl⟩ (Nat.le_of_ble_eq_true rfl) hn rfl rfl rfl hp_no hp_no2 ?_
    refine g_if_eq 21 X d_RS_refuseNoByte_8 (by decide) (fun h8 => ?_) (fun h8 => ?_)
    · have h8 := cv_e0 (by omega) h8
      exact g_throwSW (names := thrEA) X hno d_RS_refuseNoByte_21 d_RS_refuseNoByte_24 d_RS_refuseNoByte_25 d_RS_refuseNoByte_28 d_RS_refuseNoByte_31 (by decide +kernel) (by decide +kernel) k_cl_RS_164 k_in_EI k_sr_RS_279 thr_RS_168 (Nat.le_of_ble_eq_true rfl) (Nat.le_of_ble_eq_true rfl) (Nat.le_of_ble_eq_true rfl) (Nat.le_of_ble_eq_true rfl) (Nat.le_of_ble_eq_true rfl) (Nat.le_of_ble_eq_true rfl) (⟨rfl, rfl⟩)
    · have h8 := cv_n0 (by omega) h8
      exact absurd h8 (by decide)
  · refine h_callV (As := [.int b9]) (st := []) [1, 2, 3, 4] [(x, .inr (5, [.ref xm, .ref xl, .ref xb, .ref xr, .ref xt, .int (nI c), .ref xg, .long sv, .int ps, .int bd])), (xb, .inr (0, [.ref y, .ref s, .ref t, .int w])), (y, .inl (.byte, M * 32, .inl (fun q => sb_b (D q)))), (s, .inl (.int, M, .inl S)), (t, .inl (.int, M, .inl T))] X d_RS_refuseNoByte_5 (c_BL_has_big hst hn1 hD hM hbig) (hl_w 1 rfl hn) rfl rfl k_ml_RS_179 k_cd_BL_has k_in_BL k_im_BL_has k_se_BL_has ⟨by decide +kernel, by decide +kernel, (by decide +kernel : (parseMethodDescriptor y_BL_has.desc).map (fun d => d.parameters.length) = some 1)⟩ ⟨Nat.le_of_ble_eq_true rfl, Nat.le_of_ble_eq_true rfl⟩ ⟨Nat.le_of_ble_eq_true rfl, Nat.le_of_ble_eq_true rfl⟩ (Nat.le_of_ble_eq_true rfl) hn rfl rfl rfl hp_no hp_no2 ?_
    refine g_if_eq 21 X d_RS_refuseNoByte_8 (by decide) (fun h8 => ?_) (fun h8 => ?_)
    · have h8 := cv_e0 (by omega) h8
      exact g_throwSW (names := thrEA) X hno d_RS_refuseNoByte_21 d_RS_refuseNoByte_24 d_RS_refuseNoByte_25 d_RS_refuseNoByte_28 d_RS_refuseNoByte_31 (by decide +kernel) (by decide +kernel) k_cl_RS_164 k_in_EI k_sr_RS_279 thr_RS_168 (Nat.le_of_ble_eq_true rfl) (Nat.le_of_ble_eq_true rfl) (Nat.le_of_ble_eq_true rfl) (Nat.le_of_ble_eq_true rfl) (Nat.le_of_ble_eq_true rfl) (Nat.le_of_ble_eq_true rfl) (⟨rfl, rfl⟩)
    · have h8 := cv_n0 (by omega) h8
      exact absurd h8 (by decide)
  · refine g_vi (nI j) e9 ?_
    refine h_callV (As := [.int (nI j)]) (st := []) [1, 2, 3, 4] [(x, .inr (5, [.ref xm, .ref xl, .ref xb, .ref xr, .ref xt, .int (nI c), .ref xg, .long sv, .int ps, .int bd])), (xb, .inr (0, [.ref y, .ref s, .ref t, .int w])), (y, .inl (.byte, M * 32, .inl (fun q => sb_b (D q)))), (s, .inl (.int, M, .inl S)), (t, .inl (.int, M, .inl T))] X d_RS_refuseNoByte_5 (c_BL_has_in hst hn1 hD hM hj) (hl_w 1 rfl hn) rfl rfl k_ml_RS_179 k_cd_BL_has k_in_BL k_im_BL_has k_se_BL_has ⟨by decide +kernel, by decide +kernel, (by decide +kernel : (parseMethodDescriptor y_BL_has.desc).map (fun d => d.parameters.length) = some 1)⟩ ⟨Nat.le_of_ble_eq_true rfl, Nat.le_of_ble_eq_true rfl⟩ ⟨Nat.le_of_ble_eq_true rfl, Nat.le_of_ble_eq_true rfl⟩ (Nat.le_of_ble_eq_true rfl) hn rfl rfl rfl hp_no hp_no2 ?_
    refine g_if_eq 21 X d_RS_refuseNoByte_8 (by decide) (fun h8 => ?_) (fun h8 => ?_)
    · have h8 := cv_e0 (by omega) h8
      exact absurd h8 (by decide)
    · have h8 := cv_n0 (by omega) h8
      refine g_iload_n X d_RS_refuseNoByte_11 2 rfl ?_
      refine g_if_lt 21 X d_RS_refuseNoByte_12 (by decide) (fun h12 => ?_) (fun h12 => ?_)
      · exact g_throwSW (names := thrEA) X hno d_RS_refuseNoByte_21 d_RS_refuseNoByte_24 d_RS_refuseNoByte_25 d_RS_refuseNoByte_28 d_RS_refuseNoByte_31 (by decide +kernel) (by decide +kernel) k_cl_RS_164 k_in_EI k_sr_RS_279 thr_RS_168 (Nat.le_of_ble_eq_true rfl) (Nat.le_of_ble_eq_true rfl) (Nat.le_of_ble_eq_true rfl) (Nat.le_of_ble_eq_true rfl) (Nat.le_of_ble_eq_true rfl) (Nat.le_of_ble_eq_true rfl) (⟨rfl, rfl⟩)
      · refine g_iload_n X d_RS_refuseNoByte_15 2 rfl ?_
        refine g_bipush (nI 32) X d_RS_refuseNoByte_16 (by decide) ?_
        refine g_icmp_lt 32 X d_RS_refuseNoByte_18 (by decide) (fun h18 => ?_) (fun h18 => ?_)
        · exact (hx j hj e9 h12 h18).elim
        · exact g_throwSW (names := thrEA) X hno d_RS_refuseNoByte_21 d_RS_refuseNoByte_24 d_RS_refuseNoByte_25 d_RS_refuseNoByte_28 d_RS_refuseNoByte_31 (by decide +kernel) (by decide +kernel) k_cl_RS_164 k_in_EI k_sr_RS_279 thr_RS_168 (Nat.le_of_ble_eq_true rfl) (Nat.le_of_ble_eq_true rfl) (Nat.le_of_ble_eq_true rfl) (Nat.le_of_ble_eq_true rfl) (Nat.le_of_ble_eq_true rfl) (Nat.le_of_ble_eq_true rfl) (⟨rfl, rfl⟩)

set_option maxRecDepth 100000 in
set_option maxHeartbeats 1000000 in
theorem c_RS_byteAt_in {l : Launch} (hst : l.stackTraces = false) {x xm xl xb xr xt xg c : Nat} {sv : Int64} {ps bd : Int32} {y s t M : Nat} {w : Int32} {S T : Nat → Int32} {D : Nat → Nat} (hD : ∀ q, D q < 256) (hM : M ≤ 128) (hn : [x, xb, y, s, t].Nodup) {j k : Nat} (hj : j < M) (hk : k < 32) : fh_C l fhCl fhT y_RS_byteAt (.code y_RS_byteAt b_RS_byteAt 3 (some .int)) 7 104 [.ref x, .int (nI j), .int (nI k)] (hp [(x, .inr (5, [.ref xm, .ref xl, .ref xb, .ref xr, .ref xt, .int (nI c), .ref xg, .long sv, .int ps, .int bd])), (xb, .inr (0, [.ref y, .ref s, .ref t, .int w])), (y, .inl (.byte, M * 32, .inl (fun q => sb_b (D q)))), (s, .inl (.int, M, .inl S)), (t, .inl (.int, M, .inl T))]) (hp []) 1 6 (fh_ret (some (.int (nI (D (j * 32 + k))))) [(x, .inr (5, [.ref xm, .ref xl, .ref xb, .ref xr, .ref xt, .int (nI c), .ref xg, .long sv, .int ps, .int bd])), (xb, .inr (0, [.ref y, .ref s, .ref t, .int w])), (y, .inl (.byte, M * 32, .inl (fun q => sb_b (D q)))), (s, .inl (.int, M, .inl S)), (t, .inl (.int, M, .inl T))]) := by
  refine fh_enter (by decide) hst (Nat.le_of_ble_eq_true rfl) ?_
  intro mD mp me sm mm margs mbel mmet mcod X hr hnm hno hf0
  show fh_G mp l me (fh_rm 7 104 1 6) sm mm margs mbel mmet mcod mD fhCl (hp [(x, .inr (5, [.ref xm, .ref xl, .ref xb, .ref xr, .ref xt, .int (nI c), .ref xg, .long sv, .int ps, .int bd])), (xb, .inr (0, [.ref y, .ref s, .ref t, .int w])), (y, .inl (.byte, M * 32, .inl (fun q => sb_b (D q)))), (s, .inl (.int, M, .inl S)), (t, .inl (.int, M, .inl T))]) 3 _ 0 0 (hp [(x, .inr (5, [.ref xm, .ref xl, .ref xb, .ref xr, .ref xt, .int (nI c), .ref xg, .long sv, .int ps, .int bd])), (xb, .inr (0, [.ref y, .ref s, .ref t, .int w])), (y, .inl (.byte, M * 32, .inl (fun q => sb_b (D q)))), (s, .inl (.int, M, .inl S)), (t, .inl (.int, M, .inl T))]) 0 [(0, .ref x), (1, .int (nI j)), (2, .int (nI k))] []
  have hn1 : [xb, y, s, t].Nodup := (List.Nodup.sublist (by repeat first | exact List.nil_sublist _ | apply List.Sublist.cons₂ | apply List.Sublist.cons) hn)
  refine g_aload_n X d_RS_byteAt_0 0 rfl ?_
  refine g_iload_n X d_RS_byteAt_1 1 rfl ?_
  refine g_iload_n X d_RS_byteAt_2 2 rfl ?_
  refine h_callV (As := [.int (nI j), .int (nI k)]) (st := []) [0, 1, 2, 3, 4] [(x, .inr (5, [.ref xm, .ref xl, .ref xb, .ref xr, .ref xt, .int (nI c), .ref xg, .long sv, .int ps, .int bd])), (xb, .inr (0, [.ref y, .ref s, .ref t, .int w])), (y, .inl (.byte, M * 32, .inl (fun q => sb_b (D q)))), (s, .inl (.int, M, .inl S)), (t, .inl (.int, M, .inl T))] X d_RS_byteAt_3 (c_RS_refuseNoByte_in hst hD hM hn hj hk) (hl_w 0 rfl hn) rfl rfl k_ml_RS_169 k_cd_RS_refuseNoByte k_in_RS k_im_RS_refuseNoByte k_se_RS_refuseNoByte ⟨by decide +kernel, by decide +kernel, (by decide +kernel : (parseMethodDescriptor y_RS_refuseNoByte.desc).map (fun d => d.parameters.length) = some 2)⟩ ⟨Nat.le_of_ble_eq_true rfl, Nat.le_of_ble_eq_true rfl⟩ ⟨Nat.le_of_ble_eq_true rfl, Nat.le_of_ble_eq_true rfl⟩ (Nat.le_of_ble_eq_true rfl) hn rfl rfl rfl hp_no hp_no2 ?_
  refine g_aload_n X d_RS_byteAt_6 0 rfl ?_
  refine g_getf (k := 2) X d_RS_byteAt_7 (hl_w 0 rfl hn) rfl i_RS (by decide) k_fl_RS_34 (fun _ h => h) rfl ?_
  refine g_iload_n X d_RS_byteAt_10 1 rfl ?_
  refine g_iload_n X d_RS_byteAt_11 2 rfl ?_
  refine h_callV (As := [.int (nI j), .int (nI k)]) (st := []) [1, 2, 3, 4] [(x, .inr (5, [.ref xm, .ref xl, .ref xb, .ref xr, .ref xt, .int (nI c), .ref xg, .long sv, .int ps, .int bd])), (xb, .inr (0, [.ref y, .ref s, .ref t, .int w])), (y, .inl (.byte, M * 32, .inl (fun q => sb_b (D q)))), (s, .inl (.int, M, .inl S)), (t, .inl (.int, M, .inl T))] X d_RS_byteAt_12 (c_BL_read hst hn1 hD hM hj hk) (hl_w 1 rfl hn) rfl rfl k_ml_RS_172 k_cd_BL_read k_in_BL k_im_BL_read k_se_BL_read ⟨by decide +kernel, by decide +kernel, (by decide +kernel : (parseMethodDescriptor y_BL_read.desc).map (fun d => d.parameters.length) = some 2)⟩ ⟨Nat.le_of_ble_eq_true rfl, Nat.le_of_ble_eq_true rfl⟩ ⟨Nat.le_of_ble_eq_true rfl, Nat.le_of_ble_eq_true rfl⟩ (Nat.le_of_ble_eq_true rfl) hn rfl rfl rfl hp_no hp_no2 ?_
  exact g_iret X hr d_RS_byteAt_15 (Nat.le_of_ble_eq_true rfl) (Nat.le_of_ble_eq_true rfl) (⟨rfl, rfl⟩)

set_option maxRecDepth 100000 in
set_option maxHeartbeats 1000000 in
theorem c_RS_byteAt_no {l : Launch} (hst : l.stackTraces = false) {x xm xl xb xr xt xg c : Nat} {sv : Int64} {ps bd : Int32} {y s t M : Nat} {w : Int32} {S T : Nat → Int32} {D : Nat → Nat} (hD : ∀ q, D q < 256) (hM : M ≤ 128) (hn : [x, xb, y, s, t].Nodup) {b9 i9 : Int32} (hx : ∀ j, j < M → b9 = nI j → ¬ i9 < 0 → i9 < nI 32 → False) : fh_C l fhCl fhT y_RS_byteAt (.code y_RS_byteAt b_RS_byteAt 3 (some .int)) 7 104 [.ref x, .int b9, .int i9] (hp [(x, .inr (5, [.ref xm, .ref xl, .ref xb, .ref xr, .ref xt, .int (nI c), .ref xg, .long sv, .int ps, .int bd])), (xb, .inr (0, [.ref y, .ref s, .ref t, .int w])), (y, .inl (.byte, M * 32, .inl (fun q => sb_b (D q)))), (s, .inl (.int, M, .inl S)), (t, .inl (.int, M, .inl T))]) (hp []) 1 6 (fh_thr nEI [(x, .inr (5, [.ref xm, .ref xl, .ref xb, .ref xr, .ref xt, .int (nI c), .ref xg, .long sv, .int ps, .int bd])), (xb, .inr (0, [.ref y, .ref s, .ref t, .int w])), (y, .inl (.byte, M * 32, .inl (fun q => sb_b (D q)))), (s, .inl (.int, M, .inl S)), (t, .inl (.int, M, .inl T))]) := by
  refine fh_enter (by decide) hst (Nat.le_of_ble_eq_true rfl) ?_
  intro mD mp me sm mm margs mbel mmet mcod X hr hnm hno hf0
  show fh_G mp l me (fh_rm 7 104 1 6) sm mm margs mbel mmet mcod mD fhCl (hp [(x, .inr (5, [.ref xm, .ref xl, .ref xb, .ref xr, .ref xt, .int (nI c), .ref xg, .long sv, .int ps, .int bd])), (xb, .inr (0, [.ref y, .ref s, .ref t, .int w])), (y, .inl (.byte, M * 32, .inl (fun q => sb_b (D q)))), (s, .inl (.int, M, .inl S)), (t, .inl (.int, M, .inl T))]) 3 _ 0 0 (hp [(x, .inr (5, [.ref xm, .ref xl, .ref xb, .ref xr, .ref xt, .int (nI c), .ref xg, .long sv, .int ps, .int bd])), (xb, .inr (0, [.ref y, .ref s, .ref t, .int w])), (y, .inl (.byte, M * 32, .inl (fun q => sb_b (D q)))), (s, .inl (.int, M, .inl S)), (t, .inl (.int, M, .inl T))]) 0 [(0, .ref x), (1, .int b9), (2, .int i9)] []
  have hn1 : [xb, y, s, t].Nodup := (List.Nodup.sublist (by repeat first | exact List.nil_sublist _ | apply List.Sublist.cons₂ | apply List.Sublist.cons) hn)
  refine g_aload_n X d_RS_byteAt_0 0 rfl ?_
  refine g_iload_n X d_RS_byteAt_1 1 rfl ?_
  refine g_iload_n X d_RS_byteAt_2 2 rfl ?_
  refine g_callXf (As := [.int b9, .int i9]) (st := []) X d_RS_byteAt_3 (c_RS_refuseNoByte_no hst hD hM hn hx) (hl_w 0 rfl hn) rfl rfl k_ml_RS_169 k_cd_RS_refuseNoByte k_in_RS k_im_RS_refuseNoByte k_se_RS_refuseNoByte ⟨by decide +kernel, by decide +kernel, (by decide +kernel : (parseMethodDescriptor "(II)V").map (fun d => d.parameters.length) = some 2)⟩ ⟨Nat.le_of_ble_eq_true rfl, Nat.le_of_ble_eq_true rfl⟩ ⟨Nat.le_of_ble_eq_true rfl, Nat.le_of_ble_eq_true rfl⟩ (Nat.le_of_ble_eq_true rfl) (hp_sub hn [0, 1, 2, 3, 4] rfl) hrx_no (fun v9 g9 hq hfr => by obtain ⟨hv9, hg9⟩ := hq; cases hv9) (fun E9 g9 hq => ?_)
  obtain ⟨hv9, hg9⟩ := hq
  cases hv9
  subst hg9
  rw [hp_over (ws := [(x, .inr (5, [.ref xm, .ref xl, .ref xb, .ref xr, .ref xt, .int (nI c), .ref xg, .long sv, .int ps, .int bd])), (xb, .inr (0, [.ref y, .ref s, .ref t, .int w])), (y, .inl (.byte, M * 32, .inl (fun q => sb_b (D q)))), (s, .inl (.int, M, .inl S)), (t, .inl (.int, M, .inl T))]) hn [0, 1, 2, 3, 4] _ rfl]
  exact g_out (f := hp [(x, .inr (5, [.ref xm, .ref xl, .ref xb, .ref xr, .ref xt, .int (nI c), .ref xg, .long sv, .int ps, .int bd])), (xb, .inr (0, [.ref y, .ref s, .ref t, .int w])), (y, .inl (.byte, M * 32, .inl (fun q => sb_b (D q)))), (s, .inl (.int, M, .inl S)), (t, .inl (.int, M, .inl T))]) X hno (Nat.le_of_ble_eq_true rfl) (Nat.le_of_ble_eq_true rfl) (⟨rfl, rfl⟩)

set_option maxRecDepth 100000 in
set_option maxHeartbeats 1000000 in
theorem c_RS_poke_in {l : Launch} (hst : l.stackTraces = false) {x xm xl xb xr xt xg c : Nat} {sv : Int64} {ps bd : Int32} {y s t M : Nat} {w : Int32} {S T : Nat → Int32} {D : Nat → Nat} (hD : ∀ q, D q < 256) (hM : M ≤ 128) (hn : [x, xb, y, s, t].Nodup) {j k : Nat} (hj : j < M) (hk : k < 32) {wm : Int32} : fh_C l fhCl fhT y_RS_poke (.code y_RS_poke b_RS_poke 4 (some .int)) 7 104 [.ref x, .int (nI j), .int (nI k), .int wm] (hp [(x, .inr (5, [.ref xm, .ref xl, .ref xb, .ref xr, .ref xt, .int (nI c), .ref xg, .long sv, .int ps, .int bd])), (xb, .inr (0, [.ref y, .ref s, .ref t, .int w])), (y, .inl (.byte, M * 32, .inl (fun q => sb_b (D q)))), (s, .inl (.int, M, .inl S)), (t, .inl (.int, M, .inl T))]) (hp []) 1 6 (fh_ret (some (.int (nI (xrb (D (j * 32 + k)) wm)))) [(x, .inr (5, [.ref xm, .ref xl, .ref xb, .ref xr, .ref xt, .int (nI c), .ref xg, .long sv, .int ps, .int bd])), (xb, .inr (0, [.ref y, .ref s, .ref t, .int w])), (y, .inl (.byte, M * 32, .inl (fun q => sb_b (((va_up D (j * 32 + k) (xrb (D (j * 32 + k)) wm))) q)))), (s, .inl (.int, M, .inl S)), (t, .inl (.int, M, .inl T))]) := by
  refine fh_enter (by decide) hst (Nat.le_of_ble_eq_true rfl) ?_
  intro mD mp me sm mm margs mbel mmet mcod X hr hnm hno hf0
  show fh_G mp l me (fh_rm 7 104 1 6) sm mm margs mbel mmet mcod mD fhCl (hp [(x, .inr (5, [.ref xm, .ref xl, .ref xb, .ref xr, .ref xt, .int (nI c), .ref xg, .long sv, .int ps, .int bd])), (xb, .inr (0, [.ref y, .ref s, .ref t, .int w])), (y, .inl (.byte, M * 32, .inl (fun q => sb_b (D q)))), (s, .inl (.int, M, .inl S)), (t, .inl (.int, M, .inl T))]) 4 _ 0 0 (hp [(x, .inr (5, [.ref xm, .ref xl, .ref xb, .ref xr, .ref xt, .int (nI c), .ref xg, .long sv, .int ps, .int bd])), (xb, .inr (0, [.ref y, .ref s, .ref t, .int w])), (y, .inl (.byte, M * 32, .inl (fun q => sb_b (D q)))), (s, .inl (.int, M, .inl S)), (t, .inl (.int, M, .inl T))]) 0 [(0, .ref x), (1, .int (nI j)), (2, .int (nI k)), (3, .int wm)] []
  have hn1 : [xb, y, s, t].Nodup := (List.Nodup.sublist (by repeat first | exact List.nil_sublist _ | apply List.Sublist.cons₂ | apply List.Sublist.cons) hn)
  refine g_aload_n X d_RS_poke_0 0 rfl ?_
  refine g_iload_n X d_RS_poke_1 1 rfl ?_
  refine g_iload_n X d_RS_poke_2 2 rfl ?_
  refine h_callV (As := [.int (nI j), .int (nI k)]) (st := []) [0, 1, 2, 3, 4] [(x, .inr (5, [.ref xm, .ref xl, .ref xb, .ref xr, .ref xt, .int (nI c), .ref xg, .long sv, .int ps, .int bd])), (xb, .inr (0, [.ref y, .ref s, .ref t, .int w])), (y, .inl (.byte, M * 32, .inl (fun q => sb_b (D q)))), (s, .inl (.int, M, .inl S)), (t, .inl (.int, M, .inl T))] X d_RS_poke_3 (c_RS_refuseNoByte_in hst hD hM hn hj hk) (hl_w 0 rfl hn) rfl rfl k_ml_RS_169 k_cd_RS_refuseNoByte k_in_RS k_im_RS_refuseNoByte k_se_RS_refuseNoByte ⟨by decide +kernel, by decide +kernel, (by decide +kernel : (parseMethodDescriptor y_RS_refuseNoByte.desc).map (fun d => d.parameters.length) = some 2)⟩ ⟨Nat.le_of_ble_eq_true rfl, Nat.le_of_ble_eq_true rfl⟩ ⟨Nat.le_of_ble_eq_true rfl, Nat.le_of_ble_eq_true rfl⟩ (Nat.le_of_ble_eq_true rfl) hn rfl rfl rfl hp_no hp_no2 ?_
  refine g_aload_n X d_RS_poke_6 0 rfl ?_
  refine g_getf (k := 2) X d_RS_poke_7 (hl_w 0 rfl hn) rfl i_RS (by decide) k_fl_RS_34 (fun _ h => h) rfl ?_
  refine g_iload_n X d_RS_poke_10 1 rfl ?_
  refine g_iload_n X d_RS_poke_11 2 rfl ?_
  refine g_aload_n X d_RS_poke_12 0 rfl ?_
  refine g_getf (k := 2) X d_RS_poke_13 (hl_w 0 rfl hn) rfl i_RS (by decide) k_fl_RS_34 (fun _ h => h) rfl ?_
  refine g_iload_n X d_RS_poke_16 1 rfl ?_
  refine g_iload_n X d_RS_poke_17 2 rfl ?_
  refine h_callV (As := [.int (nI j), .int (nI k)]) (st := [.int (nI k), .int (nI j), .ref xb]) [1, 2, 3, 4] [(x, .inr (5, [.ref xm, .ref xl, .ref xb, .ref xr, .ref xt, .int (nI c), .ref xg, .long sv, .int ps, .int bd])), (xb, .inr (0, [.ref y, .ref s, .ref t, .int w])), (y, .inl (.byte, M * 32, .inl (fun q => sb_b (D q)))), (s, .inl (.int, M, .inl S)), (t, .inl (.int, M, .inl T))] X d_RS_poke_18 (c_BL_read hst hn1 hD hM hj hk) (hl_w 1 rfl hn) rfl rfl k_ml_RS_172 k_cd_BL_read k_in_BL k_im_BL_read k_se_BL_read ⟨by decide +kernel, by decide +kernel, (by decide +kernel : (parseMethodDescriptor y_BL_read.desc).map (fun d => d.parameters.length) = some 2)⟩ ⟨Nat.le_of_ble_eq_true rfl, Nat.le_of_ble_eq_true rfl⟩ ⟨Nat.le_of_ble_eq_true rfl, Nat.le_of_ble_eq_true rfl⟩ (Nat.le_of_ble_eq_true rfl) hn rfl rfl rfl hp_no hp_no2 ?_
  refine g_iload_n X d_RS_poke_21 3 rfl ?_
  refine g_ixor X d_RS_poke_22 ?_
  refine g_vi (nI (D (j * 32 + k) ^^^ wm.toBitVec.toNat)) (by rw [← nI_xor, ← nI_of32]) ?_
  refine h_callV (As := [.int (nI j), .int (nI k), .int (nI (D (j * 32 + k) ^^^ wm.toBitVec.toNat))]) (st := []) [1, 2, 3, 4] [(x, .inr (5, [.ref xm, .ref xl, .ref xb, .ref xr, .ref xt, .int (nI c), .ref xg, .long sv, .int ps, .int bd])), (xb, .inr (0, [.ref y, .ref s, .ref t, .int w])), (y, .inl (.byte, M * 32, .inl (fun q => sb_b (((va_up D (j * 32 + k) (xrb (D (j * 32 + k)) wm))) q)))), (s, .inl (.int, M, .inl S)), (t, .inl (.int, M, .inl T))] X d_RS_poke_23 (c_BL_writeByte hst hn1 hD hM hj hk) (hl_w 1 rfl hn) rfl rfl k_ml_RS_175 k_cd_BL_writeByte k_in_BL k_im_BL_writeByte k_se_BL_writeByte ⟨by decide +kernel, by decide +kernel, (by decide +kernel : (parseMethodDescriptor y_BL_writeByte.desc).map (fun d => d.parameters.length) = some 3)⟩ ⟨Nat.le_of_ble_eq_true rfl, Nat.le_of_ble_eq_true rfl⟩ ⟨Nat.le_of_ble_eq_true rfl, Nat.le_of_ble_eq_true rfl⟩ (Nat.le_of_ble_eq_true rfl) hn rfl rfl rfl hp_no hp_no2 ?_
  refine g_aload_n X d_RS_poke_26 0 rfl ?_
  refine g_getf (k := 2) X d_RS_poke_27 (hl_w 0 rfl hn) rfl i_RS (by decide) k_fl_RS_34 (fun _ h => h) rfl ?_
  refine g_iload_n X d_RS_poke_30 1 rfl ?_
  refine g_iload_n X d_RS_poke_31 2 rfl ?_
  refine h_callV (As := [.int (nI j), .int (nI k)]) (st := []) [1, 2, 3, 4] [(x, .inr (5, [.ref xm, .ref xl, .ref xb, .ref xr, .ref xt, .int (nI c), .ref xg, .long sv, .int ps, .int bd])), (xb, .inr (0, [.ref y, .ref s, .ref t, .int w])), (y, .inl (.byte, M * 32, .inl (fun q => sb_b (((va_up D (j * 32 + k) (xrb (D (j * 32 + k)) wm))) q)))), (s, .inl (.int, M, .inl S)), (t, .inl (.int, M, .inl T))] X d_RS_poke_32 (c_BL_read hst hn1 (up_lt hD (xrb_lt _ _)) hM hj hk) (hl_w 1 rfl hn) rfl rfl k_ml_RS_172 k_cd_BL_read k_in_BL k_im_BL_read k_se_BL_read ⟨by decide +kernel, by decide +kernel, (by decide +kernel : (parseMethodDescriptor y_BL_read.desc).map (fun d => d.parameters.length) = some 2)⟩ ⟨Nat.le_of_ble_eq_true rfl, Nat.le_of_ble_eq_true rfl⟩ ⟨Nat.le_of_ble_eq_true rfl, Nat.le_of_ble_eq_true rfl⟩ (Nat.le_of_ble_eq_true rfl) hn rfl rfl rfl hp_no hp_no2 ?_
  refine g_vi (nI (xrb (D (j * 32 + k)) wm)) (by rw [va_up_self]) ?_
  exact g_iret X hr d_RS_poke_35 (Nat.le_of_ble_eq_true rfl) (Nat.le_of_ble_eq_true rfl) (⟨rfl, rfl⟩)

set_option maxRecDepth 100000 in
set_option maxHeartbeats 1000000 in
theorem c_RS_poke_no {l : Launch} (hst : l.stackTraces = false) {x xm xl xb xr xt xg c : Nat} {sv : Int64} {ps bd : Int32} {y s t M : Nat} {w : Int32} {S T : Nat → Int32} {D : Nat → Nat} (hD : ∀ q, D q < 256) (hM : M ≤ 128) (hn : [x, xb, y, s, t].Nodup) {b9 i9 : Int32} (hx : ∀ j, j < M → b9 = nI j → ¬ i9 < 0 → i9 < nI 32 → False) {wm : Int32} : fh_C l fhCl fhT y_RS_poke (.code y_RS_poke b_RS_poke 4 (some .int)) 7 104 [.ref x, .int b9, .int i9, .int wm] (hp [(x, .inr (5, [.ref xm, .ref xl, .ref xb, .ref xr, .ref xt, .int (nI c), .ref xg, .long sv, .int ps, .int bd])), (xb, .inr (0, [.ref y, .ref s, .ref t, .int w])), (y, .inl (.byte, M * 32, .inl (fun q => sb_b (D q)))), (s, .inl (.int, M, .inl S)), (t, .inl (.int, M, .inl T))]) (hp []) 1 6 (fh_thr nEI [(x, .inr (5, [.ref xm, .ref xl, .ref xb, .ref xr, .ref xt, .int (nI c), .ref xg, .long sv, .int ps, .int bd])), (xb, .inr (0, [.ref y, .ref s, .ref t, .int w])), (y, .inl (.byte, M * 32, .inl (fun q => sb_b (D q)))), (s, .inl (.int, M, .inl S)), (t, .inl (.int, M, .inl T))]) := by
  refine fh_enter (by decide) hst (Nat.le_of_ble_eq_true rfl) ?_
  intro mD mp me sm mm margs mbel mmet mcod X hr hnm hno hf0
  show fh_G mp l me (fh_rm 7 104 1 6) sm mm margs mbel mmet mcod mD fhCl (hp [(x, .inr (5, [.ref xm, .ref xl, .ref xb, .ref xr, .ref xt, .int (nI c), .ref xg, .long sv, .int ps, .int bd])), (xb, .inr (0, [.ref y, .ref s, .ref t, .int w])), (y, .inl (.byte, M * 32, .inl (fun q => sb_b (D q)))), (s, .inl (.int, M, .inl S)), (t, .inl (.int, M, .inl T))]) 4 _ 0 0 (hp [(x, .inr (5, [.ref xm, .ref xl, .ref xb, .ref xr, .ref xt, .int (nI c), .ref xg, .long sv, .int ps, .int bd])), (xb, .inr (0, [.ref y, .ref s, .ref t, .int w])), (y, .inl (.byte, M * 32, .inl (fun q => sb_b (D q)))), (s, .inl (.int, M, .inl S)), (t, .inl (.int, M, .inl T))]) 0 [(0, .ref x), (1, .int b9), (2, .int i9), (3, .int wm)] []
  have hn1 : [xb, y, s, t].Nodup := (List.Nodup.sublist (by repeat first | exact List.nil_sublist _ | apply List.Sublist.cons₂ | apply List.Sublist.cons) hn)
  refine g_aload_n X d_RS_poke_0 0 rfl ?_
  refine g_iload_n X d_RS_poke_1 1 rfl ?_
  refine g_iload_n X d_RS_poke_2 2 rfl ?_
  refine g_callXf (As := [.int b9, .int i9]) (st := []) X d_RS_poke_3 (c_RS_refuseNoByte_no hst hD hM hn hx) (hl_w 0 rfl hn) rfl rfl k_ml_RS_169 k_cd_RS_refuseNoByte k_in_RS k_im_RS_refuseNoByte k_se_RS_refuseNoByte ⟨by decide +kernel, by decide +kernel, (by decide +kernel : (parseMethodDescriptor "(II)V").map (fun d => d.parameters.length) = some 2)⟩ ⟨Nat.le_of_ble_eq_true rfl, Nat.le_of_ble_eq_true rfl⟩ ⟨Nat.le_of_ble_eq_true rfl, Nat.le_of_ble_eq_true rfl⟩ (Nat.le_of_ble_eq_true rfl) (hp_sub hn [0, 1, 2, 3, 4] rfl) hrx_no (fun v9 g9 hq hfr => by obtain ⟨hv9, hg9⟩ := hq; cases hv9) (fun E9 g9 hq => ?_)
  obtain ⟨hv9, hg9⟩ := hq
  cases hv9
  subst hg9
  rw [hp_over (ws := [(x, .inr (5, [.ref xm, .ref xl, .ref xb, .ref xr, .ref xt, .int (nI c), .ref xg, .long sv, .int ps, .int bd])), (xb, .inr (0, [.ref y, .ref s, .ref t, .int w])), (y, .inl (.byte, M * 32, .inl (fun q => sb_b (D q)))), (s, .inl (.int, M, .inl S)), (t, .inl (.int, M, .inl T))]) hn [0, 1, 2, 3, 4] _ rfl]
  exact g_out (f := hp [(x, .inr (5, [.ref xm, .ref xl, .ref xb, .ref xr, .ref xt, .int (nI c), .ref xg, .long sv, .int ps, .int bd])), (xb, .inr (0, [.ref y, .ref s, .ref t, .int w])), (y, .inl (.byte, M * 32, .inl (fun q => sb_b (D q)))), (s, .inl (.int, M, .inl S)), (t, .inl (.int, M, .inl T))]) X hno (Nat.le_of_ble_eq_true rfl) (Nat.le_of_ble_eq_true rfl) (⟨rfl, rfl⟩)

set_option maxRecDepth 100000 in
set_option maxHeartbeats 1000000 in
theorem c_RS_sum_in {l : Launch} (hst : l.stackTraces = false) {x xm xl xb xr xt xg c : Nat} {sv : Int64} {ps bd : Int32} {y s t M : Nat} {w : Int32} {S T : Nat → Int32} {D : Nat → Nat} (hD : ∀ q, D q < 256) (hM : M ≤ 128) (hn : [x, xb, y, s, t].Nodup) {j : Nat} (hj : j < M) : fh_C l fhCl fhT y_RS_sum (.code y_RS_sum b_RS_sum 2 (some .int)) 6 82 [.ref x, .int (nI j)] (hp [(x, .inr (5, [.ref xm, .ref xl, .ref xb, .ref xr, .ref xt, .int (nI c), .ref xg, .long sv, .int ps, .int bd])), (xb, .inr (0, [.ref y, .ref s, .ref t, .int w])), (y, .inl (.byte, M * 32, .inl (fun q => sb_b (D q)))), (s, .inl (.int, M, .inl S)), (t, .inl (.int, M, .inl T))]) (hp []) 1 6 (fh_ret (some (.int (S j))) [(x, .inr (5, [.ref xm, .ref xl, .ref xb, .ref xr, .ref xt, .int (nI c), .ref xg, .long sv, .int ps, .int bd])), (xb, .inr (0, [.ref y, .ref s, .ref t, .int w])), (y, .inl (.byte, M * 32, .inl (fun q => sb_b (D q)))), (s, .inl (.int, M, .inl S)), (t, .inl (.int, M, .inl T))]) := by
  refine fh_enter (by decide) hst (Nat.le_of_ble_eq_true rfl) ?_
  intro mD mp me sm mm margs mbel mmet mcod X hr hnm hno hf0
  show fh_G mp l me (fh_rm 6 82 1 6) sm mm margs mbel mmet mcod mD fhCl (hp [(x, .inr (5, [.ref xm, .ref xl, .ref xb, .ref xr, .ref xt, .int (nI c), .ref xg, .long sv, .int ps, .int bd])), (xb, .inr (0, [.ref y, .ref s, .ref t, .int w])), (y, .inl (.byte, M * 32, .inl (fun q => sb_b (D q)))), (s, .inl (.int, M, .inl S)), (t, .inl (.int, M, .inl T))]) 2 _ 0 0 (hp [(x, .inr (5, [.ref xm, .ref xl, .ref xb, .ref xr, .ref xt, .int (nI c), .ref xg, .long sv, .int ps, .int bd])), (xb, .inr (0, [.ref y, .ref s, .ref t, .int w])), (y, .inl (.byte, M * 32, .inl (fun q => sb_b (D q)))), (s, .inl (.int, M, .inl S)), (t, .inl (.int, M, .inl T))]) 0 [(0, .ref x), (1, .int (nI j))] []
  have hn1 : [xb, y, s, t].Nodup := (List.Nodup.sublist (by repeat first | exact List.nil_sublist _ | apply List.Sublist.cons₂ | apply List.Sublist.cons) hn)
  refine g_aload_n X d_RS_sum_0 0 rfl ?_
  refine g_getf (k := 2) X d_RS_sum_1 (hl_w 0 rfl hn) rfl i_RS (by decide) k_fl_RS_34 (fun _ h => h) rfl ?_
  refine g_iload_n X d_RS_sum_4 1 rfl ?_
  refine h_callV (As := [.int (nI j)]) (st := []) [1, 2, 3, 4] [(x, .inr (5, [.ref xm, .ref xl, .ref xb, .ref xr, .ref xt, .int (nI c), .ref xg, .long sv, .int ps, .int bd])), (xb, .inr (0, [.ref y, .ref s, .ref t, .int w])), (y, .inl (.byte, M * 32, .inl (fun q => sb_b (D q)))), (s, .inl (.int, M, .inl S)), (t, .inl (.int, M, .inl T))] X d_RS_sum_5 (c_BL_has_in hst hn1 hD hM hj) (hl_w 1 rfl hn) rfl rfl k_ml_RS_179 k_cd_BL_has k_in_BL k_im_BL_has k_se_BL_has ⟨by decide +kernel, by decide +kernel, (by decide +kernel : (parseMethodDescriptor y_BL_has.desc).map (fun d => d.parameters.length) = some 1)⟩ ⟨Nat.le_of_ble_eq_true rfl, Nat.le_of_ble_eq_true rfl⟩ ⟨Nat.le_of_ble_eq_true rfl, Nat.le_of_ble_eq_true rfl⟩ (Nat.le_of_ble_eq_true rfl) hn rfl rfl rfl hp_no hp_no2 ?_
  refine g_if_ne 21 X d_RS_sum_8 (by decide) (fun h8 => ?_) (fun h8 => ?_)
  · have h8 := cv_n0 (by omega) h8
    refine g_aload_n X d_RS_sum_21 0 rfl ?_
    refine g_getf (k := 2) X d_RS_sum_22 (hl_w 0 rfl hn) rfl i_RS (by decide) k_fl_RS_34 (fun _ h => h) rfl ?_
    refine g_getN (k := 1) X d_RS_sum_25 (hl_w 1 rfl hn) rfl i_BL (by decide) k_fl_RS_185 (fun _ h => h) rfl ?_
    refine g_iload_n X d_RS_sum_28 1 rfl ?_
    refine h_iald X d_RS_sum_29 (hl_w 3 rfl hn) hj (by omega) ?_
    exact g_iret X hr d_RS_sum_30 (Nat.le_of_ble_eq_true rfl) (Nat.le_of_ble_eq_true rfl) (⟨rfl, rfl⟩)
  · have h8 := cv_e0 (by omega) h8
    exact absurd h8 (by decide)

set_option maxRecDepth 100000 in
set_option maxHeartbeats 1000000 in
theorem c_RS_sum_no {l : Launch} (hst : l.stackTraces = false) {x xm xl xb xr xt xg c : Nat} {sv : Int64} {ps bd : Int32} {y s t M : Nat} {w : Int32} {S T : Nat → Int32} {D : Nat → Nat} (hD : ∀ q, D q < 256) (hM : M ≤ 128) (hn : [x, xb, y, s, t].Nodup) {b9 : Int32} (hx : b9 < 0 ∨ nI M ≤ b9) : fh_C l fhCl fhT y_RS_sum (.code y_RS_sum b_RS_sum 2 (some .int)) 6 82 [.ref x, .int b9] (hp [(x, .inr (5, [.ref xm, .ref xl, .ref xb, .ref xr, .ref xt, .int (nI c), .ref xg, .long sv, .int ps, .int bd])), (xb, .inr (0, [.ref y, .ref s, .ref t, .int w])), (y, .inl (.byte, M * 32, .inl (fun q => sb_b (D q)))), (s, .inl (.int, M, .inl S)), (t, .inl (.int, M, .inl T))]) (hp []) 1 6 (fh_thr nEI [(x, .inr (5, [.ref xm, .ref xl, .ref xb, .ref xr, .ref xt, .int (nI c), .ref xg, .long sv, .int ps, .int bd])), (xb, .inr (0, [.ref y, .ref s, .ref t, .int w])), (y, .inl (.byte, M * 32, .inl (fun q => sb_b (D q)))), (s, .inl (.int, M, .inl S)), (t, .inl (.int, M, .inl T))]) := by
  refine fh_enter (by decide) hst (Nat.le_of_ble_eq_true rfl) ?_
  intro mD mp me sm mm margs mbel mmet mcod X hr hnm hno hf0
  show fh_G mp l me (fh_rm 6 82 1 6) sm mm margs mbel mmet mcod mD fhCl (hp [(x, .inr (5, [.ref xm, .ref xl, .ref xb, .ref xr, .ref xt, .int (nI c), .ref xg, .long sv, .int ps, .int bd])), (xb, .inr (0, [.ref y, .ref s, .ref t, .int w])), (y, .inl (.byte, M * 32, .inl (fun q => sb_b (D q)))), (s, .inl (.int, M, .inl S)), (t, .inl (.int, M, .inl T))]) 2 _ 0 0 (hp [(x, .inr (5, [.ref xm, .ref xl, .ref xb, .ref xr, .ref xt, .int (nI c), .ref xg, .long sv, .int ps, .int bd])), (xb, .inr (0, [.ref y, .ref s, .ref t, .int w])), (y, .inl (.byte, M * 32, .inl (fun q => sb_b (D q)))), (s, .inl (.int, M, .inl S)), (t, .inl (.int, M, .inl T))]) 0 [(0, .ref x), (1, .int b9)] []
  have hn1 : [xb, y, s, t].Nodup := (List.Nodup.sublist (by repeat first | exact List.nil_sublist _ | apply List.Sublist.cons₂ | apply List.Sublist.cons) hn)
  refine g_aload_n X d_RS_sum_0 0 rfl ?_
  refine g_getf (k := 2) X d_RS_sum_1 (hl_w 0 rfl hn) rfl i_RS (by decide) k_fl_RS_34 (fun _ h => h) rfl ?_
  refine g_iload_n X d_RS_sum_4 1 rfl ?_
  rcases hx with hneg | hbig
  · refine h_callV (As := [.int b9]) (st := []) [1, 2, 3, 4] [(x, .inr (5, [.ref xm, .ref xl, .ref xb, .ref xr, .ref xt, .int (nI c), .ref xg, .long sv, .int ps, .int bd])), (xb, .inr (0, [.ref y, .ref s, .ref t, .int w])), (y, .inl (.byte, M * 32, .inl (fun q => sb_b (D q)))), (s, .inl (.int, M, .inl S)), (t, .inl (.int, M, .inl T))] X d_RS_sum_5 (c_BL_has_neg hst hn1 hD hM hneg) (hl_w 1 rfl hn) rfl rfl k_ml_RS_179 k_cd_BL_has k_in_BL k_im_BL_has k_se_BL_has ⟨by decide +kernel, by decide +kernel, (by decide +kernel : (parseMethodDescriptor y_BL_has.desc).map (fun d => d.parameters.length) = some 1)⟩ ⟨Nat.le_of_ble_eq_true rfl, Nat.le_of_ble_eq_true rfl⟩ ⟨Nat.le_of_ble_eq_true rfl, Nat.le_of_ble_eq_true rfl⟩ (Nat.le_of_ble_eq_true rfl) hn rfl rfl rfl hp_no hp_no2 ?_
    refine g_if_ne 21 X d_RS_sum_8 (by decide) (fun h8 => ?_) (fun h8 => ?_)
    · have h8 := cv_n0 (by omega) h8
      exact absurd h8 (by decide)
    · have h8 := cv_e0 (by omega) h8
      exact g_throwS (names := thrEA) X hno d_RS_sum_11 d_RS_sum_14 d_RS_sum_15 d_RS_sum_17 d_RS_sum_20 (by decide +kernel) (by decide +kernel) k_cl_RS_164 k_in_EI k_sr_RS_183 thr_RS_168 (Nat.le_of_ble_eq_true rfl) (Nat.le_of_ble_eq_true rfl) (Nat.le_of_ble_eq_true rfl) (Nat.le_of_ble_eq_true rfl) (Nat.le_of_ble_eq_true rfl) (Nat.le_of_ble_eq_true rfl) (⟨rfl, rfl⟩)
  · refine h_callV (As := [.int b9]) (st := []) [1, 2, 3, 4] [(x, .inr (5, [.ref xm, .ref xl, .ref xb, .ref xr, .ref xt, .int (nI c), .ref xg, .long sv, .int ps, .int bd])), (xb, .inr (0, [.ref y, .ref s, .ref t, .int w])), (y, .inl (.byte, M * 32, .inl (fun q => sb_b (D q)))), (s, .inl (.int, M, .inl S)), (t, .inl (.int, M, .inl T))] X d_RS_sum_5 (c_BL_has_big hst hn1 hD hM hbig) (hl_w 1 rfl hn) rfl rfl k_ml_RS_179 k_cd_BL_has k_in_BL k_im_BL_has k_se_BL_has ⟨by decide +kernel, by decide +kernel, (by decide +kernel : (parseMethodDescriptor y_BL_has.desc).map (fun d => d.parameters.length) = some 1)⟩ ⟨Nat.le_of_ble_eq_true rfl, Nat.le_of_ble_eq_true rfl⟩ ⟨Nat.le_of_ble_eq_true rfl, Nat.le_of_ble_eq_true rfl⟩ (Nat.le_of_ble_eq_true rfl) hn rfl rfl rfl hp_no hp_no2 ?_
    refine g_if_ne 21 X d_RS_sum_8 (by decide) (fun h8 => ?_) (fun h8 => ?_)
    · have h8 := cv_n0 (by omega) h8
      exact absurd h8 (by decide)
    · have h8 := cv_e0 (by omega) h8
      exact g_throwS (names := thrEA) X hno d_RS_sum_11 d_RS_sum_14 d_RS_sum_15 d_RS_sum_17 d_RS_sum_20 (by decide +kernel) (by decide +kernel) k_cl_RS_164 k_in_EI k_sr_RS_183 thr_RS_168 (Nat.le_of_ble_eq_true rfl) (Nat.le_of_ble_eq_true rfl) (Nat.le_of_ble_eq_true rfl) (Nat.le_of_ble_eq_true rfl) (Nat.le_of_ble_eq_true rfl) (Nat.le_of_ble_eq_true rfl) (⟨rfl, rfl⟩)

set_option maxRecDepth 100000 in
set_option maxHeartbeats 1000000 in
theorem c_RS_check {l : Launch} (hst : l.stackTraces = false) {x xm xl xb xr xt xg c : Nat} {sv : Int64} {ps bd : Int32} {y s t M : Nat} {w : Int32} {S T : Nat → Int32} {D : Nat → Nat} (hD : ∀ q, D q < 256) (hM : M ≤ 128) (hn : [x, xb, y, s, t].Nodup) : fh_C l fhCl fhT y_RS_check (.code y_RS_check b_RS_check 1 (some .int)) 2 46 [.ref x] (hp [(x, .inr (5, [.ref xm, .ref xl, .ref xb, .ref xr, .ref xt, .int (nI c), .ref xg, .long sv, .int ps, .int bd])), (xb, .inr (0, [.ref y, .ref s, .ref t, .int w])), (y, .inl (.byte, M * 32, .inl (fun q => sb_b (D q)))), (s, .inl (.int, M, .inl S)), (t, .inl (.int, M, .inl T))]) (hp []) 0 0 (fh_ret (some (.int (if lwr S T D M < M then nI (lwr S T D M) else (-1)))) [(x, .inr (5, [.ref xm, .ref xl, .ref xb, .ref xr, .ref xt, .int (nI c), .ref xg, .long sv, .int ps, .int bd])), (xb, .inr (0, [.ref y, .ref s, .ref t, .int w])), (y, .inl (.byte, M * 32, .inl (fun q => sb_b (D q)))), (s, .inl (.int, M, .inl S)), (t, .inl (.int, M, .inl T))]) := by
  refine fh_enter (by decide) hst (Nat.le_of_ble_eq_true rfl) ?_
  intro mD mp me sm mm margs mbel mmet mcod X hr hnm hno hf0
  show fh_G mp l me (fh_rm 2 46 0 0) sm mm margs mbel mmet mcod mD fhCl (hp [(x, .inr (5, [.ref xm, .ref xl, .ref xb, .ref xr, .ref xt, .int (nI c), .ref xg, .long sv, .int ps, .int bd])), (xb, .inr (0, [.ref y, .ref s, .ref t, .int w])), (y, .inl (.byte, M * 32, .inl (fun q => sb_b (D q)))), (s, .inl (.int, M, .inl S)), (t, .inl (.int, M, .inl T))]) 1 _ 0 0 (hp [(x, .inr (5, [.ref xm, .ref xl, .ref xb, .ref xr, .ref xt, .int (nI c), .ref xg, .long sv, .int ps, .int bd])), (xb, .inr (0, [.ref y, .ref s, .ref t, .int w])), (y, .inl (.byte, M * 32, .inl (fun q => sb_b (D q)))), (s, .inl (.int, M, .inl S)), (t, .inl (.int, M, .inl T))]) 0 [(0, .ref x)] []
  have hn1 : [xb, y, s, t].Nodup := (List.Nodup.sublist (by repeat first | exact List.nil_sublist _ | apply List.Sublist.cons₂ | apply List.Sublist.cons) hn)
  refine g_aload_n X d_RS_check_0 0 rfl ?_
  refine g_getf (k := 2) X d_RS_check_1 (hl_w 0 rfl hn) rfl i_RS (by decide) k_fl_RS_34 (fun _ h => h) rfl ?_
  refine h_callV (As := []) (st := []) [1, 2, 3, 4] [(x, .inr (5, [.ref xm, .ref xl, .ref xb, .ref xr, .ref xt, .int (nI c), .ref xg, .long sv, .int ps, .int bd])), (xb, .inr (0, [.ref y, .ref s, .ref t, .int w])), (y, .inl (.byte, M * 32, .inl (fun q => sb_b (D q)))), (s, .inl (.int, M, .inl S)), (t, .inl (.int, M, .inl T))] X d_RS_check_4 (c_BL_lowestWrong hst hn1 hD hM) (hl_w 1 rfl hn) rfl rfl k_ml_RS_206 k_cd_BL_lowestWrong k_in_BL k_im_BL_lowestWrong k_se_BL_lowestWrong ⟨by decide +kernel, by decide +kernel, (by decide +kernel : (parseMethodDescriptor y_BL_lowestWrong.desc).map (fun d => d.parameters.length) = some 0)⟩ ⟨Nat.le_of_ble_eq_true rfl, Nat.le_of_ble_eq_true rfl⟩ ⟨Nat.le_of_ble_eq_true rfl, Nat.le_of_ble_eq_true rfl⟩ (Nat.le_of_ble_eq_true rfl) hn rfl rfl rfl hp_no hp_no2 ?_
  exact g_iret X hr d_RS_check_7 (Nat.le_of_ble_eq_true rfl) (Nat.le_of_ble_eq_true rfl) (⟨rfl, rfl⟩)

set_option maxRecDepth 100000 in
set_option maxHeartbeats 1000000 in
theorem c_RS_badAt {l : Launch} (hst : l.stackTraces = false) {x xm xl xb xr xt xg c : Nat} {sv : Int64} {ps bd : Int32} : fh_C l fhCl fhT y_RS_badAt (.code y_RS_badAt b_RS_badAt 1 (some .int)) 0 0 [.ref x] (hp [(x, .inr (5, [.ref xm, .ref xl, .ref xb, .ref xr, .ref xt, .int (nI c), .ref xg, .long sv, .int ps, .int bd]))]) (hp []) 0 0 (fh_ret (some (.int bd)) [(x, .inr (5, [.ref xm, .ref xl, .ref xb, .ref xr, .ref xt, .int (nI c), .ref xg, .long sv, .int ps, .int bd]))]) := by
  refine fh_enter (by decide) hst (Nat.le_of_ble_eq_true rfl) ?_
  intro mD mp me sm mm margs mbel mmet mcod X hr hnm hno hf0
  show fh_G mp l me (fh_rm 0 0 0 0) sm mm margs mbel mmet mcod mD fhCl (hp [(x, .inr (5, [.ref xm, .ref xl, .ref xb, .ref xr, .ref xt, .int (nI c), .ref xg, .long sv, .int ps, .int bd]))]) 1 _ 0 0 (hp [(x, .inr (5, [.ref xm, .ref xl, .ref xb, .ref xr, .ref xt, .int (nI c), .ref xg, .long sv, .int ps, .int bd]))]) 0 [(0, .ref x)] []
  refine g_aload_n X d_RS_badAt_0 0 rfl ?_
  refine g_getf (k := 9) X d_RS_badAt_1 (hl_w 0 rfl (nd1 _)) rfl i_RS (by decide) k_fl_RS_56 (fun _ h => h) rfl ?_
  exact g_iret X hr d_RS_badAt_4 (Nat.le_of_ble_eq_true rfl) (Nat.le_of_ble_eq_true rfl) (⟨rfl, rfl⟩)

set_option maxRecDepth 100000 in
set_option maxHeartbeats 1000000 in
theorem c_RS_logged_in {l : Launch} (hst : l.stackTraces = false) {x xm xl xb xr xt xg c : Nat} {sv : Int64} {ps bd : Int32} {l1 u la le ls : Nat} {lk lw : Int64} {L : Nat → Nat} (hL : ∀ q, L q < 256) (hu : u ≤ 1024) (hn : [x, xl, l1].Nodup) {j : Nat} (hj : j < u) : fh_C l fhCl fhT y_RS_logged (.code y_RS_logged b_RS_logged 2 (some .int)) 6 82 [.ref x, .int (nI j)] (hp [(x, .inr (5, [.ref xm, .ref xl, .ref xb, .ref xr, .ref xt, .int (nI c), .ref xg, .long sv, .int ps, .int bd])), (xl, .inr (1, [.ref l1, .int (nI u), .int (nI la), .int (nI le), .long lk, .int (nI ls), .long lw])), (l1, .inl (.byte, 1024, .inl (fun q => sb_b (L q))))]) (hp []) 1 6 (fh_ret (some (.int (nI (L j)))) [(x, .inr (5, [.ref xm, .ref xl, .ref xb, .ref xr, .ref xt, .int (nI c), .ref xg, .long sv, .int ps, .int bd])), (xl, .inr (1, [.ref l1, .int (nI u), .int (nI la), .int (nI le), .long lk, .int (nI ls), .long lw])), (l1, .inl (.byte, 1024, .inl (fun q => sb_b (L q))))]) := by
  refine fh_enter (by decide) hst (Nat.le_of_ble_eq_true rfl) ?_
  intro mD mp me sm mm margs mbel mmet mcod X hr hnm hno hf0
  show fh_G mp l me (fh_rm 6 82 1 6) sm mm margs mbel mmet mcod mD fhCl (hp [(x, .inr (5, [.ref xm, .ref xl, .ref xb, .ref xr, .ref xt, .int (nI c), .ref xg, .long sv, .int ps, .int bd])), (xl, .inr (1, [.ref l1, .int (nI u), .int (nI la), .int (nI le), .long lk, .int (nI ls), .long lw])), (l1, .inl (.byte, 1024, .inl (fun q => sb_b (L q))))]) 2 _ 0 0 (hp [(x, .inr (5, [.ref xm, .ref xl, .ref xb, .ref xr, .ref xt, .int (nI c), .ref xg, .long sv, .int ps, .int bd])), (xl, .inr (1, [.ref l1, .int (nI u), .int (nI la), .int (nI le), .long lk, .int (nI ls), .long lw])), (l1, .inl (.byte, 1024, .inl (fun q => sb_b (L q))))]) 0 [(0, .ref x), (1, .int (nI j))] []
  have hn2 : [xl, l1].Nodup := (List.Nodup.sublist (by repeat first | exact List.nil_sublist _ | apply List.Sublist.cons₂ | apply List.Sublist.cons) hn)
  refine g_iload_n X d_RS_logged_0 1 rfl ?_
  refine g_if_lt 15 X d_RS_logged_1 (by decide) (fun h1 => ?_) (fun h1 => ?_)
  · exact (cv_l0 (by omega) h1).elim
  · refine g_iload_n X d_RS_logged_4 1 rfl ?_
    refine g_aload_n X d_RS_logged_5 0 rfl ?_
    refine g_getf (k := 1) X d_RS_logged_6 (hl_w 0 rfl hn) rfl i_RS (by decide) k_fl_RS_27 (fun _ h => h) rfl ?_
    refine g_getN (k := 1) X d_RS_logged_9 (hl_w 1 rfl hn) rfl i_LG (by decide) k_fl_RS_188 (fun _ h => h) rfl ?_
    refine g_icmp_lt 25 X d_RS_logged_12 (by decide) (fun h12 => ?_) (fun h12 => ?_)
    · have h12 := cv_lt (by omega) (by omega) h12
      refine g_aload_n X d_RS_logged_25 0 rfl ?_
      refine g_getf (k := 1) X d_RS_logged_26 (hl_w 0 rfl hn) rfl i_RS (by decide) k_fl_RS_27 (fun _ h => h) rfl ?_
      refine g_iload_n X d_RS_logged_29 1 rfl ?_
      refine h_callV (As := [.int (nI j)]) (st := []) [1, 2] [(x, .inr (5, [.ref xm, .ref xl, .ref xb, .ref xr, .ref xt, .int (nI c), .ref xg, .long sv, .int ps, .int bd])), (xl, .inr (1, [.ref l1, .int (nI u), .int (nI la), .int (nI le), .long lk, .int (nI ls), .long lw])), (l1, .inl (.byte, 1024, .inl (fun q => sb_b (L q))))] X d_RS_logged_30 (c_LG_read_in hst hn2 hL hu hj) (hl_w 1 rfl hn) rfl rfl k_ml_RS_191 k_cd_LG_read k_in_LG k_im_LG_read k_se_LG_read ⟨by decide +kernel, by decide +kernel, (by decide +kernel : (parseMethodDescriptor y_LG_read.desc).map (fun d => d.parameters.length) = some 1)⟩ ⟨Nat.le_of_ble_eq_true rfl, Nat.le_of_ble_eq_true rfl⟩ ⟨Nat.le_of_ble_eq_true rfl, Nat.le_of_ble_eq_true rfl⟩ (Nat.le_of_ble_eq_true rfl) hn rfl rfl rfl hp_no hp_no2 ?_
      exact g_iret X hr d_RS_logged_33 (Nat.le_of_ble_eq_true rfl) (Nat.le_of_ble_eq_true rfl) (⟨rfl, rfl⟩)
    · have h12 := cv_nlt (by omega) (by omega) h12
      omega

set_option maxRecDepth 100000 in
set_option maxHeartbeats 1000000 in
theorem c_RS_logged_no {l : Launch} (hst : l.stackTraces = false) {x xm xl xb xr xt xg c : Nat} {sv : Int64} {ps bd : Int32} {l1 u la le ls : Nat} {lk lw : Int64} {L : Nat → Nat} (hL : ∀ q, L q < 256) (hu : u ≤ 1024) (hn : [x, xl, l1].Nodup) {j : Int32} (hx : j < 0 ∨ nI u ≤ j) : fh_C l fhCl fhT y_RS_logged (.code y_RS_logged b_RS_logged 2 (some .int)) 6 82 [.ref x, .int j] (hp [(x, .inr (5, [.ref xm, .ref xl, .ref xb, .ref xr, .ref xt, .int (nI c), .ref xg, .long sv, .int ps, .int bd])), (xl, .inr (1, [.ref l1, .int (nI u), .int (nI la), .int (nI le), .long lk, .int (nI ls), .long lw])), (l1, .inl (.byte, 1024, .inl (fun q => sb_b (L q))))]) (hp []) 1 6 (fh_thr nEI [(x, .inr (5, [.ref xm, .ref xl, .ref xb, .ref xr, .ref xt, .int (nI c), .ref xg, .long sv, .int ps, .int bd])), (xl, .inr (1, [.ref l1, .int (nI u), .int (nI la), .int (nI le), .long lk, .int (nI ls), .long lw])), (l1, .inl (.byte, 1024, .inl (fun q => sb_b (L q))))]) := by
  refine fh_enter (by decide) hst (Nat.le_of_ble_eq_true rfl) ?_
  intro mD mp me sm mm margs mbel mmet mcod X hr hnm hno hf0
  show fh_G mp l me (fh_rm 6 82 1 6) sm mm margs mbel mmet mcod mD fhCl (hp [(x, .inr (5, [.ref xm, .ref xl, .ref xb, .ref xr, .ref xt, .int (nI c), .ref xg, .long sv, .int ps, .int bd])), (xl, .inr (1, [.ref l1, .int (nI u), .int (nI la), .int (nI le), .long lk, .int (nI ls), .long lw])), (l1, .inl (.byte, 1024, .inl (fun q => sb_b (L q))))]) 2 _ 0 0 (hp [(x, .inr (5, [.ref xm, .ref xl, .ref xb, .ref xr, .ref xt, .int (nI c), .ref xg, .long sv, .int ps, .int bd])), (xl, .inr (1, [.ref l1, .int (nI u), .int (nI la), .int (nI le), .long lk, .int (nI ls), .long lw])), (l1, .inl (.byte, 1024, .inl (fun q => sb_b (L q))))]) 0 [(0, .ref x), (1, .int j)] []
  have hn2 : [xl, l1].Nodup := (List.Nodup.sublist (by repeat first | exact List.nil_sublist _ | apply List.Sublist.cons₂ | apply List.Sublist.cons) hn)
  refine g_iload_n X d_RS_logged_0 1 rfl ?_
  refine g_if_lt 15 X d_RS_logged_1 (by decide) (fun h1 => ?_) (fun h1 => ?_)
  · exact g_throwS (names := thrEA) X hno d_RS_logged_15 d_RS_logged_18 d_RS_logged_19 d_RS_logged_21 d_RS_logged_24 (by decide +kernel) (by decide +kernel) k_cl_RS_164 k_in_EI k_sr_RS_189 thr_RS_168 (Nat.le_of_ble_eq_true rfl) (Nat.le_of_ble_eq_true rfl) (Nat.le_of_ble_eq_true rfl) (Nat.le_of_ble_eq_true rfl) (Nat.le_of_ble_eq_true rfl) (Nat.le_of_ble_eq_true rfl) (⟨rfl, rfl⟩)
  · refine g_iload_n X d_RS_logged_4 1 rfl ?_
    refine g_aload_n X d_RS_logged_5 0 rfl ?_
    refine g_getf (k := 1) X d_RS_logged_6 (hl_w 0 rfl hn) rfl i_RS (by decide) k_fl_RS_27 (fun _ h => h) rfl ?_
    refine g_getN (k := 1) X d_RS_logged_9 (hl_w 1 rfl hn) rfl i_LG (by decide) k_fl_RS_188 (fun _ h => h) rfl ?_
    refine g_icmp_lt 25 X d_RS_logged_12 (by decide) (fun h12 => ?_) (fun h12 => ?_)
    · exact (hx.elim h1 (fun z9 => absurd h12 (i32_nlt z9))).elim
    · exact g_throwS (names := thrEA) X hno d_RS_logged_15 d_RS_logged_18 d_RS_logged_19 d_RS_logged_21 d_RS_logged_24 (by decide +kernel) (by decide +kernel) k_cl_RS_164 k_in_EI k_sr_RS_189 thr_RS_168 (Nat.le_of_ble_eq_true rfl) (Nat.le_of_ble_eq_true rfl) (Nat.le_of_ble_eq_true rfl) (Nat.le_of_ble_eq_true rfl) (Nat.le_of_ble_eq_true rfl) (Nat.le_of_ble_eq_true rfl) (⟨rfl, rfl⟩)
