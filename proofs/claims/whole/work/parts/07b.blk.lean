set_option maxRecDepth 100000 in
set_option maxHeartbeats 4000000 in
theorem c_TB_passes {l : Launch} (hst : l.stackTraces = false) {q ia lev ent m : Nat} {F : Int64} {ids : Nat → Nat} (hr9 : [q, ia].Nodup) (hm : m ≤ 128) {k : Int64} : fh_C l fhCl fhT y_TB_passes (.code y_TB_passes b_TB_passes 5 (some .boolean)) 1 23 [.ref q, .long k] (hp []) (hp [(q, .inr (3, [.int (nI lev), .int (nI ent), .long F, .ref ia])), (ia, .inl (.int, m, .inl (fun q => nI (ids q))))]) 0 0 (fh_ret (some (.int (nI (b2n (decide (F &&& fbits k = fbits k)))))) []) := by
  refine fh_enter (by decide) hst (Nat.le_of_ble_eq_true rfl) ?_
  intro D mp me sm mm margs mbel mmet mcod X hr hnm hno hf0
  show fh_G mp l me (fh_rm 1 23 0 0) sm mm margs mbel mmet mcod D fhCl (hp []) 5 _ 0 0 (hp []) 0 [(0, .ref q), (1, .long k)] []
  refine g_lload_n X d_TB_passes_0 1 rfl ?_
  refine h_callSN (As := [.long k]) (st := []) [] [] X d_TB_passes_1 (c_RS_filterBits hst) rfl k_ml_TB_26 k_cd_RS_filterBits k_in_RS k_st_RS_filterBits ⟨by decide +kernel, by decide +kernel, (by decide +kernel : (parseMethodDescriptor y_RS_filterBits.desc).map (fun d => d.parameters.length) = some 1)⟩ ⟨Nat.le_of_ble_eq_true rfl, Nat.le_of_ble_eq_true rfl⟩ ⟨Nat.le_of_ble_eq_true rfl, Nat.le_of_ble_eq_true rfl⟩ (Nat.le_of_ble_eq_true rfl) List.nodup_nil rfl rfl rfl hp_no hp_no2 ?_
  refine g_lstore_n [(3, .long (fbits k)), (0, .ref q), (1, .long k)] X d_TB_passes_4 (by decide) rfl ?_
  refine g_aload_n X d_TB_passes_5 1 rfl ?_
  refine g_getf (k := 2) X d_TB_passes_6 (hl_r 0 rfl hr9) rfl i_TB (by decide) k_fl_TB_18 (fun _ h => h) rfl ?_
  refine g_lload_n X d_TB_passes_9 0 rfl ?_
  refine g_land X d_TB_passes_10 ?_
  refine g_lload_n X d_TB_passes_11 0 rfl ?_
  refine g_lcmp X d_TB_passes_12 ?_
  refine g_if_ne 20 X d_TB_passes_13 (by decide) (fun h13 => ?_) (fun h13 => ?_)
  · have h13 := fun z => h13 ((lg_cmp_eq (F &&& (fbits k)) (fbits k)).mpr z)
    refine g_iconst (nI 0) X d_TB_passes_20 (by decide) ?_
    exact g_zret X hr rfl d_TB_passes_21 (Nat.le_of_ble_eq_true rfl) (Nat.le_of_ble_eq_true rfl) (⟨by rw [decide_eq_false h13]; rfl, rfl⟩)
  · have h13 := (lg_cmp_eq (F &&& (fbits k)) (fbits k)).mp h13
    refine g_iconst (nI 1) X d_TB_passes_16 (by decide) ?_
    refine g_goto 21 X d_TB_passes_17 (by decide) ?_
    exact g_zret X hr rfl d_TB_passes_21 (Nat.le_of_ble_eq_true rfl) (Nat.le_of_ble_eq_true rfl) (⟨by rw [decide_eq_true h13]; rfl, rfl⟩)

set_option maxRecDepth 100000 in
set_option maxHeartbeats 4000000 in
theorem c_TB_idAt_in {l : Launch} (hst : l.stackTraces = false) {q ia lev ent m : Nat} {F : Int64} {ids : Nat → Nat} (hr9 : [q, ia].Nodup) (hm : m ≤ 128) {j : Nat} (hj : j < m) : fh_C l fhCl fhT y_TB_idAt (.code y_TB_idAt b_TB_idAt 2 (some .int)) 0 0 [.ref q, .int (nI j)] (hp []) (hp [(q, .inr (3, [.int (nI lev), .int (nI ent), .long F, .ref ia])), (ia, .inl (.int, m, .inl (fun q => nI (ids q))))]) 0 0 (fh_ret (some (.int (nI (ids j)))) []) := by
  refine fh_enter (by decide) hst (Nat.le_of_ble_eq_true rfl) ?_
  intro D mp me sm mm margs mbel mmet mcod X hr hnm hno hf0
  show fh_G mp l me (fh_rm 0 0 0 0) sm mm margs mbel mmet mcod D fhCl (hp []) 2 _ 0 0 (hp []) 0 [(0, .ref q), (1, .int (nI j))] []
  refine g_iload_n X d_TB_idAt_0 1 rfl ?_
  refine g_if_lt 22 X d_TB_idAt_1 (by decide) (fun h1 => ?_) (fun h1 => ?_)
  · exact (cv_l0 (by omega) h1).elim
  · refine g_iload_n X d_TB_idAt_4 1 rfl ?_
    refine g_aload_n X d_TB_idAt_5 0 rfl ?_
    refine g_getf (k := 3) X d_TB_idAt_6 (hl_r 0 rfl hr9) rfl i_TB (by decide) k_fl_TB_22 (fun _ h => h) rfl ?_
    refine g_alen X d_TB_idAt_9 (hl_r 1 rfl hr9) ?_
    refine g_icmp_ge 22 X d_TB_idAt_10 (by decide) (fun h10 => ?_) (fun h10 => ?_)
    · have h10 := cv_le (by omega) (by omega) h10
      omega
    · have h10 := cv_nle (by omega) (by omega) h10
      refine g_aload_n X d_TB_idAt_13 0 rfl ?_
      refine g_getf (k := 3) X d_TB_idAt_14 (hl_r 0 rfl hr9) rfl i_TB (by decide) k_fl_TB_22 (fun _ h => h) rfl ?_
      refine g_iload_n X d_TB_idAt_17 1 rfl ?_
      refine h_iald X d_TB_idAt_18 (hl_r 1 rfl hr9) (by omega) (by omega) ?_
      refine g_goto 23 X d_TB_idAt_19 (by decide) ?_
      exact g_iret X hr d_TB_idAt_23 (Nat.le_of_ble_eq_true rfl) (Nat.le_of_ble_eq_true rfl) (fh_ret_i)

set_option maxRecDepth 100000 in
set_option maxHeartbeats 4000000 in
theorem c_TB_idAt_out {l : Launch} (hst : l.stackTraces = false) {q ia lev ent m : Nat} {F : Int64} {ids : Nat → Nat} (hr9 : [q, ia].Nodup) (hm : m ≤ 128) {j : Nat} (hj : m ≤ j) (hj2 : j < 2 ^ 31) : fh_C l fhCl fhT y_TB_idAt (.code y_TB_idAt b_TB_idAt 2 (some .int)) 0 0 [.ref q, .int (nI j)] (hp []) (hp [(q, .inr (3, [.int (nI lev), .int (nI ent), .long F, .ref ia])), (ia, .inl (.int, m, .inl (fun q => nI (ids q))))]) 0 0 (fh_ret (some (.int (-1))) []) := by
  refine fh_enter (by decide) hst (Nat.le_of_ble_eq_true rfl) ?_
  intro D mp me sm mm margs mbel mmet mcod X hr hnm hno hf0
  show fh_G mp l me (fh_rm 0 0 0 0) sm mm margs mbel mmet mcod D fhCl (hp []) 2 _ 0 0 (hp []) 0 [(0, .ref q), (1, .int (nI j))] []
  refine g_iload_n X d_TB_idAt_0 1 rfl ?_
  refine g_if_lt 22 X d_TB_idAt_1 (by decide) (fun h1 => ?_) (fun h1 => ?_)
  · exact (cv_l0 (by omega) h1).elim
  · refine g_iload_n X d_TB_idAt_4 1 rfl ?_
    refine g_aload_n X d_TB_idAt_5 0 rfl ?_
    refine g_getf (k := 3) X d_TB_idAt_6 (hl_r 0 rfl hr9) rfl i_TB (by decide) k_fl_TB_22 (fun _ h => h) rfl ?_
    refine g_alen X d_TB_idAt_9 (hl_r 1 rfl hr9) ?_
    refine g_icmp_ge 22 X d_TB_idAt_10 (by decide) (fun h10 => ?_) (fun h10 => ?_)
    · have h10 := cv_le (by omega) (by omega) h10
      refine g_iconst (-1) X d_TB_idAt_22 (by decide) ?_
      exact g_iret X hr d_TB_idAt_23 (Nat.le_of_ble_eq_true rfl) (Nat.le_of_ble_eq_true rfl) (fh_ret_i)
    · have h10 := cv_nle (by omega) (by omega) h10
      omega

set_option maxRecDepth 100000 in
set_option maxHeartbeats 4000000 in
theorem c_BL_has_in {l : Launch} (hst : l.stackTraces = false) {h y s t M : Nat} {w : Int32} {S T : Nat → Int32} {B : Nat → Nat} (hn : [h, y, s, t].Nodup) (hB : ∀ q, B q < 256) (hM : M ≤ 128) {j : Nat} (hj : j < M) : fh_C l fhCl fhT y_BL_has (.code y_BL_has b_BL_has 2 (some .boolean)) 0 0 [.ref h, .int (nI j)] (hp [(h, .inr (0, [.ref y, .ref s, .ref t, .int w])), (y, .inl (.byte, M * 32, .inl (fun q => sb_b (B q)))), (s, .inl (.int, M, .inl S)), (t, .inl (.int, M, .inl T))]) (hp []) 0 0 (fh_ret (some (.int (nI 1))) [(h, .inr (0, [.ref y, .ref s, .ref t, .int w])), (y, .inl (.byte, M * 32, .inl (fun q => sb_b (B q)))), (s, .inl (.int, M, .inl S)), (t, .inl (.int, M, .inl T))]) := by
  refine fh_enter (by decide) hst (Nat.le_of_ble_eq_true rfl) ?_
  intro D mp me sm mm margs mbel mmet mcod X hr hnm hno hf0
  show fh_G mp l me (fh_rm 0 0 0 0) sm mm margs mbel mmet mcod D fhCl (hp [(h, .inr (0, [.ref y, .ref s, .ref t, .int w])), (y, .inl (.byte, M * 32, .inl (fun q => sb_b (B q)))), (s, .inl (.int, M, .inl S)), (t, .inl (.int, M, .inl T))]) 2 _ 0 0 (hp [(h, .inr (0, [.ref y, .ref s, .ref t, .int w])), (y, .inl (.byte, M * 32, .inl (fun q => sb_b (B q)))), (s, .inl (.int, M, .inl S)), (t, .inl (.int, M, .inl T))]) 0 [(0, .ref h), (1, .int (nI j))] []
  refine g_iload_n X d_BL_has_0 1 rfl ?_
  refine g_if_lt 17 X d_BL_has_1 (by decide) (fun h1 => ?_) (fun h1 => ?_)
  · exact (cv_l0 (by omega) h1).elim
  · refine g_iload_n X d_BL_has_4 1 rfl ?_
    refine g_aload_n X d_BL_has_5 0 rfl ?_
    refine g_getf (k := 1) X d_BL_has_6 (hl_w 0 rfl hn) rfl i_BL (by decide) k_fl_BL_15 (fun _ h => h) rfl ?_
    refine g_alen X d_BL_has_9 (hl_w 2 rfl hn) ?_
    refine g_icmp_ge 17 X d_BL_has_10 (by decide) (fun h10 => ?_) (fun h10 => ?_)
    · have h10 := cv_le (by omega) (by omega) h10
      omega
    · have h10 := cv_nle (by omega) (by omega) h10
      refine g_iconst (nI 1) X d_BL_has_13 (by decide) ?_
      refine g_goto 18 X d_BL_has_14 (by decide) ?_
      exact g_zret X hr rfl d_BL_has_18 (Nat.le_of_ble_eq_true rfl) (Nat.le_of_ble_eq_true rfl) (fh_ret_i)

set_option maxRecDepth 100000 in
set_option maxHeartbeats 4000000 in
theorem c_BL_has_neg {l : Launch} (hst : l.stackTraces = false) {h y s t M : Nat} {w : Int32} {S T : Nat → Int32} {B : Nat → Nat} (hn : [h, y, s, t].Nodup) (hB : ∀ q, B q < 256) (hM : M ≤ 128) {x : Int32} (hx : x < 0) : fh_C l fhCl fhT y_BL_has (.code y_BL_has b_BL_has 2 (some .boolean)) 0 0 [.ref h, .int x] (hp [(h, .inr (0, [.ref y, .ref s, .ref t, .int w])), (y, .inl (.byte, M * 32, .inl (fun q => sb_b (B q)))), (s, .inl (.int, M, .inl S)), (t, .inl (.int, M, .inl T))]) (hp []) 0 0 (fh_ret (some (.int (nI 0))) [(h, .inr (0, [.ref y, .ref s, .ref t, .int w])), (y, .inl (.byte, M * 32, .inl (fun q => sb_b (B q)))), (s, .inl (.int, M, .inl S)), (t, .inl (.int, M, .inl T))]) := by
  refine fh_enter (by decide) hst (Nat.le_of_ble_eq_true rfl) ?_
  intro D mp me sm mm margs mbel mmet mcod X hr hnm hno hf0
  show fh_G mp l me (fh_rm 0 0 0 0) sm mm margs mbel mmet mcod D fhCl (hp [(h, .inr (0, [.ref y, .ref s, .ref t, .int w])), (y, .inl (.byte, M * 32, .inl (fun q => sb_b (B q)))), (s, .inl (.int, M, .inl S)), (t, .inl (.int, M, .inl T))]) 2 _ 0 0 (hp [(h, .inr (0, [.ref y, .ref s, .ref t, .int w])), (y, .inl (.byte, M * 32, .inl (fun q => sb_b (B q)))), (s, .inl (.int, M, .inl S)), (t, .inl (.int, M, .inl T))]) 0 [(0, .ref h), (1, .int x)] []
  refine g_iload_n X d_BL_has_0 1 rfl ?_
  refine g_if_lt 17 X d_BL_has_1 (by decide) (fun h1 => ?_) (fun h1 => ?_)
  · refine g_iconst (nI 0) X d_BL_has_17 (by decide) ?_
    exact g_zret X hr rfl d_BL_has_18 (Nat.le_of_ble_eq_true rfl) (Nat.le_of_ble_eq_true rfl) (fh_ret_i)
  · exact absurd hx h1

set_option maxRecDepth 100000 in
set_option maxHeartbeats 4000000 in
theorem c_BL_has_big {l : Launch} (hst : l.stackTraces = false) {h y s t M : Nat} {w : Int32} {S T : Nat → Int32} {B : Nat → Nat} (hn : [h, y, s, t].Nodup) (hB : ∀ q, B q < 256) (hM : M ≤ 128) {x : Int32} (hx : nI M ≤ x) : fh_C l fhCl fhT y_BL_has (.code y_BL_has b_BL_has 2 (some .boolean)) 0 0 [.ref h, .int x] (hp [(h, .inr (0, [.ref y, .ref s, .ref t, .int w])), (y, .inl (.byte, M * 32, .inl (fun q => sb_b (B q)))), (s, .inl (.int, M, .inl S)), (t, .inl (.int, M, .inl T))]) (hp []) 0 0 (fh_ret (some (.int (nI 0))) [(h, .inr (0, [.ref y, .ref s, .ref t, .int w])), (y, .inl (.byte, M * 32, .inl (fun q => sb_b (B q)))), (s, .inl (.int, M, .inl S)), (t, .inl (.int, M, .inl T))]) := by
  refine fh_enter (by decide) hst (Nat.le_of_ble_eq_true rfl) ?_
  intro D mp me sm mm margs mbel mmet mcod X hr hnm hno hf0
  show fh_G mp l me (fh_rm 0 0 0 0) sm mm margs mbel mmet mcod D fhCl (hp [(h, .inr (0, [.ref y, .ref s, .ref t, .int w])), (y, .inl (.byte, M * 32, .inl (fun q => sb_b (B q)))), (s, .inl (.int, M, .inl S)), (t, .inl (.int, M, .inl T))]) 2 _ 0 0 (hp [(h, .inr (0, [.ref y, .ref s, .ref t, .int w])), (y, .inl (.byte, M * 32, .inl (fun q => sb_b (B q)))), (s, .inl (.int, M, .inl S)), (t, .inl (.int, M, .inl T))]) 0 [(0, .ref h), (1, .int x)] []
  refine g_iload_n X d_BL_has_0 1 rfl ?_
  refine g_if_lt 17 X d_BL_has_1 (by decide) (fun h1 => ?_) (fun h1 => ?_)
  · refine g_iconst (nI 0) X d_BL_has_17 (by decide) ?_
    exact g_zret X hr rfl d_BL_has_18 (Nat.le_of_ble_eq_true rfl) (Nat.le_of_ble_eq_true rfl) (fh_ret_i)
  · refine g_iload_n X d_BL_has_4 1 rfl ?_
    refine g_aload_n X d_BL_has_5 0 rfl ?_
    refine g_getf (k := 1) X d_BL_has_6 (hl_w 0 rfl hn) rfl i_BL (by decide) k_fl_BL_15 (fun _ h => h) rfl ?_
    refine g_alen X d_BL_has_9 (hl_w 2 rfl hn) ?_
    refine g_icmp_ge 17 X d_BL_has_10 (by decide) (fun h10 => ?_) (fun h10 => ?_)
    · refine g_iconst (nI 0) X d_BL_has_17 (by decide) ?_
      exact g_zret X hr rfl d_BL_has_18 (Nat.le_of_ble_eq_true rfl) (Nat.le_of_ble_eq_true rfl) (fh_ret_i)
    · exact absurd hx h10

set_option maxRecDepth 100000 in
set_option maxHeartbeats 4000000 in
theorem c_BL_read {l : Launch} (hst : l.stackTraces = false) {h y s t M : Nat} {w : Int32} {S T : Nat → Int32} {B : Nat → Nat} (hn : [h, y, s, t].Nodup) (hB : ∀ q, B q < 256) (hM : M ≤ 128) {j k : Nat} (hj : j < M) (hk : k < 32) : fh_C l fhCl fhT y_BL_read (.code y_BL_read b_BL_read 3 (some .int)) 1 21 [.ref h, .int (nI j), .int (nI k)] (hp [(h, .inr (0, [.ref y, .ref s, .ref t, .int w])), (y, .inl (.byte, M * 32, .inl (fun q => sb_b (B q)))), (s, .inl (.int, M, .inl S)), (t, .inl (.int, M, .inl T))]) (hp []) 0 0 (fh_ret (some (.int (nI (B (j * 32 + k))))) [(h, .inr (0, [.ref y, .ref s, .ref t, .int w])), (y, .inl (.byte, M * 32, .inl (fun q => sb_b (B q)))), (s, .inl (.int, M, .inl S)), (t, .inl (.int, M, .inl T))]) := by
  refine fh_enter (by decide) hst (Nat.le_of_ble_eq_true rfl) ?_
  intro D mp me sm mm margs mbel mmet mcod X hr hnm hno hf0
  show fh_G mp l me (fh_rm 1 21 0 0) sm mm margs mbel mmet mcod D fhCl (hp [(h, .inr (0, [.ref y, .ref s, .ref t, .int w])), (y, .inl (.byte, M * 32, .inl (fun q => sb_b (B q)))), (s, .inl (.int, M, .inl S)), (t, .inl (.int, M, .inl T))]) 3 _ 0 0 (hp [(h, .inr (0, [.ref y, .ref s, .ref t, .int w])), (y, .inl (.byte, M * 32, .inl (fun q => sb_b (B q)))), (s, .inl (.int, M, .inl S)), (t, .inl (.int, M, .inl T))]) 0 [(0, .ref h), (1, .int (nI j)), (2, .int (nI k))] []
  refine g_aload_n X d_BL_read_0 0 rfl ?_
  refine g_iload_n X d_BL_read_1 1 rfl ?_
  refine h_callV (As := [.int (nI j)]) (st := []) [0, 1, 2, 3] [(h, .inr (0, [.ref y, .ref s, .ref t, .int w])), (y, .inl (.byte, M * 32, .inl (fun q => sb_b (B q)))), (s, .inl (.int, M, .inl S)), (t, .inl (.int, M, .inl T))] X d_BL_read_2 (c_BL_has_in hst hn hB hM (by omega)) (hl_w 0 rfl hn) rfl rfl k_ml_BL_22 k_cd_BL_has k_in_BL k_im_BL_has k_se_BL_has ⟨by decide +kernel, by decide +kernel, (by decide +kernel : (parseMethodDescriptor y_BL_has.desc).map (fun d => d.parameters.length) = some 1)⟩ ⟨Nat.le_of_ble_eq_true rfl, Nat.le_of_ble_eq_true rfl⟩ ⟨Nat.le_of_ble_eq_true rfl, Nat.le_of_ble_eq_true rfl⟩ (Nat.le_of_ble_eq_true rfl) hn rfl rfl rfl hp_no hp_no2 ?_
  refine g_if_eq 36 X d_BL_read_5 (by decide) (fun h5 => ?_) (fun h5 => ?_)
  · have h5 := cv_e0 (by omega) h5
    exact absurd h5 (by decide)
  · have h5 := cv_n0 (by omega) h5
    refine g_iload_n X d_BL_read_8 2 rfl ?_
    refine g_if_lt 36 X d_BL_read_9 (by decide) (fun h9 => ?_) (fun h9 => ?_)
    · exact (cv_l0 (by omega) h9).elim
    · refine g_iload_n X d_BL_read_12 2 rfl ?_
      refine g_bipush (nI 32) X d_BL_read_13 (by decide) ?_
      refine g_icmp_ge 36 X d_BL_read_15 (by decide) (fun h15 => ?_) (fun h15 => ?_)
      · have h15 := cv_le (by omega) (by omega) h15
        omega
      · have h15 := cv_nle (by omega) (by omega) h15
        refine g_aload_n X d_BL_read_18 0 rfl ?_
        refine g_getf (k := 0) X d_BL_read_19 (hl_w 0 rfl hn) rfl i_BL (by decide) k_fl_BL_9 (fun _ h => h) rfl ?_
        refine g_iload_n X d_BL_read_22 1 rfl ?_
        refine g_bipush (nI 32) X d_BL_read_23 (by decide) ?_
        refine g_imul X d_BL_read_25 ?_
        refine g_vi (nI (j * 32)) (pk_mul _ _) ?_
        refine g_iload_n X d_BL_read_26 2 rfl ?_
        refine g_iadd X d_BL_read_27 ?_
        refine g_vi (nI (j * 32 + k)) (nI_add _ _) ?_
        refine h_bald X d_BL_read_28 (hl_w 1 rfl hn) (by omega) (by omega) ?_
        refine g_sipush (nI 255) X d_BL_read_29 (by decide) ?_
        refine g_iand X d_BL_read_32 ?_
        refine g_vi (nI (B (j * 32 + k))) (sb_and (hB _)) ?_
        refine g_goto 37 X d_BL_read_33 (by decide) ?_
        exact g_iret X hr d_BL_read_37 (Nat.le_of_ble_eq_true rfl) (Nat.le_of_ble_eq_true rfl) (fh_ret_i)

set_option maxRecDepth 100000 in
set_option maxHeartbeats 4000000 in
theorem c_BL_writeByte {l : Launch} (hst : l.stackTraces = false) {h y s t M : Nat} {w : Int32} {S T : Nat → Int32} {B : Nat → Nat} (hn : [h, y, s, t].Nodup) (hB : ∀ q, B q < 256) (hM : M ≤ 128) {j k v : Nat} (hj : j < M) (hk : k < 32) : fh_C l fhCl fhT y_BL_writeByte (.code y_BL_writeByte b_BL_writeByte 4 none) 1 21 [.ref h, .int (nI j), .int (nI k), .int (nI v)] (hp [(h, .inr (0, [.ref y, .ref s, .ref t, .int w])), (y, .inl (.byte, M * 32, .inl (fun q => sb_b (B q)))), (s, .inl (.int, M, .inl S)), (t, .inl (.int, M, .inl T))]) (hp []) 0 0 (fh_ret none [(h, .inr (0, [.ref y, .ref s, .ref t, .int w])), (y, .inl (.byte, M * 32, .inl (fun q => sb_b (((va_up B (j * 32 + k) (v % 256))) q)))), (s, .inl (.int, M, .inl S)), (t, .inl (.int, M, .inl T))]) := by
  refine fh_enter (by decide) hst (Nat.le_of_ble_eq_true rfl) ?_
  intro D mp me sm mm margs mbel mmet mcod X hr hnm hno hf0
  show fh_G mp l me (fh_rm 1 21 0 0) sm mm margs mbel mmet mcod D fhCl (hp [(h, .inr (0, [.ref y, .ref s, .ref t, .int w])), (y, .inl (.byte, M * 32, .inl (fun q => sb_b (B q)))), (s, .inl (.int, M, .inl S)), (t, .inl (.int, M, .inl T))]) 4 _ 0 0 (hp [(h, .inr (0, [.ref y, .ref s, .ref t, .int w])), (y, .inl (.byte, M * 32, .inl (fun q => sb_b (B q)))), (s, .inl (.int, M, .inl S)), (t, .inl (.int, M, .inl T))]) 0 [(0, .ref h), (1, .int (nI j)), (2, .int (nI k)), (3, .int (nI v))] []
  refine g_aload_n X d_BL_writeByte_0 0 rfl ?_
  refine g_iload_n X d_BL_writeByte_1 1 rfl ?_
  refine h_callV (As := [.int (nI j)]) (st := []) [0, 1, 2, 3] [(h, .inr (0, [.ref y, .ref s, .ref t, .int w])), (y, .inl (.byte, M * 32, .inl (fun q => sb_b (B q)))), (s, .inl (.int, M, .inl S)), (t, .inl (.int, M, .inl T))] X d_BL_writeByte_2 (c_BL_has_in hst hn hB hM (by omega)) (hl_w 0 rfl hn) rfl rfl k_ml_BL_22 k_cd_BL_has k_in_BL k_im_BL_has k_se_BL_has ⟨by decide +kernel, by decide +kernel, (by decide +kernel : (parseMethodDescriptor y_BL_has.desc).map (fun d => d.parameters.length) = some 1)⟩ ⟨Nat.le_of_ble_eq_true rfl, Nat.le_of_ble_eq_true rfl⟩ ⟨Nat.le_of_ble_eq_true rfl, Nat.le_of_ble_eq_true rfl⟩ (Nat.le_of_ble_eq_true rfl) hn rfl rfl rfl hp_no hp_no2 ?_
  refine g_if_eq 31 X d_BL_writeByte_5 (by decide) (fun h5 => ?_) (fun h5 => ?_)
  · have h5 := cv_e0 (by omega) h5
    exact absurd h5 (by decide)
  · have h5 := cv_n0 (by omega) h5
    refine g_iload_n X d_BL_writeByte_8 2 rfl ?_
    refine g_if_lt 31 X d_BL_writeByte_9 (by decide) (fun h9 => ?_) (fun h9 => ?_)
    · exact (cv_l0 (by omega) h9).elim
    · refine g_iload_n X d_BL_writeByte_12 2 rfl ?_
      refine g_bipush (nI 32) X d_BL_writeByte_13 (by decide) ?_
      refine g_icmp_ge 31 X d_BL_writeByte_15 (by decide) (fun h15 => ?_) (fun h15 => ?_)
      · have h15 := cv_le (by omega) (by omega) h15
        omega
      · have h15 := cv_nle (by omega) (by omega) h15
        refine g_aload_n X d_BL_writeByte_18 0 rfl ?_
        refine g_getf (k := 0) X d_BL_writeByte_19 (hl_w 0 rfl hn) rfl i_BL (by decide) k_fl_BL_9 (fun _ h => h) rfl ?_
        refine g_iload_n X d_BL_writeByte_22 1 rfl ?_
        refine g_bipush (nI 32) X d_BL_writeByte_23 (by decide) ?_
        refine g_imul X d_BL_writeByte_25 ?_
        refine g_vi (nI (j * 32)) (pk_mul _ _) ?_
        refine g_iload_n X d_BL_writeByte_26 2 rfl ?_
        refine g_iadd X d_BL_writeByte_27 ?_
        refine g_vi (nI (j * 32 + k)) (nI_add _ _) ?_
        refine g_iload_n X d_BL_writeByte_28 3 rfl ?_
        refine g_i2b X d_BL_writeByte_29 ?_
        refine h_bastB 1 [(h, .inr (0, [.ref y, .ref s, .ref t, .int w])), (y, .inl (.byte, M * 32, .inl (fun q => sb_b ((va_up B (j * 32 + k) (v % 256)) q)))), (s, .inl (.int, M, .inl S)), (t, .inl (.int, M, .inl T))] X d_BL_writeByte_30 hn rfl (by omega) (by omega) rfl ?_
        exact g_vret X hr d_BL_writeByte_31 (Nat.le_of_ble_eq_true rfl) (Nat.le_of_ble_eq_true rfl) (fh_ret_i)

set_option maxRecDepth 100000 in
set_option maxHeartbeats 4000000 in
theorem c_BL_sumOf {l : Launch} (hst : l.stackTraces = false) {h y s t M : Nat} {w : Int32} {S T : Nat → Int32} {B : Nat → Nat} (hn : [h, y, s, t].Nodup) (hB : ∀ q, B q < 256) (hM : M ≤ 128) {j : Nat} (hj : j < M) : fh_C l fhCl fhT y_BL_sumOf (.code y_BL_sumOf b_BL_sumOf 6 (some .int)) 0 0 [.ref h, .int (nI j)] (hp [(h, .inr (0, [.ref y, .ref s, .ref t, .int w])), (y, .inl (.byte, M * 32, .inl (fun q => sb_b (B q)))), (s, .inl (.int, M, .inl S)), (t, .inl (.int, M, .inl T))]) (hp []) 0 0 (fh_ret (some (.int (sumS (T j) (fun q => B (j * 32 + q)) 32))) [(h, .inr (0, [.ref y, .ref s, .ref t, .int w])), (y, .inl (.byte, M * 32, .inl (fun q => sb_b (B q)))), (s, .inl (.int, M, .inl S)), (t, .inl (.int, M, .inl T))]) := by
  refine fh_enter (by decide) hst (Nat.le_of_ble_eq_true rfl) ?_
  intro D mp me sm mm margs mbel mmet mcod X hr hnm hno hf0
  show fh_G mp l me (fh_rm 0 0 0 0) sm mm margs mbel mmet mcod D fhCl (hp [(h, .inr (0, [.ref y, .ref s, .ref t, .int w])), (y, .inl (.byte, M * 32, .inl (fun q => sb_b (B q)))), (s, .inl (.int, M, .inl S)), (t, .inl (.int, M, .inl T))]) 6 _ 0 0 (hp [(h, .inr (0, [.ref y, .ref s, .ref t, .int w])), (y, .inl (.byte, M * 32, .inl (fun q => sb_b (B q)))), (s, .inl (.int, M, .inl S)), (t, .inl (.int, M, .inl T))]) 0 [(0, .ref h), (1, .int (nI j))] []
  refine g_aload_n X d_BL_sumOf_0 0 rfl ?_
  refine g_getf (k := 2) X d_BL_sumOf_1 (hl_w 0 rfl hn) rfl i_BL (by decide) k_fl_BL_19 (fun _ h => h) rfl ?_
  refine g_iload_n X d_BL_sumOf_4 1 rfl ?_
  refine h_iald X d_BL_sumOf_5 (hl_w 3 rfl hn) (by omega) (by omega) ?_
  refine g_istore_n [(2, .int (T j)), (0, .ref h), (1, .int (nI j))] X d_BL_sumOf_6 (by decide) rfl ?_
  refine g_iload_n X d_BL_sumOf_7 2 rfl ?_
  refine g_bipush (nI 32) X d_BL_sumOf_8 (by decide) ?_
  refine g_imul X d_BL_sumOf_10 ?_
  refine g_vi (nI (j * 32)) (pk_mul _ _) ?_
  refine g_istore_n [(3, .int (nI (j * 32))), (2, .int (T j)), (0, .ref h), (1, .int (nI j))] X d_BL_sumOf_11 (by decide) rfl ?_
  refine g_iload_n X d_BL_sumOf_12 0 rfl ?_
  refine g_istore [(4, .int (nI (j * 32))), (3, .int (nI (j * 32))), (2, .int (T j)), (0, .ref h), (1, .int (nI j))] X d_BL_sumOf_13 (by decide) rfl ?_
  have L15 : ∀ (fu15 : Nat) (u : Nat), (u ≤ 32) → 32 - u < fu15 → fh_G mp l me (fh_rm 0 0 0 0) sm mm margs mbel mmet mcod D fhCl (hp [(h, .inr (0, [.ref y, .ref s, .ref t, .int w])), (y, .inl (.byte, M * 32, .inl (fun q => sb_b (B q)))), (s, .inl (.int, M, .inl S)), (t, .inl (.int, M, .inl T))]) 6 (fh_MQ mbel D fhCl (hp [(h, .inr (0, [.ref y, .ref s, .ref t, .int w])), (y, .inl (.byte, M * 32, .inl (fun q => sb_b (B q)))), (s, .inl (.int, M, .inl S)), (t, .inl (.int, M, .inl T))]) (fh_ret (some (.int (sumS (T j) (fun q => B (j * 32 + q)) 32))) [(h, .inr (0, [.ref y, .ref s, .ref t, .int w])), (y, .inl (.byte, M * 32, .inl (fun q => sb_b (B q)))), (s, .inl (.int, M, .inl S)), (t, .inl (.int, M, .inl T))]) margs sm 0 0) 0 0 (hp [(h, .inr (0, [.ref y, .ref s, .ref t, .int w])), (y, .inl (.byte, M * 32, .inl (fun q => sb_b (B q)))), (s, .inl (.int, M, .inl S)), (t, .inl (.int, M, .inl T))]) 15 [(4, .int (nI (j * 32 + u))), (3, .int (nI (j * 32))), (2, .int (sumS (T j) (fun q => B (j * 32 + q)) u)), (0, .ref h), (1, .int (nI j))] [] := by
    intro fu15
    induction fu15 with
    | zero => intro u q1 hm15; exact absurd hm15 (Nat.not_lt_zero _)
    | succ fu15 ih15 =>
      intro u q1 hm15
      refine g_iload X d_BL_sumOf_15 0 rfl ?_
      refine g_iload_n X d_BL_sumOf_17 1 rfl ?_
      refine g_bipush (nI 32) X d_BL_sumOf_18 (by decide) ?_
      refine g_iadd X d_BL_sumOf_20 ?_
      refine g_vi (nI (j * 32 + 32)) (nI_add _ _) ?_
      refine g_icmp_ge 60 X d_BL_sumOf_21 (by decide) (fun h21 => ?_) (fun h21 => ?_)
      · have h21 := cv_le (by omega) (by omega) h21
        have e9 : u = 32 := by omega
        refine g_iload_n X d_BL_sumOf_60 2 rfl ?_
        exact g_iret X hr d_BL_sumOf_61 (Nat.le_of_ble_eq_true rfl) (Nat.le_of_ble_eq_true rfl) (⟨by rw [e9], rfl⟩)
      · have h21 := cv_nle (by omega) (by omega) h21
        refine g_iload_n X d_BL_sumOf_24 2 rfl ?_
        refine g_aload_n X d_BL_sumOf_25 3 rfl ?_
        refine g_getf (k := 0) X d_BL_sumOf_26 (hl_w 0 rfl hn) rfl i_BL (by decide) k_fl_BL_9 (fun _ h => h) rfl ?_
        refine g_iload X d_BL_sumOf_29 0 rfl ?_
        refine h_bald X d_BL_sumOf_31 (hl_w 1 rfl hn) (by omega) (by omega) ?_
        refine g_sipush (nI 255) X d_BL_sumOf_32 (by decide) ?_
        refine g_iand X d_BL_sumOf_35 ?_
        refine g_vi (nI (B (j * 32 + u))) (sb_and (hB _)) ?_
        refine g_ixor X d_BL_sumOf_36 ?_
        refine g_istore [(5, .int ((sumS (T j) (fun q => B (j * 32 + q)) u) ^^^ (nI (B (j * 32 + u))))), (4, .int (nI (j * 32 + u))), (3, .int (nI (j * 32))), (2, .int (sumS (T j) (fun q => B (j * 32 + q)) u)), (0, .ref h), (1, .int (nI j))] X d_BL_sumOf_37 (by decide) rfl ?_
        refine g_iload X d_BL_sumOf_39 0 rfl ?_
        refine g_bipush (nI 15) X d_BL_sumOf_41 (by decide) ?_
        refine g_ishl X d_BL_sumOf_43 ?_
        refine g_iload X d_BL_sumOf_44 0 rfl ?_
        refine g_bipush (nI 17) X d_BL_sumOf_46 (by decide) ?_
        refine g_iushr X d_BL_sumOf_48 ?_
        refine g_ior X d_BL_sumOf_49 ?_
        refine g_ldc X d_BL_sumOf_50 k_ct_BL_92 ?_
        refine g_imul X d_BL_sumOf_52 ?_
        refine g_istore_n [(2, .int (((((sumS (T j) (fun q => B (j * 32 + q)) u) ^^^ (nI (B (j * 32 + u)))) <<< ((nI 15) &&& 31)) ||| ((((sumS (T j) (fun q => B (j * 32 + q)) u) ^^^ (nI (B (j * 32 + u)))).toUInt32 >>> ((nI 17).toUInt32 &&& Int32.toUInt32 31)).toInt32)) * 374761393)), (5, .int ((sumS (T j) (fun q => B (j * 32 + q)) u) ^^^ (nI (B (j * 32 + u))))), (4, .int (nI (j * 32 + u))), (3, .int (nI (j * 32))), (0, .ref h), (1, .int (nI j))] X d_BL_sumOf_53 (by decide) rfl ?_
        refine g_iinc (nI (j * 32 + u + 1)) 2 [(4, .int (nI (j * 32 + u + 1))), (2, .int (((((sumS (T j) (fun q => B (j * 32 + q)) u) ^^^ (nI (B (j * 32 + u)))) <<< ((nI 15) &&& 31)) ||| ((((sumS (T j) (fun q => B (j * 32 + q)) u) ^^^ (nI (B (j * 32 + u)))).toUInt32 >>> ((nI 17).toUInt32 &&& Int32.toUInt32 31)).toInt32)) * 374761393)), (5, .int ((sumS (T j) (fun q => B (j * 32 + q)) u) ^^^ (nI (B (j * 32 + u))))), (3, .int (nI (j * 32))), (0, .ref h), (1, .int (nI j))] X d_BL_sumOf_54 rfl (nI_1 _) (by decide) rfl ?_
        refine g_goto 15 X d_BL_sumOf_57 (by decide) ?_
        refine g_lv [0, 3, 1, 4, 5] [(4, .int (nI (j * 32 + u + 1))), (3, .int (nI (j * 32))), (2, .int (((((sumS (T j) (fun q => B (j * 32 + q)) u) ^^^ (nI (B (j * 32 + u)))) <<< ((nI 15) &&& 31)) ||| ((((sumS (T j) (fun q => B (j * 32 + q)) u) ^^^ (nI (B (j * 32 + u)))).toUInt32 >>> ((nI 17).toUInt32 &&& Int32.toUInt32 31)).toInt32)) * 374761393)), (0, .ref h), (1, .int (nI j))] rfl ?_
        exact ih15 (u + 1) (by omega) (by omega)
  exact L15 _ 0 (by omega) (Nat.lt_succ_self _)

set_option maxRecDepth 100000 in
set_option maxHeartbeats 4000000 in
theorem c_BL_freeCount {l : Launch} (hst : l.stackTraces = false) {h y s t M : Nat} {w : Int32} {S T : Nat → Int32} {B : Nat → Nat} (hn : [h, y, s, t].Nodup) (hB : ∀ q, B q < 256) (hM : M ≤ 128) : fh_C l fhCl fhT y_BL_freeCount (.code y_BL_freeCount b_BL_freeCount 3 (some .int)) 0 0 [.ref h] (hp [(h, .inr (0, [.ref y, .ref s, .ref t, .int w])), (y, .inl (.byte, M * 32, .inl (fun q => sb_b (B q)))), (s, .inl (.int, M, .inl S)), (t, .inl (.int, M, .inl T))]) (hp []) 0 0 (fh_ret (some (.int (nI (fcn T M)))) [(h, .inr (0, [.ref y, .ref s, .ref t, .int w])), (y, .inl (.byte, M * 32, .inl (fun q => sb_b (B q)))), (s, .inl (.int, M, .inl S)), (t, .inl (.int, M, .inl T))]) := by
  refine fh_enter (by decide) hst (Nat.le_of_ble_eq_true rfl) ?_
  intro D mp me sm mm margs mbel mmet mcod X hr hnm hno hf0
  show fh_G mp l me (fh_rm 0 0 0 0) sm mm margs mbel mmet mcod D fhCl (hp [(h, .inr (0, [.ref y, .ref s, .ref t, .int w])), (y, .inl (.byte, M * 32, .inl (fun q => sb_b (B q)))), (s, .inl (.int, M, .inl S)), (t, .inl (.int, M, .inl T))]) 3 _ 0 0 (hp [(h, .inr (0, [.ref y, .ref s, .ref t, .int w])), (y, .inl (.byte, M * 32, .inl (fun q => sb_b (B q)))), (s, .inl (.int, M, .inl S)), (t, .inl (.int, M, .inl T))]) 0 [(0, .ref h)] []
  refine g_iconst (nI 0) X d_BL_freeCount_0 (by decide) ?_
  refine g_istore_n [(1, .int (nI 0)), (0, .ref h)] X d_BL_freeCount_1 (by decide) rfl ?_
  refine g_iconst (nI 0) X d_BL_freeCount_2 (by decide) ?_
  refine g_istore_n [(2, .int (nI 0)), (1, .int (nI 0)), (0, .ref h)] X d_BL_freeCount_3 (by decide) rfl ?_
  have L4 : ∀ (fu4 : Nat) (u : Nat), (u ≤ M) → M - u < fu4 → fh_G mp l me (fh_rm 0 0 0 0) sm mm margs mbel mmet mcod D fhCl (hp [(h, .inr (0, [.ref y, .ref s, .ref t, .int w])), (y, .inl (.byte, M * 32, .inl (fun q => sb_b (B q)))), (s, .inl (.int, M, .inl S)), (t, .inl (.int, M, .inl T))]) 3 (fh_MQ mbel D fhCl (hp [(h, .inr (0, [.ref y, .ref s, .ref t, .int w])), (y, .inl (.byte, M * 32, .inl (fun q => sb_b (B q)))), (s, .inl (.int, M, .inl S)), (t, .inl (.int, M, .inl T))]) (fh_ret (some (.int (nI (fcn T M)))) [(h, .inr (0, [.ref y, .ref s, .ref t, .int w])), (y, .inl (.byte, M * 32, .inl (fun q => sb_b (B q)))), (s, .inl (.int, M, .inl S)), (t, .inl (.int, M, .inl T))]) margs sm 0 0) 0 0 (hp [(h, .inr (0, [.ref y, .ref s, .ref t, .int w])), (y, .inl (.byte, M * 32, .inl (fun q => sb_b (B q)))), (s, .inl (.int, M, .inl S)), (t, .inl (.int, M, .inl T))]) 4 [(2, .int (nI u)), (1, .int (nI (fcn T u))), (0, .ref h)] [] := by
    intro fu4
    induction fu4 with
    | zero => intro u q1 hm4; exact absurd hm4 (Nat.not_lt_zero _)
    | succ fu4 ih4 =>
      intro u q1 hm4
      refine g_iload_n X d_BL_freeCount_4 0 rfl ?_
      refine g_aload_n X d_BL_freeCount_5 2 rfl ?_
      refine g_getf (k := 2) X d_BL_freeCount_6 (hl_w 0 rfl hn) rfl i_BL (by decide) k_fl_BL_19 (fun _ h => h) rfl ?_
      refine g_alen X d_BL_freeCount_9 (hl_w 3 rfl hn) ?_
      refine g_icmp_ge 32 X d_BL_freeCount_10 (by decide) (fun h10 => ?_) (fun h10 => ?_)
      · have h10 := cv_le (by omega) (by omega) h10
        have e9 : u = M := by omega
        refine g_iload_n X d_BL_freeCount_32 1 rfl ?_
        exact g_iret X hr d_BL_freeCount_33 (Nat.le_of_ble_eq_true rfl) (Nat.le_of_ble_eq_true rfl) (⟨by rw [e9], rfl⟩)
      · have h10 := cv_nle (by omega) (by omega) h10
        refine g_aload_n X d_BL_freeCount_13 2 rfl ?_
        refine g_getf (k := 2) X d_BL_freeCount_14 (hl_w 0 rfl hn) rfl i_BL (by decide) k_fl_BL_19 (fun _ h => h) rfl ?_
        refine g_iload_n X d_BL_freeCount_17 0 rfl ?_
        refine h_iald X d_BL_freeCount_18 (hl_w 3 rfl hn) (by omega) (by omega) ?_
        refine g_iconst (-1) X d_BL_freeCount_19 (by decide) ?_
        refine g_icmp_ne 26 X d_BL_freeCount_20 (by decide) (fun h20 => ?_) (fun h20 => ?_)
        · refine g_iinc (nI (u + 1)) 0 [(2, .int (nI (u + 1))), (1, .int (nI (fcn T u))), (0, .ref h)] X d_BL_freeCount_26 rfl (nI_1 _) (by decide) rfl ?_
          refine g_goto 4 X d_BL_freeCount_29 (by decide) ?_
          refine g_lve (lv' := [(2, .int (nI (u + 1))), (1, .int (nI (fcn T (u + 1)))), (0, .ref h)]) (by rw [fcn, if_neg h20]) ?_
          exact ih4 (u + 1) (by omega) (by omega)
        · refine g_iinc (nI (fcn T u + 1)) 1 [(1, .int (nI (fcn T u + 1))), (2, .int (nI u)), (0, .ref h)] X d_BL_freeCount_23 rfl (nI_1 _) (by decide) rfl ?_
          refine g_iinc (nI (u + 1)) 1 [(2, .int (nI (u + 1))), (1, .int (nI (fcn T u + 1))), (0, .ref h)] X d_BL_freeCount_26 rfl (nI_1 _) (by decide) rfl ?_
          refine g_goto 4 X d_BL_freeCount_29 (by decide) ?_
          refine g_lve (lv' := [(2, .int (nI (u + 1))), (1, .int (nI (fcn T (u + 1)))), (0, .ref h)]) (by rw [fcn, if_pos h20]) ?_
          exact ih4 (u + 1) (by omega) (by omega)
  exact L4 _ 0 (Nat.zero_le _) (Nat.lt_succ_self _)

set_option maxRecDepth 100000 in
set_option maxHeartbeats 4000000 in
theorem c_BL_inspect {l : Launch} (hst : l.stackTraces = false) {h y s t M : Nat} {w : Int32} {S T : Nat → Int32} {B : Nat → Nat} (hn : [h, y, s, t].Nodup) (hB : ∀ q, B q < 256) (hM : M ≤ 128) {j : Nat} (hj : j < M) : fh_C l fhCl fhT y_BL_inspect (.code y_BL_inspect b_BL_inspect 2 (some .boolean)) 1 25 [.ref h, .int (nI j)] (hp [(h, .inr (0, [.ref y, .ref s, .ref t, .int w])), (y, .inl (.byte, M * 32, .inl (fun q => sb_b (B q)))), (s, .inl (.int, M, .inl S)), (t, .inl (.int, M, .inl T))]) (hp []) 0 0 (fh_ret (some (.int (nI (b2n (rgt S T B j))))) [(h, .inr (0, [.ref y, .ref s, .ref t, .int (w + nI 1)])), (y, .inl (.byte, M * 32, .inl (fun q => sb_b (B q)))), (s, .inl (.int, M, .inl S)), (t, .inl (.int, M, .inl T))]) := by
  refine fh_enter (by decide) hst (Nat.le_of_ble_eq_true rfl) ?_
  intro D mp me sm mm margs mbel mmet mcod X hr hnm hno hf0
  show fh_G mp l me (fh_rm 1 25 0 0) sm mm margs mbel mmet mcod D fhCl (hp [(h, .inr (0, [.ref y, .ref s, .ref t, .int w])), (y, .inl (.byte, M * 32, .inl (fun q => sb_b (B q)))), (s, .inl (.int, M, .inl S)), (t, .inl (.int, M, .inl T))]) 2 _ 0 0 (hp [(h, .inr (0, [.ref y, .ref s, .ref t, .int w])), (y, .inl (.byte, M * 32, .inl (fun q => sb_b (B q)))), (s, .inl (.int, M, .inl S)), (t, .inl (.int, M, .inl T))]) 0 [(0, .ref h), (1, .int (nI j))] []
  refine g_aload_n X d_BL_inspect_0 0 rfl ?_
  refine g_dup X d_BL_inspect_1 rfl ?_
  refine g_getf (k := 3) X d_BL_inspect_2 (hl_w 0 rfl hn) rfl i_BL (by decide) k_fl_BL_86 (fun _ h => h) rfl ?_
  refine g_iconst (nI 1) X d_BL_inspect_5 (by decide) ?_
  refine g_iadd X d_BL_inspect_6 ?_
  refine h_putf (k := 3) (ty := .int) 0 [(h, .inr (0, [.ref y, .ref s, .ref t, .int (w + (nI 1))])), (y, .inl (.byte, M * 32, .inl (fun q => sb_b (B q)))), (s, .inl (.int, M, .inl S)), (t, .inl (.int, M, .inl T))] X d_BL_inspect_7 hn rfl rfl i_BL t_BL t_BL_ok n_BL (by decide) k_fl_BL_86 (fun _ h => h) rfl (by decide +kernel) rfl rfl (Nat.le_of_ble_eq_true rfl) rfl ?_
  refine g_aload_n X d_BL_inspect_10 0 rfl ?_
  refine g_iload_n X d_BL_inspect_11 1 rfl ?_
  refine h_callV (As := [.int (nI j)]) (st := []) [0, 1, 2, 3] [(h, .inr (0, [.ref y, .ref s, .ref t, .int (w + (nI 1))])), (y, .inl (.byte, M * 32, .inl (fun q => sb_b (B q)))), (s, .inl (.int, M, .inl S)), (t, .inl (.int, M, .inl T))] X d_BL_inspect_12 (c_BL_has_in hst hn hB hM (by omega)) (hl_w 0 rfl hn) rfl rfl k_ml_BL_22 k_cd_BL_has k_in_BL k_im_BL_has k_se_BL_has ⟨by decide +kernel, by decide +kernel, (by decide +kernel : (parseMethodDescriptor y_BL_has.desc).map (fun d => d.parameters.length) = some 1)⟩ ⟨Nat.le_of_ble_eq_true rfl, Nat.le_of_ble_eq_true rfl⟩ ⟨Nat.le_of_ble_eq_true rfl, Nat.le_of_ble_eq_true rfl⟩ (Nat.le_of_ble_eq_true rfl) hn rfl rfl rfl hp_no hp_no2 ?_
  refine g_if_eq 36 X d_BL_inspect_15 (by decide) (fun h15 => ?_) (fun h15 => ?_)
  · have h15 := cv_e0 (by omega) h15
    exact absurd h15 (by decide)
  · have h15 := cv_n0 (by omega) h15
    refine g_aload_n X d_BL_inspect_18 0 rfl ?_
    refine g_getf (k := 1) X d_BL_inspect_19 (hl_w 0 rfl hn) rfl i_BL (by decide) k_fl_BL_15 (fun _ h => h) rfl ?_
    refine g_iload_n X d_BL_inspect_22 1 rfl ?_
    refine h_iald X d_BL_inspect_23 (hl_w 2 rfl hn) (by omega) (by omega) ?_
    refine g_aload_n X d_BL_inspect_24 0 rfl ?_
    refine g_iload_n X d_BL_inspect_25 1 rfl ?_
    refine h_callV (As := [.int (nI j)]) (st := [.int (S j)]) [0, 1, 2, 3] [(h, .inr (0, [.ref y, .ref s, .ref t, .int (w + (nI 1))])), (y, .inl (.byte, M * 32, .inl (fun q => sb_b (B q)))), (s, .inl (.int, M, .inl S)), (t, .inl (.int, M, .inl T))] X d_BL_inspect_26 (c_BL_sumOf hst hn hB hM (by omega)) (hl_w 0 rfl hn) rfl rfl k_ml_BL_58 k_cd_BL_sumOf k_in_BL k_im_BL_sumOf k_se_BL_sumOf ⟨by decide +kernel, by decide +kernel, (by decide +kernel : (parseMethodDescriptor y_BL_sumOf.desc).map (fun d => d.parameters.length) = some 1)⟩ ⟨Nat.le_of_ble_eq_true rfl, Nat.le_of_ble_eq_true rfl⟩ ⟨Nat.le_of_ble_eq_true rfl, Nat.le_of_ble_eq_true rfl⟩ (Nat.le_of_ble_eq_true rfl) hn rfl rfl rfl hp_no hp_no2 ?_
    refine g_icmp_ne 36 X d_BL_inspect_29 (by decide) (fun h29 => ?_) (fun h29 => ?_)
    · refine g_iconst (nI 0) X d_BL_inspect_36 (by decide) ?_
      exact g_zret X hr rfl d_BL_inspect_37 (Nat.le_of_ble_eq_true rfl) (Nat.le_of_ble_eq_true rfl) (⟨by rw [rgt_f h29]; rfl, rfl⟩)
    · refine g_iconst (nI 1) X d_BL_inspect_32 (by decide) ?_
      refine g_goto 37 X d_BL_inspect_33 (by decide) ?_
      exact g_zret X hr rfl d_BL_inspect_37 (Nat.le_of_ble_eq_true rfl) (Nat.le_of_ble_eq_true rfl) (⟨by rw [rgt_t h29]; rfl, rfl⟩)

set_option maxRecDepth 100000 in
set_option maxHeartbeats 4000000 in
theorem c_BL_lowestWrong {l : Launch} (hst : l.stackTraces = false) {h y s t M : Nat} {w : Int32} {S T : Nat → Int32} {B : Nat → Nat} (hn : [h, y, s, t].Nodup) (hB : ∀ q, B q < 256) (hM : M ≤ 128) : fh_C l fhCl fhT y_BL_lowestWrong (.code y_BL_lowestWrong b_BL_lowestWrong 2 (some .int)) 1 25 [.ref h] (hp [(h, .inr (0, [.ref y, .ref s, .ref t, .int w])), (y, .inl (.byte, M * 32, .inl (fun q => sb_b (B q)))), (s, .inl (.int, M, .inl S)), (t, .inl (.int, M, .inl T))]) (hp []) 0 0 (fh_ret (some (.int (if lwr S T B M < M then nI (lwr S T B M) else (-1)))) [(h, .inr (0, [.ref y, .ref s, .ref t, .int w])), (y, .inl (.byte, M * 32, .inl (fun q => sb_b (B q)))), (s, .inl (.int, M, .inl S)), (t, .inl (.int, M, .inl T))]) := by
  refine fh_enter (by decide) hst (Nat.le_of_ble_eq_true rfl) ?_
  intro D mp me sm mm margs mbel mmet mcod X hr hnm hno hf0
  show fh_G mp l me (fh_rm 1 25 0 0) sm mm margs mbel mmet mcod D fhCl (hp [(h, .inr (0, [.ref y, .ref s, .ref t, .int w])), (y, .inl (.byte, M * 32, .inl (fun q => sb_b (B q)))), (s, .inl (.int, M, .inl S)), (t, .inl (.int, M, .inl T))]) 2 _ 0 0 (hp [(h, .inr (0, [.ref y, .ref s, .ref t, .int w])), (y, .inl (.byte, M * 32, .inl (fun q => sb_b (B q)))), (s, .inl (.int, M, .inl S)), (t, .inl (.int, M, .inl T))]) 0 [(0, .ref h)] []
  refine g_iconst (nI 0) X d_BL_lowestWrong_0 (by decide) ?_
  refine g_istore_n [(1, .int (nI 0)), (0, .ref h)] X d_BL_lowestWrong_1 (by decide) rfl ?_
  have L2 : ∀ (fu2 : Nat) (u : Nat), (u ≤ M) → (∀ j, j < u → (decide (T j = (-1)) || rgt S T B j) = true) → M - u < fu2 → fh_G mp l me (fh_rm 1 25 0 0) sm mm margs mbel mmet mcod D fhCl (hp [(h, .inr (0, [.ref y, .ref s, .ref t, .int w])), (y, .inl (.byte, M * 32, .inl (fun q => sb_b (B q)))), (s, .inl (.int, M, .inl S)), (t, .inl (.int, M, .inl T))]) 2 (fh_MQ mbel D fhCl (hp [(h, .inr (0, [.ref y, .ref s, .ref t, .int w])), (y, .inl (.byte, M * 32, .inl (fun q => sb_b (B q)))), (s, .inl (.int, M, .inl S)), (t, .inl (.int, M, .inl T))]) (fh_ret (some (.int (if lwr S T B M < M then nI (lwr S T B M) else (-1)))) [(h, .inr (0, [.ref y, .ref s, .ref t, .int w])), (y, .inl (.byte, M * 32, .inl (fun q => sb_b (B q)))), (s, .inl (.int, M, .inl S)), (t, .inl (.int, M, .inl T))]) margs sm 0 0) 0 0 (hp [(h, .inr (0, [.ref y, .ref s, .ref t, .int w])), (y, .inl (.byte, M * 32, .inl (fun q => sb_b (B q)))), (s, .inl (.int, M, .inl S)), (t, .inl (.int, M, .inl T))]) 2 [(1, .int (nI u)), (0, .ref h)] [] := by
    intro fu2
    induction fu2 with
    | zero => intro u q1 q2 hm2; exact absurd hm2 (Nat.not_lt_zero _)
    | succ fu2 ih2 =>
      intro u q1 q2 hm2
      refine g_iload_n X d_BL_lowestWrong_2 0 rfl ?_
      refine g_aload_n X d_BL_lowestWrong_3 1 rfl ?_
      refine g_getf (k := 2) X d_BL_lowestWrong_4 (hl_w 0 rfl hn) rfl i_BL (by decide) k_fl_BL_19 (fun _ h => h) rfl ?_
      refine g_alen X d_BL_lowestWrong_7 (hl_w 3 rfl hn) ?_
      refine g_icmp_ge 43 X d_BL_lowestWrong_8 (by decide) (fun h8 => ?_) (fun h8 => ?_)
      · have h8 := cv_le (by omega) (by omega) h8
        have e9 : u = M := by omega
        have e8 : lwr S T B M = M := fwi_is (Nat.le_refl _) (by rw [← e9]; exact q2) (fun h => absurd h (Nat.lt_irrefl _))
        refine g_iconst (-1) X d_BL_lowestWrong_43 (by decide) ?_
        exact g_iret X hr d_BL_lowestWrong_44 (Nat.le_of_ble_eq_true rfl) (Nat.le_of_ble_eq_true rfl) (⟨by rw [e8, if_neg (Nat.lt_irrefl _)], rfl⟩)
      · have h8 := cv_nle (by omega) (by omega) h8
        refine g_aload_n X d_BL_lowestWrong_11 1 rfl ?_
        refine g_getf (k := 2) X d_BL_lowestWrong_12 (hl_w 0 rfl hn) rfl i_BL (by decide) k_fl_BL_19 (fun _ h => h) rfl ?_
        refine g_iload_n X d_BL_lowestWrong_15 0 rfl ?_
        refine h_iald X d_BL_lowestWrong_16 (hl_w 3 rfl hn) (by omega) (by omega) ?_
        refine g_iconst (-1) X d_BL_lowestWrong_17 (by decide) ?_
        refine g_icmp_eq 37 X d_BL_lowestWrong_18 (by decide) (fun h18 => ?_) (fun h18 => ?_)
        · refine g_iinc (nI (u + 1)) 0 [(1, .int (nI (u + 1))), (0, .ref h)] X d_BL_lowestWrong_37 rfl (nI_1 _) (by decide) rfl ?_
          refine g_goto 2 X d_BL_lowestWrong_40 (by decide) ?_
          exact ih2 (u + 1) (by omega) (lt_s q2 (by rw [decide_eq_true h18]; rfl)) (by omega)
        · refine g_aload_n X d_BL_lowestWrong_21 1 rfl ?_
          refine g_getf (k := 1) X d_BL_lowestWrong_22 (hl_w 0 rfl hn) rfl i_BL (by decide) k_fl_BL_15 (fun _ h => h) rfl ?_
          refine g_iload_n X d_BL_lowestWrong_25 0 rfl ?_
          refine h_iald X d_BL_lowestWrong_26 (hl_w 2 rfl hn) (by omega) (by omega) ?_
          refine g_aload_n X d_BL_lowestWrong_27 1 rfl ?_
          refine g_iload_n X d_BL_lowestWrong_28 0 rfl ?_
          refine h_callV (As := [.int (nI u)]) (st := [.int (S u)]) [0, 1, 2, 3] [(h, .inr (0, [.ref y, .ref s, .ref t, .int w])), (y, .inl (.byte, M * 32, .inl (fun q => sb_b (B q)))), (s, .inl (.int, M, .inl S)), (t, .inl (.int, M, .inl T))] X d_BL_lowestWrong_29 (c_BL_sumOf hst hn hB hM (by omega)) (hl_w 0 rfl hn) rfl rfl k_ml_BL_58 k_cd_BL_sumOf k_in_BL k_im_BL_sumOf k_se_BL_sumOf ⟨by decide +kernel, by decide +kernel, (by decide +kernel : (parseMethodDescriptor y_BL_sumOf.desc).map (fun d => d.parameters.length) = some 1)⟩ ⟨Nat.le_of_ble_eq_true rfl, Nat.le_of_ble_eq_true rfl⟩ ⟨Nat.le_of_ble_eq_true rfl, Nat.le_of_ble_eq_true rfl⟩ (Nat.le_of_ble_eq_true rfl) hn rfl rfl rfl hp_no hp_no2 ?_
          refine g_icmp_eq 37 X d_BL_lowestWrong_32 (by decide) (fun h32 => ?_) (fun h32 => ?_)
          · refine g_iinc (nI (u + 1)) 0 [(1, .int (nI (u + 1))), (0, .ref h)] X d_BL_lowestWrong_37 rfl (nI_1 _) (by decide) rfl ?_
            refine g_goto 2 X d_BL_lowestWrong_40 (by decide) ?_
            exact ih2 (u + 1) (by omega) (lt_s q2 (by rw [rgt_t h32, Bool.or_true])) (by omega)
          · refine g_iload_n X d_BL_lowestWrong_35 0 rfl ?_
            exact g_iret X hr d_BL_lowestWrong_36 (Nat.le_of_ble_eq_true rfl) (Nat.le_of_ble_eq_true rfl) (⟨by rw [show lwr S T B M = u from fwi_is q1 q2 (fun _ => by rw [decide_eq_false h18, rgt_f h32]; rfl), if_pos h8], rfl⟩)
  exact L2 _ 0 (Nat.zero_le _) (fun j hj => absurd hj (Nat.not_lt_zero _)) (Nat.lt_succ_self _)

set_option maxRecDepth 100000 in
set_option maxHeartbeats 4000000 in
theorem c_BL_firstWrong {l : Launch} (hst : l.stackTraces = false) {h y s t M : Nat} {w : Int32} {S T : Nat → Int32} {B : Nat → Nat} (hn : [h, y, s, t].Nodup) (hB : ∀ q, B q < 256) (hM : M ≤ 128) {q ia lev ent m : Nat} {F : Int64} {ids : Nat → Nat} (hr9 : [q, ia].Nodup) (hm : m ≤ 128) (hid : ∀ k, k < m → ids k < M) : fh_C l fhCl fhT y_BL_firstWrong (.code y_BL_firstWrong b_BL_firstWrong 3 (some .int)) 2 46 [.ref h, .ref q] (hp [(h, .inr (0, [.ref y, .ref s, .ref t, .int w])), (y, .inl (.byte, M * 32, .inl (fun q => sb_b (B q)))), (s, .inl (.int, M, .inl S)), (t, .inl (.int, M, .inl T))]) (hp [(q, .inr (3, [.int (nI lev), .int (nI ent), .long F, .ref ia])), (ia, .inl (.int, m, .inl (fun q => nI (ids q))))]) 0 0 (fh_ret (some (.int (if fwi (fun k => rgt S T B (ids k)) m < m then nI (ids (fwi (fun k => rgt S T B (ids k)) m)) else (-1)))) [(h, .inr (0, [.ref y, .ref s, .ref t, .int (w + nI (if fwi (fun k => rgt S T B (ids k)) m < m then fwi (fun k => rgt S T B (ids k)) m + 1 else m))])), (y, .inl (.byte, M * 32, .inl (fun q => sb_b (B q)))), (s, .inl (.int, M, .inl S)), (t, .inl (.int, M, .inl T))]) := by
  refine fh_enter (by decide) hst (Nat.le_of_ble_eq_true rfl) ?_
  intro D mp me sm mm margs mbel mmet mcod X hr hnm hno hf0
  show fh_G mp l me (fh_rm 2 46 0 0) sm mm margs mbel mmet mcod D fhCl (hp [(h, .inr (0, [.ref y, .ref s, .ref t, .int w])), (y, .inl (.byte, M * 32, .inl (fun q => sb_b (B q)))), (s, .inl (.int, M, .inl S)), (t, .inl (.int, M, .inl T))]) 3 _ 0 0 (hp [(h, .inr (0, [.ref y, .ref s, .ref t, .int w])), (y, .inl (.byte, M * 32, .inl (fun q => sb_b (B q)))), (s, .inl (.int, M, .inl S)), (t, .inl (.int, M, .inl T))]) 0 [(0, .ref h), (1, .ref q)] []
  refine g_hp (ws' := [(h, .inr (0, [.ref y, .ref s, .ref t, .int (w + nI 0)])), (y, .inl (.byte, M * 32, .inl (fun q => sb_b (B q)))), (s, .inl (.int, M, .inl S)), (t, .inl (.int, M, .inl T))]) (by rw [addz]) ?_
  refine g_iconst (nI 0) X d_BL_firstWrong_0 (by decide) ?_
  refine g_istore_n [(2, .int (nI 0)), (0, .ref h), (1, .ref q)] X d_BL_firstWrong_1 (by decide) rfl ?_
  have L2 : ∀ (fu2 : Nat) (u : Nat), (u ≤ m) → (∀ j, j < u → (fun k => rgt S T B (ids k)) j = true) → m - u < fu2 → fh_G mp l me (fh_rm 2 46 0 0) sm mm margs mbel mmet mcod D fhCl (hp [(h, .inr (0, [.ref y, .ref s, .ref t, .int w])), (y, .inl (.byte, M * 32, .inl (fun q => sb_b (B q)))), (s, .inl (.int, M, .inl S)), (t, .inl (.int, M, .inl T))]) 3 (fh_MQ mbel D fhCl (hp [(h, .inr (0, [.ref y, .ref s, .ref t, .int w])), (y, .inl (.byte, M * 32, .inl (fun q => sb_b (B q)))), (s, .inl (.int, M, .inl S)), (t, .inl (.int, M, .inl T))]) (fh_ret (some (.int (if fwi (fun k => rgt S T B (ids k)) m < m then nI (ids (fwi (fun k => rgt S T B (ids k)) m)) else (-1)))) [(h, .inr (0, [.ref y, .ref s, .ref t, .int (w + nI (if fwi (fun k => rgt S T B (ids k)) m < m then fwi (fun k => rgt S T B (ids k)) m + 1 else m))])), (y, .inl (.byte, M * 32, .inl (fun q => sb_b (B q)))), (s, .inl (.int, M, .inl S)), (t, .inl (.int, M, .inl T))]) margs sm 0 0) 0 0 (hp [(h, .inr (0, [.ref y, .ref s, .ref t, .int (w + nI u)])), (y, .inl (.byte, M * 32, .inl (fun q => sb_b (B q)))), (s, .inl (.int, M, .inl S)), (t, .inl (.int, M, .inl T))]) 2 [(2, .int (nI u)), (0, .ref h), (1, .ref q)] [] := by
    intro fu2
    induction fu2 with
    | zero => intro u q1 q2 hm2; exact absurd hm2 (Nat.not_lt_zero _)
    | succ fu2 ih2 =>
      intro u q1 q2 hm2
      refine g_iload_n X d_BL_firstWrong_2 0 rfl ?_
      refine g_aload_n X d_BL_firstWrong_3 2 rfl ?_
      refine g_getN (k := 3) X d_BL_firstWrong_4 (hl_r 0 rfl hr9) rfl i_TB (by decide) k_fl_BL_55 (fun _ h => h) rfl ?_
      refine g_alen X d_BL_firstWrong_7 (hl_r 1 rfl hr9) ?_
      refine g_icmp_ge 37 X d_BL_firstWrong_8 (by decide) (fun h8 => ?_) (fun h8 => ?_)
      · have h8 := cv_le (by omega) (by omega) h8
        have e9 : u = m := by omega
        have e8 : fwi (fun k => rgt S T B (ids k)) m = m := fwi_is (Nat.le_refl _) (by rw [← e9]; exact q2) (fun h => absurd h (Nat.lt_irrefl _))
        refine g_iconst (-1) X d_BL_firstWrong_37 (by decide) ?_
        exact g_iret X hr d_BL_firstWrong_38 (Nat.le_of_ble_eq_true rfl) (Nat.le_of_ble_eq_true rfl) (⟨by rw [e8, if_neg (Nat.lt_irrefl _)], by rw [e8, if_neg (Nat.lt_irrefl _), e9]⟩)
      · have h8 := cv_nle (by omega) (by omega) h8
        refine g_aload_n X d_BL_firstWrong_11 1 rfl ?_
        refine g_aload_n X d_BL_firstWrong_12 2 rfl ?_
        refine g_getN (k := 3) X d_BL_firstWrong_13 (hl_r 0 rfl hr9) rfl i_TB (by decide) k_fl_BL_55 (fun _ h => h) rfl ?_
        refine g_iload_n X d_BL_firstWrong_16 0 rfl ?_
        refine h_iald X d_BL_firstWrong_17 (hl_r 1 rfl hr9) (by omega) (by omega) ?_
        refine h_callV (As := [.int (nI (ids u))]) (st := []) [0, 1, 2, 3] [(h, .inr (0, [.ref y, .ref s, .ref t, .int (w + nI u + nI 1)])), (y, .inl (.byte, M * 32, .inl (fun q => sb_b (B q)))), (s, .inl (.int, M, .inl S)), (t, .inl (.int, M, .inl T))] X d_BL_firstWrong_18 (c_BL_inspect hst hn hB hM (hid u (by omega))) (hl_w 0 rfl hn) rfl rfl k_ml_BL_89 k_cd_BL_inspect k_in_BL k_im_BL_inspect k_se_BL_inspect ⟨by decide +kernel, by decide +kernel, (by decide +kernel : (parseMethodDescriptor y_BL_inspect.desc).map (fun d => d.parameters.length) = some 1)⟩ ⟨Nat.le_of_ble_eq_true rfl, Nat.le_of_ble_eq_true rfl⟩ ⟨Nat.le_of_ble_eq_true rfl, Nat.le_of_ble_eq_true rfl⟩ (Nat.le_of_ble_eq_true rfl) hn rfl rfl rfl hp_no hp_no2 ?_
        rcases Bool.eq_false_or_eq_true (rgt S T B (ids u)) with hb9 | hb9
        · have e9 : nI (b2n (rgt S T B (ids u))) = nI 1 := by rw [hb9]; rfl
          refine g_vi (nI 1) e9 ?_
          refine g_if_ne 31 X d_BL_firstWrong_21 (by decide) (fun h21 => ?_) (fun h21 => ?_)
          · have h21 := cv_n0 (by omega) h21
            refine g_iinc (nI (u + 1)) 0 [(2, .int (nI (u + 1))), (0, .ref h), (1, .ref q)] X d_BL_firstWrong_31 rfl (nI_1 _) (by decide) rfl ?_
            refine g_goto 2 X d_BL_firstWrong_34 (by decide) ?_
            refine g_hp (ws' := [(h, .inr (0, [.ref y, .ref s, .ref t, .int (w + nI (u + 1))])), (y, .inl (.byte, M * 32, .inl (fun q => sb_b (B q)))), (s, .inl (.int, M, .inl S)), (t, .inl (.int, M, .inl T))]) (by rw [addn]) ?_
            exact ih2 (u + 1) (by omega) (lt_s q2 hb9) (by omega)
          · have h21 := cv_e0 (by omega) h21
            exact absurd h21 (by decide)
        · have e9 : nI (b2n (rgt S T B (ids u))) = nI 0 := by rw [hb9]; rfl
          refine g_vi (nI 0) e9 ?_
          refine g_if_ne 31 X d_BL_firstWrong_21 (by decide) (fun h21 => ?_) (fun h21 => ?_)
          · have h21 := cv_n0 (by omega) h21
            exact absurd h21 (by decide)
          · have h21 := cv_e0 (by omega) h21
            refine g_aload_n X d_BL_firstWrong_24 2 rfl ?_
            refine g_getN (k := 3) X d_BL_firstWrong_25 (hl_r 0 rfl hr9) rfl i_TB (by decide) k_fl_BL_55 (fun _ h => h) rfl ?_
            refine g_iload_n X d_BL_firstWrong_28 0 rfl ?_
            refine h_iald X d_BL_firstWrong_29 (hl_r 1 rfl hr9) (by omega) (by omega) ?_
            exact g_iret X hr d_BL_firstWrong_30 (Nat.le_of_ble_eq_true rfl) (Nat.le_of_ble_eq_true rfl) (⟨by rw [show fwi (fun k => rgt S T B (ids k)) m = u from fwi_is q1 q2 (fun _ => hb9), if_pos h8], by rw [show fwi (fun k => rgt S T B (ids k)) m = u from fwi_is q1 q2 (fun _ => hb9), if_pos h8, addn]⟩)
  exact L2 _ 0 (Nat.zero_le _) (fun j hj => absurd hj (Nat.not_lt_zero _)) (Nat.lt_succ_self _)

set_option maxRecDepth 100000 in
set_option maxHeartbeats 4000000 in
theorem c_BL_free {l : Launch} (hst : l.stackTraces = false) {h y s t M : Nat} {w : Int32} {S T : Nat → Int32} {B : Nat → Nat} (hn : [h, y, s, t].Nodup) (hB : ∀ q, B q < 256) (hM : M ≤ 128) {q ia lev ent m : Nat} {F : Int64} {ids : Nat → Nat} (hr9 : [q, ia].Nodup) (hm : m ≤ 128) (hid : ∀ k, k < m → ids k < M) : fh_C l fhCl fhT y_BL_free (.code y_BL_free b_BL_free 4 none) 1 21 [.ref h, .ref q] (hp [(h, .inr (0, [.ref y, .ref s, .ref t, .int w])), (y, .inl (.byte, M * 32, .inl (fun q => sb_b (B q)))), (s, .inl (.int, M, .inl S)), (t, .inl (.int, M, .inl T))]) (hp [(q, .inr (3, [.int (nI lev), .int (nI ent), .long F, .ref ia])), (ia, .inl (.int, m, .inl (fun q => nI (ids q))))]) 0 0 (fh_ret none [(h, .inr (0, [.ref y, .ref s, .ref t, .int w])), (y, .inl (.byte, M * 32, .inl (fun q => sb_b (B q)))), (s, .inl (.int, M, .inl S)), (t, .inl (.int, M, .inl (freT T ids m)))]) := by
  refine fh_enter (by decide) hst (Nat.le_of_ble_eq_true rfl) ?_
  intro D mp me sm mm margs mbel mmet mcod X hr hnm hno hf0
  show fh_G mp l me (fh_rm 1 21 0 0) sm mm margs mbel mmet mcod D fhCl (hp [(h, .inr (0, [.ref y, .ref s, .ref t, .int w])), (y, .inl (.byte, M * 32, .inl (fun q => sb_b (B q)))), (s, .inl (.int, M, .inl S)), (t, .inl (.int, M, .inl T))]) 4 _ 0 0 (hp [(h, .inr (0, [.ref y, .ref s, .ref t, .int w])), (y, .inl (.byte, M * 32, .inl (fun q => sb_b (B q)))), (s, .inl (.int, M, .inl S)), (t, .inl (.int, M, .inl T))]) 0 [(0, .ref h), (1, .ref q)] []
  refine g_iconst (nI 0) X d_BL_free_0 (by decide) ?_
  refine g_istore_n [(2, .int (nI 0)), (0, .ref h), (1, .ref q)] X d_BL_free_1 (by decide) rfl ?_
  have L2 : ∀ (fu2 : Nat) (u : Nat), (u ≤ m) → m - u < fu2 → fh_G mp l me (fh_rm 1 21 0 0) sm mm margs mbel mmet mcod D fhCl (hp [(h, .inr (0, [.ref y, .ref s, .ref t, .int w])), (y, .inl (.byte, M * 32, .inl (fun q => sb_b (B q)))), (s, .inl (.int, M, .inl S)), (t, .inl (.int, M, .inl T))]) 4 (fh_MQ mbel D fhCl (hp [(h, .inr (0, [.ref y, .ref s, .ref t, .int w])), (y, .inl (.byte, M * 32, .inl (fun q => sb_b (B q)))), (s, .inl (.int, M, .inl S)), (t, .inl (.int, M, .inl T))]) (fh_ret none [(h, .inr (0, [.ref y, .ref s, .ref t, .int w])), (y, .inl (.byte, M * 32, .inl (fun q => sb_b (B q)))), (s, .inl (.int, M, .inl S)), (t, .inl (.int, M, .inl (freT T ids m)))]) margs sm 0 0) 0 0 (hp [(h, .inr (0, [.ref y, .ref s, .ref t, .int w])), (y, .inl (.byte, M * 32, .inl (fun q => sb_b (B q)))), (s, .inl (.int, M, .inl S)), (t, .inl (.int, M, .inl (freT T ids u)))]) 2 [(2, .int (nI u)), (0, .ref h), (1, .ref q)] [] := by
    intro fu2
    induction fu2 with
    | zero => intro u q1 hm2; exact absurd hm2 (Nat.not_lt_zero _)
    | succ fu2 ih2 =>
      intro u q1 hm2
      refine g_iload_n X d_BL_free_2 0 rfl ?_
      refine g_aload_n X d_BL_free_3 2 rfl ?_
      refine g_getN (k := 3) X d_BL_free_4 (hl_r 0 rfl hr9) rfl i_TB (by decide) k_fl_BL_55 (fun _ h => h) rfl ?_
      refine g_alen X d_BL_free_7 (hl_r 1 rfl hr9) ?_
      refine g_icmp_ge 39 X d_BL_free_8 (by decide) (fun h8 => ?_) (fun h8 => ?_)
      · have h8 := cv_le (by omega) (by omega) h8
        have e9 : u = m := by omega
        exact g_vret X hr d_BL_free_39 (Nat.le_of_ble_eq_true rfl) (Nat.le_of_ble_eq_true rfl) (⟨rfl, by rw [e9]⟩)
      · have h8 := cv_nle (by omega) (by omega) h8
        refine g_aload_n X d_BL_free_11 2 rfl ?_
        refine g_getN (k := 3) X d_BL_free_12 (hl_r 0 rfl hr9) rfl i_TB (by decide) k_fl_BL_55 (fun _ h => h) rfl ?_
        refine g_iload_n X d_BL_free_15 0 rfl ?_
        refine h_iald X d_BL_free_16 (hl_r 1 rfl hr9) (by omega) (by omega) ?_
        refine g_istore_n [(3, .int (nI (ids u))), (2, .int (nI u)), (0, .ref h), (1, .ref q)] X d_BL_free_17 (by decide) rfl ?_
        refine g_aload_n X d_BL_free_18 2 rfl ?_
        refine g_iload_n X d_BL_free_19 0 rfl ?_
        refine h_callV (As := [.int (nI (ids u))]) (st := []) [0, 1, 2, 3] [(h, .inr (0, [.ref y, .ref s, .ref t, .int w])), (y, .inl (.byte, M * 32, .inl (fun q => sb_b (B q)))), (s, .inl (.int, M, .inl S)), (t, .inl (.int, M, .inl (freT T ids u)))] X d_BL_free_20 (c_BL_has_in hst hn hB hM (hid u (by omega))) (hl_w 0 rfl hn) rfl rfl k_ml_BL_22 k_cd_BL_has k_in_BL k_im_BL_has k_se_BL_has ⟨by decide +kernel, by decide +kernel, (by decide +kernel : (parseMethodDescriptor y_BL_has.desc).map (fun d => d.parameters.length) = some 1)⟩ ⟨Nat.le_of_ble_eq_true rfl, Nat.le_of_ble_eq_true rfl⟩ ⟨Nat.le_of_ble_eq_true rfl, Nat.le_of_ble_eq_true rfl⟩ (Nat.le_of_ble_eq_true rfl) hn rfl rfl rfl hp_no hp_no2 ?_
        refine g_if_eq 33 X d_BL_free_23 (by decide) (fun h23 => ?_) (fun h23 => ?_)
        · have h23 := cv_e0 (by omega) h23
          exact absurd h23 (by decide)
        · have h23 := cv_n0 (by omega) h23
          refine g_aload_n X d_BL_free_26 2 rfl ?_
          refine g_getf (k := 2) X d_BL_free_27 (hl_w 0 rfl hn) rfl i_BL (by decide) k_fl_BL_19 (fun _ h => h) rfl ?_
          refine g_iload_n X d_BL_free_30 0 rfl ?_
          refine g_iconst (-1) X d_BL_free_31 (by decide) ?_
          refine h_iast 3 [(h, .inr (0, [.ref y, .ref s, .ref t, .int w])), (y, .inl (.byte, M * 32, .inl (fun q => sb_b (B q)))), (s, .inl (.int, M, .inl S)), (t, .inl (.int, M, .inl (va_up (freT T ids u) (ids u) (-1))))] X d_BL_free_32 hn rfl (hid u (by omega)) (by omega) rfl ?_
          refine g_iinc (nI (u + 1)) 1 [(2, .int (nI (u + 1))), (3, .int (nI (ids u))), (0, .ref h), (1, .ref q)] X d_BL_free_33 rfl (nI_1 _) (by decide) rfl ?_
          refine g_goto 2 X d_BL_free_36 (by decide) ?_
          refine g_lv [0, 2, 3] [(2, .int (nI (u + 1))), (0, .ref h), (1, .ref q)] rfl ?_
          exact ih2 (u + 1) (by omega) (by omega)
  exact L2 _ 0 (Nat.zero_le _) (Nat.lt_succ_self _)
