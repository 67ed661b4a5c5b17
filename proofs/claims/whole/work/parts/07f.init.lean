set_option maxRecDepth 100000 in
set_option maxHeartbeats 1000000 in
theorem c_RW_init {l : Launch} (hst : l.stackTraces = false) {h N : Nat} (hN : N ≤ 480) : fh_C l fhCl fhT y_RW_init (.code y_RW_init b_RW_init 2 none) 1 12 [.ref h, .int (nI N)] (hp [(h, .inr (2, [.null, .null, .null, .int (nI 0)]))]) (hp []) 3 1440 (fun z9 g9 => ∃ a b d : Nat, z9 = .inl none ∧ g9 = hp [(h, .inr (2, [.ref a, .ref b, .ref d, .int (nI 0)])), (a, .inl (.long, N, .inr (.inl (fun _ => 0)))), (b, .inl (.int, N, .inl (fun q => nI (((fun _ => 0)) q)))), (d, .inl (.long, N, .inr (.inl (fun _ => 0))))] ∧ [h, a, b, d].Nodup) := by
  refine fh_enter (by decide) hst (Nat.le_of_ble_eq_true rfl) ?_
  intro D mp me sm mm margs mbel mmet mcod X hr hnm hno hf0
  show fh_G mp l me (fh_rm 1 12 3 1440) sm mm margs mbel mmet mcod D fhCl (hp [(h, .inr (2, [.null, .null, .null, .int (nI 0)]))]) 2 _ 0 0 (hp [(h, .inr (2, [.null, .null, .null, .int (nI 0)]))]) 0 [(0, .ref h), (1, .int (nI N))] []
  refine g_aload_n X d_RW_init_0 0 rfl ?_
  refine g_objInit X d_RW_init_1 k_ml_RW_3 k_im_OB_init k_cd_OB_init (Nat.le_of_ble_eq_true rfl) (Nat.le_of_ble_eq_true rfl) ?_
  refine g_aload_n X d_RW_init_4 0 rfl ?_
  refine g_iload_n X d_RW_init_5 1 rfl ?_
  refine h_newa (N9 := N) (N, .inr (.inl (fun _ => 0))) X d_RW_init_6 (nd1 _) rfl k_ac_long (fun cA => iniL cA _) rfl (by omega) (Nat.le_of_ble_eq_true rfl) (Nat.le_trans (by omega : 0 + N ≤ 480) (Nat.le_of_ble_eq_true rfl)) (fun a hza h0a => ?_)
  refine g_hp (ws' := [(h, .inr (2, [.null, .null, .null, .int (nI 0)])), (a, .inl (.long, N, .inr (.inl (fun _ => 0))))]) rfl ?_
  have hna : [h, a].Nodup := hza
  refine g_widen (ce' := 1) (sl' := 480) (Nat.le_refl _) (by omega) ?_
  refine h_putF (k := 0) (ty := .array .long) 0 [(h, .inr (2, [.ref a, .null, .null, .int (nI 0)])), (a, .inl (.long, N, .inr (.inl (fun _ => 0))))] X d_RW_init_8 hna rfl rfl i_RW t_RW t_RW_ok n_RW (by decide) k_fl_RW_9 (fun _ h => h) rfl hnm rfl (by decide +kernel) rfl rfl (Nat.le_of_ble_eq_true rfl) rfl ?_
  refine g_aload_n X d_RW_init_11 0 rfl ?_
  refine g_iload_n X d_RW_init_12 1 rfl ?_
  refine h_newa (N9 := N) (N, .inl (fun q => nI (((fun _ => 0)) q))) X d_RW_init_13 hna rfl k_ac_int (fun cA => ini0 cA _) rfl (by omega) (Nat.le_of_ble_eq_true rfl) (Nat.le_trans (by omega : 480 + N ≤ 960) (Nat.le_of_ble_eq_true rfl)) (fun b hzb h0b => ?_)
  refine g_hp (ws' := [(h, .inr (2, [.ref a, .null, .null, .int (nI 0)])), (a, .inl (.long, N, .inr (.inl (fun _ => 0)))), (b, .inl (.int, N, .inl (fun q => nI (((fun _ => 0)) q))))]) rfl ?_
  have hnb : [h, a, b].Nodup := hzb
  refine g_widen (ce' := 2) (sl' := 960) (Nat.le_refl _) (by omega) ?_
  refine h_putF (k := 1) (ty := .array .int) 0 [(h, .inr (2, [.ref a, .ref b, .null, .int (nI 0)])), (a, .inl (.long, N, .inr (.inl (fun _ => 0)))), (b, .inl (.int, N, .inl (fun q => nI (((fun _ => 0)) q))))] X d_RW_init_15 hnb rfl rfl i_RW t_RW t_RW_ok n_RW (by decide) k_fl_RW_15 (fun _ h => h) rfl hnm rfl (by decide +kernel) rfl rfl (Nat.le_of_ble_eq_true rfl) rfl ?_
  refine g_aload_n X d_RW_init_18 0 rfl ?_
  refine g_iload_n X d_RW_init_19 1 rfl ?_
  refine h_newa (N9 := N) (N, .inr (.inl (fun _ => 0))) X d_RW_init_20 hnb rfl k_ac_long (fun cA => iniL cA _) rfl (by omega) (Nat.le_of_ble_eq_true rfl) (Nat.le_trans (by omega : 960 + N ≤ 1440) (Nat.le_of_ble_eq_true rfl)) (fun d hzd h0d => ?_)
  refine g_hp (ws' := [(h, .inr (2, [.ref a, .ref b, .null, .int (nI 0)])), (a, .inl (.long, N, .inr (.inl (fun _ => 0)))), (b, .inl (.int, N, .inl (fun q => nI (((fun _ => 0)) q)))), (d, .inl (.long, N, .inr (.inl (fun _ => 0))))]) rfl ?_
  have hnd : [h, a, b, d].Nodup := hzd
  refine g_widen (ce' := 3) (sl' := 1440) (Nat.le_refl _) (by omega) ?_
  refine h_putF (k := 2) (ty := .array .long) 0 [(h, .inr (2, [.ref a, .ref b, .ref d, .int (nI 0)])), (a, .inl (.long, N, .inr (.inl (fun _ => 0)))), (b, .inl (.int, N, .inl (fun q => nI (((fun _ => 0)) q)))), (d, .inl (.long, N, .inr (.inl (fun _ => 0))))] X d_RW_init_22 hnd rfl rfl i_RW t_RW t_RW_ok n_RW (by decide) k_fl_RW_19 (fun _ h => h) rfl hnm rfl (by decide +kernel) rfl rfl (Nat.le_of_ble_eq_true rfl) rfl ?_
  exact g_vret X hr d_RW_init_25 (Nat.le_of_ble_eq_true rfl) (Nat.le_of_ble_eq_true rfl) (⟨a, b, d, rfl, rfl, hnd⟩)

set_option maxRecDepth 100000 in
set_option maxHeartbeats 1000000 in
theorem c_ER_init {l : Launch} (hst : l.stackTraces = false) {h : Nat} : fh_C l fhCl fhT y_ER_init (.code y_ER_init b_ER_init 1 none) 1 12 [.ref h] (hp []) (hp []) 0 0 (fh_ret none []) := by
  refine fh_enter (by decide) hst (Nat.le_of_ble_eq_true rfl) ?_
  intro D mp me sm mm margs mbel mmet mcod X hr hnm hno hf0
  show fh_G mp l me (fh_rm 1 12 0 0) sm mm margs mbel mmet mcod D fhCl (hp []) 1 _ 0 0 (hp []) 0 [(0, .ref h)] []
  refine g_aload_n X d_ER_init_0 0 rfl ?_
  refine g_objInit X d_ER_init_1 k_ml_ER_3 k_im_OB_init k_cd_OB_init (Nat.le_of_ble_eq_true rfl) (Nat.le_of_ble_eq_true rfl) ?_
  exact g_vret X hr d_ER_init_4 (Nat.le_of_ble_eq_true rfl) (Nat.le_of_ble_eq_true rfl) (⟨rfl, rfl⟩)

set_option maxRecDepth 100000 in
set_option maxHeartbeats 1000000 in
theorem c_LG_init {l : Launch} (hst : l.stackTraces = false) {h : Nat} : fh_C l fhCl fhT y_LG_init (.code y_LG_init b_LG_init 1 none) 2 32 [.ref h] (hp [(h, .inr (1, [.null, .int (nI 0), .int (nI 0), .int (nI 0), .long 0, .int (nI 0), .long 0]))]) (hp []) 1 1024 (fun z9 g9 => ∃ b : Nat, z9 = .inl none ∧ g9 = hp [(h, .inr (1, [.ref b, .int (nI 0), .int (nI 0), .int (nI 0), .long 0, .int (nI 0), .long 0])), (b, .inl (.byte, 1024, .inl (fun q => sb_b (((fun _ => 0)) q))))] ∧ [h, b].Nodup) := by
  refine fh_enter (by decide) hst (Nat.le_of_ble_eq_true rfl) ?_
  intro D mp me sm mm margs mbel mmet mcod X hr hnm hno hf0
  show fh_G mp l me (fh_rm 2 32 1 1024) sm mm margs mbel mmet mcod D fhCl (hp [(h, .inr (1, [.null, .int (nI 0), .int (nI 0), .int (nI 0), .long 0, .int (nI 0), .long 0]))]) 1 _ 0 0 (hp [(h, .inr (1, [.null, .int (nI 0), .int (nI 0), .int (nI 0), .long 0, .int (nI 0), .long 0]))]) 0 [(0, .ref h)] []
  refine g_aload_n X d_LG_init_0 0 rfl ?_
  refine h_callIN (As := []) (st := []) [] [(h, .inr (1, [.null, .int (nI 0), .int (nI 0), .int (nI 0), .long 0, .int (nI 0), .long 0]))] X d_LG_init_1 (c_ER_init hst) rfl k_ml_LG_3 k_cd_ER_init k_in_ER k_im_ER_init rfl ⟨by decide +kernel, by decide +kernel, (by decide +kernel : (parseMethodDescriptor y_ER_init.desc).map (fun d => d.parameters.length) = some 0)⟩ ⟨Nat.le_of_ble_eq_true rfl, Nat.le_of_ble_eq_true rfl⟩ ⟨Nat.le_of_ble_eq_true rfl, Nat.le_of_ble_eq_true rfl⟩ (Nat.le_of_ble_eq_true rfl) (nd1 _) rfl rfl rfl hp_no hp_no2 ?_
  refine g_aload_n X d_LG_init_4 0 rfl ?_
  refine g_sipush (nI 1024) X d_LG_init_5 (by decide) ?_
  refine h_newa (N9 := 1024) (1024, .inl (fun q => sb_b (((fun _ => 0)) q))) X d_LG_init_8 (nd1 _) rfl k_ac_byte (fun cA => iniB cA _) rfl (by omega) (Nat.le_of_ble_eq_true rfl) (Nat.le_trans (by omega : 0 + 1024 ≤ 1024) (Nat.le_of_ble_eq_true rfl)) (fun b hzb h0b => ?_)
  refine g_hp (ws' := [(h, .inr (1, [.null, .int (nI 0), .int (nI 0), .int (nI 0), .long 0, .int (nI 0), .long 0])), (b, .inl (.byte, 1024, .inl (fun q => sb_b (((fun _ => 0)) q))))]) rfl ?_
  have hnb : [h, b].Nodup := hzb
  refine g_widen (ce' := 1) (sl' := 1024) (Nat.le_refl _) (by omega) ?_
  refine h_putF (k := 0) (ty := .array .byte) 0 [(h, .inr (1, [.ref b, .int (nI 0), .int (nI 0), .int (nI 0), .long 0, .int (nI 0), .long 0])), (b, .inl (.byte, 1024, .inl (fun q => sb_b (((fun _ => 0)) q))))] X d_LG_init_10 hnb rfl rfl i_LG t_LG t_LG_ok n_LG (by decide) k_fl_LG_9 (fun _ h => h) rfl hnm rfl (by decide +kernel) rfl rfl (Nat.le_of_ble_eq_true rfl) rfl ?_
  exact g_vret X hr d_LG_init_13 (Nat.le_of_ble_eq_true rfl) (Nat.le_of_ble_eq_true rfl) (⟨b, rfl, rfl, hnb⟩)

set_option maxRecDepth 100000 in
set_option maxHeartbeats 1000000 in
theorem c_TR_init {l : Launch} (hst : l.stackTraces = false) {h b : Nat} : fh_C l fhCl fhT y_TR_init (.code y_TR_init b_TR_init 2 none) 2 32 [.ref h, .ref b] (hp [(h, .inr (4, [.null, .null, .int (nI 0), .int (nI 0), .int 0, .long 0, .int (nI 0), .long 0]))]) (hp []) 0 0 (fh_ret none [(h, .inr (4, [.ref b, .null, .int (nI 0), .int (nI 0), .int (-1), .long 0, .int (nI 0), .long 0]))]) := by
  refine fh_enter (by decide) hst (Nat.le_of_ble_eq_true rfl) ?_
  intro D mp me sm mm margs mbel mmet mcod X hr hnm hno hf0
  show fh_G mp l me (fh_rm 2 32 0 0) sm mm margs mbel mmet mcod D fhCl (hp [(h, .inr (4, [.null, .null, .int (nI 0), .int (nI 0), .int 0, .long 0, .int (nI 0), .long 0]))]) 2 _ 0 0 (hp [(h, .inr (4, [.null, .null, .int (nI 0), .int (nI 0), .int 0, .long 0, .int (nI 0), .long 0]))]) 0 [(0, .ref h), (1, .ref b)] []
  refine g_aload_n X d_TR_init_0 0 rfl ?_
  refine h_callIN (As := []) (st := []) [] [(h, .inr (4, [.null, .null, .int (nI 0), .int (nI 0), .int 0, .long 0, .int (nI 0), .long 0]))] X d_TR_init_1 (c_ER_init hst) rfl k_ml_TR_3 k_cd_ER_init k_in_ER k_im_ER_init rfl ⟨by decide +kernel, by decide +kernel, (by decide +kernel : (parseMethodDescriptor y_ER_init.desc).map (fun d => d.parameters.length) = some 0)⟩ ⟨Nat.le_of_ble_eq_true rfl, Nat.le_of_ble_eq_true rfl⟩ ⟨Nat.le_of_ble_eq_true rfl, Nat.le_of_ble_eq_true rfl⟩ (Nat.le_of_ble_eq_true rfl) (nd1 _) rfl rfl rfl hp_no hp_no2 ?_
  refine g_aload_n X d_TR_init_4 0 rfl ?_
  refine g_aload_n X d_TR_init_5 1 rfl ?_
  refine h_putF (k := 0) (ty := .object "RunStore$Blocks") 0 [(h, .inr (4, [.ref b, .null, .int (nI 0), .int (nI 0), .int 0, .long 0, .int (nI 0), .long 0]))] X d_TR_init_6 (nd1 _) rfl rfl i_TR t_TR t_TR_ok n_TR (by decide) k_fl_TR_9 (fun _ h => h) rfl hnm rfl (by decide +kernel) rfl rfl (Nat.le_of_ble_eq_true rfl) rfl ?_
  refine g_aload_n X d_TR_init_9 0 rfl ?_
  refine g_iconst (-1) X d_TR_init_10 (by decide) ?_
  refine h_putf (k := 4) (ty := .int) 0 [(h, .inr (4, [.ref b, .null, .int (nI 0), .int (nI 0), .int (-1), .long 0, .int (nI 0), .long 0]))] X d_TR_init_11 (nd1 _) rfl rfl i_TR t_TR t_TR_ok n_TR (by decide) k_fl_TR_15 (fun _ h => h) rfl (by decide +kernel) rfl rfl (Nat.le_of_ble_eq_true rfl) rfl ?_
  exact g_vret X hr d_TR_init_14 (Nat.le_of_ble_eq_true rfl) (Nat.le_of_ble_eq_true rfl) (⟨rfl, rfl⟩)

set_option maxRecDepth 100000 in
set_option maxHeartbeats 1000000 in
theorem c_BL_init {l : Launch} (hst : l.stackTraces = false) {h M : Nat} (hM : M ≤ 128) : fh_C l fhCl fhT y_BL_init (.code y_BL_init b_BL_init 3 none) 1 12 [.ref h, .int (nI M)] (hp [(h, .inr (0, [.null, .null, .null, .int 0]))]) (hp []) 3 4352 (fun z9 g9 => ∃ y s t : Nat, z9 = .inl none ∧ g9 = hp [(h, .inr (0, [.ref y, .ref s, .ref t, .int 0])), (y, .inl (.byte, M * 32, .inl (fun q => sb_b (((fun _ => 0)) q)))), (s, .inl (.int, M, .inl (fun _ => 0))), (t, .inl (.int, M, .inl (ng M)))] ∧ [h, y, s, t].Nodup) := by
  refine fh_enter (by decide) hst (Nat.le_of_ble_eq_true rfl) ?_
  intro D mp me sm mm margs mbel mmet mcod X hr hnm hno hf0
  show fh_G mp l me (fh_rm 1 12 3 4352) sm mm margs mbel mmet mcod D fhCl (hp [(h, .inr (0, [.null, .null, .null, .int 0]))]) 3 _ 0 0 (hp [(h, .inr (0, [.null, .null, .null, .int 0]))]) 0 [(0, .ref h), (1, .int (nI M))] []
  refine g_aload_n X d_BL_init_0 0 rfl ?_
  refine g_objInit X d_BL_init_1 k_ml_BL_3 k_im_OB_init k_cd_OB_init (Nat.le_of_ble_eq_true rfl) (Nat.le_of_ble_eq_true rfl) ?_
  refine g_aload_n X d_BL_init_4 0 rfl ?_
  refine g_iload_n X d_BL_init_5 1 rfl ?_
  refine g_bipush (nI 32) X d_BL_init_6 (by decide) ?_
  refine g_imul X d_BL_init_8 ?_
  refine g_vi (nI (M * 32)) (pk_mul _ _) ?_
  refine h_newa (N9 := M * 32) (M * 32, .inl (fun q => sb_b (((fun _ => 0)) q))) X d_BL_init_9 (nd1 _) rfl k_ac_byte (fun cA => iniB cA _) rfl (by omega) (Nat.le_of_ble_eq_true rfl) (Nat.le_trans (by omega : 0 + (M * 32) ≤ 4096) (Nat.le_of_ble_eq_true rfl)) (fun y hzy h0y => ?_)
  refine g_hp (ws' := [(h, .inr (0, [.null, .null, .null, .int 0])), (y, .inl (.byte, M * 32, .inl (fun q => sb_b (((fun _ => 0)) q))))]) rfl ?_
  have hny : [h, y].Nodup := hzy
  refine g_widen (ce' := 1) (sl' := 4096) (Nat.le_refl _) (by omega) ?_
  refine h_putF (k := 0) (ty := .array .byte) 0 [(h, .inr (0, [.ref y, .null, .null, .int 0])), (y, .inl (.byte, M * 32, .inl (fun q => sb_b (((fun _ => 0)) q))))] X d_BL_init_11 hny rfl rfl i_BL t_BL t_BL_ok n_BL (by decide) k_fl_BL_9 (fun _ h => h) rfl hnm rfl (by decide +kernel) rfl rfl (Nat.le_of_ble_eq_true rfl) rfl ?_
  refine g_aload_n X d_BL_init_14 0 rfl ?_
  refine g_iload_n X d_BL_init_15 1 rfl ?_
  refine h_newa (N9 := M) (M, .inl (fun _ => 0)) X d_BL_init_16 hny rfl k_ac_int (fun cA => iniI cA _) rfl (by omega) (Nat.le_of_ble_eq_true rfl) (Nat.le_trans (by omega : 4096 + M ≤ 4224) (Nat.le_of_ble_eq_true rfl)) (fun s hzs h0s => ?_)
  refine g_hp (ws' := [(h, .inr (0, [.ref y, .null, .null, .int 0])), (y, .inl (.byte, M * 32, .inl (fun q => sb_b (((fun _ => 0)) q)))), (s, .inl (.int, M, .inl (fun _ => 0)))]) rfl ?_
  have hns : [h, y, s].Nodup := hzs
  refine g_widen (ce' := 2) (sl' := 4224) (Nat.le_refl _) (by omega) ?_
  refine h_putF (k := 1) (ty := .array .int) 0 [(h, .inr (0, [.ref y, .ref s, .null, .int 0])), (y, .inl (.byte, M * 32, .inl (fun q => sb_b (((fun _ => 0)) q)))), (s, .inl (.int, M, .inl (fun _ => 0)))] X d_BL_init_18 hns rfl rfl i_BL t_BL t_BL_ok n_BL (by decide) k_fl_BL_15 (fun _ h => h) rfl hnm rfl (by decide +kernel) rfl rfl (Nat.le_of_ble_eq_true rfl) rfl ?_
  refine g_aload_n X d_BL_init_21 0 rfl ?_
  refine g_iload_n X d_BL_init_22 1 rfl ?_
  refine h_newa (N9 := M) (M, .inl (fun _ => 0)) X d_BL_init_23 hns rfl k_ac_int (fun cA => iniI cA _) rfl (by omega) (Nat.le_of_ble_eq_true rfl) (Nat.le_trans (by omega : 4224 + M ≤ 4352) (Nat.le_of_ble_eq_true rfl)) (fun t hzt h0t => ?_)
  refine g_hp (ws' := [(h, .inr (0, [.ref y, .ref s, .null, .int 0])), (y, .inl (.byte, M * 32, .inl (fun q => sb_b (((fun _ => 0)) q)))), (s, .inl (.int, M, .inl (fun _ => 0))), (t, .inl (.int, M, .inl (fun _ => 0)))]) rfl ?_
  have hnt : [h, y, s, t].Nodup := hzt
  refine g_widen (ce' := 3) (sl' := 4352) (Nat.le_refl _) (by omega) ?_
  refine h_putF (k := 2) (ty := .array .int) 0 [(h, .inr (0, [.ref y, .ref s, .ref t, .int 0])), (y, .inl (.byte, M * 32, .inl (fun q => sb_b (((fun _ => 0)) q)))), (s, .inl (.int, M, .inl (fun _ => 0))), (t, .inl (.int, M, .inl (fun _ => 0)))] X d_BL_init_25 hnt rfl rfl i_BL t_BL t_BL_ok n_BL (by decide) k_fl_BL_19 (fun _ h => h) rfl hnm rfl (by decide +kernel) rfl rfl (Nat.le_of_ble_eq_true rfl) rfl ?_
  refine g_hp (ws' := [(h, .inr (0, [.ref y, .ref s, .ref t, .int 0])), (y, .inl (.byte, M * 32, .inl (fun q => sb_b (((fun _ => 0)) q)))), (s, .inl (.int, M, .inl (fun _ => 0))), (t, .inl (.int, M, .inl (ng 0)))]) (by rw [← ng_0]) ?_
  refine g_iconst (nI 0) X d_BL_init_28 (by decide) ?_
  refine g_istore_n [(2, .int (nI 0)), (0, .ref h), (1, .int (nI M))] X d_BL_init_29 (by decide) rfl ?_
  have L30 : ∀ (fu30 : Nat) (u : Nat), (u ≤ M) → M - u < fu30 → fh_G mp l me (fh_rm 1 12 3 4352) sm mm margs mbel mmet mcod D fhCl (hp [(h, .inr (0, [.null, .null, .null, .int 0]))]) 3 (fh_MQ mbel D fhCl (hp [(h, .inr (0, [.null, .null, .null, .int 0]))]) (fun z9 g9 => ∃ y s t : Nat, z9 = .inl none ∧ g9 = hp [(h, .inr (0, [.ref y, .ref s, .ref t, .int 0])), (y, .inl (.byte, M * 32, .inl (fun q => sb_b (((fun _ => 0)) q)))), (s, .inl (.int, M, .inl (fun _ => 0))), (t, .inl (.int, M, .inl (ng M)))] ∧ [h, y, s, t].Nodup) margs sm 3 4352) 3 4352 (hp [(h, .inr (0, [.ref y, .ref s, .ref t, .int 0])), (y, .inl (.byte, M * 32, .inl (fun q => sb_b (((fun _ => 0)) q)))), (s, .inl (.int, M, .inl (fun _ => 0))), (t, .inl (.int, M, .inl (ng u)))]) 30 [(2, .int (nI u)), (0, .ref h), (1, .int (nI M))] [] := by
    intro fu30
    induction fu30 with
    | zero => intro u q1 hm30; exact absurd hm30 (Nat.not_lt_zero _)
    | succ fu30 ih30 =>
      intro u q1 hm30
      refine g_iload_n X d_BL_init_30 0 rfl ?_
      refine g_iload_n X d_BL_init_31 2 rfl ?_
      refine g_icmp_ge 48 X d_BL_init_32 (by decide) (fun h32 => ?_) (fun h32 => ?_)
      · have h32 := cv_le (by omega) (by omega) h32
        have e9 : u = M := by omega
        exact g_vret X hr d_BL_init_48 (Nat.le_of_ble_eq_true rfl) (Nat.le_of_ble_eq_true rfl) (⟨y, s, t, rfl, by rw [e9], hnt⟩)
      · have h32 := cv_nle (by omega) (by omega) h32
        refine g_aload_n X d_BL_init_35 1 rfl ?_
        refine g_getf (k := 2) X d_BL_init_36 (hl_w 0 rfl hnt) rfl i_BL (by decide) k_fl_BL_19 (fun _ h => h) rfl ?_
        refine g_iload_n X d_BL_init_39 0 rfl ?_
        refine g_iconst (-1) X d_BL_init_40 (by decide) ?_
        refine h_iast 3 [(h, .inr (0, [.ref y, .ref s, .ref t, .int 0])), (y, .inl (.byte, M * 32, .inl (fun q => sb_b (((fun _ => 0)) q)))), (s, .inl (.int, M, .inl (fun _ => 0))), (t, .inl (.int, M, .inl (va_up (ng u) u (-1))))] X d_BL_init_41 hnt rfl (by omega) (by omega) rfl ?_
        refine g_iinc (nI (u + 1)) 0 [(2, .int (nI (u + 1))), (0, .ref h), (1, .int (nI M))] X d_BL_init_42 rfl (nI_1 _) (by decide) rfl ?_
        refine g_goto 30 X d_BL_init_45 (by decide) ?_
        refine g_hp (ws' := [(h, .inr (0, [.ref y, .ref s, .ref t, .int 0])), (y, .inl (.byte, M * 32, .inl (fun q => sb_b (((fun _ => 0)) q)))), (s, .inl (.int, M, .inl (fun _ => 0))), (t, .inl (.int, M, .inl (ng (u + 1))))]) (by rw [← ng_s]) ?_
        exact ih30 (u + 1) (by omega) (by omega)
  exact L30 _ 0 (Nat.zero_le _) (Nat.lt_succ_self _)
