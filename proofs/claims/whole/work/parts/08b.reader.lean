set_option maxRecDepth 100000 in
set_option maxHeartbeats 1000000 in
theorem c_TR_start {l : Launch} (hst : l.stackTraces = false) {g h q p sz : Nat} {bi b0 : Bool} {ft : Int32} {ke va : Int64} {v0 : Value} : fh_C l fhCl fhT y_TR_start (.code y_TR_start b_TR_start 3 none) 0 0 [.ref g, .ref q, .int (nI (b2n bi))] (hp [(g, .inr (4, [.ref h, v0, .int (nI (b2n b0)), .int (nI p), .int ft, .long ke, .int (nI sz), .long va]))]) (hp []) 0 0 (fh_ret none [(g, .inr (4, [.ref h, .ref q, .int (nI (b2n bi)), .int (nI 0), .int (-1), .long ke, .int (nI sz), .long va]))]) := by
  refine fh_enter (by decide) hst (Nat.le_of_ble_eq_true rfl) ?_
  intro D mp me sm mm margs mbel mmet mcod X hr hnm hno hf0
  show fh_G mp l me (fh_rm 0 0 0 0) sm mm margs mbel mmet mcod D fhCl (hp [(g, .inr (4, [.ref h, v0, .int (nI (b2n b0)), .int (nI p), .int ft, .long ke, .int (nI sz), .long va]))]) 3 _ 0 0 (hp [(g, .inr (4, [.ref h, v0, .int (nI (b2n b0)), .int (nI p), .int ft, .long ke, .int (nI sz), .long va]))]) 0 [(0, .ref g), (1, .ref q), (2, .int (nI (b2n bi)))] []
  refine g_aload_n X d_TR_start_0 0 rfl ?_
  refine g_aload_n X d_TR_start_1 1 rfl ?_
  refine h_putf (k := 1) (ty := .object "RunStore$Table") 0 [(g, .inr (4, [.ref h, .ref q, .int (nI (b2n b0)), .int (nI p), .int ft, .long ke, .int (nI sz), .long va]))] X d_TR_start_2 (nd1 _) rfl rfl i_TR t_TR t_TR_ok n_TR (by decide) k_fl_TR_19 (fun _ h => h) rfl (by decide +kernel) rfl rfl (Nat.le_of_ble_eq_true rfl) rfl ?_
  refine g_aload_n X d_TR_start_5 0 rfl ?_
  refine g_iload_n X d_TR_start_6 2 rfl ?_
  refine h_putf (k := 2) (ty := .boolean) 0 [(g, .inr (4, [.ref h, .ref q, .int (nI (b2n bi)), .int (nI p), .int ft, .long ke, .int (nI sz), .long va]))] X d_TR_start_7 (nd1 _) rfl rfl i_TR t_TR t_TR_ok n_TR (by decide) k_fl_TR_23 (fun _ h => h) rfl (by decide +kernel) (nar_b2n _) (fits_b2n _) (Nat.le_of_ble_eq_true rfl) rfl ?_
  refine g_aload_n X d_TR_start_10 0 rfl ?_
  refine g_iconst (nI 0) X d_TR_start_11 (by decide) ?_
  refine h_putf (k := 3) (ty := .int) 0 [(g, .inr (4, [.ref h, .ref q, .int (nI (b2n bi)), .int (nI 0), .int ft, .long ke, .int (nI sz), .long va]))] X d_TR_start_12 (nd1 _) rfl rfl i_TR t_TR t_TR_ok n_TR (by decide) k_fl_TR_27 (fun _ h => h) rfl (by decide +kernel) rfl rfl (Nat.le_of_ble_eq_true rfl) rfl ?_
  refine g_aload_n X d_TR_start_15 0 rfl ?_
  refine g_iconst (-1) X d_TR_start_16 (by decide) ?_
  refine h_putf (k := 4) (ty := .int) 0 [(g, .inr (4, [.ref h, .ref q, .int (nI (b2n bi)), .int (nI 0), .int (-1), .long ke, .int (nI sz), .long va]))] X d_TR_start_17 (nd1 _) rfl rfl i_TR t_TR t_TR_ok n_TR (by decide) k_fl_TR_15 (fun _ h => h) rfl (by decide +kernel) rfl rfl (Nat.le_of_ble_eq_true rfl) rfl ?_
  exact g_vret X hr d_TR_start_20 (Nat.le_of_ble_eq_true rfl) (Nat.le_of_ble_eq_true rfl) (⟨rfl, rfl⟩)

set_option maxRecDepth 100000 in
set_option maxHeartbeats 1000000 in
theorem c_TR_nextByte_end {l : Launch} (hst : l.stackTraces = false) {g h y s t M p sz : Nat} {bi : Bool} {w ft : Int32} {ke va : Int64} {S T : Nat → Int32} {B : Nat → Nat} {q ia lev ent m : Nat} {F : Int64} {ids : Nat → Nat} (hn : [g, h, y, s, t].Nodup) (hB : ∀ q, B q < 256) (hM : M ≤ 128) (hr9 : [q, ia].Nodup) (hm : m ≤ 128) (hm1 : 1 ≤ m) (hid : ∀ k, k < m → ids k < M) (hp20 : p < 2 ^ 20) (hout : m ≤ p / 32) : fh_C l fhCl fhT y_TR_nextByte (.code y_TR_nextByte b_TR_nextByte 3 (some .int)) 2 46 [.ref g] (hp [(g, .inr (4, [.ref h, .ref q, .int (nI (b2n bi)), .int (nI p), .int ft, .long ke, .int (nI sz), .long va])), (h, .inr (0, [.ref y, .ref s, .ref t, .int w])), (y, .inl (.byte, M * 32, .inl (fun q => sb_b (B q)))), (s, .inl (.int, M, .inl S)), (t, .inl (.int, M, .inl T))]) (hp [(q, .inr (3, [.int (nI lev), .int (nI ent), .long F, .ref ia])), (ia, .inl (.int, m, .inl (fun q => nI (ids q))))]) 0 0 (fh_ret (some (.int (-1))) [(g, .inr (4, [.ref h, .ref q, .int (nI (b2n bi)), .int (nI p), .int (nI (ids (m - 1))), .long ke, .int (nI sz), .long va])), (h, .inr (0, [.ref y, .ref s, .ref t, .int w])), (y, .inl (.byte, M * 32, .inl (fun q => sb_b (B q)))), (s, .inl (.int, M, .inl S)), (t, .inl (.int, M, .inl T))]) := by
  refine fh_enter (by decide) hst (Nat.le_of_ble_eq_true rfl) ?_
  intro D mp me sm mm margs mbel mmet mcod X hr hnm hno hf0
  show fh_G mp l me (fh_rm 2 46 0 0) sm mm margs mbel mmet mcod D fhCl (hp [(g, .inr (4, [.ref h, .ref q, .int (nI (b2n bi)), .int (nI p), .int ft, .long ke, .int (nI sz), .long va])), (h, .inr (0, [.ref y, .ref s, .ref t, .int w])), (y, .inl (.byte, M * 32, .inl (fun q => sb_b (B q)))), (s, .inl (.int, M, .inl S)), (t, .inl (.int, M, .inl T))]) 3 _ 0 0 (hp [(g, .inr (4, [.ref h, .ref q, .int (nI (b2n bi)), .int (nI p), .int ft, .long ke, .int (nI sz), .long va])), (h, .inr (0, [.ref y, .ref s, .ref t, .int w])), (y, .inl (.byte, M * 32, .inl (fun q => sb_b (B q)))), (s, .inl (.int, M, .inl S)), (t, .inl (.int, M, .inl T))]) 0 [(0, .ref g)] []
  have hn1 : [h, y, s, t].Nodup := (List.Nodup.sublist (by repeat first | exact List.nil_sublist _ | apply List.Sublist.cons₂ | apply List.Sublist.cons) hn)
  refine g_aload_n X d_TR_nextByte_0 0 rfl ?_
  refine g_getf (k := 1) X d_TR_nextByte_1 (hl_w 0 rfl hn) rfl i_TR (by decide) k_fl_TR_19 (fun _ h => h) rfl ?_
  refine g_ifnonnull 9 X d_TR_nextByte_4 (by decide) ?_
  refine g_aload_n X d_TR_nextByte_9 0 rfl ?_
  refine g_getf (k := 1) X d_TR_nextByte_10 (hl_w 0 rfl hn) rfl i_TR (by decide) k_fl_TR_19 (fun _ h => h) rfl ?_
  refine g_aload_n X d_TR_nextByte_13 0 rfl ?_
  refine g_getf (k := 3) X d_TR_nextByte_14 (hl_w 0 rfl hn) rfl i_TR (by decide) k_fl_TR_27 (fun _ h => h) rfl ?_
  refine g_bipush (nI 32) X d_TR_nextByte_17 (by decide) ?_
  refine g_idiv X d_TR_nextByte_19 (by decide) ?_
  refine g_vi (nI (p / 32)) (pk_div (by omega) (by omega) (by omega)) ?_
  refine h_callVr (As := [.int (nI (p / 32))]) (st := []) [] [(g, .inr (4, [.ref h, .ref q, .int (nI (b2n bi)), .int (nI p), .int ft, .long ke, .int (nI sz), .long va])), (h, .inr (0, [.ref y, .ref s, .ref t, .int w])), (y, .inl (.byte, M * 32, .inl (fun q => sb_b (B q)))), (s, .inl (.int, M, .inl S)), (t, .inl (.int, M, .inl T))] X d_TR_nextByte_20 (c_TB_idAt_out hst hr9 hm hout (by omega)) (hl_r 0 rfl hr9) rfl rfl k_ml_TR_59 k_cd_TB_idAt k_in_TB k_im_TB_idAt k_se_TB_idAt ⟨by decide +kernel, by decide +kernel, (by decide +kernel : (parseMethodDescriptor y_TB_idAt.desc).map (fun d => d.parameters.length) = some 1)⟩ ⟨Nat.le_of_ble_eq_true rfl, Nat.le_of_ble_eq_true rfl⟩ ⟨Nat.le_of_ble_eq_true rfl, Nat.le_of_ble_eq_true rfl⟩ (Nat.le_of_ble_eq_true rfl) hn rfl rfl rfl (fun q9 x9 h9 => h9) ?_
  refine g_istore_n [(1, .int (-1)), (0, .ref g)] X d_TR_nextByte_23 (by decide) rfl ?_
  refine g_iload_n X d_TR_nextByte_24 0 rfl ?_
  refine g_iconst (-1) X d_TR_nextByte_25 (by decide) ?_
  refine g_icmp_ne 52 X d_TR_nextByte_26 (by decide) (fun h26 => ?_) (fun h26 => ?_)
  · exact absurd rfl h26
  · refine g_aload_n X d_TR_nextByte_29 1 rfl ?_
    refine g_aload_n X d_TR_nextByte_30 1 rfl ?_
    refine g_getf (k := 1) X d_TR_nextByte_31 (hl_w 0 rfl hn) rfl i_TR (by decide) k_fl_TR_19 (fun _ h => h) rfl ?_
    refine g_aload_n X d_TR_nextByte_34 1 rfl ?_
    refine g_getf (k := 1) X d_TR_nextByte_35 (hl_w 0 rfl hn) rfl i_TR (by decide) k_fl_TR_19 (fun _ h => h) rfl ?_
    refine g_getN (k := 3) X d_TR_nextByte_38 (hl_r 0 rfl hr9) rfl i_TB (by decide) k_fl_TR_63 (fun _ h => h) rfl ?_
    refine g_alen X d_TR_nextByte_41 (hl_r 1 rfl hr9) ?_
    refine g_iconst (nI 1) X d_TR_nextByte_42 (by decide) ?_
    refine g_isub X d_TR_nextByte_43 ?_
    refine g_vi (nI (m - 1)) (pk_sub (by omega)) ?_
    refine h_callVr (As := [.int (nI (m - 1))]) (st := [.ref g]) [] [(g, .inr (4, [.ref h, .ref q, .int (nI (b2n bi)), .int (nI p), .int ft, .long ke, .int (nI sz), .long va])), (h, .inr (0, [.ref y, .ref s, .ref t, .int w])), (y, .inl (.byte, M * 32, .inl (fun q => sb_b (B q)))), (s, .inl (.int, M, .inl S)), (t, .inl (.int, M, .inl T))] X d_TR_nextByte_44 (c_TB_idAt_in hst hr9 hm (by omega)) (hl_r 0 rfl hr9) rfl rfl k_ml_TR_59 k_cd_TB_idAt k_in_TB k_im_TB_idAt k_se_TB_idAt ⟨by decide +kernel, by decide +kernel, (by decide +kernel : (parseMethodDescriptor y_TB_idAt.desc).map (fun d => d.parameters.length) = some 1)⟩ ⟨Nat.le_of_ble_eq_true rfl, Nat.le_of_ble_eq_true rfl⟩ ⟨Nat.le_of_ble_eq_true rfl, Nat.le_of_ble_eq_true rfl⟩ (Nat.le_of_ble_eq_true rfl) hn rfl rfl rfl (fun q9 x9 h9 => h9) ?_
    refine h_putf (k := 4) (ty := .int) 0 [(g, .inr (4, [.ref h, .ref q, .int (nI (b2n bi)), .int (nI p), .int (nI (ids (m - 1))), .long ke, .int (nI sz), .long va])), (h, .inr (0, [.ref y, .ref s, .ref t, .int w])), (y, .inl (.byte, M * 32, .inl (fun q => sb_b (B q)))), (s, .inl (.int, M, .inl S)), (t, .inl (.int, M, .inl T))] X d_TR_nextByte_47 hn rfl rfl i_TR t_TR t_TR_ok n_TR (by decide) k_fl_TR_15 (fun _ h => h) rfl (by decide +kernel) rfl rfl (Nat.le_of_ble_eq_true rfl) rfl ?_
    refine g_iconst (-1) X d_TR_nextByte_50 (by decide) ?_
    exact g_iret X hr d_TR_nextByte_51 (Nat.le_of_ble_eq_true rfl) (Nat.le_of_ble_eq_true rfl) (⟨rfl, rfl⟩)

set_option maxRecDepth 100000 in
set_option maxHeartbeats 1000000 in
theorem c_TR_nextByte_bad {l : Launch} (hst : l.stackTraces = false) {g h y s t M p sz : Nat} {bi : Bool} {w ft : Int32} {ke va : Int64} {S T : Nat → Int32} {B : Nat → Nat} {q ia lev ent m : Nat} {F : Int64} {ids : Nat → Nat} (hn : [g, h, y, s, t].Nodup) (hB : ∀ q, B q < 256) (hM : M ≤ 128) (hr9 : [q, ia].Nodup) (hm : m ≤ 128) (hm1 : 1 ≤ m) (hid : ∀ k, k < m → ids k < M) (hp20 : p < 2 ^ 20) (hin : p / 32 < m) (hbi : bi = true) (hp0 : p % 32 = 0) (hbad : rgt S T B (ids (p / 32)) = false) : fh_C l fhCl fhT y_TR_nextByte (.code y_TR_nextByte b_TR_nextByte 3 (some .int)) 2 46 [.ref g] (hp [(g, .inr (4, [.ref h, .ref q, .int (nI (b2n bi)), .int (nI p), .int ft, .long ke, .int (nI sz), .long va])), (h, .inr (0, [.ref y, .ref s, .ref t, .int w])), (y, .inl (.byte, M * 32, .inl (fun q => sb_b (B q)))), (s, .inl (.int, M, .inl S)), (t, .inl (.int, M, .inl T))]) (hp [(q, .inr (3, [.int (nI lev), .int (nI ent), .long F, .ref ia])), (ia, .inl (.int, m, .inl (fun q => nI (ids q))))]) 0 0 (fh_ret (some (.int (-1))) [(g, .inr (4, [.ref h, .ref q, .int (nI (b2n bi)), .int (nI p), .int (nI (ids (p / 32))), .long ke, .int (nI sz), .long va])), (h, .inr (0, [.ref y, .ref s, .ref t, .int (w + nI 1)])), (y, .inl (.byte, M * 32, .inl (fun q => sb_b (B q)))), (s, .inl (.int, M, .inl S)), (t, .inl (.int, M, .inl T))]) := by
  refine fh_enter (by decide) hst (Nat.le_of_ble_eq_true rfl) ?_
  intro D mp me sm mm margs mbel mmet mcod X hr hnm hno hf0
  show fh_G mp l me (fh_rm 2 46 0 0) sm mm margs mbel mmet mcod D fhCl (hp [(g, .inr (4, [.ref h, .ref q, .int (nI (b2n bi)), .int (nI p), .int ft, .long ke, .int (nI sz), .long va])), (h, .inr (0, [.ref y, .ref s, .ref t, .int w])), (y, .inl (.byte, M * 32, .inl (fun q => sb_b (B q)))), (s, .inl (.int, M, .inl S)), (t, .inl (.int, M, .inl T))]) 3 _ 0 0 (hp [(g, .inr (4, [.ref h, .ref q, .int (nI (b2n bi)), .int (nI p), .int ft, .long ke, .int (nI sz), .long va])), (h, .inr (0, [.ref y, .ref s, .ref t, .int w])), (y, .inl (.byte, M * 32, .inl (fun q => sb_b (B q)))), (s, .inl (.int, M, .inl S)), (t, .inl (.int, M, .inl T))]) 0 [(0, .ref g)] []
  have hn1 : [h, y, s, t].Nodup := (List.Nodup.sublist (by repeat first | exact List.nil_sublist _ | apply List.Sublist.cons₂ | apply List.Sublist.cons) hn)
  have hidp := hid _ hin
  refine g_aload_n X d_TR_nextByte_0 0 rfl ?_
  refine g_getf (k := 1) X d_TR_nextByte_1 (hl_w 0 rfl hn) rfl i_TR (by decide) k_fl_TR_19 (fun _ h => h) rfl ?_
  refine g_ifnonnull 9 X d_TR_nextByte_4 (by decide) ?_
  refine g_aload_n X d_TR_nextByte_9 0 rfl ?_
  refine g_getf (k := 1) X d_TR_nextByte_10 (hl_w 0 rfl hn) rfl i_TR (by decide) k_fl_TR_19 (fun _ h => h) rfl ?_
  refine g_aload_n X d_TR_nextByte_13 0 rfl ?_
  refine g_getf (k := 3) X d_TR_nextByte_14 (hl_w 0 rfl hn) rfl i_TR (by decide) k_fl_TR_27 (fun _ h => h) rfl ?_
  refine g_bipush (nI 32) X d_TR_nextByte_17 (by decide) ?_
  refine g_idiv X d_TR_nextByte_19 (by decide) ?_
  refine g_vi (nI (p / 32)) (pk_div (by omega) (by omega) (by omega)) ?_
  refine h_callVr (As := [.int (nI (p / 32))]) (st := []) [] [(g, .inr (4, [.ref h, .ref q, .int (nI (b2n bi)), .int (nI p), .int ft, .long ke, .int (nI sz), .long va])), (h, .inr (0, [.ref y, .ref s, .ref t, .int w])), (y, .inl (.byte, M * 32, .inl (fun q => sb_b (B q)))), (s, .inl (.int, M, .inl S)), (t, .inl (.int, M, .inl T))] X d_TR_nextByte_20 (c_TB_idAt_in hst hr9 hm hin) (hl_r 0 rfl hr9) rfl rfl k_ml_TR_59 k_cd_TB_idAt k_in_TB k_im_TB_idAt k_se_TB_idAt ⟨by decide +kernel, by decide +kernel, (by decide +kernel : (parseMethodDescriptor y_TB_idAt.desc).map (fun d => d.parameters.length) = some 1)⟩ ⟨Nat.le_of_ble_eq_true rfl, Nat.le_of_ble_eq_true rfl⟩ ⟨Nat.le_of_ble_eq_true rfl, Nat.le_of_ble_eq_true rfl⟩ (Nat.le_of_ble_eq_true rfl) hn rfl rfl rfl (fun q9 x9 h9 => h9) ?_
  refine g_istore_n [(1, .int (nI (ids (p / 32)))), (0, .ref g)] X d_TR_nextByte_23 (by decide) rfl ?_
  refine g_iload_n X d_TR_nextByte_24 0 rfl ?_
  refine g_iconst (-1) X d_TR_nextByte_25 (by decide) ?_
  refine g_icmp_ne 52 X d_TR_nextByte_26 (by decide) (fun h26 => ?_) (fun h26 => ?_)
  · refine g_aload_n X d_TR_nextByte_52 1 rfl ?_
    refine g_getf (k := 3) X d_TR_nextByte_53 (hl_w 0 rfl hn) rfl i_TR (by decide) k_fl_TR_27 (fun _ h => h) rfl ?_
    refine g_bipush (nI 32) X d_TR_nextByte_56 (by decide) ?_
    refine g_irem X d_TR_nextByte_58 (by decide) ?_
    refine g_vi (nI (p % 32)) (pk_rem (by omega) (by omega) (by omega)) ?_
    refine g_istore_n [(2, .int (nI (p % 32))), (1, .int (nI (ids (p / 32)))), (0, .ref g)] X d_TR_nextByte_59 (by decide) rfl ?_
    refine g_iload_n X d_TR_nextByte_60 0 rfl ?_
    refine g_if_ne 89 X d_TR_nextByte_61 (by decide) (fun h61 => ?_) (fun h61 => ?_)
    · have h61 := cv_n0 (by omega) h61
      omega
    · have h61 := cv_e0 (by omega) h61
      refine g_aload_n X d_TR_nextByte_64 2 rfl ?_
      refine g_getf (k := 2) X d_TR_nextByte_65 (hl_w 0 rfl hn) rfl i_TR (by decide) k_fl_TR_23 (fun _ h => h) rfl ?_
      refine g_vi (nI 1) (by rw [hbi]; rfl) ?_
      refine g_if_eq 89 X d_TR_nextByte_68 (by decide) (fun h68 => ?_) (fun h68 => ?_)
      · have h68 := cv_e0 (by omega) h68
        exact absurd h68 (by decide)
      · have h68 := cv_n0 (by omega) h68
        refine g_aload_n X d_TR_nextByte_71 2 rfl ?_
        refine g_getf (k := 0) X d_TR_nextByte_72 (hl_w 0 rfl hn) rfl i_TR (by decide) k_fl_TR_9 (fun _ h => h) rfl ?_
        refine g_iload_n X d_TR_nextByte_75 1 rfl ?_
        refine h_callV (As := [.int (nI (ids (p / 32)))]) (st := []) [1, 2, 3, 4] [(g, .inr (4, [.ref h, .ref q, .int (nI (b2n bi)), .int (nI p), .int ft, .long ke, .int (nI sz), .long va])), (h, .inr (0, [.ref y, .ref s, .ref t, .int (w + nI 1)])), (y, .inl (.byte, M * 32, .inl (fun q => sb_b (B q)))), (s, .inl (.int, M, .inl S)), (t, .inl (.int, M, .inl T))] X d_TR_nextByte_76 (c_BL_inspect hst hn1 hB hM hidp) (hl_w 1 rfl hn) rfl rfl k_ml_TR_67 k_cd_BL_inspect k_in_BL k_im_BL_inspect k_se_BL_inspect ⟨by decide +kernel, by decide +kernel, (by decide +kernel : (parseMethodDescriptor y_BL_inspect.desc).map (fun d => d.parameters.length) = some 1)⟩ ⟨Nat.le_of_ble_eq_true rfl, Nat.le_of_ble_eq_true rfl⟩ ⟨Nat.le_of_ble_eq_true rfl, Nat.le_of_ble_eq_true rfl⟩ (Nat.le_of_ble_eq_true rfl) hn rfl rfl rfl hp_no hp_no2 ?_
        refine g_vi (nI 0) (by rw [hbad]; rfl) ?_
        refine g_if_ne 89 X d_TR_nextByte_79 (by decide) (fun h79 => ?_) (fun h79 => ?_)
        · have h79 := cv_n0 (by omega) h79
          exact absurd h79 (by decide)
        · have h79 := cv_e0 (by omega) h79
          refine g_aload_n X d_TR_nextByte_82 2 rfl ?_
          refine g_iload_n X d_TR_nextByte_83 1 rfl ?_
          refine h_putf (k := 4) (ty := .int) 0 [(g, .inr (4, [.ref h, .ref q, .int (nI (b2n bi)), .int (nI p), .int (nI (ids (p / 32))), .long ke, .int (nI sz), .long va])), (h, .inr (0, [.ref y, .ref s, .ref t, .int (w + nI 1)])), (y, .inl (.byte, M * 32, .inl (fun q => sb_b (B q)))), (s, .inl (.int, M, .inl S)), (t, .inl (.int, M, .inl T))] X d_TR_nextByte_84 hn rfl rfl i_TR t_TR t_TR_ok n_TR (by decide) k_fl_TR_15 (fun _ h => h) rfl (by decide +kernel) rfl rfl (Nat.le_of_ble_eq_true rfl) rfl ?_
          refine g_iconst (-1) X d_TR_nextByte_87 (by decide) ?_
          exact g_iret X hr d_TR_nextByte_88 (Nat.le_of_ble_eq_true rfl) (Nat.le_of_ble_eq_true rfl) (⟨rfl, rfl⟩)
  · exact absurd h26 (nI_nm1 (by omega))

set_option maxRecDepth 100000 in
set_option maxHeartbeats 1000000 in
theorem c_TR_nextByte_first {l : Launch} (hst : l.stackTraces = false) {g h y s t M p sz : Nat} {bi : Bool} {w ft : Int32} {ke va : Int64} {S T : Nat → Int32} {B : Nat → Nat} {q ia lev ent m : Nat} {F : Int64} {ids : Nat → Nat} (hn : [g, h, y, s, t].Nodup) (hB : ∀ q, B q < 256) (hM : M ≤ 128) (hr9 : [q, ia].Nodup) (hm : m ≤ 128) (hm1 : 1 ≤ m) (hid : ∀ k, k < m → ids k < M) (hp20 : p < 2 ^ 20) (hin : p / 32 < m) (hbi : bi = true) (hp0 : p % 32 = 0) (hgood : rgt S T B (ids (p / 32)) = true) : fh_C l fhCl fhT y_TR_nextByte (.code y_TR_nextByte b_TR_nextByte 3 (some .int)) 2 46 [.ref g] (hp [(g, .inr (4, [.ref h, .ref q, .int (nI (b2n bi)), .int (nI p), .int ft, .long ke, .int (nI sz), .long va])), (h, .inr (0, [.ref y, .ref s, .ref t, .int w])), (y, .inl (.byte, M * 32, .inl (fun q => sb_b (B q)))), (s, .inl (.int, M, .inl S)), (t, .inl (.int, M, .inl T))]) (hp [(q, .inr (3, [.int (nI lev), .int (nI ent), .long F, .ref ia])), (ia, .inl (.int, m, .inl (fun q => nI (ids q))))]) 0 0 (fh_ret (some (.int (nI (B (ids (p / 32) * 32 + p % 32))))) [(g, .inr (4, [.ref h, .ref q, .int (nI (b2n bi)), .int (nI (p + 1)), .int ft, .long ke, .int (nI sz), .long va])), (h, .inr (0, [.ref y, .ref s, .ref t, .int (w + nI 1)])), (y, .inl (.byte, M * 32, .inl (fun q => sb_b (B q)))), (s, .inl (.int, M, .inl S)), (t, .inl (.int, M, .inl T))]) := by
  refine fh_enter (by decide) hst (Nat.le_of_ble_eq_true rfl) ?_
  intro D mp me sm mm margs mbel mmet mcod X hr hnm hno hf0
  show fh_G mp l me (fh_rm 2 46 0 0) sm mm margs mbel mmet mcod D fhCl (hp [(g, .inr (4, [.ref h, .ref q, .int (nI (b2n bi)), .int (nI p), .int ft, .long ke, .int (nI sz), .long va])), (h, .inr (0, [.ref y, .ref s, .ref t, .int w])), (y, .inl (.byte, M * 32, .inl (fun q => sb_b (B q)))), (s, .inl (.int, M, .inl S)), (t, .inl (.int, M, .inl T))]) 3 _ 0 0 (hp [(g, .inr (4, [.ref h, .ref q, .int (nI (b2n bi)), .int (nI p), .int ft, .long ke, .int (nI sz), .long va])), (h, .inr (0, [.ref y, .ref s, .ref t, .int w])), (y, .inl (.byte, M * 32, .inl (fun q => sb_b (B q)))), (s, .inl (.int, M, .inl S)), (t, .inl (.int, M, .inl T))]) 0 [(0, .ref g)] []
  have hn1 : [h, y, s, t].Nodup := (List.Nodup.sublist (by repeat first | exact List.nil_sublist _ | apply List.Sublist.cons₂ | apply List.Sublist.cons) hn)
  have hidp := hid _ hin
  refine g_aload_n X d_TR_nextByte_0 0 rfl ?_
  refine g_getf (k := 1) X d_TR_nextByte_1 (hl_w 0 rfl hn) rfl i_TR (by decide) k_fl_TR_19 (fun _ h => h) rfl ?_
  refine g_ifnonnull 9 X d_TR_nextByte_4 (by decide) ?_
  refine g_aload_n X d_TR_nextByte_9 0 rfl ?_
  refine g_getf (k := 1) X d_TR_nextByte_10 (hl_w 0 rfl hn) rfl i_TR (by decide) k_fl_TR_19 (fun _ h => h) rfl ?_
  refine g_aload_n X d_TR_nextByte_13 0 rfl ?_
  refine g_getf (k := 3) X d_TR_nextByte_14 (hl_w 0 rfl hn) rfl i_TR (by decide) k_fl_TR_27 (fun _ h => h) rfl ?_
  refine g_bipush (nI 32) X d_TR_nextByte_17 (by decide) ?_
  refine g_idiv X d_TR_nextByte_19 (by decide) ?_
  refine g_vi (nI (p / 32)) (pk_div (by omega) (by omega) (by omega)) ?_
  refine h_callVr (As := [.int (nI (p / 32))]) (st := []) [] [(g, .inr (4, [.ref h, .ref q, .int (nI (b2n bi)), .int (nI p), .int ft, .long ke, .int (nI sz), .long va])), (h, .inr (0, [.ref y, .ref s, .ref t, .int w])), (y, .inl (.byte, M * 32, .inl (fun q => sb_b (B q)))), (s, .inl (.int, M, .inl S)), (t, .inl (.int, M, .inl T))] X d_TR_nextByte_20 (c_TB_idAt_in hst hr9 hm hin) (hl_r 0 rfl hr9) rfl rfl k_ml_TR_59 k_cd_TB_idAt k_in_TB k_im_TB_idAt k_se_TB_idAt ⟨by decide +kernel, by decide +kernel, (by decide +kernel : (parseMethodDescriptor y_TB_idAt.desc).map (fun d => d.parameters.length) = some 1)⟩ ⟨Nat.le_of_ble_eq_true rfl, Nat.le_of_ble_eq_true rfl⟩ ⟨Nat.le_of_ble_eq_true rfl, Nat.le_of_ble_eq_true rfl⟩ (Nat.le_of_ble_eq_true rfl) hn rfl rfl rfl (fun q9 x9 h9 => h9) ?_
  refine g_istore_n [(1, .int (nI (ids (p / 32)))), (0, .ref g)] X d_TR_nextByte_23 (by decide) rfl ?_
  refine g_iload_n X d_TR_nextByte_24 0 rfl ?_
  refine g_iconst (-1) X d_TR_nextByte_25 (by decide) ?_
  refine g_icmp_ne 52 X d_TR_nextByte_26 (by decide) (fun h26 => ?_) (fun h26 => ?_)
  · refine g_aload_n X d_TR_nextByte_52 1 rfl ?_
    refine g_getf (k := 3) X d_TR_nextByte_53 (hl_w 0 rfl hn) rfl i_TR (by decide) k_fl_TR_27 (fun _ h => h) rfl ?_
    refine g_bipush (nI 32) X d_TR_nextByte_56 (by decide) ?_
    refine g_irem X d_TR_nextByte_58 (by decide) ?_
    refine g_vi (nI (p % 32)) (pk_rem (by omega) (by omega) (by omega)) ?_
    refine g_istore_n [(2, .int (nI (p % 32))), (1, .int (nI (ids (p / 32)))), (0, .ref g)] X d_TR_nextByte_59 (by decide) rfl ?_
    refine g_iload_n X d_TR_nextByte_60 0 rfl ?_
    refine g_if_ne 89 X d_TR_nextByte_61 (by decide) (fun h61 => ?_) (fun h61 => ?_)
    · have h61 := cv_n0 (by omega) h61
      omega
    · have h61 := cv_e0 (by omega) h61
      refine g_aload_n X d_TR_nextByte_64 2 rfl ?_
      refine g_getf (k := 2) X d_TR_nextByte_65 (hl_w 0 rfl hn) rfl i_TR (by decide) k_fl_TR_23 (fun _ h => h) rfl ?_
      refine g_vi (nI 1) (by rw [hbi]; rfl) ?_
      refine g_if_eq 89 X d_TR_nextByte_68 (by decide) (fun h68 => ?_) (fun h68 => ?_)
      · have h68 := cv_e0 (by omega) h68
        exact absurd h68 (by decide)
      · have h68 := cv_n0 (by omega) h68
        refine g_aload_n X d_TR_nextByte_71 2 rfl ?_
        refine g_getf (k := 0) X d_TR_nextByte_72 (hl_w 0 rfl hn) rfl i_TR (by decide) k_fl_TR_9 (fun _ h => h) rfl ?_
        refine g_iload_n X d_TR_nextByte_75 1 rfl ?_
        refine h_callV (As := [.int (nI (ids (p / 32)))]) (st := []) [1, 2, 3, 4] [(g, .inr (4, [.ref h, .ref q, .int (nI (b2n bi)), .int (nI p), .int ft, .long ke, .int (nI sz), .long va])), (h, .inr (0, [.ref y, .ref s, .ref t, .int (w + nI 1)])), (y, .inl (.byte, M * 32, .inl (fun q => sb_b (B q)))), (s, .inl (.int, M, .inl S)), (t, .inl (.int, M, .inl T))] X d_TR_nextByte_76 (c_BL_inspect hst hn1 hB hM hidp) (hl_w 1 rfl hn) rfl rfl k_ml_TR_67 k_cd_BL_inspect k_in_BL k_im_BL_inspect k_se_BL_inspect ⟨by decide +kernel, by decide +kernel, (by decide +kernel : (parseMethodDescriptor y_BL_inspect.desc).map (fun d => d.parameters.length) = some 1)⟩ ⟨Nat.le_of_ble_eq_true rfl, Nat.le_of_ble_eq_true rfl⟩ ⟨Nat.le_of_ble_eq_true rfl, Nat.le_of_ble_eq_true rfl⟩ (Nat.le_of_ble_eq_true rfl) hn rfl rfl rfl hp_no hp_no2 ?_
        refine g_vi (nI 1) (by rw [hgood]; rfl) ?_
        refine g_if_ne 89 X d_TR_nextByte_79 (by decide) (fun h79 => ?_) (fun h79 => ?_)
        · have h79 := cv_n0 (by omega) h79
          refine g_aload_n X d_TR_nextByte_89 2 rfl ?_
          refine g_dup X d_TR_nextByte_90 rfl ?_
          refine g_getf (k := 3) X d_TR_nextByte_91 (hl_w 0 rfl hn) rfl i_TR (by decide) k_fl_TR_27 (fun _ h => h) rfl ?_
          refine g_iconst (nI 1) X d_TR_nextByte_94 (by decide) ?_
          refine g_iadd X d_TR_nextByte_95 ?_
          refine g_vi (nI (p + 1)) (nI_add _ _) ?_
          refine h_putf (k := 3) (ty := .int) 0 [(g, .inr (4, [.ref h, .ref q, .int (nI (b2n bi)), .int (nI (p + 1)), .int ft, .long ke, .int (nI sz), .long va])), (h, .inr (0, [.ref y, .ref s, .ref t, .int (w + nI 1)])), (y, .inl (.byte, M * 32, .inl (fun q => sb_b (B q)))), (s, .inl (.int, M, .inl S)), (t, .inl (.int, M, .inl T))] X d_TR_nextByte_96 hn rfl rfl i_TR t_TR t_TR_ok n_TR (by decide) k_fl_TR_27 (fun _ h => h) rfl (by decide +kernel) rfl rfl (Nat.le_of_ble_eq_true rfl) rfl ?_
          refine g_aload_n X d_TR_nextByte_99 2 rfl ?_
          refine g_getf (k := 0) X d_TR_nextByte_100 (hl_w 0 rfl hn) rfl i_TR (by decide) k_fl_TR_9 (fun _ h => h) rfl ?_
          refine g_iload_n X d_TR_nextByte_103 1 rfl ?_
          refine g_iload_n X d_TR_nextByte_104 0 rfl ?_
          refine h_callV (As := [.int (nI (ids (p / 32))), .int (nI (p % 32))]) (st := []) [1, 2, 3, 4] [(g, .inr (4, [.ref h, .ref q, .int (nI (b2n bi)), .int (nI (p + 1)), .int ft, .long ke, .int (nI sz), .long va])), (h, .inr (0, [.ref y, .ref s, .ref t, .int (w + nI 1)])), (y, .inl (.byte, M * 32, .inl (fun q => sb_b (B q)))), (s, .inl (.int, M, .inl S)), (t, .inl (.int, M, .inl T))] X d_TR_nextByte_105 (c_BL_read hst hn1 hB hM hidp (Nat.mod_lt _ (by omega))) (hl_w 1 rfl hn) rfl rfl k_ml_TR_73 k_cd_BL_read k_in_BL k_im_BL_read k_se_BL_read ⟨by decide +kernel, by decide +kernel, (by decide +kernel : (parseMethodDescriptor y_BL_read.desc).map (fun d => d.parameters.length) = some 2)⟩ ⟨Nat.le_of_ble_eq_true rfl, Nat.le_of_ble_eq_true rfl⟩ ⟨Nat.le_of_ble_eq_true rfl, Nat.le_of_ble_eq_true rfl⟩ (Nat.le_of_ble_eq_true rfl) hn rfl rfl rfl hp_no hp_no2 ?_
          exact g_iret X hr d_TR_nextByte_108 (Nat.le_of_ble_eq_true rfl) (Nat.le_of_ble_eq_true rfl) (⟨rfl, rfl⟩)
        · have h79 := cv_e0 (by omega) h79
          exact absurd h79 (by decide)
  · exact absurd h26 (nI_nm1 (by omega))

set_option maxRecDepth 100000 in
set_option maxHeartbeats 1000000 in
theorem c_TR_nextByte_rest {l : Launch} (hst : l.stackTraces = false) {g h y s t M p sz : Nat} {bi : Bool} {w ft : Int32} {ke va : Int64} {S T : Nat → Int32} {B : Nat → Nat} {q ia lev ent m : Nat} {F : Int64} {ids : Nat → Nat} (hn : [g, h, y, s, t].Nodup) (hB : ∀ q, B q < 256) (hM : M ≤ 128) (hr9 : [q, ia].Nodup) (hm : m ≤ 128) (hm1 : 1 ≤ m) (hid : ∀ k, k < m → ids k < M) (hp20 : p < 2 ^ 20) (hin : p / 32 < m) (hrest : ¬ (bi = true ∧ p % 32 = 0)) : fh_C l fhCl fhT y_TR_nextByte (.code y_TR_nextByte b_TR_nextByte 3 (some .int)) 2 46 [.ref g] (hp [(g, .inr (4, [.ref h, .ref q, .int (nI (b2n bi)), .int (nI p), .int ft, .long ke, .int (nI sz), .long va])), (h, .inr (0, [.ref y, .ref s, .ref t, .int w])), (y, .inl (.byte, M * 32, .inl (fun q => sb_b (B q)))), (s, .inl (.int, M, .inl S)), (t, .inl (.int, M, .inl T))]) (hp [(q, .inr (3, [.int (nI lev), .int (nI ent), .long F, .ref ia])), (ia, .inl (.int, m, .inl (fun q => nI (ids q))))]) 0 0 (fh_ret (some (.int (nI (B (ids (p / 32) * 32 + p % 32))))) [(g, .inr (4, [.ref h, .ref q, .int (nI (b2n bi)), .int (nI (p + 1)), .int ft, .long ke, .int (nI sz), .long va])), (h, .inr (0, [.ref y, .ref s, .ref t, .int w])), (y, .inl (.byte, M * 32, .inl (fun q => sb_b (B q)))), (s, .inl (.int, M, .inl S)), (t, .inl (.int, M, .inl T))]) := by
  refine fh_enter (by decide) hst (Nat.le_of_ble_eq_true rfl) ?_
  intro D mp me sm mm margs mbel mmet mcod X hr hnm hno hf0
  show fh_G mp l me (fh_rm 2 46 0 0) sm mm margs mbel mmet mcod D fhCl (hp [(g, .inr (4, [.ref h, .ref q, .int (nI (b2n bi)), .int (nI p), .int ft, .long ke, .int (nI sz), .long va])), (h, .inr (0, [.ref y, .ref s, .ref t, .int w])), (y, .inl (.byte, M * 32, .inl (fun q => sb_b (B q)))), (s, .inl (.int, M, .inl S)), (t, .inl (.int, M, .inl T))]) 3 _ 0 0 (hp [(g, .inr (4, [.ref h, .ref q, .int (nI (b2n bi)), .int (nI p), .int ft, .long ke, .int (nI sz), .long va])), (h, .inr (0, [.ref y, .ref s, .ref t, .int w])), (y, .inl (.byte, M * 32, .inl (fun q => sb_b (B q)))), (s, .inl (.int, M, .inl S)), (t, .inl (.int, M, .inl T))]) 0 [(0, .ref g)] []
  have hn1 : [h, y, s, t].Nodup := (List.Nodup.sublist (by repeat first | exact List.nil_sublist _ | apply List.Sublist.cons₂ | apply List.Sublist.cons) hn)
  have hidp := hid _ hin
  have hb1 := b2n_le bi
  refine g_aload_n X d_TR_nextByte_0 0 rfl ?_
  refine g_getf (k := 1) X d_TR_nextByte_1 (hl_w 0 rfl hn) rfl i_TR (by decide) k_fl_TR_19 (fun _ h => h) rfl ?_
  refine g_ifnonnull 9 X d_TR_nextByte_4 (by decide) ?_
  refine g_aload_n X d_TR_nextByte_9 0 rfl ?_
  refine g_getf (k := 1) X d_TR_nextByte_10 (hl_w 0 rfl hn) rfl i_TR (by decide) k_fl_TR_19 (fun _ h => h) rfl ?_
  refine g_aload_n X d_TR_nextByte_13 0 rfl ?_
  refine g_getf (k := 3) X d_TR_nextByte_14 (hl_w 0 rfl hn) rfl i_TR (by decide) k_fl_TR_27 (fun _ h => h) rfl ?_
  refine g_bipush (nI 32) X d_TR_nextByte_17 (by decide) ?_
  refine g_idiv X d_TR_nextByte_19 (by decide) ?_
  refine g_vi (nI (p / 32)) (pk_div (by omega) (by omega) (by omega)) ?_
  refine h_callVr (As := [.int (nI (p / 32))]) (st := []) [] [(g, .inr (4, [.ref h, .ref q, .int (nI (b2n bi)), .int (nI p), .int ft, .long ke, .int (nI sz), .long va])), (h, .inr (0, [.ref y, .ref s, .ref t, .int w])), (y, .inl (.byte, M * 32, .inl (fun q => sb_b (B q)))), (s, .inl (.int, M, .inl S)), (t, .inl (.int, M, .inl T))] X d_TR_nextByte_20 (c_TB_idAt_in hst hr9 hm hin) (hl_r 0 rfl hr9) rfl rfl k_ml_TR_59 k_cd_TB_idAt k_in_TB k_im_TB_idAt k_se_TB_idAt ⟨by decide +kernel, by decide +kernel, (by decide +kernel : (parseMethodDescriptor y_TB_idAt.desc).map (fun d => d.parameters.length) = some 1)⟩ ⟨Nat.le_of_ble_eq_true rfl, Nat.le_of_ble_eq_true rfl⟩ ⟨Nat.le_of_ble_eq_true rfl, Nat.le_of_ble_eq_true rfl⟩ (Nat.le_of_ble_eq_true rfl) hn rfl rfl rfl (fun q9 x9 h9 => h9) ?_
  refine g_istore_n [(1, .int (nI (ids (p / 32)))), (0, .ref g)] X d_TR_nextByte_23 (by decide) rfl ?_
  refine g_iload_n X d_TR_nextByte_24 0 rfl ?_
  refine g_iconst (-1) X d_TR_nextByte_25 (by decide) ?_
  refine g_icmp_ne 52 X d_TR_nextByte_26 (by decide) (fun h26 => ?_) (fun h26 => ?_)
  · refine g_aload_n X d_TR_nextByte_52 1 rfl ?_
    refine g_getf (k := 3) X d_TR_nextByte_53 (hl_w 0 rfl hn) rfl i_TR (by decide) k_fl_TR_27 (fun _ h => h) rfl ?_
    refine g_bipush (nI 32) X d_TR_nextByte_56 (by decide) ?_
    refine g_irem X d_TR_nextByte_58 (by decide) ?_
    refine g_vi (nI (p % 32)) (pk_rem (by omega) (by omega) (by omega)) ?_
    refine g_istore_n [(2, .int (nI (p % 32))), (1, .int (nI (ids (p / 32)))), (0, .ref g)] X d_TR_nextByte_59 (by decide) rfl ?_
    refine g_iload_n X d_TR_nextByte_60 0 rfl ?_
    refine g_if_ne 89 X d_TR_nextByte_61 (by decide) (fun h61 => ?_) (fun h61 => ?_)
    · have h61 := cv_n0 (by omega) h61
      refine g_aload_n X d_TR_nextByte_89 2 rfl ?_
      refine g_dup X d_TR_nextByte_90 rfl ?_
      refine g_getf (k := 3) X d_TR_nextByte_91 (hl_w 0 rfl hn) rfl i_TR (by decide) k_fl_TR_27 (fun _ h => h) rfl ?_
      refine g_iconst (nI 1) X d_TR_nextByte_94 (by decide) ?_
      refine g_iadd X d_TR_nextByte_95 ?_
      refine g_vi (nI (p + 1)) (nI_add _ _) ?_
      refine h_putf (k := 3) (ty := .int) 0 [(g, .inr (4, [.ref h, .ref q, .int (nI (b2n bi)), .int (nI (p + 1)), .int ft, .long ke, .int (nI sz), .long va])), (h, .inr (0, [.ref y, .ref s, .ref t, .int w])), (y, .inl (.byte, M * 32, .inl (fun q => sb_b (B q)))), (s, .inl (.int, M, .inl S)), (t, .inl (.int, M, .inl T))] X d_TR_nextByte_96 hn rfl rfl i_TR t_TR t_TR_ok n_TR (by decide) k_fl_TR_27 (fun _ h => h) rfl (by decide +kernel) rfl rfl (Nat.le_of_ble_eq_true rfl) rfl ?_
      refine g_aload_n X d_TR_nextByte_99 2 rfl ?_
      refine g_getf (k := 0) X d_TR_nextByte_100 (hl_w 0 rfl hn) rfl i_TR (by decide) k_fl_TR_9 (fun _ h => h) rfl ?_
      refine g_iload_n X d_TR_nextByte_103 1 rfl ?_
      refine g_iload_n X d_TR_nextByte_104 0 rfl ?_
      refine h_callV (As := [.int (nI (ids (p / 32))), .int (nI (p % 32))]) (st := []) [1, 2, 3, 4] [(g, .inr (4, [.ref h, .ref q, .int (nI (b2n bi)), .int (nI (p + 1)), .int ft, .long ke, .int (nI sz), .long va])), (h, .inr (0, [.ref y, .ref s, .ref t, .int w])), (y, .inl (.byte, M * 32, .inl (fun q => sb_b (B q)))), (s, .inl (.int, M, .inl S)), (t, .inl (.int, M, .inl T))] X d_TR_nextByte_105 (c_BL_read hst hn1 hB hM hidp (Nat.mod_lt _ (by omega))) (hl_w 1 rfl hn) rfl rfl k_ml_TR_73 k_cd_BL_read k_in_BL k_im_BL_read k_se_BL_read ⟨by decide +kernel, by decide +kernel, (by decide +kernel : (parseMethodDescriptor y_BL_read.desc).map (fun d => d.parameters.length) = some 2)⟩ ⟨Nat.le_of_ble_eq_true rfl, Nat.le_of_ble_eq_true rfl⟩ ⟨Nat.le_of_ble_eq_true rfl, Nat.le_of_ble_eq_true rfl⟩ (Nat.le_of_ble_eq_true rfl) hn rfl rfl rfl hp_no hp_no2 ?_
      exact g_iret X hr d_TR_nextByte_108 (Nat.le_of_ble_eq_true rfl) (Nat.le_of_ble_eq_true rfl) (⟨rfl, rfl⟩)
    · have h61 := cv_e0 (by omega) h61
      refine g_aload_n X d_TR_nextByte_64 2 rfl ?_
      refine g_getf (k := 2) X d_TR_nextByte_65 (hl_w 0 rfl hn) rfl i_TR (by decide) k_fl_TR_23 (fun _ h => h) rfl ?_
      refine g_if_eq 89 X d_TR_nextByte_68 (by decide) (fun h68 => ?_) (fun h68 => ?_)
      · have h68 := cv_e0 (by omega) h68
        refine g_aload_n X d_TR_nextByte_89 2 rfl ?_
        refine g_dup X d_TR_nextByte_90 rfl ?_
        refine g_getf (k := 3) X d_TR_nextByte_91 (hl_w 0 rfl hn) rfl i_TR (by decide) k_fl_TR_27 (fun _ h => h) rfl ?_
        refine g_iconst (nI 1) X d_TR_nextByte_94 (by decide) ?_
        refine g_iadd X d_TR_nextByte_95 ?_
        refine g_vi (nI (p + 1)) (nI_add _ _) ?_
        refine h_putf (k := 3) (ty := .int) 0 [(g, .inr (4, [.ref h, .ref q, .int (nI (b2n bi)), .int (nI (p + 1)), .int ft, .long ke, .int (nI sz), .long va])), (h, .inr (0, [.ref y, .ref s, .ref t, .int w])), (y, .inl (.byte, M * 32, .inl (fun q => sb_b (B q)))), (s, .inl (.int, M, .inl S)), (t, .inl (.int, M, .inl T))] X d_TR_nextByte_96 hn rfl rfl i_TR t_TR t_TR_ok n_TR (by decide) k_fl_TR_27 (fun _ h => h) rfl (by decide +kernel) rfl rfl (Nat.le_of_ble_eq_true rfl) rfl ?_
        refine g_aload_n X d_TR_nextByte_99 2 rfl ?_
        refine g_getf (k := 0) X d_TR_nextByte_100 (hl_w 0 rfl hn) rfl i_TR (by decide) k_fl_TR_9 (fun _ h => h) rfl ?_
        refine g_iload_n X d_TR_nextByte_103 1 rfl ?_
        refine g_iload_n X d_TR_nextByte_104 0 rfl ?_
        refine h_callV (As := [.int (nI (ids (p / 32))), .int (nI (p % 32))]) (st := []) [1, 2, 3, 4] [(g, .inr (4, [.ref h, .ref q, .int (nI (b2n bi)), .int (nI (p + 1)), .int ft, .long ke, .int (nI sz), .long va])), (h, .inr (0, [.ref y, .ref s, .ref t, .int w])), (y, .inl (.byte, M * 32, .inl (fun q => sb_b (B q)))), (s, .inl (.int, M, .inl S)), (t, .inl (.int, M, .inl T))] X d_TR_nextByte_105 (c_BL_read hst hn1 hB hM hidp (Nat.mod_lt _ (by omega))) (hl_w 1 rfl hn) rfl rfl k_ml_TR_73 k_cd_BL_read k_in_BL k_im_BL_read k_se_BL_read ⟨by decide +kernel, by decide +kernel, (by decide +kernel : (parseMethodDescriptor y_BL_read.desc).map (fun d => d.parameters.length) = some 2)⟩ ⟨Nat.le_of_ble_eq_true rfl, Nat.le_of_ble_eq_true rfl⟩ ⟨Nat.le_of_ble_eq_true rfl, Nat.le_of_ble_eq_true rfl⟩ (Nat.le_of_ble_eq_true rfl) hn rfl rfl rfl hp_no hp_no2 ?_
        exact g_iret X hr d_TR_nextByte_108 (Nat.le_of_ble_eq_true rfl) (Nat.le_of_ble_eq_true rfl) (⟨rfl, rfl⟩)
      · have h68 := cv_n0 (by omega) h68
        exact absurd ⟨b2n_t (by omega), h61⟩ hrest
  · exact absurd h26 (nI_nm1 (by omega))

theorem c_TR_nextByte_ok {l : Launch} (hst : l.stackTraces = false) {g h y s t M p sz : Nat} {bi : Bool} {w ft : Int32} {ke va : Int64} {S T : Nat → Int32} {B : Nat → Nat} {q ia lev ent m : Nat} {F : Int64} {ids : Nat → Nat} (hn : [g, h, y, s, t].Nodup) (hB : ∀ q, B q < 256) (hM : M ≤ 128) (hr9 : [q, ia].Nodup) (hm : m ≤ 128) (hm1 : 1 ≤ m) (hid : ∀ k, k < m → ids k < M) (hp20 : p < 2 ^ 20) (hok : okb bi m ids S T B p = true) : fh_C l fhCl fhT y_TR_nextByte (.code y_TR_nextByte b_TR_nextByte 3 (some .int)) 2 46 [.ref g] (hp [(g, .inr (4, [.ref h, .ref q, .int (nI (b2n bi)), .int (nI p), .int ft, .long ke, .int (nI sz), .long va])), (h, .inr (0, [.ref y, .ref s, .ref t, .int w])), (y, .inl (.byte, M * 32, .inl (fun q => sb_b (B q)))), (s, .inl (.int, M, .inl S)), (t, .inl (.int, M, .inl T))]) (hp [(q, .inr (3, [.int (nI lev), .int (nI ent), .long F, .ref ia])), (ia, .inl (.int, m, .inl (fun q => nI (ids q))))]) 0 0 (fh_ret (some (.int (nI (tby B ids p)))) [(g, .inr (4, [.ref h, .ref q, .int (nI (b2n bi)), .int (nI (p + 1)), .int ft, .long ke, .int (nI sz), .long va])), (h, .inr (0, [.ref y, .ref s, .ref t, .int (w + nI (b2n (bi && decide (p % 32 = 0))))])), (y, .inl (.byte, M * 32, .inl (fun q => sb_b (B q)))), (s, .inl (.int, M, .inl S)), (t, .inl (.int, M, .inl T))]) := by
  obtain ⟨h1, h2⟩ := okb_t hok
  rcases h2 with ⟨h3, h4, h5, h6⟩ | ⟨h3, h4⟩
  · rw [h6]; exact c_TR_nextByte_first hst hn hB hM hr9 hm hm1 hid hp20 h1 h3 h4 h5
  · rw [h4, addz]; exact c_TR_nextByte_rest hst hn hB hM hr9 hm hm1 hid hp20 h1 h3

theorem c_TR_nextByte_no {l : Launch} (hst : l.stackTraces = false) {g h y s t M p sz : Nat} {bi : Bool} {w ft : Int32} {ke va : Int64} {S T : Nat → Int32} {B : Nat → Nat} {q ia lev ent m : Nat} {F : Int64} {ids : Nat → Nat} (hn : [g, h, y, s, t].Nodup) (hB : ∀ q, B q < 256) (hM : M ≤ 128) (hr9 : [q, ia].Nodup) (hm : m ≤ 128) (hm1 : 1 ≤ m) (hid : ∀ k, k < m → ids k < M) (hp20 : p < 2 ^ 20) (hok : okb bi m ids S T B p = false) : fh_C l fhCl fhT y_TR_nextByte (.code y_TR_nextByte b_TR_nextByte 3 (some .int)) 2 46 [.ref g] (hp [(g, .inr (4, [.ref h, .ref q, .int (nI (b2n bi)), .int (nI p), .int ft, .long ke, .int (nI sz), .long va])), (h, .inr (0, [.ref y, .ref s, .ref t, .int w])), (y, .inl (.byte, M * 32, .inl (fun q => sb_b (B q)))), (s, .inl (.int, M, .inl S)), (t, .inl (.int, M, .inl T))]) (hp [(q, .inr (3, [.int (nI lev), .int (nI ent), .long F, .ref ia])), (ia, .inl (.int, m, .inl (fun q => nI (ids q))))]) 0 0 (fh_ret (some (.int (-1))) [(g, .inr (4, [.ref h, .ref q, .int (nI (b2n bi)), .int (nI p), .int (nI (flt m ids p)), .long ke, .int (nI sz), .long va])), (h, .inr (0, [.ref y, .ref s, .ref t, .int (w + nI (b2n (decide (p / 32 < m))))])), (y, .inl (.byte, M * 32, .inl (fun q => sb_b (B q)))), (s, .inl (.int, M, .inl S)), (t, .inl (.int, M, .inl T))]) := by
  rcases okb_f hok with ⟨h1, h2, h3⟩ | ⟨h1, h2, h3, h4, h5, h6⟩
  · rw [h2, h3, addz]; exact c_TR_nextByte_end hst hn hB hM hr9 hm hm1 hid hp20 h1
  · rw [h5, h6]; exact c_TR_nextByte_bad hst hn hB hM hr9 hm hm1 hid hp20 h1 h2 h3 h4

set_option maxRecDepth 100000 in
set_option maxHeartbeats 1000000 in
theorem c_TR_refuseLength {l : Launch} (hst : l.stackTraces = false) {g h y s t M p sz : Nat} {bi : Bool} {w ft : Int32} {ke va : Int64} {S T : Nat → Int32} {B : Nat → Nat} {q ia lev ent m : Nat} {F : Int64} {ids : Nat → Nat} (hn : [g, h, y, s, t].Nodup) (hB : ∀ q, B q < 256) (hM : M ≤ 128) (hr9 : [q, ia].Nodup) (hm : m ≤ 128) (hm1 : 1 ≤ m) (hid : ∀ k, k < m → ids k < M) (hp20 : p < 2 ^ 20) (hin : p / 32 < m) : fh_C l fhCl fhT y_TR_refuseLength (.code y_TR_refuseLength b_TR_refuseLength 1 none) 1 21 [.ref g] (hp [(g, .inr (4, [.ref h, .ref q, .int (nI (b2n bi)), .int (nI (p + 1)), .int ft, .long ke, .int (nI sz), .long va])), (h, .inr (0, [.ref y, .ref s, .ref t, .int w])), (y, .inl (.byte, M * 32, .inl (fun q => sb_b (B q)))), (s, .inl (.int, M, .inl S)), (t, .inl (.int, M, .inl T))]) (hp [(q, .inr (3, [.int (nI lev), .int (nI ent), .long F, .ref ia])), (ia, .inl (.int, m, .inl (fun q => nI (ids q))))]) 0 0 (fh_ret none [(g, .inr (4, [.ref h, .ref q, .int (nI (b2n bi)), .int (nI (p + 1)), .int (nI (ids (p / 32))), .long ke, .int (nI sz), .long va])), (h, .inr (0, [.ref y, .ref s, .ref t, .int w])), (y, .inl (.byte, M * 32, .inl (fun q => sb_b (B q)))), (s, .inl (.int, M, .inl S)), (t, .inl (.int, M, .inl T))]) := by
  refine fh_enter (by decide) hst (Nat.le_of_ble_eq_true rfl) ?_
  intro D mp me sm mm margs mbel mmet mcod X hr hnm hno hf0
  show fh_G mp l me (fh_rm 1 21 0 0) sm mm margs mbel mmet mcod D fhCl (hp [(g, .inr (4, [.ref h, .ref q, .int (nI (b2n bi)), .int (nI (p + 1)), .int ft, .long ke, .int (nI sz), .long va])), (h, .inr (0, [.ref y, .ref s, .ref t, .int w])), (y, .inl (.byte, M * 32, .inl (fun q => sb_b (B q)))), (s, .inl (.int, M, .inl S)), (t, .inl (.int, M, .inl T))]) 1 _ 0 0 (hp [(g, .inr (4, [.ref h, .ref q, .int (nI (b2n bi)), .int (nI (p + 1)), .int ft, .long ke, .int (nI sz), .long va])), (h, .inr (0, [.ref y, .ref s, .ref t, .int w])), (y, .inl (.byte, M * 32, .inl (fun q => sb_b (B q)))), (s, .inl (.int, M, .inl S)), (t, .inl (.int, M, .inl T))]) 0 [(0, .ref g)] []
  have hn1 : [h, y, s, t].Nodup := (List.Nodup.sublist (by repeat first | exact List.nil_sublist _ | apply List.Sublist.cons₂ | apply List.Sublist.cons) hn)
  refine g_aload_n X d_TR_refuseLength_0 0 rfl ?_
  refine g_getf (k := 1) X d_TR_refuseLength_1 (hl_w 0 rfl hn) rfl i_TR (by decide) k_fl_TR_19 (fun _ h => h) rfl ?_
  refine g_ifnull X d_TR_refuseLength_4 ?_
  refine g_aload_n X d_TR_refuseLength_7 0 rfl ?_
  refine g_aload_n X d_TR_refuseLength_8 0 rfl ?_
  refine g_getf (k := 1) X d_TR_refuseLength_9 (hl_w 0 rfl hn) rfl i_TR (by decide) k_fl_TR_19 (fun _ h => h) rfl ?_
  refine g_aload_n X d_TR_refuseLength_12 0 rfl ?_
  refine g_getf (k := 3) X d_TR_refuseLength_13 (hl_w 0 rfl hn) rfl i_TR (by decide) k_fl_TR_27 (fun _ h => h) rfl ?_
  refine g_iconst (nI 1) X d_TR_refuseLength_16 (by decide) ?_
  refine g_isub X d_TR_refuseLength_17 ?_
  refine g_vi (nI p) (by rw [← nI_add]; exact Int32.add_sub_cancel _ _) ?_
  refine g_bipush (nI 32) X d_TR_refuseLength_18 (by decide) ?_
  refine g_idiv X d_TR_refuseLength_20 (by decide) ?_
  refine g_vi (nI (p / 32)) (pk_div (by omega) (by omega) (by omega)) ?_
  refine h_callVr (As := [.int (nI (p / 32))]) (st := [.ref g]) [] [(g, .inr (4, [.ref h, .ref q, .int (nI (b2n bi)), .int (nI (p + 1)), .int ft, .long ke, .int (nI sz), .long va])), (h, .inr (0, [.ref y, .ref s, .ref t, .int w])), (y, .inl (.byte, M * 32, .inl (fun q => sb_b (B q)))), (s, .inl (.int, M, .inl S)), (t, .inl (.int, M, .inl T))] X d_TR_refuseLength_21 (c_TB_idAt_in hst hr9 hm hin) (hl_r 0 rfl hr9) rfl rfl k_ml_TR_59 k_cd_TB_idAt k_in_TB k_im_TB_idAt k_se_TB_idAt ⟨by decide +kernel, by decide +kernel, (by decide +kernel : (parseMethodDescriptor y_TB_idAt.desc).map (fun d => d.parameters.length) = some 1)⟩ ⟨Nat.le_of_ble_eq_true rfl, Nat.le_of_ble_eq_true rfl⟩ ⟨Nat.le_of_ble_eq_true rfl, Nat.le_of_ble_eq_true rfl⟩ (Nat.le_of_ble_eq_true rfl) hn rfl rfl rfl (fun q9 x9 h9 => h9) ?_
  refine h_putf (k := 4) (ty := .int) 0 [(g, .inr (4, [.ref h, .ref q, .int (nI (b2n bi)), .int (nI (p + 1)), .int (nI (ids (p / 32))), .long ke, .int (nI sz), .long va])), (h, .inr (0, [.ref y, .ref s, .ref t, .int w])), (y, .inl (.byte, M * 32, .inl (fun q => sb_b (B q)))), (s, .inl (.int, M, .inl S)), (t, .inl (.int, M, .inl T))] X d_TR_refuseLength_24 hn rfl rfl i_TR t_TR t_TR_ok n_TR (by decide) k_fl_TR_15 (fun _ h => h) rfl (by decide +kernel) rfl rfl (Nat.le_of_ble_eq_true rfl) rfl ?_
  exact g_vret X hr d_TR_refuseLength_27 (Nat.le_of_ble_eq_true rfl) (Nat.le_of_ble_eq_true rfl) (⟨rfl, rfl⟩)
