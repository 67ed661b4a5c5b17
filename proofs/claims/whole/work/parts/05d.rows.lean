set_option maxRecDepth 100000 in
set_option maxHeartbeats 4000000 in
theorem c_RW_set_in {l : Launch} (hst : l.stackTraces = false) {h a b d N n : Nat} {K V : Nat → Int64} {z : Nat → Nat} (hn : [h, a, b, d].Nodup) (hN : N < 2 ^ 20) (hs : srt K n) (hnN : n ≤ N) {k v : Int64} {m : Nat} (hf : plc K k n < n ∧ K (plc K k n) = k) : fh_C l fhCl fhT y_RW_set (.code y_RW_set b_RW_set 7 (some .boolean)) 2 52 [.ref h, .long k, .int (nI m), .long v] (hp [(h, .inr (2, [.ref a, .ref b, .ref d, .int (nI n)])), (a, .inl (.long, N, .inr (.inl K))), (b, .inl (.int, N, .inl (fun q => nI (z q)))), (d, .inl (.long, N, .inr (.inl V)))]) (hp []) 0 0 (fh_ret (some (.int (nI 1))) [(h, .inr (2, [.ref a, .ref b, .ref d, .int (nI n)])), (a, .inl (.long, N, .inr (.inl K))), (b, .inl (.int, N, .inl (fun q => nI (((va_up z (plc K k n) m)) q)))), (d, .inl (.long, N, .inr (.inl (va_up V (plc K k n) v))))]) := by
  refine fh_enter (by decide) hst (Nat.le_of_ble_eq_true rfl) ?_
  intro D mp me sm mm margs mbel mmet mcod X hr hnm hno hf0
  show fh_G mp l me (fh_rm 2 52 0 0) sm mm margs mbel mmet mcod D fhCl (hp [(h, .inr (2, [.ref a, .ref b, .ref d, .int (nI n)])), (a, .inl (.long, N, .inr (.inl K))), (b, .inl (.int, N, .inl (fun q => nI (z q)))), (d, .inl (.long, N, .inr (.inl V)))]) 7 _ 0 0 (hp [(h, .inr (2, [.ref a, .ref b, .ref d, .int (nI n)])), (a, .inl (.long, N, .inr (.inl K))), (b, .inl (.int, N, .inl (fun q => nI (z q)))), (d, .inl (.long, N, .inr (.inl V)))]) 0 [(0, .ref h), (1, .long k), (3, .int (nI m)), (4, .long v)] []
  have hl9 := plc_le K k n
  refine g_aload_n X d_RW_set_0 0 rfl ?_
  refine g_lload_n X d_RW_set_1 1 rfl ?_
  refine h_callV (As := [.long k]) (st := []) [0, 1, 2, 3] [(h, .inr (2, [.ref a, .ref b, .ref d, .int (nI n)])), (a, .inl (.long, N, .inr (.inl K))), (b, .inl (.int, N, .inl (fun q => nI (z q)))), (d, .inl (.long, N, .inr (.inl V)))] X d_RW_set_2 (c_RW_placeOf hst hn hN hs hnN) (hl_w 0 rfl hn) rfl rfl k_ml_RW_26 k_cd_RW_placeOf k_in_RW k_im_RW_placeOf k_se_RW_placeOf ⟨by decide +kernel, by decide +kernel, (by decide +kernel : (parseMethodDescriptor y_RW_placeOf.desc).map (fun d => d.parameters.length) = some 1)⟩ ⟨Nat.le_of_ble_eq_true rfl, Nat.le_of_ble_eq_true rfl⟩ ⟨Nat.le_of_ble_eq_true rfl, Nat.le_of_ble_eq_true rfl⟩ (Nat.le_of_ble_eq_true rfl) hn rfl rfl rfl hp_no hp_no2 ?_
  have e9 : plr K n k = nI (plc K k n) := by rw [plr, if_pos hf]
  refine g_vi (nI (plc K k n)) e9 ?_
  refine g_istore [(6, .int (nI (plc K k n))), (0, .ref h), (1, .long k), (3, .int (nI m)), (4, .long v)] X d_RW_set_5 (by decide) rfl ?_
  refine g_iload X d_RW_set_7 0 rfl ?_
  refine g_if_lt 31 X d_RW_set_9 (by decide) (fun h9 => ?_) (fun h9 => ?_)
  · exact (cv_l0 (by omega) h9).elim
  · refine g_aload_n X d_RW_set_12 1 rfl ?_
    refine g_getf (k := 1) X d_RW_set_13 (hl_w 0 rfl hn) rfl i_RW (by decide) k_fl_RW_15 (fun _ h => h) rfl ?_
    refine g_iload X d_RW_set_16 0 rfl ?_
    refine g_iload_n X d_RW_set_18 3 rfl ?_
    refine h_iastN 2 [(h, .inr (2, [.ref a, .ref b, .ref d, .int (nI n)])), (a, .inl (.long, N, .inr (.inl K))), (b, .inl (.int, N, .inl (fun q => nI ((va_up z (plc K k n) m) q)))), (d, .inl (.long, N, .inr (.inl V)))] X d_RW_set_19 hn rfl (by omega) (by omega) rfl ?_
    refine g_aload_n X d_RW_set_20 1 rfl ?_
    refine g_getf (k := 2) X d_RW_set_21 (hl_w 0 rfl hn) rfl i_RW (by decide) k_fl_RW_19 (fun _ h => h) rfl ?_
    refine g_iload X d_RW_set_24 0 rfl ?_
    refine g_lload X d_RW_set_26 4 rfl ?_
    refine h_last 3 [(h, .inr (2, [.ref a, .ref b, .ref d, .int (nI n)])), (a, .inl (.long, N, .inr (.inl K))), (b, .inl (.int, N, .inl (fun q => nI ((va_up z (plc K k n) m) q)))), (d, .inl (.long, N, .inr (.inl (va_up V (plc K k n) v))))] X d_RW_set_28 hn rfl (by omega) (by omega) rfl ?_
    refine g_iconst (nI 1) X d_RW_set_29 (by decide) ?_
    exact g_zret X hr rfl d_RW_set_30 (Nat.le_of_ble_eq_true rfl) (Nat.le_of_ble_eq_true rfl) (fh_ret_i)

set_option maxRecDepth 100000 in
set_option maxHeartbeats 4000000 in
theorem c_RW_set_new {l : Launch} (hst : l.stackTraces = false) {h a b d N n : Nat} {K V : Nat → Int64} {z : Nat → Nat} (hn : [h, a, b, d].Nodup) (hN : N < 2 ^ 20) (hs : srt K n) (hnN : n ≤ N) {k v : Int64} {m : Nat} (hf : ¬ (plc K k n < n ∧ K (plc K k n) = k)) (hroom : n < N) : fh_C l fhCl fhT y_RW_set (.code y_RW_set b_RW_set 7 (some .boolean)) 2 52 [.ref h, .long k, .int (nI m), .long v] (hp [(h, .inr (2, [.ref a, .ref b, .ref d, .int (nI n)])), (a, .inl (.long, N, .inr (.inl K))), (b, .inl (.int, N, .inl (fun q => nI (z q)))), (d, .inl (.long, N, .inr (.inl V)))]) (hp []) 0 0 (fh_ret (some (.int (nI 1))) [(h, .inr (2, [.ref a, .ref b, .ref d, .int (nI (n + 1))])), (a, .inl (.long, N, .inr (.inl (insF K n (plc K k n) k)))), (b, .inl (.int, N, .inl (fun q => nI (((insF z n (plc K k n) m)) q)))), (d, .inl (.long, N, .inr (.inl (insF V n (plc K k n) v))))]) := by
  refine fh_enter (by decide) hst (Nat.le_of_ble_eq_true rfl) ?_
  intro D mp me sm mm margs mbel mmet mcod X hr hnm hno hf0
  show fh_G mp l me (fh_rm 2 52 0 0) sm mm margs mbel mmet mcod D fhCl (hp [(h, .inr (2, [.ref a, .ref b, .ref d, .int (nI n)])), (a, .inl (.long, N, .inr (.inl K))), (b, .inl (.int, N, .inl (fun q => nI (z q)))), (d, .inl (.long, N, .inr (.inl V)))]) 7 _ 0 0 (hp [(h, .inr (2, [.ref a, .ref b, .ref d, .int (nI n)])), (a, .inl (.long, N, .inr (.inl K))), (b, .inl (.int, N, .inl (fun q => nI (z q)))), (d, .inl (.long, N, .inr (.inl V)))]) 0 [(0, .ref h), (1, .long k), (3, .int (nI m)), (4, .long v)] []
  have hl9 := plc_le K k n
  refine g_aload_n X d_RW_set_0 0 rfl ?_
  refine g_lload_n X d_RW_set_1 1 rfl ?_
  refine h_callV (As := [.long k]) (st := []) [0, 1, 2, 3] [(h, .inr (2, [.ref a, .ref b, .ref d, .int (nI n)])), (a, .inl (.long, N, .inr (.inl K))), (b, .inl (.int, N, .inl (fun q => nI (z q)))), (d, .inl (.long, N, .inr (.inl V)))] X d_RW_set_2 (c_RW_placeOf hst hn hN hs hnN) (hl_w 0 rfl hn) rfl rfl k_ml_RW_26 k_cd_RW_placeOf k_in_RW k_im_RW_placeOf k_se_RW_placeOf ⟨by decide +kernel, by decide +kernel, (by decide +kernel : (parseMethodDescriptor y_RW_placeOf.desc).map (fun d => d.parameters.length) = some 1)⟩ ⟨Nat.le_of_ble_eq_true rfl, Nat.le_of_ble_eq_true rfl⟩ ⟨Nat.le_of_ble_eq_true rfl, Nat.le_of_ble_eq_true rfl⟩ (Nat.le_of_ble_eq_true rfl) hn rfl rfl rfl hp_no hp_no2 ?_
  have e9 : plr K n k = (-1) - nI (plc K k n) := by rw [plr, if_neg hf]
  refine g_vi ((-1) - nI (plc K k n)) e9 ?_
  refine g_istore [(6, .int ((-1) - nI (plc K k n))), (0, .ref h), (1, .long k), (3, .int (nI m)), (4, .long v)] X d_RW_set_5 (by decide) rfl ?_
  refine g_iload X d_RW_set_7 0 rfl ?_
  refine g_if_lt 31 X d_RW_set_9 (by decide) (fun h9 => ?_) (fun h9 => ?_)
  · refine g_aload_n X d_RW_set_31 1 rfl ?_
    refine g_iconst (-1) X d_RW_set_32 (by decide) ?_
    refine g_iload X d_RW_set_33 0 rfl ?_
    refine g_isub X d_RW_set_35 ?_
    refine g_vi (nI (plc K k n)) (neg1_back _) ?_
    refine g_lload_n X d_RW_set_36 2 rfl ?_
    refine g_iload_n X d_RW_set_37 3 rfl ?_
    refine g_lload X d_RW_set_38 4 rfl ?_
    refine h_callV (As := [.int (nI (plc K k n)), .long k, .int (nI m), .long v]) (st := []) [0, 1, 2, 3] [(h, .inr (2, [.ref a, .ref b, .ref d, .int (nI (n + 1))])), (a, .inl (.long, N, .inr (.inl (insF K n (plc K k n) k)))), (b, .inl (.int, N, .inl (fun q => nI (((insF z n (plc K k n) m)) q)))), (d, .inl (.long, N, .inr (.inl (insF V n (plc K k n) v))))] X d_RW_set_40 (c_RW_insert hst hn hN (by omega) (by omega)) (hl_w 0 rfl hn) rfl rfl k_ml_RW_30 k_cd_RW_insert k_in_RW k_im_RW_insert k_se_RW_insert ⟨by decide +kernel, by decide +kernel, (by decide +kernel : (parseMethodDescriptor y_RW_insert.desc).map (fun d => d.parameters.length) = some 4)⟩ ⟨Nat.le_of_ble_eq_true rfl, Nat.le_of_ble_eq_true rfl⟩ ⟨Nat.le_of_ble_eq_true rfl, Nat.le_of_ble_eq_true rfl⟩ (Nat.le_of_ble_eq_true rfl) hn rfl rfl rfl hp_no hp_no2 ?_
    exact g_zret X hr rfl d_RW_set_43 (Nat.le_of_ble_eq_true rfl) (Nat.le_of_ble_eq_true rfl) (fh_ret_i)
  · exact absurd (neg1_lt (by omega)) h9

set_option maxRecDepth 100000 in
set_option maxHeartbeats 4000000 in
theorem c_RW_set_full {l : Launch} (hst : l.stackTraces = false) {h a b d N n : Nat} {K V : Nat → Int64} {z : Nat → Nat} (hn : [h, a, b, d].Nodup) (hN : N < 2 ^ 20) (hs : srt K n) (hnN : n ≤ N) {k v : Int64} {m : Nat} (hf : ¬ (plc K k n < n ∧ K (plc K k n) = k)) (hfull : n = N) : fh_C l fhCl fhT y_RW_set (.code y_RW_set b_RW_set 7 (some .boolean)) 2 52 [.ref h, .long k, .int (nI m), .long v] (hp [(h, .inr (2, [.ref a, .ref b, .ref d, .int (nI n)])), (a, .inl (.long, N, .inr (.inl K))), (b, .inl (.int, N, .inl (fun q => nI (z q)))), (d, .inl (.long, N, .inr (.inl V)))]) (hp []) 0 0 (fh_ret (some (.int (nI 0))) [(h, .inr (2, [.ref a, .ref b, .ref d, .int (nI n)])), (a, .inl (.long, N, .inr (.inl K))), (b, .inl (.int, N, .inl (fun q => nI (z q)))), (d, .inl (.long, N, .inr (.inl V)))]) := by
  refine fh_enter (by decide) hst (Nat.le_of_ble_eq_true rfl) ?_
  intro D mp me sm mm margs mbel mmet mcod X hr hnm hno hf0
  show fh_G mp l me (fh_rm 2 52 0 0) sm mm margs mbel mmet mcod D fhCl (hp [(h, .inr (2, [.ref a, .ref b, .ref d, .int (nI n)])), (a, .inl (.long, N, .inr (.inl K))), (b, .inl (.int, N, .inl (fun q => nI (z q)))), (d, .inl (.long, N, .inr (.inl V)))]) 7 _ 0 0 (hp [(h, .inr (2, [.ref a, .ref b, .ref d, .int (nI n)])), (a, .inl (.long, N, .inr (.inl K))), (b, .inl (.int, N, .inl (fun q => nI (z q)))), (d, .inl (.long, N, .inr (.inl V)))]) 0 [(0, .ref h), (1, .long k), (3, .int (nI m)), (4, .long v)] []
  have hl9 := plc_le K k n
  refine g_aload_n X d_RW_set_0 0 rfl ?_
  refine g_lload_n X d_RW_set_1 1 rfl ?_
  refine h_callV (As := [.long k]) (st := []) [0, 1, 2, 3] [(h, .inr (2, [.ref a, .ref b, .ref d, .int (nI n)])), (a, .inl (.long, N, .inr (.inl K))), (b, .inl (.int, N, .inl (fun q => nI (z q)))), (d, .inl (.long, N, .inr (.inl V)))] X d_RW_set_2 (c_RW_placeOf hst hn hN hs hnN) (hl_w 0 rfl hn) rfl rfl k_ml_RW_26 k_cd_RW_placeOf k_in_RW k_im_RW_placeOf k_se_RW_placeOf ⟨by decide +kernel, by decide +kernel, (by decide +kernel : (parseMethodDescriptor y_RW_placeOf.desc).map (fun d => d.parameters.length) = some 1)⟩ ⟨Nat.le_of_ble_eq_true rfl, Nat.le_of_ble_eq_true rfl⟩ ⟨Nat.le_of_ble_eq_true rfl, Nat.le_of_ble_eq_true rfl⟩ (Nat.le_of_ble_eq_true rfl) hn rfl rfl rfl hp_no hp_no2 ?_
  have e9 : plr K n k = (-1) - nI (plc K k n) := by rw [plr, if_neg hf]
  refine g_vi ((-1) - nI (plc K k n)) e9 ?_
  refine g_istore [(6, .int ((-1) - nI (plc K k n))), (0, .ref h), (1, .long k), (3, .int (nI m)), (4, .long v)] X d_RW_set_5 (by decide) rfl ?_
  refine g_iload X d_RW_set_7 0 rfl ?_
  refine g_if_lt 31 X d_RW_set_9 (by decide) (fun h9 => ?_) (fun h9 => ?_)
  · refine g_aload_n X d_RW_set_31 1 rfl ?_
    refine g_iconst (-1) X d_RW_set_32 (by decide) ?_
    refine g_iload X d_RW_set_33 0 rfl ?_
    refine g_isub X d_RW_set_35 ?_
    refine g_vi (nI (plc K k n)) (neg1_back _) ?_
    refine g_lload_n X d_RW_set_36 2 rfl ?_
    refine g_iload_n X d_RW_set_37 3 rfl ?_
    refine g_lload X d_RW_set_38 4 rfl ?_
    refine h_callV (As := [.int (nI (plc K k n)), .long k, .int (nI m), .long v]) (st := []) [0, 1, 2, 3] [(h, .inr (2, [.ref a, .ref b, .ref d, .int (nI n)])), (a, .inl (.long, N, .inr (.inl K))), (b, .inl (.int, N, .inl (fun q => nI (z q)))), (d, .inl (.long, N, .inr (.inl V)))] X d_RW_set_40 (c_RW_insert_no hst hn hN hfull) (hl_w 0 rfl hn) rfl rfl k_ml_RW_30 k_cd_RW_insert k_in_RW k_im_RW_insert k_se_RW_insert ⟨by decide +kernel, by decide +kernel, (by decide +kernel : (parseMethodDescriptor y_RW_insert.desc).map (fun d => d.parameters.length) = some 4)⟩ ⟨Nat.le_of_ble_eq_true rfl, Nat.le_of_ble_eq_true rfl⟩ ⟨Nat.le_of_ble_eq_true rfl, Nat.le_of_ble_eq_true rfl⟩ (Nat.le_of_ble_eq_true rfl) hn rfl rfl rfl hp_no hp_no2 ?_
    exact g_zret X hr rfl d_RW_set_43 (Nat.le_of_ble_eq_true rfl) (Nat.le_of_ble_eq_true rfl) (fh_ret_i)
  · exact absurd (neg1_lt (by omega)) h9

set_option maxRecDepth 100000 in
set_option maxHeartbeats 4000000 in
theorem c_RW_addMissing_in {l : Launch} (hst : l.stackTraces = false) {h a b d N n : Nat} {K V : Nat → Int64} {z : Nat → Nat} (hn : [h, a, b, d].Nodup) (hN : N < 2 ^ 20) (hs : srt K n) (hnN : n ≤ N) {k v : Int64} {m : Nat} (hf : plc K k n < n ∧ K (plc K k n) = k) : fh_C l fhCl fhT y_RW_addMissing (.code y_RW_addMissing b_RW_addMissing 7 none) 2 52 [.ref h, .long k, .int (nI m), .long v] (hp [(h, .inr (2, [.ref a, .ref b, .ref d, .int (nI n)])), (a, .inl (.long, N, .inr (.inl K))), (b, .inl (.int, N, .inl (fun q => nI (z q)))), (d, .inl (.long, N, .inr (.inl V)))]) (hp []) 0 0 (fh_ret none [(h, .inr (2, [.ref a, .ref b, .ref d, .int (nI n)])), (a, .inl (.long, N, .inr (.inl K))), (b, .inl (.int, N, .inl (fun q => nI (z q)))), (d, .inl (.long, N, .inr (.inl V)))]) := by
  refine fh_enter (by decide) hst (Nat.le_of_ble_eq_true rfl) ?_
  intro D mp me sm mm margs mbel mmet mcod X hr hnm hno hf0
  show fh_G mp l me (fh_rm 2 52 0 0) sm mm margs mbel mmet mcod D fhCl (hp [(h, .inr (2, [.ref a, .ref b, .ref d, .int (nI n)])), (a, .inl (.long, N, .inr (.inl K))), (b, .inl (.int, N, .inl (fun q => nI (z q)))), (d, .inl (.long, N, .inr (.inl V)))]) 7 _ 0 0 (hp [(h, .inr (2, [.ref a, .ref b, .ref d, .int (nI n)])), (a, .inl (.long, N, .inr (.inl K))), (b, .inl (.int, N, .inl (fun q => nI (z q)))), (d, .inl (.long, N, .inr (.inl V)))]) 0 [(0, .ref h), (1, .long k), (3, .int (nI m)), (4, .long v)] []
  have hl9 := plc_le K k n
  refine g_aload_n X d_RW_addMissing_0 0 rfl ?_
  refine g_lload_n X d_RW_addMissing_1 1 rfl ?_
  refine h_callV (As := [.long k]) (st := []) [0, 1, 2, 3] [(h, .inr (2, [.ref a, .ref b, .ref d, .int (nI n)])), (a, .inl (.long, N, .inr (.inl K))), (b, .inl (.int, N, .inl (fun q => nI (z q)))), (d, .inl (.long, N, .inr (.inl V)))] X d_RW_addMissing_2 (c_RW_placeOf hst hn hN hs hnN) (hl_w 0 rfl hn) rfl rfl k_ml_RW_26 k_cd_RW_placeOf k_in_RW k_im_RW_placeOf k_se_RW_placeOf ⟨by decide +kernel, by decide +kernel, (by decide +kernel : (parseMethodDescriptor y_RW_placeOf.desc).map (fun d => d.parameters.length) = some 1)⟩ ⟨Nat.le_of_ble_eq_true rfl, Nat.le_of_ble_eq_true rfl⟩ ⟨Nat.le_of_ble_eq_true rfl, Nat.le_of_ble_eq_true rfl⟩ (Nat.le_of_ble_eq_true rfl) hn rfl rfl rfl hp_no hp_no2 ?_
  have e9 : plr K n k = nI (plc K k n) := by rw [plr, if_pos hf]
  refine g_vi (nI (plc K k n)) e9 ?_
  refine g_istore [(6, .int (nI (plc K k n))), (0, .ref h), (1, .long k), (3, .int (nI m)), (4, .long v)] X d_RW_addMissing_5 (by decide) rfl ?_
  refine g_iload X d_RW_addMissing_7 0 rfl ?_
  refine g_if_ge 25 X d_RW_addMissing_9 (by decide) (fun h9 => ?_) (fun h9 => ?_)
  · exact g_vret X hr d_RW_addMissing_25 (Nat.le_of_ble_eq_true rfl) (Nat.le_of_ble_eq_true rfl) (fh_ret_i)
  · exact absurd (nI_pos' (by omega)) h9

set_option maxRecDepth 100000 in
set_option maxHeartbeats 4000000 in
theorem c_RW_addMissing_new {l : Launch} (hst : l.stackTraces = false) {h a b d N n : Nat} {K V : Nat → Int64} {z : Nat → Nat} (hn : [h, a, b, d].Nodup) (hN : N < 2 ^ 20) (hs : srt K n) (hnN : n ≤ N) {k v : Int64} {m : Nat} (hf : ¬ (plc K k n < n ∧ K (plc K k n) = k)) (hroom : n < N) : fh_C l fhCl fhT y_RW_addMissing (.code y_RW_addMissing b_RW_addMissing 7 none) 2 52 [.ref h, .long k, .int (nI m), .long v] (hp [(h, .inr (2, [.ref a, .ref b, .ref d, .int (nI n)])), (a, .inl (.long, N, .inr (.inl K))), (b, .inl (.int, N, .inl (fun q => nI (z q)))), (d, .inl (.long, N, .inr (.inl V)))]) (hp []) 0 0 (fh_ret none [(h, .inr (2, [.ref a, .ref b, .ref d, .int (nI (n + 1))])), (a, .inl (.long, N, .inr (.inl (insF K n (plc K k n) k)))), (b, .inl (.int, N, .inl (fun q => nI (((insF z n (plc K k n) m)) q)))), (d, .inl (.long, N, .inr (.inl (insF V n (plc K k n) v))))]) := by
  refine fh_enter (by decide) hst (Nat.le_of_ble_eq_true rfl) ?_
  intro D mp me sm mm margs mbel mmet mcod X hr hnm hno hf0
  show fh_G mp l me (fh_rm 2 52 0 0) sm mm margs mbel mmet mcod D fhCl (hp [(h, .inr (2, [.ref a, .ref b, .ref d, .int (nI n)])), (a, .inl (.long, N, .inr (.inl K))), (b, .inl (.int, N, .inl (fun q => nI (z q)))), (d, .inl (.long, N, .inr (.inl V)))]) 7 _ 0 0 (hp [(h, .inr (2, [.ref a, .ref b, .ref d, .int (nI n)])), (a, .inl (.long, N, .inr (.inl K))), (b, .inl (.int, N, .inl (fun q => nI (z q)))), (d, .inl (.long, N, .inr (.inl V)))]) 0 [(0, .ref h), (1, .long k), (3, .int (nI m)), (4, .long v)] []
  have hl9 := plc_le K k n
  refine g_aload_n X d_RW_addMissing_0 0 rfl ?_
  refine g_lload_n X d_RW_addMissing_1 1 rfl ?_
  refine h_callV (As := [.long k]) (st := []) [0, 1, 2, 3] [(h, .inr (2, [.ref a, .ref b, .ref d, .int (nI n)])), (a, .inl (.long, N, .inr (.inl K))), (b, .inl (.int, N, .inl (fun q => nI (z q)))), (d, .inl (.long, N, .inr (.inl V)))] X d_RW_addMissing_2 (c_RW_placeOf hst hn hN hs hnN) (hl_w 0 rfl hn) rfl rfl k_ml_RW_26 k_cd_RW_placeOf k_in_RW k_im_RW_placeOf k_se_RW_placeOf ⟨by decide +kernel, by decide +kernel, (by decide +kernel : (parseMethodDescriptor y_RW_placeOf.desc).map (fun d => d.parameters.length) = some 1)⟩ ⟨Nat.le_of_ble_eq_true rfl, Nat.le_of_ble_eq_true rfl⟩ ⟨Nat.le_of_ble_eq_true rfl, Nat.le_of_ble_eq_true rfl⟩ (Nat.le_of_ble_eq_true rfl) hn rfl rfl rfl hp_no hp_no2 ?_
  have e9 : plr K n k = (-1) - nI (plc K k n) := by rw [plr, if_neg hf]
  refine g_vi ((-1) - nI (plc K k n)) e9 ?_
  refine g_istore [(6, .int ((-1) - nI (plc K k n))), (0, .ref h), (1, .long k), (3, .int (nI m)), (4, .long v)] X d_RW_addMissing_5 (by decide) rfl ?_
  refine g_iload X d_RW_addMissing_7 0 rfl ?_
  refine g_if_ge 25 X d_RW_addMissing_9 (by decide) (fun h9 => ?_) (fun h9 => ?_)
  · exact absurd (neg1_lt (by omega)) (Int32.not_lt.mpr h9)
  · refine g_aload_n X d_RW_addMissing_12 1 rfl ?_
    refine g_iconst (-1) X d_RW_addMissing_13 (by decide) ?_
    refine g_iload X d_RW_addMissing_14 0 rfl ?_
    refine g_isub X d_RW_addMissing_16 ?_
    refine g_vi (nI (plc K k n)) (neg1_back _) ?_
    refine g_lload_n X d_RW_addMissing_17 2 rfl ?_
    refine g_iload_n X d_RW_addMissing_18 3 rfl ?_
    refine g_lload X d_RW_addMissing_19 4 rfl ?_
    refine h_callV (As := [.int (nI (plc K k n)), .long k, .int (nI m), .long v]) (st := []) [0, 1, 2, 3] [(h, .inr (2, [.ref a, .ref b, .ref d, .int (nI (n + 1))])), (a, .inl (.long, N, .inr (.inl (insF K n (plc K k n) k)))), (b, .inl (.int, N, .inl (fun q => nI (((insF z n (plc K k n) m)) q)))), (d, .inl (.long, N, .inr (.inl (insF V n (plc K k n) v))))] X d_RW_addMissing_21 (c_RW_insert hst hn hN (by omega) (by omega)) (hl_w 0 rfl hn) rfl rfl k_ml_RW_30 k_cd_RW_insert k_in_RW k_im_RW_insert k_se_RW_insert ⟨by decide +kernel, by decide +kernel, (by decide +kernel : (parseMethodDescriptor y_RW_insert.desc).map (fun d => d.parameters.length) = some 4)⟩ ⟨Nat.le_of_ble_eq_true rfl, Nat.le_of_ble_eq_true rfl⟩ ⟨Nat.le_of_ble_eq_true rfl, Nat.le_of_ble_eq_true rfl⟩ (Nat.le_of_ble_eq_true rfl) hn rfl rfl rfl hp_no hp_no2 ?_
    refine g_pop X d_RW_addMissing_24 rfl ?_
    exact g_vret X hr d_RW_addMissing_25 (Nat.le_of_ble_eq_true rfl) (Nat.le_of_ble_eq_true rfl) (fh_ret_i)

set_option maxRecDepth 100000 in
set_option maxHeartbeats 4000000 in
theorem c_RW_bytes {l : Launch} (hst : l.stackTraces = false) {h a b d N n : Nat} {K V : Nat → Int64} {z : Nat → Nat} (hn : [h, a, b, d].Nodup) (hN : N < 2 ^ 20) (hz : ∀ i, i < n → okn (z i)) (hnN : n ≤ N) : fh_C l fhCl fhT y_RW_bytes (.code y_RW_bytes b_RW_bytes 3 (some .int)) 1 20 [.ref h] (hp [(h, .inr (2, [.ref a, .ref b, .ref d, .int (nI n)])), (a, .inl (.long, N, .inr (.inl K))), (b, .inl (.int, N, .inl (fun q => nI (z q)))), (d, .inl (.long, N, .inr (.inl V)))]) (hp []) 0 0 (fh_ret (some (.int (nI (bySum z n)))) [(h, .inr (2, [.ref a, .ref b, .ref d, .int (nI n)])), (a, .inl (.long, N, .inr (.inl K))), (b, .inl (.int, N, .inl (fun q => nI (z q)))), (d, .inl (.long, N, .inr (.inl V)))]) := by
  refine fh_enter (by decide) hst (Nat.le_of_ble_eq_true rfl) ?_
  intro D mp me sm mm margs mbel mmet mcod X hr hnm hno hf0
  show fh_G mp l me (fh_rm 1 20 0 0) sm mm margs mbel mmet mcod D fhCl (hp [(h, .inr (2, [.ref a, .ref b, .ref d, .int (nI n)])), (a, .inl (.long, N, .inr (.inl K))), (b, .inl (.int, N, .inl (fun q => nI (z q)))), (d, .inl (.long, N, .inr (.inl V)))]) 3 _ 0 0 (hp [(h, .inr (2, [.ref a, .ref b, .ref d, .int (nI n)])), (a, .inl (.long, N, .inr (.inl K))), (b, .inl (.int, N, .inl (fun q => nI (z q)))), (d, .inl (.long, N, .inr (.inl V)))]) 0 [(0, .ref h)] []
  refine g_iconst (nI 0) X d_RW_bytes_0 (by decide) ?_
  refine g_istore_n [(1, .int (nI 0)), (0, .ref h)] X d_RW_bytes_1 (by decide) rfl ?_
  refine g_iconst (nI 0) X d_RW_bytes_2 (by decide) ?_
  refine g_istore_n [(2, .int (nI 0)), (1, .int (nI 0)), (0, .ref h)] X d_RW_bytes_3 (by decide) rfl ?_
  have L4 : ∀ (fu4 : Nat) (t : Nat), (t ≤ n) → n - t < fu4 → fh_G mp l me (fh_rm 1 20 0 0) sm mm margs mbel mmet mcod D fhCl (hp [(h, .inr (2, [.ref a, .ref b, .ref d, .int (nI n)])), (a, .inl (.long, N, .inr (.inl K))), (b, .inl (.int, N, .inl (fun q => nI (z q)))), (d, .inl (.long, N, .inr (.inl V)))]) 3 (fh_MQ mbel D fhCl (hp [(h, .inr (2, [.ref a, .ref b, .ref d, .int (nI n)])), (a, .inl (.long, N, .inr (.inl K))), (b, .inl (.int, N, .inl (fun q => nI (z q)))), (d, .inl (.long, N, .inr (.inl V)))]) (fh_ret (some (.int (nI (bySum z n)))) [(h, .inr (2, [.ref a, .ref b, .ref d, .int (nI n)])), (a, .inl (.long, N, .inr (.inl K))), (b, .inl (.int, N, .inl (fun q => nI (z q)))), (d, .inl (.long, N, .inr (.inl V)))]) margs sm 0 0) 0 0 (hp [(h, .inr (2, [.ref a, .ref b, .ref d, .int (nI n)])), (a, .inl (.long, N, .inr (.inl K))), (b, .inl (.int, N, .inl (fun q => nI (z q)))), (d, .inl (.long, N, .inr (.inl V)))]) 4 [(2, .int (nI t)), (1, .int (nI (bySum z t))), (0, .ref h)] [] := by
    intro fu4
    induction fu4 with
    | zero => intro t q1 hm4; exact absurd hm4 (Nat.not_lt_zero _)
    | succ fu4 ih4 =>
      intro t q1 hm4
      refine g_iload_n X d_RW_bytes_4 0 rfl ?_
      refine g_aload_n X d_RW_bytes_5 2 rfl ?_
      refine g_getf (k := 3) X d_RW_bytes_6 (hl_w 0 rfl hn) rfl i_RW (by decide) k_fl_RW_22 (fun _ h => h) rfl ?_
      refine g_icmp_ge 30 X d_RW_bytes_9 (by decide) (fun h9 => ?_) (fun h9 => ?_)
      · have h9 := cv_le (by omega) (by omega) h9
        have e9 : t = n := by omega
        subst e9
        refine g_iload_n X d_RW_bytes_30 1 rfl ?_
        exact g_iret X hr d_RW_bytes_31 (Nat.le_of_ble_eq_true rfl) (Nat.le_of_ble_eq_true rfl) (fh_ret_i)
      · have h9 := cv_nle (by omega) (by omega) h9
        have h17 := bySum_le hz q1
        have h18 := ebn_le (hz t (by omega))
        refine g_iload_n X d_RW_bytes_12 1 rfl ?_
        refine g_aload_n X d_RW_bytes_13 2 rfl ?_
        refine g_getf (k := 1) X d_RW_bytes_14 (hl_w 0 rfl hn) rfl i_RW (by decide) k_fl_RW_15 (fun _ h => h) rfl ?_
        refine g_iload_n X d_RW_bytes_17 0 rfl ?_
        refine h_iald X d_RW_bytes_18 (hl_w 2 rfl hn) (by omega) (by omega) ?_
        refine h_callSN (As := [.int (nI (z t))]) (st := [.int (nI (bySum z t))]) [] [(h, .inr (2, [.ref a, .ref b, .ref d, .int (nI n)])), (a, .inl (.long, N, .inr (.inl K))), (b, .inl (.int, N, .inl (fun q => nI (z q)))), (d, .inl (.long, N, .inr (.inl V)))] X d_RW_bytes_19 (c_RS_entryBytes hst (by rcases hz t (by omega) with h | h <;> omega)) rfl k_ml_RW_48 k_cd_RS_entryBytes k_in_RS k_st_RS_entryBytes ⟨by decide +kernel, by decide +kernel, (by decide +kernel : (parseMethodDescriptor y_RS_entryBytes.desc).map (fun d => d.parameters.length) = some 1)⟩ ⟨Nat.le_of_ble_eq_true rfl, Nat.le_of_ble_eq_true rfl⟩ ⟨Nat.le_of_ble_eq_true rfl, Nat.le_of_ble_eq_true rfl⟩ (Nat.le_of_ble_eq_true rfl) hn rfl rfl rfl hp_no hp_no2 ?_
        refine g_iadd X d_RW_bytes_22 ?_
        refine g_vi (nI (bySum z t + ebn (z t))) (nI_add _ _) ?_
        refine g_istore_n [(1, .int (nI (bySum z t + ebn (z t)))), (2, .int (nI t)), (0, .ref h)] X d_RW_bytes_23 (by decide) rfl ?_
        refine g_iinc (nI (t + 1)) 1 [(2, .int (nI (t + 1))), (1, .int (nI (bySum z t + ebn (z t)))), (0, .ref h)] X d_RW_bytes_24 rfl (nI_1 _) (by decide) rfl ?_
        refine g_goto 4 X d_RW_bytes_27 (by decide) ?_
        exact ih4 (t + 1) (by omega) (by omega)
  exact L4 _ 0 (Nat.zero_le _) (Nat.lt_succ_self _)

set_option maxRecDepth 100000 in
set_option maxHeartbeats 4000000 in
theorem c_RW_filter {l : Launch} (hst : l.stackTraces = false) {h a b d N n : Nat} {K V : Nat → Int64} {z : Nat → Nat} (hn : [h, a, b, d].Nodup) (hN : N < 2 ^ 20) (hnN : n ≤ N) : fh_C l fhCl fhT y_RW_filter (.code y_RW_filter b_RW_filter 4 (some .long)) 1 23 [.ref h] (hp [(h, .inr (2, [.ref a, .ref b, .ref d, .int (nI n)])), (a, .inl (.long, N, .inr (.inl K))), (b, .inl (.int, N, .inl (fun q => nI (z q)))), (d, .inl (.long, N, .inr (.inl V)))]) (hp []) 0 0 (fh_ret (some (.long (fbOr K n))) [(h, .inr (2, [.ref a, .ref b, .ref d, .int (nI n)])), (a, .inl (.long, N, .inr (.inl K))), (b, .inl (.int, N, .inl (fun q => nI (z q)))), (d, .inl (.long, N, .inr (.inl V)))]) := by
  refine fh_enter (by decide) hst (Nat.le_of_ble_eq_true rfl) ?_
  intro D mp me sm mm margs mbel mmet mcod X hr hnm hno hf0
  show fh_G mp l me (fh_rm 1 23 0 0) sm mm margs mbel mmet mcod D fhCl (hp [(h, .inr (2, [.ref a, .ref b, .ref d, .int (nI n)])), (a, .inl (.long, N, .inr (.inl K))), (b, .inl (.int, N, .inl (fun q => nI (z q)))), (d, .inl (.long, N, .inr (.inl V)))]) 4 _ 0 0 (hp [(h, .inr (2, [.ref a, .ref b, .ref d, .int (nI n)])), (a, .inl (.long, N, .inr (.inl K))), (b, .inl (.int, N, .inl (fun q => nI (z q)))), (d, .inl (.long, N, .inr (.inl V)))]) 0 [(0, .ref h)] []
  refine g_lconst 0 X d_RW_filter_0 (by decide) ?_
  refine g_lstore_n [(1, .long 0), (0, .ref h)] X d_RW_filter_1 (by decide) rfl ?_
  refine g_iconst (nI 0) X d_RW_filter_2 (by decide) ?_
  refine g_istore_n [(3, .int (nI 0)), (1, .long 0), (0, .ref h)] X d_RW_filter_3 (by decide) rfl ?_
  have L4 : ∀ (fu4 : Nat) (t : Nat), (t ≤ n) → n - t < fu4 → fh_G mp l me (fh_rm 1 23 0 0) sm mm margs mbel mmet mcod D fhCl (hp [(h, .inr (2, [.ref a, .ref b, .ref d, .int (nI n)])), (a, .inl (.long, N, .inr (.inl K))), (b, .inl (.int, N, .inl (fun q => nI (z q)))), (d, .inl (.long, N, .inr (.inl V)))]) 4 (fh_MQ mbel D fhCl (hp [(h, .inr (2, [.ref a, .ref b, .ref d, .int (nI n)])), (a, .inl (.long, N, .inr (.inl K))), (b, .inl (.int, N, .inl (fun q => nI (z q)))), (d, .inl (.long, N, .inr (.inl V)))]) (fh_ret (some (.long (fbOr K n))) [(h, .inr (2, [.ref a, .ref b, .ref d, .int (nI n)])), (a, .inl (.long, N, .inr (.inl K))), (b, .inl (.int, N, .inl (fun q => nI (z q)))), (d, .inl (.long, N, .inr (.inl V)))]) margs sm 0 0) 0 0 (hp [(h, .inr (2, [.ref a, .ref b, .ref d, .int (nI n)])), (a, .inl (.long, N, .inr (.inl K))), (b, .inl (.int, N, .inl (fun q => nI (z q)))), (d, .inl (.long, N, .inr (.inl V)))]) 4 [(3, .int (nI t)), (1, .long (fbOr K t)), (0, .ref h)] [] := by
    intro fu4
    induction fu4 with
    | zero => intro t q1 hm4; exact absurd hm4 (Nat.not_lt_zero _)
    | succ fu4 ih4 =>
      intro t q1 hm4
      refine g_iload_n X d_RW_filter_4 0 rfl ?_
      refine g_aload_n X d_RW_filter_5 2 rfl ?_
      refine g_getf (k := 3) X d_RW_filter_6 (hl_w 0 rfl hn) rfl i_RW (by decide) k_fl_RW_22 (fun _ h => h) rfl ?_
      refine g_icmp_ge 30 X d_RW_filter_9 (by decide) (fun h9 => ?_) (fun h9 => ?_)
      · have h9 := cv_le (by omega) (by omega) h9
        have e9 : t = n := by omega
        subst e9
        refine g_lload_n X d_RW_filter_30 1 rfl ?_
        exact g_lret X hr d_RW_filter_31 (Nat.le_of_ble_eq_true rfl) (Nat.le_of_ble_eq_true rfl) (fh_ret_i)
      · have h9 := cv_nle (by omega) (by omega) h9
        refine g_lload_n X d_RW_filter_12 1 rfl ?_
        refine g_aload_n X d_RW_filter_13 2 rfl ?_
        refine g_getf (k := 0) X d_RW_filter_14 (hl_w 0 rfl hn) rfl i_RW (by decide) k_fl_RW_9 (fun _ h => h) rfl ?_
        refine g_iload_n X d_RW_filter_17 0 rfl ?_
        refine h_lald X d_RW_filter_18 (hl_w 1 rfl hn) (by omega) (by omega) ?_
        refine h_callSN (As := [.long (K t)]) (st := [.long (fbOr K t)]) [] [(h, .inr (2, [.ref a, .ref b, .ref d, .int (nI n)])), (a, .inl (.long, N, .inr (.inl K))), (b, .inl (.int, N, .inl (fun q => nI (z q)))), (d, .inl (.long, N, .inr (.inl V)))] X d_RW_filter_19 (c_RS_filterBits hst) rfl k_ml_RW_52 k_cd_RS_filterBits k_in_RS k_st_RS_filterBits ⟨by decide +kernel, by decide +kernel, (by decide +kernel : (parseMethodDescriptor y_RS_filterBits.desc).map (fun d => d.parameters.length) = some 1)⟩ ⟨Nat.le_of_ble_eq_true rfl, Nat.le_of_ble_eq_true rfl⟩ ⟨Nat.le_of_ble_eq_true rfl, Nat.le_of_ble_eq_true rfl⟩ (Nat.le_of_ble_eq_true rfl) hn rfl rfl rfl hp_no hp_no2 ?_
        refine g_lor X d_RW_filter_22 ?_
        refine g_lstore_n [(1, .long ((fbOr K t) ||| (fbits (K t)))), (3, .int (nI t)), (0, .ref h)] X d_RW_filter_23 (by decide) rfl ?_
        refine g_iinc (nI (t + 1)) 1 [(3, .int (nI (t + 1))), (1, .long ((fbOr K t) ||| (fbits (K t)))), (0, .ref h)] X d_RW_filter_24 rfl (nI_1 _) (by decide) rfl ?_
        refine g_goto 4 X d_RW_filter_27 (by decide) ?_
        exact ih4 (t + 1) (by omega) (by omega)
  exact L4 _ 0 (Nat.zero_le _) (Nat.lt_succ_self _)

set_option maxRecDepth 100000 in
set_option maxHeartbeats 4000000 in
theorem c_RW_nextKept_in {l : Launch} (hst : l.stackTraces = false) {h a b d N n : Nat} {K V : Nat → Int64} {z : Nat → Nat} (hn : [h, a, b, d].Nodup) (hN : N < 2 ^ 20) (hs : srt K n) (hnN : n ≤ N) {k : Int64} (hz : ∀ i, i < n → z i < 256) (hf : plc K k n < n ∧ K (plc K k n) = k) : fh_C l fhCl fhT y_RW_nextKept (.code y_RW_nextKept b_RW_nextKept 5 (some .long)) 1 26 [.ref h, .long k] (hp [(h, .inr (2, [.ref a, .ref b, .ref d, .int (nI n)])), (a, .inl (.long, N, .inr (.inl K))), (b, .inl (.int, N, .inl (fun q => nI (z q)))), (d, .inl (.long, N, .inr (.inl V)))]) (hp []) 0 0 (fh_ret (some (.long (nxk K z n k (plc K k n + 1)))) [(h, .inr (2, [.ref a, .ref b, .ref d, .int (nI n)])), (a, .inl (.long, N, .inr (.inl K))), (b, .inl (.int, N, .inl (fun q => nI (z q)))), (d, .inl (.long, N, .inr (.inl V)))]) := by
  refine fh_enter (by decide) hst (Nat.le_of_ble_eq_true rfl) ?_
  intro D mp me sm mm margs mbel mmet mcod X hr hnm hno hf0
  show fh_G mp l me (fh_rm 1 26 0 0) sm mm margs mbel mmet mcod D fhCl (hp [(h, .inr (2, [.ref a, .ref b, .ref d, .int (nI n)])), (a, .inl (.long, N, .inr (.inl K))), (b, .inl (.int, N, .inl (fun q => nI (z q)))), (d, .inl (.long, N, .inr (.inl V)))]) 5 _ 0 0 (hp [(h, .inr (2, [.ref a, .ref b, .ref d, .int (nI n)])), (a, .inl (.long, N, .inr (.inl K))), (b, .inl (.int, N, .inl (fun q => nI (z q)))), (d, .inl (.long, N, .inr (.inl V)))]) 0 [(0, .ref h), (1, .long k)] []
  have hl9 := plc_le K k n
  refine g_aload_n X d_RW_nextKept_0 0 rfl ?_
  refine g_lload_n X d_RW_nextKept_1 1 rfl ?_
  refine h_callV (As := [.long k]) (st := []) [0, 1, 2, 3] [(h, .inr (2, [.ref a, .ref b, .ref d, .int (nI n)])), (a, .inl (.long, N, .inr (.inl K))), (b, .inl (.int, N, .inl (fun q => nI (z q)))), (d, .inl (.long, N, .inr (.inl V)))] X d_RW_nextKept_2 (c_RW_placeOf hst hn hN hs hnN) (hl_w 0 rfl hn) rfl rfl k_ml_RW_26 k_cd_RW_placeOf k_in_RW k_im_RW_placeOf k_se_RW_placeOf ⟨by decide +kernel, by decide +kernel, (by decide +kernel : (parseMethodDescriptor y_RW_placeOf.desc).map (fun d => d.parameters.length) = some 1)⟩ ⟨Nat.le_of_ble_eq_true rfl, Nat.le_of_ble_eq_true rfl⟩ ⟨Nat.le_of_ble_eq_true rfl, Nat.le_of_ble_eq_true rfl⟩ (Nat.le_of_ble_eq_true rfl) hn rfl rfl rfl hp_no hp_no2 ?_
  have e9 : plr K n k = nI (plc K k n) := by rw [plr, if_pos hf]
  refine g_vi (nI (plc K k n)) e9 ?_
  refine g_istore_n [(3, .int (nI (plc K k n))), (0, .ref h), (1, .long k)] X d_RW_nextKept_5 (by decide) rfl ?_
  refine g_iload_n X d_RW_nextKept_6 0 rfl ?_
  refine g_if_lt 16 X d_RW_nextKept_7 (by decide) (fun h7 => ?_) (fun h7 => ?_)
  · exact (cv_l0 (by omega) h7).elim
  · refine g_iload_n X d_RW_nextKept_10 0 rfl ?_
    refine g_iconst (nI 1) X d_RW_nextKept_11 (by decide) ?_
    refine g_iadd X d_RW_nextKept_12 ?_
    refine g_vi (nI (plc K k n + 1)) (nI_add _ _) ?_
    refine g_goto 19 X d_RW_nextKept_13 (by decide) ?_
    refine g_istore [(4, .int (nI (plc K k n + 1))), (3, .int (nI (plc K k n))), (0, .ref h), (1, .long k)] X d_RW_nextKept_19 (by decide) rfl ?_
    have L21 : ∀ (fu21 : Nat) (t : Nat), (t ≤ n) → (nxt z n (n - t) t = nxt z n (n - (plc K k n + 1)) (plc K k n + 1)) → n - t < fu21 → fh_G mp l me (fh_rm 1 26 0 0) sm mm margs mbel mmet mcod D fhCl (hp [(h, .inr (2, [.ref a, .ref b, .ref d, .int (nI n)])), (a, .inl (.long, N, .inr (.inl K))), (b, .inl (.int, N, .inl (fun q => nI (z q)))), (d, .inl (.long, N, .inr (.inl V)))]) 5 (fh_MQ mbel D fhCl (hp [(h, .inr (2, [.ref a, .ref b, .ref d, .int (nI n)])), (a, .inl (.long, N, .inr (.inl K))), (b, .inl (.int, N, .inl (fun q => nI (z q)))), (d, .inl (.long, N, .inr (.inl V)))]) (fh_ret (some (.long (nxk K z n k (plc K k n + 1)))) [(h, .inr (2, [.ref a, .ref b, .ref d, .int (nI n)])), (a, .inl (.long, N, .inr (.inl K))), (b, .inl (.int, N, .inl (fun q => nI (z q)))), (d, .inl (.long, N, .inr (.inl V)))]) margs sm 0 0) 0 0 (hp [(h, .inr (2, [.ref a, .ref b, .ref d, .int (nI n)])), (a, .inl (.long, N, .inr (.inl K))), (b, .inl (.int, N, .inl (fun q => nI (z q)))), (d, .inl (.long, N, .inr (.inl V)))]) 21 [(4, .int (nI t)), (3, .int (nI (plc K k n))), (0, .ref h), (1, .long k)] [] := by
      intro fu21
      induction fu21 with
      | zero => intro t q1 q2 hm21; exact absurd hm21 (Nat.not_lt_zero _)
      | succ fu21 ih21 =>
        intro t q1 q2 hm21
        refine g_iload X d_RW_nextKept_21 0 rfl ?_
        refine g_aload_n X d_RW_nextKept_23 2 rfl ?_
        refine g_getf (k := 3) X d_RW_nextKept_24 (hl_w 0 rfl hn) rfl i_RW (by decide) k_fl_RW_22 (fun _ h => h) rfl ?_
        refine g_icmp_ge 57 X d_RW_nextKept_27 (by decide) (fun h27 => ?_) (fun h27 => ?_)
        · have h27 := cv_le (by omega) (by omega) h27
          have e9 : t = n := by omega
          subst e9
          refine g_lload_n X d_RW_nextKept_57 3 rfl ?_
          exact g_lret X hr d_RW_nextKept_58 (Nat.le_of_ble_eq_true rfl) (Nat.le_of_ble_eq_true rfl) (⟨by rw [nxk, ← q2, nxt_e (Nat.le_refl _), if_neg (Nat.lt_irrefl _)], rfl⟩)
        · have h27 := cv_nle (by omega) (by omega) h27
          have h77 := hz t (by omega)
          refine g_aload_n X d_RW_nextKept_30 2 rfl ?_
          refine g_getf (k := 1) X d_RW_nextKept_31 (hl_w 0 rfl hn) rfl i_RW (by decide) k_fl_RW_15 (fun _ h => h) rfl ?_
          refine g_iload X d_RW_nextKept_34 0 rfl ?_
          refine h_iald X d_RW_nextKept_36 (hl_w 2 rfl hn) (by omega) (by omega) ?_
          refine g_sipush (nI 255) X d_RW_nextKept_37 (by decide) ?_
          refine g_icmp_eq 51 X d_RW_nextKept_40 (by decide) (fun h40 => ?_) (fun h40 => ?_)
          · have h40 := cv_eq (by omega) (by omega) h40
            refine g_iinc (nI (t + 1)) 0 [(4, .int (nI (t + 1))), (3, .int (nI (plc K k n))), (0, .ref h), (1, .long k)] X d_RW_nextKept_51 rfl (nI_1 _) (by decide) rfl ?_
            refine g_goto 21 X d_RW_nextKept_54 (by decide) ?_
            exact ih21 (t + 1) (by omega) (by rw [← nxt_s h27 h40]; exact q2) (by omega)
          · have h40 := cv_ne (by omega) (by omega) h40
            refine g_aload_n X d_RW_nextKept_43 2 rfl ?_
            refine g_getf (k := 0) X d_RW_nextKept_44 (hl_w 0 rfl hn) rfl i_RW (by decide) k_fl_RW_9 (fun _ h => h) rfl ?_
            refine g_iload X d_RW_nextKept_47 0 rfl ?_
            refine h_lald X d_RW_nextKept_49 (hl_w 1 rfl hn) (by omega) (by omega) ?_
            exact g_lret X hr d_RW_nextKept_50 (Nat.le_of_ble_eq_true rfl) (Nat.le_of_ble_eq_true rfl) (⟨by rw [nxk, ← q2, nxt_k h40, if_pos h27], rfl⟩)
    exact L21 _ (plc K k n + 1) (by omega) rfl (Nat.lt_succ_self _)

set_option maxRecDepth 100000 in
set_option maxHeartbeats 4000000 in
theorem c_RW_nextKept_out {l : Launch} (hst : l.stackTraces = false) {h a b d N n : Nat} {K V : Nat → Int64} {z : Nat → Nat} (hn : [h, a, b, d].Nodup) (hN : N < 2 ^ 20) (hs : srt K n) (hnN : n ≤ N) {k : Int64} (hz : ∀ i, i < n → z i < 256) (hf : ¬ (plc K k n < n ∧ K (plc K k n) = k)) : fh_C l fhCl fhT y_RW_nextKept (.code y_RW_nextKept b_RW_nextKept 5 (some .long)) 1 26 [.ref h, .long k] (hp [(h, .inr (2, [.ref a, .ref b, .ref d, .int (nI n)])), (a, .inl (.long, N, .inr (.inl K))), (b, .inl (.int, N, .inl (fun q => nI (z q)))), (d, .inl (.long, N, .inr (.inl V)))]) (hp []) 0 0 (fh_ret (some (.long (nxk K z n k (plc K k n)))) [(h, .inr (2, [.ref a, .ref b, .ref d, .int (nI n)])), (a, .inl (.long, N, .inr (.inl K))), (b, .inl (.int, N, .inl (fun q => nI (z q)))), (d, .inl (.long, N, .inr (.inl V)))]) := by
  refine fh_enter (by decide) hst (Nat.le_of_ble_eq_true rfl) ?_
  intro D mp me sm mm margs mbel mmet mcod X hr hnm hno hf0
  show fh_G mp l me (fh_rm 1 26 0 0) sm mm margs mbel mmet mcod D fhCl (hp [(h, .inr (2, [.ref a, .ref b, .ref d, .int (nI n)])), (a, .inl (.long, N, .inr (.inl K))), (b, .inl (.int, N, .inl (fun q => nI (z q)))), (d, .inl (.long, N, .inr (.inl V)))]) 5 _ 0 0 (hp [(h, .inr (2, [.ref a, .ref b, .ref d, .int (nI n)])), (a, .inl (.long, N, .inr (.inl K))), (b, .inl (.int, N, .inl (fun q => nI (z q)))), (d, .inl (.long, N, .inr (.inl V)))]) 0 [(0, .ref h), (1, .long k)] []
  have hl9 := plc_le K k n
  refine g_aload_n X d_RW_nextKept_0 0 rfl ?_
  refine g_lload_n X d_RW_nextKept_1 1 rfl ?_
  refine h_callV (As := [.long k]) (st := []) [0, 1, 2, 3] [(h, .inr (2, [.ref a, .ref b, .ref d, .int (nI n)])), (a, .inl (.long, N, .inr (.inl K))), (b, .inl (.int, N, .inl (fun q => nI (z q)))), (d, .inl (.long, N, .inr (.inl V)))] X d_RW_nextKept_2 (c_RW_placeOf hst hn hN hs hnN) (hl_w 0 rfl hn) rfl rfl k_ml_RW_26 k_cd_RW_placeOf k_in_RW k_im_RW_placeOf k_se_RW_placeOf ⟨by decide +kernel, by decide +kernel, (by decide +kernel : (parseMethodDescriptor y_RW_placeOf.desc).map (fun d => d.parameters.length) = some 1)⟩ ⟨Nat.le_of_ble_eq_true rfl, Nat.le_of_ble_eq_true rfl⟩ ⟨Nat.le_of_ble_eq_true rfl, Nat.le_of_ble_eq_true rfl⟩ (Nat.le_of_ble_eq_true rfl) hn rfl rfl rfl hp_no hp_no2 ?_
  have e9 : plr K n k = (-1) - nI (plc K k n) := by rw [plr, if_neg hf]
  refine g_vi ((-1) - nI (plc K k n)) e9 ?_
  refine g_istore_n [(3, .int ((-1) - nI (plc K k n))), (0, .ref h), (1, .long k)] X d_RW_nextKept_5 (by decide) rfl ?_
  refine g_iload_n X d_RW_nextKept_6 0 rfl ?_
  refine g_if_lt 16 X d_RW_nextKept_7 (by decide) (fun h7 => ?_) (fun h7 => ?_)
  · refine g_iconst (-1) X d_RW_nextKept_16 (by decide) ?_
    refine g_iload_n X d_RW_nextKept_17 0 rfl ?_
    refine g_isub X d_RW_nextKept_18 ?_
    refine g_vi (nI (plc K k n)) (neg1_back _) ?_
    refine g_istore [(4, .int (nI (plc K k n))), (3, .int ((-1) - nI (plc K k n))), (0, .ref h), (1, .long k)] X d_RW_nextKept_19 (by decide) rfl ?_
    have L21 : ∀ (fu21 : Nat) (t : Nat), (t ≤ n) → (nxt z n (n - t) t = nxt z n (n - (plc K k n)) (plc K k n)) → n - t < fu21 → fh_G mp l me (fh_rm 1 26 0 0) sm mm margs mbel mmet mcod D fhCl (hp [(h, .inr (2, [.ref a, .ref b, .ref d, .int (nI n)])), (a, .inl (.long, N, .inr (.inl K))), (b, .inl (.int, N, .inl (fun q => nI (z q)))), (d, .inl (.long, N, .inr (.inl V)))]) 5 (fh_MQ mbel D fhCl (hp [(h, .inr (2, [.ref a, .ref b, .ref d, .int (nI n)])), (a, .inl (.long, N, .inr (.inl K))), (b, .inl (.int, N, .inl (fun q => nI (z q)))), (d, .inl (.long, N, .inr (.inl V)))]) (fh_ret (some (.long (nxk K z n k (plc K k n)))) [(h, .inr (2, [.ref a, .ref b, .ref d, .int (nI n)])), (a, .inl (.long, N, .inr (.inl K))), (b, .inl (.int, N, .inl (fun q => nI (z q)))), (d, .inl (.long, N, .inr (.inl V)))]) margs sm 0 0) 0 0 (hp [(h, .inr (2, [.ref a, .ref b, .ref d, .int (nI n)])), (a, .inl (.long, N, .inr (.inl K))), (b, .inl (.int, N, .inl (fun q => nI (z q)))), (d, .inl (.long, N, .inr (.inl V)))]) 21 [(4, .int (nI t)), (3, .int ((-1) - nI (plc K k n))), (0, .ref h), (1, .long k)] [] := by
      intro fu21
      induction fu21 with
      | zero => intro t q1 q2 hm21; exact absurd hm21 (Nat.not_lt_zero _)
      | succ fu21 ih21 =>
        intro t q1 q2 hm21
        refine g_iload X d_RW_nextKept_21 0 rfl ?_
        refine g_aload_n X d_RW_nextKept_23 2 rfl ?_
        refine g_getf (k := 3) X d_RW_nextKept_24 (hl_w 0 rfl hn) rfl i_RW (by decide) k_fl_RW_22 (fun _ h => h) rfl ?_
        refine g_icmp_ge 57 X d_RW_nextKept_27 (by decide) (fun h27 => ?_) (fun h27 => ?_)
        · have h27 := cv_le (by omega) (by omega) h27
          have e9 : t = n := by omega
          subst e9
          refine g_lload_n X d_RW_nextKept_57 3 rfl ?_
          exact g_lret X hr d_RW_nextKept_58 (Nat.le_of_ble_eq_true rfl) (Nat.le_of_ble_eq_true rfl) (⟨by rw [nxk, ← q2, nxt_e (Nat.le_refl _), if_neg (Nat.lt_irrefl _)], rfl⟩)
        · have h27 := cv_nle (by omega) (by omega) h27
          have h77 := hz t (by omega)
          refine g_aload_n X d_RW_nextKept_30 2 rfl ?_
          refine g_getf (k := 1) X d_RW_nextKept_31 (hl_w 0 rfl hn) rfl i_RW (by decide) k_fl_RW_15 (fun _ h => h) rfl ?_
          refine g_iload X d_RW_nextKept_34 0 rfl ?_
          refine h_iald X d_RW_nextKept_36 (hl_w 2 rfl hn) (by omega) (by omega) ?_
          refine g_sipush (nI 255) X d_RW_nextKept_37 (by decide) ?_
          refine g_icmp_eq 51 X d_RW_nextKept_40 (by decide) (fun h40 => ?_) (fun h40 => ?_)
          · have h40 := cv_eq (by omega) (by omega) h40
            refine g_iinc (nI (t + 1)) 0 [(4, .int (nI (t + 1))), (3, .int ((-1) - nI (plc K k n))), (0, .ref h), (1, .long k)] X d_RW_nextKept_51 rfl (nI_1 _) (by decide) rfl ?_
            refine g_goto 21 X d_RW_nextKept_54 (by decide) ?_
            exact ih21 (t + 1) (by omega) (by rw [← nxt_s h27 h40]; exact q2) (by omega)
          · have h40 := cv_ne (by omega) (by omega) h40
            refine g_aload_n X d_RW_nextKept_43 2 rfl ?_
            refine g_getf (k := 0) X d_RW_nextKept_44 (hl_w 0 rfl hn) rfl i_RW (by decide) k_fl_RW_9 (fun _ h => h) rfl ?_
            refine g_iload X d_RW_nextKept_47 0 rfl ?_
            refine h_lald X d_RW_nextKept_49 (hl_w 1 rfl hn) (by omega) (by omega) ?_
            exact g_lret X hr d_RW_nextKept_50 (Nat.le_of_ble_eq_true rfl) (Nat.le_of_ble_eq_true rfl) (⟨by rw [nxk, ← q2, nxt_k h40, if_pos h27], rfl⟩)
    exact L21 _ (plc K k n) (by omega) rfl (Nat.lt_succ_self _)
  · exact absurd (neg1_lt (by omega)) h7

set_option maxRecDepth 100000 in
set_option maxHeartbeats 4000000 in
theorem c_RW_removeMarks {l : Launch} (hst : l.stackTraces = false) {h a b d N n : Nat} {K V : Nat → Int64} {z : Nat → Nat} (hn : [h, a, b, d].Nodup) (hN : N < 2 ^ 20) (hnN : n ≤ N) (hz : ∀ i, i < n → z i < 256) : fh_C l fhCl fhT y_RW_removeMarks (.code y_RW_removeMarks b_RW_removeMarks 3 none) 1 26 [.ref h] (hp [(h, .inr (2, [.ref a, .ref b, .ref d, .int (nI n)])), (a, .inl (.long, N, .inr (.inl K))), (b, .inl (.int, N, .inl (fun q => nI (z q)))), (d, .inl (.long, N, .inr (.inl V)))]) (hp []) 0 0 (fh_ret none [(h, .inr (2, [.ref a, .ref b, .ref d, .int (nI (kpt z n))])), (a, .inl (.long, N, .inr (.inl (cmpF z K n)))), (b, .inl (.int, N, .inl (fun q => nI (((cmpF z z n)) q)))), (d, .inl (.long, N, .inr (.inl (cmpF z V n))))]) := by
  refine fh_enter (by decide) hst (Nat.le_of_ble_eq_true rfl) ?_
  intro D mp me sm mm margs mbel mmet mcod X hr hnm hno hf0
  show fh_G mp l me (fh_rm 1 26 0 0) sm mm margs mbel mmet mcod D fhCl (hp [(h, .inr (2, [.ref a, .ref b, .ref d, .int (nI n)])), (a, .inl (.long, N, .inr (.inl K))), (b, .inl (.int, N, .inl (fun q => nI (z q)))), (d, .inl (.long, N, .inr (.inl V)))]) 3 _ 0 0 (hp [(h, .inr (2, [.ref a, .ref b, .ref d, .int (nI n)])), (a, .inl (.long, N, .inr (.inl K))), (b, .inl (.int, N, .inl (fun q => nI (z q)))), (d, .inl (.long, N, .inr (.inl V)))]) 0 [(0, .ref h)] []
  refine g_iconst (nI 0) X d_RW_removeMarks_0 (by decide) ?_
  refine g_istore_n [(1, .int (nI 0)), (0, .ref h)] X d_RW_removeMarks_1 (by decide) rfl ?_
  refine g_iconst (nI 0) X d_RW_removeMarks_2 (by decide) ?_
  refine g_istore_n [(2, .int (nI 0)), (1, .int (nI 0)), (0, .ref h)] X d_RW_removeMarks_3 (by decide) rfl ?_
  have L4 : ∀ (fu4 : Nat) (t : Nat), (t ≤ n) → n - t < fu4 → fh_G mp l me (fh_rm 1 26 0 0) sm mm margs mbel mmet mcod D fhCl (hp [(h, .inr (2, [.ref a, .ref b, .ref d, .int (nI n)])), (a, .inl (.long, N, .inr (.inl K))), (b, .inl (.int, N, .inl (fun q => nI (z q)))), (d, .inl (.long, N, .inr (.inl V)))]) 3 (fh_MQ mbel D fhCl (hp [(h, .inr (2, [.ref a, .ref b, .ref d, .int (nI n)])), (a, .inl (.long, N, .inr (.inl K))), (b, .inl (.int, N, .inl (fun q => nI (z q)))), (d, .inl (.long, N, .inr (.inl V)))]) (fh_ret none [(h, .inr (2, [.ref a, .ref b, .ref d, .int (nI (kpt z n))])), (a, .inl (.long, N, .inr (.inl (cmpF z K n)))), (b, .inl (.int, N, .inl (fun q => nI (((cmpF z z n)) q)))), (d, .inl (.long, N, .inr (.inl (cmpF z V n))))]) margs sm 0 0) 0 0 (hp [(h, .inr (2, [.ref a, .ref b, .ref d, .int (nI n)])), (a, .inl (.long, N, .inr (.inl (cmpF z K t)))), (b, .inl (.int, N, .inl (fun q => nI (((cmpF z z t)) q)))), (d, .inl (.long, N, .inr (.inl (cmpF z V t))))]) 4 [(2, .int (nI t)), (1, .int (nI (kpt z t))), (0, .ref h)] [] := by
    intro fu4
    induction fu4 with
    | zero => intro t q1 hm4; exact absurd hm4 (Nat.not_lt_zero _)
    | succ fu4 ih4 =>
      intro t q1 hm4
      refine g_iload_n X d_RW_removeMarks_4 0 rfl ?_
      refine g_aload_n X d_RW_removeMarks_5 2 rfl ?_
      refine g_getf (k := 3) X d_RW_removeMarks_6 (hl_w 0 rfl hn) rfl i_RW (by decide) k_fl_RW_22 (fun _ h => h) rfl ?_
      refine g_icmp_ge 56 X d_RW_removeMarks_9 (by decide) (fun h9 => ?_) (fun h9 => ?_)
      · have h9 := cv_le (by omega) (by omega) h9
        have e9 : t = n := by omega
        subst e9
        refine g_aload_n X d_RW_removeMarks_56 2 rfl ?_
        refine g_iload_n X d_RW_removeMarks_57 1 rfl ?_
        refine h_putf (k := 3) (ty := .int) 0 [(h, .inr (2, [.ref a, .ref b, .ref d, .int (nI (kpt z t))])), (a, .inl (.long, N, .inr (.inl (cmpF z K t)))), (b, .inl (.int, N, .inl (fun q => nI (((cmpF z z t)) q)))), (d, .inl (.long, N, .inr (.inl (cmpF z V t))))] X d_RW_removeMarks_58 hn rfl rfl i_RW t_RW t_RW_ok n_RW (by decide) k_fl_RW_22 (fun _ h => h) rfl (by decide +kernel) rfl rfl (Nat.le_of_ble_eq_true rfl) rfl ?_
        exact g_vret X hr d_RW_removeMarks_61 (Nat.le_of_ble_eq_true rfl) (Nat.le_of_ble_eq_true rfl) (fh_ret_i)
      · have h9 := cv_nle (by omega) (by omega) h9
        have h77 := hz t (by omega)
        refine g_aload_n X d_RW_removeMarks_12 2 rfl ?_
        refine g_getf (k := 1) X d_RW_removeMarks_13 (hl_w 0 rfl hn) rfl i_RW (by decide) k_fl_RW_15 (fun _ h => h) rfl ?_
        refine g_iload_n X d_RW_removeMarks_16 0 rfl ?_
        refine h_iald X d_RW_removeMarks_17 (hl_w 2 rfl hn) (by omega) (by omega) ?_
        refine g_vi (nI (z t)) (by rw [cmpF_above z z t t (kpt_le z t)]) ?_
        refine g_sipush (nI 255) X d_RW_removeMarks_18 (by decide) ?_
        refine g_icmp_eq 50 X d_RW_removeMarks_21 (by decide) (fun h21 => ?_) (fun h21 => ?_)
        · have h21 := cv_eq (by omega) (by omega) h21
          refine g_iinc (nI (t + 1)) 0 [(2, .int (nI (t + 1))), (1, .int (nI (kpt z t))), (0, .ref h)] X d_RW_removeMarks_50 rfl (nI_1 _) (by decide) rfl ?_
          refine g_goto 4 X d_RW_removeMarks_53 (by decide) ?_
          refine g_hp (ws' := [(h, .inr (2, [.ref a, .ref b, .ref d, .int (nI n)])), (a, .inl (.long, N, .inr (.inl (cmpF z K (t + 1))))), (b, .inl (.int, N, .inl (fun q => nI (((cmpF z z (t + 1))) q)))), (d, .inl (.long, N, .inr (.inl (cmpF z V (t + 1)))))]) (by simp only [cmpF, kpt, if_pos h21]) ?_
          refine g_lve (lv' := [(2, .int (nI (t + 1))), (1, .int (nI (kpt z (t + 1)))), (0, .ref h)]) (by simp only [cmpF, kpt, if_pos h21]) ?_
          exact ih4 (t + 1) (by omega) (by omega)
        · have h21 := cv_ne (by omega) (by omega) h21
          refine g_aload_n X d_RW_removeMarks_24 2 rfl ?_
          refine g_iload_n X d_RW_removeMarks_25 1 rfl ?_
          refine g_aload_n X d_RW_removeMarks_26 2 rfl ?_
          refine g_getf (k := 0) X d_RW_removeMarks_27 (hl_w 0 rfl hn) rfl i_RW (by decide) k_fl_RW_9 (fun _ h => h) rfl ?_
          refine g_iload_n X d_RW_removeMarks_30 0 rfl ?_
          refine h_lald X d_RW_removeMarks_31 (hl_w 1 rfl hn) (by omega) (by omega) ?_
          refine g_vl (K t) (cmpF_above z K t t (kpt_le z t)) ?_
          refine g_aload_n X d_RW_removeMarks_32 2 rfl ?_
          refine g_getf (k := 1) X d_RW_removeMarks_33 (hl_w 0 rfl hn) rfl i_RW (by decide) k_fl_RW_15 (fun _ h => h) rfl ?_
          refine g_iload_n X d_RW_removeMarks_36 0 rfl ?_
          refine h_iald X d_RW_removeMarks_37 (hl_w 2 rfl hn) (by omega) (by omega) ?_
          refine g_vi (nI (z t)) (by rw [cmpF_above z z t t (kpt_le z t)]) ?_
          refine g_aload_n X d_RW_removeMarks_38 2 rfl ?_
          refine g_getf (k := 2) X d_RW_removeMarks_39 (hl_w 0 rfl hn) rfl i_RW (by decide) k_fl_RW_19 (fun _ h => h) rfl ?_
          refine g_iload_n X d_RW_removeMarks_42 0 rfl ?_
          refine h_lald X d_RW_removeMarks_43 (hl_w 3 rfl hn) (by omega) (by omega) ?_
          refine g_vl (V t) (cmpF_above z V t t (kpt_le z t)) ?_
          refine h_callV (As := [.int (nI (kpt z t)), .long (K t), .int (nI (z t)), .long (V t)]) (st := []) [0, 1, 2, 3] [(h, .inr (2, [.ref a, .ref b, .ref d, .int (nI n)])), (a, .inl (.long, N, .inr (.inl (va_up (cmpF z K t) (kpt z t) (K t))))), (b, .inl (.int, N, .inl (fun q => nI (((va_up (cmpF z z t) (kpt z t) (z t))) q)))), (d, .inl (.long, N, .inr (.inl (va_up (cmpF z V t) (kpt z t) (V t)))))] X d_RW_removeMarks_44 (c_RW_write hst hn hN (by have := kpt_le z t; omega)) (hl_w 0 rfl hn) rfl rfl k_ml_RW_44 k_cd_RW_write k_in_RW k_im_RW_write k_se_RW_write ⟨by decide +kernel, by decide +kernel, (by decide +kernel : (parseMethodDescriptor y_RW_write.desc).map (fun d => d.parameters.length) = some 4)⟩ ⟨Nat.le_of_ble_eq_true rfl, Nat.le_of_ble_eq_true rfl⟩ ⟨Nat.le_of_ble_eq_true rfl, Nat.le_of_ble_eq_true rfl⟩ (Nat.le_of_ble_eq_true rfl) hn rfl rfl rfl hp_no hp_no2 ?_
          refine g_iinc (nI (kpt z t + 1)) 1 [(1, .int (nI (kpt z t + 1))), (2, .int (nI t)), (0, .ref h)] X d_RW_removeMarks_47 rfl (nI_1 _) (by decide) rfl ?_
          refine g_iinc (nI (t + 1)) 1 [(2, .int (nI (t + 1))), (1, .int (nI (kpt z t + 1))), (0, .ref h)] X d_RW_removeMarks_50 rfl (nI_1 _) (by decide) rfl ?_
          refine g_goto 4 X d_RW_removeMarks_53 (by decide) ?_
          refine g_hp (ws' := [(h, .inr (2, [.ref a, .ref b, .ref d, .int (nI n)])), (a, .inl (.long, N, .inr (.inl (cmpF z K (t + 1))))), (b, .inl (.int, N, .inl (fun q => nI (((cmpF z z (t + 1))) q)))), (d, .inl (.long, N, .inr (.inl (cmpF z V (t + 1)))))]) (by simp only [cmpF, kpt, if_neg h21]) ?_
          refine g_lve (lv' := [(2, .int (nI (t + 1))), (1, .int (nI (kpt z (t + 1)))), (0, .ref h)]) (by simp only [cmpF, kpt, if_neg h21]) ?_
          exact ih4 (t + 1) (by omega) (by omega)
  exact L4 _ 0 (Nat.zero_le _) (Nat.lt_succ_self _)
