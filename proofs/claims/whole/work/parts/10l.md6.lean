set_option maxRecDepth 100000 in
set_option maxHeartbeats 1000000 in
theorem c_MD_check {l : Launch} (hst : l.stackTraces = false) {h y1 y2 y3 y4 y5 y6 y7 y8 y9 y10 y11 y12 y13 y14 y15 y16 y17 M n u c pa el fn js : Nat} {th bd ck ps lc : Int32} {fb ib : Bool} {ek ev : Int64} {mn : Nat → Nat} {bk : Nat → Nat} {S : Nat → Int32} {D : Nat → Nat} (hn : [h, y10, y11, y6, y5].Nodup) {lv en : Nat → Nat} {fl : Nat → Int64} {tb : Nat → TBr} {T : Nat → Int32} (hc16 : c ≤ 16) (hB : tbA lv en mn fl bk tb c) (hK : ∀ t, t < c → tbOk M (tb t)) (hM : M ≤ 128) (hTT : ∀ t k, t < c → k < (tb t).mn → T ((tb t).id k) = nI k) (hD : ∀ q, D q < 256) (hcv : ∀ j, j < M → T j ≠ (-1) → ∃ t k, t < c ∧ k < (tb t).mn ∧ (tb t).id k = j) : fh_C l fhCl fhT y_MD_check (.code y_MD_check b_MD_check 5 (some .int)) 1 25 [.ref h] (hp [(h, .inr (6, [.int th, .int (nI M), .int (nI n), .ref y1, .ref y2, .ref y3, .int (nI u), .ref y4, .ref y5, .ref y6, .ref y7, .int (nI c), .ref y8, .ref y9, .ref y10, .ref y11, .ref y12, .int bd, .int ck, .int ps, .int (nI pa), .int lc, .int (nI (b2n fb)), .long ek, .long ev, .int (nI el), .int (nI fn), .ref y13, .ref y14, .ref y15, .ref y16, .int (nI js), .ref y17, .int (nI (b2n ib))])), (y10, .inl (.int, 17, .inl (fun q => nI (mn q)))), (y11, .inl (.int, 2176, .inl (fun q => nI (bk q)))), (y6, .inl (.int, 128, .inl S)), (y5, .inl (.int, 4096, .inl (fun q => nI (D q))))]) (hp []) 0 0 (fh_ret (some (.int (if lwr S T D M < M then nI (lwr S T D M) else (-1)))) [(h, .inr (6, [.int (nI 0), .int (nI M), .int (nI n), .ref y1, .ref y2, .ref y3, .int (nI u), .ref y4, .ref y5, .ref y6, .ref y7, .int (nI c), .ref y8, .ref y9, .ref y10, .ref y11, .ref y12, .int bd, .int ck, .int ps, .int (nI pa), .int lc, .int (nI (b2n fb)), .long ek, .long ev, .int (nI el), .int (nI fn), .ref y13, .ref y14, .ref y15, .ref y16, .int (nI js), .ref y17, .int (nI (b2n ib))])), (y10, .inl (.int, 17, .inl (fun q => nI (mn q)))), (y11, .inl (.int, 2176, .inl (fun q => nI (bk q)))), (y6, .inl (.int, 128, .inl S)), (y5, .inl (.int, 4096, .inl (fun q => nI (D q))))]) := by
  refine fh_enter (by decide) hst (Nat.le_of_ble_eq_true rfl) ?_
  intro mD mp me sm mm margs mbel mmet mcod X hr hnm hno hf0
  show fh_G mp l me (fh_rm 1 25 0 0) sm mm margs mbel mmet mcod mD fhCl (hp [(h, .inr (6, [.int th, .int (nI M), .int (nI n), .ref y1, .ref y2, .ref y3, .int (nI u), .ref y4, .ref y5, .ref y6, .ref y7, .int (nI c), .ref y8, .ref y9, .ref y10, .ref y11, .ref y12, .int bd, .int ck, .int ps, .int (nI pa), .int lc, .int (nI (b2n fb)), .long ek, .long ev, .int (nI el), .int (nI fn), .ref y13, .ref y14, .ref y15, .ref y16, .int (nI js), .ref y17, .int (nI (b2n ib))])), (y10, .inl (.int, 17, .inl (fun q => nI (mn q)))), (y11, .inl (.int, 2176, .inl (fun q => nI (bk q)))), (y6, .inl (.int, 128, .inl S)), (y5, .inl (.int, 4096, .inl (fun q => nI (D q))))]) 5 _ 0 0 (hp [(h, .inr (6, [.int th, .int (nI M), .int (nI n), .ref y1, .ref y2, .ref y3, .int (nI u), .ref y4, .ref y5, .ref y6, .ref y7, .int (nI c), .ref y8, .ref y9, .ref y10, .ref y11, .ref y12, .int bd, .int ck, .int ps, .int (nI pa), .int lc, .int (nI (b2n fb)), .long ek, .long ev, .int (nI el), .int (nI fn), .ref y13, .ref y14, .ref y15, .ref y16, .int (nI js), .ref y17, .int (nI (b2n ib))])), (y10, .inl (.int, 17, .inl (fun q => nI (mn q)))), (y11, .inl (.int, 2176, .inl (fun q => nI (bk q)))), (y6, .inl (.int, 128, .inl S)), (y5, .inl (.int, 4096, .inl (fun q => nI (D q))))]) 0 [(0, .ref h)] []
  have hn5 : [h, y5].Nodup := (List.Nodup.sublist (by repeat first | exact List.nil_sublist _ | apply List.Sublist.cons₂ | apply List.Sublist.cons) hn)
  refine g_aload_n X d_MD_check_0 0 rfl ?_
  refine g_iconst (nI 0) X d_MD_check_1 (by decide) ?_
  refine h_putf (k := 0) (ty := .int) 0 [(h, .inr (6, [.int (nI 0), .int (nI M), .int (nI n), .ref y1, .ref y2, .ref y3, .int (nI u), .ref y4, .ref y5, .ref y6, .ref y7, .int (nI c), .ref y8, .ref y9, .ref y10, .ref y11, .ref y12, .int bd, .int ck, .int ps, .int (nI pa), .int lc, .int (nI (b2n fb)), .long ek, .long ev, .int (nI el), .int (nI fn), .ref y13, .ref y14, .ref y15, .ref y16, .int (nI js), .ref y17, .int (nI (b2n ib))])), (y10, .inl (.int, 17, .inl (fun q => nI (mn q)))), (y11, .inl (.int, 2176, .inl (fun q => nI (bk q)))), (y6, .inl (.int, 128, .inl S)), (y5, .inl (.int, 4096, .inl (fun q => nI (D q))))] X d_MD_check_2 hn rfl rfl i_MD t_MD t_MD_ok n_MD (by decide) k_fl_MD_70 (fun _ h => h) rfl (by decide +kernel) rfl rfl (Nat.le_of_ble_eq_true rfl) rfl ?_
  refine g_iconst (-1) X d_MD_check_5 (by decide) ?_
  refine g_istore_n [(1, .int (-1)), (0, .ref h)] X d_MD_check_6 (by decide) rfl ?_
  refine g_iconst (nI 0) X d_MD_check_7 (by decide) ?_
  refine g_istore_n [(2, .int (nI 0)), (1, .int (-1)), (0, .ref h)] X d_MD_check_8 (by decide) rfl ?_
  have L9 : ∀ (fu9 : Nat) (t : Nat) (lo : Int32), (t ≤ c) → (mnW lo (wrB tb S T D t 0)) → c - t < fu9 → fh_G mp l me (fh_rm 1 25 0 0) sm mm margs mbel mmet mcod mD fhCl (hp [(h, .inr (6, [.int th, .int (nI M), .int (nI n), .ref y1, .ref y2, .ref y3, .int (nI u), .ref y4, .ref y5, .ref y6, .ref y7, .int (nI c), .ref y8, .ref y9, .ref y10, .ref y11, .ref y12, .int bd, .int ck, .int ps, .int (nI pa), .int lc, .int (nI (b2n fb)), .long ek, .long ev, .int (nI el), .int (nI fn), .ref y13, .ref y14, .ref y15, .ref y16, .int (nI js), .ref y17, .int (nI (b2n ib))])), (y10, .inl (.int, 17, .inl (fun q => nI (mn q)))), (y11, .inl (.int, 2176, .inl (fun q => nI (bk q)))), (y6, .inl (.int, 128, .inl S)), (y5, .inl (.int, 4096, .inl (fun q => nI (D q))))]) 5 (fh_MQ mbel mD fhCl (hp [(h, .inr (6, [.int th, .int (nI M), .int (nI n), .ref y1, .ref y2, .ref y3, .int (nI u), .ref y4, .ref y5, .ref y6, .ref y7, .int (nI c), .ref y8, .ref y9, .ref y10, .ref y11, .ref y12, .int bd, .int ck, .int ps, .int (nI pa), .int lc, .int (nI (b2n fb)), .long ek, .long ev, .int (nI el), .int (nI fn), .ref y13, .ref y14, .ref y15, .ref y16, .int (nI js), .ref y17, .int (nI (b2n ib))])), (y10, .inl (.int, 17, .inl (fun q => nI (mn q)))), (y11, .inl (.int, 2176, .inl (fun q => nI (bk q)))), (y6, .inl (.int, 128, .inl S)), (y5, .inl (.int, 4096, .inl (fun q => nI (D q))))]) (fh_ret (some (.int (if lwr S T D M < M then nI (lwr S T D M) else (-1)))) [(h, .inr (6, [.int (nI 0), .int (nI M), .int (nI n), .ref y1, .ref y2, .ref y3, .int (nI u), .ref y4, .ref y5, .ref y6, .ref y7, .int (nI c), .ref y8, .ref y9, .ref y10, .ref y11, .ref y12, .int bd, .int ck, .int ps, .int (nI pa), .int lc, .int (nI (b2n fb)), .long ek, .long ev, .int (nI el), .int (nI fn), .ref y13, .ref y14, .ref y15, .ref y16, .int (nI js), .ref y17, .int (nI (b2n ib))])), (y10, .inl (.int, 17, .inl (fun q => nI (mn q)))), (y11, .inl (.int, 2176, .inl (fun q => nI (bk q)))), (y6, .inl (.int, 128, .inl S)), (y5, .inl (.int, 4096, .inl (fun q => nI (D q))))]) margs sm 0 0) 0 0 (hp [(h, .inr (6, [.int (nI 0), .int (nI M), .int (nI n), .ref y1, .ref y2, .ref y3, .int (nI u), .ref y4, .ref y5, .ref y6, .ref y7, .int (nI c), .ref y8, .ref y9, .ref y10, .ref y11, .ref y12, .int bd, .int ck, .int ps, .int (nI pa), .int lc, .int (nI (b2n fb)), .long ek, .long ev, .int (nI el), .int (nI fn), .ref y13, .ref y14, .ref y15, .ref y16, .int (nI js), .ref y17, .int (nI (b2n ib))])), (y10, .inl (.int, 17, .inl (fun q => nI (mn q)))), (y11, .inl (.int, 2176, .inl (fun q => nI (bk q)))), (y6, .inl (.int, 128, .inl S)), (y5, .inl (.int, 4096, .inl (fun q => nI (D q))))]) 9 [(2, .int (nI t)), (1, .int lo), (0, .ref h)] [] := by
    intro fu9
    induction fu9 with
    | zero => intro t lo q1 q2 hm9; exact absurd hm9 (Nat.not_lt_zero _)
    | succ fu9 ih9 =>
      intro t lo q1 q2 hm9
      refine g_iload_n X d_MD_check_9 0 rfl ?_
      refine g_aload_n X d_MD_check_10 2 rfl ?_
      refine g_getf (k := 11) X d_MD_check_11 (hl_w 0 rfl hn) rfl i_MD (by decide) k_fl_MD_136 (fun _ h => h) rfl ?_
      refine g_icmp_ge 85 X d_MD_check_14 (by decide) (fun h14 => ?_) (fun h14 => ?_)
      · have h14 := cv_le (by omega) (by omega) h14
        have e8 : t = c := by omega
        subst e8
        refine g_iload_n X d_MD_check_85 1 rfl ?_
        exact g_iret X hr d_MD_check_86 (Nat.le_of_ble_eq_true rfl) (Nat.le_of_ble_eq_true rfl) (⟨by rw [wrB_end q2 hM (fun t ht k hk => ⟨(hK t ht).2.2.1 k hk, by rw [hTT t k ht hk]; have := (hK t ht).2.1; exact nI_m1 (by omega)⟩) hcv], rfl⟩)
      · have h14 := cv_nle (by omega) (by omega) h14
        have ht9 := hK t h14
        have ht8 := ht9.2.1
        refine g_iconst (nI 0) X d_MD_check_17 (by decide) ?_
        refine g_istore_n [(3, .int (nI 0)), (2, .int (nI t)), (1, .int lo), (0, .ref h)] X d_MD_check_18 (by decide) rfl ?_
        have L19 : ∀ (fu19 : Nat) (k : Nat) (lo2 : Int32), (k ≤ (tb t).mn) → (mnW lo2 (wrB tb S T D t k)) → (tb t).mn - k < fu19 → fh_G mp l me (fh_rm 1 25 0 0) sm mm margs mbel mmet mcod mD fhCl (hp [(h, .inr (6, [.int th, .int (nI M), .int (nI n), .ref y1, .ref y2, .ref y3, .int (nI u), .ref y4, .ref y5, .ref y6, .ref y7, .int (nI c), .ref y8, .ref y9, .ref y10, .ref y11, .ref y12, .int bd, .int ck, .int ps, .int (nI pa), .int lc, .int (nI (b2n fb)), .long ek, .long ev, .int (nI el), .int (nI fn), .ref y13, .ref y14, .ref y15, .ref y16, .int (nI js), .ref y17, .int (nI (b2n ib))])), (y10, .inl (.int, 17, .inl (fun q => nI (mn q)))), (y11, .inl (.int, 2176, .inl (fun q => nI (bk q)))), (y6, .inl (.int, 128, .inl S)), (y5, .inl (.int, 4096, .inl (fun q => nI (D q))))]) 5 (fh_MQ mbel mD fhCl (hp [(h, .inr (6, [.int th, .int (nI M), .int (nI n), .ref y1, .ref y2, .ref y3, .int (nI u), .ref y4, .ref y5, .ref y6, .ref y7, .int (nI c), .ref y8, .ref y9, .ref y10, .ref y11, .ref y12, .int bd, .int ck, .int ps, .int (nI pa), .int lc, .int (nI (b2n fb)), .long ek, .long ev, .int (nI el), .int (nI fn), .ref y13, .ref y14, .ref y15, .ref y16, .int (nI js), .ref y17, .int (nI (b2n ib))])), (y10, .inl (.int, 17, .inl (fun q => nI (mn q)))), (y11, .inl (.int, 2176, .inl (fun q => nI (bk q)))), (y6, .inl (.int, 128, .inl S)), (y5, .inl (.int, 4096, .inl (fun q => nI (D q))))]) (fh_ret (some (.int (if lwr S T D M < M then nI (lwr S T D M) else (-1)))) [(h, .inr (6, [.int (nI 0), .int (nI M), .int (nI n), .ref y1, .ref y2, .ref y3, .int (nI u), .ref y4, .ref y5, .ref y6, .ref y7, .int (nI c), .ref y8, .ref y9, .ref y10, .ref y11, .ref y12, .int bd, .int ck, .int ps, .int (nI pa), .int lc, .int (nI (b2n fb)), .long ek, .long ev, .int (nI el), .int (nI fn), .ref y13, .ref y14, .ref y15, .ref y16, .int (nI js), .ref y17, .int (nI (b2n ib))])), (y10, .inl (.int, 17, .inl (fun q => nI (mn q)))), (y11, .inl (.int, 2176, .inl (fun q => nI (bk q)))), (y6, .inl (.int, 128, .inl S)), (y5, .inl (.int, 4096, .inl (fun q => nI (D q))))]) margs sm 0 0) 0 0 (hp [(h, .inr (6, [.int (nI 0), .int (nI M), .int (nI n), .ref y1, .ref y2, .ref y3, .int (nI u), .ref y4, .ref y5, .ref y6, .ref y7, .int (nI c), .ref y8, .ref y9, .ref y10, .ref y11, .ref y12, .int bd, .int ck, .int ps, .int (nI pa), .int lc, .int (nI (b2n fb)), .long ek, .long ev, .int (nI el), .int (nI fn), .ref y13, .ref y14, .ref y15, .ref y16, .int (nI js), .ref y17, .int (nI (b2n ib))])), (y10, .inl (.int, 17, .inl (fun q => nI (mn q)))), (y11, .inl (.int, 2176, .inl (fun q => nI (bk q)))), (y6, .inl (.int, 128, .inl S)), (y5, .inl (.int, 4096, .inl (fun q => nI (D q))))]) 19 [(3, .int (nI k)), (2, .int (nI t)), (1, .int lo2), (0, .ref h)] [] := by
          intro fu19
          induction fu19 with
          | zero => intro k lo2 q3 q4 hm19; exact absurd hm19 (Nat.not_lt_zero _)
          | succ fu19 ih19 =>
            intro k lo2 q3 q4 hm19
            refine g_iload_n X d_MD_check_19 0 rfl ?_
            refine g_aload_n X d_MD_check_20 3 rfl ?_
            refine g_getf (k := 14) X d_MD_check_21 (hl_w 0 rfl hn) rfl i_MD (by decide) k_fl_MD_39 (fun _ h => h) rfl ?_
            refine g_iload_n X d_MD_check_24 1 rfl ?_
            refine h_iald X d_MD_check_25 (hl_w 1 rfl hn) (by omega) (by omega) ?_
            refine g_vi (nI ((tb t).mn)) (by rw [hB t h14 |>.2.2.1]) ?_
            refine g_icmp_ge 79 X d_MD_check_26 (by decide) (fun h26 => ?_) (fun h26 => ?_)
            · have h26 := cv_le (by omega) (by omega) h26
              refine g_iinc (nI (t + 1)) 1 [(2, .int (nI (t + 1))), (3, .int (nI k)), (1, .int lo2), (0, .ref h)] X d_MD_check_79 rfl (nI_1 _) (by decide) rfl ?_
              refine g_goto 9 X d_MD_check_82 (by decide) ?_
              refine g_lv [0, 2, 3] [(2, .int (nI (t + 1))), (1, .int lo2), (0, .ref h)] rfl ?_
              exact ih9 (t + 1) lo2 (by omega) (mnW_r q4 (fun b => wrB_t (by omega))) (by omega)
            · have h26 := cv_nle (by omega) (by omega) h26
              have hb7 := ht9.2.2.1 k h26
              have hb8 : (tb t).id k < 128 := by omega
              refine g_aload_n X d_MD_check_29 3 rfl ?_
              refine g_getf (k := 15) X d_MD_check_30 (hl_w 0 rfl hn) rfl i_MD (by decide) k_fl_MD_42 (fun _ h => h) rfl ?_
              refine g_sipush (nI 128) X d_MD_check_33 (by decide) ?_
              refine g_iload_n X d_MD_check_36 1 rfl ?_
              refine g_imul X d_MD_check_37 ?_
              refine g_vi (nI (128 * t)) (pk_mul _ _) ?_
              refine g_iload_n X d_MD_check_38 0 rfl ?_
              refine g_iadd X d_MD_check_39 ?_
              refine g_vi (nI (128 * t + k)) (nI_add _ _) ?_
              refine h_iald X d_MD_check_40 (hl_w 2 rfl hn) (by omega) (by omega) ?_
              refine g_vi (nI ((tb t).id k)) (by rw [(hB t h14).2.2.2.2 k h26]) ?_
              refine g_istore [(4, .int (nI ((tb t).id k))), (3, .int (nI k)), (2, .int (nI t)), (1, .int lo2), (0, .ref h)] X d_MD_check_41 (by decide) rfl ?_
              refine g_aload_n X d_MD_check_43 4 rfl ?_
              refine g_getf (k := 9) X d_MD_check_44 (hl_w 0 rfl hn) rfl i_MD (by decide) k_fl_MD_26 (fun _ h => h) rfl ?_
              refine g_iload X d_MD_check_47 0 rfl ?_
              refine h_iald X d_MD_check_49 (hl_w 3 rfl hn) hb8 (by omega) ?_
              refine g_aload_n X d_MD_check_50 4 rfl ?_
              refine g_iload X d_MD_check_51 0 rfl ?_
              refine g_iload_n X d_MD_check_53 1 rfl ?_
              refine h_callV (As := [.int (nI ((tb t).id k)), .int (nI k)]) (st := [.int (S ((tb t).id k))]) [0, 4] [(h, .inr (6, [.int (nI 0), .int (nI M), .int (nI n), .ref y1, .ref y2, .ref y3, .int (nI u), .ref y4, .ref y5, .ref y6, .ref y7, .int (nI c), .ref y8, .ref y9, .ref y10, .ref y11, .ref y12, .int bd, .int ck, .int ps, .int (nI pa), .int lc, .int (nI (b2n fb)), .long ek, .long ev, .int (nI el), .int (nI fn), .ref y13, .ref y14, .ref y15, .ref y16, .int (nI js), .ref y17, .int (nI (b2n ib))])), (y10, .inl (.int, 17, .inl (fun q => nI (mn q)))), (y11, .inl (.int, 2176, .inl (fun q => nI (bk q)))), (y6, .inl (.int, 128, .inl S)), (y5, .inl (.int, 4096, .inl (fun q => nI (D q))))] X d_MD_check_54 (c_MD_sumOf hst hn5 hb8) (hl_w 0 rfl hn) rfl rfl k_ml_MD_146 k_cd_MD_sumOf k_in_MD k_im_MD_sumOf k_se_MD_sumOf ⟨by decide +kernel, by decide +kernel, (by decide +kernel : (parseMethodDescriptor y_MD_sumOf.desc).map (fun d => d.parameters.length) = some 2)⟩ ⟨Nat.le_of_ble_eq_true rfl, Nat.le_of_ble_eq_true rfl⟩ ⟨Nat.le_of_ble_eq_true rfl, Nat.le_of_ble_eq_true rfl⟩ (Nat.le_of_ble_eq_true rfl) hn rfl rfl rfl hp_no hp_no2 ?_
              refine g_icmp_eq 73 X d_MD_check_57 (by decide) (fun h57 => ?_) (fun h57 => ?_)
              · have hq9 := mnW_r q4 (fun b => wrB_ok (b := b) h26 (rgt_t (by rw [hTT t k h14 h26]; exact h57)))
                refine g_iinc (nI (k + 1)) 1 [(3, .int (nI (k + 1))), (4, .int (nI ((tb t).id k))), (2, .int (nI t)), (1, .int lo2), (0, .ref h)] X d_MD_check_73 rfl (nI_1 _) (by decide) rfl ?_
                refine g_goto 19 X d_MD_check_76 (by decide) ?_
                refine g_lv [0, 2, 3, 4] [(3, .int (nI (k + 1))), (2, .int (nI t)), (1, .int lo2), (0, .ref h)] rfl ?_
                exact ih19 (k + 1) lo2 (by omega) hq9 (by omega)
              · have hw9 := mnW_w q4 hb8 (fun q => wrB_no (b := q) h26 (rgt_f (by rw [hTT t k h14 h26]; exact h57)))
                refine g_iload_n X d_MD_check_60 3 rfl ?_
                refine g_if_lt 70 X d_MD_check_61 (by decide) (fun h61 => ?_) (fun h61 => ?_)
                · have hq9 := hw9.1 h61
                  refine g_iload X d_MD_check_70 0 rfl ?_
                  refine g_istore_n [(1, .int (nI ((tb t).id k))), (4, .int (nI ((tb t).id k))), (3, .int (nI k)), (2, .int (nI t)), (0, .ref h)] X d_MD_check_72 (by decide) rfl ?_
                  refine g_iinc (nI (k + 1)) 2 [(3, .int (nI (k + 1))), (1, .int (nI ((tb t).id k))), (4, .int (nI ((tb t).id k))), (2, .int (nI t)), (0, .ref h)] X d_MD_check_73 rfl (nI_1 _) (by decide) rfl ?_
                  refine g_goto 19 X d_MD_check_76 (by decide) ?_
                  refine g_lv [0, 1, 3, 4] [(3, .int (nI (k + 1))), (1, .int (nI ((tb t).id k))), (2, .int (nI t)), (0, .ref h)] rfl ?_
                  refine g_lv [0, 2, 1, 3] [(3, .int (nI (k + 1))), (2, .int (nI t)), (1, .int (nI ((tb t).id k))), (0, .ref h)] rfl ?_
                  exact ih19 (k + 1) (nI ((tb t).id k)) (by omega) hq9 (by omega)
                · refine g_iload X d_MD_check_64 0 rfl ?_
                  refine g_iload_n X d_MD_check_66 3 rfl ?_
                  refine g_icmp_ge 73 X d_MD_check_67 (by decide) (fun h67 => ?_) (fun h67 => ?_)
                  · have hq9 := hw9.2.2 h61 (i32_nlt h67)
                    refine g_iinc (nI (k + 1)) 1 [(3, .int (nI (k + 1))), (4, .int (nI ((tb t).id k))), (2, .int (nI t)), (1, .int lo2), (0, .ref h)] X d_MD_check_73 rfl (nI_1 _) (by decide) rfl ?_
                    refine g_goto 19 X d_MD_check_76 (by decide) ?_
                    refine g_lv [0, 2, 3, 4] [(3, .int (nI (k + 1))), (2, .int (nI t)), (1, .int lo2), (0, .ref h)] rfl ?_
                    exact ih19 (k + 1) lo2 (by omega) hq9 (by omega)
                  · have hq9 := hw9.2.1 h61 (Int32.not_le.mp h67)
                    refine g_iload X d_MD_check_70 0 rfl ?_
                    refine g_istore_n [(1, .int (nI ((tb t).id k))), (4, .int (nI ((tb t).id k))), (3, .int (nI k)), (2, .int (nI t)), (0, .ref h)] X d_MD_check_72 (by decide) rfl ?_
                    refine g_iinc (nI (k + 1)) 2 [(3, .int (nI (k + 1))), (1, .int (nI ((tb t).id k))), (4, .int (nI ((tb t).id k))), (2, .int (nI t)), (0, .ref h)] X d_MD_check_73 rfl (nI_1 _) (by decide) rfl ?_
                    refine g_goto 19 X d_MD_check_76 (by decide) ?_
                    refine g_lv [0, 1, 3, 4] [(3, .int (nI (k + 1))), (1, .int (nI ((tb t).id k))), (2, .int (nI t)), (0, .ref h)] rfl ?_
                    refine g_lv [0, 2, 1, 3] [(3, .int (nI (k + 1))), (2, .int (nI t)), (1, .int (nI ((tb t).id k))), (0, .ref h)] rfl ?_
                    exact ih19 (k + 1) (nI ((tb t).id k)) (by omega) hq9 (by omega)
        exact L19 _ 0 lo (Nat.zero_le _) q2 (Nat.lt_succ_self _)
  exact L9 _ 0 (-1) (Nat.zero_le _) (Or.inl ⟨rfl, fun b => wrB_0⟩) (Nat.lt_succ_self _)

set_option maxRecDepth 100000 in
set_option maxHeartbeats 1000000 in
theorem c_MD_look_mem {l : Launch} (hst : l.stackTraces = false) {h y1 y2 y3 y4 y5 y6 y7 y8 y9 y10 y11 y12 y13 y14 y15 y16 y17 M n u c pa el fn js : Nat} {th bd ck ps lc : Int32} {fb ib : Bool} {ek ev : Int64} {K : Nat → Int64} {V : Nat → Int64} {z : Nat → Nat} {fl : Nat → Int64} {bk : Nat → Nat} {S : Nat → Int32} {D : Nat → Nat} {mn : Nat → Nat} {en : Nat → Nat} (hn : [h, y1, y2, y3, y12, y11, y6, y5, y10, y9].Nodup) {k : Int64} (hn24 : n ≤ 24) (hz : ∀ i, i < n → okn (z i)) (hf : plc K k n < n ∧ K (plc K k n) = k) : fh_C l fhCl fhT y_MD_look (.code y_MD_look b_MD_look 6 (some .boolean)) 6 138 [.ref h, .long k] (hp [(h, .inr (6, [.int th, .int (nI M), .int (nI n), .ref y1, .ref y2, .ref y3, .int (nI u), .ref y4, .ref y5, .ref y6, .ref y7, .int (nI c), .ref y8, .ref y9, .ref y10, .ref y11, .ref y12, .int bd, .int ck, .int ps, .int (nI pa), .int lc, .int (nI (b2n fb)), .long ek, .long ev, .int (nI el), .int (nI fn), .ref y13, .ref y14, .ref y15, .ref y16, .int (nI js), .ref y17, .int (nI (b2n ib))])), (y1, .inl (.long, 25, .inr (.inl K))), (y2, .inl (.long, 25, .inr (.inl V))), (y3, .inl (.int, 25, .inl (fun q => nI (z q)))), (y12, .inl (.long, 17, .inr (.inl fl))), (y11, .inl (.int, 2176, .inl (fun q => nI (bk q)))), (y6, .inl (.int, 128, .inl S)), (y5, .inl (.int, 4096, .inl (fun q => nI (D q)))), (y10, .inl (.int, 17, .inl (fun q => nI (mn q)))), (y9, .inl (.int, 17, .inl (fun q => nI (en q))))]) (hp []) 0 0 (fh_ret (some (.int (nI (b2n (lk9 (some (z (plc K k n), V (plc K k n)))))))) [(h, .inr (6, [.int th, .int (nI M), .int (nI n), .ref y1, .ref y2, .ref y3, .int (nI u), .ref y4, .ref y5, .ref y6, .ref y7, .int (nI c), .ref y8, .ref y9, .ref y10, .ref y11, .ref y12, .int (-1), .int ck, .int ps, .int (nI pa), .int lc, .int (nI 0), .long ek, .long (V (plc K k n)), .int (nI (z (plc K k n))), .int (nI fn), .ref y13, .ref y14, .ref y15, .ref y16, .int (nI js), .ref y17, .int (nI (b2n ib))])), (y1, .inl (.long, 25, .inr (.inl K))), (y2, .inl (.long, 25, .inr (.inl V))), (y3, .inl (.int, 25, .inl (fun q => nI (z q)))), (y12, .inl (.long, 17, .inr (.inl fl))), (y11, .inl (.int, 2176, .inl (fun q => nI (bk q)))), (y6, .inl (.int, 128, .inl S)), (y5, .inl (.int, 4096, .inl (fun q => nI (D q)))), (y10, .inl (.int, 17, .inl (fun q => nI (mn q)))), (y9, .inl (.int, 17, .inl (fun q => nI (en q))))]) := by
  refine fh_enter (by decide) hst (Nat.le_of_ble_eq_true rfl) ?_
  intro mD mp me sm mm margs mbel mmet mcod X hr hnm hno hf0
  show fh_G mp l me (fh_rm 6 138 0 0) sm mm margs mbel mmet mcod mD fhCl (hp [(h, .inr (6, [.int th, .int (nI M), .int (nI n), .ref y1, .ref y2, .ref y3, .int (nI u), .ref y4, .ref y5, .ref y6, .ref y7, .int (nI c), .ref y8, .ref y9, .ref y10, .ref y11, .ref y12, .int bd, .int ck, .int ps, .int (nI pa), .int lc, .int (nI (b2n fb)), .long ek, .long ev, .int (nI el), .int (nI fn), .ref y13, .ref y14, .ref y15, .ref y16, .int (nI js), .ref y17, .int (nI (b2n ib))])), (y1, .inl (.long, 25, .inr (.inl K))), (y2, .inl (.long, 25, .inr (.inl V))), (y3, .inl (.int, 25, .inl (fun q => nI (z q)))), (y12, .inl (.long, 17, .inr (.inl fl))), (y11, .inl (.int, 2176, .inl (fun q => nI (bk q)))), (y6, .inl (.int, 128, .inl S)), (y5, .inl (.int, 4096, .inl (fun q => nI (D q)))), (y10, .inl (.int, 17, .inl (fun q => nI (mn q)))), (y9, .inl (.int, 17, .inl (fun q => nI (en q))))]) 6 _ 0 0 (hp [(h, .inr (6, [.int th, .int (nI M), .int (nI n), .ref y1, .ref y2, .ref y3, .int (nI u), .ref y4, .ref y5, .ref y6, .ref y7, .int (nI c), .ref y8, .ref y9, .ref y10, .ref y11, .ref y12, .int bd, .int ck, .int ps, .int (nI pa), .int lc, .int (nI (b2n fb)), .long ek, .long ev, .int (nI el), .int (nI fn), .ref y13, .ref y14, .ref y15, .ref y16, .int (nI js), .ref y17, .int (nI (b2n ib))])), (y1, .inl (.long, 25, .inr (.inl K))), (y2, .inl (.long, 25, .inr (.inl V))), (y3, .inl (.int, 25, .inl (fun q => nI (z q)))), (y12, .inl (.long, 17, .inr (.inl fl))), (y11, .inl (.int, 2176, .inl (fun q => nI (bk q)))), (y6, .inl (.int, 128, .inl S)), (y5, .inl (.int, 4096, .inl (fun q => nI (D q)))), (y10, .inl (.int, 17, .inl (fun q => nI (mn q)))), (y9, .inl (.int, 17, .inl (fun q => nI (en q))))]) 0 [(0, .ref h), (1, .long k)] []
  have hn1 : [h, y1].Nodup := (List.Nodup.sublist (by repeat first | exact List.nil_sublist _ | apply List.Sublist.cons₂ | apply List.Sublist.cons) hn)
  have hz9 := okn_lt (hz _ hf.1)
  refine g_aload_n X d_MD_look_0 0 rfl ?_
  refine g_iconst (nI 0) X d_MD_look_1 (by decide) ?_
  refine h_putf (k := 22) (ty := .boolean) 0 [(h, .inr (6, [.int th, .int (nI M), .int (nI n), .ref y1, .ref y2, .ref y3, .int (nI u), .ref y4, .ref y5, .ref y6, .ref y7, .int (nI c), .ref y8, .ref y9, .ref y10, .ref y11, .ref y12, .int bd, .int ck, .int ps, .int (nI pa), .int lc, .int (nI 0), .long ek, .long ev, .int (nI el), .int (nI fn), .ref y13, .ref y14, .ref y15, .ref y16, .int (nI js), .ref y17, .int (nI (b2n ib))])), (y1, .inl (.long, 25, .inr (.inl K))), (y2, .inl (.long, 25, .inr (.inl V))), (y3, .inl (.int, 25, .inl (fun q => nI (z q)))), (y12, .inl (.long, 17, .inr (.inl fl))), (y11, .inl (.int, 2176, .inl (fun q => nI (bk q)))), (y6, .inl (.int, 128, .inl S)), (y5, .inl (.int, 4096, .inl (fun q => nI (D q)))), (y10, .inl (.int, 17, .inl (fun q => nI (mn q)))), (y9, .inl (.int, 17, .inl (fun q => nI (en q))))] X d_MD_look_2 hn rfl rfl i_MD t_MD t_MD_ok n_MD (by decide) k_fl_MD_170 (fun _ h => h) rfl (by decide +kernel) rfl rfl (Nat.le_of_ble_eq_true rfl) rfl ?_
  refine g_aload_n X d_MD_look_5 0 rfl ?_
  refine g_iconst (-1) X d_MD_look_6 (by decide) ?_
  refine h_putf (k := 17) (ty := .int) 0 [(h, .inr (6, [.int th, .int (nI M), .int (nI n), .ref y1, .ref y2, .ref y3, .int (nI u), .ref y4, .ref y5, .ref y6, .ref y7, .int (nI c), .ref y8, .ref y9, .ref y10, .ref y11, .ref y12, .int (-1), .int ck, .int ps, .int (nI pa), .int lc, .int (nI 0), .long ek, .long ev, .int (nI el), .int (nI fn), .ref y13, .ref y14, .ref y15, .ref y16, .int (nI js), .ref y17, .int (nI (b2n ib))])), (y1, .inl (.long, 25, .inr (.inl K))), (y2, .inl (.long, 25, .inr (.inl V))), (y3, .inl (.int, 25, .inl (fun q => nI (z q)))), (y12, .inl (.long, 17, .inr (.inl fl))), (y11, .inl (.int, 2176, .inl (fun q => nI (bk q)))), (y6, .inl (.int, 128, .inl S)), (y5, .inl (.int, 4096, .inl (fun q => nI (D q)))), (y10, .inl (.int, 17, .inl (fun q => nI (mn q)))), (y9, .inl (.int, 17, .inl (fun q => nI (en q))))] X d_MD_look_7 hn rfl rfl i_MD t_MD t_MD_ok n_MD (by decide) k_fl_MD_48 (fun _ h => h) rfl (by decide +kernel) rfl rfl (Nat.le_of_ble_eq_true rfl) rfl ?_
  refine g_aload_n X d_MD_look_10 0 rfl ?_
  refine g_lload_n X d_MD_look_11 1 rfl ?_
  refine h_callV (As := [.long k]) (st := []) [0, 1] [(h, .inr (6, [.int th, .int (nI M), .int (nI n), .ref y1, .ref y2, .ref y3, .int (nI u), .ref y4, .ref y5, .ref y6, .ref y7, .int (nI c), .ref y8, .ref y9, .ref y10, .ref y11, .ref y12, .int (-1), .int ck, .int ps, .int (nI pa), .int lc, .int (nI 0), .long ek, .long ev, .int (nI el), .int (nI fn), .ref y13, .ref y14, .ref y15, .ref y16, .int (nI js), .ref y17, .int (nI (b2n ib))])), (y1, .inl (.long, 25, .inr (.inl K))), (y2, .inl (.long, 25, .inr (.inl V))), (y3, .inl (.int, 25, .inl (fun q => nI (z q)))), (y12, .inl (.long, 17, .inr (.inl fl))), (y11, .inl (.int, 2176, .inl (fun q => nI (bk q)))), (y6, .inl (.int, 128, .inl S)), (y5, .inl (.int, 4096, .inl (fun q => nI (D q)))), (y10, .inl (.int, 17, .inl (fun q => nI (mn q)))), (y9, .inl (.int, 17, .inl (fun q => nI (en q))))] X d_MD_look_12 (c_MD_hasKey (fb := false) hst hn1 hn24) (hl_w 0 rfl hn) rfl rfl k_ml_MD_80 k_cd_MD_hasKey k_in_MD k_im_MD_hasKey k_se_MD_hasKey ⟨by decide +kernel, by decide +kernel, (by decide +kernel : (parseMethodDescriptor y_MD_hasKey.desc).map (fun d => d.parameters.length) = some 1)⟩ ⟨Nat.le_of_ble_eq_true rfl, Nat.le_of_ble_eq_true rfl⟩ ⟨Nat.le_of_ble_eq_true rfl, Nat.le_of_ble_eq_true rfl⟩ (Nat.le_of_ble_eq_true rfl) hn rfl rfl rfl hp_no hp_no2 ?_
  refine g_if_eq 62 X d_MD_look_15 (by decide) (fun h15 => ?_) (fun h15 => ?_)
  · have h15 := cv_e0 (b2n_31 _) h15
    rw [isIn_t hf] at h15
    exact absurd h15 (by decide)
  · have h15 := cv_n0 (b2n_31 _) h15
    refine g_aload_n X d_MD_look_18 0 rfl ?_
    refine g_aload_n X d_MD_look_19 0 rfl ?_
    refine g_getf (k := 5) X d_MD_look_20 (hl_w 0 rfl hn) rfl i_MD (by decide) k_fl_MD_16 (fun _ h => h) rfl ?_
    refine g_aload_n X d_MD_look_23 0 rfl ?_
    refine g_lload_n X d_MD_look_24 1 rfl ?_
    refine h_callV (As := [.long k]) (st := [.ref y3, .ref h]) [0, 1] [(h, .inr (6, [.int th, .int (nI M), .int (nI n), .ref y1, .ref y2, .ref y3, .int (nI u), .ref y4, .ref y5, .ref y6, .ref y7, .int (nI c), .ref y8, .ref y9, .ref y10, .ref y11, .ref y12, .int (-1), .int ck, .int ps, .int (nI pa), .int lc, .int (nI 0), .long ek, .long ev, .int (nI el), .int (nI fn), .ref y13, .ref y14, .ref y15, .ref y16, .int (nI js), .ref y17, .int (nI (b2n ib))])), (y1, .inl (.long, 25, .inr (.inl K))), (y2, .inl (.long, 25, .inr (.inl V))), (y3, .inl (.int, 25, .inl (fun q => nI (z q)))), (y12, .inl (.long, 17, .inr (.inl fl))), (y11, .inl (.int, 2176, .inl (fun q => nI (bk q)))), (y6, .inl (.int, 128, .inl S)), (y5, .inl (.int, 4096, .inl (fun q => nI (D q)))), (y10, .inl (.int, 17, .inl (fun q => nI (mn q)))), (y9, .inl (.int, 17, .inl (fun q => nI (en q))))] X d_MD_look_25 (c_MD_placeOf (fb := false) hst hn1 hn24) (hl_w 0 rfl hn) rfl rfl k_ml_MD_76 k_cd_MD_placeOf k_in_MD k_im_MD_placeOf k_se_MD_placeOf ⟨by decide +kernel, by decide +kernel, (by decide +kernel : (parseMethodDescriptor y_MD_placeOf.desc).map (fun d => d.parameters.length) = some 1)⟩ ⟨Nat.le_of_ble_eq_true rfl, Nat.le_of_ble_eq_true rfl⟩ ⟨Nat.le_of_ble_eq_true rfl, Nat.le_of_ble_eq_true rfl⟩ (Nat.le_of_ble_eq_true rfl) hn rfl rfl rfl hp_no hp_no2 ?_
    refine h_iald X d_MD_look_28 (hl_w 3 rfl hn) (by omega) (by omega) ?_
    refine h_putf (k := 25) (ty := .int) 0 [(h, .inr (6, [.int th, .int (nI M), .int (nI n), .ref y1, .ref y2, .ref y3, .int (nI u), .ref y4, .ref y5, .ref y6, .ref y7, .int (nI c), .ref y8, .ref y9, .ref y10, .ref y11, .ref y12, .int (-1), .int ck, .int ps, .int (nI pa), .int lc, .int (nI 0), .long ek, .long ev, .int (nI (z (plc K k n))), .int (nI fn), .ref y13, .ref y14, .ref y15, .ref y16, .int (nI js), .ref y17, .int (nI (b2n ib))])), (y1, .inl (.long, 25, .inr (.inl K))), (y2, .inl (.long, 25, .inr (.inl V))), (y3, .inl (.int, 25, .inl (fun q => nI (z q)))), (y12, .inl (.long, 17, .inr (.inl fl))), (y11, .inl (.int, 2176, .inl (fun q => nI (bk q)))), (y6, .inl (.int, 128, .inl S)), (y5, .inl (.int, 4096, .inl (fun q => nI (D q)))), (y10, .inl (.int, 17, .inl (fun q => nI (mn q)))), (y9, .inl (.int, 17, .inl (fun q => nI (en q))))] X d_MD_look_29 hn rfl rfl i_MD t_MD t_MD_ok n_MD (by decide) k_fl_MD_200 (fun _ h => h) rfl (by decide +kernel) rfl rfl (Nat.le_of_ble_eq_true rfl) rfl ?_
    refine g_aload_n X d_MD_look_32 0 rfl ?_
    refine g_aload_n X d_MD_look_33 0 rfl ?_
    refine g_getf (k := 4) X d_MD_look_34 (hl_w 0 rfl hn) rfl i_MD (by decide) k_fl_MD_13 (fun _ h => h) rfl ?_
    refine g_aload_n X d_MD_look_37 0 rfl ?_
    refine g_lload_n X d_MD_look_38 1 rfl ?_
    refine h_callV (As := [.long k]) (st := [.ref y2, .ref h]) [0, 1] [(h, .inr (6, [.int th, .int (nI M), .int (nI n), .ref y1, .ref y2, .ref y3, .int (nI u), .ref y4, .ref y5, .ref y6, .ref y7, .int (nI c), .ref y8, .ref y9, .ref y10, .ref y11, .ref y12, .int (-1), .int ck, .int ps, .int (nI pa), .int lc, .int (nI 0), .long ek, .long ev, .int (nI (z (plc K k n))), .int (nI fn), .ref y13, .ref y14, .ref y15, .ref y16, .int (nI js), .ref y17, .int (nI (b2n ib))])), (y1, .inl (.long, 25, .inr (.inl K))), (y2, .inl (.long, 25, .inr (.inl V))), (y3, .inl (.int, 25, .inl (fun q => nI (z q)))), (y12, .inl (.long, 17, .inr (.inl fl))), (y11, .inl (.int, 2176, .inl (fun q => nI (bk q)))), (y6, .inl (.int, 128, .inl S)), (y5, .inl (.int, 4096, .inl (fun q => nI (D q)))), (y10, .inl (.int, 17, .inl (fun q => nI (mn q)))), (y9, .inl (.int, 17, .inl (fun q => nI (en q))))] X d_MD_look_39 (c_MD_placeOf (fb := false) hst hn1 hn24) (hl_w 0 rfl hn) rfl rfl k_ml_MD_76 k_cd_MD_placeOf k_in_MD k_im_MD_placeOf k_se_MD_placeOf ⟨by decide +kernel, by decide +kernel, (by decide +kernel : (parseMethodDescriptor y_MD_placeOf.desc).map (fun d => d.parameters.length) = some 1)⟩ ⟨Nat.le_of_ble_eq_true rfl, Nat.le_of_ble_eq_true rfl⟩ ⟨Nat.le_of_ble_eq_true rfl, Nat.le_of_ble_eq_true rfl⟩ (Nat.le_of_ble_eq_true rfl) hn rfl rfl rfl hp_no hp_no2 ?_
    refine h_lald X d_MD_look_42 (hl_w 2 rfl hn) (by omega) (by omega) ?_
    refine h_putf (k := 24) (ty := .long) 0 [(h, .inr (6, [.int th, .int (nI M), .int (nI n), .ref y1, .ref y2, .ref y3, .int (nI u), .ref y4, .ref y5, .ref y6, .ref y7, .int (nI c), .ref y8, .ref y9, .ref y10, .ref y11, .ref y12, .int (-1), .int ck, .int ps, .int (nI pa), .int lc, .int (nI 0), .long ek, .long (V (plc K k n)), .int (nI (z (plc K k n))), .int (nI fn), .ref y13, .ref y14, .ref y15, .ref y16, .int (nI js), .ref y17, .int (nI (b2n ib))])), (y1, .inl (.long, 25, .inr (.inl K))), (y2, .inl (.long, 25, .inr (.inl V))), (y3, .inl (.int, 25, .inl (fun q => nI (z q)))), (y12, .inl (.long, 17, .inr (.inl fl))), (y11, .inl (.int, 2176, .inl (fun q => nI (bk q)))), (y6, .inl (.int, 128, .inl S)), (y5, .inl (.int, 4096, .inl (fun q => nI (D q)))), (y10, .inl (.int, 17, .inl (fun q => nI (mn q)))), (y9, .inl (.int, 17, .inl (fun q => nI (en q))))] X d_MD_look_43 hn rfl rfl i_MD t_MD t_MD_ok n_MD (by decide) k_fl_MD_203 (fun _ h => h) rfl (by decide +kernel) rfl rfl (Nat.le_of_ble_eq_true rfl) rfl ?_
    refine g_aload_n X d_MD_look_46 0 rfl ?_
    refine g_getf (k := 25) X d_MD_look_47 (hl_w 0 rfl hn) rfl i_MD (by decide) k_fl_MD_200 (fun _ h => h) rfl ?_
    refine g_sipush (nI 255) X d_MD_look_50 (by decide) ?_
    refine g_icmp_eq 60 X d_MD_look_53 (by decide) (fun h53 => ?_) (fun h53 => ?_)
    · have h53 := cv_eq (by omega) (by omega) h53
      have hw9 : b2n (lk9 (some (z (plc K k n), V (plc K k n)))) = 0 := by rw [lk9, decide_eq_false (fun q => q h53)]; rfl
      refine g_iconst (nI 0) X d_MD_look_60 (by decide) ?_
      exact g_zret X hr rfl d_MD_look_61 (Nat.le_of_ble_eq_true rfl) (Nat.le_of_ble_eq_true rfl) (⟨by rw [hw9], rfl⟩)
    · have h53 := cv_ne (by omega) (by omega) h53
      have hw9 : b2n (lk9 (some (z (plc K k n), V (plc K k n)))) = 1 := by rw [lk9, decide_eq_true h53]; rfl
      refine g_iconst (nI 1) X d_MD_look_56 (by decide) ?_
      refine g_goto 61 X d_MD_look_57 (by decide) ?_
      exact g_zret X hr rfl d_MD_look_61 (Nat.le_of_ble_eq_true rfl) (Nat.le_of_ble_eq_true rfl) (⟨by rw [hw9], rfl⟩)

set_option maxRecDepth 100000 in
set_option maxHeartbeats 1000000 in
theorem c_MD_look_tab {l : Launch} (hst : l.stackTraces = false) {h y1 y2 y3 y4 y5 y6 y7 y8 y9 y10 y11 y12 y13 y14 y15 y16 y17 M n u c pa el fn js : Nat} {th bd ck ps lc : Int32} {fb ib : Bool} {ek ev : Int64} {K : Nat → Int64} {V : Nat → Int64} {z : Nat → Nat} {fl : Nat → Int64} {bk : Nat → Nat} {S : Nat → Int32} {D : Nat → Nat} {mn : Nat → Nat} {en : Nat → Nat} (hn : [h, y1, y2, y3, y12, y11, y6, y5, y10, y9].Nodup) {lv : Nat → Nat} {tb : Nat → TBr} {T : Nat → Int32} (hc16 : c ≤ 16) (hB : tbA lv en mn fl bk tb c) (hK : ∀ t, t < c → tbOk M (tb t)) (hM : M ≤ 128) (hTT : ∀ t k, t < c → k < (tb t).mn → T ((tb t).id k) = nI k) (hD : ∀ q, D q < 256) {k : Int64} (hn24 : n ≤ 24) (hf : ¬ (plc K k n < n ∧ K (plc K k n) = k)) : fh_C l fhCl fhT y_MD_look (.code y_MD_look b_MD_look 6 (some .boolean)) 6 138 [.ref h, .long k] (hp [(h, .inr (6, [.int th, .int (nI M), .int (nI n), .ref y1, .ref y2, .ref y3, .int (nI u), .ref y4, .ref y5, .ref y6, .ref y7, .int (nI c), .ref y8, .ref y9, .ref y10, .ref y11, .ref y12, .int bd, .int ck, .int ps, .int (nI pa), .int lc, .int (nI (b2n fb)), .long ek, .long ev, .int (nI el), .int (nI fn), .ref y13, .ref y14, .ref y15, .ref y16, .int (nI js), .ref y17, .int (nI (b2n ib))])), (y1, .inl (.long, 25, .inr (.inl K))), (y2, .inl (.long, 25, .inr (.inl V))), (y3, .inl (.int, 25, .inl (fun q => nI (z q)))), (y12, .inl (.long, 17, .inr (.inl fl))), (y11, .inl (.int, 2176, .inl (fun q => nI (bk q)))), (y6, .inl (.int, 128, .inl S)), (y5, .inl (.int, 4096, .inl (fun q => nI (D q)))), (y10, .inl (.int, 17, .inl (fun q => nI (mn q)))), (y9, .inl (.int, 17, .inl (fun q => nI (en q))))]) (hp []) 0 0 (fun z9 g9 => ∃ (s9 : R5) (ek9 : Int64) (el9 : Nat) (ev9 : Int64) (ic9 : Bool), z9 = .inl (some (.int (nI (b2n (lk9 (sek tb S T D k c 0).2.1))))) ∧ g9 = hp [(h, .inr (6, [.int th, .int (nI M), .int (nI n), .ref y1, .ref y2, .ref y3, .int (nI u), .ref y4, .ref y5, .ref y6, .ref y7, .int (nI c), .ref y8, .ref y9, .ref y10, .ref y11, .ref y12, .int s9.2.2.2.1, .int s9.2.2.2.2, .int (ps + nI (sek tb S T D k c 0).2.2.2), .int (nI s9.1), .int s9.2.1, .int (nI (b2n s9.2.2.1)), .long ek9, .long ev9, .int (nI el9), .int (nI fn), .ref y13, .ref y14, .ref y15, .ref y16, .int (nI js), .ref y17, .int (nI (b2n ic9))])), (y1, .inl (.long, 25, .inr (.inl K))), (y2, .inl (.long, 25, .inr (.inl V))), (y3, .inl (.int, 25, .inl (fun q => nI (z q)))), (y12, .inl (.long, 17, .inr (.inl fl))), (y11, .inl (.int, 2176, .inl (fun q => nI (bk q)))), (y6, .inl (.int, 128, .inl S)), (y5, .inl (.int, 4096, .inl (fun q => nI (D q)))), (y10, .inl (.int, 17, .inl (fun q => nI (mn q)))), (y9, .inl (.int, 17, .inl (fun q => nI (en q))))] ∧ s9.2.2 = ((sek tb S T D k c 0).1.isSome, fo (sek tb S T D k c 0).1, ck + nI (sek tb S T D k c 0).2.2.1) ∧ ∀ y, (sek tb S T D k c 0).2.1 = some y → el9 = y.1 ∧ ev9 = y.2) := by
  refine fh_enter (by decide) hst (Nat.le_of_ble_eq_true rfl) ?_
  intro mD mp me sm mm margs mbel mmet mcod X hr hnm hno hf0
  show fh_G mp l me (fh_rm 6 138 0 0) sm mm margs mbel mmet mcod mD fhCl (hp [(h, .inr (6, [.int th, .int (nI M), .int (nI n), .ref y1, .ref y2, .ref y3, .int (nI u), .ref y4, .ref y5, .ref y6, .ref y7, .int (nI c), .ref y8, .ref y9, .ref y10, .ref y11, .ref y12, .int bd, .int ck, .int ps, .int (nI pa), .int lc, .int (nI (b2n fb)), .long ek, .long ev, .int (nI el), .int (nI fn), .ref y13, .ref y14, .ref y15, .ref y16, .int (nI js), .ref y17, .int (nI (b2n ib))])), (y1, .inl (.long, 25, .inr (.inl K))), (y2, .inl (.long, 25, .inr (.inl V))), (y3, .inl (.int, 25, .inl (fun q => nI (z q)))), (y12, .inl (.long, 17, .inr (.inl fl))), (y11, .inl (.int, 2176, .inl (fun q => nI (bk q)))), (y6, .inl (.int, 128, .inl S)), (y5, .inl (.int, 4096, .inl (fun q => nI (D q)))), (y10, .inl (.int, 17, .inl (fun q => nI (mn q)))), (y9, .inl (.int, 17, .inl (fun q => nI (en q))))]) 6 _ 0 0 (hp [(h, .inr (6, [.int th, .int (nI M), .int (nI n), .ref y1, .ref y2, .ref y3, .int (nI u), .ref y4, .ref y5, .ref y6, .ref y7, .int (nI c), .ref y8, .ref y9, .ref y10, .ref y11, .ref y12, .int bd, .int ck, .int ps, .int (nI pa), .int lc, .int (nI (b2n fb)), .long ek, .long ev, .int (nI el), .int (nI fn), .ref y13, .ref y14, .ref y15, .ref y16, .int (nI js), .ref y17, .int (nI (b2n ib))])), (y1, .inl (.long, 25, .inr (.inl K))), (y2, .inl (.long, 25, .inr (.inl V))), (y3, .inl (.int, 25, .inl (fun q => nI (z q)))), (y12, .inl (.long, 17, .inr (.inl fl))), (y11, .inl (.int, 2176, .inl (fun q => nI (bk q)))), (y6, .inl (.int, 128, .inl S)), (y5, .inl (.int, 4096, .inl (fun q => nI (D q)))), (y10, .inl (.int, 17, .inl (fun q => nI (mn q)))), (y9, .inl (.int, 17, .inl (fun q => nI (en q))))]) 0 [(0, .ref h), (1, .long k)] []
  have hn1 : [h, y1].Nodup := (List.Nodup.sublist (by repeat first | exact List.nil_sublist _ | apply List.Sublist.cons₂ | apply List.Sublist.cons) hn)
  have hnh : [h, y11, y6, y5, y10, y9].Nodup := (List.Nodup.sublist (by repeat first | exact List.nil_sublist _ | apply List.Sublist.cons₂ | apply List.Sublist.cons) hn)
  refine g_aload_n X d_MD_look_0 0 rfl ?_
  refine g_iconst (nI 0) X d_MD_look_1 (by decide) ?_
  refine h_putf (k := 22) (ty := .boolean) 0 [(h, .inr (6, [.int th, .int (nI M), .int (nI n), .ref y1, .ref y2, .ref y3, .int (nI u), .ref y4, .ref y5, .ref y6, .ref y7, .int (nI c), .ref y8, .ref y9, .ref y10, .ref y11, .ref y12, .int bd, .int ck, .int ps, .int (nI pa), .int lc, .int (nI 0), .long ek, .long ev, .int (nI el), .int (nI fn), .ref y13, .ref y14, .ref y15, .ref y16, .int (nI js), .ref y17, .int (nI (b2n ib))])), (y1, .inl (.long, 25, .inr (.inl K))), (y2, .inl (.long, 25, .inr (.inl V))), (y3, .inl (.int, 25, .inl (fun q => nI (z q)))), (y12, .inl (.long, 17, .inr (.inl fl))), (y11, .inl (.int, 2176, .inl (fun q => nI (bk q)))), (y6, .inl (.int, 128, .inl S)), (y5, .inl (.int, 4096, .inl (fun q => nI (D q)))), (y10, .inl (.int, 17, .inl (fun q => nI (mn q)))), (y9, .inl (.int, 17, .inl (fun q => nI (en q))))] X d_MD_look_2 hn rfl rfl i_MD t_MD t_MD_ok n_MD (by decide) k_fl_MD_170 (fun _ h => h) rfl (by decide +kernel) rfl rfl (Nat.le_of_ble_eq_true rfl) rfl ?_
  refine g_aload_n X d_MD_look_5 0 rfl ?_
  refine g_iconst (-1) X d_MD_look_6 (by decide) ?_
  refine h_putf (k := 17) (ty := .int) 0 [(h, .inr (6, [.int th, .int (nI M), .int (nI n), .ref y1, .ref y2, .ref y3, .int (nI u), .ref y4, .ref y5, .ref y6, .ref y7, .int (nI c), .ref y8, .ref y9, .ref y10, .ref y11, .ref y12, .int (-1), .int ck, .int ps, .int (nI pa), .int lc, .int (nI 0), .long ek, .long ev, .int (nI el), .int (nI fn), .ref y13, .ref y14, .ref y15, .ref y16, .int (nI js), .ref y17, .int (nI (b2n ib))])), (y1, .inl (.long, 25, .inr (.inl K))), (y2, .inl (.long, 25, .inr (.inl V))), (y3, .inl (.int, 25, .inl (fun q => nI (z q)))), (y12, .inl (.long, 17, .inr (.inl fl))), (y11, .inl (.int, 2176, .inl (fun q => nI (bk q)))), (y6, .inl (.int, 128, .inl S)), (y5, .inl (.int, 4096, .inl (fun q => nI (D q)))), (y10, .inl (.int, 17, .inl (fun q => nI (mn q)))), (y9, .inl (.int, 17, .inl (fun q => nI (en q))))] X d_MD_look_7 hn rfl rfl i_MD t_MD t_MD_ok n_MD (by decide) k_fl_MD_48 (fun _ h => h) rfl (by decide +kernel) rfl rfl (Nat.le_of_ble_eq_true rfl) rfl ?_
  refine g_aload_n X d_MD_look_10 0 rfl ?_
  refine g_lload_n X d_MD_look_11 1 rfl ?_
  refine h_callV (As := [.long k]) (st := []) [0, 1] [(h, .inr (6, [.int th, .int (nI M), .int (nI n), .ref y1, .ref y2, .ref y3, .int (nI u), .ref y4, .ref y5, .ref y6, .ref y7, .int (nI c), .ref y8, .ref y9, .ref y10, .ref y11, .ref y12, .int (-1), .int ck, .int ps, .int (nI pa), .int lc, .int (nI 0), .long ek, .long ev, .int (nI el), .int (nI fn), .ref y13, .ref y14, .ref y15, .ref y16, .int (nI js), .ref y17, .int (nI (b2n ib))])), (y1, .inl (.long, 25, .inr (.inl K))), (y2, .inl (.long, 25, .inr (.inl V))), (y3, .inl (.int, 25, .inl (fun q => nI (z q)))), (y12, .inl (.long, 17, .inr (.inl fl))), (y11, .inl (.int, 2176, .inl (fun q => nI (bk q)))), (y6, .inl (.int, 128, .inl S)), (y5, .inl (.int, 4096, .inl (fun q => nI (D q)))), (y10, .inl (.int, 17, .inl (fun q => nI (mn q)))), (y9, .inl (.int, 17, .inl (fun q => nI (en q))))] X d_MD_look_12 (c_MD_hasKey (fb := false) hst hn1 hn24) (hl_w 0 rfl hn) rfl rfl k_ml_MD_80 k_cd_MD_hasKey k_in_MD k_im_MD_hasKey k_se_MD_hasKey ⟨by decide +kernel, by decide +kernel, (by decide +kernel : (parseMethodDescriptor y_MD_hasKey.desc).map (fun d => d.parameters.length) = some 1)⟩ ⟨Nat.le_of_ble_eq_true rfl, Nat.le_of_ble_eq_true rfl⟩ ⟨Nat.le_of_ble_eq_true rfl, Nat.le_of_ble_eq_true rfl⟩ (Nat.le_of_ble_eq_true rfl) hn rfl rfl rfl hp_no hp_no2 ?_
  refine g_if_eq 62 X d_MD_look_15 (by decide) (fun h15 => ?_) (fun h15 => ?_)
  · have h15 := cv_e0 (b2n_31 _) h15
    refine g_lload_n X d_MD_look_62 1 rfl ?_
    refine h_callS (As := [.long k]) (st := []) [] [(h, .inr (6, [.int th, .int (nI M), .int (nI n), .ref y1, .ref y2, .ref y3, .int (nI u), .ref y4, .ref y5, .ref y6, .ref y7, .int (nI c), .ref y8, .ref y9, .ref y10, .ref y11, .ref y12, .int (-1), .int ck, .int ps, .int (nI pa), .int lc, .int (nI 0), .long ek, .long ev, .int (nI el), .int (nI fn), .ref y13, .ref y14, .ref y15, .ref y16, .int (nI js), .ref y17, .int (nI (b2n ib))])), (y1, .inl (.long, 25, .inr (.inl K))), (y2, .inl (.long, 25, .inr (.inl V))), (y3, .inl (.int, 25, .inl (fun q => nI (z q)))), (y12, .inl (.long, 17, .inr (.inl fl))), (y11, .inl (.int, 2176, .inl (fun q => nI (bk q)))), (y6, .inl (.int, 128, .inl S)), (y5, .inl (.int, 4096, .inl (fun q => nI (D q)))), (y10, .inl (.int, 17, .inl (fun q => nI (mn q)))), (y9, .inl (.int, 17, .inl (fun q => nI (en q))))] X d_MD_look_63 (c_MD_bitsOf hst) rfl k_ml_MD_152 k_cd_MD_bitsOf k_in_MD k_st_MD_bitsOf ⟨by decide +kernel, by decide +kernel, (by decide +kernel : (parseMethodDescriptor y_MD_bitsOf.desc).map (fun d => d.parameters.length) = some 1)⟩ ⟨Nat.le_of_ble_eq_true rfl, Nat.le_of_ble_eq_true rfl⟩ ⟨Nat.le_of_ble_eq_true rfl, Nat.le_of_ble_eq_true rfl⟩ (Nat.le_of_ble_eq_true rfl) hn rfl rfl rfl hp_no hp_no2 ?_
    refine g_lstore_n [(3, .long (fbits k)), (0, .ref h), (1, .long k)] X d_MD_look_66 (by decide) rfl ?_
    refine g_iconst (nI 0) X d_MD_look_67 (by decide) ?_
    refine g_hp (ws' := [(h, .inr (6, [.int th, .int (nI M), .int (nI n), .ref y1, .ref y2, .ref y3, .int (nI u), .ref y4, .ref y5, .ref y6, .ref y7, .int (nI c), .ref y8, .ref y9, .ref y10, .ref y11, .ref y12, .int (((pa, lc, false, (-1), ck + nI 0) : R5).2.2.2.1), .int (((pa, lc, false, (-1), ck + nI 0) : R5).2.2.2.2), .int (ps + nI 0), .int (nI (((pa, lc, false, (-1), ck + nI 0) : R5).1)), .int (((pa, lc, false, (-1), ck + nI 0) : R5).2.1), .int (nI (b2n ((pa, lc, false, (-1), ck + nI 0) : R5).2.2.1)), .long ek, .long ev, .int (nI el), .int (nI fn), .ref y13, .ref y14, .ref y15, .ref y16, .int (nI js), .ref y17, .int (nI (b2n ib))])), (y1, .inl (.long, 25, .inr (.inl K))), (y2, .inl (.long, 25, .inr (.inl V))), (y3, .inl (.int, 25, .inl (fun q => nI (z q)))), (y12, .inl (.long, 17, .inr (.inl fl))), (y11, .inl (.int, 2176, .inl (fun q => nI (bk q)))), (y6, .inl (.int, 128, .inl S)), (y5, .inl (.int, 4096, .inl (fun q => nI (D q)))), (y10, .inl (.int, 17, .inl (fun q => nI (mn q)))), (y9, .inl (.int, 17, .inl (fun q => nI (en q))))]) (by rw [addz, addz]; rfl) ?_
    refine g_istore [(5, .int (nI 0)), (3, .long (fbits k)), (0, .ref h), (1, .long k)] X d_MD_look_68 (by decide) rfl ?_
    have L70 : ∀ (fu70 : Nat) (t : Nat) (s8 : R5) (ek8 : Int64) (el8 : Nat) (ev8 : Int64) (cc : Nat) (pp : Nat) (ic : Bool), (t ≤ c) → (s8.2.2 = (false, (-1), ck + nI cc)) → ((sek tb S T D k c 0) = ((sek tb S T D k (c - t) t).1, (sek tb S T D k (c - t) t).2.1, cc + (sek tb S T D k (c - t) t).2.2.1, pp + (sek tb S T D k (c - t) t).2.2.2)) → c - t < fu70 → fh_G mp l me (fh_rm 6 138 0 0) sm mm margs mbel mmet mcod mD fhCl (hp [(h, .inr (6, [.int th, .int (nI M), .int (nI n), .ref y1, .ref y2, .ref y3, .int (nI u), .ref y4, .ref y5, .ref y6, .ref y7, .int (nI c), .ref y8, .ref y9, .ref y10, .ref y11, .ref y12, .int bd, .int ck, .int ps, .int (nI pa), .int lc, .int (nI (b2n fb)), .long ek, .long ev, .int (nI el), .int (nI fn), .ref y13, .ref y14, .ref y15, .ref y16, .int (nI js), .ref y17, .int (nI (b2n ib))])), (y1, .inl (.long, 25, .inr (.inl K))), (y2, .inl (.long, 25, .inr (.inl V))), (y3, .inl (.int, 25, .inl (fun q => nI (z q)))), (y12, .inl (.long, 17, .inr (.inl fl))), (y11, .inl (.int, 2176, .inl (fun q => nI (bk q)))), (y6, .inl (.int, 128, .inl S)), (y5, .inl (.int, 4096, .inl (fun q => nI (D q)))), (y10, .inl (.int, 17, .inl (fun q => nI (mn q)))), (y9, .inl (.int, 17, .inl (fun q => nI (en q))))]) 6 (fh_MQ mbel mD fhCl (hp [(h, .inr (6, [.int th, .int (nI M), .int (nI n), .ref y1, .ref y2, .ref y3, .int (nI u), .ref y4, .ref y5, .ref y6, .ref y7, .int (nI c), .ref y8, .ref y9, .ref y10, .ref y11, .ref y12, .int bd, .int ck, .int ps, .int (nI pa), .int lc, .int (nI (b2n fb)), .long ek, .long ev, .int (nI el), .int (nI fn), .ref y13, .ref y14, .ref y15, .ref y16, .int (nI js), .ref y17, .int (nI (b2n ib))])), (y1, .inl (.long, 25, .inr (.inl K))), (y2, .inl (.long, 25, .inr (.inl V))), (y3, .inl (.int, 25, .inl (fun q => nI (z q)))), (y12, .inl (.long, 17, .inr (.inl fl))), (y11, .inl (.int, 2176, .inl (fun q => nI (bk q)))), (y6, .inl (.int, 128, .inl S)), (y5, .inl (.int, 4096, .inl (fun q => nI (D q)))), (y10, .inl (.int, 17, .inl (fun q => nI (mn q)))), (y9, .inl (.int, 17, .inl (fun q => nI (en q))))]) (fun z9 g9 => ∃ (s9 : R5) (ek9 : Int64) (el9 : Nat) (ev9 : Int64) (ic9 : Bool), z9 = .inl (some (.int (nI (b2n (lk9 (sek tb S T D k c 0).2.1))))) ∧ g9 = hp [(h, .inr (6, [.int th, .int (nI M), .int (nI n), .ref y1, .ref y2, .ref y3, .int (nI u), .ref y4, .ref y5, .ref y6, .ref y7, .int (nI c), .ref y8, .ref y9, .ref y10, .ref y11, .ref y12, .int s9.2.2.2.1, .int s9.2.2.2.2, .int (ps + nI (sek tb S T D k c 0).2.2.2), .int (nI s9.1), .int s9.2.1, .int (nI (b2n s9.2.2.1)), .long ek9, .long ev9, .int (nI el9), .int (nI fn), .ref y13, .ref y14, .ref y15, .ref y16, .int (nI js), .ref y17, .int (nI (b2n ic9))])), (y1, .inl (.long, 25, .inr (.inl K))), (y2, .inl (.long, 25, .inr (.inl V))), (y3, .inl (.int, 25, .inl (fun q => nI (z q)))), (y12, .inl (.long, 17, .inr (.inl fl))), (y11, .inl (.int, 2176, .inl (fun q => nI (bk q)))), (y6, .inl (.int, 128, .inl S)), (y5, .inl (.int, 4096, .inl (fun q => nI (D q)))), (y10, .inl (.int, 17, .inl (fun q => nI (mn q)))), (y9, .inl (.int, 17, .inl (fun q => nI (en q))))] ∧ s9.2.2 = ((sek tb S T D k c 0).1.isSome, fo (sek tb S T D k c 0).1, ck + nI (sek tb S T D k c 0).2.2.1) ∧ ∀ y, (sek tb S T D k c 0).2.1 = some y → el9 = y.1 ∧ ev9 = y.2) margs sm 0 0) 0 0 (hp [(h, .inr (6, [.int th, .int (nI M), .int (nI n), .ref y1, .ref y2, .ref y3, .int (nI u), .ref y4, .ref y5, .ref y6, .ref y7, .int (nI c), .ref y8, .ref y9, .ref y10, .ref y11, .ref y12, .int (-1), .int (ck + nI cc), .int (ps + nI pp), .int (nI s8.1), .int s8.2.1, .int (nI (b2n false)), .long ek8, .long ev8, .int (nI el8), .int (nI fn), .ref y13, .ref y14, .ref y15, .ref y16, .int (nI js), .ref y17, .int (nI (b2n ic))])), (y1, .inl (.long, 25, .inr (.inl K))), (y2, .inl (.long, 25, .inr (.inl V))), (y3, .inl (.int, 25, .inl (fun q => nI (z q)))), (y12, .inl (.long, 17, .inr (.inl fl))), (y11, .inl (.int, 2176, .inl (fun q => nI (bk q)))), (y6, .inl (.int, 128, .inl S)), (y5, .inl (.int, 4096, .inl (fun q => nI (D q)))), (y10, .inl (.int, 17, .inl (fun q => nI (mn q)))), (y9, .inl (.int, 17, .inl (fun q => nI (en q))))]) 70 [(5, .int (nI t)), (3, .long (fbits k)), (0, .ref h), (1, .long k)] [] := by
      intro fu70
      induction fu70 with
      | zero => intro t s8 ek8 el8 ev8 cc pp ic q1 q2 q3 hm70; exact absurd hm70 (Nat.not_lt_zero _)
      | succ fu70 ih70 =>
        intro t s8 ek8 el8 ev8 cc pp ic q1 q2 q3 hm70
        refine g_iload X d_MD_look_70 0 rfl ?_
        refine g_aload_n X d_MD_look_72 2 rfl ?_
        refine g_getf (k := 11) X d_MD_look_73 (hl_w 0 rfl hn) rfl i_MD (by decide) k_fl_MD_136 (fun _ h => h) rfl ?_
        refine g_icmp_ge 145 X d_MD_look_76 (by decide) (fun h76 => ?_) (fun h76 => ?_)
        · have h76 := cv_le (by omega) (by omega) h76
          have hR9 : (sek tb S T D k c 0) = (none, none, cc, pp) := by rw [q3, show c - t = 0 by omega]; rfl
          refine g_iconst (nI 0) X d_MD_look_145 (by decide) ?_
          exact g_zret X hr rfl d_MD_look_146 (Nat.le_of_ble_eq_true rfl) (Nat.le_of_ble_eq_true rfl) (⟨(s8.1, s8.2.1, false, (-1), ck + nI cc), ek8, el8, ev8, _, by rw [hR9]; rfl, by rw [hR9], by rw [hR9]; rfl, fun y2 hy => by rw [hR9] at hy; cases hy⟩)
        · have h76 := cv_nle (by omega) (by omega) h76
          have ht9 := hK t h76
          refine g_aload_n X d_MD_look_79 2 rfl ?_
          refine g_getf (k := 22) X d_MD_look_80 (hl_w 0 rfl hn) rfl i_MD (by decide) k_fl_MD_170 (fun _ h => h) rfl ?_
          refine g_if_ne 145 X d_MD_look_83 (by decide) (fun h83 => ?_) (fun h83 => ?_)
          · have h83 := cv_n0 (b2n_31 _) h83
            exact absurd h83 (by decide)
          · have h83 := cv_e0 (b2n_31 _) h83
            refine g_aload_n X d_MD_look_86 2 rfl ?_
            refine g_getf (k := 16) X d_MD_look_87 (hl_w 0 rfl hn) rfl i_MD (by decide) k_fl_MD_45 (fun _ h => h) rfl ?_
            refine g_iload X d_MD_look_90 0 rfl ?_
            refine h_lald X d_MD_look_92 (hl_w 4 rfl hn) (by omega) (by omega) ?_
            refine g_vl ((tb t).fl) (by rw [(hB t h76).2.2.2.1]) ?_
            refine g_lload_n X d_MD_look_93 1 rfl ?_
            refine g_land X d_MD_look_94 ?_
            refine g_lload_n X d_MD_look_95 1 rfl ?_
            refine g_lcmp X d_MD_look_96 ?_
            refine g_if_eq 113 X d_MD_look_97 (by decide) (fun h97 => ?_) (fun h97 => ?_)
            · have h97 := (lg_cmp_eq (((tb t).fl) &&& (fbits k)) (fbits k)).mp h97
              have hp9 := h97
              refine g_aload_n X d_MD_look_113 2 rfl ?_
              refine g_iload X d_MD_look_114 0 rfl ?_
              refine g_lload_n X d_MD_look_116 3 rfl ?_
              have e7 := (hB t h76).2.2.1
              have e6 := (hB t h76).2.1
              refine g_callVr (As := [.int (nI t), .long k]) (st := []) X d_MD_look_117 (c_MD_hasIt (a := t) (ids := (tb t).id) (T := T) (ck := ck + nI cc) hst hnh (by omega) (by rw [e7]; exact ht9.2.1) (by rw [e7]; exact ht9.1) (by rw [e7]; exact (hB t h76).2.2.2.2) (by rw [e7]; exact fun q hq => hTT t q h76 hq) (by rw [e7]; exact fun q hq => Nat.lt_of_lt_of_le (ht9.2.2.1 q hq) hM) (by rw [e7, e6]; exact ht9.2.2.2.1) hD) (hl_w 0 rfl hn) rfl rfl k_ml_MD_225 k_cd_MD_hasIt k_in_MD k_im_MD_hasIt k_se_MD_hasIt ⟨by decide +kernel, by decide +kernel, (by decide +kernel : (parseMethodDescriptor "(IJ)Z").map (fun d => d.parameters.length) = some 2)⟩ ⟨Nat.le_of_ble_eq_true rfl, Nat.le_of_ble_eq_true rfl⟩ ⟨Nat.le_of_ble_eq_true rfl, Nat.le_of_ble_eq_true rfl⟩ (Nat.le_of_ble_eq_true rfl) (hp_sub hn [0, 5, 6, 7, 8, 9] rfl) hp_nor (fun E g9 h => by first | exact absurd h (by simp) | (simp at h)) (fun v9 g9 hq => ?_)
              obtain ⟨s9, ek9, el9, ev9, hv9, hg9, hs9, he9⟩ := hq
              cases hv9
              subst hg9
              rw [e7, e6] at hs9 he9
              refine g_ov [0, 5, 6, 7, 8, 9] [(h, .inr (6, [.int th, .int (nI M), .int (nI n), .ref y1, .ref y2, .ref y3, .int (nI u), .ref y4, .ref y5, .ref y6, .ref y7, .int (nI c), .ref y8, .ref y9, .ref y10, .ref y11, .ref y12, .int s9.2.2.2.1, .int s9.2.2.2.2, .int (ps + nI pp), .int (nI s9.1), .int s9.2.1, .int (nI (b2n s9.2.2.1)), .long ek9, .long ev9, .int (nI el9), .int (nI fn), .ref y13, .ref y14, .ref y15, .ref y16, .int (nI js), .ref y17, .int (nI (b2n true))])), (y1, .inl (.long, 25, .inr (.inl K))), (y2, .inl (.long, 25, .inr (.inl V))), (y3, .inl (.int, 25, .inl (fun q => nI (z q)))), (y12, .inl (.long, 17, .inr (.inl fl))), (y11, .inl (.int, 2176, .inl (fun q => nI (bk q)))), (y6, .inl (.int, 128, .inl S)), (y5, .inl (.int, 4096, .inl (fun q => nI (D q)))), (y10, .inl (.int, 17, .inl (fun q => nI (mn q)))), (y9, .inl (.int, 17, .inl (fun q => nI (en q))))] rfl rfl hn ?_
              refine g_vi (nI (b2n (rch true (tb t).mn (tb t).id S T D k (tb t).en 0).2.1.isSome)) (by rw [e7, e6]) ?_
              rcases hz8 : (rch true (tb t).mn (tb t).id S T D k (tb t).en 0).1 with _ | f9
              · refine g_if_eq 139 X d_MD_look_120 (by decide) (fun h120 => ?_) (fun h120 => ?_)
                · have h120 := cv_e0 (b2n_31 _) h120
                  have hz7 : (rch true (tb t).mn (tb t).id S T D k (tb t).en 0).2.1 = none := by cases hz6 : (rch true (tb t).mn (tb t).id S T D k (tb t).en 0).2.1 with | none => rfl | some y => rw [hz6] at h120; exact absurd (show (1 : Nat) = 0 from h120) (by decide)
                  have hs8 : s9.2.2 = (false, (-1), ck + nI (cc + (rch true (tb t).mn (tb t).id S T D k (tb t).en 0).2.2)) := by rw [hs9, hz8, addn]; rfl
                  refine g_iinc (nI (t + 1)) 0 [(5, .int (nI (t + 1))), (3, .long (fbits k)), (0, .ref h), (1, .long k)] X d_MD_look_139 rfl (nI_1 _) (by decide) rfl ?_
                  refine g_goto 70 X d_MD_look_142 (by decide) ?_
                  refine g_hp (ws' := [(h, .inr (6, [.int th, .int (nI M), .int (nI n), .ref y1, .ref y2, .ref y3, .int (nI u), .ref y4, .ref y5, .ref y6, .ref y7, .int (nI c), .ref y8, .ref y9, .ref y10, .ref y11, .ref y12, .int (-1), .int (ck + nI (cc + (rch true (tb t).mn (tb t).id S T D k (tb t).en 0).2.2)), .int (ps + nI pp), .int (nI s9.1), .int s9.2.1, .int (nI (b2n false)), .long ek9, .long ev9, .int (nI el9), .int (nI fn), .ref y13, .ref y14, .ref y15, .ref y16, .int (nI js), .ref y17, .int (nI (b2n true))])), (y1, .inl (.long, 25, .inr (.inl K))), (y2, .inl (.long, 25, .inr (.inl V))), (y3, .inl (.int, 25, .inl (fun q => nI (z q)))), (y12, .inl (.long, 17, .inr (.inl fl))), (y11, .inl (.int, 2176, .inl (fun q => nI (bk q)))), (y6, .inl (.int, 128, .inl S)), (y5, .inl (.int, 4096, .inl (fun q => nI (D q)))), (y10, .inl (.int, 17, .inl (fun q => nI (mn q)))), (y9, .inl (.int, 17, .inl (fun q => nI (en q))))]) (by rw [hs8]) ?_
                  exact ih70 (t + 1) s9 ek9 el9 ev9 (cc + (rch true (tb t).mn (tb t).id S T D k (tb t).en 0).2.2) pp true (by omega) hs8 (by rw [q3, show c - t = (c - (t + 1)) + 1 by omega, sek_n hp9 hz8 hz7, Nat.add_assoc]) (by omega)
                · have h120 := cv_n0 (b2n_31 _) h120
                  obtain ⟨y, hz6⟩ : ∃ y, (rch true (tb t).mn (tb t).id S T D k (tb t).en 0).2.1 = some y := by cases hz6 : (rch true (tb t).mn (tb t).id S T D k (tb t).en 0).2.1 with | none => rw [hz6] at h120; exact absurd h120 (by decide) | some y => exact ⟨y, rfl⟩
                  have hR9 : (sek tb S T D k c 0) = (none, some y, cc + (rch true (tb t).mn (tb t).id S T D k (tb t).en 0).2.2, pp) := by rw [q3, show c - t = (c - (t + 1)) + 1 by omega, sek_r hp9 hz6]; rfl
                  have he8 := he9 y hz6
                  have hk9 := sek_okn (tb := tb) (S := S) (T := T) (D := D) (k := k) (e := c) (t := 0) (x := y) (by rw [hR9])
                  have hk8 := okn_lt hk9
                  have he7 := he8.1
                  refine g_aload_n X d_MD_look_123 2 rfl ?_
                  refine g_getf (k := 25) X d_MD_look_124 (hl_w 0 rfl hn) rfl i_MD (by decide) k_fl_MD_200 (fun _ h => h) rfl ?_
                  refine g_sipush (nI 255) X d_MD_look_127 (by decide) ?_
                  refine g_icmp_eq 137 X d_MD_look_130 (by decide) (fun h130 => ?_) (fun h130 => ?_)
                  · have h130 := cv_eq (by omega) (by omega) h130
                    have hw9 : b2n (lk9 (some y)) = 0 := by rw [lk9, decide_eq_false (fun q => q (by omega))]; rfl
                    refine g_iconst (nI 0) X d_MD_look_137 (by decide) ?_
                    exact g_zret X hr rfl d_MD_look_138 (Nat.le_of_ble_eq_true rfl) (Nat.le_of_ble_eq_true rfl) (⟨s9, ek9, el9, ev9, _, by rw [hR9, hw9], by rw [hR9], by rw [hR9, hs9, hz8, addn] <;> rfl, fun y2 hy => by rw [hR9] at hy; cases hy; exact he8⟩)
                  · have h130 := cv_ne (by omega) (by omega) h130
                    have hw9 : b2n (lk9 (some y)) = 1 := by rw [lk9, decide_eq_true (by omega)]; rfl
                    refine g_iconst (nI 1) X d_MD_look_133 (by decide) ?_
                    refine g_goto 138 X d_MD_look_134 (by decide) ?_
                    exact g_zret X hr rfl d_MD_look_138 (Nat.le_of_ble_eq_true rfl) (Nat.le_of_ble_eq_true rfl) (⟨s9, ek9, el9, ev9, _, by rw [hR9, hw9], by rw [hR9], by rw [hR9, hs9, hz8, addn] <;> rfl, fun y2 hy => by rw [hR9] at hy; cases hy; exact he8⟩)
              · have hz7 : (rch true (tb t).mn (tb t).id S T D k (tb t).en 0).2.1 = none := by cases hz6 : (rch true (tb t).mn (tb t).id S T D k (tb t).en 0).2.1 with | none => rfl | some y => rw [(rch_found hz6).1] at hz8; cases hz8
                have hR9 : (sek tb S T D k c 0) = (some f9, none, cc + (rch true (tb t).mn (tb t).id S T D k (tb t).en 0).2.2, pp) := by rw [q3, show c - t = (c - (t + 1)) + 1 by omega, sek_f hp9 hz8]; rfl
                refine g_if_eq 139 X d_MD_look_120 (by decide) (fun h120 => ?_) (fun h120 => ?_)
                · have h120 := cv_e0 (b2n_31 _) h120
                  refine g_iinc (nI (t + 1)) 0 [(5, .int (nI (t + 1))), (3, .long (fbits k)), (0, .ref h), (1, .long k)] X d_MD_look_139 rfl (nI_1 _) (by decide) rfl ?_
                  refine g_goto 70 X d_MD_look_142 (by decide) ?_
                  refine g_iload X d_MD_look_70 0 rfl ?_
                  refine g_aload_n X d_MD_look_72 2 rfl ?_
                  refine g_getf (k := 11) X d_MD_look_73 (hl_w 0 rfl hn) rfl i_MD (by decide) k_fl_MD_136 (fun _ h => h) rfl ?_
                  refine g_icmp_ge 145 X d_MD_look_76 (by decide) (fun h76 => ?_) (fun h76 => ?_)
                  · have h76 := cv_le (by omega) (by omega) h76
                    refine g_iconst (nI 0) X d_MD_look_145 (by decide) ?_
                    exact g_zret X hr rfl d_MD_look_146 (Nat.le_of_ble_eq_true rfl) (Nat.le_of_ble_eq_true rfl) (⟨s9, ek9, el9, ev9, _, by rw [hR9]; rfl, by rw [hR9], by rw [hR9, hs9, hz8, addn] <;> rfl, fun y2 hy => by rw [hR9] at hy; cases hy⟩)
                  · have h76 := cv_nle (by omega) (by omega) h76
                    refine g_aload_n X d_MD_look_79 2 rfl ?_
                    refine g_getf (k := 22) X d_MD_look_80 (hl_w 0 rfl hn) rfl i_MD (by decide) k_fl_MD_170 (fun _ h => h) rfl ?_
                    refine g_if_ne 145 X d_MD_look_83 (by decide) (fun h83 => ?_) (fun h83 => ?_)
                    · have h83 := cv_n0 (b2n_31 _) h83
                      refine g_iconst (nI 0) X d_MD_look_145 (by decide) ?_
                      exact g_zret X hr rfl d_MD_look_146 (Nat.le_of_ble_eq_true rfl) (Nat.le_of_ble_eq_true rfl) (⟨s9, ek9, el9, ev9, _, by rw [hR9]; rfl, by rw [hR9], by rw [hR9, hs9, hz8, addn] <;> rfl, fun y2 hy => by rw [hR9] at hy; cases hy⟩)
                    · have h83 := cv_e0 (b2n_31 _) h83
                      rw [hs9, hz8] at h83
                      exact absurd (show (1 : Nat) = 0 from h83) (by decide)
                · have h120 := cv_n0 (b2n_31 _) h120
                  rw [hz7] at h120
                  exact absurd h120 (by decide)
            · have h97 := fun z => h97 ((lg_cmp_eq (((tb t).fl) &&& (fbits k)) (fbits k)).mpr z)
              refine g_aload_n X d_MD_look_100 2 rfl ?_
              refine g_dup X d_MD_look_101 rfl ?_
              refine g_getf (k := 19) X d_MD_look_102 (hl_w 0 rfl hn) rfl i_MD (by decide) k_fl_MD_222 (fun _ h => h) rfl ?_
              refine g_iconst (nI 1) X d_MD_look_105 (by decide) ?_
              refine g_iadd X d_MD_look_106 ?_
              refine h_putf (k := 19) (ty := .int) 0 [(h, .inr (6, [.int th, .int (nI M), .int (nI n), .ref y1, .ref y2, .ref y3, .int (nI u), .ref y4, .ref y5, .ref y6, .ref y7, .int (nI c), .ref y8, .ref y9, .ref y10, .ref y11, .ref y12, .int (-1), .int (ck + nI cc), .int ((ps + nI pp) + (nI 1)), .int (nI s8.1), .int s8.2.1, .int (nI (b2n false)), .long ek8, .long ev8, .int (nI el8), .int (nI fn), .ref y13, .ref y14, .ref y15, .ref y16, .int (nI js), .ref y17, .int (nI (b2n ic))])), (y1, .inl (.long, 25, .inr (.inl K))), (y2, .inl (.long, 25, .inr (.inl V))), (y3, .inl (.int, 25, .inl (fun q => nI (z q)))), (y12, .inl (.long, 17, .inr (.inl fl))), (y11, .inl (.int, 2176, .inl (fun q => nI (bk q)))), (y6, .inl (.int, 128, .inl S)), (y5, .inl (.int, 4096, .inl (fun q => nI (D q)))), (y10, .inl (.int, 17, .inl (fun q => nI (mn q)))), (y9, .inl (.int, 17, .inl (fun q => nI (en q))))] X d_MD_look_107 hn rfl rfl i_MD t_MD t_MD_ok n_MD (by decide) k_fl_MD_222 (fun _ h => h) rfl (by decide +kernel) rfl rfl (Nat.le_of_ble_eq_true rfl) rfl ?_
              refine g_goto 139 X d_MD_look_110 (by decide) ?_
              refine g_iinc (nI (t + 1)) 0 [(5, .int (nI (t + 1))), (3, .long (fbits k)), (0, .ref h), (1, .long k)] X d_MD_look_139 rfl (nI_1 _) (by decide) rfl ?_
              refine g_goto 70 X d_MD_look_142 (by decide) ?_
              refine g_hp (ws' := [(h, .inr (6, [.int th, .int (nI M), .int (nI n), .ref y1, .ref y2, .ref y3, .int (nI u), .ref y4, .ref y5, .ref y6, .ref y7, .int (nI c), .ref y8, .ref y9, .ref y10, .ref y11, .ref y12, .int (-1), .int (ck + nI cc), .int (ps + nI (pp + 1)), .int (nI s8.1), .int s8.2.1, .int (nI (b2n false)), .long ek8, .long ev8, .int (nI el8), .int (nI fn), .ref y13, .ref y14, .ref y15, .ref y16, .int (nI js), .ref y17, .int (nI (b2n ic))])), (y1, .inl (.long, 25, .inr (.inl K))), (y2, .inl (.long, 25, .inr (.inl V))), (y3, .inl (.int, 25, .inl (fun q => nI (z q)))), (y12, .inl (.long, 17, .inr (.inl fl))), (y11, .inl (.int, 2176, .inl (fun q => nI (bk q)))), (y6, .inl (.int, 128, .inl S)), (y5, .inl (.int, 4096, .inl (fun q => nI (D q)))), (y10, .inl (.int, 17, .inl (fun q => nI (mn q)))), (y9, .inl (.int, 17, .inl (fun q => nI (en q))))]) (by rw [addn]) ?_
              exact ih70 (t + 1) s8 ek8 el8 ev8 cc (pp + 1) ic (by omega) q2 (by rw [q3, show c - t = (c - (t + 1)) + 1 by omega, sek_p h97, Nat.add_assoc]) (by omega)
    exact L70 _ 0 (pa, lc, false, (-1), ck + nI 0) ek el ev 0 0 ib (Nat.zero_le _) rfl (by rw [Nat.zero_add, Nat.zero_add]; rfl) (Nat.lt_succ_self _)
  · have h15 := cv_n0 (b2n_31 _) h15
    rw [isIn_f hf] at h15
    exact absurd h15 (by decide)

set_option maxRecDepth 100000 in
set_option maxHeartbeats 1000000 in
theorem c_MD_find_mem {l : Launch} (hst : l.stackTraces = false) {h y1 y2 y3 y4 y5 y6 y7 y8 y9 y10 y11 y12 y13 y14 y15 y16 y17 M n u c pa el fn js : Nat} {th bd ck ps lc : Int32} {fb ib : Bool} {ek ev : Int64} {K : Nat → Int64} {V : Nat → Int64} {z : Nat → Nat} {fl : Nat → Int64} {bk : Nat → Nat} {S : Nat → Int32} {D : Nat → Nat} {mn : Nat → Nat} {en : Nat → Nat} (hn : [h, y1, y2, y3, y12, y11, y6, y5, y10, y9].Nodup) {k : Int64} (hn24 : n ≤ 24) (hz : ∀ i, i < n → okn (z i)) (hf : plc K k n < n ∧ K (plc K k n) = k) : fh_C l fhCl fhT y_MD_find (.code y_MD_find b_MD_find 4 (some .long)) 7 163 [.ref h, .long k] (hp [(h, .inr (6, [.int th, .int (nI M), .int (nI n), .ref y1, .ref y2, .ref y3, .int (nI u), .ref y4, .ref y5, .ref y6, .ref y7, .int (nI c), .ref y8, .ref y9, .ref y10, .ref y11, .ref y12, .int bd, .int ck, .int ps, .int (nI pa), .int lc, .int (nI (b2n fb)), .long ek, .long ev, .int (nI el), .int (nI fn), .ref y13, .ref y14, .ref y15, .ref y16, .int (nI js), .ref y17, .int (nI (b2n ib))])), (y1, .inl (.long, 25, .inr (.inl K))), (y2, .inl (.long, 25, .inr (.inl V))), (y3, .inl (.int, 25, .inl (fun q => nI (z q)))), (y12, .inl (.long, 17, .inr (.inl fl))), (y11, .inl (.int, 2176, .inl (fun q => nI (bk q)))), (y6, .inl (.int, 128, .inl S)), (y5, .inl (.int, 4096, .inl (fun q => nI (D q)))), (y10, .inl (.int, 17, .inl (fun q => nI (mn q)))), (y9, .inl (.int, 17, .inl (fun q => nI (en q))))]) (hp []) 0 0 (fh_ret (some (.long (fres (some (z (plc K k n), V (plc K k n)))))) [(h, .inr (6, [.int (nI 0), .int (nI M), .int (nI n), .ref y1, .ref y2, .ref y3, .int (nI u), .ref y4, .ref y5, .ref y6, .ref y7, .int (nI c), .ref y8, .ref y9, .ref y10, .ref y11, .ref y12, .int (-1), .int ck, .int ps, .int (nI pa), .int lc, .int (nI 0), .long ek, .long (V (plc K k n)), .int (nI (z (plc K k n))), .int (nI fn), .ref y13, .ref y14, .ref y15, .ref y16, .int (nI js), .ref y17, .int (nI (b2n ib))])), (y1, .inl (.long, 25, .inr (.inl K))), (y2, .inl (.long, 25, .inr (.inl V))), (y3, .inl (.int, 25, .inl (fun q => nI (z q)))), (y12, .inl (.long, 17, .inr (.inl fl))), (y11, .inl (.int, 2176, .inl (fun q => nI (bk q)))), (y6, .inl (.int, 128, .inl S)), (y5, .inl (.int, 4096, .inl (fun q => nI (D q)))), (y10, .inl (.int, 17, .inl (fun q => nI (mn q)))), (y9, .inl (.int, 17, .inl (fun q => nI (en q))))]) := by
  refine fh_enter (by decide) hst (Nat.le_of_ble_eq_true rfl) ?_
  intro mD mp me sm mm margs mbel mmet mcod X hr hnm hno hf0
  show fh_G mp l me (fh_rm 7 163 0 0) sm mm margs mbel mmet mcod mD fhCl (hp [(h, .inr (6, [.int th, .int (nI M), .int (nI n), .ref y1, .ref y2, .ref y3, .int (nI u), .ref y4, .ref y5, .ref y6, .ref y7, .int (nI c), .ref y8, .ref y9, .ref y10, .ref y11, .ref y12, .int bd, .int ck, .int ps, .int (nI pa), .int lc, .int (nI (b2n fb)), .long ek, .long ev, .int (nI el), .int (nI fn), .ref y13, .ref y14, .ref y15, .ref y16, .int (nI js), .ref y17, .int (nI (b2n ib))])), (y1, .inl (.long, 25, .inr (.inl K))), (y2, .inl (.long, 25, .inr (.inl V))), (y3, .inl (.int, 25, .inl (fun q => nI (z q)))), (y12, .inl (.long, 17, .inr (.inl fl))), (y11, .inl (.int, 2176, .inl (fun q => nI (bk q)))), (y6, .inl (.int, 128, .inl S)), (y5, .inl (.int, 4096, .inl (fun q => nI (D q)))), (y10, .inl (.int, 17, .inl (fun q => nI (mn q)))), (y9, .inl (.int, 17, .inl (fun q => nI (en q))))]) 4 _ 0 0 (hp [(h, .inr (6, [.int th, .int (nI M), .int (nI n), .ref y1, .ref y2, .ref y3, .int (nI u), .ref y4, .ref y5, .ref y6, .ref y7, .int (nI c), .ref y8, .ref y9, .ref y10, .ref y11, .ref y12, .int bd, .int ck, .int ps, .int (nI pa), .int lc, .int (nI (b2n fb)), .long ek, .long ev, .int (nI el), .int (nI fn), .ref y13, .ref y14, .ref y15, .ref y16, .int (nI js), .ref y17, .int (nI (b2n ib))])), (y1, .inl (.long, 25, .inr (.inl K))), (y2, .inl (.long, 25, .inr (.inl V))), (y3, .inl (.int, 25, .inl (fun q => nI (z q)))), (y12, .inl (.long, 17, .inr (.inl fl))), (y11, .inl (.int, 2176, .inl (fun q => nI (bk q)))), (y6, .inl (.int, 128, .inl S)), (y5, .inl (.int, 4096, .inl (fun q => nI (D q)))), (y10, .inl (.int, 17, .inl (fun q => nI (mn q)))), (y9, .inl (.int, 17, .inl (fun q => nI (en q))))]) 0 [(0, .ref h), (1, .long k)] []
  have hz9 := okn_lt (hz _ hf.1)
  refine g_aload_n X d_MD_find_0 0 rfl ?_
  refine g_lload_n X d_MD_find_1 1 rfl ?_
  refine h_callV (As := [.long k]) (st := []) [0, 1, 2, 3, 4, 5, 6, 7, 8, 9] [(h, .inr (6, [.int th, .int (nI M), .int (nI n), .ref y1, .ref y2, .ref y3, .int (nI u), .ref y4, .ref y5, .ref y6, .ref y7, .int (nI c), .ref y8, .ref y9, .ref y10, .ref y11, .ref y12, .int (-1), .int ck, .int ps, .int (nI pa), .int lc, .int (nI 0), .long ek, .long (V (plc K k n)), .int (nI (z (plc K k n))), .int (nI fn), .ref y13, .ref y14, .ref y15, .ref y16, .int (nI js), .ref y17, .int (nI (b2n ib))])), (y1, .inl (.long, 25, .inr (.inl K))), (y2, .inl (.long, 25, .inr (.inl V))), (y3, .inl (.int, 25, .inl (fun q => nI (z q)))), (y12, .inl (.long, 17, .inr (.inl fl))), (y11, .inl (.int, 2176, .inl (fun q => nI (bk q)))), (y6, .inl (.int, 128, .inl S)), (y5, .inl (.int, 4096, .inl (fun q => nI (D q)))), (y10, .inl (.int, 17, .inl (fun q => nI (mn q)))), (y9, .inl (.int, 17, .inl (fun q => nI (en q))))] X d_MD_find_2 (c_MD_look_mem hst hn hn24 hz hf) (hl_w 0 rfl hn) rfl rfl k_ml_MD_229 k_cd_MD_look k_in_MD k_im_MD_look k_se_MD_look ⟨by decide +kernel, by decide +kernel, (by decide +kernel : (parseMethodDescriptor y_MD_look.desc).map (fun d => d.parameters.length) = some 1)⟩ ⟨Nat.le_of_ble_eq_true rfl, Nat.le_of_ble_eq_true rfl⟩ ⟨Nat.le_of_ble_eq_true rfl, Nat.le_of_ble_eq_true rfl⟩ (Nat.le_of_ble_eq_true rfl) hn rfl rfl rfl hp_no hp_no2 ?_
  refine g_istore_n [(3, .int (nI (b2n (lk9 (some (z (plc K k n), V (plc K k n))))))), (0, .ref h), (1, .long k)] X d_MD_find_5 (by decide) rfl ?_
  refine g_aload_n X d_MD_find_6 1 rfl ?_
  refine g_aload_n X d_MD_find_7 1 rfl ?_
  refine g_getf (k := 22) X d_MD_find_8 (hl_w 0 rfl hn) rfl i_MD (by decide) k_fl_MD_170 (fun _ h => h) rfl ?_
  refine g_if_eq 18 X d_MD_find_11 (by decide) (fun h11 => ?_) (fun h11 => ?_)
  · have h11 := cv_e0 (by omega) h11
    refine g_iconst (nI 0) X d_MD_find_18 (by decide) ?_
    refine h_putf (k := 0) (ty := .int) 0 [(h, .inr (6, [.int (nI 0), .int (nI M), .int (nI n), .ref y1, .ref y2, .ref y3, .int (nI u), .ref y4, .ref y5, .ref y6, .ref y7, .int (nI c), .ref y8, .ref y9, .ref y10, .ref y11, .ref y12, .int (-1), .int ck, .int ps, .int (nI pa), .int lc, .int (nI 0), .long ek, .long (V (plc K k n)), .int (nI (z (plc K k n))), .int (nI fn), .ref y13, .ref y14, .ref y15, .ref y16, .int (nI js), .ref y17, .int (nI (b2n ib))])), (y1, .inl (.long, 25, .inr (.inl K))), (y2, .inl (.long, 25, .inr (.inl V))), (y3, .inl (.int, 25, .inl (fun q => nI (z q)))), (y12, .inl (.long, 17, .inr (.inl fl))), (y11, .inl (.int, 2176, .inl (fun q => nI (bk q)))), (y6, .inl (.int, 128, .inl S)), (y5, .inl (.int, 4096, .inl (fun q => nI (D q)))), (y10, .inl (.int, 17, .inl (fun q => nI (mn q)))), (y9, .inl (.int, 17, .inl (fun q => nI (en q))))] X d_MD_find_19 hn rfl rfl i_MD t_MD t_MD_ok n_MD (by decide) k_fl_MD_70 (fun _ h => h) rfl (by decide +kernel) rfl rfl (Nat.le_of_ble_eq_true rfl) rfl ?_
    refine g_iload_n X d_MD_find_22 0 rfl ?_
    refine g_if_eq 40 X d_MD_find_23 (by decide) (fun h23 => ?_) (fun h23 => ?_)
    · have h23 := cv_e0 (b2n_31 _) h23
      have hw8 : z (plc K k n) = 255 := by
        have h8 := b2n_0 h23
        unfold lk9 at h8
        exact Decidable.of_not_not (of_decide_eq_false h8)
      refine g_lconst 0 X d_MD_find_40 (by decide) ?_
      exact g_lret X hr d_MD_find_41 (Nat.le_of_ble_eq_true rfl) (Nat.le_of_ble_eq_true rfl) (⟨by rw [fres, if_pos hw8], rfl⟩)
    · have h23 := cv_n0 (b2n_31 _) h23
      have hw8 : z (plc K k n) ≠ 255 := by
        have h8 := b2n_1 h23
        unfold lk9 at h8
        exact of_decide_eq_true h8
      refine g_aload_n X d_MD_find_26 1 rfl ?_
      refine g_getf (k := 22) X d_MD_find_27 (hl_w 0 rfl hn) rfl i_MD (by decide) k_fl_MD_170 (fun _ h => h) rfl ?_
      refine g_if_ne 40 X d_MD_find_30 (by decide) (fun h30 => ?_) (fun h30 => ?_)
      · have h30 := cv_n0 (by omega) h30
        omega
      · have h30 := cv_e0 (by omega) h30
        refine g_aload_n X d_MD_find_33 1 rfl ?_
        refine g_getf (k := 24) X d_MD_find_34 (hl_w 0 rfl hn) rfl i_MD (by decide) k_fl_MD_203 (fun _ h => h) rfl ?_
        refine g_goto 41 X d_MD_find_37 (by decide) ?_
        exact g_lret X hr d_MD_find_41 (Nat.le_of_ble_eq_true rfl) (Nat.le_of_ble_eq_true rfl) (⟨by rw [fres, if_neg hw8], rfl⟩)
  · have h11 := cv_n0 (by omega) h11
    omega

set_option maxRecDepth 100000 in
set_option maxHeartbeats 1000000 in
theorem c_MD_length_mem {l : Launch} (hst : l.stackTraces = false) {h y1 y2 y3 y4 y5 y6 y7 y8 y9 y10 y11 y12 y13 y14 y15 y16 y17 M n u c pa el fn js : Nat} {th bd ck ps lc : Int32} {fb ib : Bool} {ek ev : Int64} {K : Nat → Int64} {V : Nat → Int64} {z : Nat → Nat} {fl : Nat → Int64} {bk : Nat → Nat} {S : Nat → Int32} {D : Nat → Nat} {mn : Nat → Nat} {en : Nat → Nat} (hn : [h, y1, y2, y3, y12, y11, y6, y5, y10, y9].Nodup) {k : Int64} (hn24 : n ≤ 24) (hz : ∀ i, i < n → okn (z i)) (hf : plc K k n < n ∧ K (plc K k n) = k) : fh_C l fhCl fhT y_MD_length (.code y_MD_length b_MD_length 4 (some .int)) 7 163 [.ref h, .long k] (hp [(h, .inr (6, [.int th, .int (nI M), .int (nI n), .ref y1, .ref y2, .ref y3, .int (nI u), .ref y4, .ref y5, .ref y6, .ref y7, .int (nI c), .ref y8, .ref y9, .ref y10, .ref y11, .ref y12, .int bd, .int ck, .int ps, .int (nI pa), .int lc, .int (nI (b2n fb)), .long ek, .long ev, .int (nI el), .int (nI fn), .ref y13, .ref y14, .ref y15, .ref y16, .int (nI js), .ref y17, .int (nI (b2n ib))])), (y1, .inl (.long, 25, .inr (.inl K))), (y2, .inl (.long, 25, .inr (.inl V))), (y3, .inl (.int, 25, .inl (fun q => nI (z q)))), (y12, .inl (.long, 17, .inr (.inl fl))), (y11, .inl (.int, 2176, .inl (fun q => nI (bk q)))), (y6, .inl (.int, 128, .inl S)), (y5, .inl (.int, 4096, .inl (fun q => nI (D q)))), (y10, .inl (.int, 17, .inl (fun q => nI (mn q)))), (y9, .inl (.int, 17, .inl (fun q => nI (en q))))]) (hp []) 0 0 (fh_ret (some (.int (sres (some (z (plc K k n), V (plc K k n)))))) [(h, .inr (6, [.int (nI 0), .int (nI M), .int (nI n), .ref y1, .ref y2, .ref y3, .int (nI u), .ref y4, .ref y5, .ref y6, .ref y7, .int (nI c), .ref y8, .ref y9, .ref y10, .ref y11, .ref y12, .int (-1), .int ck, .int ps, .int (nI pa), .int lc, .int (nI 0), .long ek, .long (V (plc K k n)), .int (nI (z (plc K k n))), .int (nI fn), .ref y13, .ref y14, .ref y15, .ref y16, .int (nI js), .ref y17, .int (nI (b2n ib))])), (y1, .inl (.long, 25, .inr (.inl K))), (y2, .inl (.long, 25, .inr (.inl V))), (y3, .inl (.int, 25, .inl (fun q => nI (z q)))), (y12, .inl (.long, 17, .inr (.inl fl))), (y11, .inl (.int, 2176, .inl (fun q => nI (bk q)))), (y6, .inl (.int, 128, .inl S)), (y5, .inl (.int, 4096, .inl (fun q => nI (D q)))), (y10, .inl (.int, 17, .inl (fun q => nI (mn q)))), (y9, .inl (.int, 17, .inl (fun q => nI (en q))))]) := by
  refine fh_enter (by decide) hst (Nat.le_of_ble_eq_true rfl) ?_
  intro mD mp me sm mm margs mbel mmet mcod X hr hnm hno hf0
  show fh_G mp l me (fh_rm 7 163 0 0) sm mm margs mbel mmet mcod mD fhCl (hp [(h, .inr (6, [.int th, .int (nI M), .int (nI n), .ref y1, .ref y2, .ref y3, .int (nI u), .ref y4, .ref y5, .ref y6, .ref y7, .int (nI c), .ref y8, .ref y9, .ref y10, .ref y11, .ref y12, .int bd, .int ck, .int ps, .int (nI pa), .int lc, .int (nI (b2n fb)), .long ek, .long ev, .int (nI el), .int (nI fn), .ref y13, .ref y14, .ref y15, .ref y16, .int (nI js), .ref y17, .int (nI (b2n ib))])), (y1, .inl (.long, 25, .inr (.inl K))), (y2, .inl (.long, 25, .inr (.inl V))), (y3, .inl (.int, 25, .inl (fun q => nI (z q)))), (y12, .inl (.long, 17, .inr (.inl fl))), (y11, .inl (.int, 2176, .inl (fun q => nI (bk q)))), (y6, .inl (.int, 128, .inl S)), (y5, .inl (.int, 4096, .inl (fun q => nI (D q)))), (y10, .inl (.int, 17, .inl (fun q => nI (mn q)))), (y9, .inl (.int, 17, .inl (fun q => nI (en q))))]) 4 _ 0 0 (hp [(h, .inr (6, [.int th, .int (nI M), .int (nI n), .ref y1, .ref y2, .ref y3, .int (nI u), .ref y4, .ref y5, .ref y6, .ref y7, .int (nI c), .ref y8, .ref y9, .ref y10, .ref y11, .ref y12, .int bd, .int ck, .int ps, .int (nI pa), .int lc, .int (nI (b2n fb)), .long ek, .long ev, .int (nI el), .int (nI fn), .ref y13, .ref y14, .ref y15, .ref y16, .int (nI js), .ref y17, .int (nI (b2n ib))])), (y1, .inl (.long, 25, .inr (.inl K))), (y2, .inl (.long, 25, .inr (.inl V))), (y3, .inl (.int, 25, .inl (fun q => nI (z q)))), (y12, .inl (.long, 17, .inr (.inl fl))), (y11, .inl (.int, 2176, .inl (fun q => nI (bk q)))), (y6, .inl (.int, 128, .inl S)), (y5, .inl (.int, 4096, .inl (fun q => nI (D q)))), (y10, .inl (.int, 17, .inl (fun q => nI (mn q)))), (y9, .inl (.int, 17, .inl (fun q => nI (en q))))]) 0 [(0, .ref h), (1, .long k)] []
  have hz9 := okn_lt (hz _ hf.1)
  refine g_aload_n X d_MD_length_0 0 rfl ?_
  refine g_lload_n X d_MD_length_1 1 rfl ?_
  refine h_callV (As := [.long k]) (st := []) [0, 1, 2, 3, 4, 5, 6, 7, 8, 9] [(h, .inr (6, [.int th, .int (nI M), .int (nI n), .ref y1, .ref y2, .ref y3, .int (nI u), .ref y4, .ref y5, .ref y6, .ref y7, .int (nI c), .ref y8, .ref y9, .ref y10, .ref y11, .ref y12, .int (-1), .int ck, .int ps, .int (nI pa), .int lc, .int (nI 0), .long ek, .long (V (plc K k n)), .int (nI (z (plc K k n))), .int (nI fn), .ref y13, .ref y14, .ref y15, .ref y16, .int (nI js), .ref y17, .int (nI (b2n ib))])), (y1, .inl (.long, 25, .inr (.inl K))), (y2, .inl (.long, 25, .inr (.inl V))), (y3, .inl (.int, 25, .inl (fun q => nI (z q)))), (y12, .inl (.long, 17, .inr (.inl fl))), (y11, .inl (.int, 2176, .inl (fun q => nI (bk q)))), (y6, .inl (.int, 128, .inl S)), (y5, .inl (.int, 4096, .inl (fun q => nI (D q)))), (y10, .inl (.int, 17, .inl (fun q => nI (mn q)))), (y9, .inl (.int, 17, .inl (fun q => nI (en q))))] X d_MD_length_2 (c_MD_look_mem hst hn hn24 hz hf) (hl_w 0 rfl hn) rfl rfl k_ml_MD_229 k_cd_MD_look k_in_MD k_im_MD_look k_se_MD_look ⟨by decide +kernel, by decide +kernel, (by decide +kernel : (parseMethodDescriptor y_MD_look.desc).map (fun d => d.parameters.length) = some 1)⟩ ⟨Nat.le_of_ble_eq_true rfl, Nat.le_of_ble_eq_true rfl⟩ ⟨Nat.le_of_ble_eq_true rfl, Nat.le_of_ble_eq_true rfl⟩ (Nat.le_of_ble_eq_true rfl) hn rfl rfl rfl hp_no hp_no2 ?_
  refine g_istore_n [(3, .int (nI (b2n (lk9 (some (z (plc K k n), V (plc K k n))))))), (0, .ref h), (1, .long k)] X d_MD_length_5 (by decide) rfl ?_
  refine g_aload_n X d_MD_length_6 1 rfl ?_
  refine g_aload_n X d_MD_length_7 1 rfl ?_
  refine g_getf (k := 22) X d_MD_length_8 (hl_w 0 rfl hn) rfl i_MD (by decide) k_fl_MD_170 (fun _ h => h) rfl ?_
  refine g_if_eq 18 X d_MD_length_11 (by decide) (fun h11 => ?_) (fun h11 => ?_)
  · have h11 := cv_e0 (by omega) h11
    refine g_iconst (nI 0) X d_MD_length_18 (by decide) ?_
    refine h_putf (k := 0) (ty := .int) 0 [(h, .inr (6, [.int (nI 0), .int (nI M), .int (nI n), .ref y1, .ref y2, .ref y3, .int (nI u), .ref y4, .ref y5, .ref y6, .ref y7, .int (nI c), .ref y8, .ref y9, .ref y10, .ref y11, .ref y12, .int (-1), .int ck, .int ps, .int (nI pa), .int lc, .int (nI 0), .long ek, .long (V (plc K k n)), .int (nI (z (plc K k n))), .int (nI fn), .ref y13, .ref y14, .ref y15, .ref y16, .int (nI js), .ref y17, .int (nI (b2n ib))])), (y1, .inl (.long, 25, .inr (.inl K))), (y2, .inl (.long, 25, .inr (.inl V))), (y3, .inl (.int, 25, .inl (fun q => nI (z q)))), (y12, .inl (.long, 17, .inr (.inl fl))), (y11, .inl (.int, 2176, .inl (fun q => nI (bk q)))), (y6, .inl (.int, 128, .inl S)), (y5, .inl (.int, 4096, .inl (fun q => nI (D q)))), (y10, .inl (.int, 17, .inl (fun q => nI (mn q)))), (y9, .inl (.int, 17, .inl (fun q => nI (en q))))] X d_MD_length_19 hn rfl rfl i_MD t_MD t_MD_ok n_MD (by decide) k_fl_MD_70 (fun _ h => h) rfl (by decide +kernel) rfl rfl (Nat.le_of_ble_eq_true rfl) rfl ?_
    refine g_aload_n X d_MD_length_22 1 rfl ?_
    refine g_getf (k := 22) X d_MD_length_23 (hl_w 0 rfl hn) rfl i_MD (by decide) k_fl_MD_170 (fun _ h => h) rfl ?_
    refine g_if_eq 33 X d_MD_length_26 (by decide) (fun h26 => ?_) (fun h26 => ?_)
    · have h26 := cv_e0 (by omega) h26
      refine g_iload_n X d_MD_length_33 0 rfl ?_
      refine g_if_eq 44 X d_MD_length_34 (by decide) (fun h34 => ?_) (fun h34 => ?_)
      · have h34 := cv_e0 (b2n_31 _) h34
        have hw8 : z (plc K k n) = 255 := by
          have h8 := b2n_0 h34
          unfold lk9 at h8
          exact Decidable.of_not_not (of_decide_eq_false h8)
        refine g_iconst (-1) X d_MD_length_44 (by decide) ?_
        exact g_iret X hr d_MD_length_45 (Nat.le_of_ble_eq_true rfl) (Nat.le_of_ble_eq_true rfl) (⟨by rw [sres, if_pos hw8], rfl⟩)
      · have h34 := cv_n0 (b2n_31 _) h34
        have hw8 : z (plc K k n) ≠ 255 := by
          have h8 := b2n_1 h34
          unfold lk9 at h8
          exact of_decide_eq_true h8
        refine g_aload_n X d_MD_length_37 1 rfl ?_
        refine g_getf (k := 25) X d_MD_length_38 (hl_w 0 rfl hn) rfl i_MD (by decide) k_fl_MD_200 (fun _ h => h) rfl ?_
        refine g_goto 45 X d_MD_length_41 (by decide) ?_
        exact g_iret X hr d_MD_length_45 (Nat.le_of_ble_eq_true rfl) (Nat.le_of_ble_eq_true rfl) (⟨by rw [sres, if_neg hw8], rfl⟩)
    · have h26 := cv_n0 (by omega) h26
      omega
  · have h11 := cv_n0 (by omega) h11
    omega

set_option maxRecDepth 100000 in
set_option maxHeartbeats 1000000 in
theorem c_MD_find_tab {l : Launch} (hst : l.stackTraces = false) {h y1 y2 y3 y4 y5 y6 y7 y8 y9 y10 y11 y12 y13 y14 y15 y16 y17 M n u c pa el fn js : Nat} {th bd ck ps lc : Int32} {fb ib : Bool} {ek ev : Int64} {K : Nat → Int64} {V : Nat → Int64} {z : Nat → Nat} {fl : Nat → Int64} {bk : Nat → Nat} {S : Nat → Int32} {D : Nat → Nat} {mn : Nat → Nat} {en : Nat → Nat} (hn : [h, y1, y2, y3, y12, y11, y6, y5, y10, y9].Nodup) {lv : Nat → Nat} {tb : Nat → TBr} {T : Nat → Int32} (hc16 : c ≤ 16) (hB : tbA lv en mn fl bk tb c) (hK : ∀ t, t < c → tbOk M (tb t)) (hM : M ≤ 128) (hTT : ∀ t k, t < c → k < (tb t).mn → T ((tb t).id k) = nI k) (hD : ∀ q, D q < 256) {k : Int64} (hn24 : n ≤ 24) (hf : ¬ (plc K k n < n ∧ K (plc K k n) = k)) : fh_C l fhCl fhT y_MD_find (.code y_MD_find b_MD_find 4 (some .long)) 7 163 [.ref h, .long k] (hp [(h, .inr (6, [.int th, .int (nI M), .int (nI n), .ref y1, .ref y2, .ref y3, .int (nI u), .ref y4, .ref y5, .ref y6, .ref y7, .int (nI c), .ref y8, .ref y9, .ref y10, .ref y11, .ref y12, .int bd, .int ck, .int ps, .int (nI pa), .int lc, .int (nI (b2n fb)), .long ek, .long ev, .int (nI el), .int (nI fn), .ref y13, .ref y14, .ref y15, .ref y16, .int (nI js), .ref y17, .int (nI (b2n ib))])), (y1, .inl (.long, 25, .inr (.inl K))), (y2, .inl (.long, 25, .inr (.inl V))), (y3, .inl (.int, 25, .inl (fun q => nI (z q)))), (y12, .inl (.long, 17, .inr (.inl fl))), (y11, .inl (.int, 2176, .inl (fun q => nI (bk q)))), (y6, .inl (.int, 128, .inl S)), (y5, .inl (.int, 4096, .inl (fun q => nI (D q)))), (y10, .inl (.int, 17, .inl (fun q => nI (mn q)))), (y9, .inl (.int, 17, .inl (fun q => nI (en q))))]) (hp []) 0 0 (fun z9 g9 => ∃ (s9 : R5) (ek9 : Int64) (el9 : Nat) (ev9 : Int64) (ic9 : Bool), z9 = .inl (some (.long (fres (sek tb S T D k c 0).2.1))) ∧ g9 = hp [(h, .inr (6, [.int (nI (b2n (sek tb S T D k c 0).1.isSome)), .int (nI M), .int (nI n), .ref y1, .ref y2, .ref y3, .int (nI u), .ref y4, .ref y5, .ref y6, .ref y7, .int (nI c), .ref y8, .ref y9, .ref y10, .ref y11, .ref y12, .int s9.2.2.2.1, .int s9.2.2.2.2, .int (ps + nI (sek tb S T D k c 0).2.2.2), .int (nI s9.1), .int s9.2.1, .int (nI (b2n s9.2.2.1)), .long ek9, .long ev9, .int (nI el9), .int (nI fn), .ref y13, .ref y14, .ref y15, .ref y16, .int (nI js), .ref y17, .int (nI (b2n ic9))])), (y1, .inl (.long, 25, .inr (.inl K))), (y2, .inl (.long, 25, .inr (.inl V))), (y3, .inl (.int, 25, .inl (fun q => nI (z q)))), (y12, .inl (.long, 17, .inr (.inl fl))), (y11, .inl (.int, 2176, .inl (fun q => nI (bk q)))), (y6, .inl (.int, 128, .inl S)), (y5, .inl (.int, 4096, .inl (fun q => nI (D q)))), (y10, .inl (.int, 17, .inl (fun q => nI (mn q)))), (y9, .inl (.int, 17, .inl (fun q => nI (en q))))] ∧ s9.2.2 = ((sek tb S T D k c 0).1.isSome, fo (sek tb S T D k c 0).1, ck + nI (sek tb S T D k c 0).2.2.1)) := by
  refine fh_enter (by decide) hst (Nat.le_of_ble_eq_true rfl) ?_
  intro mD mp me sm mm margs mbel mmet mcod X hr hnm hno hf0
  show fh_G mp l me (fh_rm 7 163 0 0) sm mm margs mbel mmet mcod mD fhCl (hp [(h, .inr (6, [.int th, .int (nI M), .int (nI n), .ref y1, .ref y2, .ref y3, .int (nI u), .ref y4, .ref y5, .ref y6, .ref y7, .int (nI c), .ref y8, .ref y9, .ref y10, .ref y11, .ref y12, .int bd, .int ck, .int ps, .int (nI pa), .int lc, .int (nI (b2n fb)), .long ek, .long ev, .int (nI el), .int (nI fn), .ref y13, .ref y14, .ref y15, .ref y16, .int (nI js), .ref y17, .int (nI (b2n ib))])), (y1, .inl (.long, 25, .inr (.inl K))), (y2, .inl (.long, 25, .inr (.inl V))), (y3, .inl (.int, 25, .inl (fun q => nI (z q)))), (y12, .inl (.long, 17, .inr (.inl fl))), (y11, .inl (.int, 2176, .inl (fun q => nI (bk q)))), (y6, .inl (.int, 128, .inl S)), (y5, .inl (.int, 4096, .inl (fun q => nI (D q)))), (y10, .inl (.int, 17, .inl (fun q => nI (mn q)))), (y9, .inl (.int, 17, .inl (fun q => nI (en q))))]) 4 _ 0 0 (hp [(h, .inr (6, [.int th, .int (nI M), .int (nI n), .ref y1, .ref y2, .ref y3, .int (nI u), .ref y4, .ref y5, .ref y6, .ref y7, .int (nI c), .ref y8, .ref y9, .ref y10, .ref y11, .ref y12, .int bd, .int ck, .int ps, .int (nI pa), .int lc, .int (nI (b2n fb)), .long ek, .long ev, .int (nI el), .int (nI fn), .ref y13, .ref y14, .ref y15, .ref y16, .int (nI js), .ref y17, .int (nI (b2n ib))])), (y1, .inl (.long, 25, .inr (.inl K))), (y2, .inl (.long, 25, .inr (.inl V))), (y3, .inl (.int, 25, .inl (fun q => nI (z q)))), (y12, .inl (.long, 17, .inr (.inl fl))), (y11, .inl (.int, 2176, .inl (fun q => nI (bk q)))), (y6, .inl (.int, 128, .inl S)), (y5, .inl (.int, 4096, .inl (fun q => nI (D q)))), (y10, .inl (.int, 17, .inl (fun q => nI (mn q)))), (y9, .inl (.int, 17, .inl (fun q => nI (en q))))]) 0 [(0, .ref h), (1, .long k)] []
  refine g_aload_n X d_MD_find_0 0 rfl ?_
  refine g_lload_n X d_MD_find_1 1 rfl ?_
  refine g_callVr (As := [.long k]) (st := []) X d_MD_find_2 (c_MD_look_tab hst hn hc16 hB hK hM hTT hD hn24 hf) (hl_w 0 rfl hn) rfl rfl k_ml_MD_229 k_cd_MD_look k_in_MD k_im_MD_look k_se_MD_look ⟨by decide +kernel, by decide +kernel, (by decide +kernel : (parseMethodDescriptor "(J)Z").map (fun d => d.parameters.length) = some 1)⟩ ⟨Nat.le_of_ble_eq_true rfl, Nat.le_of_ble_eq_true rfl⟩ ⟨Nat.le_of_ble_eq_true rfl, Nat.le_of_ble_eq_true rfl⟩ (Nat.le_of_ble_eq_true rfl) (hp_sub hn [0, 1, 2, 3, 4, 5, 6, 7, 8, 9] rfl) hp_nor (fun E g9 h => by first | exact absurd h (by simp) | (simp at h)) (fun v9 g9 hq => ?_)
  obtain ⟨s9, ek9, el9, ev9, ic9, hv9, hg9, hs9, he9⟩ := hq
  cases hv9
  subst hg9
  refine g_ov [0, 1, 2, 3, 4, 5, 6, 7, 8, 9] [(h, .inr (6, [.int th, .int (nI M), .int (nI n), .ref y1, .ref y2, .ref y3, .int (nI u), .ref y4, .ref y5, .ref y6, .ref y7, .int (nI c), .ref y8, .ref y9, .ref y10, .ref y11, .ref y12, .int s9.2.2.2.1, .int s9.2.2.2.2, .int (ps + nI (sek tb S T D k c 0).2.2.2), .int (nI s9.1), .int s9.2.1, .int (nI (b2n s9.2.2.1)), .long ek9, .long ev9, .int (nI el9), .int (nI fn), .ref y13, .ref y14, .ref y15, .ref y16, .int (nI js), .ref y17, .int (nI (b2n ic9))])), (y1, .inl (.long, 25, .inr (.inl K))), (y2, .inl (.long, 25, .inr (.inl V))), (y3, .inl (.int, 25, .inl (fun q => nI (z q)))), (y12, .inl (.long, 17, .inr (.inl fl))), (y11, .inl (.int, 2176, .inl (fun q => nI (bk q)))), (y6, .inl (.int, 128, .inl S)), (y5, .inl (.int, 4096, .inl (fun q => nI (D q)))), (y10, .inl (.int, 17, .inl (fun q => nI (mn q)))), (y9, .inl (.int, 17, .inl (fun q => nI (en q))))] rfl rfl hn ?_
  have hf9 : s9.2.2.1 = (sek tb S T D k c 0).1.isSome := by rw [hs9]
  refine g_istore_n [(3, .int (nI (b2n (lk9 (sek tb S T D k c 0).2.1)))), (0, .ref h), (1, .long k)] X d_MD_find_5 (by decide) rfl ?_
  refine g_aload_n X d_MD_find_6 1 rfl ?_
  refine g_aload_n X d_MD_find_7 1 rfl ?_
  refine g_getf (k := 22) X d_MD_find_8 (hl_w 0 rfl hn) rfl i_MD (by decide) k_fl_MD_170 (fun _ h => h) rfl ?_
  refine g_if_eq 18 X d_MD_find_11 (by decide) (fun h11 => ?_) (fun h11 => ?_)
  · have h11 := cv_e0 (b2n_31 _) h11
    have hi9 : (sek tb S T D k c 0).1.isSome = false := by rw [← hf9]; exact b2n_0 h11
    have hT9 : b2n (sek tb S T D k c 0).1.isSome = 0 := by rw [hi9]; rfl
    refine g_iconst (nI 0) X d_MD_find_18 (by decide) ?_
    refine h_putf (k := 0) (ty := .int) 0 [(h, .inr (6, [.int (nI 0), .int (nI M), .int (nI n), .ref y1, .ref y2, .ref y3, .int (nI u), .ref y4, .ref y5, .ref y6, .ref y7, .int (nI c), .ref y8, .ref y9, .ref y10, .ref y11, .ref y12, .int s9.2.2.2.1, .int s9.2.2.2.2, .int (ps + nI (sek tb S T D k c 0).2.2.2), .int (nI s9.1), .int s9.2.1, .int (nI (b2n s9.2.2.1)), .long ek9, .long ev9, .int (nI el9), .int (nI fn), .ref y13, .ref y14, .ref y15, .ref y16, .int (nI js), .ref y17, .int (nI (b2n ic9))])), (y1, .inl (.long, 25, .inr (.inl K))), (y2, .inl (.long, 25, .inr (.inl V))), (y3, .inl (.int, 25, .inl (fun q => nI (z q)))), (y12, .inl (.long, 17, .inr (.inl fl))), (y11, .inl (.int, 2176, .inl (fun q => nI (bk q)))), (y6, .inl (.int, 128, .inl S)), (y5, .inl (.int, 4096, .inl (fun q => nI (D q)))), (y10, .inl (.int, 17, .inl (fun q => nI (mn q)))), (y9, .inl (.int, 17, .inl (fun q => nI (en q))))] X d_MD_find_19 hn rfl rfl i_MD t_MD t_MD_ok n_MD (by decide) k_fl_MD_70 (fun _ h => h) rfl (by decide +kernel) rfl rfl (Nat.le_of_ble_eq_true rfl) rfl ?_
    refine g_iload_n X d_MD_find_22 0 rfl ?_
    refine g_if_eq 40 X d_MD_find_23 (by decide) (fun h23 => ?_) (fun h23 => ?_)
    · have h23 := cv_e0 (b2n_31 _) h23
      have hw8 : fres (sek tb S T D k c 0).2.1 = 0 ∧ ((sek tb S T D k c 0).1 = none → sres (sek tb S T D k c 0).2.1 = (-1)) := lk_f (b2n_0 h23)
      refine g_lconst 0 X d_MD_find_40 (by decide) ?_
      exact g_lret X hr d_MD_find_41 (Nat.le_of_ble_eq_true rfl) (Nat.le_of_ble_eq_true rfl) (⟨s9, ek9, el9, ev9, ic9, by rw [hw8.1], by rw [hT9], hs9⟩)
    · have h23 := cv_n0 (b2n_31 _) h23
      obtain ⟨y, hy9, hw8⟩ := lk_t (b2n_1 h23)
      have he8 := he9 y hy9
      refine g_aload_n X d_MD_find_26 1 rfl ?_
      refine g_getf (k := 22) X d_MD_find_27 (hl_w 0 rfl hn) rfl i_MD (by decide) k_fl_MD_170 (fun _ h => h) rfl ?_
      refine g_if_ne 40 X d_MD_find_30 (by decide) (fun h30 => ?_) (fun h30 => ?_)
      · have h30 := cv_n0 (b2n_31 _) h30
        have hw8 : fres (sek tb S T D k c 0).2.1 = 0 ∧ True := by
          have h8 : (sek tb S T D k c 0).1.isSome = true := by rw [← hf9]; exact b2n_1 h30
          cases h7 : (sek tb S T D k c 0).1 with
          | none => rw [h7] at h8; cases h8
          | some f => rw [sek_flt _ _ f h7]; exact ⟨rfl, trivial⟩
        refine g_lconst 0 X d_MD_find_40 (by decide) ?_
        exact g_lret X hr d_MD_find_41 (Nat.le_of_ble_eq_true rfl) (Nat.le_of_ble_eq_true rfl) (⟨s9, ek9, el9, ev9, ic9, by rw [hw8.1], by rw [hT9], hs9⟩)
      · have h30 := cv_e0 (b2n_31 _) h30
        refine g_aload_n X d_MD_find_33 1 rfl ?_
        refine g_getf (k := 24) X d_MD_find_34 (hl_w 0 rfl hn) rfl i_MD (by decide) k_fl_MD_203 (fun _ h => h) rfl ?_
        refine g_goto 41 X d_MD_find_37 (by decide) ?_
        exact g_lret X hr d_MD_find_41 (Nat.le_of_ble_eq_true rfl) (Nat.le_of_ble_eq_true rfl) (⟨s9, ek9, el9, ev9, ic9, by rw [he8.2, hy9, fres, if_neg hw8], by rw [hT9], hs9⟩)
  · have h11 := cv_n0 (b2n_31 _) h11
    have hi9 : (sek tb S T D k c 0).1.isSome = true := by rw [← hf9]; exact b2n_1 h11
    have hT9 : b2n (sek tb S T D k c 0).1.isSome = 1 := by rw [hi9]; rfl
    have hN9 : (sek tb S T D k c 0).2.1 = none := by cases h8 : (sek tb S T D k c 0).1 with | none => rw [h8] at hi9; cases hi9 | some f => exact sek_flt _ _ f h8
    refine g_iconst (nI 1) X d_MD_find_14 (by decide) ?_
    refine g_goto 19 X d_MD_find_15 (by decide) ?_
    refine h_putf (k := 0) (ty := .int) 0 [(h, .inr (6, [.int (nI 1), .int (nI M), .int (nI n), .ref y1, .ref y2, .ref y3, .int (nI u), .ref y4, .ref y5, .ref y6, .ref y7, .int (nI c), .ref y8, .ref y9, .ref y10, .ref y11, .ref y12, .int s9.2.2.2.1, .int s9.2.2.2.2, .int (ps + nI (sek tb S T D k c 0).2.2.2), .int (nI s9.1), .int s9.2.1, .int (nI (b2n s9.2.2.1)), .long ek9, .long ev9, .int (nI el9), .int (nI fn), .ref y13, .ref y14, .ref y15, .ref y16, .int (nI js), .ref y17, .int (nI (b2n ic9))])), (y1, .inl (.long, 25, .inr (.inl K))), (y2, .inl (.long, 25, .inr (.inl V))), (y3, .inl (.int, 25, .inl (fun q => nI (z q)))), (y12, .inl (.long, 17, .inr (.inl fl))), (y11, .inl (.int, 2176, .inl (fun q => nI (bk q)))), (y6, .inl (.int, 128, .inl S)), (y5, .inl (.int, 4096, .inl (fun q => nI (D q)))), (y10, .inl (.int, 17, .inl (fun q => nI (mn q)))), (y9, .inl (.int, 17, .inl (fun q => nI (en q))))] X d_MD_find_19 hn rfl rfl i_MD t_MD t_MD_ok n_MD (by decide) k_fl_MD_70 (fun _ h => h) rfl (by decide +kernel) rfl rfl (Nat.le_of_ble_eq_true rfl) rfl ?_
    refine g_iload_n X d_MD_find_22 0 rfl ?_
    refine g_if_eq 40 X d_MD_find_23 (by decide) (fun h23 => ?_) (fun h23 => ?_)
    · have h23 := cv_e0 (b2n_31 _) h23
      have hw8 : fres (sek tb S T D k c 0).2.1 = 0 ∧ ((sek tb S T D k c 0).1 = none → sres (sek tb S T D k c 0).2.1 = (-1)) := lk_f (b2n_0 h23)
      refine g_lconst 0 X d_MD_find_40 (by decide) ?_
      exact g_lret X hr d_MD_find_41 (Nat.le_of_ble_eq_true rfl) (Nat.le_of_ble_eq_true rfl) (⟨s9, ek9, el9, ev9, ic9, by rw [hw8.1], by rw [hT9], hs9⟩)
    · have h23 := cv_n0 (b2n_31 _) h23
      obtain ⟨y, hy9, hw8⟩ := lk_t (b2n_1 h23)
      have he8 := he9 y hy9
      refine g_aload_n X d_MD_find_26 1 rfl ?_
      refine g_getf (k := 22) X d_MD_find_27 (hl_w 0 rfl hn) rfl i_MD (by decide) k_fl_MD_170 (fun _ h => h) rfl ?_
      refine g_if_ne 40 X d_MD_find_30 (by decide) (fun h30 => ?_) (fun h30 => ?_)
      · have h30 := cv_n0 (b2n_31 _) h30
        have hw8 : fres (sek tb S T D k c 0).2.1 = 0 ∧ True := by
          have h8 : (sek tb S T D k c 0).1.isSome = true := by rw [← hf9]; exact b2n_1 h30
          cases h7 : (sek tb S T D k c 0).1 with
          | none => rw [h7] at h8; cases h8
          | some f => rw [sek_flt _ _ f h7]; exact ⟨rfl, trivial⟩
        refine g_lconst 0 X d_MD_find_40 (by decide) ?_
        exact g_lret X hr d_MD_find_41 (Nat.le_of_ble_eq_true rfl) (Nat.le_of_ble_eq_true rfl) (⟨s9, ek9, el9, ev9, ic9, by rw [hw8.1], by rw [hT9], hs9⟩)
      · have h30 := cv_e0 (b2n_31 _) h30
        refine g_aload_n X d_MD_find_33 1 rfl ?_
        refine g_getf (k := 24) X d_MD_find_34 (hl_w 0 rfl hn) rfl i_MD (by decide) k_fl_MD_203 (fun _ h => h) rfl ?_
        refine g_goto 41 X d_MD_find_37 (by decide) ?_
        exact g_lret X hr d_MD_find_41 (Nat.le_of_ble_eq_true rfl) (Nat.le_of_ble_eq_true rfl) (⟨s9, ek9, el9, ev9, ic9, by rw [he8.2, hy9, fres, if_neg hw8], by rw [hT9], hs9⟩)

set_option maxRecDepth 100000 in
set_option maxHeartbeats 1000000 in
theorem c_MD_length_tab {l : Launch} (hst : l.stackTraces = false) {h y1 y2 y3 y4 y5 y6 y7 y8 y9 y10 y11 y12 y13 y14 y15 y16 y17 M n u c pa el fn js : Nat} {th bd ck ps lc : Int32} {fb ib : Bool} {ek ev : Int64} {K : Nat → Int64} {V : Nat → Int64} {z : Nat → Nat} {fl : Nat → Int64} {bk : Nat → Nat} {S : Nat → Int32} {D : Nat → Nat} {mn : Nat → Nat} {en : Nat → Nat} (hn : [h, y1, y2, y3, y12, y11, y6, y5, y10, y9].Nodup) {lv : Nat → Nat} {tb : Nat → TBr} {T : Nat → Int32} (hc16 : c ≤ 16) (hB : tbA lv en mn fl bk tb c) (hK : ∀ t, t < c → tbOk M (tb t)) (hM : M ≤ 128) (hTT : ∀ t k, t < c → k < (tb t).mn → T ((tb t).id k) = nI k) (hD : ∀ q, D q < 256) {k : Int64} (hn24 : n ≤ 24) (hf : ¬ (plc K k n < n ∧ K (plc K k n) = k)) : fh_C l fhCl fhT y_MD_length (.code y_MD_length b_MD_length 4 (some .int)) 7 163 [.ref h, .long k] (hp [(h, .inr (6, [.int th, .int (nI M), .int (nI n), .ref y1, .ref y2, .ref y3, .int (nI u), .ref y4, .ref y5, .ref y6, .ref y7, .int (nI c), .ref y8, .ref y9, .ref y10, .ref y11, .ref y12, .int bd, .int ck, .int ps, .int (nI pa), .int lc, .int (nI (b2n fb)), .long ek, .long ev, .int (nI el), .int (nI fn), .ref y13, .ref y14, .ref y15, .ref y16, .int (nI js), .ref y17, .int (nI (b2n ib))])), (y1, .inl (.long, 25, .inr (.inl K))), (y2, .inl (.long, 25, .inr (.inl V))), (y3, .inl (.int, 25, .inl (fun q => nI (z q)))), (y12, .inl (.long, 17, .inr (.inl fl))), (y11, .inl (.int, 2176, .inl (fun q => nI (bk q)))), (y6, .inl (.int, 128, .inl S)), (y5, .inl (.int, 4096, .inl (fun q => nI (D q)))), (y10, .inl (.int, 17, .inl (fun q => nI (mn q)))), (y9, .inl (.int, 17, .inl (fun q => nI (en q))))]) (hp []) 0 0 (fun z9 g9 => ∃ (s9 : R5) (ek9 : Int64) (el9 : Nat) (ev9 : Int64) (ic9 : Bool), z9 = .inl (some (.int (if (sek tb S T D k c 0).1.isSome then nI 0 else sres (sek tb S T D k c 0).2.1))) ∧ g9 = hp [(h, .inr (6, [.int (nI (b2n (sek tb S T D k c 0).1.isSome)), .int (nI M), .int (nI n), .ref y1, .ref y2, .ref y3, .int (nI u), .ref y4, .ref y5, .ref y6, .ref y7, .int (nI c), .ref y8, .ref y9, .ref y10, .ref y11, .ref y12, .int s9.2.2.2.1, .int s9.2.2.2.2, .int (ps + nI (sek tb S T D k c 0).2.2.2), .int (nI s9.1), .int s9.2.1, .int (nI (b2n s9.2.2.1)), .long ek9, .long ev9, .int (nI el9), .int (nI fn), .ref y13, .ref y14, .ref y15, .ref y16, .int (nI js), .ref y17, .int (nI (b2n ic9))])), (y1, .inl (.long, 25, .inr (.inl K))), (y2, .inl (.long, 25, .inr (.inl V))), (y3, .inl (.int, 25, .inl (fun q => nI (z q)))), (y12, .inl (.long, 17, .inr (.inl fl))), (y11, .inl (.int, 2176, .inl (fun q => nI (bk q)))), (y6, .inl (.int, 128, .inl S)), (y5, .inl (.int, 4096, .inl (fun q => nI (D q)))), (y10, .inl (.int, 17, .inl (fun q => nI (mn q)))), (y9, .inl (.int, 17, .inl (fun q => nI (en q))))] ∧ s9.2.2 = ((sek tb S T D k c 0).1.isSome, fo (sek tb S T D k c 0).1, ck + nI (sek tb S T D k c 0).2.2.1)) := by
  refine fh_enter (by decide) hst (Nat.le_of_ble_eq_true rfl) ?_
  intro mD mp me sm mm margs mbel mmet mcod X hr hnm hno hf0
  show fh_G mp l me (fh_rm 7 163 0 0) sm mm margs mbel mmet mcod mD fhCl (hp [(h, .inr (6, [.int th, .int (nI M), .int (nI n), .ref y1, .ref y2, .ref y3, .int (nI u), .ref y4, .ref y5, .ref y6, .ref y7, .int (nI c), .ref y8, .ref y9, .ref y10, .ref y11, .ref y12, .int bd, .int ck, .int ps, .int (nI pa), .int lc, .int (nI (b2n fb)), .long ek, .long ev, .int (nI el), .int (nI fn), .ref y13, .ref y14, .ref y15, .ref y16, .int (nI js), .ref y17, .int (nI (b2n ib))])), (y1, .inl (.long, 25, .inr (.inl K))), (y2, .inl (.long, 25, .inr (.inl V))), (y3, .inl (.int, 25, .inl (fun q => nI (z q)))), (y12, .inl (.long, 17, .inr (.inl fl))), (y11, .inl (.int, 2176, .inl (fun q => nI (bk q)))), (y6, .inl (.int, 128, .inl S)), (y5, .inl (.int, 4096, .inl (fun q => nI (D q)))), (y10, .inl (.int, 17, .inl (fun q => nI (mn q)))), (y9, .inl (.int, 17, .inl (fun q => nI (en q))))]) 4 _ 0 0 (hp [(h, .inr (6, [.int th, .int (nI M), .int (nI n), .ref y1, .ref y2, .ref y3, .int (nI u), .ref y4, .ref y5, .ref y6, .ref y7, .int (nI c), .ref y8, .ref y9, .ref y10, .ref y11, .ref y12, .int bd, .int ck, .int ps, .int (nI pa), .int lc, .int (nI (b2n fb)), .long ek, .long ev, .int (nI el), .int (nI fn), .ref y13, .ref y14, .ref y15, .ref y16, .int (nI js), .ref y17, .int (nI (b2n ib))])), (y1, .inl (.long, 25, .inr (.inl K))), (y2, .inl (.long, 25, .inr (.inl V))), (y3, .inl (.int, 25, .inl (fun q => nI (z q)))), (y12, .inl (.long, 17, .inr (.inl fl))), (y11, .inl (.int, 2176, .inl (fun q => nI (bk q)))), (y6, .inl (.int, 128, .inl S)), (y5, .inl (.int, 4096, .inl (fun q => nI (D q)))), (y10, .inl (.int, 17, .inl (fun q => nI (mn q)))), (y9, .inl (.int, 17, .inl (fun q => nI (en q))))]) 0 [(0, .ref h), (1, .long k)] []
  refine g_aload_n X d_MD_length_0 0 rfl ?_
  refine g_lload_n X d_MD_length_1 1 rfl ?_
  refine g_callVr (As := [.long k]) (st := []) X d_MD_length_2 (c_MD_look_tab hst hn hc16 hB hK hM hTT hD hn24 hf) (hl_w 0 rfl hn) rfl rfl k_ml_MD_229 k_cd_MD_look k_in_MD k_im_MD_look k_se_MD_look ⟨by decide +kernel, by decide +kernel, (by decide +kernel : (parseMethodDescriptor "(J)Z").map (fun d => d.parameters.length) = some 1)⟩ ⟨Nat.le_of_ble_eq_true rfl, Nat.le_of_ble_eq_true rfl⟩ ⟨Nat.le_of_ble_eq_true rfl, Nat.le_of_ble_eq_true rfl⟩ (Nat.le_of_ble_eq_true rfl) (hp_sub hn [0, 1, 2, 3, 4, 5, 6, 7, 8, 9] rfl) hp_nor (fun E g9 h => by first | exact absurd h (by simp) | (simp at h)) (fun v9 g9 hq => ?_)
  obtain ⟨s9, ek9, el9, ev9, ic9, hv9, hg9, hs9, he9⟩ := hq
  cases hv9
  subst hg9
  refine g_ov [0, 1, 2, 3, 4, 5, 6, 7, 8, 9] [(h, .inr (6, [.int th, .int (nI M), .int (nI n), .ref y1, .ref y2, .ref y3, .int (nI u), .ref y4, .ref y5, .ref y6, .ref y7, .int (nI c), .ref y8, .ref y9, .ref y10, .ref y11, .ref y12, .int s9.2.2.2.1, .int s9.2.2.2.2, .int (ps + nI (sek tb S T D k c 0).2.2.2), .int (nI s9.1), .int s9.2.1, .int (nI (b2n s9.2.2.1)), .long ek9, .long ev9, .int (nI el9), .int (nI fn), .ref y13, .ref y14, .ref y15, .ref y16, .int (nI js), .ref y17, .int (nI (b2n ic9))])), (y1, .inl (.long, 25, .inr (.inl K))), (y2, .inl (.long, 25, .inr (.inl V))), (y3, .inl (.int, 25, .inl (fun q => nI (z q)))), (y12, .inl (.long, 17, .inr (.inl fl))), (y11, .inl (.int, 2176, .inl (fun q => nI (bk q)))), (y6, .inl (.int, 128, .inl S)), (y5, .inl (.int, 4096, .inl (fun q => nI (D q)))), (y10, .inl (.int, 17, .inl (fun q => nI (mn q)))), (y9, .inl (.int, 17, .inl (fun q => nI (en q))))] rfl rfl hn ?_
  have hf9 : s9.2.2.1 = (sek tb S T D k c 0).1.isSome := by rw [hs9]
  refine g_istore_n [(3, .int (nI (b2n (lk9 (sek tb S T D k c 0).2.1)))), (0, .ref h), (1, .long k)] X d_MD_length_5 (by decide) rfl ?_
  refine g_aload_n X d_MD_length_6 1 rfl ?_
  refine g_aload_n X d_MD_length_7 1 rfl ?_
  refine g_getf (k := 22) X d_MD_length_8 (hl_w 0 rfl hn) rfl i_MD (by decide) k_fl_MD_170 (fun _ h => h) rfl ?_
  refine g_if_eq 18 X d_MD_length_11 (by decide) (fun h11 => ?_) (fun h11 => ?_)
  · have h11 := cv_e0 (b2n_31 _) h11
    have hT9 : b2n (sek tb S T D k c 0).1.isSome = 0 := by rw [← hf9]; exact h11
    refine g_iconst (nI 0) X d_MD_length_18 (by decide) ?_
    refine h_putf (k := 0) (ty := .int) 0 [(h, .inr (6, [.int (nI 0), .int (nI M), .int (nI n), .ref y1, .ref y2, .ref y3, .int (nI u), .ref y4, .ref y5, .ref y6, .ref y7, .int (nI c), .ref y8, .ref y9, .ref y10, .ref y11, .ref y12, .int s9.2.2.2.1, .int s9.2.2.2.2, .int (ps + nI (sek tb S T D k c 0).2.2.2), .int (nI s9.1), .int s9.2.1, .int (nI (b2n s9.2.2.1)), .long ek9, .long ev9, .int (nI el9), .int (nI fn), .ref y13, .ref y14, .ref y15, .ref y16, .int (nI js), .ref y17, .int (nI (b2n ic9))])), (y1, .inl (.long, 25, .inr (.inl K))), (y2, .inl (.long, 25, .inr (.inl V))), (y3, .inl (.int, 25, .inl (fun q => nI (z q)))), (y12, .inl (.long, 17, .inr (.inl fl))), (y11, .inl (.int, 2176, .inl (fun q => nI (bk q)))), (y6, .inl (.int, 128, .inl S)), (y5, .inl (.int, 4096, .inl (fun q => nI (D q)))), (y10, .inl (.int, 17, .inl (fun q => nI (mn q)))), (y9, .inl (.int, 17, .inl (fun q => nI (en q))))] X d_MD_length_19 hn rfl rfl i_MD t_MD t_MD_ok n_MD (by decide) k_fl_MD_70 (fun _ h => h) rfl (by decide +kernel) rfl rfl (Nat.le_of_ble_eq_true rfl) rfl ?_
    refine g_aload_n X d_MD_length_22 1 rfl ?_
    refine g_getf (k := 22) X d_MD_length_23 (hl_w 0 rfl hn) rfl i_MD (by decide) k_fl_MD_170 (fun _ h => h) rfl ?_
    refine g_if_eq 33 X d_MD_length_26 (by decide) (fun h26 => ?_) (fun h26 => ?_)
    · have h26 := cv_e0 (b2n_31 _) h26
      have hi9 : (sek tb S T D k c 0).1.isSome = false := by rw [← hf9]; exact b2n_0 h26
      refine g_iload_n X d_MD_length_33 0 rfl ?_
      refine g_if_eq 44 X d_MD_length_34 (by decide) (fun h34 => ?_) (fun h34 => ?_)
      · have h34 := cv_e0 (b2n_31 _) h34
        have hw8 : fres (sek tb S T D k c 0).2.1 = 0 ∧ ((sek tb S T D k c 0).1 = none → sres (sek tb S T D k c 0).2.1 = (-1)) := lk_f (b2n_0 h34)
        refine g_iconst (-1) X d_MD_length_44 (by decide) ?_
        exact g_iret X hr d_MD_length_45 (Nat.le_of_ble_eq_true rfl) (Nat.le_of_ble_eq_true rfl) (⟨s9, ek9, el9, ev9, ic9, by rw [hi9, hw8.2 (Option.isSome_eq_false_iff.mp hi9 |> Option.isNone_iff_eq_none.mp)]; rfl, by rw [hT9], hs9⟩)
      · have h34 := cv_n0 (b2n_31 _) h34
        obtain ⟨y, hy9, hw8⟩ := lk_t (b2n_1 h34)
        have he8 := he9 y hy9
        refine g_aload_n X d_MD_length_37 1 rfl ?_
        refine g_getf (k := 25) X d_MD_length_38 (hl_w 0 rfl hn) rfl i_MD (by decide) k_fl_MD_200 (fun _ h => h) rfl ?_
        refine g_goto 45 X d_MD_length_41 (by decide) ?_
        exact g_iret X hr d_MD_length_45 (Nat.le_of_ble_eq_true rfl) (Nat.le_of_ble_eq_true rfl) (⟨s9, ek9, el9, ev9, ic9, by rw [hi9, he8.1, hy9, sres, if_neg hw8]; rfl, by rw [hT9], hs9⟩)
    · have h26 := cv_n0 (b2n_31 _) h26
      have hi9 : (sek tb S T D k c 0).1.isSome = true := by rw [← hf9]; exact b2n_1 h26
      refine g_iconst (nI 0) X d_MD_length_29 (by decide) ?_
      refine g_goto 45 X d_MD_length_30 (by decide) ?_
      exact g_iret X hr d_MD_length_45 (Nat.le_of_ble_eq_true rfl) (Nat.le_of_ble_eq_true rfl) (⟨s9, ek9, el9, ev9, ic9, by rw [hi9]; rfl, by rw [hT9], hs9⟩)
  · have h11 := cv_n0 (b2n_31 _) h11
    have hT9 : b2n (sek tb S T D k c 0).1.isSome = 1 := by rw [← hf9, b2n_1 h11]; rfl
    refine g_iconst (nI 1) X d_MD_length_14 (by decide) ?_
    refine g_goto 19 X d_MD_length_15 (by decide) ?_
    refine h_putf (k := 0) (ty := .int) 0 [(h, .inr (6, [.int (nI 1), .int (nI M), .int (nI n), .ref y1, .ref y2, .ref y3, .int (nI u), .ref y4, .ref y5, .ref y6, .ref y7, .int (nI c), .ref y8, .ref y9, .ref y10, .ref y11, .ref y12, .int s9.2.2.2.1, .int s9.2.2.2.2, .int (ps + nI (sek tb S T D k c 0).2.2.2), .int (nI s9.1), .int s9.2.1, .int (nI (b2n s9.2.2.1)), .long ek9, .long ev9, .int (nI el9), .int (nI fn), .ref y13, .ref y14, .ref y15, .ref y16, .int (nI js), .ref y17, .int (nI (b2n ic9))])), (y1, .inl (.long, 25, .inr (.inl K))), (y2, .inl (.long, 25, .inr (.inl V))), (y3, .inl (.int, 25, .inl (fun q => nI (z q)))), (y12, .inl (.long, 17, .inr (.inl fl))), (y11, .inl (.int, 2176, .inl (fun q => nI (bk q)))), (y6, .inl (.int, 128, .inl S)), (y5, .inl (.int, 4096, .inl (fun q => nI (D q)))), (y10, .inl (.int, 17, .inl (fun q => nI (mn q)))), (y9, .inl (.int, 17, .inl (fun q => nI (en q))))] X d_MD_length_19 hn rfl rfl i_MD t_MD t_MD_ok n_MD (by decide) k_fl_MD_70 (fun _ h => h) rfl (by decide +kernel) rfl rfl (Nat.le_of_ble_eq_true rfl) rfl ?_
    refine g_aload_n X d_MD_length_22 1 rfl ?_
    refine g_getf (k := 22) X d_MD_length_23 (hl_w 0 rfl hn) rfl i_MD (by decide) k_fl_MD_170 (fun _ h => h) rfl ?_
    refine g_if_eq 33 X d_MD_length_26 (by decide) (fun h26 => ?_) (fun h26 => ?_)
    · have h26 := cv_e0 (b2n_31 _) h26
      have hi9 : (sek tb S T D k c 0).1.isSome = false := by rw [← hf9]; exact b2n_0 h26
      refine g_iload_n X d_MD_length_33 0 rfl ?_
      refine g_if_eq 44 X d_MD_length_34 (by decide) (fun h34 => ?_) (fun h34 => ?_)
      · have h34 := cv_e0 (b2n_31 _) h34
        have hw8 : fres (sek tb S T D k c 0).2.1 = 0 ∧ ((sek tb S T D k c 0).1 = none → sres (sek tb S T D k c 0).2.1 = (-1)) := lk_f (b2n_0 h34)
        refine g_iconst (-1) X d_MD_length_44 (by decide) ?_
        exact g_iret X hr d_MD_length_45 (Nat.le_of_ble_eq_true rfl) (Nat.le_of_ble_eq_true rfl) (⟨s9, ek9, el9, ev9, ic9, by rw [hi9, hw8.2 (Option.isSome_eq_false_iff.mp hi9 |> Option.isNone_iff_eq_none.mp)]; rfl, by rw [hT9], hs9⟩)
      · have h34 := cv_n0 (b2n_31 _) h34
        obtain ⟨y, hy9, hw8⟩ := lk_t (b2n_1 h34)
        have he8 := he9 y hy9
        refine g_aload_n X d_MD_length_37 1 rfl ?_
        refine g_getf (k := 25) X d_MD_length_38 (hl_w 0 rfl hn) rfl i_MD (by decide) k_fl_MD_200 (fun _ h => h) rfl ?_
        refine g_goto 45 X d_MD_length_41 (by decide) ?_
        exact g_iret X hr d_MD_length_45 (Nat.le_of_ble_eq_true rfl) (Nat.le_of_ble_eq_true rfl) (⟨s9, ek9, el9, ev9, ic9, by rw [hi9, he8.1, hy9, sres, if_neg hw8]; rfl, by rw [hT9], hs9⟩)
    · have h26 := cv_n0 (b2n_31 _) h26
      have hi9 : (sek tb S T D k c 0).1.isSome = true := by rw [← hf9]; exact b2n_1 h26
      refine g_iconst (nI 0) X d_MD_length_29 (by decide) ?_
      refine g_goto 45 X d_MD_length_30 (by decide) ?_
      exact g_iret X hr d_MD_length_45 (Nat.le_of_ble_eq_true rfl) (Nat.le_of_ble_eq_true rfl) (⟨s9, ek9, el9, ev9, ic9, by rw [hi9]; rfl, by rw [hT9], hs9⟩)
