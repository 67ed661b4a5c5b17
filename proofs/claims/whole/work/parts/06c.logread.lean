set_option maxRecDepth 100000 in
set_option maxHeartbeats 4000000 in
theorem c_ER_readEntry_LG {l : Launch} (hst : l.stackTraces = false) {h b u av es sz : Nat} {ke va : Int64} {B : Nat → Nat} (hn : [h, b].Nodup) (hB : ∀ q, B q < 256) (hu : u ≤ 1024) (ha : av ≤ u) : fh_C l fhCl fhT y_ER_readEntry (.code y_ER_readEntry b_ER_readEntry 4 (some .boolean)) 2 42 [.ref h] (hp [(h, .inr (1, [.ref b, .int (nI u), .int (nI av), .int (nI es), .long ke, .int (nI sz), .long va])), (b, .inl (.byte, 1024, .inl (fun q => sb_b (B q))))]) (hp []) 0 0 (fun z9 g9 => ∃ (a1 e1 s1 : Nat) (k1 v1 : Int64), g9 = hp [(h, .inr (1, [.ref b, .int (nI u), .int (nI a1), .int (nI e1), .long k1, .int (nI s1), .long v1])), (b, .inl (.byte, 1024, .inl (fun q => sb_b (B q))))] ∧ ((okE (fun j => B (av + j)) av u ∧ z9 = .inl (some (.int (nI 1))) ∧ a1 = av + ebn (B (av + 8)) ∧ e1 = es + smf (fun j => B (av + j)) (ebn (B (av + 8))) ∧ k1 = rdK (fun j => B (av + j)) 8 ∧ s1 = B (av + 8) ∧ v1 = rdK (fun j => B (av + (9 + j))) (ebn (B (av + 8)) - 9)) ∨ (¬ okE (fun j => B (av + j)) av u ∧ z9 = .inl (some (.int (nI 0)))))) := by
  refine fh_enter (by decide) hst (Nat.le_of_ble_eq_true rfl) ?_
  intro D mp me sm mm margs mbel mmet mcod X hr hnm hno hf0
  show fh_G mp l me (fh_rm 2 42 0 0) sm mm margs mbel mmet mcod D fhCl (hp [(h, .inr (1, [.ref b, .int (nI u), .int (nI av), .int (nI es), .long ke, .int (nI sz), .long va])), (b, .inl (.byte, 1024, .inl (fun q => sb_b (B q))))]) 4 _ 0 0 (hp [(h, .inr (1, [.ref b, .int (nI u), .int (nI av), .int (nI es), .long ke, .int (nI sz), .long va])), (b, .inl (.byte, 1024, .inl (fun q => sb_b (B q))))]) 0 [(0, .ref h)] []
  refine g_aload_n X d_ER_readEntry_0 0 rfl ?_
  refine g_lconst 0 X d_ER_readEntry_1 (by decide) ?_
  refine h_putf (k := 4) (ty := .long) 0 [(h, .inr (1, [.ref b, .int (nI u), .int (nI av), .int (nI es), .long 0, .int (nI sz), .long va])), (b, .inl (.byte, 1024, .inl (fun q => sb_b (B q))))] X d_ER_readEntry_2 hn rfl rfl i_LG t_LG t_LG_ok n_LG (by decide) k_fl_ER_9 (fun _ h => h) rfl (by decide +kernel) rfl rfl (Nat.le_of_ble_eq_true rfl) rfl ?_
  refine g_aload_n X d_ER_readEntry_5 0 rfl ?_
  refine g_iconst (nI 0) X d_ER_readEntry_6 (by decide) ?_
  refine h_putf (k := 5) (ty := .int) 0 [(h, .inr (1, [.ref b, .int (nI u), .int (nI av), .int (nI es), .long 0, .int (nI 0), .long va])), (b, .inl (.byte, 1024, .inl (fun q => sb_b (B q))))] X d_ER_readEntry_7 hn rfl rfl i_LG t_LG t_LG_ok n_LG (by decide) k_fl_ER_15 (fun _ h => h) rfl (by decide +kernel) rfl rfl (Nat.le_of_ble_eq_true rfl) rfl ?_
  refine g_aload_n X d_ER_readEntry_10 0 rfl ?_
  refine g_lconst 0 X d_ER_readEntry_11 (by decide) ?_
  refine h_putf (k := 6) (ty := .long) 0 [(h, .inr (1, [.ref b, .int (nI u), .int (nI av), .int (nI es), .long 0, .int (nI 0), .long 0])), (b, .inl (.byte, 1024, .inl (fun q => sb_b (B q))))] X d_ER_readEntry_12 hn rfl rfl i_LG t_LG t_LG_ok n_LG (by decide) k_fl_ER_19 (fun _ h => h) rfl (by decide +kernel) rfl rfl (Nat.le_of_ble_eq_true rfl) rfl ?_
  refine g_bipush (nI 9) X d_ER_readEntry_15 (by decide) ?_
  refine g_istore_n [(1, .int (nI 9)), (0, .ref h)] X d_ER_readEntry_17 (by decide) rfl ?_
  refine g_iconst (nI 0) X d_ER_readEntry_18 (by decide) ?_
  refine g_istore_n [(2, .int (nI 0)), (1, .int (nI 9)), (0, .ref h)] X d_ER_readEntry_19 (by decide) rfl ?_
  have L20 : ∀ (fu20 : Nat) (t : Nat) (en : Nat) (sz1 : Nat) (ke1 : Int64) (va1 : Int64), (av + t ≤ u) → (ke1 = rdK (fun j => B (av + j)) (min t 8)) → (va1 = rdK (fun j => B (av + (9 + j))) (t - 9)) → ((t ≤ 8 ∧ en = 9 ∧ sz1 = 0) ∨ (9 ≤ t ∧ okn (B (av + 8)) ∧ en = ebn (B (av + 8)) ∧ sz1 = B (av + 8))) → (t ≤ en) → 17 - t < fu20 → fh_G mp l me (fh_rm 2 42 0 0) sm mm margs mbel mmet mcod D fhCl (hp [(h, .inr (1, [.ref b, .int (nI u), .int (nI av), .int (nI es), .long ke, .int (nI sz), .long va])), (b, .inl (.byte, 1024, .inl (fun q => sb_b (B q))))]) 4 (fh_MQ mbel D fhCl (hp [(h, .inr (1, [.ref b, .int (nI u), .int (nI av), .int (nI es), .long ke, .int (nI sz), .long va])), (b, .inl (.byte, 1024, .inl (fun q => sb_b (B q))))]) (fun z9 g9 => ∃ (a1 e1 s1 : Nat) (k1 v1 : Int64), g9 = hp [(h, .inr (1, [.ref b, .int (nI u), .int (nI a1), .int (nI e1), .long k1, .int (nI s1), .long v1])), (b, .inl (.byte, 1024, .inl (fun q => sb_b (B q))))] ∧ ((okE (fun j => B (av + j)) av u ∧ z9 = .inl (some (.int (nI 1))) ∧ a1 = av + ebn (B (av + 8)) ∧ e1 = es + smf (fun j => B (av + j)) (ebn (B (av + 8))) ∧ k1 = rdK (fun j => B (av + j)) 8 ∧ s1 = B (av + 8) ∧ v1 = rdK (fun j => B (av + (9 + j))) (ebn (B (av + 8)) - 9)) ∨ (¬ okE (fun j => B (av + j)) av u ∧ z9 = .inl (some (.int (nI 0)))))) margs sm 0 0) 0 0 (hp [(h, .inr (1, [.ref b, .int (nI u), .int (nI (av + t)), .int (nI (es + smf (fun j => B (av + j)) t)), .long ke1, .int (nI sz1), .long va1])), (b, .inl (.byte, 1024, .inl (fun q => sb_b (B q))))]) 20 [(2, .int (nI t)), (1, .int (nI en)), (0, .ref h)] [] := by
    intro fu20
    induction fu20 with
    | zero => intro t en sz1 ke1 va1 q1 q2 q3 q4 q5 hm20; exact absurd hm20 (Nat.not_lt_zero _)
    | succ fu20 ih20 =>
      intro t en sz1 ke1 va1 q1 q2 q3 q4 q5 hm20
      have h60 : en ≤ 17 := by
        rcases q4 with q | q
        · omega
        · rw [q.2.2.1]; exact ebn_le q.2.1
      refine g_iload_n X d_ER_readEntry_20 0 rfl ?_
      refine g_bipush (nI 17) X d_ER_readEntry_21 (by decide) ?_
      refine g_icmp_ge 127 X d_ER_readEntry_23 (by decide) (fun h23 => ?_) (fun h23 => ?_)
      · have h23 := cv_le (by omega) (by omega) h23
        have h71 : 9 ≤ t ∧ okn (B (av + 8)) ∧ en = ebn (B (av + 8)) ∧ sz1 = B (av + 8) := by
          rcases q4 with q | q
          · omega
          · exact q
        have h72 := ebn_le h71.2.1
        have h73 : t = ebn (B (av + 8)) := by omega
        refine g_iconst (nI 1) X d_ER_readEntry_127 (by decide) ?_
        exact g_zret X hr rfl d_ER_readEntry_128 (Nat.le_of_ble_eq_true rfl) (Nat.le_of_ble_eq_true rfl) (⟨_, _, _, _, _, rfl, Or.inl ⟨⟨by omega, h71.2.1, by show av + ebn (B (av + 8)) ≤ u; omega⟩, rfl, by rw [h73], by rw [h73], by rw [q2, Nat.min_eq_right (by omega)], h71.2.2.2, by rw [q3, h73]⟩⟩)
      · have h23 := cv_nle (by omega) (by omega) h23
        refine g_iload_n X d_ER_readEntry_26 0 rfl ?_
        refine g_iload_n X d_ER_readEntry_27 1 rfl ?_
        refine g_icmp_ge 127 X d_ER_readEntry_28 (by decide) (fun h28 => ?_) (fun h28 => ?_)
        · have h28 := cv_le (by omega) (by omega) h28
          have h71 : 9 ≤ t ∧ okn (B (av + 8)) ∧ en = ebn (B (av + 8)) ∧ sz1 = B (av + 8) := by
            rcases q4 with q | q
            · omega
            · exact q
          have h72 := ebn_le h71.2.1
          have h73 : t = ebn (B (av + 8)) := by omega
          refine g_iconst (nI 1) X d_ER_readEntry_127 (by decide) ?_
          exact g_zret X hr rfl d_ER_readEntry_128 (Nat.le_of_ble_eq_true rfl) (Nat.le_of_ble_eq_true rfl) (⟨_, _, _, _, _, rfl, Or.inl ⟨⟨by omega, h71.2.1, by show av + ebn (B (av + 8)) ≤ u; omega⟩, rfl, by rw [h73], by rw [h73], by rw [q2, Nat.min_eq_right (by omega)], h71.2.2.2, by rw [q3, h73]⟩⟩)
        · have h28 := cv_nle (by omega) (by omega) h28
          refine g_aload_n X d_ER_readEntry_31 2 rfl ?_
          rcases Nat.lt_or_ge (av + t) u with h32 | h32
          · have h33 := hB (av + t)
            refine h_callU (x := ⟨"RunStore$EntryReader", "nextByte", "()I"⟩) (owner := "RunStore$EntryReader") (As := []) (st := []) [0, 1] [(h, .inr (1, [.ref b, .int (nI u), .int (nI (av + t + 1)), .int (nI (es + smf (fun j => B (av + j)) t + B (av + t))), .long ke1, .int (nI sz1), .long va1])), (b, .inl (.byte, 1024, .inl (fun q => sb_b (B q))))] X d_ER_readEntry_32 (c_LG_nextByte_in hst hn hB hu h32) (hl_w 0 rfl hn) rfl rfl k_ml_ER_22 k_sm_ER_nextByte (va_Decl.abs (va_Nw.of rfl (X.words _ k_dc_ER_nextByte))) k_cd_LG_nextByte k_in_LG k_im_LG_nextByte k_sx_LG_nextByte ⟨by decide +kernel, by decide +kernel, (by decide +kernel : (parseMethodDescriptor "()I").map (fun d => d.parameters.length) = some 0)⟩ ⟨Nat.le_of_ble_eq_true rfl, Nat.le_of_ble_eq_true rfl⟩ ⟨Nat.le_of_ble_eq_true rfl, Nat.le_of_ble_eq_true rfl⟩ (Nat.le_of_ble_eq_true rfl) hn rfl rfl rfl hp_no hp_no2 ?_
            refine g_istore_n [(3, .int (nI (B (av + t)))), (2, .int (nI t)), (1, .int (nI en)), (0, .ref h)] X d_ER_readEntry_35 (by decide) rfl ?_
            refine g_iload_n X d_ER_readEntry_36 0 rfl ?_
            refine g_iconst (-1) X d_ER_readEntry_37 (by decide) ?_
            refine g_icmp_ne 43 X d_ER_readEntry_38 (by decide) (fun h38 => ?_) (fun h38 => ?_)
            · refine g_iload_n X d_ER_readEntry_43 1 rfl ?_
              refine g_bipush (nI 8) X d_ER_readEntry_44 (by decide) ?_
              refine g_icmp_ge 66 X d_ER_readEntry_46 (by decide) (fun h46 => ?_) (fun h46 => ?_)
              · have h46 := cv_le (by omega) (by omega) h46
                refine g_iload_n X d_ER_readEntry_66 1 rfl ?_
                refine g_bipush (nI 8) X d_ER_readEntry_67 (by decide) ?_
                refine g_icmp_le 89 X d_ER_readEntry_69 (by decide) (fun h69 => ?_) (fun h69 => ?_)
                · have h69 := cv_le (by omega) (by omega) h69
                  have e8 : t = 8 := by omega
                  have h74 : en = 9 ∧ sz1 = 0 := by rcases q4 with q | q <;> omega
                  refine g_iload_n X d_ER_readEntry_89 0 rfl ?_
                  refine g_bipush (nI 8) X d_ER_readEntry_90 (by decide) ?_
                  refine g_icmp_le 102 X d_ER_readEntry_92 (by decide) (fun h92 => ?_) (fun h92 => ?_)
                  · have h92 := cv_le (by omega) (by omega) h92
                    have h75 : okn (B (av + 8)) := by
                      rw [← e8]
                      first | exact Or.inl (by omega) | exact Or.inr (by omega)
                    refine g_aload_n X d_ER_readEntry_102 3 rfl ?_
                    refine g_iload_n X d_ER_readEntry_103 0 rfl ?_
                    refine h_putf (k := 5) (ty := .int) 0 [(h, .inr (1, [.ref b, .int (nI u), .int (nI (av + t + 1)), .int (nI (es + smf (fun j => B (av + j)) t + B (av + t))), .long ke1, .int (nI (B (av + t))), .long va1])), (b, .inl (.byte, 1024, .inl (fun q => sb_b (B q))))] X d_ER_readEntry_104 hn rfl rfl i_LG t_LG t_LG_ok n_LG (by decide) k_fl_ER_15 (fun _ h => h) rfl (by decide +kernel) rfl rfl (Nat.le_of_ble_eq_true rfl) rfl ?_
                    refine g_iload_n X d_ER_readEntry_107 0 rfl ?_
                    refine h_callSN (As := [.int (nI (B (av + t)))]) (st := []) [] [(h, .inr (1, [.ref b, .int (nI u), .int (nI (av + t + 1)), .int (nI (es + smf (fun j => B (av + j)) t + B (av + t))), .long ke1, .int (nI (B (av + t))), .long va1])), (b, .inl (.byte, 1024, .inl (fun q => sb_b (B q))))] X d_ER_readEntry_108 (c_RS_entryBytes hst (by omega)) rfl k_ml_ER_26 k_cd_RS_entryBytes k_in_RS k_st_RS_entryBytes ⟨by decide +kernel, by decide +kernel, (by decide +kernel : (parseMethodDescriptor y_RS_entryBytes.desc).map (fun d => d.parameters.length) = some 1)⟩ ⟨Nat.le_of_ble_eq_true rfl, Nat.le_of_ble_eq_true rfl⟩ ⟨Nat.le_of_ble_eq_true rfl, Nat.le_of_ble_eq_true rfl⟩ (Nat.le_of_ble_eq_true rfl) hn rfl rfl rfl hp_no hp_no2 ?_
                    refine g_istore_n [(1, .int (nI (ebn (B (av + t))))), (3, .int (nI (B (av + t)))), (2, .int (nI t)), (0, .ref h)] X d_ER_readEntry_111 (by decide) rfl ?_
                    refine g_goto 121 X d_ER_readEntry_112 (by decide) ?_
                    refine g_iinc (nI (t + 1)) 2 [(2, .int (nI (t + 1))), (1, .int (nI (ebn (B (av + t))))), (3, .int (nI (B (av + t)))), (0, .ref h)] X d_ER_readEntry_121 rfl (nI_1 _) (by decide) rfl ?_
                    refine g_goto 20 X d_ER_readEntry_124 (by decide) ?_
                    refine g_hp (ws' := [(h, .inr (1, [.ref b, .int (nI u), .int (nI (av + (t + 1))), .int (nI (es + smf (fun j => B (av + j)) (t + 1))), .long ke1, .int (nI (B (av + t))), .long va1])), (b, .inl (.byte, 1024, .inl (fun q => sb_b (B q))))]) (by rw [smf, Nat.add_assoc, Nat.add_assoc]) ?_
                    refine g_lv [0, 1, 3] [(2, .int (nI (t + 1))), (1, .int (nI (ebn (B (av + t))))), (0, .ref h)] rfl ?_
                    exact ih20 (t + 1) (ebn (B (av + t))) (B (av + t)) ke1 va1 (by omega) (by rw [q2]; congr 1; omega) (by rw [q3]; congr 1; omega) (Or.inr ⟨by omega, h75, by rw [e8], by rw [e8]⟩) (by have := ebn_ge (B (av + t)); omega) (by omega)
                  · have h92 := cv_nle (by omega) (by omega) h92
                    refine g_iload_n X d_ER_readEntry_95 0 rfl ?_
                    refine g_sipush (nI 255) X d_ER_readEntry_96 (by decide) ?_
                    refine g_icmp_ne 115 X d_ER_readEntry_99 (by decide) (fun h99 => ?_) (fun h99 => ?_)
                    · have h99 := cv_ne (by omega) (by omega) h99
                      refine g_aload_n X d_ER_readEntry_115 3 rfl ?_
                      refine h_callU (x := ⟨"RunStore$EntryReader", "refuseLength", "()V"⟩) (owner := "RunStore$EntryReader") (As := []) (st := []) [0, 1] [(h, .inr (1, [.ref b, .int (nI u), .int (nI (av + t + 1)), .int (nI (es + smf (fun j => B (av + j)) t + B (av + t))), .long ke1, .int (nI sz1), .long va1])), (b, .inl (.byte, 1024, .inl (fun q => sb_b (B q))))] X d_ER_readEntry_116 (c_LG_refuseLength hst hn hB hu) (hl_w 0 rfl hn) rfl rfl k_ml_ER_30 k_sm_ER_refuseLength (va_Decl.abs (va_Nw.of rfl (X.words _ k_dc_ER_refuseLength))) k_cd_LG_refuseLength k_in_LG k_im_LG_refuseLength k_sx_LG_refuseLength ⟨by decide +kernel, by decide +kernel, (by decide +kernel : (parseMethodDescriptor "()V").map (fun d => d.parameters.length) = some 0)⟩ ⟨Nat.le_of_ble_eq_true rfl, Nat.le_of_ble_eq_true rfl⟩ ⟨Nat.le_of_ble_eq_true rfl, Nat.le_of_ble_eq_true rfl⟩ (Nat.le_of_ble_eq_true rfl) hn rfl rfl rfl hp_no hp_no2 ?_
                      refine g_iconst (nI 0) X d_ER_readEntry_119 (by decide) ?_
                      exact g_zret X hr rfl d_ER_readEntry_120 (Nat.le_of_ble_eq_true rfl) (Nat.le_of_ble_eq_true rfl) (⟨_, _, _, _, _, rfl, Or.inr ⟨fun z9 => by have h9 : okn (B (av + 8)) := z9.2.1; rw [← e8] at h9; rcases h9 with h9 | h9 <;> omega, rfl⟩⟩)
                    · have h99 := cv_eq (by omega) (by omega) h99
                      have h75 : okn (B (av + 8)) := by
                        rw [← e8]
                        first | exact Or.inl (by omega) | exact Or.inr (by omega)
                      refine g_aload_n X d_ER_readEntry_102 3 rfl ?_
                      refine g_iload_n X d_ER_readEntry_103 0 rfl ?_
                      refine h_putf (k := 5) (ty := .int) 0 [(h, .inr (1, [.ref b, .int (nI u), .int (nI (av + t + 1)), .int (nI (es + smf (fun j => B (av + j)) t + B (av + t))), .long ke1, .int (nI (B (av + t))), .long va1])), (b, .inl (.byte, 1024, .inl (fun q => sb_b (B q))))] X d_ER_readEntry_104 hn rfl rfl i_LG t_LG t_LG_ok n_LG (by decide) k_fl_ER_15 (fun _ h => h) rfl (by decide +kernel) rfl rfl (Nat.le_of_ble_eq_true rfl) rfl ?_
                      refine g_iload_n X d_ER_readEntry_107 0 rfl ?_
                      refine h_callSN (As := [.int (nI (B (av + t)))]) (st := []) [] [(h, .inr (1, [.ref b, .int (nI u), .int (nI (av + t + 1)), .int (nI (es + smf (fun j => B (av + j)) t + B (av + t))), .long ke1, .int (nI (B (av + t))), .long va1])), (b, .inl (.byte, 1024, .inl (fun q => sb_b (B q))))] X d_ER_readEntry_108 (c_RS_entryBytes hst (by omega)) rfl k_ml_ER_26 k_cd_RS_entryBytes k_in_RS k_st_RS_entryBytes ⟨by decide +kernel, by decide +kernel, (by decide +kernel : (parseMethodDescriptor y_RS_entryBytes.desc).map (fun d => d.parameters.length) = some 1)⟩ ⟨Nat.le_of_ble_eq_true rfl, Nat.le_of_ble_eq_true rfl⟩ ⟨Nat.le_of_ble_eq_true rfl, Nat.le_of_ble_eq_true rfl⟩ (Nat.le_of_ble_eq_true rfl) hn rfl rfl rfl hp_no hp_no2 ?_
                      refine g_istore_n [(1, .int (nI (ebn (B (av + t))))), (3, .int (nI (B (av + t)))), (2, .int (nI t)), (0, .ref h)] X d_ER_readEntry_111 (by decide) rfl ?_
                      refine g_goto 121 X d_ER_readEntry_112 (by decide) ?_
                      refine g_iinc (nI (t + 1)) 2 [(2, .int (nI (t + 1))), (1, .int (nI (ebn (B (av + t))))), (3, .int (nI (B (av + t)))), (0, .ref h)] X d_ER_readEntry_121 rfl (nI_1 _) (by decide) rfl ?_
                      refine g_goto 20 X d_ER_readEntry_124 (by decide) ?_
                      refine g_hp (ws' := [(h, .inr (1, [.ref b, .int (nI u), .int (nI (av + (t + 1))), .int (nI (es + smf (fun j => B (av + j)) (t + 1))), .long ke1, .int (nI (B (av + t))), .long va1])), (b, .inl (.byte, 1024, .inl (fun q => sb_b (B q))))]) (by rw [smf, Nat.add_assoc, Nat.add_assoc]) ?_
                      refine g_lv [0, 1, 3] [(2, .int (nI (t + 1))), (1, .int (nI (ebn (B (av + t))))), (0, .ref h)] rfl ?_
                      exact ih20 (t + 1) (ebn (B (av + t))) (B (av + t)) ke1 va1 (by omega) (by rw [q2]; congr 1; omega) (by rw [q3]; congr 1; omega) (Or.inr ⟨by omega, h75, by rw [e8], by rw [e8]⟩) (by have := ebn_ge (B (av + t)); omega) (by omega)
                · have h69 := cv_nle (by omega) (by omega) h69
                  have h71 : 9 ≤ t ∧ okn (B (av + 8)) ∧ en = ebn (B (av + 8)) ∧ sz1 = B (av + 8) := by
                    rcases q4 with q | q
                    · omega
                    · exact q
                  refine g_aload_n X d_ER_readEntry_72 3 rfl ?_
                  refine g_aload_n X d_ER_readEntry_73 3 rfl ?_
                  refine g_getf (k := 6) X d_ER_readEntry_74 (hl_w 0 rfl hn) rfl i_LG (by decide) k_fl_ER_19 (fun _ h => h) rfl ?_
                  refine g_bipush (nI 8) X d_ER_readEntry_77 (by decide) ?_
                  refine g_lshl X d_ER_readEntry_79 ?_
                  refine g_iload_n X d_ER_readEntry_80 0 rfl ?_
                  refine g_i2l X d_ER_readEntry_81 ?_
                  refine g_lor X d_ER_readEntry_82 ?_
                  refine h_putf (k := 6) (ty := .long) 0 [(h, .inr (1, [.ref b, .int (nI u), .int (nI (av + t + 1)), .int (nI (es + smf (fun j => B (av + j)) t + B (av + t))), .long ke1, .int (nI sz1), .long ((va1 <<< ((nI 8).toInt64 &&& 63)) ||| ((nI (B (av + t))).toInt64))])), (b, .inl (.byte, 1024, .inl (fun q => sb_b (B q))))] X d_ER_readEntry_83 hn rfl rfl i_LG t_LG t_LG_ok n_LG (by decide) k_fl_ER_19 (fun _ h => h) rfl (by decide +kernel) rfl rfl (Nat.le_of_ble_eq_true rfl) rfl ?_
                  refine g_goto 121 X d_ER_readEntry_86 (by decide) ?_
                  refine g_iinc (nI (t + 1)) 1 [(2, .int (nI (t + 1))), (3, .int (nI (B (av + t)))), (1, .int (nI en)), (0, .ref h)] X d_ER_readEntry_121 rfl (nI_1 _) (by decide) rfl ?_
                  refine g_goto 20 X d_ER_readEntry_124 (by decide) ?_
                  refine g_hp (ws' := [(h, .inr (1, [.ref b, .int (nI u), .int (nI (av + (t + 1))), .int (nI (es + smf (fun j => B (av + j)) (t + 1))), .long ke1, .int (nI sz1), .long ((va1 <<< ((nI 8).toInt64 &&& 63)) ||| ((nI (B (av + t))).toInt64))])), (b, .inl (.byte, 1024, .inl (fun q => sb_b (B q))))]) (by rw [smf, Nat.add_assoc, Nat.add_assoc]) ?_
                  refine g_lv [0, 2, 3] [(2, .int (nI (t + 1))), (1, .int (nI en)), (0, .ref h)] rfl ?_
                  exact ih20 (t + 1) en sz1 ke1 ((va1 <<< ((nI 8).toInt64 &&& 63)) ||| ((nI (B (av + t))).toInt64)) (by omega) (by rw [q2]; congr 1; omega) (by rw [show t + 1 - 9 = (t - 9) + 1 by omega, rdK, ← q3, show 9 + (t - 9) = t by omega]) (Or.inr ⟨by omega, h71.2.1, h71.2.2.1, h71.2.2.2⟩) (by omega) (by omega)
              · have h46 := cv_nle (by omega) (by omega) h46
                refine g_aload_n X d_ER_readEntry_49 3 rfl ?_
                refine g_aload_n X d_ER_readEntry_50 3 rfl ?_
                refine g_getf (k := 4) X d_ER_readEntry_51 (hl_w 0 rfl hn) rfl i_LG (by decide) k_fl_ER_9 (fun _ h => h) rfl ?_
                refine g_bipush (nI 8) X d_ER_readEntry_54 (by decide) ?_
                refine g_lshl X d_ER_readEntry_56 ?_
                refine g_iload_n X d_ER_readEntry_57 0 rfl ?_
                refine g_i2l X d_ER_readEntry_58 ?_
                refine g_lor X d_ER_readEntry_59 ?_
                refine h_putf (k := 4) (ty := .long) 0 [(h, .inr (1, [.ref b, .int (nI u), .int (nI (av + t + 1)), .int (nI (es + smf (fun j => B (av + j)) t + B (av + t))), .long ((ke1 <<< ((nI 8).toInt64 &&& 63)) ||| ((nI (B (av + t))).toInt64)), .int (nI sz1), .long va1])), (b, .inl (.byte, 1024, .inl (fun q => sb_b (B q))))] X d_ER_readEntry_60 hn rfl rfl i_LG t_LG t_LG_ok n_LG (by decide) k_fl_ER_9 (fun _ h => h) rfl (by decide +kernel) rfl rfl (Nat.le_of_ble_eq_true rfl) rfl ?_
                refine g_goto 121 X d_ER_readEntry_63 (by decide) ?_
                refine g_iinc (nI (t + 1)) 1 [(2, .int (nI (t + 1))), (3, .int (nI (B (av + t)))), (1, .int (nI en)), (0, .ref h)] X d_ER_readEntry_121 rfl (nI_1 _) (by decide) rfl ?_
                refine g_goto 20 X d_ER_readEntry_124 (by decide) ?_
                refine g_hp (ws' := [(h, .inr (1, [.ref b, .int (nI u), .int (nI (av + (t + 1))), .int (nI (es + smf (fun j => B (av + j)) (t + 1))), .long ((ke1 <<< ((nI 8).toInt64 &&& 63)) ||| ((nI (B (av + t))).toInt64)), .int (nI sz1), .long va1])), (b, .inl (.byte, 1024, .inl (fun q => sb_b (B q))))]) (by rw [smf, Nat.add_assoc, Nat.add_assoc]) ?_
                refine g_lv [0, 2, 3] [(2, .int (nI (t + 1))), (1, .int (nI en)), (0, .ref h)] rfl ?_
                exact ih20 (t + 1) en sz1 ((ke1 <<< ((nI 8).toInt64 &&& 63)) ||| ((nI (B (av + t))).toInt64)) va1 (by omega) (by rw [Nat.min_eq_left (by omega), rdK]; rw [Nat.min_eq_left (by omega)] at q2; rw [q2]) (by rw [q3]; congr 1; omega) (Or.inl ⟨by omega, by omega, by omega⟩) (by omega) (by omega)
            · exact absurd h38 (nI_nm1 (by omega))
          · have h33 := hB (av + t)
            refine h_callU (x := ⟨"RunStore$EntryReader", "nextByte", "()I"⟩) (owner := "RunStore$EntryReader") (As := []) (st := []) [0, 1] [(h, .inr (1, [.ref b, .int (nI u), .int (nI (av + t)), .int (nI (es + smf (fun j => B (av + j)) t)), .long ke1, .int (nI sz1), .long va1])), (b, .inl (.byte, 1024, .inl (fun q => sb_b (B q))))] X d_ER_readEntry_32 (c_LG_nextByte_out hst hn hB hu h32 (by omega)) (hl_w 0 rfl hn) rfl rfl k_ml_ER_22 k_sm_ER_nextByte (va_Decl.abs (va_Nw.of rfl (X.words _ k_dc_ER_nextByte))) k_cd_LG_nextByte k_in_LG k_im_LG_nextByte k_sx_LG_nextByte ⟨by decide +kernel, by decide +kernel, (by decide +kernel : (parseMethodDescriptor "()I").map (fun d => d.parameters.length) = some 0)⟩ ⟨Nat.le_of_ble_eq_true rfl, Nat.le_of_ble_eq_true rfl⟩ ⟨Nat.le_of_ble_eq_true rfl, Nat.le_of_ble_eq_true rfl⟩ (Nat.le_of_ble_eq_true rfl) hn rfl rfl rfl hp_no hp_no2 ?_
            refine g_istore_n [(3, .int (-1)), (2, .int (nI t)), (1, .int (nI en)), (0, .ref h)] X d_ER_readEntry_35 (by decide) rfl ?_
            refine g_iload_n X d_ER_readEntry_36 0 rfl ?_
            refine g_iconst (-1) X d_ER_readEntry_37 (by decide) ?_
            refine g_icmp_ne 43 X d_ER_readEntry_38 (by decide) (fun h38 => ?_) (fun h38 => ?_)
            · exact absurd rfl h38
            · refine g_iconst (nI 0) X d_ER_readEntry_41 (by decide) ?_
              exact g_zret X hr rfl d_ER_readEntry_42 (Nat.le_of_ble_eq_true rfl) (Nat.le_of_ble_eq_true rfl) (⟨_, _, _, _, _, rfl, Or.inr ⟨fun z9 => by have a1 := z9.1; have a2 : av + ebn (B (av + 8)) ≤ u := z9.2.2; rcases q4 with q | q <;> omega, rfl⟩⟩)
  exact L20 _ 0 9 0 0 0 (by omega) rfl rfl (Or.inl ⟨by omega, rfl, rfl⟩) (by omega) (Nat.lt_succ_self _)

set_option maxRecDepth 100000 in
set_option maxHeartbeats 4000000 in
theorem c_LG_readSummed {l : Launch} (hst : l.stackTraces = false) {h b u av es sz : Nat} {ke va : Int64} {B : Nat → Nat} (hn : [h, b].Nodup) (hB : ∀ q, B q < 256) (hu : u ≤ 1024) (ha : av ≤ u) : fh_C l fhCl fhT y_LG_readSummed (.code y_LG_readSummed b_LG_readSummed 2 (some .boolean)) 3 65 [.ref h] (hp [(h, .inr (1, [.ref b, .int (nI u), .int (nI av), .int (nI es), .long ke, .int (nI sz), .long va])), (b, .inl (.byte, 1024, .inl (fun q => sb_b (B q))))]) (hp []) 0 0 (fun z9 g9 => ∃ (a1 e1 s1 : Nat) (k1 v1 : Int64), g9 = hp [(h, .inr (1, [.ref b, .int (nI u), .int (nI a1), .int (nI e1), .long k1, .int (nI s1), .long v1])), (b, .inl (.byte, 1024, .inl (fun q => sb_b (B q))))] ∧ (((okE (fun j => B (av + j)) av u ∧ av + ebn (B (av + 8)) < u ∧ B (av + ebn (B (av + 8))) = smf (fun j => B (av + j)) (ebn (B (av + 8))) % 256) ∧ z9 = .inl (some (.int (nI 1))) ∧ a1 = av + ebn (B (av + 8)) + 1 ∧ k1 = rdK (fun j => B (av + j)) 8 ∧ s1 = B (av + 8) ∧ v1 = rdK (fun j => B (av + (9 + j))) (ebn (B (av + 8)) - 9)) ∨ (¬ (okE (fun j => B (av + j)) av u ∧ av + ebn (B (av + 8)) < u ∧ B (av + ebn (B (av + 8))) = smf (fun j => B (av + j)) (ebn (B (av + 8))) % 256) ∧ z9 = .inl (some (.int (nI 0)))))) := by
  refine fh_enter (by decide) hst (Nat.le_of_ble_eq_true rfl) ?_
  intro D mp me sm mm margs mbel mmet mcod X hr hnm hno hf0
  show fh_G mp l me (fh_rm 3 65 0 0) sm mm margs mbel mmet mcod D fhCl (hp [(h, .inr (1, [.ref b, .int (nI u), .int (nI av), .int (nI es), .long ke, .int (nI sz), .long va])), (b, .inl (.byte, 1024, .inl (fun q => sb_b (B q))))]) 2 _ 0 0 (hp [(h, .inr (1, [.ref b, .int (nI u), .int (nI av), .int (nI es), .long ke, .int (nI sz), .long va])), (b, .inl (.byte, 1024, .inl (fun q => sb_b (B q))))]) 0 [(0, .ref h)] []
  refine g_aload_n X d_LG_readSummed_0 0 rfl ?_
  refine g_iconst (nI 0) X d_LG_readSummed_1 (by decide) ?_
  refine h_putf (k := 3) (ty := .int) 0 [(h, .inr (1, [.ref b, .int (nI u), .int (nI av), .int (nI 0), .long ke, .int (nI sz), .long va])), (b, .inl (.byte, 1024, .inl (fun q => sb_b (B q))))] X d_LG_readSummed_2 hn rfl rfl i_LG t_LG t_LG_ok n_LG (by decide) k_fl_LG_57 (fun _ h => h) rfl (by decide +kernel) rfl rfl (Nat.le_of_ble_eq_true rfl) rfl ?_
  refine g_aload_n X d_LG_readSummed_5 0 rfl ?_
  refine g_callUr (x := ⟨"RunStore$Log", "readEntry", "()Z"⟩) (owner := "RunStore$EntryReader") (As := []) (st := []) X d_LG_readSummed_6 (c_ER_readEntry_LG hst hn hB hu ha) (hl_w 0 rfl hn) rfl rfl k_ml_LG_60 k_sm_LG_readEntry (va_Decl.abs (va_Nw.of rfl (X.words _ k_dc_ER_readEntry))) k_cd_ER_readEntry k_in_ER k_im_ER_readEntry k_sx_LG_readEntry ⟨by decide +kernel, by decide +kernel, (by decide +kernel : (parseMethodDescriptor "()Z").map (fun d => d.parameters.length) = some 0)⟩ ⟨Nat.le_of_ble_eq_true rfl, Nat.le_of_ble_eq_true rfl⟩ ⟨Nat.le_of_ble_eq_true rfl, Nat.le_of_ble_eq_true rfl⟩ (Nat.le_of_ble_eq_true rfl) (hp_sub hn [0, 1] rfl) hp_nor (fun E g9 h => by obtain ⟨_, _, _, _, _, _, h9⟩ := h; rcases h9 with h9 | h9 <;> first | cases h9.2.1 | cases h9.2) (fun v9 g9 hq => ?_)
  obtain ⟨a1, e1, s1, k1, v1, hg9, ho⟩ := hq
  subst hg9
  refine g_ov [0, 1] [(h, .inr (1, [.ref b, .int (nI u), .int (nI a1), .int (nI e1), .long k1, .int (nI s1), .long v1])), (b, .inl (.byte, 1024, .inl (fun q => sb_b (B q))))] rfl rfl hn ?_
  rcases ho with ⟨ho, hv9, ea, ee, ek, es9, ev⟩ | ⟨ho, hv9⟩
  · cases hv9
    skip
    refine g_if_ne 14 X d_LG_readSummed_9 (by decide) (fun h9 => ?_) (fun h9 => ?_)
    · have h9 := cv_n0 (by omega) h9
      refine g_aload_n X d_LG_readSummed_14 0 rfl ?_
      refine g_getf (k := 3) X d_LG_readSummed_15 (hl_w 0 rfl hn) rfl i_LG (by decide) k_fl_LG_57 (fun _ h => h) rfl ?_
      have h80 := ebn_le ho.2.1
      have h81 := smf_le (f := (fun j => B (av + j))) (fun j => hB (av + j)) (ebn (B (av + 8)))
      have h82 : av + ebn (B (av + 8)) ≤ u := ho.2.2
      refine g_sipush (nI 255) X d_LG_readSummed_18 (by decide) ?_
      refine g_iand X d_LG_readSummed_21 ?_
      refine g_vi (nI (e1 % 256)) (pk_andN (by omega) 8 (by decide)) ?_
      refine g_istore_n [(1, .int (nI (e1 % 256))), (0, .ref h)] X d_LG_readSummed_22 (by decide) rfl ?_
      refine g_aload_n X d_LG_readSummed_23 1 rfl ?_
      rcases Nat.lt_or_ge a1 u with h24 | h24
      · have h33 := hB a1
        refine h_callV (As := []) (st := []) [0, 1] [(h, .inr (1, [.ref b, .int (nI u), .int (nI (a1 + 1)), .int (nI (e1 + B a1)), .long k1, .int (nI s1), .long v1])), (b, .inl (.byte, 1024, .inl (fun q => sb_b (B q))))] X d_LG_readSummed_24 (c_LG_nextByte_in hst hn hB hu h24) (hl_w 0 rfl hn) rfl rfl k_ml_LG_63 k_cd_LG_nextByte k_in_LG k_im_LG_nextByte k_se_LG_nextByte ⟨by decide +kernel, by decide +kernel, (by decide +kernel : (parseMethodDescriptor y_LG_nextByte.desc).map (fun d => d.parameters.length) = some 0)⟩ ⟨Nat.le_of_ble_eq_true rfl, Nat.le_of_ble_eq_true rfl⟩ ⟨Nat.le_of_ble_eq_true rfl, Nat.le_of_ble_eq_true rfl⟩ (Nat.le_of_ble_eq_true rfl) hn rfl rfl rfl hp_no hp_no2 ?_
        refine g_iload_n X d_LG_readSummed_27 0 rfl ?_
        refine g_icmp_ne 35 X d_LG_readSummed_28 (by decide) (fun h28 => ?_) (fun h28 => ?_)
        · have h28 := cv_ne (by omega) (by omega) h28
          refine g_iconst (nI 0) X d_LG_readSummed_35 (by decide) ?_
          exact g_zret X hr rfl d_LG_readSummed_36 (Nat.le_of_ble_eq_true rfl) (Nat.le_of_ble_eq_true rfl) (⟨_, _, _, _, _, rfl, Or.inr ⟨fun z9 => h28 (by rw [ea, z9.2.2, ee, Nat.zero_add]), rfl⟩⟩)
        · have h28 := cv_eq (by omega) (by omega) h28
          refine g_iconst (nI 1) X d_LG_readSummed_31 (by decide) ?_
          refine g_goto 36 X d_LG_readSummed_32 (by decide) ?_
          exact g_zret X hr rfl d_LG_readSummed_36 (Nat.le_of_ble_eq_true rfl) (Nat.le_of_ble_eq_true rfl) (⟨_, _, _, _, _, rfl, Or.inl ⟨⟨ho, by omega, by rw [← ea, h28, ee, Nat.zero_add]⟩, rfl, by rw [ea], ek, es9, ev⟩⟩)
      · have h33 := hB a1
        refine h_callV (As := []) (st := []) [0, 1] [(h, .inr (1, [.ref b, .int (nI u), .int (nI a1), .int (nI e1), .long k1, .int (nI s1), .long v1])), (b, .inl (.byte, 1024, .inl (fun q => sb_b (B q))))] X d_LG_readSummed_24 (c_LG_nextByte_out hst hn hB hu h24 (by omega)) (hl_w 0 rfl hn) rfl rfl k_ml_LG_63 k_cd_LG_nextByte k_in_LG k_im_LG_nextByte k_se_LG_nextByte ⟨by decide +kernel, by decide +kernel, (by decide +kernel : (parseMethodDescriptor y_LG_nextByte.desc).map (fun d => d.parameters.length) = some 0)⟩ ⟨Nat.le_of_ble_eq_true rfl, Nat.le_of_ble_eq_true rfl⟩ ⟨Nat.le_of_ble_eq_true rfl, Nat.le_of_ble_eq_true rfl⟩ (Nat.le_of_ble_eq_true rfl) hn rfl rfl rfl hp_no hp_no2 ?_
        refine g_iload_n X d_LG_readSummed_27 0 rfl ?_
        refine g_icmp_ne 35 X d_LG_readSummed_28 (by decide) (fun h28 => ?_) (fun h28 => ?_)
        · refine g_iconst (nI 0) X d_LG_readSummed_35 (by decide) ?_
          exact g_zret X hr rfl d_LG_readSummed_36 (Nat.le_of_ble_eq_true rfl) (Nat.le_of_ble_eq_true rfl) (⟨_, _, _, _, _, rfl, Or.inr ⟨fun z9 => by have := z9.2.1; omega, rfl⟩⟩)
        · exact absurd h28.symm (nI_nm1 (by omega))
    · have h9 := cv_e0 (by omega) h9
      exact absurd h9 (by decide)
  · cases hv9
    skip
    refine g_if_ne 14 X d_LG_readSummed_9 (by decide) (fun h9 => ?_) (fun h9 => ?_)
    · have h9 := cv_n0 (by omega) h9
      exact absurd h9 (by decide)
    · have h9 := cv_e0 (by omega) h9
      refine g_iconst (nI 0) X d_LG_readSummed_12 (by decide) ?_
      exact g_zret X hr rfl d_LG_readSummed_13 (Nat.le_of_ble_eq_true rfl) (Nat.le_of_ble_eq_true rfl) (⟨_, _, _, _, _, rfl, Or.inr ⟨fun z9 => ho z9.1, rfl⟩⟩)
