set_option maxRecDepth 100000 in
set_option maxHeartbeats 1000000 in
theorem c_ER_readEntry_TR {l : Launch} (hst : l.stackTraces = false) {g h y s t M p sz : Nat} {bi : Bool} {w ft : Int32} {ke va : Int64} {S T : Nat → Int32} {B : Nat → Nat} {q ia lev ent m : Nat} {F : Int64} {ids : Nat → Nat} (hn : [g, h, y, s, t].Nodup) (hB : ∀ q, B q < 256) (hM : M ≤ 128) (hr9 : [q, ia].Nodup) (hm : m ≤ 128) (hm1 : 1 ≤ m) (hid : ∀ k, k < m → ids k < M) (hp20 : p < 2 ^ 19) : fh_C l fhCl fhT y_ER_readEntry (.code y_ER_readEntry b_ER_readEntry 4 (some .boolean)) 3 68 [.ref g] (hp [(g, .inr (4, [.ref h, .ref q, .int (nI (b2n bi)), .int (nI p), .int ft, .long ke, .int (nI sz), .long va])), (h, .inr (0, [.ref y, .ref s, .ref t, .int w])), (y, .inl (.byte, M * 32, .inl (fun q => sb_b (B q)))), (s, .inl (.int, M, .inl S)), (t, .inl (.int, M, .inl T))]) (hp [(q, .inr (3, [.int (nI lev), .int (nI ent), .long F, .ref ia])), (ia, .inl (.int, m, .inl (fun q => nI (ids q))))]) 0 0 (fun z9 g9 => ∃ (a1 s1 : Nat) (f1 : Int32) (k1 v1 : Int64), g9 = hp [(g, .inr (4, [.ref h, .ref q, .int (nI (b2n bi)), .int (nI a1), .int f1, .long k1, .int (nI s1), .long v1])), (h, .inr (0, [.ref y, .ref s, .ref t, .int (w + nI (rdE bi m ids S T B p).2)])), (y, .inl (.byte, M * 32, .inl (fun q => sb_b (B q)))), (s, .inl (.int, M, .inl S)), (t, .inl (.int, M, .inl T))] ∧ (((rdE bi m ids S T B p).1 = none ∧ z9 = .inl (some (.int (nI 1))) ∧ f1 = ft ∧ a1 = p + ebn (tby B ids (p + 8)) ∧ k1 = enK (tby B ids) p ∧ s1 = tby B ids (p + 8) ∧ v1 = enV (tby B ids) p) ∨ (∃ f, (rdE bi m ids S T B p).1 = some f ∧ z9 = .inl (some (.int (nI 0))) ∧ f1 = nI f))) := by
  refine fh_enter (by decide) hst (Nat.le_of_ble_eq_true rfl) ?_
  intro D mp me sm mm margs mbel mmet mcod X hr hnm hno hf0
  show fh_G mp l me (fh_rm 3 68 0 0) sm mm margs mbel mmet mcod D fhCl (hp [(g, .inr (4, [.ref h, .ref q, .int (nI (b2n bi)), .int (nI p), .int ft, .long ke, .int (nI sz), .long va])), (h, .inr (0, [.ref y, .ref s, .ref t, .int w])), (y, .inl (.byte, M * 32, .inl (fun q => sb_b (B q)))), (s, .inl (.int, M, .inl S)), (t, .inl (.int, M, .inl T))]) 4 _ 0 0 (hp [(g, .inr (4, [.ref h, .ref q, .int (nI (b2n bi)), .int (nI p), .int ft, .long ke, .int (nI sz), .long va])), (h, .inr (0, [.ref y, .ref s, .ref t, .int w])), (y, .inl (.byte, M * 32, .inl (fun q => sb_b (B q)))), (s, .inl (.int, M, .inl S)), (t, .inl (.int, M, .inl T))]) 0 [(0, .ref g)] []
  have hn1 : [h, y, s, t].Nodup := (List.Nodup.sublist (by repeat first | exact List.nil_sublist _ | apply List.Sublist.cons₂ | apply List.Sublist.cons) hn)
  refine g_aload_n X d_ER_readEntry_0 0 rfl ?_
  refine g_lconst 0 X d_ER_readEntry_1 (by decide) ?_
  refine h_putf (k := 5) (ty := .long) 0 [(g, .inr (4, [.ref h, .ref q, .int (nI (b2n bi)), .int (nI p), .int ft, .long 0, .int (nI sz), .long va])), (h, .inr (0, [.ref y, .ref s, .ref t, .int w])), (y, .inl (.byte, M * 32, .inl (fun q => sb_b (B q)))), (s, .inl (.int, M, .inl S)), (t, .inl (.int, M, .inl T))] X d_ER_readEntry_2 hn rfl rfl i_TR t_TR t_TR_ok n_TR (by decide) k_fl_ER_9 (fun _ h => h) rfl (by decide +kernel) rfl rfl (Nat.le_of_ble_eq_true rfl) rfl ?_
  refine g_aload_n X d_ER_readEntry_5 0 rfl ?_
  refine g_iconst (nI 0) X d_ER_readEntry_6 (by decide) ?_
  refine h_putf (k := 6) (ty := .int) 0 [(g, .inr (4, [.ref h, .ref q, .int (nI (b2n bi)), .int (nI p), .int ft, .long 0, .int (nI 0), .long va])), (h, .inr (0, [.ref y, .ref s, .ref t, .int w])), (y, .inl (.byte, M * 32, .inl (fun q => sb_b (B q)))), (s, .inl (.int, M, .inl S)), (t, .inl (.int, M, .inl T))] X d_ER_readEntry_7 hn rfl rfl i_TR t_TR t_TR_ok n_TR (by decide) k_fl_ER_15 (fun _ h => h) rfl (by decide +kernel) rfl rfl (Nat.le_of_ble_eq_true rfl) rfl ?_
  refine g_aload_n X d_ER_readEntry_10 0 rfl ?_
  refine g_lconst 0 X d_ER_readEntry_11 (by decide) ?_
  refine h_putf (k := 7) (ty := .long) 0 [(g, .inr (4, [.ref h, .ref q, .int (nI (b2n bi)), .int (nI p), .int ft, .long 0, .int (nI 0), .long 0])), (h, .inr (0, [.ref y, .ref s, .ref t, .int w])), (y, .inl (.byte, M * 32, .inl (fun q => sb_b (B q)))), (s, .inl (.int, M, .inl S)), (t, .inl (.int, M, .inl T))] X d_ER_readEntry_12 hn rfl rfl i_TR t_TR t_TR_ok n_TR (by decide) k_fl_ER_19 (fun _ h => h) rfl (by decide +kernel) rfl rfl (Nat.le_of_ble_eq_true rfl) rfl ?_
  refine g_bipush (nI 9) X d_ER_readEntry_15 (by decide) ?_
  refine g_istore_n [(1, .int (nI 9)), (0, .ref g)] X d_ER_readEntry_17 (by decide) rfl ?_
  refine g_hp (ws' := [(g, .inr (4, [.ref h, .ref q, .int (nI (b2n bi)), .int (nI p), .int ft, .long 0, .int (nI 0), .long 0])), (h, .inr (0, [.ref y, .ref s, .ref t, .int (w + nI 0)])), (y, .inl (.byte, M * 32, .inl (fun q => sb_b (B q)))), (s, .inl (.int, M, .inl S)), (t, .inl (.int, M, .inl T))]) (by rw [addz]) ?_
  refine g_iconst (nI 0) X d_ER_readEntry_18 (by decide) ?_
  refine g_istore_n [(2, .int (nI 0)), (1, .int (nI 9)), (0, .ref g)] X d_ER_readEntry_19 (by decide) rfl ?_
  have L20 : ∀ (fu20 : Nat) (t9 : Nat) (en : Nat) (sz1 : Nat) (ke1 : Int64) (va1 : Int64), (∀ j, j < t9 → okb bi m ids S T B (p + j) = true) → (ke1 = rdK (fun j => tby B ids (p + j)) (min t9 8)) → (va1 = rdK (fun j => tby B ids (p + (9 + j))) (t9 - 9)) → ((t9 ≤ 8 ∧ en = 9 ∧ sz1 = 0) ∨ (9 ≤ t9 ∧ okn (tby B ids (p + 8)) ∧ en = ebn (tby B ids (p + 8)) ∧ sz1 = tby B ids (p + 8))) → (t9 ≤ en) → 17 - t9 < fu20 → fh_G mp l me (fh_rm 3 68 0 0) sm mm margs mbel mmet mcod D fhCl (hp [(g, .inr (4, [.ref h, .ref q, .int (nI (b2n bi)), .int (nI p), .int ft, .long ke, .int (nI sz), .long va])), (h, .inr (0, [.ref y, .ref s, .ref t, .int w])), (y, .inl (.byte, M * 32, .inl (fun q => sb_b (B q)))), (s, .inl (.int, M, .inl S)), (t, .inl (.int, M, .inl T))]) 4 (fh_MQ mbel D fhCl (hp [(g, .inr (4, [.ref h, .ref q, .int (nI (b2n bi)), .int (nI p), .int ft, .long ke, .int (nI sz), .long va])), (h, .inr (0, [.ref y, .ref s, .ref t, .int w])), (y, .inl (.byte, M * 32, .inl (fun q => sb_b (B q)))), (s, .inl (.int, M, .inl S)), (t, .inl (.int, M, .inl T))]) (fun z9 g9 => ∃ (a1 s1 : Nat) (f1 : Int32) (k1 v1 : Int64), g9 = hp [(g, .inr (4, [.ref h, .ref q, .int (nI (b2n bi)), .int (nI a1), .int f1, .long k1, .int (nI s1), .long v1])), (h, .inr (0, [.ref y, .ref s, .ref t, .int (w + nI (rdE bi m ids S T B p).2)])), (y, .inl (.byte, M * 32, .inl (fun q => sb_b (B q)))), (s, .inl (.int, M, .inl S)), (t, .inl (.int, M, .inl T))] ∧ (((rdE bi m ids S T B p).1 = none ∧ z9 = .inl (some (.int (nI 1))) ∧ f1 = ft ∧ a1 = p + ebn (tby B ids (p + 8)) ∧ k1 = enK (tby B ids) p ∧ s1 = tby B ids (p + 8) ∧ v1 = enV (tby B ids) p) ∨ (∃ f, (rdE bi m ids S T B p).1 = some f ∧ z9 = .inl (some (.int (nI 0))) ∧ f1 = nI f))) margs sm 0 0) 0 0 (hp [(g, .inr (4, [.ref h, .ref q, .int (nI (b2n bi)), .int (nI (p + t9)), .int ft, .long ke1, .int (nI sz1), .long va1])), (h, .inr (0, [.ref y, .ref s, .ref t, .int (w + nI (icn bi p t9))])), (y, .inl (.byte, M * 32, .inl (fun q => sb_b (B q)))), (s, .inl (.int, M, .inl S)), (t, .inl (.int, M, .inl T))]) 20 [(2, .int (nI t9)), (1, .int (nI en)), (0, .ref g)] [] := by
    intro fu20
    induction fu20 with
    | zero => intro t9 en sz1 ke1 va1 q1 q2 q3 q4 q5 hm20; exact absurd hm20 (Nat.not_lt_zero _)
    | succ fu20 ih20 =>
      intro t9 en sz1 ke1 va1 q1 q2 q3 q4 q5 hm20
      have h60 : en ≤ 17 := by
        rcases q4 with q | q
        · omega
        · rw [q.2.2.1]; exact ebn_le q.2.1
      refine g_iload_n X d_ER_readEntry_20 0 rfl ?_
      refine g_bipush (nI 17) X d_ER_readEntry_21 (by decide) ?_
      refine g_icmp_ge 127 X d_ER_readEntry_23 (by decide) (fun h23 => ?_) (fun h23 => ?_)
      · have h23 := cv_le (by omega) (by omega) h23
        have h71 : 9 ≤ t9 ∧ okn (tby B ids (p + 8)) ∧ en = ebn (tby B ids (p + 8)) ∧ sz1 = tby B ids (p + 8) := by
          rcases q4 with q | q
          · omega
          · exact q
        have h72 := ebn_le h71.2.1
        have h73 : t9 = ebn (tby B ids (p + 8)) := by omega
        have h74 : rdE bi m ids S T B p = (none, icn bi p (ebn (tby B ids (p + 8)))) := rdE_k h71.2.1 (by rw [← h73]; exact q1)
        refine g_iconst (nI 1) X d_ER_readEntry_127 (by decide) ?_
        exact g_zret X hr rfl d_ER_readEntry_128 (Nat.le_of_ble_eq_true rfl) (Nat.le_of_ble_eq_true rfl) (⟨_, _, _, _, _, by rw [h74, h73], Or.inl ⟨by rw [h74], rfl, rfl, rfl, by rw [q2, Nat.min_eq_right (by omega)]; rfl, h71.2.2.2, by rw [q3, h73]; rfl⟩⟩)
      · have h23 := cv_nle (by omega) (by omega) h23
        refine g_iload_n X d_ER_readEntry_26 0 rfl ?_
        refine g_iload_n X d_ER_readEntry_27 1 rfl ?_
        refine g_icmp_ge 127 X d_ER_readEntry_28 (by decide) (fun h28 => ?_) (fun h28 => ?_)
        · have h28 := cv_le (by omega) (by omega) h28
          have h71 : 9 ≤ t9 ∧ okn (tby B ids (p + 8)) ∧ en = ebn (tby B ids (p + 8)) ∧ sz1 = tby B ids (p + 8) := by
            rcases q4 with q | q
            · omega
            · exact q
          have h72 := ebn_le h71.2.1
          have h73 : t9 = ebn (tby B ids (p + 8)) := by omega
          have h74 : rdE bi m ids S T B p = (none, icn bi p (ebn (tby B ids (p + 8)))) := rdE_k h71.2.1 (by rw [← h73]; exact q1)
          refine g_iconst (nI 1) X d_ER_readEntry_127 (by decide) ?_
          exact g_zret X hr rfl d_ER_readEntry_128 (Nat.le_of_ble_eq_true rfl) (Nat.le_of_ble_eq_true rfl) (⟨_, _, _, _, _, by rw [h74, h73], Or.inl ⟨by rw [h74], rfl, rfl, rfl, by rw [q2, Nat.min_eq_right (by omega)]; rfl, h71.2.2.2, by rw [q3, h73]; rfl⟩⟩)
        · have h28 := cv_nle (by omega) (by omega) h28
          refine g_aload_n X d_ER_readEntry_31 2 rfl ?_
          rcases Bool.eq_false_or_eq_true (okb bi m ids S T B (p + t9)) with h32 | h32
          · have h33 := hB (pos ids (p + t9))
            have h33 : (tby B ids (p + t9)) < 256 := h33
            refine h_callUr (x := ⟨"RunStore$EntryReader", "nextByte", "()I"⟩) (owner := "RunStore$EntryReader") (As := []) (st := []) [0, 1, 2, 3, 4] [(g, .inr (4, [.ref h, .ref q, .int (nI (b2n bi)), .int (nI (p + t9 + 1)), .int ft, .long ke1, .int (nI sz1), .long va1])), (h, .inr (0, [.ref y, .ref s, .ref t, .int (w + nI (icn bi p t9) + nI (b2n (bi && decide ((p + t9) % 32 = 0))))])), (y, .inl (.byte, M * 32, .inl (fun q => sb_b (B q)))), (s, .inl (.int, M, .inl S)), (t, .inl (.int, M, .inl T))] X d_ER_readEntry_32 (c_TR_nextByte_ok hst hn hB hM hr9 hm hm1 hid (by omega) h32) (hl_w 0 rfl hn) rfl rfl k_ml_ER_22 k_sm_ER_nextByte (va_Decl.abs (va_Nw.of rfl (X.words _ k_dc_ER_nextByte))) k_cd_TR_nextByte k_in_TR k_im_TR_nextByte k_sx_TR_nextByte ⟨by decide +kernel, by decide +kernel, (by decide +kernel : (parseMethodDescriptor "()I").map (fun d => d.parameters.length) = some 0)⟩ ⟨Nat.le_of_ble_eq_true rfl, Nat.le_of_ble_eq_true rfl⟩ ⟨Nat.le_of_ble_eq_true rfl, Nat.le_of_ble_eq_true rfl⟩ (Nat.le_of_ble_eq_true rfl) hn rfl rfl rfl (fun q9 x9 h9 => h9) ?_
            refine g_istore_n [(3, .int (nI (tby B ids (p + t9)))), (2, .int (nI t9)), (1, .int (nI en)), (0, .ref g)] X d_ER_readEntry_35 (by decide) rfl ?_
            refine g_iload_n X d_ER_readEntry_36 0 rfl ?_
            refine g_iconst (-1) X d_ER_readEntry_37 (by decide) ?_
            refine g_icmp_ne 43 X d_ER_readEntry_38 (by decide) (fun h38 => ?_) (fun h38 => ?_)
            · refine g_iload_n X d_ER_readEntry_43 1 rfl ?_
              refine g_bipush (nI 8) X d_ER_readEntry_44 (by decide) ?_
              refine g_icmp_ge 66 X d_ER_readEntry_46 (by decide) (fun h46 => ?_) (fun h46 => ?_)
              · have h46 := cv_le (by omega) (by omega) h46
                refine g_iload_n X d_ER_readEntry_66 1 rfl ?_
                refine g_bipush (nI 8) X d_ER_readEntry_67 (by decide) ?_
                refine g_icmp_le 89 X d_ER_readEntry_69 (by decide) (fun h69 => ?_) (fun h69 => ?_)
                · have h69 := cv_le (by omega) (by omega) h69
                  have e8 : t9 = 8 := by omega
                  have h74 : en = 9 ∧ sz1 = 0 := by rcases q4 with q | q <;> omega
                  refine g_iload_n X d_ER_readEntry_89 0 rfl ?_
                  refine g_bipush (nI 8) X d_ER_readEntry_90 (by decide) ?_
                  refine g_icmp_le 102 X d_ER_readEntry_92 (by decide) (fun h92 => ?_) (fun h92 => ?_)
                  · have h92 := cv_le (by omega) (by omega) h92
                    have h75 : okn (tby B ids (p + 8)) := by
                      rw [← e8]
                      first | exact Or.inl (by omega) | exact Or.inr (by omega)
                    refine g_aload_n X d_ER_readEntry_102 3 rfl ?_
                    refine g_iload_n X d_ER_readEntry_103 0 rfl ?_
                    refine h_putf (k := 6) (ty := .int) 0 [(g, .inr (4, [.ref h, .ref q, .int (nI (b2n bi)), .int (nI (p + t9 + 1)), .int ft, .long ke1, .int (nI (tby B ids (p + t9))), .long va1])), (h, .inr (0, [.ref y, .ref s, .ref t, .int (w + nI (icn bi p t9) + nI (b2n (bi && decide ((p + t9) % 32 = 0))))])), (y, .inl (.byte, M * 32, .inl (fun q => sb_b (B q)))), (s, .inl (.int, M, .inl S)), (t, .inl (.int, M, .inl T))] X d_ER_readEntry_104 hn rfl rfl i_TR t_TR t_TR_ok n_TR (by decide) k_fl_ER_15 (fun _ h => h) rfl (by decide +kernel) rfl rfl (Nat.le_of_ble_eq_true rfl) rfl ?_
                    refine g_iload_n X d_ER_readEntry_107 0 rfl ?_
                    refine h_callSN (As := [.int (nI (tby B ids (p + t9)))]) (st := []) [] [(g, .inr (4, [.ref h, .ref q, .int (nI (b2n bi)), .int (nI (p + t9 + 1)), .int ft, .long ke1, .int (nI (tby B ids (p + t9))), .long va1])), (h, .inr (0, [.ref y, .ref s, .ref t, .int (w + nI (icn bi p t9) + nI (b2n (bi && decide ((p + t9) % 32 = 0))))])), (y, .inl (.byte, M * 32, .inl (fun q => sb_b (B q)))), (s, .inl (.int, M, .inl S)), (t, .inl (.int, M, .inl T))] X d_ER_readEntry_108 (c_RS_entryBytes hst (by omega)) rfl k_ml_ER_26 k_cd_RS_entryBytes k_in_RS k_st_RS_entryBytes ⟨by decide +kernel, by decide +kernel, (by decide +kernel : (parseMethodDescriptor y_RS_entryBytes.desc).map (fun d => d.parameters.length) = some 1)⟩ ⟨Nat.le_of_ble_eq_true rfl, Nat.le_of_ble_eq_true rfl⟩ ⟨Nat.le_of_ble_eq_true rfl, Nat.le_of_ble_eq_true rfl⟩ (Nat.le_of_ble_eq_true rfl) hn rfl rfl rfl hp_no hp_no2 ?_
                    refine g_istore_n [(1, .int (nI (ebn (tby B ids (p + t9))))), (3, .int (nI (tby B ids (p + t9)))), (2, .int (nI t9)), (0, .ref g)] X d_ER_readEntry_111 (by decide) rfl ?_
                    refine g_goto 121 X d_ER_readEntry_112 (by decide) ?_
                    refine g_iinc (nI (t9 + 1)) 2 [(2, .int (nI (t9 + 1))), (1, .int (nI (ebn (tby B ids (p + t9))))), (3, .int (nI (tby B ids (p + t9)))), (0, .ref g)] X d_ER_readEntry_121 rfl (nI_1 _) (by decide) rfl ?_
                    refine g_goto 20 X d_ER_readEntry_124 (by decide) ?_
                    refine g_hp (ws' := [(g, .inr (4, [.ref h, .ref q, .int (nI (b2n bi)), .int (nI (p + (t9 + 1))), .int ft, .long ke1, .int (nI (tby B ids (p + t9))), .long va1])), (h, .inr (0, [.ref y, .ref s, .ref t, .int (w + nI (icn bi p (t9 + 1)))])), (y, .inl (.byte, M * 32, .inl (fun q => sb_b (B q)))), (s, .inl (.int, M, .inl S)), (t, .inl (.int, M, .inl T))]) (by rw [icn, addn, Nat.add_assoc]) ?_
                    refine g_lv [0, 1, 3] [(2, .int (nI (t9 + 1))), (1, .int (nI (ebn (tby B ids (p + t9))))), (0, .ref g)] rfl ?_
                    exact ih20 (t9 + 1) (ebn (tby B ids (p + t9))) (tby B ids (p + t9)) ke1 va1 (lt_s q1 h32) (by rw [q2]; congr 1; omega) (by rw [q3]; congr 1; omega) (Or.inr ⟨by omega, h75, by rw [e8], by rw [e8]⟩) (by have := ebn_ge (tby B ids (p + t9)); omega) (by omega)
                  · have h92 := cv_nle (by omega) (by omega) h92
                    refine g_iload_n X d_ER_readEntry_95 0 rfl ?_
                    refine g_sipush (nI 255) X d_ER_readEntry_96 (by decide) ?_
                    refine g_icmp_ne 115 X d_ER_readEntry_99 (by decide) (fun h99 => ?_) (fun h99 => ?_)
                    · have h99 := cv_ne (by omega) (by omega) h99
                      have h75 : ¬ okn (tby B ids (p + 8)) := fun z9 => by
                        rw [← e8] at z9
                        rcases z9 with z9 | z9 <;> omega
                      have h74x : rdE bi m ids S T B p = (some (ids ((p + 8) / 32)), icn bi p 9) := rdE_l (fun j hj => lt_s q1 h32 j (by omega)) h75
                      have hin8 := (okb_t h32).1
                      refine g_aload_n X d_ER_readEntry_115 3 rfl ?_
                      refine h_callUr (x := ⟨"RunStore$EntryReader", "refuseLength", "()V"⟩) (owner := "RunStore$EntryReader") (As := []) (st := []) [0, 1, 2, 3, 4] [(g, .inr (4, [.ref h, .ref q, .int (nI (b2n bi)), .int (nI (p + t9 + 1)), .int (nI (ids ((p + t9) / 32))), .long ke1, .int (nI sz1), .long va1])), (h, .inr (0, [.ref y, .ref s, .ref t, .int (w + nI (icn bi p t9) + nI (b2n (bi && decide ((p + t9) % 32 = 0))))])), (y, .inl (.byte, M * 32, .inl (fun q => sb_b (B q)))), (s, .inl (.int, M, .inl S)), (t, .inl (.int, M, .inl T))] X d_ER_readEntry_116 (c_TR_refuseLength hst hn hB hM hr9 hm hm1 hid (by omega) hin8) (hl_w 0 rfl hn) rfl rfl k_ml_ER_30 k_sm_ER_refuseLength (va_Decl.abs (va_Nw.of rfl (X.words _ k_dc_ER_refuseLength))) k_cd_TR_refuseLength k_in_TR k_im_TR_refuseLength k_sx_TR_refuseLength ⟨by decide +kernel, by decide +kernel, (by decide +kernel : (parseMethodDescriptor "()V").map (fun d => d.parameters.length) = some 0)⟩ ⟨Nat.le_of_ble_eq_true rfl, Nat.le_of_ble_eq_true rfl⟩ ⟨Nat.le_of_ble_eq_true rfl, Nat.le_of_ble_eq_true rfl⟩ (Nat.le_of_ble_eq_true rfl) hn rfl rfl rfl (fun q9 x9 h9 => h9) ?_
                      refine g_iconst (nI 0) X d_ER_readEntry_119 (by decide) ?_
                      exact g_zret X hr rfl d_ER_readEntry_120 (Nat.le_of_ble_eq_true rfl) (Nat.le_of_ble_eq_true rfl) (⟨_, _, _, _, _, by rw [h74x, addn, e8]; rfl, Or.inr ⟨_, by rw [h74x], rfl, rfl⟩⟩)
                    · have h99 := cv_eq (by omega) (by omega) h99
                      have h75 : okn (tby B ids (p + 8)) := by
                        rw [← e8]
                        first | exact Or.inl (by omega) | exact Or.inr (by omega)
                      refine g_aload_n X d_ER_readEntry_102 3 rfl ?_
                      refine g_iload_n X d_ER_readEntry_103 0 rfl ?_
                      refine h_putf (k := 6) (ty := .int) 0 [(g, .inr (4, [.ref h, .ref q, .int (nI (b2n bi)), .int (nI (p + t9 + 1)), .int ft, .long ke1, .int (nI (tby B ids (p + t9))), .long va1])), (h, .inr (0, [.ref y, .ref s, .ref t, .int (w + nI (icn bi p t9) + nI (b2n (bi && decide ((p + t9) % 32 = 0))))])), (y, .inl (.byte, M * 32, .inl (fun q => sb_b (B q)))), (s, .inl (.int, M, .inl S)), (t, .inl (.int, M, .inl T))] X d_ER_readEntry_104 hn rfl rfl i_TR t_TR t_TR_ok n_TR (by decide) k_fl_ER_15 (fun _ h => h) rfl (by decide +kernel) rfl rfl (Nat.le_of_ble_eq_true rfl) rfl ?_
                      refine g_iload_n X d_ER_readEntry_107 0 rfl ?_
                      refine h_callSN (As := [.int (nI (tby B ids (p + t9)))]) (st := []) [] [(g, .inr (4, [.ref h, .ref q, .int (nI (b2n bi)), .int (nI (p + t9 + 1)), .int ft, .long ke1, .int (nI (tby B ids (p + t9))), .long va1])), (h, .inr (0, [.ref y, .ref s, .ref t, .int (w + nI (icn bi p t9) + nI (b2n (bi && decide ((p + t9) % 32 = 0))))])), (y, .inl (.byte, M * 32, .inl (fun q => sb_b (B q)))), (s, .inl (.int, M, .inl S)), (t, .inl (.int, M, .inl T))] X d_ER_readEntry_108 (c_RS_entryBytes hst (by omega)) rfl k_ml_ER_26 k_cd_RS_entryBytes k_in_RS k_st_RS_entryBytes ⟨by decide +kernel, by decide +kernel, (by decide +kernel : (parseMethodDescriptor y_RS_entryBytes.desc).map (fun d => d.parameters.length) = some 1)⟩ ⟨Nat.le_of_ble_eq_true rfl, Nat.le_of_ble_eq_true rfl⟩ ⟨Nat.le_of_ble_eq_true rfl, Nat.le_of_ble_eq_true rfl⟩ (Nat.le_of_ble_eq_true rfl) hn rfl rfl rfl hp_no hp_no2 ?_
                      refine g_istore_n [(1, .int (nI (ebn (tby B ids (p + t9))))), (3, .int (nI (tby B ids (p + t9)))), (2, .int (nI t9)), (0, .ref g)] X d_ER_readEntry_111 (by decide) rfl ?_
                      refine g_goto 121 X d_ER_readEntry_112 (by decide) ?_
                      refine g_iinc (nI (t9 + 1)) 2 [(2, .int (nI (t9 + 1))), (1, .int (nI (ebn (tby B ids (p + t9))))), (3, .int (nI (tby B ids (p + t9)))), (0, .ref g)] X d_ER_readEntry_121 rfl (nI_1 _) (by decide) rfl ?_
                      refine g_goto 20 X d_ER_readEntry_124 (by decide) ?_
                      refine g_hp (ws' := [(g, .inr (4, [.ref h, .ref q, .int (nI (b2n bi)), .int (nI (p + (t9 + 1))), .int ft, .long ke1, .int (nI (tby B ids (p + t9))), .long va1])), (h, .inr (0, [.ref y, .ref s, .ref t, .int (w + nI (icn bi p (t9 + 1)))])), (y, .inl (.byte, M * 32, .inl (fun q => sb_b (B q)))), (s, .inl (.int, M, .inl S)), (t, .inl (.int, M, .inl T))]) (by rw [icn, addn, Nat.add_assoc]) ?_
                      refine g_lv [0, 1, 3] [(2, .int (nI (t9 + 1))), (1, .int (nI (ebn (tby B ids (p + t9))))), (0, .ref g)] rfl ?_
                      exact ih20 (t9 + 1) (ebn (tby B ids (p + t9))) (tby B ids (p + t9)) ke1 va1 (lt_s q1 h32) (by rw [q2]; congr 1; omega) (by rw [q3]; congr 1; omega) (Or.inr ⟨by omega, h75, by rw [e8], by rw [e8]⟩) (by have := ebn_ge (tby B ids (p + t9)); omega) (by omega)
                · have h69 := cv_nle (by omega) (by omega) h69
                  have h71 : 9 ≤ t9 ∧ okn (tby B ids (p + 8)) ∧ en = ebn (tby B ids (p + 8)) ∧ sz1 = tby B ids (p + 8) := by
                    rcases q4 with q | q
                    · omega
                    · exact q
                  refine g_aload_n X d_ER_readEntry_72 3 rfl ?_
                  refine g_aload_n X d_ER_readEntry_73 3 rfl ?_
                  refine g_getf (k := 7) X d_ER_readEntry_74 (hl_w 0 rfl hn) rfl i_TR (by decide) k_fl_ER_19 (fun _ h => h) rfl ?_
                  refine g_bipush (nI 8) X d_ER_readEntry_77 (by decide) ?_
                  refine g_lshl X d_ER_readEntry_79 ?_
                  refine g_iload_n X d_ER_readEntry_80 0 rfl ?_
                  refine g_i2l X d_ER_readEntry_81 ?_
                  refine g_lor X d_ER_readEntry_82 ?_
                  refine h_putf (k := 7) (ty := .long) 0 [(g, .inr (4, [.ref h, .ref q, .int (nI (b2n bi)), .int (nI (p + t9 + 1)), .int ft, .long ke1, .int (nI sz1), .long ((va1 <<< ((nI 8).toInt64 &&& 63)) ||| ((nI (tby B ids (p + t9))).toInt64))])), (h, .inr (0, [.ref y, .ref s, .ref t, .int (w + nI (icn bi p t9) + nI (b2n (bi && decide ((p + t9) % 32 = 0))))])), (y, .inl (.byte, M * 32, .inl (fun q => sb_b (B q)))), (s, .inl (.int, M, .inl S)), (t, .inl (.int, M, .inl T))] X d_ER_readEntry_83 hn rfl rfl i_TR t_TR t_TR_ok n_TR (by decide) k_fl_ER_19 (fun _ h => h) rfl (by decide +kernel) rfl rfl (Nat.le_of_ble_eq_true rfl) rfl ?_
                  refine g_goto 121 X d_ER_readEntry_86 (by decide) ?_
                  refine g_iinc (nI (t9 + 1)) 1 [(2, .int (nI (t9 + 1))), (3, .int (nI (tby B ids (p + t9)))), (1, .int (nI en)), (0, .ref g)] X d_ER_readEntry_121 rfl (nI_1 _) (by decide) rfl ?_
                  refine g_goto 20 X d_ER_readEntry_124 (by decide) ?_
                  refine g_hp (ws' := [(g, .inr (4, [.ref h, .ref q, .int (nI (b2n bi)), .int (nI (p + (t9 + 1))), .int ft, .long ke1, .int (nI sz1), .long ((va1 <<< ((nI 8).toInt64 &&& 63)) ||| ((nI (tby B ids (p + t9))).toInt64))])), (h, .inr (0, [.ref y, .ref s, .ref t, .int (w + nI (icn bi p (t9 + 1)))])), (y, .inl (.byte, M * 32, .inl (fun q => sb_b (B q)))), (s, .inl (.int, M, .inl S)), (t, .inl (.int, M, .inl T))]) (by rw [icn, addn, Nat.add_assoc]) ?_
                  refine g_lv [0, 2, 3] [(2, .int (nI (t9 + 1))), (1, .int (nI en)), (0, .ref g)] rfl ?_
                  exact ih20 (t9 + 1) en sz1 ke1 ((va1 <<< ((nI 8).toInt64 &&& 63)) ||| ((nI (tby B ids (p + t9))).toInt64)) (lt_s q1 h32) (by rw [q2]; congr 1; omega) (by rw [show t9 + 1 - 9 = (t9 - 9) + 1 by omega, rdK, ← q3, show 9 + (t9 - 9) = t9 by omega]) (Or.inr ⟨by omega, h71.2.1, h71.2.2.1, h71.2.2.2⟩) (by omega) (by omega)
              · have h46 := cv_nle (by omega) (by omega) h46
                refine g_aload_n X d_ER_readEntry_49 3 rfl ?_
                refine g_aload_n X d_ER_readEntry_50 3 rfl ?_
                refine g_getf (k := 5) X d_ER_readEntry_51 (hl_w 0 rfl hn) rfl i_TR (by decide) k_fl_ER_9 (fun _ h => h) rfl ?_
                refine g_bipush (nI 8) X d_ER_readEntry_54 (by decide) ?_
                refine g_lshl X d_ER_readEntry_56 ?_
                refine g_iload_n X d_ER_readEntry_57 0 rfl ?_
                refine g_i2l X d_ER_readEntry_58 ?_
                refine g_lor X d_ER_readEntry_59 ?_
                refine h_putf (k := 5) (ty := .long) 0 [(g, .inr (4, [.ref h, .ref q, .int (nI (b2n bi)), .int (nI (p + t9 + 1)), .int ft, .long ((ke1 <<< ((nI 8).toInt64 &&& 63)) ||| ((nI (tby B ids (p + t9))).toInt64)), .int (nI sz1), .long va1])), (h, .inr (0, [.ref y, .ref s, .ref t, .int (w + nI (icn bi p t9) + nI (b2n (bi && decide ((p + t9) % 32 = 0))))])), (y, .inl (.byte, M * 32, .inl (fun q => sb_b (B q)))), (s, .inl (.int, M, .inl S)), (t, .inl (.int, M, .inl T))] X d_ER_readEntry_60 hn rfl rfl i_TR t_TR t_TR_ok n_TR (by decide) k_fl_ER_9 (fun _ h => h) rfl (by decide +kernel) rfl rfl (Nat.le_of_ble_eq_true rfl) rfl ?_
                refine g_goto 121 X d_ER_readEntry_63 (by decide) ?_
                refine g_iinc (nI (t9 + 1)) 1 [(2, .int (nI (t9 + 1))), (3, .int (nI (tby B ids (p + t9)))), (1, .int (nI en)), (0, .ref g)] X d_ER_readEntry_121 rfl (nI_1 _) (by decide) rfl ?_
                refine g_goto 20 X d_ER_readEntry_124 (by decide) ?_
                refine g_hp (ws' := [(g, .inr (4, [.ref h, .ref q, .int (nI (b2n bi)), .int (nI (p + (t9 + 1))), .int ft, .long ((ke1 <<< ((nI 8).toInt64 &&& 63)) ||| ((nI (tby B ids (p + t9))).toInt64)), .int (nI sz1), .long va1])), (h, .inr (0, [.ref y, .ref s, .ref t, .int (w + nI (icn bi p (t9 + 1)))])), (y, .inl (.byte, M * 32, .inl (fun q => sb_b (B q)))), (s, .inl (.int, M, .inl S)), (t, .inl (.int, M, .inl T))]) (by rw [icn, addn, Nat.add_assoc]) ?_
                refine g_lv [0, 2, 3] [(2, .int (nI (t9 + 1))), (1, .int (nI en)), (0, .ref g)] rfl ?_
                exact ih20 (t9 + 1) en sz1 ((ke1 <<< ((nI 8).toInt64 &&& 63)) ||| ((nI (tby B ids (p + t9))).toInt64)) va1 (lt_s q1 h32) (by rw [Nat.min_eq_left (by omega), rdK]; rw [Nat.min_eq_left (by omega)] at q2; rw [q2]) (by rw [q3]; congr 1; omega) (Or.inl ⟨by omega, by omega, by omega⟩) (by omega) (by omega)
            · exact absurd h38 (nI_nm1 (by omega))
          · have h76 : t9 < 9 ∨ (okn (tby B ids (p + 8)) ∧ 9 ≤ t9 ∧ t9 < ebn (tby B ids (p + 8))) := by
              rcases q4 with q | q
              · exact Or.inl (by omega)
              · exact Or.inr ⟨q.2.1, q.1, by rw [← q.2.2.1]; exact h28⟩
            have h77 := rdE_f q1 h32 h76
            refine h_callUr (x := ⟨"RunStore$EntryReader", "nextByte", "()I"⟩) (owner := "RunStore$EntryReader") (As := []) (st := []) [0, 1, 2, 3, 4] [(g, .inr (4, [.ref h, .ref q, .int (nI (b2n bi)), .int (nI (p + t9)), .int (nI (flt m ids (p + t9))), .long ke1, .int (nI sz1), .long va1])), (h, .inr (0, [.ref y, .ref s, .ref t, .int (w + nI (icn bi p t9) + nI (b2n (decide ((p + t9) / 32 < m))))])), (y, .inl (.byte, M * 32, .inl (fun q => sb_b (B q)))), (s, .inl (.int, M, .inl S)), (t, .inl (.int, M, .inl T))] X d_ER_readEntry_32 (c_TR_nextByte_no hst hn hB hM hr9 hm hm1 hid (by omega) h32) (hl_w 0 rfl hn) rfl rfl k_ml_ER_22 k_sm_ER_nextByte (va_Decl.abs (va_Nw.of rfl (X.words _ k_dc_ER_nextByte))) k_cd_TR_nextByte k_in_TR k_im_TR_nextByte k_sx_TR_nextByte ⟨by decide +kernel, by decide +kernel, (by decide +kernel : (parseMethodDescriptor "()I").map (fun d => d.parameters.length) = some 0)⟩ ⟨Nat.le_of_ble_eq_true rfl, Nat.le_of_ble_eq_true rfl⟩ ⟨Nat.le_of_ble_eq_true rfl, Nat.le_of_ble_eq_true rfl⟩ (Nat.le_of_ble_eq_true rfl) hn rfl rfl rfl (fun q9 x9 h9 => h9) ?_
            refine g_istore_n [(3, .int (-1)), (2, .int (nI t9)), (1, .int (nI en)), (0, .ref g)] X d_ER_readEntry_35 (by decide) rfl ?_
            refine g_iload_n X d_ER_readEntry_36 0 rfl ?_
            refine g_iconst (-1) X d_ER_readEntry_37 (by decide) ?_
            refine g_icmp_ne 43 X d_ER_readEntry_38 (by decide) (fun h38 => ?_) (fun h38 => ?_)
            · exact absurd rfl h38
            · refine g_iconst (nI 0) X d_ER_readEntry_41 (by decide) ?_
              exact g_zret X hr rfl d_ER_readEntry_42 (Nat.le_of_ble_eq_true rfl) (Nat.le_of_ble_eq_true rfl) (⟨_, _, _, _, _, by rw [h77, addn], Or.inr ⟨_, by rw [h77], rfl, rfl⟩⟩)
  exact L20 _ 0 9 0 0 0 (fun j hj => absurd hj (Nat.not_lt_zero _)) rfl rfl (Or.inl ⟨by omega, rfl, rfl⟩) (by omega) (Nat.lt_succ_self _)

set_option maxRecDepth 100000 in
set_option maxHeartbeats 1000000 in
theorem c_TR_gather {l : Launch} (hst : l.stackTraces = false) {g h y s t M p sz : Nat} {bi b0 : Bool} {w ft : Int32} {ke va : Int64} {v0 : Value} {S T : Nat → Int32} {B : Nat → Nat} {h2 a2 b2 d2 N n : Nat} {K V : Nat → Int64} {z : Nat → Nat} {q ia lev ent m : Nat} {F : Int64} {ids : Nat → Nat} (hn : [g, h, y, s, t, h2, a2, b2, d2].Nodup) (hB : ∀ q, B q < 256) (hM : M ≤ 128) (hr9 : [q, ia].Nodup) (hm : m ≤ 128) (hm1 : 1 ≤ m) (hid : ∀ k, k < m → ids k < M) (hN : N < 2 ^ 20) (hs : srt K n) (hroom : n + ent ≤ N) : fh_C l fhCl fhT y_TR_gather (.code y_TR_gather b_TR_gather 5 none) 4 91 [.ref g, .ref q, .int (nI (b2n bi)), .ref h2] (hp [(g, .inr (4, [.ref h, v0, .int (nI (b2n b0)), .int (nI p), .int ft, .long ke, .int (nI sz), .long va])), (h, .inr (0, [.ref y, .ref s, .ref t, .int w])), (y, .inl (.byte, M * 32, .inl (fun q => sb_b (B q)))), (s, .inl (.int, M, .inl S)), (t, .inl (.int, M, .inl T)), (h2, .inr (2, [.ref a2, .ref b2, .ref d2, .int (nI n)])), (a2, .inl (.long, N, .inr (.inl K))), (b2, .inl (.int, N, .inl (fun q => nI (z q)))), (d2, .inl (.long, N, .inr (.inl V)))]) (hp [(q, .inr (3, [.int (nI lev), .int (nI ent), .long F, .ref ia])), (ia, .inl (.int, m, .inl (fun q => nI (ids q))))]) 0 0 (fun z9 g9 => ∃ (a1 s1 : Nat) (k1 v1 : Int64), z9 = .inl none ∧ g9 = hp [(g, .inr (4, [.ref h, .ref q, .int (nI (b2n bi)), .int (nI a1), .int (fo (gth bi m ids S T B ent 0 (K, z, V, n)).1), .long k1, .int (nI s1), .long v1])), (h, .inr (0, [.ref y, .ref s, .ref t, .int (w + nI (gth bi m ids S T B ent 0 (K, z, V, n)).2.2)])), (y, .inl (.byte, M * 32, .inl (fun q => sb_b (B q)))), (s, .inl (.int, M, .inl S)), (t, .inl (.int, M, .inl T)), (h2, .inr (2, [.ref a2, .ref b2, .ref d2, .int (nI ((gth bi m ids S T B ent 0 (K, z, V, n)).2.1.2.2.2))])), (a2, .inl (.long, N, .inr (.inl ((gth bi m ids S T B ent 0 (K, z, V, n)).2.1.1)))), (b2, .inl (.int, N, .inl (fun q => nI (((gth bi m ids S T B ent 0 (K, z, V, n)).2.1.2.1) q)))), (d2, .inl (.long, N, .inr (.inl ((gth bi m ids S T B ent 0 (K, z, V, n)).2.1.2.2.1))))]) := by
  refine fh_enter (by decide) hst (Nat.le_of_ble_eq_true rfl) ?_
  intro D mp me sm mm margs mbel mmet mcod X hr hnm hno hf0
  show fh_G mp l me (fh_rm 4 91 0 0) sm mm margs mbel mmet mcod D fhCl (hp [(g, .inr (4, [.ref h, v0, .int (nI (b2n b0)), .int (nI p), .int ft, .long ke, .int (nI sz), .long va])), (h, .inr (0, [.ref y, .ref s, .ref t, .int w])), (y, .inl (.byte, M * 32, .inl (fun q => sb_b (B q)))), (s, .inl (.int, M, .inl S)), (t, .inl (.int, M, .inl T)), (h2, .inr (2, [.ref a2, .ref b2, .ref d2, .int (nI n)])), (a2, .inl (.long, N, .inr (.inl K))), (b2, .inl (.int, N, .inl (fun q => nI (z q)))), (d2, .inl (.long, N, .inr (.inl V)))]) 5 _ 0 0 (hp [(g, .inr (4, [.ref h, v0, .int (nI (b2n b0)), .int (nI p), .int ft, .long ke, .int (nI sz), .long va])), (h, .inr (0, [.ref y, .ref s, .ref t, .int w])), (y, .inl (.byte, M * 32, .inl (fun q => sb_b (B q)))), (s, .inl (.int, M, .inl S)), (t, .inl (.int, M, .inl T)), (h2, .inr (2, [.ref a2, .ref b2, .ref d2, .int (nI n)])), (a2, .inl (.long, N, .inr (.inl K))), (b2, .inl (.int, N, .inl (fun q => nI (z q)))), (d2, .inl (.long, N, .inr (.inl V)))]) 0 [(0, .ref g), (1, .ref q), (2, .int (nI (b2n bi))), (3, .ref h2)] []
  have hn1 : [g, h, y, s, t].Nodup := (List.Nodup.sublist (by repeat first | exact List.nil_sublist _ | apply List.Sublist.cons₂ | apply List.Sublist.cons) hn)
  have hn2 : [h2, a2, b2, d2].Nodup := (List.Nodup.sublist (by repeat first | exact List.nil_sublist _ | apply List.Sublist.cons₂ | apply List.Sublist.cons) hn)
  refine g_aload_n X d_TR_gather_0 0 rfl ?_
  refine g_aload_n X d_TR_gather_1 1 rfl ?_
  refine g_iload_n X d_TR_gather_2 2 rfl ?_
  refine h_callV (As := [.ref q, .int (nI (b2n bi))]) (st := []) [0] [(g, .inr (4, [.ref h, .ref q, .int (nI (b2n bi)), .int (nI 0), .int (-1), .long ke, .int (nI sz), .long va])), (h, .inr (0, [.ref y, .ref s, .ref t, .int w])), (y, .inl (.byte, M * 32, .inl (fun q => sb_b (B q)))), (s, .inl (.int, M, .inl S)), (t, .inl (.int, M, .inl T)), (h2, .inr (2, [.ref a2, .ref b2, .ref d2, .int (nI n)])), (a2, .inl (.long, N, .inr (.inl K))), (b2, .inl (.int, N, .inl (fun q => nI (z q)))), (d2, .inl (.long, N, .inr (.inl V)))] X d_TR_gather_3 (c_TR_start hst) (hl_w 0 rfl hn) rfl rfl k_ml_TR_30 k_cd_TR_start k_in_TR k_im_TR_start k_se_TR_start ⟨by decide +kernel, by decide +kernel, (by decide +kernel : (parseMethodDescriptor y_TR_start.desc).map (fun d => d.parameters.length) = some 2)⟩ ⟨Nat.le_of_ble_eq_true rfl, Nat.le_of_ble_eq_true rfl⟩ ⟨Nat.le_of_ble_eq_true rfl, Nat.le_of_ble_eq_true rfl⟩ (Nat.le_of_ble_eq_true rfl) hn rfl rfl rfl hp_no hp_no2 ?_
  refine g_hp (ws' := [(g, .inr (4, [.ref h, .ref q, .int (nI (b2n bi)), .int (nI 0), .int (-1), .long ke, .int (nI sz), .long va])), (h, .inr (0, [.ref y, .ref s, .ref t, .int (w + nI 0)])), (y, .inl (.byte, M * 32, .inl (fun q => sb_b (B q)))), (s, .inl (.int, M, .inl S)), (t, .inl (.int, M, .inl T)), (h2, .inr (2, [.ref a2, .ref b2, .ref d2, .int (nI n)])), (a2, .inl (.long, N, .inr (.inl K))), (b2, .inl (.int, N, .inl (fun q => nI (z q)))), (d2, .inl (.long, N, .inr (.inl V)))]) (by rw [addz]) ?_
  refine g_iconst (nI 0) X d_TR_gather_6 (by decide) ?_
  refine g_istore [(4, .int (nI 0)), (0, .ref g), (1, .ref q), (2, .int (nI (b2n bi))), (3, .ref h2)] X d_TR_gather_7 (by decide) rfl ?_
  have L9 : ∀ (fu9 : Nat) (e9 : Nat) (p1 : Nat) (c1 : Nat) (sz1 : Nat) (ke1 : Int64) (va1 : Int64) (K1 : Nat → Int64) (z1 : Nat → Nat) (V1 : Nat → Int64) (n1 : Nat), (e9 ≤ ent) → (gth bi m ids S T B ent 0 (K, z, V, n) = ((gth bi m ids S T B (ent - e9) p1 (K1, z1, V1, n1)).1, (gth bi m ids S T B (ent - e9) p1 (K1, z1, V1, n1)).2.1, c1 + (gth bi m ids S T B (ent - e9) p1 (K1, z1, V1, n1)).2.2)) → (srt K1 n1) → (n1 ≤ n + e9) → (p1 ≤ 32 * m) → ent - e9 < fu9 → fh_G mp l me (fh_rm 4 91 0 0) sm mm margs mbel mmet mcod D fhCl (hp [(g, .inr (4, [.ref h, v0, .int (nI (b2n b0)), .int (nI p), .int ft, .long ke, .int (nI sz), .long va])), (h, .inr (0, [.ref y, .ref s, .ref t, .int w])), (y, .inl (.byte, M * 32, .inl (fun q => sb_b (B q)))), (s, .inl (.int, M, .inl S)), (t, .inl (.int, M, .inl T)), (h2, .inr (2, [.ref a2, .ref b2, .ref d2, .int (nI n)])), (a2, .inl (.long, N, .inr (.inl K))), (b2, .inl (.int, N, .inl (fun q => nI (z q)))), (d2, .inl (.long, N, .inr (.inl V)))]) 5 (fh_MQ mbel D fhCl (hp [(g, .inr (4, [.ref h, v0, .int (nI (b2n b0)), .int (nI p), .int ft, .long ke, .int (nI sz), .long va])), (h, .inr (0, [.ref y, .ref s, .ref t, .int w])), (y, .inl (.byte, M * 32, .inl (fun q => sb_b (B q)))), (s, .inl (.int, M, .inl S)), (t, .inl (.int, M, .inl T)), (h2, .inr (2, [.ref a2, .ref b2, .ref d2, .int (nI n)])), (a2, .inl (.long, N, .inr (.inl K))), (b2, .inl (.int, N, .inl (fun q => nI (z q)))), (d2, .inl (.long, N, .inr (.inl V)))]) (fun z9 g9 => ∃ (a1 s1 : Nat) (k1 v1 : Int64), z9 = .inl none ∧ g9 = hp [(g, .inr (4, [.ref h, .ref q, .int (nI (b2n bi)), .int (nI a1), .int (fo (gth bi m ids S T B ent 0 (K, z, V, n)).1), .long k1, .int (nI s1), .long v1])), (h, .inr (0, [.ref y, .ref s, .ref t, .int (w + nI (gth bi m ids S T B ent 0 (K, z, V, n)).2.2)])), (y, .inl (.byte, M * 32, .inl (fun q => sb_b (B q)))), (s, .inl (.int, M, .inl S)), (t, .inl (.int, M, .inl T)), (h2, .inr (2, [.ref a2, .ref b2, .ref d2, .int (nI ((gth bi m ids S T B ent 0 (K, z, V, n)).2.1.2.2.2))])), (a2, .inl (.long, N, .inr (.inl ((gth bi m ids S T B ent 0 (K, z, V, n)).2.1.1)))), (b2, .inl (.int, N, .inl (fun q => nI (((gth bi m ids S T B ent 0 (K, z, V, n)).2.1.2.1) q)))), (d2, .inl (.long, N, .inr (.inl ((gth bi m ids S T B ent 0 (K, z, V, n)).2.1.2.2.1))))]) margs sm 0 0) 0 0 (hp [(g, .inr (4, [.ref h, .ref q, .int (nI (b2n bi)), .int (nI p1), .int (-1), .long ke1, .int (nI sz1), .long va1])), (h, .inr (0, [.ref y, .ref s, .ref t, .int (w + nI c1)])), (y, .inl (.byte, M * 32, .inl (fun q => sb_b (B q)))), (s, .inl (.int, M, .inl S)), (t, .inl (.int, M, .inl T)), (h2, .inr (2, [.ref a2, .ref b2, .ref d2, .int (nI n1)])), (a2, .inl (.long, N, .inr (.inl K1))), (b2, .inl (.int, N, .inl (fun q => nI (z1 q)))), (d2, .inl (.long, N, .inr (.inl V1)))]) 9 [(4, .int (nI e9)), (0, .ref g), (1, .ref q), (2, .int (nI (b2n bi))), (3, .ref h2)] [] := by
    intro fu9
    induction fu9 with
    | zero => intro e9 p1 c1 sz1 ke1 va1 K1 z1 V1 n1 q1 q2 q3 q4 q5 hm9; exact absurd hm9 (Nat.not_lt_zero _)
    | succ fu9 ih9 =>
      intro e9 p1 c1 sz1 ke1 va1 K1 z1 V1 n1 q1 q2 q3 q4 q5 hm9
      refine g_iload X d_TR_gather_9 0 rfl ?_
      refine g_aload_n X d_TR_gather_11 2 rfl ?_
      refine g_getN (k := 1) X d_TR_gather_12 (hl_r 0 rfl hr9) rfl i_TB (by decide) k_fl_TR_34 (fun _ h => h) rfl ?_
      refine g_icmp_ge 48 X d_TR_gather_15 (by decide) (fun h15 => ?_) (fun h15 => ?_)
      · have h15 := cv_le (by omega) (by omega) h15
        have hfin : gth bi m ids S T B ent 0 (K, z, V, n) = (none, (K1, z1, V1, n1), c1) := by rw [q2, show ent - e9 = 0 by omega]; rfl
        exact g_vret X hr d_TR_gather_48 (Nat.le_of_ble_eq_true rfl) (Nat.le_of_ble_eq_true rfl) (⟨_, _, _, _, rfl, by rw [hfin]; rfl⟩)
      · have h15 := cv_nle (by omega) (by omega) h15
        refine g_aload_n X d_TR_gather_18 1 rfl ?_
        refine g_callUr (x := ⟨"RunStore$TableReader", "readEntry", "()Z"⟩) (owner := "RunStore$EntryReader") (As := []) (st := []) X d_TR_gather_19 (c_ER_readEntry_TR hst hn1 hB hM hr9 hm hm1 hid (by omega)) (hl_w 0 rfl hn) rfl rfl k_ml_TR_39 k_sm_TR_readEntry (va_Decl.abs (va_Nw.of rfl (X.words _ k_dc_ER_readEntry))) k_cd_ER_readEntry k_in_ER k_im_ER_readEntry k_sx_TR_readEntry ⟨by decide +kernel, by decide +kernel, (by decide +kernel : (parseMethodDescriptor "()Z").map (fun d => d.parameters.length) = some 0)⟩ ⟨Nat.le_of_ble_eq_true rfl, Nat.le_of_ble_eq_true rfl⟩ ⟨Nat.le_of_ble_eq_true rfl, Nat.le_of_ble_eq_true rfl⟩ (Nat.le_of_ble_eq_true rfl) (hp_sub hn [0, 1, 2, 3, 4] rfl) (fun q9 x9 h9 => h9) (fun E g9 h => by obtain ⟨_, _, _, _, _, _, h9⟩ := h; rcases h9 with h9 | ⟨_, h9⟩ <;> cases h9.2.1) (fun v9 g9 hq => ?_)
        obtain ⟨a9, s9, f9, k9, v9x, hg9, ho⟩ := hq
        subst hg9
        refine g_ov [0, 1, 2, 3, 4] [(g, .inr (4, [.ref h, .ref q, .int (nI (b2n bi)), .int (nI a9), .int f9, .long k9, .int (nI s9), .long v9x])), (h, .inr (0, [.ref y, .ref s, .ref t, .int (w + nI c1 + nI (rdE bi m ids S T B p1).2)])), (y, .inl (.byte, M * 32, .inl (fun q => sb_b (B q)))), (s, .inl (.int, M, .inl S)), (t, .inl (.int, M, .inl T)), (h2, .inr (2, [.ref a2, .ref b2, .ref d2, .int (nI n1)])), (a2, .inl (.long, N, .inr (.inl K1))), (b2, .inl (.int, N, .inl (fun q => nI (z1 q)))), (d2, .inl (.long, N, .inr (.inl V1)))] rfl rfl hn ?_
        rcases ho with ⟨hrd, hv9, ef, ea, ek, es9, ev⟩ | ⟨f, hrd, hv9, ef⟩
        · cases hv9
          obtain ⟨hk8, hp8⟩ := rdE_none hrd
          subst ef ea ek es9 ev
          refine g_if_ne 26 X d_TR_gather_22 (by decide) (fun h22 => ?_) (fun h22 => ?_)
          · have h22 := cv_n0 (by omega) h22
            refine g_aload_n X d_TR_gather_26 4 rfl ?_
            refine g_aload_n X d_TR_gather_27 1 rfl ?_
            refine g_getf (k := 5) X d_TR_gather_28 (hl_w 0 rfl hn) rfl i_TR (by decide) k_fl_TR_43 (fun z h => u_same (X.words _ k_sf_TR_key) z h) rfl ?_
            refine g_aload_n X d_TR_gather_31 1 rfl ?_
            refine g_getf (k := 6) X d_TR_gather_32 (hl_w 0 rfl hn) rfl i_TR (by decide) k_fl_TR_47 (fun z h => u_same (X.words _ k_sf_TR_size) z h) rfl ?_
            refine g_aload_n X d_TR_gather_35 1 rfl ?_
            refine g_getf (k := 7) X d_TR_gather_36 (hl_w 0 rfl hn) rfl i_TR (by decide) k_fl_TR_50 (fun z h => u_same (X.words _ k_sf_TR_value) z h) rfl ?_
            rcases Decidable.em ((plc K1 (enK (tby B ids) p1) n1) < n1 ∧ K1 (plc K1 (enK (tby B ids) p1) n1) = (enK (tby B ids) p1)) with hf | hf
            · have h70 := adm_t (z := z1) (V := V1) (m := (tby B ids (p1 + 8))) (v := (enV (tby B ids) p1)) hf
              have h72 : gth bi m ids S T B ent 0 (K, z, V, n) = ((gth bi m ids S T B (ent - (e9 + 1)) (p1 + ebn (tby B ids (p1 + 8))) (adm (K1, z1, V1, n1) (enK (tby B ids) p1) (tby B ids (p1 + 8)) (enV (tby B ids) p1))).1, (gth bi m ids S T B (ent - (e9 + 1)) (p1 + ebn (tby B ids (p1 + 8))) (adm (K1, z1, V1, n1) (enK (tby B ids) p1) (tby B ids (p1 + 8)) (enV (tby B ids) p1))).2.1, c1 + (rdE bi m ids S T B p1).2 + (gth bi m ids S T B (ent - (e9 + 1)) (p1 + ebn (tby B ids (p1 + 8))) (adm (K1, z1, V1, n1) (enK (tby B ids) p1) (tby B ids (p1 + 8)) (enV (tby B ids) p1))).2.2) := by
                rw [q2, show ent - e9 = (ent - (e9 + 1)) + 1 by omega, gth_n hrd, Nat.add_assoc]
              refine h_callV (As := [.long (enK (tby B ids) p1), .int (nI (tby B ids (p1 + 8))), .long (enV (tby B ids) p1)]) (st := []) [5, 6, 7, 8] [(g, .inr (4, [.ref h, .ref q, .int (nI (b2n bi)), .int (nI (p1 + ebn (tby B ids (p1 + 8)))), .int (-1), .long (enK (tby B ids) p1), .int (nI (tby B ids (p1 + 8))), .long (enV (tby B ids) p1)])), (h, .inr (0, [.ref y, .ref s, .ref t, .int (w + nI c1 + nI (rdE bi m ids S T B p1).2)])), (y, .inl (.byte, M * 32, .inl (fun q => sb_b (B q)))), (s, .inl (.int, M, .inl S)), (t, .inl (.int, M, .inl T)), (h2, .inr (2, [.ref a2, .ref b2, .ref d2, .int (nI n1)])), (a2, .inl (.long, N, .inr (.inl K1))), (b2, .inl (.int, N, .inl (fun q => nI (z1 q)))), (d2, .inl (.long, N, .inr (.inl V1)))] X d_TR_gather_39 (c_RW_addMissing_in hst hn2 hN q3 (by omega) hf) (hl_w 5 rfl hn) rfl rfl k_ml_TR_53 k_cd_RW_addMissing k_in_RW k_im_RW_addMissing k_se_RW_addMissing ⟨by decide +kernel, by decide +kernel, (by decide +kernel : (parseMethodDescriptor y_RW_addMissing.desc).map (fun d => d.parameters.length) = some 3)⟩ ⟨Nat.le_of_ble_eq_true rfl, Nat.le_of_ble_eq_true rfl⟩ ⟨Nat.le_of_ble_eq_true rfl, Nat.le_of_ble_eq_true rfl⟩ (Nat.le_of_ble_eq_true rfl) hn rfl rfl rfl hp_no hp_no2 ?_
              refine g_iinc (nI (e9 + 1)) 0 [(4, .int (nI (e9 + 1))), (0, .ref g), (1, .ref q), (2, .int (nI (b2n bi))), (3, .ref h2)] X d_TR_gather_42 rfl (nI_1 _) (by decide) rfl ?_
              refine g_goto 9 X d_TR_gather_45 (by decide) ?_
              refine g_hp (ws' := [(g, .inr (4, [.ref h, .ref q, .int (nI (b2n bi)), .int (nI (p1 + ebn (tby B ids (p1 + 8)))), .int (-1), .long (enK (tby B ids) p1), .int (nI (tby B ids (p1 + 8))), .long (enV (tby B ids) p1)])), (h, .inr (0, [.ref y, .ref s, .ref t, .int (w + nI (c1 + (rdE bi m ids S T B p1).2))])), (y, .inl (.byte, M * 32, .inl (fun q => sb_b (B q)))), (s, .inl (.int, M, .inl S)), (t, .inl (.int, M, .inl T)), (h2, .inr (2, [.ref a2, .ref b2, .ref d2, .int (nI n1)])), (a2, .inl (.long, N, .inr (.inl K1))), (b2, .inl (.int, N, .inl (fun q => nI (z1 q)))), (d2, .inl (.long, N, .inr (.inl V1)))]) (by rw [addn]) ?_
              exact ih9 (e9 + 1) _ _ _ _ _ _ _ _ _ (by omega) (by rw [h72, h70]) q3 (by omega) hp8 (by omega)
            · have h70 := adm_f (z := z1) (V := V1) (m := (tby B ids (p1 + 8))) (v := (enV (tby B ids) p1)) hf
              have h72 : gth bi m ids S T B ent 0 (K, z, V, n) = ((gth bi m ids S T B (ent - (e9 + 1)) (p1 + ebn (tby B ids (p1 + 8))) (adm (K1, z1, V1, n1) (enK (tby B ids) p1) (tby B ids (p1 + 8)) (enV (tby B ids) p1))).1, (gth bi m ids S T B (ent - (e9 + 1)) (p1 + ebn (tby B ids (p1 + 8))) (adm (K1, z1, V1, n1) (enK (tby B ids) p1) (tby B ids (p1 + 8)) (enV (tby B ids) p1))).2.1, c1 + (rdE bi m ids S T B p1).2 + (gth bi m ids S T B (ent - (e9 + 1)) (p1 + ebn (tby B ids (p1 + 8))) (adm (K1, z1, V1, n1) (enK (tby B ids) p1) (tby B ids (p1 + 8)) (enV (tby B ids) p1))).2.2) := by
                rw [q2, show ent - e9 = (ent - (e9 + 1)) + 1 by omega, gth_n hrd, Nat.add_assoc]
              refine h_callV (As := [.long (enK (tby B ids) p1), .int (nI (tby B ids (p1 + 8))), .long (enV (tby B ids) p1)]) (st := []) [5, 6, 7, 8] [(g, .inr (4, [.ref h, .ref q, .int (nI (b2n bi)), .int (nI (p1 + ebn (tby B ids (p1 + 8)))), .int (-1), .long (enK (tby B ids) p1), .int (nI (tby B ids (p1 + 8))), .long (enV (tby B ids) p1)])), (h, .inr (0, [.ref y, .ref s, .ref t, .int (w + nI c1 + nI (rdE bi m ids S T B p1).2)])), (y, .inl (.byte, M * 32, .inl (fun q => sb_b (B q)))), (s, .inl (.int, M, .inl S)), (t, .inl (.int, M, .inl T)), (h2, .inr (2, [.ref a2, .ref b2, .ref d2, .int (nI (n1 + 1))])), (a2, .inl (.long, N, .inr (.inl (insF K1 n1 (plc K1 (enK (tby B ids) p1) n1) (enK (tby B ids) p1))))), (b2, .inl (.int, N, .inl (fun q => nI (((insF z1 n1 (plc K1 (enK (tby B ids) p1) n1) (tby B ids (p1 + 8)))) q)))), (d2, .inl (.long, N, .inr (.inl (insF V1 n1 (plc K1 (enK (tby B ids) p1) n1) (enV (tby B ids) p1)))))] X d_TR_gather_39 (c_RW_addMissing_new hst hn2 hN q3 (by omega) hf (by omega)) (hl_w 5 rfl hn) rfl rfl k_ml_TR_53 k_cd_RW_addMissing k_in_RW k_im_RW_addMissing k_se_RW_addMissing ⟨by decide +kernel, by decide +kernel, (by decide +kernel : (parseMethodDescriptor y_RW_addMissing.desc).map (fun d => d.parameters.length) = some 3)⟩ ⟨Nat.le_of_ble_eq_true rfl, Nat.le_of_ble_eq_true rfl⟩ ⟨Nat.le_of_ble_eq_true rfl, Nat.le_of_ble_eq_true rfl⟩ (Nat.le_of_ble_eq_true rfl) hn rfl rfl rfl hp_no hp_no2 ?_
              refine g_iinc (nI (e9 + 1)) 0 [(4, .int (nI (e9 + 1))), (0, .ref g), (1, .ref q), (2, .int (nI (b2n bi))), (3, .ref h2)] X d_TR_gather_42 rfl (nI_1 _) (by decide) rfl ?_
              refine g_goto 9 X d_TR_gather_45 (by decide) ?_
              refine g_hp (ws' := [(g, .inr (4, [.ref h, .ref q, .int (nI (b2n bi)), .int (nI (p1 + ebn (tby B ids (p1 + 8)))), .int (-1), .long (enK (tby B ids) p1), .int (nI (tby B ids (p1 + 8))), .long (enV (tby B ids) p1)])), (h, .inr (0, [.ref y, .ref s, .ref t, .int (w + nI (c1 + (rdE bi m ids S T B p1).2))])), (y, .inl (.byte, M * 32, .inl (fun q => sb_b (B q)))), (s, .inl (.int, M, .inl S)), (t, .inl (.int, M, .inl T)), (h2, .inr (2, [.ref a2, .ref b2, .ref d2, .int (nI (n1 + 1))])), (a2, .inl (.long, N, .inr (.inl (insF K1 n1 (plc K1 (enK (tby B ids) p1) n1) (enK (tby B ids) p1))))), (b2, .inl (.int, N, .inl (fun q => nI (((insF z1 n1 (plc K1 (enK (tby B ids) p1) n1) (tby B ids (p1 + 8)))) q)))), (d2, .inl (.long, N, .inr (.inl (insF V1 n1 (plc K1 (enK (tby B ids) p1) n1) (enV (tby B ids) p1)))))]) (by rw [addn]) ?_
              exact ih9 (e9 + 1) _ _ _ _ _ _ _ _ _ (by omega) (by rw [h72, h70]) (srt_ins q3 hf) (by omega) hp8 (by omega)
          · have h22 := cv_e0 (by omega) h22
            exact absurd h22 (by decide)
        · cases hv9
          subst ef
          refine g_if_ne 26 X d_TR_gather_22 (by decide) (fun h22 => ?_) (fun h22 => ?_)
          · have h22 := cv_n0 (by omega) h22
            exact absurd h22 (by decide)
          · have h22 := cv_e0 (by omega) h22
            have hfin : gth bi m ids S T B ent 0 (K, z, V, n) = (some f, (K1, z1, V1, n1), c1 + (rdE bi m ids S T B p1).2) := by rw [q2, show ent - e9 = (ent - (e9 + 1)) + 1 by omega, gth_f hrd]
            exact g_vret X hr d_TR_gather_25 (Nat.le_of_ble_eq_true rfl) (Nat.le_of_ble_eq_true rfl) (⟨_, _, _, _, rfl, by rw [hfin, addn]; rfl⟩)
  exact L9 _ 0 0 0 _ _ _ K z V n (Nat.zero_le _) (by rw [Nat.zero_add]; rfl) hs (Nat.le_refl _) (Nat.zero_le _) (Nat.lt_succ_self _)

set_option maxRecDepth 100000 in
set_option maxHeartbeats 1000000 in
theorem c_TR_reaches {l : Launch} (hst : l.stackTraces = false) {g h y s t M p sz : Nat} {b0 : Bool} {w ft : Int32} {ke va k : Int64} {v0 : Value} {S T : Nat → Int32} {B : Nat → Nat} {q ia lev ent m : Nat} {F : Int64} {ids : Nat → Nat} (hn : [g, h, y, s, t].Nodup) (hB : ∀ q, B q < 256) (hM : M ≤ 128) (hr9 : [q, ia].Nodup) (hm : m ≤ 128) (hm1 : 1 ≤ m) (hid : ∀ k, k < m → ids k < M) (hent : ent < 2 ^ 20) : fh_C l fhCl fhT y_TR_reaches (.code y_TR_reaches b_TR_reaches 5 (some .boolean)) 4 91 [.ref g, .ref q, .long k] (hp [(g, .inr (4, [.ref h, v0, .int (nI (b2n b0)), .int (nI p), .int ft, .long ke, .int (nI sz), .long va])), (h, .inr (0, [.ref y, .ref s, .ref t, .int w])), (y, .inl (.byte, M * 32, .inl (fun q => sb_b (B q)))), (s, .inl (.int, M, .inl S)), (t, .inl (.int, M, .inl T))]) (hp [(q, .inr (3, [.int (nI lev), .int (nI ent), .long F, .ref ia])), (ia, .inl (.int, m, .inl (fun q => nI (ids q))))]) 0 0 (fun z9 g9 => ∃ (a1 s1 : Nat) (k1 v1 : Int64), z9 = .inl (some (.int (nI (b2n (rch true m ids S T B k ent 0).2.1.isSome)))) ∧ g9 = hp [(g, .inr (4, [.ref h, .ref q, .int (nI (b2n true)), .int (nI a1), .int (fo (rch true m ids S T B k ent 0).1), .long k1, .int (nI s1), .long v1])), (h, .inr (0, [.ref y, .ref s, .ref t, .int (w + nI (rch true m ids S T B k ent 0).2.2)])), (y, .inl (.byte, M * 32, .inl (fun q => sb_b (B q)))), (s, .inl (.int, M, .inl S)), (t, .inl (.int, M, .inl T))] ∧ ∀ x, (rch true m ids S T B k ent 0).2.1 = some x → s1 = x.1 ∧ v1 = x.2) := by
  refine fh_enter (by decide) hst (Nat.le_of_ble_eq_true rfl) ?_
  intro D mp me sm mm margs mbel mmet mcod X hr hnm hno hf0
  show fh_G mp l me (fh_rm 4 91 0 0) sm mm margs mbel mmet mcod D fhCl (hp [(g, .inr (4, [.ref h, v0, .int (nI (b2n b0)), .int (nI p), .int ft, .long ke, .int (nI sz), .long va])), (h, .inr (0, [.ref y, .ref s, .ref t, .int w])), (y, .inl (.byte, M * 32, .inl (fun q => sb_b (B q)))), (s, .inl (.int, M, .inl S)), (t, .inl (.int, M, .inl T))]) 5 _ 0 0 (hp [(g, .inr (4, [.ref h, v0, .int (nI (b2n b0)), .int (nI p), .int ft, .long ke, .int (nI sz), .long va])), (h, .inr (0, [.ref y, .ref s, .ref t, .int w])), (y, .inl (.byte, M * 32, .inl (fun q => sb_b (B q)))), (s, .inl (.int, M, .inl S)), (t, .inl (.int, M, .inl T))]) 0 [(0, .ref g), (1, .ref q), (2, .long k)] []
  refine g_aload_n X d_TR_reaches_0 0 rfl ?_
  refine g_aload_n X d_TR_reaches_1 1 rfl ?_
  refine g_iconst (nI 1) X d_TR_reaches_2 (by decide) ?_
  refine h_callV (As := [.ref q, .int (nI 1)]) (st := []) [0] [(g, .inr (4, [.ref h, .ref q, .int (nI (b2n true)), .int (nI 0), .int (-1), .long ke, .int (nI sz), .long va])), (h, .inr (0, [.ref y, .ref s, .ref t, .int w])), (y, .inl (.byte, M * 32, .inl (fun q => sb_b (B q)))), (s, .inl (.int, M, .inl S)), (t, .inl (.int, M, .inl T))] X d_TR_reaches_3 (c_TR_start (bi := true) hst) (hl_w 0 rfl hn) rfl rfl k_ml_TR_30 k_cd_TR_start k_in_TR k_im_TR_start k_se_TR_start ⟨by decide +kernel, by decide +kernel, (by decide +kernel : (parseMethodDescriptor y_TR_start.desc).map (fun d => d.parameters.length) = some 2)⟩ ⟨Nat.le_of_ble_eq_true rfl, Nat.le_of_ble_eq_true rfl⟩ ⟨Nat.le_of_ble_eq_true rfl, Nat.le_of_ble_eq_true rfl⟩ (Nat.le_of_ble_eq_true rfl) hn rfl rfl rfl hp_no hp_no2 ?_
  refine g_hp (ws' := [(g, .inr (4, [.ref h, .ref q, .int (nI (b2n true)), .int (nI 0), .int (-1), .long ke, .int (nI sz), .long va])), (h, .inr (0, [.ref y, .ref s, .ref t, .int (w + nI 0)])), (y, .inl (.byte, M * 32, .inl (fun q => sb_b (B q)))), (s, .inl (.int, M, .inl S)), (t, .inl (.int, M, .inl T))]) (by rw [addz]) ?_
  refine g_iconst (nI 0) X d_TR_reaches_6 (by decide) ?_
  refine g_istore [(4, .int (nI 0)), (0, .ref g), (1, .ref q), (2, .long k)] X d_TR_reaches_7 (by decide) rfl ?_
  have L9 : ∀ (fu9 : Nat) (e9 : Nat) (p1 : Nat) (c1 : Nat) (sz1 : Nat) (ke1 : Int64) (va1 : Int64), (e9 ≤ ent) → (rch true m ids S T B k ent 0 = ((rch true m ids S T B k (ent - e9) p1).1, (rch true m ids S T B k (ent - e9) p1).2.1, c1 + (rch true m ids S T B k (ent - e9) p1).2.2)) → (p1 ≤ 32 * m) → ent - e9 < fu9 → fh_G mp l me (fh_rm 4 91 0 0) sm mm margs mbel mmet mcod D fhCl (hp [(g, .inr (4, [.ref h, v0, .int (nI (b2n b0)), .int (nI p), .int ft, .long ke, .int (nI sz), .long va])), (h, .inr (0, [.ref y, .ref s, .ref t, .int w])), (y, .inl (.byte, M * 32, .inl (fun q => sb_b (B q)))), (s, .inl (.int, M, .inl S)), (t, .inl (.int, M, .inl T))]) 5 (fh_MQ mbel D fhCl (hp [(g, .inr (4, [.ref h, v0, .int (nI (b2n b0)), .int (nI p), .int ft, .long ke, .int (nI sz), .long va])), (h, .inr (0, [.ref y, .ref s, .ref t, .int w])), (y, .inl (.byte, M * 32, .inl (fun q => sb_b (B q)))), (s, .inl (.int, M, .inl S)), (t, .inl (.int, M, .inl T))]) (fun z9 g9 => ∃ (a1 s1 : Nat) (k1 v1 : Int64), z9 = .inl (some (.int (nI (b2n (rch true m ids S T B k ent 0).2.1.isSome)))) ∧ g9 = hp [(g, .inr (4, [.ref h, .ref q, .int (nI (b2n true)), .int (nI a1), .int (fo (rch true m ids S T B k ent 0).1), .long k1, .int (nI s1), .long v1])), (h, .inr (0, [.ref y, .ref s, .ref t, .int (w + nI (rch true m ids S T B k ent 0).2.2)])), (y, .inl (.byte, M * 32, .inl (fun q => sb_b (B q)))), (s, .inl (.int, M, .inl S)), (t, .inl (.int, M, .inl T))] ∧ ∀ x, (rch true m ids S T B k ent 0).2.1 = some x → s1 = x.1 ∧ v1 = x.2) margs sm 0 0) 0 0 (hp [(g, .inr (4, [.ref h, .ref q, .int (nI (b2n true)), .int (nI p1), .int (-1), .long ke1, .int (nI sz1), .long va1])), (h, .inr (0, [.ref y, .ref s, .ref t, .int (w + nI c1)])), (y, .inl (.byte, M * 32, .inl (fun q => sb_b (B q)))), (s, .inl (.int, M, .inl S)), (t, .inl (.int, M, .inl T))]) 9 [(4, .int (nI e9)), (0, .ref g), (1, .ref q), (2, .long k)] [] := by
    intro fu9
    induction fu9 with
    | zero => intro e9 p1 c1 sz1 ke1 va1 q1 q2 q5 hm9; exact absurd hm9 (Nat.not_lt_zero _)
    | succ fu9 ih9 =>
      intro e9 p1 c1 sz1 ke1 va1 q1 q2 q5 hm9
      refine g_iload X d_TR_reaches_9 0 rfl ?_
      refine g_aload_n X d_TR_reaches_11 2 rfl ?_
      refine g_getN (k := 1) X d_TR_reaches_12 (hl_r 0 rfl hr9) rfl i_TB (by decide) k_fl_TR_34 (fun _ h => h) rfl ?_
      refine g_icmp_ge 57 X d_TR_reaches_15 (by decide) (fun h15 => ?_) (fun h15 => ?_)
      · have h15 := cv_le (by omega) (by omega) h15
        have hfin : rch true m ids S T B k ent 0 = (none, none, c1) := by rw [q2, show ent - e9 = 0 by omega]; rfl
        refine g_iconst (nI 0) X d_TR_reaches_57 (by decide) ?_
        exact g_zret X hr rfl d_TR_reaches_58 (Nat.le_of_ble_eq_true rfl) (Nat.le_of_ble_eq_true rfl) (⟨_, _, _, _, by rw [hfin]; rfl, by rw [hfin]; rfl, fun x hx => by rw [hfin] at hx; cases hx⟩)
      · have h15 := cv_nle (by omega) (by omega) h15
        refine g_aload_n X d_TR_reaches_18 1 rfl ?_
        refine g_callUr (x := ⟨"RunStore$TableReader", "readEntry", "()Z"⟩) (owner := "RunStore$EntryReader") (As := []) (st := []) X d_TR_reaches_19 (c_ER_readEntry_TR hst hn hB hM hr9 hm hm1 hid (by omega)) (hl_w 0 rfl hn) rfl rfl k_ml_TR_39 k_sm_TR_readEntry (va_Decl.abs (va_Nw.of rfl (X.words _ k_dc_ER_readEntry))) k_cd_ER_readEntry k_in_ER k_im_ER_readEntry k_sx_TR_readEntry ⟨by decide +kernel, by decide +kernel, (by decide +kernel : (parseMethodDescriptor "()Z").map (fun d => d.parameters.length) = some 0)⟩ ⟨Nat.le_of_ble_eq_true rfl, Nat.le_of_ble_eq_true rfl⟩ ⟨Nat.le_of_ble_eq_true rfl, Nat.le_of_ble_eq_true rfl⟩ (Nat.le_of_ble_eq_true rfl) (hp_sub hn [0, 1, 2, 3, 4] rfl) (fun q9 x9 h9 => h9) (fun E g9 h => by obtain ⟨_, _, _, _, _, _, h9⟩ := h; rcases h9 with h9 | ⟨_, h9⟩ <;> cases h9.2.1) (fun v9 g9 hq => ?_)
        obtain ⟨a9, s9, f9, k9, v9x, hg9, ho⟩ := hq
        subst hg9
        refine g_ov [0, 1, 2, 3, 4] [(g, .inr (4, [.ref h, .ref q, .int (nI (b2n true)), .int (nI a9), .int f9, .long k9, .int (nI s9), .long v9x])), (h, .inr (0, [.ref y, .ref s, .ref t, .int (w + nI c1 + nI (rdE true m ids S T B p1).2)])), (y, .inl (.byte, M * 32, .inl (fun q => sb_b (B q)))), (s, .inl (.int, M, .inl S)), (t, .inl (.int, M, .inl T))] rfl rfl hn ?_
        rcases ho with ⟨hrd, hv9, ef, ea, ek, es9, ev⟩ | ⟨f, hrd, hv9, ef⟩
        · cases hv9
          obtain ⟨hk8, hp8⟩ := rdE_none hrd
          subst ef ea ek es9 ev
          refine g_if_ne 27 X d_TR_reaches_22 (by decide) (fun h22 => ?_) (fun h22 => ?_)
          · have h22 := cv_n0 (by omega) h22
            refine g_aload_n X d_TR_reaches_27 1 rfl ?_
            refine g_getf (k := 5) X d_TR_reaches_28 (hl_w 0 rfl hn) rfl i_TR (by decide) k_fl_TR_43 (fun z h => u_same (X.words _ k_sf_TR_key) z h) rfl ?_
            refine g_lload_n X d_TR_reaches_31 3 rfl ?_
            refine g_lcmp X d_TR_reaches_32 ?_
            refine g_if_lt 51 X d_TR_reaches_33 (by decide) (fun h33 => ?_) (fun h33 => ?_)
            · have h33 := (lg_cmp_lt (enK (tby B ids) p1) k).mp h33
              refine g_iinc (nI (e9 + 1)) 0 [(4, .int (nI (e9 + 1))), (0, .ref g), (1, .ref q), (2, .long k)] X d_TR_reaches_51 rfl (nI_1 _) (by decide) rfl ?_
              refine g_goto 9 X d_TR_reaches_54 (by decide) ?_
              refine g_hp (ws' := [(g, .inr (4, [.ref h, .ref q, .int (nI (b2n true)), .int (nI (p1 + ebn (tby B ids (p1 + 8)))), .int (-1), .long (enK (tby B ids) p1), .int (nI (tby B ids (p1 + 8))), .long (enV (tby B ids) p1)])), (h, .inr (0, [.ref y, .ref s, .ref t, .int (w + nI (c1 + (rdE true m ids S T B p1).2))])), (y, .inl (.byte, M * 32, .inl (fun q => sb_b (B q)))), (s, .inl (.int, M, .inl S)), (t, .inl (.int, M, .inl T))]) (by rw [addn]) ?_
              exact ih9 (e9 + 1) _ _ _ _ _ (by omega) (by rw [q2, show ent - e9 = (ent - (e9 + 1)) + 1 by omega, rch_n hrd h33, Nat.add_assoc]) hp8 (by omega)
            · have h33 := fun z => h33 ((lg_cmp_lt (enK (tby B ids) p1) k).mpr z)
              have hfin : rch true m ids S T B k ent 0 = (none, (if enK (tby B ids) p1 = k then some (tby B ids (p1 + 8), enV (tby B ids) p1) else none), c1 + (rdE true m ids S T B p1).2) := by rw [q2, show ent - e9 = (ent - (e9 + 1)) + 1 by omega, rch_e hrd h33]
              refine g_aload_n X d_TR_reaches_36 1 rfl ?_
              refine g_getf (k := 5) X d_TR_reaches_37 (hl_w 0 rfl hn) rfl i_TR (by decide) k_fl_TR_43 (fun z h => u_same (X.words _ k_sf_TR_key) z h) rfl ?_
              refine g_lload_n X d_TR_reaches_40 3 rfl ?_
              refine g_lcmp X d_TR_reaches_41 ?_
              refine g_if_ne 49 X d_TR_reaches_42 (by decide) (fun h42 => ?_) (fun h42 => ?_)
              · have h42 := fun z => h42 ((lg_cmp_eq (enK (tby B ids) p1) k).mpr z)
                rw [if_neg h42] at hfin
                refine g_iconst (nI 0) X d_TR_reaches_49 (by decide) ?_
                exact g_zret X hr rfl d_TR_reaches_50 (Nat.le_of_ble_eq_true rfl) (Nat.le_of_ble_eq_true rfl) (⟨_, _, _, _, by rw [hfin]; rfl, by rw [hfin, addn]; rfl, fun x hx => by rw [hfin] at hx; cases hx⟩)
              · have h42 := (lg_cmp_eq (enK (tby B ids) p1) k).mp h42
                rw [if_pos h42] at hfin
                refine g_iconst (nI 1) X d_TR_reaches_45 (by decide) ?_
                refine g_goto 50 X d_TR_reaches_46 (by decide) ?_
                exact g_zret X hr rfl d_TR_reaches_50 (Nat.le_of_ble_eq_true rfl) (Nat.le_of_ble_eq_true rfl) (⟨_, _, _, _, by rw [hfin]; rfl, by rw [hfin, addn]; rfl, fun x hx => by rw [hfin] at hx; cases hx; exact ⟨rfl, rfl⟩⟩)
          · have h22 := cv_e0 (by omega) h22
            exact absurd h22 (by decide)
        · cases hv9
          subst ef
          refine g_if_ne 27 X d_TR_reaches_22 (by decide) (fun h22 => ?_) (fun h22 => ?_)
          · have h22 := cv_n0 (by omega) h22
            exact absurd h22 (by decide)
          · have h22 := cv_e0 (by omega) h22
            have hfin : rch true m ids S T B k ent 0 = (some f, none, c1 + (rdE true m ids S T B p1).2) := by rw [q2, show ent - e9 = (ent - (e9 + 1)) + 1 by omega, rch_f hrd]
            refine g_iconst (nI 0) X d_TR_reaches_25 (by decide) ?_
            exact g_zret X hr rfl d_TR_reaches_26 (Nat.le_of_ble_eq_true rfl) (Nat.le_of_ble_eq_true rfl) (⟨_, _, _, _, by rw [hfin]; rfl, by rw [hfin, addn]; rfl, fun x hx => by rw [hfin] at hx; cases hx⟩)
  exact L9 _ 0 0 0 _ _ _ (Nat.zero_le _) (by rw [Nat.zero_add]; rfl) (Nat.zero_le _) (Nat.lt_succ_self _)
