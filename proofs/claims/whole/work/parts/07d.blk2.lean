set_option maxRecDepth 100000 in
set_option maxHeartbeats 1000000 in
theorem c_BL_take {l : Launch} (hst : l.stackTraces = false) {h y s t M : Nat} {w : Int32} {S T : Nat → Int32} {B : Nat → Nat} (hn : [h, y, s, t].Nodup) (hB : ∀ q, B q < 256) (hM : M ≤ 128) {need : Nat} (hneed : need ≤ 128) : fh_C l fhCl fhT y_BL_take (.code y_BL_take b_BL_take 5 (some (.array .int))) 0 0 [.ref h, .int (nI need)] (hp [(h, .inr (0, [.ref y, .ref s, .ref t, .int w])), (y, .inl (.byte, M * 32, .inl (fun q => sb_b (B q)))), (s, .inl (.int, M, .inl S)), (t, .inl (.int, M, .inl T))]) (hp []) 1 128 (fun z9 g9 => ∃ q : Nat, z9 = .inl (some (.ref q)) ∧ g9 = hp [(h, .inr (0, [.ref y, .ref s, .ref t, .int w])), (y, .inl (.byte, M * 32, .inl (fun q => sb_b (B q)))), (s, .inl (.int, M, .inl S)), (t, .inl (.int, M, .inl (tkT T need M))), (q, .inl (.int, need, .inl (fun q => nI (((tkI T need M)) q))))] ∧ [h, y, s, t, q].Nodup) := by
  refine fh_enter (by decide) hst (Nat.le_of_ble_eq_true rfl) ?_
  intro D mp me sm mm margs mbel mmet mcod X hr hnm hno hf0
  show fh_G mp l me (fh_rm 0 0 1 128) sm mm margs mbel mmet mcod D fhCl (hp [(h, .inr (0, [.ref y, .ref s, .ref t, .int w])), (y, .inl (.byte, M * 32, .inl (fun q => sb_b (B q)))), (s, .inl (.int, M, .inl S)), (t, .inl (.int, M, .inl T))]) 5 _ 0 0 (hp [(h, .inr (0, [.ref y, .ref s, .ref t, .int w])), (y, .inl (.byte, M * 32, .inl (fun q => sb_b (B q)))), (s, .inl (.int, M, .inl S)), (t, .inl (.int, M, .inl T))]) 0 [(0, .ref h), (1, .int (nI need))] []
  refine g_iload_n X d_BL_take_0 1 rfl ?_
  refine h_newa (N9 := need) (need, .inl (fun q => nI (((fun _ => 0)) q))) X d_BL_take_1 hn rfl k_ac_int (fun cA => ini0 cA _) rfl (by omega) (Nat.le_of_ble_eq_true rfl) (Nat.le_trans (by omega : 0 + need ≤ 128) (Nat.le_of_ble_eq_true rfl)) (fun q hzq h0q => ?_)
  refine g_hp (ws' := [(h, .inr (0, [.ref y, .ref s, .ref t, .int w])), (y, .inl (.byte, M * 32, .inl (fun q => sb_b (B q)))), (s, .inl (.int, M, .inl S)), (t, .inl (.int, M, .inl T)), (q, .inl (.int, need, .inl (fun q => nI (((fun _ => 0)) q))))]) rfl ?_
  have hnq : [h, y, s, t, q].Nodup := hzq
  refine g_widen (ce' := 1) (sl' := 128) (Nat.le_refl _) (by omega) ?_
  refine g_astore_n [(2, .ref q), (0, .ref h), (1, .int (nI need))] X d_BL_take_3 (by decide) rfl ?_
  refine g_iconst (nI 0) X d_BL_take_4 (by decide) ?_
  refine g_istore_n [(3, .int (nI 0)), (2, .ref q), (0, .ref h), (1, .int (nI need))] X d_BL_take_5 (by decide) rfl ?_
  refine g_iconst (nI 0) X d_BL_take_6 (by decide) ?_
  refine g_istore [(4, .int (nI 0)), (3, .int (nI 0)), (2, .ref q), (0, .ref h), (1, .int (nI need))] X d_BL_take_7 (by decide) rfl ?_
  have L9 : ∀ (fu9 : Nat) (u : Nat), (u ≤ M) → (fcn T u ≤ need) → M - u < fu9 → fh_G mp l me (fh_rm 0 0 1 128) sm mm margs mbel mmet mcod D fhCl (hp [(h, .inr (0, [.ref y, .ref s, .ref t, .int w])), (y, .inl (.byte, M * 32, .inl (fun q => sb_b (B q)))), (s, .inl (.int, M, .inl S)), (t, .inl (.int, M, .inl T))]) 5 (fh_MQ mbel D fhCl (hp [(h, .inr (0, [.ref y, .ref s, .ref t, .int w])), (y, .inl (.byte, M * 32, .inl (fun q => sb_b (B q)))), (s, .inl (.int, M, .inl S)), (t, .inl (.int, M, .inl T))]) (fun z9 g9 => ∃ q : Nat, z9 = .inl (some (.ref q)) ∧ g9 = hp [(h, .inr (0, [.ref y, .ref s, .ref t, .int w])), (y, .inl (.byte, M * 32, .inl (fun q => sb_b (B q)))), (s, .inl (.int, M, .inl S)), (t, .inl (.int, M, .inl (tkT T need M))), (q, .inl (.int, need, .inl (fun q => nI (((tkI T need M)) q))))] ∧ [h, y, s, t, q].Nodup) margs sm 1 128) 1 128 (hp [(h, .inr (0, [.ref y, .ref s, .ref t, .int w])), (y, .inl (.byte, M * 32, .inl (fun q => sb_b (B q)))), (s, .inl (.int, M, .inl S)), (t, .inl (.int, M, .inl (tkT T need u))), (q, .inl (.int, need, .inl (fun q => nI (((tkI T need u)) q))))]) 9 [(4, .int (nI u)), (3, .int (nI (fcn T u))), (2, .ref q), (0, .ref h), (1, .int (nI need))] [] := by
    intro fu9
    induction fu9 with
    | zero => intro u q1 q2 hm9; exact absurd hm9 (Nat.not_lt_zero _)
    | succ fu9 ih9 =>
      intro u q1 q2 hm9
      refine g_iload X d_BL_take_9 0 rfl ?_
      refine g_aload_n X d_BL_take_11 3 rfl ?_
      refine g_getf (k := 2) X d_BL_take_12 (hl_w 0 rfl hnq) rfl i_BL (by decide) k_fl_BL_19 (fun _ h => h) rfl ?_
      refine g_alen X d_BL_take_15 (hl_w 3 rfl hnq) ?_
      refine g_icmp_ge 57 X d_BL_take_16 (by decide) (fun h16 => ?_) (fun h16 => ?_)
      · have h16 := cv_le (by omega) (by omega) h16
        have e9 : u = M := by omega
        have e8 : tkT T need M = tkT T need u := by rw [e9]
        have e7 : tkI T need M = tkI T need u := by rw [e9]
        refine g_aload_n X d_BL_take_57 2 rfl ?_
        exact g_aret X hr (Or.inr ⟨_, rfl⟩) (Or.inr ⟨_, rfl⟩) d_BL_take_58 (Nat.le_of_ble_eq_true rfl) (Nat.le_of_ble_eq_true rfl) (⟨q, rfl, by rw [e8, e7], hnq⟩)
      · have h16 := cv_nle (by omega) (by omega) h16
        refine g_iload_n X d_BL_take_19 1 rfl ?_
        refine g_iload_n X d_BL_take_20 4 rfl ?_
        refine g_icmp_ge 57 X d_BL_take_21 (by decide) (fun h21 => ?_) (fun h21 => ?_)
        · have h21 := cv_le (by omega) (by omega) h21
          obtain ⟨e8, e7⟩ := tk_stop T need (u := u) (by omega) (M := M) q1
          refine g_aload_n X d_BL_take_57 2 rfl ?_
          exact g_aret X hr (Or.inr ⟨_, rfl⟩) (Or.inr ⟨_, rfl⟩) d_BL_take_58 (Nat.le_of_ble_eq_true rfl) (Nat.le_of_ble_eq_true rfl) (⟨q, rfl, by rw [e8, e7], hnq⟩)
        · have h21 := cv_nle (by omega) (by omega) h21
          refine g_aload_n X d_BL_take_24 3 rfl ?_
          refine g_getf (k := 2) X d_BL_take_25 (hl_w 0 rfl hnq) rfl i_BL (by decide) k_fl_BL_19 (fun _ h => h) rfl ?_
          refine g_iload X d_BL_take_28 0 rfl ?_
          refine h_iald X d_BL_take_30 (hl_w 3 rfl hnq) (by omega) (by omega) ?_
          refine g_vi (T u) (tkT_above T need u u (Nat.le_refl _)) ?_
          refine g_iconst (-1) X d_BL_take_31 (by decide) ?_
          refine g_icmp_ne 51 X d_BL_take_32 (by decide) (fun h32 => ?_) (fun h32 => ?_)
          · have e6 : ¬ (T u = (-1) ∧ fcn T u < need) := fun z => h32 z.1
            refine g_iinc (nI (u + 1)) 0 [(4, .int (nI (u + 1))), (3, .int (nI (fcn T u))), (2, .ref q), (0, .ref h), (1, .int (nI need))] X d_BL_take_51 rfl (nI_1 _) (by decide) rfl ?_
            refine g_goto 9 X d_BL_take_54 (by decide) ?_
            refine g_lve (lv' := [(4, .int (nI (u + 1))), (3, .int (nI (fcn T (u + 1)))), (2, .ref q), (0, .ref h), (1, .int (nI need))]) (by rw [fcn, if_neg h32]) ?_
            refine g_hp (ws' := [(h, .inr (0, [.ref y, .ref s, .ref t, .int w])), (y, .inl (.byte, M * 32, .inl (fun q => sb_b (B q)))), (s, .inl (.int, M, .inl S)), (t, .inl (.int, M, .inl (tkT T need (u + 1)))), (q, .inl (.int, need, .inl (fun q => nI (((tkI T need (u + 1))) q))))]) (by rw [tkT, tkI, if_neg e6, if_neg e6]) ?_
            exact ih9 (u + 1) (by omega) (by rw [fcn]; split <;> omega) (by omega)
          · have e6 : T u = (-1) ∧ fcn T u < need := ⟨h32, h21⟩
            refine g_aload_n X d_BL_take_35 3 rfl ?_
            refine g_getf (k := 2) X d_BL_take_36 (hl_w 0 rfl hnq) rfl i_BL (by decide) k_fl_BL_19 (fun _ h => h) rfl ?_
            refine g_iload X d_BL_take_39 0 rfl ?_
            refine g_iload_n X d_BL_take_41 1 rfl ?_
            refine h_iast 3 [(h, .inr (0, [.ref y, .ref s, .ref t, .int w])), (y, .inl (.byte, M * 32, .inl (fun q => sb_b (B q)))), (s, .inl (.int, M, .inl S)), (t, .inl (.int, M, .inl (va_up (tkT T need u) u (nI (fcn T u))))), (q, .inl (.int, need, .inl (fun q => nI (((tkI T need u)) q))))] X d_BL_take_42 hnq rfl (by omega) (by omega) rfl ?_
            refine g_aload_n X d_BL_take_43 2 rfl ?_
            refine g_iload_n X d_BL_take_44 1 rfl ?_
            refine g_iload X d_BL_take_45 0 rfl ?_
            refine h_iastN 4 [(h, .inr (0, [.ref y, .ref s, .ref t, .int w])), (y, .inl (.byte, M * 32, .inl (fun q => sb_b (B q)))), (s, .inl (.int, M, .inl S)), (t, .inl (.int, M, .inl (va_up (tkT T need u) u (nI (fcn T u))))), (q, .inl (.int, need, .inl (fun q => nI ((va_up (tkI T need u) (fcn T u) u) q))))] X d_BL_take_47 hnq rfl (by omega) (by omega) rfl ?_
            refine g_iinc (nI (fcn T u + 1)) 1 [(3, .int (nI (fcn T u + 1))), (4, .int (nI u)), (2, .ref q), (0, .ref h), (1, .int (nI need))] X d_BL_take_48 rfl (nI_1 _) (by decide) rfl ?_
            refine g_iinc (nI (u + 1)) 1 [(4, .int (nI (u + 1))), (3, .int (nI (fcn T u + 1))), (2, .ref q), (0, .ref h), (1, .int (nI need))] X d_BL_take_51 rfl (nI_1 _) (by decide) rfl ?_
            refine g_goto 9 X d_BL_take_54 (by decide) ?_
            refine g_lve (lv' := [(4, .int (nI (u + 1))), (3, .int (nI (fcn T (u + 1)))), (2, .ref q), (0, .ref h), (1, .int (nI need))]) (by rw [fcn, if_pos e6.1]) ?_
            refine g_hp (ws' := [(h, .inr (0, [.ref y, .ref s, .ref t, .int w])), (y, .inl (.byte, M * 32, .inl (fun q => sb_b (B q)))), (s, .inl (.int, M, .inl S)), (t, .inl (.int, M, .inl (tkT T need (u + 1)))), (q, .inl (.int, need, .inl (fun q => nI (((tkI T need (u + 1))) q))))]) (by rw [tkT, tkI, if_pos e6, if_pos e6]) ?_
            exact ih9 (u + 1) (by omega) (by rw [fcn]; split <;> omega) (by omega)
  exact L9 _ 0 (Nat.zero_le _) (Nat.zero_le _) (Nat.lt_succ_self _)

set_option maxRecDepth 100000 in
set_option maxHeartbeats 1000000 in
theorem c_BL_fill {l : Launch} (hst : l.stackTraces = false) {h y s t M : Nat} {w : Int32} {S T : Nat → Int32} {B : Nat → Nat} (hn : [h, y, s, t].Nodup) (hB : ∀ q, B q < 256) (hM : M ≤ 128) {q ia lev ent m : Nat} {F : Int64} {ids : Nat → Nat} {h2 a2 b2 d2 N n : Nat} {K V : Nat → Int64} {z : Nat → Nat} (hr9 : [h2, a2, b2, d2, q, ia].Nodup) (hm : m ≤ 128) (hid : ∀ k, k < m → ids k < M) (hz : ∀ i, i < n → okn (z i)) (hN : N < 2 ^ 20) (hnN : n ≤ N) (hby : bySum z n ≤ m * 32) : fh_C l fhCl fhT y_BL_fill (.code y_BL_fill b_BL_fill 9 none) 2 45 [.ref h, .ref q, .ref h2] (hp [(h, .inr (0, [.ref y, .ref s, .ref t, .int w])), (y, .inl (.byte, M * 32, .inl (fun q => sb_b (B q)))), (s, .inl (.int, M, .inl S)), (t, .inl (.int, M, .inl T))]) (hp [(h2, .inr (2, [.ref a2, .ref b2, .ref d2, .int (nI n)])), (a2, .inl (.long, N, .inr (.inl K))), (b2, .inl (.int, N, .inl (fun q => nI (z q)))), (d2, .inl (.long, N, .inr (.inl V))), (q, .inr (3, [.int (nI lev), .int (nI ent), .long F, .ref ia])), (ia, .inl (.int, m, .inl (fun q => nI (ids q))))]) 0 0 (fh_ret none [(h, .inr (0, [.ref y, .ref s, .ref t, .int w])), (y, .inl (.byte, M * 32, .inl (fun q => sb_b (((wrt B ids (ser K z V n) (m * 32))) q)))), (s, .inl (.int, M, .inl S)), (t, .inl (.int, M, .inl T))]) := by
  refine fh_enter (by decide) hst (Nat.le_of_ble_eq_true rfl) ?_
  intro D mp me sm mm margs mbel mmet mcod X hr hnm hno hf0
  show fh_G mp l me (fh_rm 2 45 0 0) sm mm margs mbel mmet mcod D fhCl (hp [(h, .inr (0, [.ref y, .ref s, .ref t, .int w])), (y, .inl (.byte, M * 32, .inl (fun q => sb_b (B q)))), (s, .inl (.int, M, .inl S)), (t, .inl (.int, M, .inl T))]) 9 _ 0 0 (hp [(h, .inr (0, [.ref y, .ref s, .ref t, .int w])), (y, .inl (.byte, M * 32, .inl (fun q => sb_b (B q)))), (s, .inl (.int, M, .inl S)), (t, .inl (.int, M, .inl T))]) 0 [(0, .ref h), (1, .ref q), (2, .ref h2)] []
  refine g_iconst (nI 0) X d_BL_fill_0 (by decide) ?_
  refine g_istore_n [(3, .int (nI 0)), (0, .ref h), (1, .ref q), (2, .ref h2)] X d_BL_fill_1 (by decide) rfl ?_
  refine g_iconst (nI 0) X d_BL_fill_2 (by decide) ?_
  refine g_istore [(4, .int (nI 0)), (3, .int (nI 0)), (0, .ref h), (1, .ref q), (2, .ref h2)] X d_BL_fill_3 (by decide) rfl ?_
  have L5 : ∀ (fu5 : Nat) (r : Nat), (r ≤ n) → n - r < fu5 → fh_G mp l me (fh_rm 2 45 0 0) sm mm margs mbel mmet mcod D fhCl (hp [(h, .inr (0, [.ref y, .ref s, .ref t, .int w])), (y, .inl (.byte, M * 32, .inl (fun q => sb_b (B q)))), (s, .inl (.int, M, .inl S)), (t, .inl (.int, M, .inl T))]) 9 (fh_MQ mbel D fhCl (hp [(h, .inr (0, [.ref y, .ref s, .ref t, .int w])), (y, .inl (.byte, M * 32, .inl (fun q => sb_b (B q)))), (s, .inl (.int, M, .inl S)), (t, .inl (.int, M, .inl T))]) (fh_ret none [(h, .inr (0, [.ref y, .ref s, .ref t, .int w])), (y, .inl (.byte, M * 32, .inl (fun q => sb_b (((wrt B ids (ser K z V n) (m * 32))) q)))), (s, .inl (.int, M, .inl S)), (t, .inl (.int, M, .inl T))]) margs sm 0 0) 0 0 (hp [(h, .inr (0, [.ref y, .ref s, .ref t, .int w])), (y, .inl (.byte, M * 32, .inl (fun q => sb_b (((wrt B ids (ser K z V n) (bySum z r))) q)))), (s, .inl (.int, M, .inl S)), (t, .inl (.int, M, .inl T))]) 5 [(4, .int (nI r)), (3, .int (nI (bySum z r))), (0, .ref h), (1, .ref q), (2, .ref h2)] [] := by
    intro fu5
    induction fu5 with
    | zero => intro r q0 hm5; exact absurd hm5 (Nat.not_lt_zero _)
    | succ fu5 ih5 =>
      intro r q0 hm5
      refine g_iload X d_BL_fill_5 0 rfl ?_
      refine g_aload_n X d_BL_fill_7 4 rfl ?_
      refine g_getN (k := 3) X d_BL_fill_8 (hl_r 0 rfl hr9) rfl i_RW (by decide) k_fl_BL_36 (fun _ h => h) rfl ?_
      refine g_icmp_ge 96 X d_BL_fill_11 (by decide) (fun h11 => ?_) (fun h11 => ?_)
      · have h11 := cv_le (by omega) (by omega) h11
        have e9 : r = n := by omega
        refine g_lve (lv' := [(4, .int (nI r)), (3, .int (nI (bySum z n))), (0, .ref h), (1, .ref q), (2, .ref h2)]) (by rw [e9]) ?_
        refine g_hp (ws' := [(h, .inr (0, [.ref y, .ref s, .ref t, .int w])), (y, .inl (.byte, M * 32, .inl (fun q => sb_b (((wrt B ids (ser K z V n) (bySum z n))) q)))), (s, .inl (.int, M, .inl S)), (t, .inl (.int, M, .inl T))]) (by rw [e9]) ?_
        refine g_aload_n X d_BL_fill_96 3 rfl ?_
        refine g_getN (k := 3) X d_BL_fill_97 (hl_r 4 rfl hr9) rfl i_TB (by decide) k_fl_BL_55 (fun _ h => h) rfl ?_
        refine g_alen X d_BL_fill_100 (hl_r 5 rfl hr9) ?_
        refine g_bipush (nI 32) X d_BL_fill_101 (by decide) ?_
        refine g_imul X d_BL_fill_103 ?_
        refine g_vi (nI (m * 32)) (pk_mul _ _) ?_
        refine g_istore [(4, .int (nI (m * 32))), (3, .int (nI (bySum z n))), (0, .ref h), (1, .ref q), (2, .ref h2)] X d_BL_fill_104 (by decide) rfl ?_
        refine g_iload_n X d_BL_fill_106 1 rfl ?_
        refine g_istore [(5, .int (nI (bySum z n))), (4, .int (nI (m * 32))), (3, .int (nI (bySum z n))), (0, .ref h), (1, .ref q), (2, .ref h2)] X d_BL_fill_107 (by decide) rfl ?_
        have L109 : ∀ (fu109 : Nat) (v : Nat), (bySum z n ≤ v) → (v ≤ m * 32) → m * 32 - v < fu109 → fh_G mp l me (fh_rm 2 45 0 0) sm mm margs mbel mmet mcod D fhCl (hp [(h, .inr (0, [.ref y, .ref s, .ref t, .int w])), (y, .inl (.byte, M * 32, .inl (fun q => sb_b (B q)))), (s, .inl (.int, M, .inl S)), (t, .inl (.int, M, .inl T))]) 9 (fh_MQ mbel D fhCl (hp [(h, .inr (0, [.ref y, .ref s, .ref t, .int w])), (y, .inl (.byte, M * 32, .inl (fun q => sb_b (B q)))), (s, .inl (.int, M, .inl S)), (t, .inl (.int, M, .inl T))]) (fh_ret none [(h, .inr (0, [.ref y, .ref s, .ref t, .int w])), (y, .inl (.byte, M * 32, .inl (fun q => sb_b (((wrt B ids (ser K z V n) (m * 32))) q)))), (s, .inl (.int, M, .inl S)), (t, .inl (.int, M, .inl T))]) margs sm 0 0) 0 0 (hp [(h, .inr (0, [.ref y, .ref s, .ref t, .int w])), (y, .inl (.byte, M * 32, .inl (fun q => sb_b (((wrt B ids (ser K z V n) (v))) q)))), (s, .inl (.int, M, .inl S)), (t, .inl (.int, M, .inl T))]) 109 [(5, .int (nI v)), (4, .int (nI (m * 32))), (0, .ref h), (1, .ref q), (2, .ref h2)] [] := by
          intro fu109
          induction fu109 with
          | zero => intro v q4 q5 hm109; exact absurd hm109 (Nat.not_lt_zero _)
          | succ fu109 ih109 =>
            intro v q4 q5 hm109
            refine g_iload X d_BL_fill_109 0 rfl ?_
            refine g_iload X d_BL_fill_111 1 rfl ?_
            refine g_icmp_ge 141 X d_BL_fill_113 (by decide) (fun h113 => ?_) (fun h113 => ?_)
            · have h113 := cv_le (by omega) (by omega) h113
              have e8 : v = m * 32 := by omega
              exact g_vret X hr d_BL_fill_141 (Nat.le_of_ble_eq_true rfl) (Nat.le_of_ble_eq_true rfl) (⟨rfl, by rw [e8]⟩)
            · have h113 := cv_nle (by omega) (by omega) h113
              have hd6 : v / 32 < m := by omega
              have hsr := ser_end (K := K) (V := V) q4
              refine g_aload_n X d_BL_fill_116 2 rfl ?_
              refine g_aload_n X d_BL_fill_117 3 rfl ?_
              refine g_iload X d_BL_fill_118 0 rfl ?_
              refine g_bipush (nI 32) X d_BL_fill_120 (by decide) ?_
              refine g_idiv X d_BL_fill_122 (by decide) ?_
              refine g_vi (nI (v / 32)) (pk_div (by omega) (by omega) (by omega)) ?_
              refine h_callVr (As := [.int (nI (v / 32))]) (st := [.ref h]) [] [(h, .inr (0, [.ref y, .ref s, .ref t, .int w])), (y, .inl (.byte, M * 32, .inl (fun q => sb_b (((wrt B ids (ser K z V n) (v))) q)))), (s, .inl (.int, M, .inl S)), (t, .inl (.int, M, .inl T))] X d_BL_fill_123 (c_TB_idAt_in hst (List.Nodup.sublist (by repeat first | exact List.nil_sublist _ | apply List.Sublist.cons₂ | apply List.Sublist.cons) hr9) hm hd6) (hl_r 4 rfl hr9) rfl rfl k_ml_BL_79 k_cd_TB_idAt k_in_TB k_im_TB_idAt k_se_TB_idAt ⟨by decide +kernel, by decide +kernel, (by decide +kernel : (parseMethodDescriptor y_TB_idAt.desc).map (fun d => d.parameters.length) = some 1)⟩ ⟨Nat.le_of_ble_eq_true rfl, Nat.le_of_ble_eq_true rfl⟩ ⟨Nat.le_of_ble_eq_true rfl, Nat.le_of_ble_eq_true rfl⟩ (Nat.le_of_ble_eq_true rfl) hn rfl rfl rfl (hp_subr hr9 [4, 5] rfl) ?_
              refine g_iload X d_BL_fill_126 0 rfl ?_
              refine g_bipush (nI 32) X d_BL_fill_128 (by decide) ?_
              refine g_irem X d_BL_fill_130 (by decide) ?_
              refine g_vi (nI (v % 32)) (pk_rem (by omega) (by omega) (by omega)) ?_
              refine g_iconst (nI 0) X d_BL_fill_131 (by decide) ?_
              refine h_callV (As := [.int (nI (ids (v / 32))), .int (nI (v % 32)), .int (nI 0)]) (st := []) [0, 1, 2, 3] [(h, .inr (0, [.ref y, .ref s, .ref t, .int w])), (y, .inl (.byte, M * 32, .inl (fun q => sb_b (((va_up (wrt B ids (ser K z V n) (v)) (ids ((v) / 32) * 32 + (v) % 32) (0 % 256))) q)))), (s, .inl (.int, M, .inl S)), (t, .inl (.int, M, .inl T))] X d_BL_fill_132 (c_BL_writeByte hst hn (wrt_lt hB _) hM (hid _ hd6) (Nat.mod_lt _ (by omega))) (hl_w 0 rfl hn) rfl rfl k_ml_BL_82 k_cd_BL_writeByte k_in_BL k_im_BL_writeByte k_se_BL_writeByte ⟨by decide +kernel, by decide +kernel, (by decide +kernel : (parseMethodDescriptor y_BL_writeByte.desc).map (fun d => d.parameters.length) = some 3)⟩ ⟨Nat.le_of_ble_eq_true rfl, Nat.le_of_ble_eq_true rfl⟩ ⟨Nat.le_of_ble_eq_true rfl, Nat.le_of_ble_eq_true rfl⟩ (Nat.le_of_ble_eq_true rfl) hn rfl rfl rfl hp_no hp_no2 ?_
              refine g_iinc (nI (v + 1)) 0 [(5, .int (nI (v + 1))), (4, .int (nI (m * 32))), (0, .ref h), (1, .ref q), (2, .ref h2)] X d_BL_fill_135 rfl (nI_1 _) (by decide) rfl ?_
              refine g_goto 109 X d_BL_fill_138 (by decide) ?_
              refine g_hp (ws' := [(h, .inr (0, [.ref y, .ref s, .ref t, .int w])), (y, .inl (.byte, M * 32, .inl (fun q => sb_b (((wrt B ids (ser K z V n) (v + 1))) q)))), (s, .inl (.int, M, .inl S)), (t, .inl (.int, M, .inl T))]) (by rw [← hsr]; rfl) ?_
              exact ih109 (v + 1) (by omega) (by omega) (by omega)
        refine g_lv [0, 1, 3, 4, 5] [(5, .int (nI (bySum z n))), (4, .int (nI (m * 32))), (0, .ref h), (1, .ref q), (2, .ref h2)] rfl ?_
        exact L109 _ (bySum z n) (Nat.le_refl _) hby (Nat.lt_succ_self _)
      · have h11 := cv_nle (by omega) (by omega) h11
        have q1 : r < n := h11
        have hoz := ebn_le (hz r q1)
        have hbs : bySum z (r + 1) ≤ bySum z n := bySum_mono z q1
        have hbs1 : bySum z (r + 1) = bySum z r + ebn (z r) := rfl
        have hz9 := okn_lt (hz r q1)
        refine g_aload_n X d_BL_fill_14 4 rfl ?_
        refine g_getN (k := 1) X d_BL_fill_15 (hl_r 0 rfl hr9) rfl i_RW (by decide) k_fl_BL_62 (fun _ h => h) rfl ?_
        refine g_iload X d_BL_fill_18 0 rfl ?_
        refine h_iald X d_BL_fill_20 (hl_r 2 rfl hr9) (by omega) (by omega) ?_
        refine g_istore [(5, .int (nI (z r))), (4, .int (nI r)), (3, .int (nI (bySum z r))), (0, .ref h), (1, .ref q), (2, .ref h2)] X d_BL_fill_21 (by decide) rfl ?_
        refine g_iload X d_BL_fill_23 0 rfl ?_
        refine h_callSN (As := [.int (nI (z r))]) (st := []) [] [(h, .inr (0, [.ref y, .ref s, .ref t, .int w])), (y, .inl (.byte, M * 32, .inl (fun q => sb_b (((wrt B ids (ser K z V n) (bySum z r))) q)))), (s, .inl (.int, M, .inl S)), (t, .inl (.int, M, .inl T))] X d_BL_fill_25 (c_RS_entryBytes hst (okn_lt (hz r q1))) rfl k_ml_BL_65 k_cd_RS_entryBytes k_in_RS k_st_RS_entryBytes ⟨by decide +kernel, by decide +kernel, (by decide +kernel : (parseMethodDescriptor y_RS_entryBytes.desc).map (fun d => d.parameters.length) = some 1)⟩ ⟨Nat.le_of_ble_eq_true rfl, Nat.le_of_ble_eq_true rfl⟩ ⟨Nat.le_of_ble_eq_true rfl, Nat.le_of_ble_eq_true rfl⟩ (Nat.le_of_ble_eq_true rfl) hn rfl rfl rfl hp_no hp_no2 ?_
        refine g_istore [(6, .int (nI (ebn (z r)))), (5, .int (nI (z r))), (4, .int (nI r)), (3, .int (nI (bySum z r))), (0, .ref h), (1, .ref q), (2, .ref h2)] X d_BL_fill_28 (by decide) rfl ?_
        refine g_iconst (nI 0) X d_BL_fill_30 (by decide) ?_
        refine g_istore [(7, .int (nI 0)), (6, .int (nI (ebn (z r)))), (5, .int (nI (z r))), (4, .int (nI r)), (3, .int (nI (bySum z r))), (0, .ref h), (1, .ref q), (2, .ref h2)] X d_BL_fill_31 (by decide) rfl ?_
        have L33 : ∀ (fu33 : Nat) (i : Nat), (i ≤ ebn (z r)) → ebn (z r) - i < fu33 → fh_G mp l me (fh_rm 2 45 0 0) sm mm margs mbel mmet mcod D fhCl (hp [(h, .inr (0, [.ref y, .ref s, .ref t, .int w])), (y, .inl (.byte, M * 32, .inl (fun q => sb_b (B q)))), (s, .inl (.int, M, .inl S)), (t, .inl (.int, M, .inl T))]) 9 (fh_MQ mbel D fhCl (hp [(h, .inr (0, [.ref y, .ref s, .ref t, .int w])), (y, .inl (.byte, M * 32, .inl (fun q => sb_b (B q)))), (s, .inl (.int, M, .inl S)), (t, .inl (.int, M, .inl T))]) (fh_ret none [(h, .inr (0, [.ref y, .ref s, .ref t, .int w])), (y, .inl (.byte, M * 32, .inl (fun q => sb_b (((wrt B ids (ser K z V n) (m * 32))) q)))), (s, .inl (.int, M, .inl S)), (t, .inl (.int, M, .inl T))]) margs sm 0 0) 0 0 (hp [(h, .inr (0, [.ref y, .ref s, .ref t, .int w])), (y, .inl (.byte, M * 32, .inl (fun q => sb_b (((wrt B ids (ser K z V n) (bySum z r + i))) q)))), (s, .inl (.int, M, .inl S)), (t, .inl (.int, M, .inl T))]) 33 [(7, .int (nI i)), (6, .int (nI (ebn (z r)))), (5, .int (nI (z r))), (4, .int (nI r)), (3, .int (nI (bySum z r + i))), (0, .ref h), (1, .ref q), (2, .ref h2)] [] := by
          intro fu33
          induction fu33 with
          | zero => intro i q3 hm33; exact absurd hm33 (Nat.not_lt_zero _)
          | succ fu33 ih33 =>
            intro i q3 hm33
            refine g_iload X d_BL_fill_33 0 rfl ?_
            refine g_iload X d_BL_fill_35 1 rfl ?_
            refine g_icmp_ge 90 X d_BL_fill_37 (by decide) (fun h37 => ?_) (fun h37 => ?_)
            · have h37 := cv_le (by omega) (by omega) h37
              have e8 : i = ebn (z r) := by omega
              refine g_lve (lv' := [(7, .int (nI i)), (6, .int (nI (ebn (z r)))), (5, .int (nI (z r))), (4, .int (nI r)), (3, .int (nI (bySum z (r + 1)))), (0, .ref h), (1, .ref q), (2, .ref h2)]) (by rw [e8]; rfl) ?_
              refine g_hp (ws' := [(h, .inr (0, [.ref y, .ref s, .ref t, .int w])), (y, .inl (.byte, M * 32, .inl (fun q => sb_b (((wrt B ids (ser K z V n) (bySum z (r + 1)))) q)))), (s, .inl (.int, M, .inl S)), (t, .inl (.int, M, .inl T))]) (by rw [e8]; rfl) ?_
              refine g_iinc (nI (r + 1)) 3 [(4, .int (nI (r + 1))), (7, .int (nI i)), (6, .int (nI (ebn (z r)))), (5, .int (nI (z r))), (3, .int (nI (bySum z (r + 1)))), (0, .ref h), (1, .ref q), (2, .ref h2)] X d_BL_fill_90 rfl (nI_1 _) (by decide) rfl ?_
              refine g_goto 5 X d_BL_fill_93 (by decide) ?_
              refine g_lv [0, 4, 5, 6, 7] [(4, .int (nI (r + 1))), (3, .int (nI (bySum z (r + 1)))), (0, .ref h), (1, .ref q), (2, .ref h2)] rfl ?_
              exact ih5 (r + 1) (by omega) (by omega)
            · have h37 := cv_nle (by omega) (by omega) h37
              have hd5 : (bySum z r + i) / 32 < m := by omega
              have hsr := ser_at (K := K) (V := V) h37 q1
              refine g_aload_n X d_BL_fill_40 7 rfl ?_
              refine g_getN (k := 0) X d_BL_fill_41 (hl_r 0 rfl hr9) rfl i_RW (by decide) k_fl_BL_68 (fun _ h => h) rfl ?_
              refine g_iload X d_BL_fill_44 3 rfl ?_
              refine h_lald X d_BL_fill_46 (hl_r 1 rfl hr9) (by omega) (by omega) ?_
              refine g_iload X d_BL_fill_47 2 rfl ?_
              refine g_aload_n X d_BL_fill_49 7 rfl ?_
              refine g_getN (k := 2) X d_BL_fill_50 (hl_r 0 rfl hr9) rfl i_RW (by decide) k_fl_BL_72 (fun _ h => h) rfl ?_
              refine g_iload X d_BL_fill_53 3 rfl ?_
              refine h_lald X d_BL_fill_55 (hl_r 3 rfl hr9) (by omega) (by omega) ?_
              refine g_iload X d_BL_fill_56 0 rfl ?_
              refine h_callSN (As := [.long (K r), .int (nI (z r)), .long (V r), .int (nI i)]) (st := []) [] [(h, .inr (0, [.ref y, .ref s, .ref t, .int w])), (y, .inl (.byte, M * 32, .inl (fun q => sb_b (((wrt B ids (ser K z V n) (bySum z r + i))) q)))), (s, .inl (.int, M, .inl S)), (t, .inl (.int, M, .inl T))] X d_BL_fill_58 (c_RS_entryByte hst (hz r q1) h37) rfl k_ml_BL_75 k_cd_RS_entryByte k_in_RS k_st_RS_entryByte ⟨by decide +kernel, by decide +kernel, (by decide +kernel : (parseMethodDescriptor y_RS_entryByte.desc).map (fun d => d.parameters.length) = some 4)⟩ ⟨Nat.le_of_ble_eq_true rfl, Nat.le_of_ble_eq_true rfl⟩ ⟨Nat.le_of_ble_eq_true rfl, Nat.le_of_ble_eq_true rfl⟩ (Nat.le_of_ble_eq_true rfl) hn rfl rfl rfl hp_no hp_no2 ?_
              refine g_istore [(8, .int (nI (ebt (K r) (z r) (V r) i))), (7, .int (nI i)), (6, .int (nI (ebn (z r)))), (5, .int (nI (z r))), (4, .int (nI r)), (3, .int (nI (bySum z r + i))), (0, .ref h), (1, .ref q), (2, .ref h2)] X d_BL_fill_61 (by decide) rfl ?_
              refine g_aload_n X d_BL_fill_63 6 rfl ?_
              refine g_aload_n X d_BL_fill_64 7 rfl ?_
              refine g_iload_n X d_BL_fill_65 5 rfl ?_
              refine g_bipush (nI 32) X d_BL_fill_66 (by decide) ?_
              refine g_idiv X d_BL_fill_68 (by decide) ?_
              refine g_vi (nI ((bySum z r + i) / 32)) (pk_div (by omega) (by omega) (by omega)) ?_
              refine h_callVr (As := [.int (nI ((bySum z r + i) / 32))]) (st := [.ref h]) [] [(h, .inr (0, [.ref y, .ref s, .ref t, .int w])), (y, .inl (.byte, M * 32, .inl (fun q => sb_b (((wrt B ids (ser K z V n) (bySum z r + i))) q)))), (s, .inl (.int, M, .inl S)), (t, .inl (.int, M, .inl T))] X d_BL_fill_69 (c_TB_idAt_in hst (List.Nodup.sublist (by repeat first | exact List.nil_sublist _ | apply List.Sublist.cons₂ | apply List.Sublist.cons) hr9) hm hd5) (hl_r 4 rfl hr9) rfl rfl k_ml_BL_79 k_cd_TB_idAt k_in_TB k_im_TB_idAt k_se_TB_idAt ⟨by decide +kernel, by decide +kernel, (by decide +kernel : (parseMethodDescriptor y_TB_idAt.desc).map (fun d => d.parameters.length) = some 1)⟩ ⟨Nat.le_of_ble_eq_true rfl, Nat.le_of_ble_eq_true rfl⟩ ⟨Nat.le_of_ble_eq_true rfl, Nat.le_of_ble_eq_true rfl⟩ (Nat.le_of_ble_eq_true rfl) hn rfl rfl rfl (hp_subr hr9 [4, 5] rfl) ?_
              refine g_iload_n X d_BL_fill_72 5 rfl ?_
              refine g_bipush (nI 32) X d_BL_fill_73 (by decide) ?_
              refine g_irem X d_BL_fill_75 (by decide) ?_
              refine g_vi (nI ((bySum z r + i) % 32)) (pk_rem (by omega) (by omega) (by omega)) ?_
              refine g_iload X d_BL_fill_76 0 rfl ?_
              refine h_callV (As := [.int (nI (ids ((bySum z r + i) / 32))), .int (nI ((bySum z r + i) % 32)), .int (nI (ebt (K r) (z r) (V r) i))]) (st := []) [0, 1, 2, 3] [(h, .inr (0, [.ref y, .ref s, .ref t, .int w])), (y, .inl (.byte, M * 32, .inl (fun q => sb_b (((va_up (wrt B ids (ser K z V n) (bySum z r + i)) (ids ((bySum z r + i) / 32) * 32 + (bySum z r + i) % 32) (ebt (K r) (z r) (V r) i % 256))) q)))), (s, .inl (.int, M, .inl S)), (t, .inl (.int, M, .inl T))] X d_BL_fill_78 (c_BL_writeByte hst hn (wrt_lt hB _) hM (hid _ hd5) (Nat.mod_lt _ (by omega))) (hl_w 0 rfl hn) rfl rfl k_ml_BL_82 k_cd_BL_writeByte k_in_BL k_im_BL_writeByte k_se_BL_writeByte ⟨by decide +kernel, by decide +kernel, (by decide +kernel : (parseMethodDescriptor y_BL_writeByte.desc).map (fun d => d.parameters.length) = some 3)⟩ ⟨Nat.le_of_ble_eq_true rfl, Nat.le_of_ble_eq_true rfl⟩ ⟨Nat.le_of_ble_eq_true rfl, Nat.le_of_ble_eq_true rfl⟩ (Nat.le_of_ble_eq_true rfl) hn rfl rfl rfl hp_no hp_no2 ?_
              refine g_iinc (nI (bySum z r + i + 1)) 5 [(3, .int (nI (bySum z r + i + 1))), (8, .int (nI (ebt (K r) (z r) (V r) i))), (7, .int (nI i)), (6, .int (nI (ebn (z r)))), (5, .int (nI (z r))), (4, .int (nI r)), (0, .ref h), (1, .ref q), (2, .ref h2)] X d_BL_fill_81 rfl (nI_1 _) (by decide) rfl ?_
              refine g_iinc (nI (i + 1)) 2 [(7, .int (nI (i + 1))), (3, .int (nI (bySum z r + i + 1))), (8, .int (nI (ebt (K r) (z r) (V r) i))), (6, .int (nI (ebn (z r)))), (5, .int (nI (z r))), (4, .int (nI r)), (0, .ref h), (1, .ref q), (2, .ref h2)] X d_BL_fill_84 rfl (nI_1 _) (by decide) rfl ?_
              refine g_goto 33 X d_BL_fill_87 (by decide) ?_
              refine g_lve (lv' := [(7, .int (nI (i + 1))), (3, .int (nI (bySum z r + (i + 1)))), (8, .int (nI (ebt (K r) (z r) (V r) i))), (6, .int (nI (ebn (z r)))), (5, .int (nI (z r))), (4, .int (nI r)), (0, .ref h), (1, .ref q), (2, .ref h2)]) rfl ?_
              refine g_hp (ws' := [(h, .inr (0, [.ref y, .ref s, .ref t, .int w])), (y, .inl (.byte, M * 32, .inl (fun q => sb_b (((wrt B ids (ser K z V n) (bySum z r + (i + 1)))) q)))), (s, .inl (.int, M, .inl S)), (t, .inl (.int, M, .inl T))]) (by rw [← hsr]; rfl) ?_
              refine g_lv [0, 3, 4, 5, 1, 6, 7, 8] [(7, .int (nI (i + 1))), (6, .int (nI (ebn (z r)))), (5, .int (nI (z r))), (4, .int (nI r)), (3, .int (nI (bySum z r + (i + 1)))), (0, .ref h), (1, .ref q), (2, .ref h2)] rfl ?_
              exact ih33 (i + 1) (by omega) (by omega)
        exact L33 _ 0 (Nat.zero_le _) (Nat.lt_succ_self _)
  exact L5 _ 0 (Nat.zero_le _) (Nat.lt_succ_self _)

set_option maxRecDepth 100000 in
set_option maxHeartbeats 1000000 in
theorem c_TB_init {l : Launch} (hst : l.stackTraces = false) {q ia lev ent : Nat} {F : Int64} : fh_C l fhCl fhT y_TB_init (.code y_TB_init b_TB_init 6 none) 1 12 [.ref q, .int (nI lev), .int (nI ent), .long F, .ref ia] (hp [(q, .inr (3, [.int 0, .int 0, .long 0, .null]))]) (hp []) 0 0 (fh_ret none [(q, .inr (3, [.int (nI lev), .int (nI ent), .long F, .ref ia]))]) := by
  refine fh_enter (by decide) hst (Nat.le_of_ble_eq_true rfl) ?_
  intro D mp me sm mm margs mbel mmet mcod X hr hnm hno hf0
  show fh_G mp l me (fh_rm 1 12 0 0) sm mm margs mbel mmet mcod D fhCl (hp [(q, .inr (3, [.int 0, .int 0, .long 0, .null]))]) 6 _ 0 0 (hp [(q, .inr (3, [.int 0, .int 0, .long 0, .null]))]) 0 [(0, .ref q), (1, .int (nI lev)), (2, .int (nI ent)), (3, .long F), (5, .ref ia)] []
  refine g_aload_n X d_TB_init_0 0 rfl ?_
  refine g_objInit X d_TB_init_1 k_ml_TB_3 k_im_OB_init k_cd_OB_init (Nat.le_of_ble_eq_true rfl) (Nat.le_of_ble_eq_true rfl) ?_
  refine g_aload_n X d_TB_init_4 0 rfl ?_
  refine g_iload_n X d_TB_init_5 1 rfl ?_
  refine h_putF (k := 0) (ty := .int) 0 [(q, .inr (3, [.int (nI lev), .int 0, .long 0, .null]))] X d_TB_init_6 (nd1 _) rfl rfl i_TB t_TB t_TB_ok n_TB (by decide) k_fl_TB_9 (fun _ h => h) rfl hnm rfl (by decide +kernel) rfl rfl (Nat.le_of_ble_eq_true rfl) rfl ?_
  refine g_aload_n X d_TB_init_9 0 rfl ?_
  refine g_iload_n X d_TB_init_10 2 rfl ?_
  refine h_putF (k := 1) (ty := .int) 0 [(q, .inr (3, [.int (nI lev), .int (nI ent), .long 0, .null]))] X d_TB_init_11 (nd1 _) rfl rfl i_TB t_TB t_TB_ok n_TB (by decide) k_fl_TB_15 (fun _ h => h) rfl hnm rfl (by decide +kernel) rfl rfl (Nat.le_of_ble_eq_true rfl) rfl ?_
  refine g_aload_n X d_TB_init_14 0 rfl ?_
  refine g_lload_n X d_TB_init_15 3 rfl ?_
  refine h_putF (k := 2) (ty := .long) 0 [(q, .inr (3, [.int (nI lev), .int (nI ent), .long F, .null]))] X d_TB_init_16 (nd1 _) rfl rfl i_TB t_TB t_TB_ok n_TB (by decide) k_fl_TB_18 (fun _ h => h) rfl hnm rfl (by decide +kernel) rfl rfl (Nat.le_of_ble_eq_true rfl) rfl ?_
  refine g_aload_n X d_TB_init_19 0 rfl ?_
  refine g_aload X d_TB_init_20 4 rfl ?_
  refine h_putF (k := 3) (ty := .array .int) 0 [(q, .inr (3, [.int (nI lev), .int (nI ent), .long F, .ref ia]))] X d_TB_init_22 (nd1 _) rfl rfl i_TB t_TB t_TB_ok n_TB (by decide) k_fl_TB_22 (fun _ h => h) rfl hnm rfl (by decide +kernel) rfl rfl (Nat.le_of_ble_eq_true rfl) rfl ?_
  exact g_vret X hr d_TB_init_25 (Nat.le_of_ble_eq_true rfl) (Nat.le_of_ble_eq_true rfl) (fh_ret_i)

set_option maxRecDepth 100000 in
set_option maxHeartbeats 1000000 in
theorem c_BL_writeTable_no {l : Launch} (hst : l.stackTraces = false) {h y s t M : Nat} {w : Int32} {S T : Nat → Int32} {B : Nat → Nat} {h2 a2 b2 d2 N n : Nat} {K V : Nat → Int64} {z : Nat → Nat} {lev : Nat} (hn : [h, y, s, t, h2, a2, b2, d2].Nodup) (hB : ∀ q, B q < 256) (hM : M ≤ 128) (hz : ∀ i, i < n → okn (z i)) (hN : N < 2 ^ 20) (hnN : n ≤ N) (hb20 : bySum z n < 2 ^ 20) (hno9 : (bySum z n + 32 - 1) / 32 < 1 ∨ fcn T M < (bySum z n + 32 - 1) / 32) : fh_C l fhCl fhT y_BL_writeTable (.code y_BL_writeTable b_BL_writeTable 7 (some (.object "RunStore$Table"))) 3 73 [.ref h, .int (nI lev), .ref h2] (hp [(h, .inr (0, [.ref y, .ref s, .ref t, .int w])), (y, .inl (.byte, M * 32, .inl (fun q => sb_b (B q)))), (s, .inl (.int, M, .inl S)), (t, .inl (.int, M, .inl T)), (h2, .inr (2, [.ref a2, .ref b2, .ref d2, .int (nI n)])), (a2, .inl (.long, N, .inr (.inl K))), (b2, .inl (.int, N, .inl (fun q => nI (z q)))), (d2, .inl (.long, N, .inr (.inl V)))]) (hp []) 2 132 (fh_ret (some .null) [(h, .inr (0, [.ref y, .ref s, .ref t, .int w])), (y, .inl (.byte, M * 32, .inl (fun q => sb_b (B q)))), (s, .inl (.int, M, .inl S)), (t, .inl (.int, M, .inl T)), (h2, .inr (2, [.ref a2, .ref b2, .ref d2, .int (nI n)])), (a2, .inl (.long, N, .inr (.inl K))), (b2, .inl (.int, N, .inl (fun q => nI (z q)))), (d2, .inl (.long, N, .inr (.inl V)))]) := by
  refine fh_enter (by decide) hst (Nat.le_of_ble_eq_true rfl) ?_
  intro D mp me sm mm margs mbel mmet mcod X hr hnm hno hf0
  show fh_G mp l me (fh_rm 3 73 2 132) sm mm margs mbel mmet mcod D fhCl (hp [(h, .inr (0, [.ref y, .ref s, .ref t, .int w])), (y, .inl (.byte, M * 32, .inl (fun q => sb_b (B q)))), (s, .inl (.int, M, .inl S)), (t, .inl (.int, M, .inl T)), (h2, .inr (2, [.ref a2, .ref b2, .ref d2, .int (nI n)])), (a2, .inl (.long, N, .inr (.inl K))), (b2, .inl (.int, N, .inl (fun q => nI (z q)))), (d2, .inl (.long, N, .inr (.inl V)))]) 7 _ 0 0 (hp [(h, .inr (0, [.ref y, .ref s, .ref t, .int w])), (y, .inl (.byte, M * 32, .inl (fun q => sb_b (B q)))), (s, .inl (.int, M, .inl S)), (t, .inl (.int, M, .inl T)), (h2, .inr (2, [.ref a2, .ref b2, .ref d2, .int (nI n)])), (a2, .inl (.long, N, .inr (.inl K))), (b2, .inl (.int, N, .inl (fun q => nI (z q)))), (d2, .inl (.long, N, .inr (.inl V)))]) 0 [(0, .ref h), (1, .int (nI lev)), (2, .ref h2)] []
  have hn1 : [h, y, s, t].Nodup := (List.Nodup.sublist (by repeat first | exact List.nil_sublist _ | apply List.Sublist.cons₂ | apply List.Sublist.cons) hn)
  have hn2 : [h2, a2, b2, d2].Nodup := (List.Nodup.sublist (by repeat first | exact List.nil_sublist _ | apply List.Sublist.cons₂ | apply List.Sublist.cons) hn)
  refine g_aload_n X d_BL_writeTable_0 2 rfl ?_
  refine h_callV (As := []) (st := []) [4, 5, 6, 7] [(h, .inr (0, [.ref y, .ref s, .ref t, .int w])), (y, .inl (.byte, M * 32, .inl (fun q => sb_b (B q)))), (s, .inl (.int, M, .inl S)), (t, .inl (.int, M, .inl T)), (h2, .inr (2, [.ref a2, .ref b2, .ref d2, .int (nI n)])), (a2, .inl (.long, N, .inr (.inl K))), (b2, .inl (.int, N, .inl (fun q => nI (z q)))), (d2, .inl (.long, N, .inr (.inl V)))] X d_BL_writeTable_1 (c_RW_bytes hst hn2 hN hz hnN) (hl_w 4 rfl hn) rfl rfl k_ml_BL_26 k_cd_RW_bytes k_in_RW k_im_RW_bytes k_se_RW_bytes ⟨by decide +kernel, by decide +kernel, (by decide +kernel : (parseMethodDescriptor y_RW_bytes.desc).map (fun d => d.parameters.length) = some 0)⟩ ⟨Nat.le_of_ble_eq_true rfl, Nat.le_of_ble_eq_true rfl⟩ ⟨Nat.le_of_ble_eq_true rfl, Nat.le_of_ble_eq_true rfl⟩ (Nat.le_of_ble_eq_true rfl) hn rfl rfl rfl hp_no hp_no2 ?_
  refine g_bipush (nI 32) X d_BL_writeTable_4 (by decide) ?_
  refine g_iadd X d_BL_writeTable_6 ?_
  refine g_vi (nI (bySum z n + 32)) (nI_add _ _) ?_
  refine g_iconst (nI 1) X d_BL_writeTable_7 (by decide) ?_
  refine g_isub X d_BL_writeTable_8 ?_
  refine g_vi (nI ((bySum z n + 32) - 1)) (pk_sub (by omega)) ?_
  refine g_bipush (nI 32) X d_BL_writeTable_9 (by decide) ?_
  refine g_idiv X d_BL_writeTable_11 (by decide) ?_
  refine g_vi (nI (((bySum z n + 32) - 1) / 32)) (pk_div (by omega) (by omega) (by omega)) ?_
  refine g_istore_n [(3, .int (nI (((bySum z n + 32) - 1) / 32))), (0, .ref h), (1, .int (nI lev)), (2, .ref h2)] X d_BL_writeTable_12 (by decide) rfl ?_
  refine g_iload_n X d_BL_writeTable_13 0 rfl ?_
  refine g_iconst (nI 1) X d_BL_writeTable_14 (by decide) ?_
  refine g_icmp_lt 26 X d_BL_writeTable_15 (by decide) (fun h15 => ?_) (fun h15 => ?_)
  · have h15 := cv_lt (by omega) (by omega) h15
    refine g_null X d_BL_writeTable_26 ?_
    exact g_aret X hr (Or.inl ⟨_, rfl⟩) (Or.inl rfl) d_BL_writeTable_27 (Nat.le_of_ble_eq_true rfl) (Nat.le_of_ble_eq_true rfl) (⟨rfl, rfl⟩)
  · have h15 := cv_nlt (by omega) (by omega) h15
    have hfl := fcn_le T M
    refine g_iload_n X d_BL_writeTable_18 0 rfl ?_
    refine g_aload_n X d_BL_writeTable_19 1 rfl ?_
    refine h_callV (As := []) (st := [.int (nI (((bySum z n + 32) - 1) / 32))]) [0, 1, 2, 3] [(h, .inr (0, [.ref y, .ref s, .ref t, .int w])), (y, .inl (.byte, M * 32, .inl (fun q => sb_b (B q)))), (s, .inl (.int, M, .inl S)), (t, .inl (.int, M, .inl T)), (h2, .inr (2, [.ref a2, .ref b2, .ref d2, .int (nI n)])), (a2, .inl (.long, N, .inr (.inl K))), (b2, .inl (.int, N, .inl (fun q => nI (z q)))), (d2, .inl (.long, N, .inr (.inl V)))] X d_BL_writeTable_20 (c_BL_freeCount hst hn1 hB hM) (hl_w 0 rfl hn) rfl rfl k_ml_BL_31 k_cd_BL_freeCount k_in_BL k_im_BL_freeCount k_se_BL_freeCount ⟨by decide +kernel, by decide +kernel, (by decide +kernel : (parseMethodDescriptor y_BL_freeCount.desc).map (fun d => d.parameters.length) = some 0)⟩ ⟨Nat.le_of_ble_eq_true rfl, Nat.le_of_ble_eq_true rfl⟩ ⟨Nat.le_of_ble_eq_true rfl, Nat.le_of_ble_eq_true rfl⟩ (Nat.le_of_ble_eq_true rfl) hn rfl rfl rfl hp_no hp_no2 ?_
    refine g_icmp_le 28 X d_BL_writeTable_23 (by decide) (fun h23 => ?_) (fun h23 => ?_)
    · have h23 := cv_le (by omega) (by omega) h23
      exact absurd hno9 (by omega)
    · have h23 := cv_nle (by omega) (by omega) h23
      refine g_null X d_BL_writeTable_26 ?_
      exact g_aret X hr (Or.inl ⟨_, rfl⟩) (Or.inl rfl) d_BL_writeTable_27 (Nat.le_of_ble_eq_true rfl) (Nat.le_of_ble_eq_true rfl) (⟨rfl, rfl⟩)

set_option maxRecDepth 100000 in
set_option maxHeartbeats 1000000 in
theorem c_BL_writeTable {l : Launch} (hst : l.stackTraces = false) {h y s t M : Nat} {w : Int32} {S T : Nat → Int32} {B : Nat → Nat} {h2 a2 b2 d2 N n : Nat} {K V : Nat → Int64} {z : Nat → Nat} {lev : Nat} (hn : [h, y, s, t, h2, a2, b2, d2].Nodup) (hB : ∀ q, B q < 256) (hM : M ≤ 128) (hz : ∀ i, i < n → okn (z i)) (hN : N < 2 ^ 20) (hnN : n ≤ N) (hb20 : bySum z n < 2 ^ 20) {need : Nat} (hne : need = (bySum z n + 32 - 1) / 32) (hok9 : 1 ≤ need ∧ need ≤ fcn T M) : fh_C l fhCl fhT y_BL_writeTable (.code y_BL_writeTable b_BL_writeTable 7 (some (.object "RunStore$Table"))) 3 73 [.ref h, .int (nI lev), .ref h2] (hp [(h, .inr (0, [.ref y, .ref s, .ref t, .int w])), (y, .inl (.byte, M * 32, .inl (fun q => sb_b (B q)))), (s, .inl (.int, M, .inl S)), (t, .inl (.int, M, .inl T)), (h2, .inr (2, [.ref a2, .ref b2, .ref d2, .int (nI n)])), (a2, .inl (.long, N, .inr (.inl K))), (b2, .inl (.int, N, .inl (fun q => nI (z q)))), (d2, .inl (.long, N, .inr (.inl V)))]) (hp []) 2 132 (fun z9 g9 => ∃ q ia : Nat, z9 = .inl (some (.ref q)) ∧ g9 = hp [(h, .inr (0, [.ref y, .ref s, .ref t, .int w])), (y, .inl (.byte, M * 32, .inl (fun q => sb_b (((wrt B (tkI T need M) (ser K z V n) (need * 32))) q)))), (s, .inl (.int, M, .inl (wsm S (tkI T need M) (fun j => sumS ((tkT T need M) j) (fun q => (wrt B (tkI T need M) (ser K z V n) (need * 32)) (j * 32 + q)) 32) (need)))), (t, .inl (.int, M, .inl (tkT T need M))), (h2, .inr (2, [.ref a2, .ref b2, .ref d2, .int (nI n)])), (a2, .inl (.long, N, .inr (.inl K))), (b2, .inl (.int, N, .inl (fun q => nI (z q)))), (d2, .inl (.long, N, .inr (.inl V))), (q, .inr (3, [.int (nI lev), .int (nI n), .long (fbOr K n), .ref ia])), (ia, .inl (.int, need, .inl (fun q => nI (((tkI T need M)) q))))] ∧ [h, y, s, t, h2, a2, b2, d2, q, ia].Nodup) := by
  refine fh_enter (by decide) hst (Nat.le_of_ble_eq_true rfl) ?_
  intro D mp me sm mm margs mbel mmet mcod X hr hnm hno hf0
  show fh_G mp l me (fh_rm 3 73 2 132) sm mm margs mbel mmet mcod D fhCl (hp [(h, .inr (0, [.ref y, .ref s, .ref t, .int w])), (y, .inl (.byte, M * 32, .inl (fun q => sb_b (B q)))), (s, .inl (.int, M, .inl S)), (t, .inl (.int, M, .inl T)), (h2, .inr (2, [.ref a2, .ref b2, .ref d2, .int (nI n)])), (a2, .inl (.long, N, .inr (.inl K))), (b2, .inl (.int, N, .inl (fun q => nI (z q)))), (d2, .inl (.long, N, .inr (.inl V)))]) 7 _ 0 0 (hp [(h, .inr (0, [.ref y, .ref s, .ref t, .int w])), (y, .inl (.byte, M * 32, .inl (fun q => sb_b (B q)))), (s, .inl (.int, M, .inl S)), (t, .inl (.int, M, .inl T)), (h2, .inr (2, [.ref a2, .ref b2, .ref d2, .int (nI n)])), (a2, .inl (.long, N, .inr (.inl K))), (b2, .inl (.int, N, .inl (fun q => nI (z q)))), (d2, .inl (.long, N, .inr (.inl V)))]) 0 [(0, .ref h), (1, .int (nI lev)), (2, .ref h2)] []
  have hn1 : [h, y, s, t].Nodup := (List.Nodup.sublist (by repeat first | exact List.nil_sublist _ | apply List.Sublist.cons₂ | apply List.Sublist.cons) hn)
  have hn2 : [h2, a2, b2, d2].Nodup := (List.Nodup.sublist (by repeat first | exact List.nil_sublist _ | apply List.Sublist.cons₂ | apply List.Sublist.cons) hn)
  have hfl := fcn_le T M
  have hneed : need ≤ 128 := by omega
  have hby : bySum z n ≤ need * 32 := by omega
  have hid : ∀ k, k < need → (tkI T need M) k < M := fun k hk => tkI_lt T need M k (by omega) hk
  have hndx : [h, y, s, t, h2, a2, b2, d2].Nodup := hn
  refine g_aload_n X d_BL_writeTable_0 2 rfl ?_
  refine h_callV (As := []) (st := []) [4, 5, 6, 7] [(h, .inr (0, [.ref y, .ref s, .ref t, .int w])), (y, .inl (.byte, M * 32, .inl (fun q => sb_b (B q)))), (s, .inl (.int, M, .inl S)), (t, .inl (.int, M, .inl T)), (h2, .inr (2, [.ref a2, .ref b2, .ref d2, .int (nI n)])), (a2, .inl (.long, N, .inr (.inl K))), (b2, .inl (.int, N, .inl (fun q => nI (z q)))), (d2, .inl (.long, N, .inr (.inl V)))] X d_BL_writeTable_1 (c_RW_bytes hst hn2 hN hz hnN) (hl_w 4 rfl hn) rfl rfl k_ml_BL_26 k_cd_RW_bytes k_in_RW k_im_RW_bytes k_se_RW_bytes ⟨by decide +kernel, by decide +kernel, (by decide +kernel : (parseMethodDescriptor y_RW_bytes.desc).map (fun d => d.parameters.length) = some 0)⟩ ⟨Nat.le_of_ble_eq_true rfl, Nat.le_of_ble_eq_true rfl⟩ ⟨Nat.le_of_ble_eq_true rfl, Nat.le_of_ble_eq_true rfl⟩ (Nat.le_of_ble_eq_true rfl) hn rfl rfl rfl hp_no hp_no2 ?_
  refine g_bipush (nI 32) X d_BL_writeTable_4 (by decide) ?_
  refine g_iadd X d_BL_writeTable_6 ?_
  refine g_vi (nI (bySum z n + 32)) (nI_add _ _) ?_
  refine g_iconst (nI 1) X d_BL_writeTable_7 (by decide) ?_
  refine g_isub X d_BL_writeTable_8 ?_
  refine g_vi (nI ((bySum z n + 32) - 1)) (pk_sub (by omega)) ?_
  refine g_bipush (nI 32) X d_BL_writeTable_9 (by decide) ?_
  refine g_idiv X d_BL_writeTable_11 (by decide) ?_
  refine g_vi (nI need) (by rw [hne]; exact pk_div (by omega) (by omega) (by omega)) ?_
  refine g_istore_n [(3, .int (nI need)), (0, .ref h), (1, .int (nI lev)), (2, .ref h2)] X d_BL_writeTable_12 (by decide) rfl ?_
  refine g_iload_n X d_BL_writeTable_13 0 rfl ?_
  refine g_iconst (nI 1) X d_BL_writeTable_14 (by decide) ?_
  refine g_icmp_lt 26 X d_BL_writeTable_15 (by decide) (fun h15 => ?_) (fun h15 => ?_)
  · have h15 := cv_lt (by omega) (by omega) h15
    exact absurd hok9 (by omega)
  · have h15 := cv_nlt (by omega) (by omega) h15
    refine g_iload_n X d_BL_writeTable_18 0 rfl ?_
    refine g_aload_n X d_BL_writeTable_19 1 rfl ?_
    refine h_callV (As := []) (st := [.int (nI need)]) [0, 1, 2, 3] [(h, .inr (0, [.ref y, .ref s, .ref t, .int w])), (y, .inl (.byte, M * 32, .inl (fun q => sb_b (B q)))), (s, .inl (.int, M, .inl S)), (t, .inl (.int, M, .inl T)), (h2, .inr (2, [.ref a2, .ref b2, .ref d2, .int (nI n)])), (a2, .inl (.long, N, .inr (.inl K))), (b2, .inl (.int, N, .inl (fun q => nI (z q)))), (d2, .inl (.long, N, .inr (.inl V)))] X d_BL_writeTable_20 (c_BL_freeCount hst hn1 hB hM) (hl_w 0 rfl hn) rfl rfl k_ml_BL_31 k_cd_BL_freeCount k_in_BL k_im_BL_freeCount k_se_BL_freeCount ⟨by decide +kernel, by decide +kernel, (by decide +kernel : (parseMethodDescriptor y_BL_freeCount.desc).map (fun d => d.parameters.length) = some 0)⟩ ⟨Nat.le_of_ble_eq_true rfl, Nat.le_of_ble_eq_true rfl⟩ ⟨Nat.le_of_ble_eq_true rfl, Nat.le_of_ble_eq_true rfl⟩ (Nat.le_of_ble_eq_true rfl) hn rfl rfl rfl hp_no hp_no2 ?_
    refine g_icmp_le 28 X d_BL_writeTable_23 (by decide) (fun h23 => ?_) (fun h23 => ?_)
    · have h23 := cv_le (by omega) (by omega) h23
      refine h_new (ci := 3) [.int 0, .int 0, .long 0, .null] X d_BL_writeTable_28 hn rfl i_TB t_TB t_TB_ok k_cl_BL_34 k_it_TB k_in_TB (by decide +kernel) (Nat.le_of_ble_eq_true rfl) (Nat.le_of_ble_eq_true rfl) (fun q hzq h0q => ?_)
      refine g_hp (ws' := [(h, .inr (0, [.ref y, .ref s, .ref t, .int w])), (y, .inl (.byte, M * 32, .inl (fun q => sb_b (B q)))), (s, .inl (.int, M, .inl S)), (t, .inl (.int, M, .inl T)), (h2, .inr (2, [.ref a2, .ref b2, .ref d2, .int (nI n)])), (a2, .inl (.long, N, .inr (.inl K))), (b2, .inl (.int, N, .inl (fun q => nI (z q)))), (d2, .inl (.long, N, .inr (.inl V))), (q, .inr (3, [.int 0, .int 0, .long 0, .null]))]) rfl ?_
      have hnq : [h, y, s, t, h2, a2, b2, d2, q].Nodup := hzq
      refine g_widen (ce' := 1) (sl' := 4) (Nat.le_refl _) (Nat.le_refl _) ?_
      refine g_dup X d_BL_writeTable_31 rfl ?_
      refine g_iload_n X d_BL_writeTable_32 2 rfl ?_
      refine g_aload_n X d_BL_writeTable_33 3 rfl ?_
      refine g_getN (k := 3) X d_BL_writeTable_34 (hl_w 4 rfl hnq) rfl i_RW (by decide) k_fl_BL_36 (fun _ h => h) rfl ?_
      refine g_aload_n X d_BL_writeTable_37 3 rfl ?_
      refine h_callV (As := []) (st := [.int (nI n), .int (nI lev), .ref q, .ref q]) [4, 5, 6, 7] [(h, .inr (0, [.ref y, .ref s, .ref t, .int w])), (y, .inl (.byte, M * 32, .inl (fun q => sb_b (B q)))), (s, .inl (.int, M, .inl S)), (t, .inl (.int, M, .inl T)), (h2, .inr (2, [.ref a2, .ref b2, .ref d2, .int (nI n)])), (a2, .inl (.long, N, .inr (.inl K))), (b2, .inl (.int, N, .inl (fun q => nI (z q)))), (d2, .inl (.long, N, .inr (.inl V))), (q, .inr (3, [.int 0, .int 0, .long 0, .null]))] X d_BL_writeTable_38 (c_RW_filter hst hn2 hN hnN) (hl_w 4 rfl hnq) rfl rfl k_ml_BL_40 k_cd_RW_filter k_in_RW k_im_RW_filter k_se_RW_filter ⟨by decide +kernel, by decide +kernel, (by decide +kernel : (parseMethodDescriptor y_RW_filter.desc).map (fun d => d.parameters.length) = some 0)⟩ ⟨Nat.le_of_ble_eq_true rfl, Nat.le_of_ble_eq_true rfl⟩ ⟨Nat.le_of_ble_eq_true rfl, Nat.le_of_ble_eq_true rfl⟩ (Nat.le_of_ble_eq_true rfl) hnq rfl rfl rfl hp_no hp_no2 ?_
      refine g_aload_n X d_BL_writeTable_41 1 rfl ?_
      refine g_iload_n X d_BL_writeTable_42 0 rfl ?_
      refine g_callVf (As := [.int (nI need)]) (st := [.long (fbOr K n), .int (nI n), .int (nI lev), .ref q, .ref q]) X d_BL_writeTable_43 (c_BL_take hst hn1 hB hM hneed) (hl_w 0 rfl hnq) rfl rfl k_ml_BL_44 k_cd_BL_take k_in_BL k_im_BL_take k_se_BL_take ⟨by decide +kernel, by decide +kernel, (by decide +kernel : (parseMethodDescriptor "(I)[I").map (fun d => d.parameters.length) = some 1)⟩ ⟨Nat.le_of_ble_eq_true rfl, Nat.le_of_ble_eq_true rfl⟩ ⟨Nat.le_of_ble_eq_true rfl, Nat.le_of_ble_eq_true rfl⟩ (Nat.le_of_ble_eq_true rfl) (hp_sub hnq [0, 1, 2, 3] rfl) hrx_no (fun E g9 h => by obtain ⟨_, h, _⟩ := h; cases h) (fun v9 g9 hq hfr => ?_)
      obtain ⟨ia, hv9, hg9, hnd9⟩ := hq
      cases hv9
      subst hg9
      refine g_ovN (u := [(h, .inr (0, [.ref y, .ref s, .ref t, .int w])), (y, .inl (.byte, M * 32, .inl (fun q => sb_b (B q)))), (s, .inl (.int, M, .inl S)), (t, .inl (.int, M, .inl (tkT T need M)))]) (wn := [(ia, .inl (.int, need, .inl (fun q => nI (((tkI T need M)) q))))]) (wc := [(h, .inr (0, [.ref y, .ref s, .ref t, .int w])), (y, .inl (.byte, M * 32, .inl (fun q => sb_b (B q)))), (s, .inl (.int, M, .inl S)), (t, .inl (.int, M, .inl T))]) [0, 1, 2, 3] [(h, .inr (0, [.ref y, .ref s, .ref t, .int w])), (y, .inl (.byte, M * 32, .inl (fun q => sb_b (B q)))), (s, .inl (.int, M, .inl S)), (t, .inl (.int, M, .inl (tkT T need M))), (h2, .inr (2, [.ref a2, .ref b2, .ref d2, .int (nI n)])), (a2, .inl (.long, N, .inr (.inl K))), (b2, .inl (.int, N, .inl (fun q => nI (z q)))), (d2, .inl (.long, N, .inr (.inl V))), (q, .inr (3, [.int 0, .int 0, .long 0, .null])), (ia, .inl (.int, need, .inl (fun q => nI (((tkI T need M)) q))))] rfl rfl hnq hnd9 rfl hfr (fun hzia hria => ?_)
      have hnia : [h, y, s, t, h2, a2, b2, d2, q, ia].Nodup := hzia
      have hn3 : [q, ia].Nodup := (List.Nodup.sublist (by repeat first | exact List.nil_sublist _ | apply List.Sublist.cons₂ | apply List.Sublist.cons) hnia)
      have hn4 : [h2, a2, b2, d2, q, ia].Nodup := (List.Nodup.sublist (by repeat first | exact List.nil_sublist _ | apply List.Sublist.cons₂ | apply List.Sublist.cons) hnia)
      refine g_widen (ce' := 2) (sl' := 132) (Nat.le_refl _) (Nat.le_refl _) ?_
      refine h_callI (As := [.int (nI lev), .int (nI n), .long (fbOr K n), .ref ia]) (st := [.ref q]) [8] [(h, .inr (0, [.ref y, .ref s, .ref t, .int w])), (y, .inl (.byte, M * 32, .inl (fun q => sb_b (B q)))), (s, .inl (.int, M, .inl S)), (t, .inl (.int, M, .inl (tkT T need M))), (h2, .inr (2, [.ref a2, .ref b2, .ref d2, .int (nI n)])), (a2, .inl (.long, N, .inr (.inl K))), (b2, .inl (.int, N, .inl (fun q => nI (z q)))), (d2, .inl (.long, N, .inr (.inl V))), (q, .inr (3, [.int (nI lev), .int (nI n), .long (fbOr K n), .ref ia])), (ia, .inl (.int, need, .inl (fun q => nI (((tkI T need M)) q))))] X d_BL_writeTable_46 (c_TB_init hst) rfl k_ml_BL_48 k_cd_TB_init k_in_TB k_im_TB_init rfl ⟨by decide +kernel, by decide +kernel, (by decide +kernel : (parseMethodDescriptor y_TB_init.desc).map (fun d => d.parameters.length) = some 4)⟩ ⟨Nat.le_of_ble_eq_true rfl, Nat.le_of_ble_eq_true rfl⟩ ⟨Nat.le_of_ble_eq_true rfl, Nat.le_of_ble_eq_true rfl⟩ (Nat.le_of_ble_eq_true rfl) hnia rfl rfl rfl hp_no hp_no2 ?_
      refine g_astore [(4, .ref q), (3, .int (nI need)), (0, .ref h), (1, .int (nI lev)), (2, .ref h2)] X d_BL_writeTable_49 (by decide) rfl ?_
      refine g_aload_n X d_BL_writeTable_51 2 rfl ?_
      refine g_aload X d_BL_writeTable_52 0 rfl ?_
      refine g_aload_n X d_BL_writeTable_54 4 rfl ?_
      refine h_callV (As := [.ref q, .ref h2]) (st := []) [0, 1, 2, 3] [(h, .inr (0, [.ref y, .ref s, .ref t, .int w])), (y, .inl (.byte, M * 32, .inl (fun q => sb_b (((wrt B (tkI T need M) (ser K z V n) (need * 32))) q)))), (s, .inl (.int, M, .inl S)), (t, .inl (.int, M, .inl (tkT T need M))), (h2, .inr (2, [.ref a2, .ref b2, .ref d2, .int (nI n)])), (a2, .inl (.long, N, .inr (.inl K))), (b2, .inl (.int, N, .inl (fun q => nI (z q)))), (d2, .inl (.long, N, .inr (.inl V))), (q, .inr (3, [.int (nI lev), .int (nI n), .long (fbOr K n), .ref ia])), (ia, .inl (.int, need, .inl (fun q => nI (((tkI T need M)) q))))] X d_BL_writeTable_55 (c_BL_fill hst (lev := lev) (ent := n) (F := fbOr K n) (K := K) (V := V) (ids := (tkI T need M)) (S := S) (T := (tkT T need M)) (w := w) hn1 hB hM hn4 hneed hid hz hN hnN hby) (hl_w 0 rfl hnia) rfl rfl k_ml_BL_51 k_cd_BL_fill k_in_BL k_im_BL_fill k_se_BL_fill ⟨by decide +kernel, by decide +kernel, (by decide +kernel : (parseMethodDescriptor y_BL_fill.desc).map (fun d => d.parameters.length) = some 2)⟩ ⟨Nat.le_of_ble_eq_true rfl, Nat.le_of_ble_eq_true rfl⟩ ⟨Nat.le_of_ble_eq_true rfl, Nat.le_of_ble_eq_true rfl⟩ (Nat.le_of_ble_eq_true rfl) hnia rfl rfl rfl (fun q9 x9 h9 => Or.inl (hp_sub (ws := [(h, .inr (0, [.ref y, .ref s, .ref t, .int w])), (y, .inl (.byte, M * 32, .inl (fun q => sb_b (B q)))), (s, .inl (.int, M, .inl S)), (t, .inl (.int, M, .inl (tkT T need M))), (h2, .inr (2, [.ref a2, .ref b2, .ref d2, .int (nI n)])), (a2, .inl (.long, N, .inr (.inl K))), (b2, .inl (.int, N, .inl (fun q => nI (z q)))), (d2, .inl (.long, N, .inr (.inl V))), (q, .inr (3, [.int (nI lev), .int (nI n), .long (fbOr K n), .ref ia])), (ia, .inl (.int, need, .inl (fun q => nI (((tkI T need M)) q))))]) hnia [4, 5, 6, 7, 8, 9] rfl q9 x9 h9)) (hp_apart hnia) ?_
      refine g_iconst (nI 0) X d_BL_writeTable_58 (by decide) ?_
      refine g_istore [(5, .int (nI 0)), (4, .ref q), (3, .int (nI need)), (0, .ref h), (1, .int (nI lev)), (2, .ref h2)] X d_BL_writeTable_59 (by decide) rfl ?_
      have L61 : ∀ (fu61 : Nat) (k : Nat), (k ≤ need) → need - k < fu61 → fh_G mp l me (fh_rm 3 73 2 132) sm mm margs mbel mmet mcod D fhCl (hp [(h, .inr (0, [.ref y, .ref s, .ref t, .int w])), (y, .inl (.byte, M * 32, .inl (fun q => sb_b (B q)))), (s, .inl (.int, M, .inl S)), (t, .inl (.int, M, .inl T)), (h2, .inr (2, [.ref a2, .ref b2, .ref d2, .int (nI n)])), (a2, .inl (.long, N, .inr (.inl K))), (b2, .inl (.int, N, .inl (fun q => nI (z q)))), (d2, .inl (.long, N, .inr (.inl V)))]) 7 (fh_MQ mbel D fhCl (hp [(h, .inr (0, [.ref y, .ref s, .ref t, .int w])), (y, .inl (.byte, M * 32, .inl (fun q => sb_b (B q)))), (s, .inl (.int, M, .inl S)), (t, .inl (.int, M, .inl T)), (h2, .inr (2, [.ref a2, .ref b2, .ref d2, .int (nI n)])), (a2, .inl (.long, N, .inr (.inl K))), (b2, .inl (.int, N, .inl (fun q => nI (z q)))), (d2, .inl (.long, N, .inr (.inl V)))]) (fun z9 g9 => ∃ q ia : Nat, z9 = .inl (some (.ref q)) ∧ g9 = hp [(h, .inr (0, [.ref y, .ref s, .ref t, .int w])), (y, .inl (.byte, M * 32, .inl (fun q => sb_b (((wrt B (tkI T need M) (ser K z V n) (need * 32))) q)))), (s, .inl (.int, M, .inl (wsm S (tkI T need M) (fun j => sumS ((tkT T need M) j) (fun q => (wrt B (tkI T need M) (ser K z V n) (need * 32)) (j * 32 + q)) 32) (need)))), (t, .inl (.int, M, .inl (tkT T need M))), (h2, .inr (2, [.ref a2, .ref b2, .ref d2, .int (nI n)])), (a2, .inl (.long, N, .inr (.inl K))), (b2, .inl (.int, N, .inl (fun q => nI (z q)))), (d2, .inl (.long, N, .inr (.inl V))), (q, .inr (3, [.int (nI lev), .int (nI n), .long (fbOr K n), .ref ia])), (ia, .inl (.int, need, .inl (fun q => nI (((tkI T need M)) q))))] ∧ [h, y, s, t, h2, a2, b2, d2, q, ia].Nodup) margs sm 2 132) 2 132 (hp [(h, .inr (0, [.ref y, .ref s, .ref t, .int w])), (y, .inl (.byte, M * 32, .inl (fun q => sb_b (((wrt B (tkI T need M) (ser K z V n) (need * 32))) q)))), (s, .inl (.int, M, .inl (wsm S (tkI T need M) (fun j => sumS ((tkT T need M) j) (fun q => (wrt B (tkI T need M) (ser K z V n) (need * 32)) (j * 32 + q)) 32) (k)))), (t, .inl (.int, M, .inl (tkT T need M))), (h2, .inr (2, [.ref a2, .ref b2, .ref d2, .int (nI n)])), (a2, .inl (.long, N, .inr (.inl K))), (b2, .inl (.int, N, .inl (fun q => nI (z q)))), (d2, .inl (.long, N, .inr (.inl V))), (q, .inr (3, [.int (nI lev), .int (nI n), .long (fbOr K n), .ref ia])), (ia, .inl (.int, need, .inl (fun q => nI (((tkI T need M)) q))))]) 61 [(5, .int (nI k)), (4, .ref q), (0, .ref h), (1, .int (nI lev)), (2, .ref h2), (3, .int (nI need))] [] := by
        intro fu61
        induction fu61 with
        | zero => intro k q1 hm61; exact absurd hm61 (Nat.not_lt_zero _)
        | succ fu61 ih61 =>
          intro k q1 hm61
          refine g_iload X d_BL_writeTable_61 0 rfl ?_
          refine g_aload X d_BL_writeTable_63 1 rfl ?_
          refine g_getN (k := 3) X d_BL_writeTable_65 (hl_w 8 rfl hnia) rfl i_TB (by decide) k_fl_BL_55 (fun _ h => h) rfl ?_
          refine g_alen X d_BL_writeTable_68 (hl_w 9 rfl hnia) ?_
          refine g_icmp_ge 110 X d_BL_writeTable_69 (by decide) (fun h69 => ?_) (fun h69 => ?_)
          · have h69 := cv_le (by omega) (by omega) h69
            have e9 : k = need := by omega
            refine g_aload X d_BL_writeTable_110 1 rfl ?_
            exact g_aret X hr (Or.inl ⟨_, rfl⟩) (Or.inr ⟨_, rfl⟩) d_BL_writeTable_112 (Nat.le_of_ble_eq_true rfl) (Nat.le_of_ble_eq_true rfl) (⟨q, ia, rfl, by rw [e9], hnia⟩)
          · have h69 := cv_nle (by omega) (by omega) h69
            refine g_aload X d_BL_writeTable_72 1 rfl ?_
            refine g_getN (k := 3) X d_BL_writeTable_74 (hl_w 8 rfl hnia) rfl i_TB (by decide) k_fl_BL_55 (fun _ h => h) rfl ?_
            refine g_iload X d_BL_writeTable_77 0 rfl ?_
            refine h_iald X d_BL_writeTable_79 (hl_w 9 rfl hnia) (by omega) (by omega) ?_
            refine g_istore [(6, .int (nI ((tkI T need M) k))), (5, .int (nI k)), (4, .ref q), (0, .ref h), (1, .int (nI lev)), (2, .ref h2), (3, .int (nI need))] X d_BL_writeTable_80 (by decide) rfl ?_
            refine g_aload_n X d_BL_writeTable_82 3 rfl ?_
            refine g_iload X d_BL_writeTable_83 0 rfl ?_
            refine h_callV (As := [.int (nI ((tkI T need M) k))]) (st := []) [0, 1, 2, 3] [(h, .inr (0, [.ref y, .ref s, .ref t, .int w])), (y, .inl (.byte, M * 32, .inl (fun q => sb_b (((wrt B (tkI T need M) (ser K z V n) (need * 32))) q)))), (s, .inl (.int, M, .inl (wsm S (tkI T need M) (fun j => sumS ((tkT T need M) j) (fun q => (wrt B (tkI T need M) (ser K z V n) (need * 32)) (j * 32 + q)) 32) (k)))), (t, .inl (.int, M, .inl (tkT T need M))), (h2, .inr (2, [.ref a2, .ref b2, .ref d2, .int (nI n)])), (a2, .inl (.long, N, .inr (.inl K))), (b2, .inl (.int, N, .inl (fun q => nI (z q)))), (d2, .inl (.long, N, .inr (.inl V))), (q, .inr (3, [.int (nI lev), .int (nI n), .long (fbOr K n), .ref ia])), (ia, .inl (.int, need, .inl (fun q => nI (((tkI T need M)) q))))] X d_BL_writeTable_85 (c_BL_has_in hst hn1 (wrt_lt hB _) hM (hid k h69)) (hl_w 0 rfl hnia) rfl rfl k_ml_BL_22 k_cd_BL_has k_in_BL k_im_BL_has k_se_BL_has ⟨by decide +kernel, by decide +kernel, (by decide +kernel : (parseMethodDescriptor y_BL_has.desc).map (fun d => d.parameters.length) = some 1)⟩ ⟨Nat.le_of_ble_eq_true rfl, Nat.le_of_ble_eq_true rfl⟩ ⟨Nat.le_of_ble_eq_true rfl, Nat.le_of_ble_eq_true rfl⟩ (Nat.le_of_ble_eq_true rfl) hnia rfl rfl rfl hp_no hp_no2 ?_
            refine g_if_eq 104 X d_BL_writeTable_88 (by decide) (fun h88 => ?_) (fun h88 => ?_)
            · have h88 := cv_e0 (by omega) h88
              exact absurd h88 (by decide)
            · have h88 := cv_n0 (by omega) h88
              refine g_aload_n X d_BL_writeTable_91 3 rfl ?_
              refine g_getf (k := 1) X d_BL_writeTable_92 (hl_w 0 rfl hnia) rfl i_BL (by decide) k_fl_BL_15 (fun _ h => h) rfl ?_
              refine g_iload X d_BL_writeTable_95 0 rfl ?_
              refine g_aload_n X d_BL_writeTable_97 3 rfl ?_
              refine g_iload X d_BL_writeTable_98 0 rfl ?_
              refine h_callV (As := [.int (nI ((tkI T need M) k))]) (st := [.int (nI ((tkI T need M) k)), .ref s]) [0, 1, 2, 3] [(h, .inr (0, [.ref y, .ref s, .ref t, .int w])), (y, .inl (.byte, M * 32, .inl (fun q => sb_b (((wrt B (tkI T need M) (ser K z V n) (need * 32))) q)))), (s, .inl (.int, M, .inl (wsm S (tkI T need M) (fun j => sumS ((tkT T need M) j) (fun q => (wrt B (tkI T need M) (ser K z V n) (need * 32)) (j * 32 + q)) 32) (k)))), (t, .inl (.int, M, .inl (tkT T need M))), (h2, .inr (2, [.ref a2, .ref b2, .ref d2, .int (nI n)])), (a2, .inl (.long, N, .inr (.inl K))), (b2, .inl (.int, N, .inl (fun q => nI (z q)))), (d2, .inl (.long, N, .inr (.inl V))), (q, .inr (3, [.int (nI lev), .int (nI n), .long (fbOr K n), .ref ia])), (ia, .inl (.int, need, .inl (fun q => nI (((tkI T need M)) q))))] X d_BL_writeTable_100 (c_BL_sumOf hst hn1 (wrt_lt hB _) hM (hid k h69)) (hl_w 0 rfl hnia) rfl rfl k_ml_BL_58 k_cd_BL_sumOf k_in_BL k_im_BL_sumOf k_se_BL_sumOf ⟨by decide +kernel, by decide +kernel, (by decide +kernel : (parseMethodDescriptor y_BL_sumOf.desc).map (fun d => d.parameters.length) = some 1)⟩ ⟨Nat.le_of_ble_eq_true rfl, Nat.le_of_ble_eq_true rfl⟩ ⟨Nat.le_of_ble_eq_true rfl, Nat.le_of_ble_eq_true rfl⟩ (Nat.le_of_ble_eq_true rfl) hnia rfl rfl rfl hp_no hp_no2 ?_
              refine h_iast 2 [(h, .inr (0, [.ref y, .ref s, .ref t, .int w])), (y, .inl (.byte, M * 32, .inl (fun q => sb_b (((wrt B (tkI T need M) (ser K z V n) (need * 32))) q)))), (s, .inl (.int, M, .inl (va_up (wsm S (tkI T need M) (fun j => sumS ((tkT T need M) j) (fun q => (wrt B (tkI T need M) (ser K z V n) (need * 32)) (j * 32 + q)) 32) (k)) ((tkI T need M) k) (sumS ((tkT T need M) ((tkI T need M) k)) (fun q => (wrt B (tkI T need M) (ser K z V n) (need * 32)) ((tkI T need M) k * 32 + q)) 32)))), (t, .inl (.int, M, .inl (tkT T need M))), (h2, .inr (2, [.ref a2, .ref b2, .ref d2, .int (nI n)])), (a2, .inl (.long, N, .inr (.inl K))), (b2, .inl (.int, N, .inl (fun q => nI (z q)))), (d2, .inl (.long, N, .inr (.inl V))), (q, .inr (3, [.int (nI lev), .int (nI n), .long (fbOr K n), .ref ia])), (ia, .inl (.int, need, .inl (fun q => nI (((tkI T need M)) q))))] X d_BL_writeTable_103 hnia rfl (hid k h69) (by omega) rfl ?_
              refine g_iinc (nI (k + 1)) 1 [(5, .int (nI (k + 1))), (6, .int (nI ((tkI T need M) k))), (4, .ref q), (0, .ref h), (1, .int (nI lev)), (2, .ref h2), (3, .int (nI need))] X d_BL_writeTable_104 rfl (nI_1 _) (by decide) rfl ?_
              refine g_goto 61 X d_BL_writeTable_107 (by decide) ?_
              refine g_lv [0, 2, 3, 4, 5, 6] [(5, .int (nI (k + 1))), (4, .ref q), (0, .ref h), (1, .int (nI lev)), (2, .ref h2), (3, .int (nI need))] rfl ?_
              exact ih61 (k + 1) (by omega) (by omega)
      refine g_lv [0, 1, 3, 4, 5, 2] [(5, .int (nI 0)), (4, .ref q), (0, .ref h), (1, .int (nI lev)), (2, .ref h2), (3, .int (nI need))] rfl ?_
      exact L61 _ 0 (Nat.zero_le _) (Nat.lt_succ_self _)
    · have h23 := cv_nle (by omega) (by omega) h23
      exact absurd hok9 (by omega)
