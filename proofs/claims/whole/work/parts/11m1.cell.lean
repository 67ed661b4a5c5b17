set_option maxRecDepth 100000 in
set_option maxHeartbeats 1000000 in
theorem c_LW_cell {l : Launch} (hst : l.stackTraces = false) {b0 Ls : Nat} {xs : Nat → Int32} (hLs : Ls ≤ 3073) : fh_C l fhCl fhT y_LW_cell (.code y_LW_cell b_LW_cell 2 (some .int)) 0 0 [.ref b0, .int (nI 0)] (hp []) (hp [(b0, .inl (.int, Ls, .inl xs))]) 0 0 (fh_ret (some (.int (if 0 < Ls then xs 0 else 0))) []) := by
  refine fh_enter (by decide) hst (Nat.le_of_ble_eq_true rfl) ?_
  intro mD mp me sm mm margs mbel mmet mcod X hr hnm hno hf0
  show fh_G mp l me (fh_rm 0 0 0 0) sm mm margs mbel mmet mcod mD fhCl (hp []) 2 _ 0 0 (hp []) 0 [(0, .ref b0), (1, .int (nI 0))] []
  refine g_iload_n X d_LW_cell_0 1 rfl ?_
  refine g_aload_n X d_LW_cell_1 0 rfl ?_
  refine g_alen X d_LW_cell_2 (hl_r 0 rfl (nd1 _)) ?_
  refine g_icmp_ge 12 X d_LW_cell_3 (by decide) (fun h3 => ?_) (fun h3 => ?_)
  · have h3 := cv_le (by omega) (by omega) h3
    have hw9 : (if 0 < Ls then xs 0 else 0) = nI 0 := by rw [if_neg (by omega)]; rfl
    refine g_iconst (nI 0) X d_LW_cell_12 (by decide) ?_
    exact g_iret X hr d_LW_cell_13 (Nat.le_of_ble_eq_true rfl) (Nat.le_of_ble_eq_true rfl) (⟨by rw [hw9], rfl⟩)
  · have h3 := cv_nle (by omega) (by omega) h3
    have hw9 : (if 0 < Ls then xs 0 else 0) = xs 0 := if_pos (by omega)
    refine g_aload_n X d_LW_cell_6 0 rfl ?_
    refine g_iload_n X d_LW_cell_7 1 rfl ?_
    refine h_iald X d_LW_cell_8 (hl_r 0 rfl (nd1 _)) (by omega) (by omega) ?_
    refine g_goto 13 X d_LW_cell_9 (by decide) ?_
    exact g_iret X hr d_LW_cell_13 (Nat.le_of_ble_eq_true rfl) (Nat.le_of_ble_eq_true rfl) (⟨by rw [hw9], rfl⟩)
