/-! THE CLAIM OUT OF ONE WALK OF THE LAW'S BODY. Your part is whole_start (and what it stands on); all else here is the same for every law, but numbers. -/
def R_law : String := "RunStoreLaw"
def lw_P (b : Addr) (xs : List Int32) (args : Array Value) (s : State) : Prop := args = #[.ref b] ∧ s.IntsAt b xs ∧ xs.length ≤ 3073 ∧ (Jvm.Cond.and given_1 narrow_1).before args s = true
def lw_Q (_ : Array Value) (s : State) (o : Outcome) (t : State) : Prop := o = .returned (some (.int 1)) ∧ Framed s o t [] 601024 7293000
def lw_Z (below : List Frame) (a : Array Value) (s : State) : State → Prop := fun t => ∃ o, t.status = .running ∧ Ended t below o ∧ lw_Q a s o t
/-- the law's own end, with 1 on the stack, nothing written that was there before, its room as the claim has it -/
theorem lw_ret {p : Program} {l : Launch} {e : Env} {s : State} {m : MethodId} {below : List Frame} {meth : Method} {c : Code} {b : Nat} (hx : p.tables.exec = Jvm.exec) (hb : c.code = code) (hr : meth.sig.returnType = ret) (hlocks : meth.locks = false) {pc : Nat} {H : Heap} {ls : Array Slot} (hdg : decode code pc = .ok (.ireturn, 1)) : W p l e room_1 s m #[Value.ref b] below meth c H [] 601024 7293000 (lw_Z below #[Value.ref b] s) (F0 m pc ls [.int 1]) := by
  intro T hT X
  obtain ⟨fs, hret, hrun, hended, hW, hframe⟩ := X.leave (v := some (.int 1)) (hlocks := hlocks) (fun h => by rw [hr] at h; cases h)
  have hmeth' : T.vm.method? m = some meth := X.method'
  refine ⟨T.setFrames fs, ?_, .returned (some (.int 1)), hrun, hended, rfl, ⟨_, rfl⟩, hW, hframe⟩
  jvm_step X.here [X.here.top, hx, hb, hdg, hmeth', hr, ret, narrow_b1]
  (try refine ⟨rfl, ?_⟩); (try refine ⟨rfl, ?_⟩)
  first | (intro acts; rw [hret _ acts rfl rfl rfl]) | rw [hret _ _ rfl rfl rfl]
  exact Steps.refl _
/-- what holds at the law's entry: the machine, the code, the tables' words (any of lw_tbl by 'hts w (by decide +kernel)'), the script of L ints xs at the cell b, what the Statement gives of the start (any of its parts by flat_of_before) -/
def lw_At (p : Program) (s : State) (m : MethodId) (meth : Method) (c : Code) (b L : Nat) (xs : Nat → Int32) : Prop :=
  p.tables.exec = Jvm.exec ∧ c.code = code ∧ meth.sig.returnType = ret ∧ c.maxLocals = 8 ∧ s.vm.findClass R_law = some m.cls ∧ (∀ w ∈ lw_tbl, w.before #[Value.ref b] s = true) ∧ va_X b L xs s s.heap ∧ b < s.heap.size ∧ meth.locks = false ∧ (Jvm.Cond.and given_1 narrow_1).before #[Value.ref b] s = true
/-- a static reference as the words say it -/
theorem fh_S1_of {C n d : String} {args : Array Value} {s : State} (h : (Cond.laysStatic C n d).before args s = true) (hr : (Cond.isRef (.static C n d)).before args s = true) : fh_S1 C n d (fh_A (hp []) s) s s.heap := by
  obtain ⟨c, k, i, fd, a, cell, hc, hf, hst, hsta, hcell, hiss, hcls, hlt, hty⟩ := Cond.laysStatic_spec h
  have hv : cell.slots[fd.slot]? = some cell.slots[fd.slot] := Array.getElem?_eq_getElem hlt
  have he : (Term.static C n d).eval args s none [] s = some cell.slots[fd.slot] := by simp [Term.eval, State.fieldNamed?, hf, hst, hsta, hcell, hiss, hv]
  have hl : a < s.heap.size := (Array.getElem?_eq_some_iff.mp hcell).1
  refine ⟨c, k, i, fd, a, cell, cell.slots[fd.slot], hf, hcell, fun z => z.elim (fun z => z rfl) (fun z => absurd hl (Nat.not_lt.mpr z)), hc, hsta, hty, hst, hiss, hcls, hlt, hv, ?_⟩
  simp only [Cond.before, Cond.holds, Cond.value, he] at hr
  revert hr
  generalize cell.slots[fd.slot] = v
  intro hr
  cases v <;> simp_all [Value.isRef]
/-- the seven classes -/
theorem lw_known {s : State} {args : Array Value} (hts : ∀ w ∈ fhT, w.before args s = true) : ∃ D : va_G, va_K D fhCl [] s := by
  obtain ⟨c0, j0, h0⟩ := u_known (C := R_BL) (T := T_BL) (N := 4) (n := 4) hts i_BL (hts _ k_it_BL)
  obtain ⟨c1, j1, h1⟩ := u_known (C := R_LG) (T := T_LG) (N := 7) (n := 7) hts i_LG (hts _ k_it_LG)
  obtain ⟨c2, j2, h2⟩ := u_known (C := R_RW) (T := T_RW) (N := 4) (n := 4) hts i_RW (hts _ k_it_RW)
  obtain ⟨c3, j3, h3⟩ := u_known (C := R_TB) (T := T_TB) (N := 4) (n := 4) hts i_TB (hts _ k_it_TB)
  obtain ⟨c4, j4, h4⟩ := u_known (C := R_TR) (T := T_TR) (N := 8) (n := 8) hts i_TR (hts _ k_it_TR)
  obtain ⟨c5, j5, h5⟩ := u_known (C := R_RS) (T := T_RS) (N := 10) (n := 10) hts i_RS (hts _ k_it_RS)
  obtain ⟨c6, j6, h6⟩ := u_known (C := R_MD) (T := T_MD) (N := 34) (n := 34) hts i_MD (hts _ k_it_MD)
  refine ⟨(fun k => if k = 0 then c0 else if k = 1 then c1 else if k = 2 then c2 else if k = 3 then c3 else if k = 4 then c4 else if k = 5 then c5 else c6, fun k => if k = 0 then j0 else if k = 1 then j1 else if k = 2 then j2 else if k = 3 then j3 else if k = 4 then j4 else if k = 5 then j5 else j6), ?_, fun k q h => by simp at h⟩
  intro k q hq
  match k, hq with
  | 0, hq => cases hq; exact h0
  | 1, hq => cases hq; exact h1
  | 2, hq => cases hq; exact h2
  | 3, hq => cases hq; exact h3
  | 4, hq => cases hq; exact h4
  | 5, hq => cases hq; exact h5
  | 6, hq => cases hq; exact h6
  | k + 7, hq => simp at hq
set_option maxHeartbeats 4000000 in
set_option maxRecDepth 100000 in
/-- THE LAW, from its entry -/
theorem whole_start {p : Program} {e : Env} {s : State} {m : MethodId} {below : List Frame} {meth : Method} {c : Code} (l : Launch) (hst : l.stackTraces = false) {b L : Nat} {xs : Nat → Int32} (hL : L ≤ 3073) (C0 : lw_At p s m meth c b L xs) : W p l e room_1 s m #[Value.ref b] below meth c s.heap [] 0 0 (lw_Z below #[Value.ref b] s) (entryFrame m ([Value.ref b] : List Value).toArray 8) := by
  obtain ⟨hx, hb, hr, hml, hown, hts, hX, hbl, hlocks, hgv⟩ := id C0
  have hts1 : ∀ w ∈ fhT, w.before #[Value.ref b] s = true := fun w h => hts w (List.mem_filter.mp h).1
  have hts2 : ∀ w ∈ fhT, fh_okw w = true ∧ ∀ a : Array Value, w.before a s = true := fun w h => ⟨(List.mem_filter.mp h).2, fun a => fh_okw_at (List.mem_filter.mp h).2 (State.WarmedH.refl s) (hts1 w h)⟩
  obtain ⟨D, hK⟩ := lw_known hts1
  have hn := flat_of_before _ hgv
  have hZ : fh_Z (fh_A (hp []) s) s s.heap := ⟨fh_S1_of (hts _ (by decide +kernel)) (hn _ (by decide +kernel)), fh_S1_of (hts _ (by decide +kernel)) (hn _ (by decide +kernel))⟩
  have hNw : lwN s := ⟨va_Nc.of (hn _ (by decide +kernel)), va_Nc.of (hn _ (by decide +kernel)), va_Nc.of (hn _ (by decide +kernel))⟩
  have X : fh_X p l s m #[Value.ref b] meth c D fhCl fhT (hp []) (hp []) y_LW_law.cls b_LW_law 8 := ⟨hx, hb, hml, hown, hts2, hK, hlocks, fun a x h => (by cases h), fun q h => absurd rfl h, hZ, hst, fun a x h => (by cases h)⟩
  have kend : ∀ (ce sl : Nat) (f : fh_M) (lv : List (Nat × Value)), ce ≤ 601024 → sl ≤ 7293000 → fh_G p l e room_1 s m #[Value.ref b] below meth c D fhCl (hp []) 8 (lw_Z below #[Value.ref b] s) ce sl f 1298 lv [] := by
    intro ce sl f lv h1 h2
    refine g_iconst 1 X d_LW_law_1298 (by decide) ?_
    intro H locs ls hI hl
    refine W.widen h1 h2 (va_forget (fun q hq => ?_) (lw_ret hx hb hr hlocks d_LW_law_1299))
    exact (hI.2.1.2.2 q hq).elim (fun z => absurd rfl z) id
  rw [lg_entry_eq]
  exact law_begin X (lwX_0 hX) hst hNw hL kend s.heap [] _ ⟨fun a x h => (by cases h), va_S.rf, fun q h => absurd rfl h, fun q h => absurd rfl h⟩ (lv_entry ([.ref b]) (n := 8) (Nat.le_of_ble_eq_true rfl))
