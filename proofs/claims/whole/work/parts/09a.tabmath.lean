/-! TABLES as a store knows them -/
/-- level, entries, filter, how many blocks, the blocks -/
def TBr : Type := Nat × Nat × Int64 × Nat × (Nat → Nat)
abbrev TBr.of (a b : Nat) (c : Int64) (d : Nat) (e : Nat → Nat) : TBr := (a, b, c, d, e)
abbrev TBr.lv (t : TBr) : Nat := t.1
abbrev TBr.en (t : TBr) : Nat := t.2.1
abbrev TBr.fl (t : TBr) : Int64 := t.2.2.1
abbrev TBr.mn (t : TBr) : Nat := t.2.2.2.1
abbrev TBr.id (t : TBr) : Nat → Nat := t.2.2.2.2
/-- the tables' cells: place u of the store's array bears the address tq u, its ids lie at ti u -/
def pool (P : fh_M) (rf : Nat → Option Nat) (tq ti : Nat → Nat) (tb : Nat → TBr) (c : Nat) : Prop := ∀ u, u < c → rf u = some (tq u) ∧ P (tq u) = some (.inr (3, [.int (nI (tb u).lv), .int (nI (tb u).en), .long (tb u).fl, .ref (ti u)])) ∧ P (ti u) = some (.inl (.int, (tb u).mn, .inl (fun q => nI ((tb u).id q)))) ∧ [tq u, ti u].Nodup
def tbOk (M : Nat) (t : TBr) : Prop := 1 ≤ t.mn ∧ t.mn ≤ 128 ∧ (∀ k, k < t.mn → t.id k < M) ∧ t.en * 9 ≤ t.mn * 32 ∧ t.lv ≤ 3
/-- a method that throws E and leaves these cells -/
def fh_thr (E : String) (u : List (Nat × fh_E)) : fh_R → fh_M → Prop := fun z g => z = .inr E ∧ g = hp u
abbrev nEA : String := "java/lang/IllegalArgumentException"
abbrev nES : String := "java/lang/IllegalStateException"
abbrev nEU : String := "java/lang/UnsupportedOperationException"
abbrev nEI : String := "java/lang/IndexOutOfBoundsException"
theorem thr_RS_64 : ∀ w ∈ Bundle.ownAtoms "RunStore" 64 nEA thrEA, w ∈ fhT ∨ w ∈ fh_stW := by decide +kernel
theorem thr_RS_82 : ∀ w ∈ Bundle.ownAtoms "RunStore" 82 nES thrEA, w ∈ fhT ∨ w ∈ fh_stW := by decide +kernel
theorem thr_RS_90 : ∀ w ∈ Bundle.ownAtoms "RunStore" 90 nEU thrEA, w ∈ fhT ∨ w ∈ fh_stW := by decide +kernel
theorem thr_RS_168 : ∀ w ∈ Bundle.ownAtoms "RunStore" 168 nEI thrEA, w ∈ fhT ∨ w ∈ fh_stW := by decide +kernel
