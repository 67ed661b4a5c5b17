section FHAR
variable {p : Program} {l : Launch} {e : Env} {R : Room} {s : State} {m : MethodId} {args : Array Value} {below : List Frame} {meth : Method} {c : Code} {D : va_G} {cl : List vw_C} {Ts : List Cond} {f0 r f : fh_M} {own : String} {cc : ByteArray} {nL : Nat} {Q : State → Prop} {ce sl pc : Nat} {lv : List (Nat × Value)} {st : List Value} {Qm : fh_R → fh_M → Prop} {mc ms : Nat}
theorem g_aret {v : Value} {rt : FieldType} (X : fh_X p l s m args meth c D cl Ts f0 r own cc nL) (hr : meth.sig.returnType = some rt) (hrt : (∃ n, rt = .object n) ∨ ∃ t, rt = .array t) (hv : v = .null ∨ ∃ a, v = .ref a) (d : decode cc pc = .ok (.areturn, 1)) (hc : ce ≤ mc) (hs : sl ≤ ms) (hq : Qm (.inl (some v)) f) : fh_G p l e R s m args below meth c D cl f0 nL (fh_MQ below D cl f0 Qm args s mc ms) ce sl f pc lv [v] := fun H locs ls hI hl =>
  W.widen hc hs (fh_mono (fh_done hI hq) (W.aret X.1 X.2.1 hr hrt hv (fun t ht _ => ⟨rfl, ht⟩) hI.2.1.2.2 d X.free))
/-- fewer cells are kept in mind -/
theorem g_less {f' : fh_M} (h : ∀ q y, f' q = some y → f q = some y) (hk : ∀ q, f0 q ≠ none → f' q ≠ none) (k : fh_G p l e R s m args below meth c D cl f0 nL Q ce sl f' pc lv st) : fh_G p l e R s m args below meth c D cl f0 nL Q ce sl f pc lv st := fun H locs ls hI hl =>
  k H locs ls ⟨hI.1.sub h, hI.2.1, fun q hq => by
    cases hq' : f' q with
    | none => exact absurd hq' hq
    | some y => exact hI.2.2.1 q (by rw [h q y hq']; exact fun z => by cases z), hk⟩ hl
end FHAR
theorem ini0 (cA : ClassId) (n : Nat) : vp_cell cA (n, .inl (fun q => nI ((fun _ => 0) q))) = arrV cA n (fun _ => defaultValue .int) := rfl
theorem iniL (cA : ClassId) (n : Nat) : vp_cell cA (n, .inr (.inl (fun _ => 0))) = arrV cA n (fun _ => defaultValue .long) := rfl
theorem iniB (cA : ClassId) (n : Nat) : vp_cell cA (n, .inl (fun q => sb_b ((fun _ => 0) q))) = arrV cA n (fun _ => defaultValue .byte) := rfl
theorem iniI (cA : ClassId) (n : Nat) : vp_cell cA (n, .inl (fun _ => 0)) = arrV cA n (fun _ => defaultValue .int) := rfl
