/-! THE MODEL: what it says and fills -/
theorem lay_sum {L : Nat → Nat} {u N : Nat} {f : Nat → Nat} (hf : ∀ j, f j < 256) : smf (fun i => lay L u f N (u + i)) (u + N - u) % 256 = smf f N % 256 := by
  rw [Nat.add_sub_cancel_left]
  congr 1
  exact smf_congr N (fun j hj => by rw [lay_at N j hj, Nat.mod_eq_of_lt (hf j)])
/-- the bytes of the first i rows said from 0 on -/
def sayF (J : Nat → Nat) (K : Nat → Int64) (z : Nat → Nat) (V : Nat → Int64) : Nat → Nat → Nat
  | 0 => J
  | i + 1 => lay (sayF J K z V i) (bySum z i) (ebt (K i) (z i) (V i)) (ebn (z i))
theorem sayF_is {J : Nat → Nat} {K V : Nat → Int64} {z : Nat → Nat} : ∀ n, (∀ i, i < n → okn (z i)) → ∀ q, q < bySum z n → sayF J K z V n q = ser K z V n q
  | 0 => fun _ q h => absurd h (Nat.not_lt_zero _)
  | n + 1 => fun hz q h => by
    rw [bySum] at h
    rw [sayF, ser]
    by_cases e : q < bySum z n
    · rw [if_pos e, lay_lo e]
      exact sayF_is n (fun i hi => hz i (by omega)) q e
    · rw [if_neg e, if_pos h]
      have e2 : q = bySum z n + (q - bySum z n) := by omega
      rw [e2, lay_at _ _ (by omega), Nat.mod_eq_of_lt (ebt_lt (hz n (by omega))), Nat.add_sub_cancel_left]
/-- rows said, marks left out where b holds -/
def sayM (b : Bool) (J : Nat → Nat) (K : Nat → Int64) (z : Nat → Nat) (V : Nat → Int64) : Nat → Nat → Nat
  | 0 => J
  | i + 1 => if b = true ∧ z i = 255 then sayM b J K z V i else lay (sayM b J K z V i) (bySum (mrk (K, z, V, i) b).2.1 (mrk (K, z, V, i) b).2.2.2) (ebt (K i) (z i) (V i)) (ebn (z i))
theorem sayM_is {b : Bool} {J : Nat → Nat} {K V : Nat → Int64} {z : Nat → Nat} : ∀ n, (∀ i, i < n → okn (z i)) → ∀ q, q < bySum (mrk (K, z, V, n) b).2.1 (mrk (K, z, V, n) b).2.2.2 → sayM b J K z V n q = ser (mrk (K, z, V, n) b).1 (mrk (K, z, V, n) b).2.1 (mrk (K, z, V, n) b).2.2.1 (mrk (K, z, V, n) b).2.2.2 q
  | 0 => fun _ q h => by
    have : bySum (mrk (K, z, V, 0) b).2.1 (mrk (K, z, V, 0) b).2.2.2 = 0 := by cases b <;> rfl
    rw [this] at h
    exact absurd h (Nat.not_lt_zero _)
  | n + 1 => fun hz q h => by
    rw [sayM]
    by_cases c : b = true ∧ z n = 255
    · obtain ⟨c1, c2⟩ := c
      subst c1
      rw [if_pos ⟨rfl, c2⟩]
      rw [mrk_n c2] at h ⊢
      exact sayM_is n (fun i hi => hz i (by omega)) q h
    · rw [if_neg c]
      obtain ⟨a1, a2, a3, a4, a5⟩ := mrk_a (K := K) (V := V) c
      obtain ⟨r1, r2, r3, r4⟩ := row_more a1 a2 a3 a4 a5
      rw [r1] at h
      by_cases e : q < bySum (mrk (K, z, V, n) b).2.1 (mrk (K, z, V, n) b).2.2.2
      · rw [lay_lo e, r3 q e]
        exact sayM_is n (fun i hi => hz i (by omega)) q e
      · have e2 : q = bySum (mrk (K, z, V, n) b).2.1 (mrk (K, z, V, n) b).2.2.2 + (q - bySum (mrk (K, z, V, n) b).2.1 (mrk (K, z, V, n) b).2.2.2) := by omega
        rw [e2, lay_at _ _ (by omega), Nat.mod_eq_of_lt (ebt_lt (hz n (by omega))), r4 _ (by omega)]
