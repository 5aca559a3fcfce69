/-! write, memory, pass, await of the reference -/
section ME
variable {L : Nat} {xs : Nat → Int32} {d : Nat} {C : Nat → zC} {u : zC} {a : Nat → Int32} {b : Nat → Int64} {M : Nat → Int64} {R : Nat → Nat} {V : Nat → RV}
def outB (x y : Int32) : Bool := decide (x < 0 ∨ y ≤ x)
theorem outB_f {x : Int32} {N : Nat} (hN : N < 2 ^ 31) (h : outB x (nI N) = false) : ∃ j : Nat, j < N ∧ x = nI j := by
  have h1 := of_decide_eq_false h
  rcases pk_ix x hN with h9 | h9 | h9
  · exact absurd (Or.inl h9) h1
  · exact absurd (Or.inr h9) h1
  · exact h9
set_option maxRecDepth 10000 in
theorem e_Mo_write {x : Int32} {v : Int64} : zE L xs (d + 1) m_Mo_write [.ref 20, .int x, .long v] (mV C u a b V M R) (.inl none) (mV C u (fu a 0 (if outB x (nI 8) then 1 else 0)) b V (if outB x (nI 8) then M else fu M x.toNatClampNeg v) R) := by
  refine ⟨0, Nat.zero_le _, ?_⟩
  refine zR_to 4 (st' := [.int (nI 8), .int x, .ref 20]) rfl ?_
  refine zR_i rfl rfl rfl rfl ⟨Nat.le_of_ble_eq_true rfl, Nat.le_of_ble_eq_true rfl, Nat.le_of_ble_eq_true rfl⟩ rfl (Nat.le_refl _) (e_Mo_out (x := x) (y := nI 8)) rfl rfl ?_
  rw [show decide (x < 0 ∨ nI 8 ≤ x) = outB x (nI 8) from rfl]
  cases ho : outB x (nI 8) with
  | true =>
    refine zR_to 32 (h1 := mV C u (fu a 0 1) b V M R) rfl ?_
    exact zR_e rfl rfl rfl rfl rfl rfl
  | false =>
    obtain ⟨j, hj, rfl⟩ := outB_f (by decide) ho
    refine zR_to 31 (st' := [.long v, .int (nI j), .ref 25]) (h1 := mV C u (fu a 0 0) b V M R) rfl ?_
    refine zM_put (n := j) rfl rfl hj rfl ?_
    rw [nI_clamp (by omega)]
    exact zR_e rfl rfl rfl rfl rfl rfl
set_option maxRecDepth 10000 in
theorem e_Mo_memory {x : Int32} : zE L xs (d + 1) m_Mo_memory [.ref 20, .int x] (mV C u a b V M R) (.inl (some (.long (if outB x (nI 8) then 0 else M x.toNatClampNeg)))) (mV C u (fu a 0 (if outB x (nI 8) then 1 else 0)) b V M R) := by
  refine ⟨0, Nat.zero_le _, ?_⟩
  refine zR_to 4 (st' := [.int (nI 8), .int x, .ref 20]) rfl ?_
  refine zR_i rfl rfl rfl rfl ⟨Nat.le_of_ble_eq_true rfl, Nat.le_of_ble_eq_true rfl, Nat.le_of_ble_eq_true rfl⟩ rfl (Nat.le_refl _) (e_Mo_out (x := x) (y := nI 8)) rfl rfl ?_
  rw [show decide (x < 0 ∨ nI 8 ≤ x) = outB x (nI 8) from rfl]
  cases ho : outB x (nI 8) with
  | true =>
    refine zR_to 35 (h1 := mV C u (fu a 0 1) b V M R) rfl ?_
    exact zR_e rfl rfl rfl rfl rfl rfl
  | false =>
    obtain ⟨j, hj, rfl⟩ := outB_f (by decide) ho
    refine zR_to 30 (st' := [.int (nI j), .ref 25]) (h1 := mV C u (fu a 0 0) b V M R) rfl ?_
    refine zM_get (n := j) rfl rfl hj rfl ?_
    rw [nI_clamp (by omega)]
    refine zR_to 35 rfl ?_
    exact zR_e rfl rfl rfl rfl rfl rfl
end ME
