/-! kind, exponent, significand of the reference -/
section KI
variable {L : Nat} {xs : Nat → Int32} {d : Nat} {C : Nat → zC} {u : zC} {a : Nat → Int32} {b : Nat → Int64} {M : Nat → Int64} {R : Nat → Nat} {V : Nat → RV}
set_option maxRecDepth 10000 in
theorem e_Mo_exponent {x : Int32} {n : Nat} (hn : a 7 = nI n) (hn8 : n ≤ 8) : zE L xs (d + 1) m_Mo_exponent [.ref 20, .int x] (mV C u a b V M R) (.inl (some (.int (if outB x (nI n) then 0 else re (V (n - 1 - x.toNatClampNeg)))))) (mV C u (fu a 0 (if outB x (nI n) then 1 else 0)) b V M R) := by
  refine ⟨0, Nat.zero_le _, ?_⟩
  refine zR_to 6 (st' := [.int (a 7), .int x, .ref 20]) rfl ?_
  rw [hn]
  refine zR_i rfl rfl rfl rfl ⟨Nat.le_of_ble_eq_true rfl, Nat.le_of_ble_eq_true rfl, Nat.le_of_ble_eq_true rfl⟩ rfl (Nat.le_refl _) (e_Mo_out (x := x) (y := nI n)) rfl rfl ?_
  rw [show decide (x < 0 ∨ nI n ≤ x) = outB x (nI n) from rfl]
  cases ho : outB x (nI n) with
  | true =>
    refine zR_to 44 (h1 := mV C u (fu a 0 1) b V M R) rfl ?_
    exact zR_e rfl rfl rfl rfl rfl rfl
  | false =>
    obtain ⟨j, hj, rfl⟩ := outB_f (by omega) ho
    refine zR_to 43 (st' := [.int (a 7 - 1 - nI j), .ref 23]) (h1 := mV C u (fu a 0 0) b V M R) rfl ?_
    rw [hn, nI_m1' (by omega), pk_sub (show j ≤ n - 1 by omega)]
    refine zX_get (n := n - 1 - j) rfl rfl (by omega) rfl ?_
    rw [nI_clamp (by omega)]
    exact zR_e rfl rfl rfl rfl rfl rfl
set_option maxRecDepth 10000 in
theorem e_Mo_significand {x : Int32} {n : Nat} (hn : a 7 = nI n) (hn8 : n ≤ 8) : zE L xs (d + 1) m_Mo_significand [.ref 20, .int x] (mV C u a b V M R) (.inl (some (.long (if outB x (nI n) then 0 else (V (n - 1 - x.toNatClampNeg)).2.2.2)))) (mV C u (fu a 0 (if outB x (nI n) then 1 else 0)) b V M R) := by
  refine ⟨0, Nat.zero_le _, ?_⟩
  refine zR_to 6 (st' := [.int (a 7), .int x, .ref 20]) rfl ?_
  rw [hn]
  refine zR_i rfl rfl rfl rfl ⟨Nat.le_of_ble_eq_true rfl, Nat.le_of_ble_eq_true rfl, Nat.le_of_ble_eq_true rfl⟩ rfl (Nat.le_refl _) (e_Mo_out (x := x) (y := nI n)) rfl rfl ?_
  rw [show decide (x < 0 ∨ nI n ≤ x) = outB x (nI n) from rfl]
  cases ho : outB x (nI n) with
  | true =>
    refine zR_to 44 (h1 := mV C u (fu a 0 1) b V M R) rfl ?_
    exact zR_e rfl rfl rfl rfl rfl rfl
  | false =>
    obtain ⟨j, hj, rfl⟩ := outB_f (by omega) ho
    refine zR_to 43 (st' := [.int (a 7 - 1 - nI j), .ref 24]) (h1 := mV C u (fu a 0 0) b V M R) rfl ?_
    rw [hn, nI_m1' (by omega), pk_sub (show j ≤ n - 1 by omega)]
    refine zS_get (n := n - 1 - j) rfl rfl (by omega) rfl ?_
    rw [nI_clamp (by omega)]
    exact zR_e rfl rfl rfl rfl rfl rfl
end KI
