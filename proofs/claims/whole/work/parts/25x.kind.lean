section KI
variable {L : Nat} {xs : Nat → Int32} {d : Nat} {C : Nat → zC} {u : zC} {a : Nat → Int32} {b : Nat → Int64} {M : Nat → Int64} {R : Nat → Nat} {V : Nat → RV}
set_option maxRecDepth 10000 in
theorem e_Mo_kind {x : Int32} {n : Nat} (hn : a 7 = nI n) (hn8 : n ≤ 8) : zE L xs (d + 1) m_Mo_kind [.ref 20, .int x] (mV C u a b V M R) (.inl (some (.int (if outB x (nI n) then 0 else rk (V (n - 1 - x.toNatClampNeg)) + (if rn (V (n - 1 - x.toNatClampNeg)) then 4 else 0))))) (mV C u (fu a 0 (if outB x (nI n) then 1 else 0)) b V M R) := by
  refine ⟨0, Nat.zero_le _, ?_⟩
  refine zR_to 6 (st' := [.int (a 7), .int x, .ref 20]) rfl ?_
  rw [hn]
  refine zR_i rfl rfl rfl rfl ⟨Nat.le_of_ble_eq_true rfl, Nat.le_of_ble_eq_true rfl, Nat.le_of_ble_eq_true rfl⟩ rfl (Nat.le_refl _) (e_Mo_out (x := x) (y := nI n)) rfl rfl ?_
  rw [show decide (x < 0 ∨ nI n ≤ x) = outB x (nI n) from rfl]
  cases ho : outB x (nI n) with
  | true =>
    refine zR_to 66 (h1 := mV C u (fu a 0 1) b V M R) rfl ?_
    exact zR_e rfl rfl rfl rfl rfl rfl
  | false =>
    obtain ⟨j, hj, rfl⟩ := outB_f (by omega) ho
    refine zR_to 43 (st' := [.int (a 7 - 1 - nI j), .ref 21]) (h1 := mV C u (fu a 0 0) b V M R) rfl ?_
    rw [hn, nI_m1' (by omega), pk_sub (show j ≤ n - 1 by omega)]
    refine zK_get (n := n - 1 - j) rfl rfl (by omega) rfl ?_
    refine zR_to 56 (st' := [.int (a 7 - 1 - nI j), .ref 22, .int (rk (V (n - 1 - j)))]) rfl ?_
    rw [hn, nI_m1' (by omega), pk_sub (show j ≤ n - 1 by omega)]
    refine zB_get (n := n - 1 - j) rfl rfl (by omega) rfl ?_
    rw [nI_clamp (by omega)]
    show zR _ _ _ _ _ _ [Value.int (bI (rn (V (n - 1 - j)))), Value.int (rk (V (n - 1 - j)))] _ _ _ _ _
    cases hb : rn (V (n - 1 - j)) with
    | true =>
      refine zR_to 66 (st' := [.int (rk (V (n - 1 - j)) + 4)]) rfl ?_
      exact zR_e rfl rfl rfl rfl rfl rfl
    | false =>
      refine zR_to 66 (st' := [.int (rk (V (n - 1 - j)) + 0)]) rfl ?_
      exact zR_e rfl rfl rfl rfl rfl rfl
end KI
