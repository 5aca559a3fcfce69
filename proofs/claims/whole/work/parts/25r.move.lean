/-! move -/
section MV
variable {L : Nat} {xs : Nat → Int32} {d : Nat} {mi : ZM} {pc : Nat} {lv : zL} {st st' : List Value} {h h' : zH} {k k' : Nat} {o : zO} {pc' : Nat}
variable {C : Nat → zC} {u : zC} {a : Nat → Int32} {b : Nat → Int64} {M : Nat → Int64} {R : Nat → Nat} {V : Nat → RV}
theorem nI_m1' {n : Nat} (h : 1 ≤ n) : nI n - 1 = nI (n - 1) := by
  obtain ⟨m, rfl⟩ : ∃ m, n = m + 1 := ⟨n - 1, by omega⟩
  exact nI_pred m
set_option maxRecDepth 10000 in
theorem e_Mo_move10 {n j : Nat} (hn : a 7 = nI n) (hn8 : n ≤ 8) (hj : j < n) : zE L xs (d + 1) m_Mo_move [.ref 20, .int (nI 10), .int (nI j)] (mV C u a b V M R) (.inl (some (.int (a 5)))) (mV C u a b (fu (fu V (n - 1) (V (n - 1 - j))) (n - 1 - j) (V 8)) M R) := by
  refine ⟨0, Nat.zero_le _, ?_⟩
  refine zR_to 21 (st' := [.int (a 7 - 1), .int (a 7 - 1 - nI j), .ref 20]) rfl ?_
  rw [hn, nI_m1' (by omega), pk_sub (show j ≤ n - 1 by omega)]
  refine zR_v rfl rfl rfl rfl rfl ⟨rfl, Nat.le_of_ble_eq_true rfl, Nat.le_of_ble_eq_true rfl⟩ rfl (Nat.le_refl _) (e_Mo_copy (f := n - 1 - j) (t := n - 1) (by omega) (by omega)) rfl rfl ?_
  refine zR_to 35 (st' := [.int (a 7 - 1 - nI j), .int (nI 8), .ref 20]) rfl ?_
  rw [hn, nI_m1' (by omega), pk_sub (show j ≤ n - 1 by omega)]
  refine zR_v rfl rfl rfl rfl rfl ⟨rfl, Nat.le_of_ble_eq_true rfl, Nat.le_of_ble_eq_true rfl⟩ rfl (Nat.le_refl _) (e_Mo_copy (f := 8) (t := n - 1 - j) (by decide) (by omega)) rfl rfl ?_
  rw [fu_n (show (8 : Nat) ≠ n - 1 by omega)]
  refine zR_to 101 (st' := [.int (a 5)]) rfl ?_
  exact zR_e rfl rfl rfl rfl rfl rfl
set_option maxRecDepth 10000 in
theorem e_Mo_move12 {n : Nat} {x : Int32} (hn : a 7 = nI n) (hn1 : 1 ≤ n) : zE L xs d m_Mo_move [.ref 20, .int (nI 12), .int x] (mV C u a b V M R) (.inl (some (.int (a 5)))) (mV C u (fu a 7 (nI (n - 1))) b V M R) := by
  refine ⟨0, Nat.zero_le _, ?_⟩
  refine zR_to 51 (st' := [.int (a 7 - 1), .ref 20]) rfl ?_
  rw [hn, nI_m1' hn1]
  refine zR_to 101 (st' := [.int (a 5)]) (h1 := mV C u (fu a 7 (nI (n - 1))) b V M R) rfl ?_
  exact zR_e rfl rfl rfl rfl rfl rfl
set_option maxRecDepth 10000 in
theorem e_Mo_move11 {n j : Nat} (hn : a 7 = nI n) (hn8 : n ≤ 8) (hj : j < n) : zE L xs (d + 2) m_Mo_move [.ref 20, .int (nI 11), .int (nI j)] (mV C u a b V M R) (.inl (some (.int (chO a n 0)))) (mV C u (chA a n 0) b (chV a (fu V 10 (V (n - 1 - j))) n 0) M R) := by
  refine ⟨0, Nat.zero_le _, ?_⟩
  refine zR_to 119 (st' := [.int (nI 10), .int (a 7 - 1 - nI j), .ref 20]) rfl ?_
  rw [hn, nI_m1' (by omega), pk_sub (show j ≤ n - 1 by omega)]
  refine zR_v rfl rfl rfl rfl rfl ⟨rfl, Nat.le_of_ble_eq_true rfl, Nat.le_of_ble_eq_true rfl⟩ rfl (Nat.le_refl _) (e_Mo_copy (f := n - 1 - j) (t := 10) (by omega) (by decide)) rfl rfl ?_
  refine zR_to 148 (st' := [.int (nI 0), .ref 20]) rfl ?_
  refine zR_v rfl rfl rfl rfl rfl ⟨rfl, Nat.le_of_ble_eq_true rfl, Nat.le_of_ble_eq_true rfl⟩ rfl (Nat.le_refl _) (e_Mo_change (n := n) (g := 0) hn hn8 (by omega)) rfl rfl ?_
  exact zR_e rfl rfl rfl rfl rfl rfl
set_option maxRecDepth 10000 in
/-- PUSH_ONE (c = 1), PUSH_ZERO (c = 0) -/
theorem e_Mo_move14 {n c : Nat} {x : Int32} (hcc : c = 0 ∨ c = 1) (hn : a 7 = nI n) (hn8 : n ≤ 8) (hR : Rok R) : zEr L xs (d + 4) m_Mo_move [.ref 20, .int (nI (15 - c)), .int x] (mV C u a b V M R) (.inl (some (.int (chO a n 0)))) C u (chA a n 0) b (chV a (fu V 10 (exV false c)) n 0) M := by
  have hc1 : c < 65536 := by omega
  have hR1 : Rok (fu R 0 c) := hR.fu (Nat.lt_of_lt_of_le hc1 (Nat.pow_le_pow_right (n := 65536) (i := 1) (by decide) (by decide)))
  obtain ⟨R', hR', hex⟩ := e_Mo_exactly (L := L) (xs := xs) (d := d) (C := C) (u := u) (a := a) (b := b) (V := V) (M := M) (R := fu R 0 c) (N := c) (mb := false) (by rcases hcc with rfl | rfl <;> decide) hR1 fu_s
  have fin : ∀ z : zL, zR L xs (d + 4) m_Mo_move 138 [(0, .ref 20)] [.long (lN c), .int (nI 0), .ref 20] (mV C u a b V M R) 0 (.inl (some (.int (chO a n 0)))) (mV C u (chA a n 0) b (chV a (fu V 10 (exV false c)) n 0) M R') 0 := by
    intro _
    refine zR_v rfl rfl rfl rfl rfl ⟨rfl, Nat.le_of_ble_eq_true rfl, Nat.le_of_ble_eq_true rfl⟩ rfl (Nat.le_refl _) (e_Mo_put (r := 0) (n := c) (by decide) (by omega) hR) rfl rfl ?_
    refine zR_to 143 (st' := [.int (bI false), .ref 20]) rfl ?_
    refine zR_v rfl rfl rfl rfl rfl ⟨rfl, Nat.le_of_ble_eq_true rfl, Nat.le_of_ble_eq_true rfl⟩ rfl (Nat.le_refl _) hex rfl rfl ?_
    refine zR_to 148 (st' := [.int (nI 0), .ref 20]) rfl ?_
    refine zR_v rfl rfl rfl rfl rfl ⟨rfl, Nat.le_of_ble_eq_true rfl, Nat.le_of_ble_eq_true rfl⟩ rfl (Nat.le_refl _) (e_Mo_change (n := n) (g := 0) hn hn8 (by omega)) rfl rfl ?_
    exact zR_e rfl rfl rfl rfl rfl rfl
  refine ⟨R', hR', 0, Nat.zero_le _, ?_⟩
  rcases hcc with rfl | rfl
  · refine zR_to 138 rfl ?_
    exact zR_w (fin []) rfl rfl ⟨rfl, trivial⟩
  · refine zR_to 138 rfl ?_
    exact zR_w (fin []) rfl rfl ⟨rfl, trivial⟩
end MV
