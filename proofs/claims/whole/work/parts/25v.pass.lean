/-! pass, await of the reference -/
section PA
variable {L : Nat} {xs : Nat → Int32} {d : Nat} {C : Nat → zC} {u : zC} {a : Nat → Int32} {b : Nat → Int64} {M : Nat → Int64} {R : Nat → Nat} {V : Nat → RV}
set_option maxRecDepth 10000 in
theorem e_Mo_pass0 {x : Int32} (ho : outB x (nI 1001) = true) : zE L xs (d + 1) m_Mo_pass [.ref 20, .int x] (mV C u a b V M R) (.inl none) (mV C u (fu a 0 1) b V M R) := by
  refine ⟨0, Nat.zero_le _, ?_⟩
  refine zR_to 5 (st' := [.int (nI 1001), .int x, .ref 20]) rfl ?_
  refine zR_i rfl rfl rfl rfl ⟨Nat.le_of_ble_eq_true rfl, Nat.le_of_ble_eq_true rfl, Nat.le_of_ble_eq_true rfl⟩ rfl (Nat.le_refl _) (e_Mo_out (x := x) (y := nI 1001)) rfl rfl ?_
  rw [show decide (x < 0 ∨ nI 1001 ≤ x) = outB x (nI 1001) from rfl, ho]
  refine zR_to 31 (h1 := mV C u (fu a 0 1) b V M R) rfl ?_
  exact zR_e rfl rfl rfl rfl rfl rfl
set_option maxRecDepth 10000 in
theorem e_Mo_pass1 {B n : Nat} (hn : n < 1001) (hB : a 13 = nI B) (hB2 : B ≤ 1000) (hce : ∀ c, a 14 = c → ¬ c < 0 → ∃ j : Nat, j < 8 ∧ c = nI j) : zE L xs (d + 1) m_Mo_pass [.ref 20, .int (nI n)] (mV C u a b V M R) (.inl none) (mV C u (goA (fu a 0 0) B n) (goB b n) V (goM (fu a 0 0) b M B n) R) := by
  have ho : outB (nI n) (nI 1001) = false := decide_eq_false (fun h9 => by
    rcases h9 with h9 | h9
    · exact nI_pos (n := n) (by omega) h9
    · exact nI_ge (a := n) (b := 1001) hn (by decide) h9)
  refine ⟨0, Nat.zero_le _, ?_⟩
  refine zR_to 5 (st' := [.int (nI 1001), .int (nI n), .ref 20]) rfl ?_
  refine zR_i rfl rfl rfl rfl ⟨Nat.le_of_ble_eq_true rfl, Nat.le_of_ble_eq_true rfl, Nat.le_of_ble_eq_true rfl⟩ rfl (Nat.le_refl _) (e_Mo_out (x := nI n) (y := nI 1001)) rfl rfl ?_
  rw [show decide (nI n < 0 ∨ nI 1001 ≤ nI n) = outB (nI n) (nI 1001) from rfl, ho]
  refine zR_to 28 (st' := [.int (nI n), .ref 20]) (h1 := mV C u (fu a 0 0) b V M R) rfl ?_
  refine zR_v rfl rfl rfl rfl rfl ⟨rfl, Nat.le_of_ble_eq_true rfl, Nat.le_of_ble_eq_true rfl⟩ rfl (Nat.le_refl _) (e_Mo_goOn (a := fu a 0 0) (B := B) (n := n) hB hB2 (by omega) hce) rfl rfl ?_
  exact zR_e rfl rfl rfl rfl rfl rfl
set_option maxRecDepth 10000 in
theorem e_Mo_await {B : Nat} (hB : a 13 = nI B) (hB2 : B ≤ 1000) (hce : ∀ c, a 14 = c → ¬ c < 0 → ∃ j : Nat, j < 8 ∧ c = nI j) : zE L xs (d + 1) m_Mo_await [.ref 20] (mV C u a b V M R) (.inl (some (.int (nI B)))) (mV C u (goA (fu a 0 0) B B) (goB b B) V (goM (fu a 0 0) b M B B) R) := by
  refine ⟨0, Nat.zero_le _, ?_⟩
  refine zR_to 9 (st' := [.int (a 13)]) (h1 := mV C u (fu a 0 0) b V M R) rfl ?_
  rw [hB]
  refine zR_to 12 (st' := [.int (nI B), .ref 20]) rfl ?_
  refine zR_v rfl rfl rfl rfl rfl ⟨rfl, Nat.le_of_ble_eq_true rfl, Nat.le_of_ble_eq_true rfl⟩ rfl (Nat.le_refl _) (e_Mo_goOn (a := fu a 0 0) (B := B) (n := B) hB hB2 hB2 hce) rfl rfl ?_
  refine zR_to 16 rfl ?_
  exact zR_e rfl rfl rfl rfl rfl rfl
end PA
