/-! control and the head of operate of the reference -/
def ctB (p r m : Int32) : Bool := (decide (p ≠ 24) && (decide (p ≠ 53) && decide (p ≠ 64))) || (outB r (nI 4) || outB m (nI 32))
def plc (op : Nat) : Bool := decide (op = 10 ∨ op = 11)
/-- the ints after begin -/
def beA (a : Nat → Int32) (B t : Nat) : Nat → Int32 := fu (fu (goA (fu a 0 0) B B) 13 (nI t)) 5 0
section OP
variable {L : Nat} {xs : Nat → Int32} {d : Nat} {C : Nat → zC} {u : zC} {a : Nat → Int32} {b : Nat → Int64} {M : Nat → Int64} {R : Nat → Nat} {V : Nat → RV}
set_option maxRecDepth 10000 in
theorem e_Mo_control {p r m : Int32} : zE L xs (d + 1) m_Mo_control [.ref 20, .int p, .int r, .int m] (mV C u a b V M R) (.inl none) (mV C u (if ctB p r m then fu a 0 1 else fu (fu (fu (fu a 0 0) 1 p) 2 r) 3 m) b V M R) := by
  have bad : ctB p r m = true → zR L xs (d + 1) m_Mo_control 36 [(0, .ref 20), (1, .int p), (2, .int r), (3, .int m)] [.ref 20] (mV C u a b V M R) 0 (.inl none) (mV C u (if ctB p r m then fu a 0 1 else fu (fu (fu (fu a 0 0) 1 p) 2 r) 3 m) b V M R) 0 := by
    intro h
    rw [h]
    refine zR_to 51 (h1 := mV C u (fu a 0 1) b V M R) rfl ?_
    exact zR_e rfl rfl rfl rfl rfl rfl
  have mid : (p = 24 ∨ p = 53 ∨ p = 64) → zR L xs (d + 1) m_Mo_control 19 [(0, .ref 20), (1, .int p), (2, .int r), (3, .int m)] [.ref 20] (mV C u a b V M R) 0 (.inl none) (mV C u (if ctB p r m then fu a 0 1 else fu (fu (fu (fu a 0 0) 1 p) 2 r) 3 m) b V M R) 0 := by
    intro hp
    refine zR_to 21 (st' := [.int (nI 4), .int r, .ref 20]) rfl ?_
    refine zR_i rfl rfl rfl rfl ⟨Nat.le_of_ble_eq_true rfl, Nat.le_of_ble_eq_true rfl, Nat.le_of_ble_eq_true rfl⟩ rfl (Nat.le_refl _) (e_Mo_out (x := r) (y := nI 4)) rfl rfl ?_
    rw [show decide (r < 0 ∨ nI 4 ≤ r) = outB r (nI 4) from rfl]
    cases h1 : outB r (nI 4) with
    | true => exact zR_to 36 rfl (bad (by unfold ctB; rw [h1]; simp))
    | false =>
      refine zR_to 30 (st' := [.int (nI 32), .int m, .ref 20]) rfl ?_
      refine zR_i rfl rfl rfl rfl ⟨Nat.le_of_ble_eq_true rfl, Nat.le_of_ble_eq_true rfl, Nat.le_of_ble_eq_true rfl⟩ rfl (Nat.le_refl _) (e_Mo_out (x := m) (y := nI 32)) rfl rfl ?_
      rw [show decide (m < 0 ∨ nI 32 ≤ m) = outB m (nI 32) from rfl]
      cases h2 : outB m (nI 32) with
      | true => exact zR_to 36 rfl (bad (by unfold ctB; rw [h2]; simp))
      | false =>
        have h3 : ctB p r m = false := by
          unfold ctB
          rw [h1, h2]
          rcases hp with rfl | rfl | rfl <;> rfl
        rw [h3]
        refine zR_to 67 (h1 := mV C u (fu (fu (fu (fu a 0 0) 1 p) 2 r) 3 m) b V M R) rfl ?_
        exact zR_e rfl rfl rfl rfl rfl rfl
  refine ⟨0, Nat.zero_le _, ?_⟩
  refine zR_to 4 (st' := [.int 24, .int p, .ref 20]) rfl ?_
  refine zR_m 1 rfl ?_
  refine zR_if (fun h => mid (Or.inl h)) (fun h1 => ?_)
  refine zR_to 10 (st' := [.int 53, .int p, .ref 20]) rfl ?_
  refine zR_m 1 rfl ?_
  refine zR_if (fun h => mid (Or.inr (Or.inl h))) (fun h2 => ?_)
  refine zR_to 16 (st' := [.int 64, .int p, .ref 20]) rfl ?_
  refine zR_m 1 rfl ?_
  refine zR_if (fun h => zR_to 36 rfl (bad ?_)) (fun h => mid (Or.inr (Or.inr (Decidable.of_not_not h))))
  unfold ctB
  rw [decide_eq_true (show p ≠ 24 from h1), decide_eq_true (show p ≠ 53 from h2), decide_eq_true (show p ≠ 64 from h)]
  rfl
set_option maxRecDepth 10000 in
theorem h_Mo_operate {op B : Nat} {x : Int32} {o : zO} {h9 : zH} (hop : op < 16) (hx : plc op = true → outB x (nI 8) = false) (hB : a 13 = nI B) (hB2 : B ≤ 1000) (hce : ∀ c, a 14 = c → ¬ c < 0 → ∃ j : Nat, j < 8 ∧ c = nI j)
    (hr : zR L xs (d + 2) m_Mo_operate 66 [(3, .int (bI (plc op))), (0, .ref 20), (1, .int (nI op)), (2, .int x)] [] (mV C u (beA a B (costN op)) (goB b B) V (goM (fu a 0 0) b M B B) R) 0 o h9 0) : zE L xs (d + 2) m_Mo_operate [.ref 20, .int (nI op), .int x] (mV C u a b V M R) o h9 := by
  have ho : decide (nI op < 0 ∨ nI 16 ≤ nI op) = false := decide_eq_false (fun h9 => by
    rcases h9 with h9 | h9
    · exact nI_pos (n := op) (by omega) h9
    · exact nI_ge (a := op) (b := 16) hop (by decide) h9)
  have kk : ∀ pl : Bool, plc op = pl → zR L xs (d + 2) m_Mo_operate 58 [(3, .int (bI pl)), (0, .ref 20), (1, .int (nI op)), (2, .int x)] [] (mV C u (fu a 0 0) b V M R) 0 o h9 0 := by
    intro pl hpl
    rw [hpl] at hr
    refine zR_to 60 (st' := [.int (nI op), .ref 20]) rfl ?_
    refine zR_i rfl rfl rfl rfl ⟨Nat.le_of_ble_eq_true rfl, Nat.le_of_ble_eq_true rfl, Nat.le_of_ble_eq_true rfl⟩ rfl (Nat.le_refl _) (e_Mo_cost hop) rfl rfl ?_
    exact zR_v rfl rfl rfl rfl rfl ⟨rfl, Nat.le_of_ble_eq_true rfl, Nat.le_of_ble_eq_true rfl⟩ rfl (Nat.le_refl _) (e_Mo_begin (a := fu a 0 0) (B := B) (t := costN op) hB hB2 hce) rfl rfl hr
  have go : ∀ pl : Bool, plc op = pl → zR L xs (d + 2) m_Mo_operate 18 [(3, .int (bI pl)), (0, .ref 20), (1, .int (nI op)), (2, .int x)] [] (mV C u a b V M R) 0 o h9 0 := by
    intro pl hpl
    refine zR_to 22 (st' := [.int (nI 16), .int (nI op), .ref 20]) rfl ?_
    refine zR_i rfl rfl rfl rfl ⟨Nat.le_of_ble_eq_true rfl, Nat.le_of_ble_eq_true rfl, Nat.le_of_ble_eq_true rfl⟩ rfl (Nat.le_refl _) (e_Mo_out (x := nI op) (y := nI 16)) rfl rfl ?_
    rw [ho]
    cases pl with
    | false => exact zR_to 58 (h1 := mV C u (fu a 0 0) b V M R) rfl (kk false hpl)
    | true =>
      refine zR_to 35 (st' := [.int (nI 8), .int x, .ref 20]) rfl ?_
      refine zR_i rfl rfl rfl rfl ⟨Nat.le_of_ble_eq_true rfl, Nat.le_of_ble_eq_true rfl, Nat.le_of_ble_eq_true rfl⟩ rfl (Nat.le_refl _) (e_Mo_out (x := x) (y := nI 8)) rfl rfl ?_
      rw [show decide (x < 0 ∨ nI 8 ≤ x) = false from hx hpl]
      exact zR_to 58 (h1 := mV C u (fu a 0 0) b V M R) rfl (kk true hpl)
  refine ⟨0, Nat.zero_le _, ?_⟩
  refine zR_to 3 (st' := [.int (nI 10), .int (nI op)]) rfl ?_
  refine zR_m 1 rfl ?_
  refine zR_if (fun h => zR_to 18 rfl (go true (decide_eq_true (Or.inl ((nI_eq (by omega) (by omega)).mp h))))) (fun h1 => ?_)
  refine zR_to 9 (st' := [.int (nI 11), .int (nI op)]) rfl ?_
  refine zR_m 1 rfl ?_
  refine zR_if (fun h => zR_to 18 rfl (go false (decide_eq_false (fun h9 => ?_)))) (fun h => zR_to 18 rfl (go true (decide_eq_true (Or.inr ((nI_eq (by omega) (by omega)).mp (Decidable.of_not_not h))))))
  rcases h9 with rfl | rfl
  · exact h1 rfl
  · exact h rfl
set_option maxRecDepth 10000 in
/-- a refused argument -/
theorem e_Mo_operate0 {y x : Int32} (hb : outB y (nI 16) = true ∨ ((y = nI 10 ∨ y = nI 11) ∧ outB x (nI 8) = true)) : zE L xs (d + 2) m_Mo_operate [.ref 20, .int y, .int x] (mV C u a b V M R) (.inl (some (.int 0))) (mV C u (fu a 0 1) b V M R) := by
  have bad : ∀ z : Int32, zR L xs (d + 2) m_Mo_operate 41 [(3, .int z), (0, .ref 20), (1, .int y), (2, .int x)] [.ref 20] (mV C u a b V M R) 0 (.inl (some (.int 0))) (mV C u (fu a 0 1) b V M R) 0 := by
    intro z
    refine zR_to 57 (st' := [.int 0]) (h1 := mV C u (fu a 0 1) b V M R) rfl ?_
    exact zR_e rfl rfl rfl rfl rfl rfl
  have go : ∀ pl : Bool, (y = nI 10 ∨ y = nI 11 → pl = true) → zR L xs (d + 2) m_Mo_operate 18 [(3, .int (bI pl)), (0, .ref 20), (1, .int y), (2, .int x)] [] (mV C u a b V M R) 0 (.inl (some (.int 0))) (mV C u (fu a 0 1) b V M R) 0 := by
    intro pl hpl
    refine zR_to 22 (st' := [.int (nI 16), .int y, .ref 20]) rfl ?_
    refine zR_i rfl rfl rfl rfl ⟨Nat.le_of_ble_eq_true rfl, Nat.le_of_ble_eq_true rfl, Nat.le_of_ble_eq_true rfl⟩ rfl (Nat.le_refl _) (e_Mo_out (x := y) (y := nI 16)) rfl rfl ?_
    rw [show decide (y < 0 ∨ nI 16 ≤ y) = outB y (nI 16) from rfl]
    cases h1 : outB y (nI 16) with
    | true => exact zR_to 41 rfl (bad _)
    | false =>
      rcases hb with h9 | ⟨h9, h8⟩
      · rw [h1] at h9
        cases h9
      · obtain rfl := hpl h9
        refine zR_to 35 (st' := [.int (nI 8), .int x, .ref 20]) rfl ?_
        refine zR_i rfl rfl rfl rfl ⟨Nat.le_of_ble_eq_true rfl, Nat.le_of_ble_eq_true rfl, Nat.le_of_ble_eq_true rfl⟩ rfl (Nat.le_refl _) (e_Mo_out (x := x) (y := nI 8)) rfl rfl ?_
        rw [show decide (x < 0 ∨ nI 8 ≤ x) = true from h8]
        exact zR_to 41 rfl (bad _)
  refine ⟨0, Nat.zero_le _, ?_⟩
  refine zR_to 3 (st' := [.int (nI 10), .int y]) rfl ?_
  refine zR_m 1 rfl ?_
  refine zR_if (fun h => zR_to 18 rfl (go true (fun _ => rfl))) (fun h1 => ?_)
  refine zR_to 9 (st' := [.int (nI 11), .int y]) rfl ?_
  refine zR_m 1 rfl ?_
  refine zR_if (fun h => zR_to 18 rfl (go false (fun h9 => ?_))) (fun h => zR_to 18 rfl (go true (fun _ => rfl)))
  rcases h9 with h9 | h9
  · exact absurd h9 h1
  · exact absurd h9 h
end OP
