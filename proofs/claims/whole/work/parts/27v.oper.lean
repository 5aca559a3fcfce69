/-! operate of the class: its parts -/
def psh (op : Nat) : Bool := decide (op = 7 ∨ op = 11 ∨ op = 14 ∨ op = 15)
/-- the stack's places -/
def stk (A : Nat → Option Nat) (S : Nat → Nat) : Prop := (∀ i, i < 8 → A i = some (S i) ∧ 2 ≤ S i ∧ S i ≤ 9) ∧ ∀ i k, i < 8 → k < 8 → S i = S k → i = k
theorem stk_R {A : Nat → Option Nat} {S : Nat → Nat} (h : stk A S) {i : Nat} (hi : i < 8) : RP (S i) ∧ S i ≠ 10 ∧ S i ≠ 11 ∧ S i ≠ 17 := by
  have := h.1 i hi
  refine ⟨Or.inl ⟨this.2.1, by omega⟩, by omega, by omega, by omega⟩
section OP
variable {L : Nat} {xs : Nat → Int32} {d : Nat} {h : zH} {f : Nat → Int32} {g : Nat → Int64} {sg : Bool} {A : Nat → Option Nat} {W : Nat → RV} {x y v : XV} {Mc : Nat → Int64} {T : List zC} {S : Nat → Nat}
theorem c_SR_namesPlace {op : Nat} (hop : op < 16) : zE L xs d m_SR_namesPlace [.int (nI op)] h (.inl (some (.int (bI (plc op))))) h := by
  obtain rfl | rfl | rfl | rfl | rfl | rfl | rfl | rfl | rfl | rfl | rfl | rfl | rfl | rfl | rfl | rfl : op = 0 ∨ op = 1 ∨ op = 2 ∨ op = 3 ∨ op = 4 ∨ op = 5 ∨ op = 6 ∨ op = 7 ∨ op = 8 ∨ op = 9 ∨ op = 10 ∨ op = 11 ∨ op = 12 ∨ op = 13 ∨ op = 14 ∨ op = 15 := by omega
  all_goals exact zE_m (n := 20) rfl (Nat.le_refl _)
theorem c_SR_pushes {op : Nat} (hop : op < 16) : zE L xs d m_SR_pushes [.int (nI op)] h (.inl (some (.int (bI (psh op))))) h := by
  obtain rfl | rfl | rfl | rfl | rfl | rfl | rfl | rfl | rfl | rfl | rfl | rfl | rfl | rfl | rfl | rfl : op = 0 ∨ op = 1 ∨ op = 2 ∨ op = 3 ∨ op = 4 ∨ op = 5 ∨ op = 6 ∨ op = 7 ∨ op = 8 ∨ op = 9 ∨ op = 10 ∨ op = 11 ∨ op = 12 ∨ op = 13 ∨ op = 14 ∨ op = 15 := by omega
  all_goals exact zE_m (n := 30) rfl (Nat.le_refl _)
theorem tab_T {op : Nat} (hop : op < 16) : zA_TICKS.getD op 0 = nI (costN op) := by
  obtain rfl | rfl | rfl | rfl | rfl | rfl | rfl | rfl | rfl | rfl | rfl | rfl | rfl | rfl | rfl | rfl : op = 0 ∨ op = 1 ∨ op = 2 ∨ op = 3 ∨ op = 4 ∨ op = 5 ∨ op = 6 ∨ op = 7 ∨ op = 8 ∨ op = 9 ∨ op = 10 ∨ op = 11 ∨ op = 12 ∨ op = 13 ∨ op = 14 ∨ op = 15 := by omega
  all_goals rfl
theorem tab_N {op j : Nat} (hop : op < 16) (hp : plc op = false) : zA_NEEDED.getD op 0 = nI (lstN op j) := by
  obtain rfl | rfl | rfl | rfl | rfl | rfl | rfl | rfl | rfl | rfl | rfl | rfl | rfl | rfl | rfl | rfl : op = 0 ∨ op = 1 ∨ op = 2 ∨ op = 3 ∨ op = 4 ∨ op = 5 ∨ op = 6 ∨ op = 7 ∨ op = 8 ∨ op = 9 ∨ op = 10 ∨ op = 11 ∨ op = 12 ∨ op = 13 ∨ op = 14 ∨ op = 15 := by omega
  all_goals first | rfl | (exact absurd hp (by decide))
theorem costN_le (op : Nat) : costN op ≤ 20 ∧ 2 ≤ costN op := by
  unfold costN
  repeat' split
  all_goals omega
/-- whether an operation is possible -/
def psb (op l n : Nat) (v : RV) : Bool := decide (l ≤ n) && ((!psh op || decide (n < 8)) && (decide (op ≠ 7) || decide (rk v = 1)))
set_option maxRecDepth 10000 in
theorem c_SR_isPossible {op n j : Nat} {z : Int32} (hS : stk A S) (hop : op < 16) (hn : f 0 = nI n) (hn8 : n ≤ 8) (hz : plc op = true → z = nI j ∧ j < 8) : zE L xs (d + 1) m_SR_isPossible [.ref 0, .int (nI op), .int z] (sH f g sg A W x y Mc T) (.inl (some (.int (bI (psb op (lstN op j) n (W (S (n - 1)))))))) (sH f g sg A W x y Mc T) := by
  have hl9 : lstN op j ≤ 9 := by
    unfold lstN
    split
    · omega
    · split
      · rename_i h
        have := (hz (decide_eq_true h)).2
        omega
      · split <;> omega
  have no : psb op (lstN op j) n (W (S (n - 1))) = false → ∀ l9 : Int32, zR L xs (d + 1) m_SR_isPossible 43 [(3, .int (nI (lstN op j))), (0, .ref 0), (1, .int (nI op)), (2, .int z)] [] (sH f g sg A W x y Mc T) 0 (.inl (some (.int (bI (psb op (lstN op j) n (W (S (n - 1)))))))) (sH f g sg A W x y Mc T) 0 := fun h _ => by
    rw [h]
    exact zR_to 44 rfl (zR_e rfl rfl rfl rfl rfl rfl)
  -- the last question
  have q7 : lstN op j ≤ n → (!psh op || decide (n < 8)) = true → zR L xs (d + 1) m_SR_isPossible 45 [(3, .int (nI (lstN op j))), (0, .ref 0), (1, .int (nI op)), (2, .int z)] [] (sH f g sg A W x y Mc T) 0 (.inl (some (.int (bI (psb op (lstN op j) n (W (S (n - 1)))))))) (sH f g sg A W x y Mc T) 0 := fun hl hp => by
    refine zR_to 48 (st' := [.int (nI 7), .int (nI op)]) rfl ?_
    refine zR_m 1 rfl ?_
    refine zR_if (fun h7 => ?_) (fun h7 => ?_)
    · have hne : op ≠ 7 := fun h9 => h7 (by rw [h9])
      rw [show psb op (lstN op j) n (W (S (n - 1))) = true from by unfold psb; rw [decide_eq_true hl, hp, decide_eq_true hne]; rfl]
      exact zR_to 68 rfl (zR_e rfl rfl rfl rfl rfl rfl)
    · have he : op = 7 := (nI_eq (by omega) (by decide)).mp (Decidable.of_not_not h7)
      have h1n : 1 ≤ n := by
        rw [he] at hl
        exact hl
      refine zR_n 2 rfl ?_
      refine zR_v rfl rfl rfl rfl rfl ⟨rfl, Nat.le_of_ble_eq_true rfl, Nat.le_of_ble_eq_true rfl⟩ rfl (Nat.le_refl _) (c_SR_st (k := 0) (s := S (n - 1)) hn (by omega) hn8 (hS.1 (n - 1) (by omega)).1) rfl rfl ?_
      refine zW_g (stk_R hS (show n - 1 < 8 by omega)).1 rfl rfl rfl rfl rfl ?_
      refine zR_n 2 rfl ?_
      refine zR_if (fun h1 => ?_) (fun h1 => ?_)
      · rw [show psb op (lstN op j) n (W (S (n - 1))) = false from by unfold psb; rw [decide_eq_false (show ¬ op ≠ 7 from fun h9 => h9 he), decide_eq_false (show ¬ rk (W (S (n - 1))) = 1 from h1)]; simp]
        exact zR_to 68 rfl (zR_e rfl rfl rfl rfl rfl rfl)
      · rw [show psb op (lstN op j) n (W (S (n - 1))) = true from by unfold psb; rw [decide_eq_true hl, hp, decide_eq_true (show rk (W (S (n - 1))) = 1 from Decidable.of_not_not h1)]; simp]
        exact zR_to 68 rfl (zR_e rfl rfl rfl rfl rfl rfl)
  have m19 : zR L xs (d + 1) m_SR_isPossible 19 [(3, .int (nI (lstN op j))), (0, .ref 0), (1, .int (nI op)), (2, .int z)] [] (sH f g sg A W x y Mc T) 0 (.inl (some (.int (bI (psb op (lstN op j) n (W (S (n - 1)))))))) (sH f g sg A W x y Mc T) 0 := by
    refine zR_to 24 (st' := [.int (nI (lstN op j)), .int (f 0)]) rfl ?_
    rw [hn]
    refine zR_m 1 rfl ?_
    refine zR_if (fun h1 => no ?_ 0) (fun h1 => ?_)
    · have := (nI_ltI (by omega) (by omega)).mp h1
      unfold psb
      rw [decide_eq_false (show ¬ lstN op j ≤ n by omega)]
      rfl
    · have hl : lstN op j ≤ n := by
        rcases Nat.lt_or_ge n (lstN op j) with h9 | h9
        · exact absurd ((nI_ltI (by omega) (by omega)).mpr h9) h1
        · exact h9
      refine zR_n 1 rfl ?_
      refine zR_i rfl rfl rfl rfl ⟨Nat.le_of_ble_eq_true rfl, Nat.le_of_ble_eq_true rfl, Nat.le_of_ble_eq_true rfl⟩ rfl (Nat.le_refl _) (c_SR_pushes hop) rfl rfl ?_
      cases hp : psh op with
      | false =>
        refine zR_n 1 rfl ?_
        exact q7 hl (by rw [hp]; rfl)
      | true =>
        refine zR_to 40 (st' := [.int (nI 8), .int (f 0)]) rfl ?_
        rw [hn]
        refine zR_m 1 rfl ?_
        refine zR_if (fun h2 => q7 hl (by rw [decide_eq_true ((nI_ltI (by omega) (by omega)).mp h2)]; simp)) (fun h2 => no ?_ 0)
        unfold psb
        rw [hp, decide_eq_false (show ¬ n < 8 from fun h9 => h2 ((nI_ltI (by omega) (by omega)).mpr h9))]
        simp
  refine ⟨0, Nat.zero_le _, ?_⟩
  refine zR_n 1 rfl ?_
  refine zR_i rfl rfl rfl rfl ⟨Nat.le_of_ble_eq_true rfl, Nat.le_of_ble_eq_true rfl, Nat.le_of_ble_eq_true rfl⟩ rfl (Nat.le_refl _) (c_SR_namesPlace hop) rfl rfl ?_
  cases hp : plc op with
  | true =>
    obtain ⟨rfl, hj⟩ := hz hp
    have hl : lstN op j = j + 1 := by
      unfold lstN
      have h9 : op = 10 ∨ op = 11 := of_decide_eq_true hp
      rw [if_neg (by omega), if_pos h9]
    refine zR_to 10 (st' := [.int (nI j + 1)]) rfl ?_
    rw [nI_1, ← hl]
    refine zR_to 19 rfl ?_
    exact zR_w m19 rfl rfl ⟨rfl, rfl, rfl, rfl, trivial⟩
  | false =>
    refine zR_to 17 (st' := [.int (nI op), .ref 1002]) rfl ?_
    refine zR_xa (q := 1002) (N := 16) (f := fun k => zA_NEEDED.getD k 0) (v := nI (lstN op j)) rfl rfl (in_nI hop (by decide)) (by rw [nI_clamp (by omega)]; exact tab_N (j := j) hop hp) rfl ?_
    refine zR_n 1 rfl ?_
    exact zR_w m19 rfl rfl ⟨rfl, rfl, rfl, rfl, trivial⟩
/-- the arguments are good; time goes on -/
theorem k_head {op t fA j k9 : Nat} {z : Int32} {o : zO} {h9 : zH} (hop : op < 16) (hx : plc op = true → outB z (nI 8) = false) (ht : g 1 = lN t) (hf : g 2 = lN fA) (h1 : t < 2 ^ 61) (h2 : fA < 2 ^ 61) (h3 : fA - t < 2 ^ 31) (hj : sg = true → f 6 = nI j ∧ j < 8) (hk : k9 ≤ 1)
    (hr : zR L xs (d + 3) m_SR_operate 59 [(0, .ref 0), (1, .int (nI op)), (2, .int z)] [] (sH f (fu (fu g 1 (lN (t + (fA - t)))) 2 (lN (t + (fA - t) + costN op))) false A W x y (mFl sg Mc j (g 3)) T) 0 o h9 k9) : zE L xs (d + 3) m_SR_operate [.ref 0, .int (nI op), .int z] (sH f g sg A W x y Mc T) o h9 := by
  have hc := costN_le op
  have m47 : zR L xs (d + 3) m_SR_operate 47 [(0, .ref 0), (1, .int (nI op)), (2, .int z)] [] (sH f g sg A W x y Mc T) 0 o h9 k9 := by
    refine zR_to 55 (st' := [.int (nI op), .ref 1001, .ref 18]) rfl ?_
    refine zR_xa (q := 1001) (N := 16) (f := fun k => zA_TICKS.getD k 0) (v := nI (costN op)) rfl rfl (in_nI hop (by decide)) (by rw [nI_clamp (by omega)]; exact tab_T hop) rfl ?_
    exact zR_v rfl rfl rfl rfl rfl ⟨rfl, Nat.le_of_ble_eq_true rfl, Nat.le_of_ble_eq_true rfl⟩ rfl (Nat.le_of_ble_eq_true rfl) (c_Me_occupy (n := costN op) ht hf h1 h2 h3 (by omega) hj) rfl rfl hr
  refine ⟨k9, hk, ?_⟩
  refine zR_n 1 rfl ?_
  refine zR_n 1 rfl ?_
  refine zR_if (fun h => absurd h (nI_pos (by omega))) (fun _ => ?_)
  refine zR_to 7 (st' := [.int (nI 15), .int (nI op)]) rfl ?_
  refine zR_m 1 rfl ?_
  refine zR_if (fun _ => ?_) (fun h => absurd ((nI_leI (by omega) (by decide)).mpr (by omega)) h)
  refine zR_n 1 rfl ?_
  refine zR_i rfl rfl rfl rfl ⟨Nat.le_of_ble_eq_true rfl, Nat.le_of_ble_eq_true rfl, Nat.le_of_ble_eq_true rfl⟩ rfl (Nat.le_of_ble_eq_true rfl) (c_SR_namesPlace hop) rfl rfl ?_
  cases hp : plc op with
  | false => exact zR_n 1 rfl m47
  | true =>
    have h5 := of_decide_eq_false (hx hp)
    refine zR_n 2 rfl ?_
    refine zR_n 1 rfl ?_
    refine zR_if (fun h => absurd (Or.inl h) h5) (fun h => ?_)
    refine zR_to 34 (st' := [.int (nI 8), .int z]) rfl ?_
    refine zR_m 1 rfl ?_
    exact zR_if (fun _ => m47) (fun h8 => absurd (Or.inr (Int32.not_lt.mp h8)) h5)
set_option maxRecDepth 10000 in
/-- a refused argument -/
theorem k_bad {yy z : Int32} (hb : outB yy (nI 16) = true ∨ ((yy = nI 10 ∨ yy = nI 11) ∧ outB z (nI 8) = true)) : zE L xs (d + 6) m_SR_operate [.ref 0, .int yy, .int z] (sH f g sg A W x y Mc T) (.inr 1) (sH f g sg A W x y Mc T) := by
  have t10 : zR L xs (d + 6) m_SR_operate 10 [(0, .ref 0), (1, .int yy), (2, .int z)] [] (sH f g sg A W x y Mc T) 0 (.inr 1) (sH f g sg A W x y Mc T) 1 := zR_t rfl rfl rfl rfl rfl rfl ⟨Nat.le_refl _, rfl, by omega⟩
  have t37 : zR L xs (d + 6) m_SR_operate 37 [(0, .ref 0), (1, .int yy), (2, .int z)] [] (sH f g sg A W x y Mc T) 0 (.inr 1) (sH f g sg A W x y Mc T) 1 := zR_t rfl rfl rfl rfl rfl rfl ⟨Nat.le_refl _, rfl, by omega⟩
  refine ⟨1, Nat.le_refl _, ?_⟩
  refine zR_n 1 rfl ?_
  refine zR_n 1 rfl ?_
  refine zR_if (fun _ => t10) (fun h1 => ?_)
  refine zR_to 7 (st' := [.int (nI 15), .int yy]) rfl ?_
  refine zR_m 1 rfl ?_
  refine zR_if (fun h2 => ?_) (fun _ => t10)
  obtain ⟨op, hop, rfl⟩ := nI_of2 (M := nI 15) (n := 15) rfl h1 h2
  have hpl : (nI op = nI 10 ∨ nI op = nI 11) ∧ outB z (nI 8) = true := by
    rcases hb with h | h
    · rcases of_decide_eq_true h with h9 | h9
      · exact absurd h9 h1
      · exact absurd h9 (nI_ge (a := op) (b := 16) (by omega) (by decide))
    · exact h
  have hp : plc op = true := decide_eq_true (by
    rcases hpl.1 with h9 | h9
    · exact Or.inl ((nI_eq (by omega) (by decide)).mp h9)
    · exact Or.inr ((nI_eq (by omega) (by decide)).mp h9))
  refine zR_n 1 rfl ?_
  refine zR_i rfl rfl rfl rfl ⟨Nat.le_of_ble_eq_true rfl, Nat.le_of_ble_eq_true rfl, Nat.le_of_ble_eq_true rfl⟩ rfl (Nat.le_of_ble_eq_true rfl) (c_SR_namesPlace (by omega)) rfl rfl ?_
  rw [hp]
  refine zR_n 2 rfl ?_
  refine zR_n 1 rfl ?_
  refine zR_if (fun _ => t37) (fun h3 => ?_)
  refine zR_to 34 (st' := [.int (nI 8), .int z]) rfl ?_
  refine zR_m 1 rfl ?_
  refine zR_if (fun h4 => ?_) (fun _ => t37)
  rcases of_decide_eq_true hpl.2 with h9 | h9
  · exact absurd h9 h3
  · exact absurd h4 (Int32.not_lt.mpr h9)
end OP
