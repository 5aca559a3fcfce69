/-! carryOut of the class -/
section CA
variable {L : Nat} {xs : Nat → Int32} {d : Nat} {f : Nat → Int32} {g : Nat → Int64} {sg : Bool} {A : Nat → Option Nat} {W : Nat → RV} {x y : XV} {Mc : Nat → Int64} {T : List zC} {S : Nat → Nat} {n : Nat} {z : Int32}
theorem h10' : RP 10 := Or.inl ⟨by decide, by decide⟩
set_option maxRecDepth 10000 in
theorem y_a {op : Nat} (hop : op < 4) (hS : stk A S) (hn : f 0 = nI n) (h2 : 2 ≤ n) (hn8 : n ≤ 8) : zE L xs (d + 1) m_SR_carryOut [.ref 0, .int (nI op), .int z] (sH f g sg A W x y Mc T) (.inl none) (sH (fu f 0 (nI (n - 1))) g sg A (fu W (S (n - 2)) (W 10)) x y Mc T) := by
  obtain ⟨q0, q1, q2, q3⟩ := stk_R hS (show n - 2 < 8 by omega)
  have m76 : ∀ yy : Int32, zR L xs (d + 1) m_SR_carryOut 76 [(0, .ref 0), (1, .int yy), (2, .int z)] [] (sH f g sg A W x y Mc T) 0 (.inl none) (sH (fu f 0 (nI (n - 1))) g sg A (fu W (S (n - 2)) (W 10)) x y Mc T) 0 := by
    intro yy
    refine zR_to 83 (st' := [.int (f 0 - 1), .ref 0]) rfl ?_
    rw [hn, nI_m1' (by omega)]
    generalize hf1 : fu f 0 (nI (n - 1)) = f1
    have hf0 : f1 0 = nI (n - 1) := by rw [← hf1]; exact fu_s
    refine zR_to 88 (st' := [.int (nI 0), .ref 0]) (h1 := sH f1 g sg A W x y Mc T) (by rw [← hf1]; rfl) ?_
    refine z_st (k := 0) (s := S (n - 2)) hS hf0 (by omega) (by omega) (by congr 1) rfl rfl (Nat.le_of_ble_eq_true rfl) (Nat.zero_le _) rfl ?_
    refine zR_to 95 (st' := [.ref 10, .ref (S (n - 2))]) rfl ?_
    refine zR_v rfl rfl rfl rfl (sR_get q0) ⟨rfl, Nat.le_of_ble_eq_true rfl, Nat.le_of_ble_eq_true rfl⟩ rfl (Nat.le_refl _) (c_Re_copy q0 h10' (fun h => q1 h.symm)) rfl rfl ?_
    exact zR_to 235 rfl (zR_e rfl rfl rfl rfl rfl rfl)
  refine ⟨0, Nat.zero_le _, ?_⟩
  obtain rfl | rfl | rfl | rfl : op = 0 ∨ op = 1 ∨ op = 2 ∨ op = 3 := by omega
  all_goals exact zR_n 2 rfl (m76 _)
set_option maxRecDepth 10000 in
theorem y_b {op : Nat} (hop : op = 4 ∨ op = 5 ∨ op = 6) (hS : stk A S) (hn : f 0 = nI n) (h1 : 1 ≤ n) (hn8 : n ≤ 8) : zE L xs (d + 1) m_SR_carryOut [.ref 0, .int (nI op), .int z] (sH f g sg A W x y Mc T) (.inl none) (sH f g sg A (fu W (S (n - 1)) (W 10)) x y Mc T) := by
  obtain ⟨q0, q1, q2, q3⟩ := stk_R hS (show n - 1 < 8 by omega)
  have m101 : ∀ yy : Int32, zR L xs (d + 1) m_SR_carryOut 101 [(0, .ref 0), (1, .int yy), (2, .int z)] [] (sH f g sg A W x y Mc T) 0 (.inl none) (sH f g sg A (fu W (S (n - 1)) (W 10)) x y Mc T) 0 := by
    intro yy
    refine zR_n 2 rfl ?_
    refine z_st (k := 0) (s := S (n - 1)) hS hn (by omega) hn8 rfl rfl rfl (Nat.le_of_ble_eq_true rfl) (Nat.zero_le _) rfl ?_
    refine zR_to 110 (st' := [.ref 10, .ref (S (n - 1))]) rfl ?_
    refine zR_v rfl rfl rfl rfl (sR_get q0) ⟨rfl, Nat.le_of_ble_eq_true rfl, Nat.le_of_ble_eq_true rfl⟩ rfl (Nat.le_refl _) (c_Re_copy q0 h10' (fun h => q1 h.symm)) rfl rfl ?_
    exact zR_to 235 rfl (zR_e rfl rfl rfl rfl rfl rfl)
  refine ⟨0, Nat.zero_le _, ?_⟩
  rcases hop with rfl | rfl | rfl
  all_goals exact zR_n 2 rfl (m101 _)
set_option maxRecDepth 10000 in
theorem y_8 (hS : stk A S) (hn : f 0 = nI n) (h1 : 1 ≤ n) (hn8 : n ≤ 8) : zE L xs (d + 1) m_SR_carryOut [.ref 0, .int (nI 8), .int z] (sH f g sg A W x y Mc T) (.inl none) (sH f g sg A (fu W (S (n - 1)) (absR (W (S (n - 1))))) x y Mc T) := by
  obtain ⟨q0, q1, q2, q3⟩ := stk_R hS (show n - 1 < 8 by omega)
  refine ⟨0, Nat.zero_le _, ?_⟩
  refine zR_n 4 rfl ?_
  refine z_st (k := 0) (s := S (n - 1)) hS hn (by omega) hn8 rfl rfl rfl (Nat.le_of_ble_eq_true rfl) (Nat.zero_le _) rfl ?_
  refine zR_n 1 rfl ?_
  refine zW_p (v1 := absR (W (S (n - 1)))) q0 rfl rfl rfl (Nat.le_of_ble_eq_true rfl) rfl rfl rfl ?_
  exact zR_to 235 rfl (zR_e rfl rfl rfl rfl rfl rfl)
set_option maxRecDepth 10000 in
theorem y_9 (hS : stk A S) (hn : f 0 = nI n) (h1 : 1 ≤ n) (hn8 : n ≤ 8) : zE L xs (d + 1) m_SR_carryOut [.ref 0, .int (nI 9), .int z] (sH f g sg A W x y Mc T) (.inl none) (sH f g sg A (fu W (S (n - 1)) (negR (W (S (n - 1))))) x y Mc T) := by
  obtain ⟨q0, q1, q2, q3⟩ := stk_R hS (show n - 1 < 8 by omega)
  refine ⟨0, Nat.zero_le _, ?_⟩
  refine zR_n 4 rfl ?_
  refine z_st (k := 0) (s := S (n - 1)) hS hn (by omega) hn8 rfl rfl rfl (Nat.le_of_ble_eq_true rfl) (Nat.zero_le _) rfl ?_
  refine zR_v rfl rfl rfl rfl (sR_get q0) ⟨rfl, Nat.le_of_ble_eq_true rfl, Nat.le_of_ble_eq_true rfl⟩ rfl (Nat.le_refl _) (c_Re_negate q0) rfl rfl ?_
  exact zR_to 235 rfl (zR_e rfl rfl rfl rfl rfl rfl)
/-- two places changed for each other -/
def swp (S : Nat → Nat) (i k : Nat) : Nat → Nat := fu (fu S i (S k)) k (S i)
theorem stk_sw {i k : Nat} (hS : stk A S) (hi : i < 8) (hk : k < 8) : stk (va_up (va_up A i (some (S k))) k (some (S i))) (swp S i k) := by
  have hu : ∀ j, j < 8 → va_up (va_up A i (some (S k))) k (some (S i)) j = some (swp S i k j) ∧ 2 ≤ swp S i k j ∧ swp S i k j ≤ 9 := by
    intro j hj
    unfold swp va_up fu
    by_cases h1 : j = k
    · rw [if_pos h1, if_pos h1]
      exact ⟨rfl, (hS.1 i hi).2⟩
    · rw [if_neg h1, if_neg h1]
      by_cases h2 : j = i
      · rw [if_pos h2, if_pos h2]
        exact ⟨rfl, (hS.1 k hk).2⟩
      · rw [if_neg h2, if_neg h2]
        exact hS.1 j hj
  refine ⟨hu, fun j l hj hl h => ?_⟩
  have inj := hS.2
  unfold swp fu at h
  by_cases h1 : j = k
  · rw [if_pos h1] at h
    by_cases h2 : l = k
    · omega
    · rw [if_neg h2] at h
      by_cases h3 : l = i
      · rw [if_pos h3] at h
        have := inj i k hi hk h
        omega
      · rw [if_neg h3] at h
        have := inj i l hi hl h
        omega
  · rw [if_neg h1] at h
    by_cases h2 : j = i
    · rw [if_pos h2] at h
      by_cases h3 : l = k
      · rw [if_pos h3] at h
        have := inj k i hk hi h
        omega
      · rw [if_neg h3] at h
        by_cases h4 : l = i
        · omega
        · rw [if_neg h4] at h
          have := inj k l hk hl h
          omega
    · rw [if_neg h2] at h
      by_cases h3 : l = k
      · rw [if_pos h3] at h
        have := inj j i hj hi h
        omega
      · rw [if_neg h3] at h
        by_cases h4 : l = i
        · rw [if_pos h4] at h
          have := inj j k hj hk h
          omega
        · rw [if_neg h4] at h
          exact inj j l hj hl h
set_option maxRecDepth 10000 in
theorem c_SR_exchange {k : Nat} (hS : stk A S) (hn : f 0 = nI n) (hk : k < n) (hn8 : n ≤ 8) : zE L xs d m_SR_exchange [.ref 0, .int (nI k)] (sH f g sg A W x y Mc T) (.inl none) (sH f g sg (va_up (va_up A (n - 1 - k) (some (S (n - 1)))) (n - 1) (some (S (n - 1 - k)))) W x y Mc T) := by
  obtain ⟨q0, q1, q2, q3⟩ := stk_R hS (show n - 1 < 8 by omega)
  obtain ⟨r0, r1, r2, r3⟩ := stk_R hS (show n - 1 - k < 8 by omega)
  refine ⟨0, Nat.zero_le _, ?_⟩
  refine zR_to 8 (st' := [.int (f 0 - 1 - nI k)]) rfl ?_
  rw [hn, nI_m1' (by omega), pk_sub (show k ≤ n - 1 by omega)]
  refine zR_to 14 (st' := [.int (nI (n - 1 - k)), .ref 1]) rfl ?_
  refine zR_aa (q := 1) (N := 8) (f := A) rfl rfl (in_nI (show n - 1 - k < 8 by omega) (by decide)) (by rw [nI_clamp (by omega)]; exact (hS.1 (n - 1 - k) (by omega)).1) rfl ?_
  refine zR_to 31 (st' := [.int (f 0 - 1), .ref 1, .int (nI (n - 1 - k)), .ref 1]) rfl ?_
  rw [hn, nI_m1' (by omega)]
  refine zR_aa (q := 1) (N := 8) (f := A) rfl rfl (in_nI (show n - 1 < 8 by omega) (by decide)) (by rw [nI_clamp (by omega)]; exact (hS.1 (n - 1) (by omega)).1) rfl ?_
  refine zR_as (q := 1) (N := 8) (f := A) rfl rfl (sR_get q0) (in_nI (show n - 1 - k < 8 by omega) (by decide)) rfl ?_
  rw [nI_clamp (by omega)]
  show zR _ _ _ _ _ _ _ (sH f g sg (va_up A (n - 1 - k) (some (S (n - 1)))) W x y Mc T) _ _ _ _
  generalize va_up A (n - 1 - k) (some (S (n - 1))) = A1
  refine zR_to 43 (st' := [.int (f 0 - 1), .ref 1]) rfl ?_
  rw [hn, nI_m1' (by omega)]
  refine zR_n 1 rfl ?_
  refine zR_as (q := 1) (N := 8) (f := A1) rfl rfl (sR_get r0) (in_nI (show n - 1 < 8 by omega) (by decide)) rfl ?_
  rw [nI_clamp (by omega)]
  exact zR_e rfl rfl rfl rfl rfl rfl
set_option maxRecDepth 10000 in
theorem y_10 {k : Nat} (hS : stk A S) (hn : f 0 = nI n) (hk : k < n) (hn8 : n ≤ 8) : zE L xs (d + 1) m_SR_carryOut [.ref 0, .int (nI 10), .int (nI k)] (sH f g sg A W x y Mc T) (.inl none) (sH f g sg (va_up (va_up A (n - 1 - k) (some (S (n - 1)))) (n - 1) (some (S (n - 1 - k)))) W x y Mc T) := by
  refine ⟨0, Nat.zero_le _, ?_⟩
  refine zR_n 4 rfl ?_
  refine zR_v rfl rfl rfl rfl rfl ⟨rfl, Nat.le_of_ble_eq_true rfl, Nat.le_of_ble_eq_true rfl⟩ rfl (Nat.le_refl _) (c_SR_exchange hS hn hk hn8) rfl rfl ?_
  exact zR_to 235 rfl (zR_e rfl rfl rfl rfl rfl rfl)
set_option maxRecDepth 10000 in
theorem y_11 {k : Nat} (hS : stk A S) (hn : f 0 = nI n) (hk : k < n) (hn8 : n < 8) : zE L xs (d + 2) m_SR_carryOut [.ref 0, .int (nI 11), .int (nI k)] (sH f g sg A W x y Mc T) (.inl none) (sH (fu f 0 (nI (n + 1))) g sg A (fu W (S n) (W (S (n - 1 - k)))) x y Mc T) := by
  obtain ⟨q0, q1, q2, q3⟩ := stk_R hS (show n < 8 by omega)
  obtain ⟨r0, r1, r2, r3⟩ := stk_R hS (show n - 1 - k < 8 by omega)
  refine ⟨0, Nat.zero_le _, ?_⟩
  refine zR_n 5 rfl ?_
  refine z_st (k := k) (s := S (n - 1 - k)) hS hn hk (by omega) rfl rfl rfl (Nat.le_of_ble_eq_true rfl) (Nat.zero_le _) rfl ?_
  refine zR_v rfl rfl rfl rfl rfl ⟨rfl, Nat.le_of_ble_eq_true rfl, Nat.le_of_ble_eq_true rfl⟩ rfl (Nat.le_refl _) (c_SR_push hn hn8 (hS.1 n hn8).1 q0 r0 (fun h => by have := hS.2 _ _ (by omega) (by omega) h; omega)) rfl rfl ?_
  exact zR_to 235 rfl (zR_e rfl rfl rfl rfl rfl rfl)
set_option maxRecDepth 10000 in
theorem y_12 (hn : f 0 = nI n) (h1 : 1 ≤ n) : zE L xs (d + 1) m_SR_carryOut [.ref 0, .int (nI 12), .int z] (sH f g sg A W x y Mc T) (.inl none) (sH (fu f 0 (nI (n - 1))) g sg A W x y Mc T) := by
  refine ⟨0, Nat.zero_le _, ?_⟩
  refine zR_to 173 (st' := [.int (f 0 - 1), .ref 0]) rfl ?_
  rw [hn, nI_m1' h1]
  generalize nI (n - 1) = v9
  refine zR_to 235 (h1 := sH (fu f 0 v9) g sg A W x y Mc T) rfl ?_
  exact zR_e rfl rfl rfl rfl rfl rfl
set_option maxRecDepth 10000 in
theorem y_13 (hS : stk A S) (hn : f 0 = nI n) (h2 : 2 ≤ n) (hn8 : n ≤ 8) (hx : vOk (W (S (n - 1)))) (hy : vOk (W (S (n - 2)))) : zE L xs (d + 4) m_SR_carryOut [.ref 0, .int (nI 13), .int z] (sH f g sg A W x y Mc T) (.inl none) (sH (fu f 3 (cmpR (W (S (n - 1))) (W (S (n - 2))))) g sg A W x y Mc T) := by
  obtain ⟨q0, q1, q2, q3⟩ := stk_R hS (show n - 2 < 8 by omega)
  obtain ⟨r0, r1, r2, r3⟩ := stk_R hS (show n - 1 < 8 by omega)
  have hz := c_SR_conditionOf (L := L) (xs := xs) (d := d) (f := f) (g := g) (sg := sg) (A := A) (W := W) (x := x) (y := y) (Mc := Mc) (T := T) r0 q0 hx hy
  generalize cmpR (W (S (n - 1))) (W (S (n - 2))) = v9 at *
  refine ⟨0, Nat.zero_le _, ?_⟩
  refine zR_n 5 rfl ?_
  refine z_st (k := 0) (s := S (n - 1)) hS hn (by omega) hn8 rfl rfl rfl (Nat.le_of_ble_eq_true rfl) (Nat.zero_le _) rfl ?_
  refine zR_n 2 rfl ?_
  refine z_st (k := 1) (s := S (n - 2)) hS hn (by omega) hn8 rfl rfl rfl (Nat.le_of_ble_eq_true rfl) (Nat.zero_le _) rfl ?_
  refine zR_i rfl rfl rfl rfl ⟨Nat.le_of_ble_eq_true rfl, Nat.le_of_ble_eq_true rfl, Nat.le_of_ble_eq_true rfl⟩ rfl (Nat.le_refl _) hz rfl rfl ?_
  refine zR_to 235 (h1 := sH (fu f 3 v9) g sg A W x y Mc T) rfl ?_
  exact zR_e rfl rfl rfl rfl rfl rfl
set_option maxRecDepth 10000 in
theorem y_14 (hS : stk A S) (hn : f 0 = nI n) (hn8 : n < 8) : zE L xs (d + 2) m_SR_carryOut [.ref 0, .int (nI 14), .int z] (sH f g sg A W x y Mc T) (.inl none) (sH (fu f 0 (nI (n + 1))) g sg A (fu (fu W 10 (exV false 1)) (S n) (exV false 1)) x y Mc T) := by
  obtain ⟨q0, q1, q2, q3⟩ := stk_R hS (show n < 8 by omega)
  have hbw := c_Re_becomeWhole (L := L) (xs := xs) (d := d) (f := f) (g := g) (sg := sg) (A := A) (W := W) (x := x) (y := y) (Mc := Mc) (T := T) (mb := false) (N := 1) h10' (by decide)
  have hpu := c_SR_push (L := L) (xs := xs) (d := d) (f := f) (g := g) (sg := sg) (A := A) (W := fu W 10 (exV false 1)) (x := x) (y := y) (Mc := Mc) (T := T) (j := 10) hn hn8 (hS.1 n hn8).1 q0 h10' (fun h => q1 h.symm)
  rw [fu_s] at hpu
  generalize exV false 1 = ev at *
  refine ⟨0, Nat.zero_le _, ?_⟩
  refine zR_to 205 (st' := [.long (lN 1), .int (bI false), .ref 10]) rfl ?_
  refine zR_v rfl rfl rfl rfl rfl ⟨rfl, Nat.le_of_ble_eq_true rfl, Nat.le_of_ble_eq_true rfl⟩ rfl (Nat.le_refl _) hbw rfl rfl ?_
  refine zR_to 213 (st' := [.ref 10, .ref 0]) rfl ?_
  refine zR_v rfl rfl rfl rfl rfl ⟨rfl, Nat.le_of_ble_eq_true rfl, Nat.le_of_ble_eq_true rfl⟩ rfl (Nat.le_refl _) hpu rfl rfl ?_
  exact zR_to 235 rfl (zR_e rfl rfl rfl rfl rfl rfl)
set_option maxRecDepth 10000 in
theorem y_15 (hS : stk A S) (hn : f 0 = nI n) (hn8 : n < 8) : zE L xs (d + 2) m_SR_carryOut [.ref 0, .int (nI 15), .int z] (sH f g sg A W x y Mc T) (.inl none) (sH (fu f 0 (nI (n + 1))) g sg A (fu (fu W 10 (exV false 0)) (S n) (exV false 0)) x y Mc T) := by
  obtain ⟨q0, q1, q2, q3⟩ := stk_R hS (show n < 8 by omega)
  have hbw := c_Re_becomeZero (L := L) (xs := xs) (d := d + 1) (f := f) (g := g) (sg := sg) (A := A) (W := W) (x := x) (y := y) (Mc := Mc) (T := T) (mb := false) h10'
  rw [← exV_0 false] at hbw
  have hpu := c_SR_push (L := L) (xs := xs) (d := d) (f := f) (g := g) (sg := sg) (A := A) (W := fu W 10 (exV false 0)) (x := x) (y := y) (Mc := Mc) (T := T) (j := 10) hn hn8 (hS.1 n hn8).1 q0 h10' (fun h => q1 h.symm)
  rw [fu_s] at hpu
  generalize exV false 0 = ev at *
  refine ⟨0, Nat.zero_le _, ?_⟩
  refine zR_to 224 (st' := [.int (bI false), .ref 10]) rfl ?_
  refine zR_v rfl rfl rfl rfl rfl ⟨rfl, Nat.le_of_ble_eq_true rfl, Nat.le_of_ble_eq_true rfl⟩ rfl (Nat.le_refl _) hbw rfl rfl ?_
  refine zR_to 232 (st' := [.ref 10, .ref 0]) rfl ?_
  refine zR_v rfl rfl rfl rfl rfl ⟨rfl, Nat.le_of_ble_eq_true rfl, Nat.le_of_ble_eq_true rfl⟩ rfl (Nat.le_refl _) hpu rfl rfl ?_
  exact zR_e rfl rfl rfl rfl rfl rfl
set_option maxRecDepth 10000 in
theorem c_SR_extract (hS : stk A S) (hn : f 0 = nI n) (h1 : 1 ≤ n) (hn8 : n < 8) (hx : vOk (W (S (n - 1)))) (hk : rk (W (S (n - 1))) = 1) : zE L xs (d + 2) m_SR_extract [.ref 0] (sH f g sg A W x y Mc T) (.inl none) (sH (fu f 0 (nI (n + 1))) g sg A (fu (fu (fu W 10 (exS (W (S (n - 1))))) (S (n - 1)) (exE (W (S (n - 1))))) (S n) (exS (W (S (n - 1))))) x y Mc T) := by
  obtain ⟨q0, q1, q2, q3⟩ := stk_R hS (show n < 8 by omega)
  obtain ⟨r0, r1, r2, r3⟩ := stk_R hS (show n - 1 < 8 by omega)
  obtain ⟨x1, x2, x3⟩ := hx.2.1 hk
  have hne : S n ≠ S (n - 1) := fun h => by have := hS.2 _ _ (by omega) (by omega) h; omega
  have hll := nat_l (e := zr (W (S (n - 1)))) (by omega)
  have eS : exS (W (S (n - 1))) = (1, rn (W (S (n - 1))), 0, (W (S (n - 1))).2.2.2) := by
    unfold exS
    rw [hk]
  have eE : exE (W (S (n - 1))) = exV (decide (zr (W (S (n - 1))) < 0)) (zr (W (S (n - 1)))).natAbs := rfl
  rw [eS, eE]
  have hbf := c_Re_becomeFinite (L := L) (xs := xs) (d := d + 1) (f := f) (g := g) (sg := sg) (A := A) (W := W) (x := x) (y := y) (Mc := Mc) (T := T) (mb := rn (W (S (n - 1)))) (e := 0) (s := (W (S (n - 1))).2.2.2) h10'
  have hbw : ∀ b : Bool, zE L xs (d + 1) m_Re_becomeWhole [.ref (S (n - 1)), .int (bI b), .long (lN (zr (W (S (n - 1)))).natAbs)] (sH f g sg A (fu W 10 (1, rn (W (S (n - 1))), 0, (W (S (n - 1))).2.2.2)) x y Mc T) (.inl none) (sH f g sg A (fu (fu W 10 (1, rn (W (S (n - 1))), 0, (W (S (n - 1))).2.2.2)) (S (n - 1)) (exV b (zr (W (S (n - 1)))).natAbs)) x y Mc T) := fun b => c_Re_becomeWhole r0 (by omega)
  have hpu := c_SR_push (L := L) (xs := xs) (d := d) (f := f) (g := g) (sg := sg) (A := A) (W := fu (fu W 10 (1, rn (W (S (n - 1))), 0, (W (S (n - 1))).2.2.2)) (S (n - 1)) (exV (decide (zr (W (S (n - 1))) < 0)) (zr (W (S (n - 1)))).natAbs)) (x := x) (y := y) (Mc := Mc) (T := T) (j := 10) hn hn8 (hS.1 n hn8).1 q0 h10' (fun h => q1 h.symm)
  rw [fu_n (show (10 : Nat) ≠ S (n - 1) from fun h => r1 h.symm), fu_s] at hpu
  refine ⟨0, Nat.zero_le _, ?_⟩
  refine zR_n 2 rfl ?_
  refine z_st (k := 0) (s := S (n - 1)) hS hn (by omega) (by omega) rfl rfl rfl (Nat.le_of_ble_eq_true rfl) (Nat.zero_le _) rfl ?_
  refine zR_n 2 rfl ?_
  refine zW_g r0 rfl rfl rfl (fR_e _) rfl ?_
  refine zR_to 16 (st' := [.ref (S (n - 1)), .ref 10]) rfl ?_
  refine zW_g r0 rfl rfl rfl rfl rfl ?_
  refine zR_n 2 rfl ?_
  refine zW_g r0 rfl rfl rfl rfl rfl ?_
  refine zR_v rfl rfl rfl rfl rfl ⟨rfl, Nat.le_of_ble_eq_true rfl, Nat.le_of_ble_eq_true rfl⟩ rfl (Nat.le_refl _) hbf rfl rfl ?_
  have fin : ∀ b : Bool, decide (zr (W (S (n - 1))) < 0) = b → zR L xs (d + 2) m_SR_extract 49 [(2, .int (iZ (zr (W (S (n - 1)))))), (1, .ref (S (n - 1))), (0, .ref 0)] [.long (lN (zr (W (S (n - 1)))).natAbs), .int (bI b), .ref (S (n - 1))] (sH f g sg A (fu W 10 (1, rn (W (S (n - 1))), 0, (W (S (n - 1))).2.2.2)) x y Mc T) 0 (.inl none) (sH (fu f 0 (nI (n + 1))) g sg A (fu (fu (fu W 10 (1, rn (W (S (n - 1))), 0, (W (S (n - 1))).2.2.2)) (S (n - 1)) (exV (decide (zr (W (S (n - 1))) < 0)) (zr (W (S (n - 1)))).natAbs)) (S n) (1, rn (W (S (n - 1))), 0, (W (S (n - 1))).2.2.2)) x y Mc T) 0 := by
    intro b hb
    rw [hb] at hpu ⊢
    refine zR_v rfl rfl rfl rfl (sR_get r0) ⟨rfl, Nat.le_of_ble_eq_true rfl, Nat.le_of_ble_eq_true rfl⟩ rfl (Nat.le_refl _) (hbw b) rfl rfl ?_
    refine zR_to 57 (st' := [.ref 10, .ref 0]) rfl ?_
    refine zR_v rfl rfl rfl rfl rfl ⟨rfl, Nat.le_of_ble_eq_true rfl, Nat.le_of_ble_eq_true rfl⟩ rfl (Nat.le_refl _) hpu rfl rfl ?_
    exact zR_e rfl rfl rfl rfl rfl rfl
  generalize fu W 10 (1, rn (W (S (n - 1))), 0, (W (S (n - 1))).2.2.2) = W1 at *
  refine zR_to 29 (st' := [.int (iZ (zr (W (S (n - 1))))), .ref (S (n - 1))]) rfl ?_
  refine zR_m 1 rfl ?_
  refine zR_if (fun h => ?_) (fun h => ?_)
  · have h0 := (iZ_le (x := 0) (by omega) (by omega)).mp h
    rw [if_neg (show ¬ zr (W (S (n - 1))) < 0 by omega)] at hll
    refine zR_to 38 (st' := [.int (iZ (zr (W (S (n - 1))))), .int (bI false), .ref (S (n - 1))]) rfl ?_
    refine zR_m 1 rfl ?_
    refine zR_if (fun _ => ?_) (fun h9 => absurd h h9)
    refine zR_to 49 (st' := [.long (iZ (zr (W (S (n - 1))))).toInt64, .int (bI false), .ref (S (n - 1))]) rfl ?_
    rw [hll]
    exact zR_w (fin false (decide_eq_false (by omega))) rfl rfl ⟨rfl, rfl, rfl, trivial⟩
  · have h0 : zr (W (S (n - 1))) < 0 := by
      rcases Int.lt_or_le (zr (W (S (n - 1)))) 0 with h9 | h9
      · exact h9
      · exact absurd ((iZ_le (x := 0) (by omega) (by omega)).mpr h9) h
    rw [if_pos h0] at hll
    refine zR_to 38 (st' := [.int (iZ (zr (W (S (n - 1))))), .int (bI true), .ref (S (n - 1))]) rfl ?_
    refine zR_m 1 rfl ?_
    refine zR_if (fun h9 => absurd h9 h) (fun _ => ?_)
    refine zR_to 49 (st' := [.long (- iZ (zr (W (S (n - 1))))).toInt64, .int (bI true), .ref (S (n - 1))]) rfl ?_
    rw [hll]
    exact zR_w (fin true (decide_eq_true h0)) rfl rfl ⟨rfl, rfl, rfl, trivial⟩
set_option maxRecDepth 10000 in
theorem y_7 (hS : stk A S) (hn : f 0 = nI n) (h1 : 1 ≤ n) (hn8 : n < 8) (hx : vOk (W (S (n - 1)))) (hk : rk (W (S (n - 1))) = 1) : zE L xs (d + 3) m_SR_carryOut [.ref 0, .int (nI 7), .int z] (sH f g sg A W x y Mc T) (.inl none) (sH (fu f 0 (nI (n + 1))) g sg A (fu (fu (fu W 10 (exS (W (S (n - 1))))) (S (n - 1)) (exE (W (S (n - 1))))) (S n) (exS (W (S (n - 1))))) x y Mc T) := by
  have hz := c_SR_extract (L := L) (xs := xs) (d := d) (f := f) (g := g) (sg := sg) (A := A) (W := W) (x := x) (y := y) (Mc := Mc) (T := T) hS hn h1 hn8 hx hk
  generalize fu (fu (fu W 10 (exS (W (S (n - 1))))) (S (n - 1)) (exE (W (S (n - 1))))) (S n) (exS (W (S (n - 1)))) = W9 at *
  refine ⟨0, Nat.zero_le _, ?_⟩
  refine zR_n 3 rfl ?_
  refine zR_v rfl rfl rfl rfl rfl ⟨rfl, Nat.le_of_ble_eq_true rfl, Nat.le_of_ble_eq_true rfl⟩ rfl (Nat.le_refl _) hz rfl rfl ?_
  exact zR_to 235 rfl (zR_e rfl rfl rfl rfl rfl rfl)
end CA
