/-! becomeQuotient of the class -/
theorem dbl_div {M D : Nat} (hD : 0 < D) : M * 2 / D = 2 * (M / D) + (if D ≤ 2 * (M % D) then 1 else 0) ∧ M * 2 % D = 2 * (M % D) - (if D ≤ 2 * (M % D) then D else 0) := by
  have h1 : M = D * (M / D) + M % D := (Nat.div_add_mod M D).symm
  have h2 := Nat.mod_lt M hD
  generalize M / D = a at *
  generalize M % D = r at *
  subst h1
  by_cases h : D ≤ 2 * r
  · rw [if_pos h, if_pos h]
    have e : (D * a + r) * 2 = D * (2 * a + 1) + (2 * r - D) := by
      rw [Nat.add_mul, Nat.mul_add, Nat.mul_one, Nat.mul_assoc, Nat.mul_comm a 2]
      omega
    rw [e, Nat.mul_add_div hD, Nat.mul_add_mod, Nat.div_eq_of_lt (by omega), Nat.mod_eq_of_lt (by omega)]
    exact ⟨rfl, rfl⟩
  · rw [if_neg h, if_neg h]
    have e : (D * a + r) * 2 = D * (2 * a) + 2 * r := by
      rw [Nat.add_mul, Nat.mul_assoc, Nat.mul_comm a 2]
      omega
    rw [e, Nat.mul_add_div hD, Nat.mul_add_mod, Nat.div_eq_of_lt (by omega), Nat.mod_eq_of_lt (by omega)]
    exact ⟨rfl, rfl⟩
theorem q_aux {Q Wq K u b P : Nat} (hQ : Q = Wq * K + u) : (2 * Q + b) * P = Wq * (K * 2 * P) + (u * 2 + b) * P := by
  subst hQ
  rw [← Nat.mul_assoc, ← Nat.mul_assoc, ← Nat.add_mul]
  congr 1
  omega
theorem quo_can {N D k : Nat} {q : Int} (hk : k ≤ 15) (hD : 0 < D) (h1 : 2 ^ 64 ≤ N * 2 ^ (79 - k) / D) (h2 : N * 2 ^ (79 - k) / D < 2 ^ 65) : Can (dvX N D) q (q + k + 65) (N * 2 ^ (79 - k) / D) (decide (N * 2 ^ (79 - k) % D ≠ 0)) := by
  have hP : N * 2 ^ 79 = N * 2 ^ (79 - k) * 2 ^ k := by rw [Nat.mul_assoc, ← Nat.pow_add]; congr 2; omega
  have hW : N * 2 ^ 79 / D / 2 ^ k = N * 2 ^ (79 - k) / D := by rw [hP, Nat.div_div_eq_div_mul, Nat.mul_div_mul_right _ _ (pow_pos2 k)]
  have hpk := pow_pos2 k
  have hQ : N * 2 ^ 79 / D = N * 2 ^ (79 - k) / D * 2 ^ k + N * 2 ^ 79 / D % 2 ^ k := by
    rw [← hW]
    exact (Nat.div_add_mod' _ _).symm
  have hm : N * 2 ^ 79 / D % 2 ^ k < 2 ^ k := Nat.mod_lt _ hpk
  have hz : (N * 2 ^ 79 / D % 2 ^ k = 0 ∧ N * 2 ^ 79 % D = 0) ↔ N * 2 ^ (79 - k) % D = 0 := by
    have e1 := Nat.div_add_mod (N * 2 ^ 79) D
    have e2 := Nat.div_add_mod (N * 2 ^ (79 - k)) D
    constructor
    · rintro ⟨a1, a2⟩
      rw [a2, hQ, a1, Nat.add_zero, Nat.add_zero, hP, ← Nat.mul_assoc] at e1
      have e3 := Nat.eq_of_mul_eq_mul_right hpk e1
      omega
    · intro a1
      rw [a1, Nat.add_zero] at e2
      have e3 : N * 2 ^ 79 = N * 2 ^ (79 - k) / D * 2 ^ k * D := by
        rw [hP]
        conv => lhs; rw [← e2]
        rw [Nat.mul_comm D, Nat.mul_right_comm]
      rw [e3, Nat.mul_div_cancel _ hD, Nat.mul_mod_left, Nat.mul_mod_left]
      exact ⟨rfl, rfl⟩
  have hs : decide (N * 2 ^ (79 - k) % D ≠ 0) = decide (¬ (N * 2 ^ 79 / D % 2 ^ k = 0 ∧ N * 2 ^ 79 % D = 0)) := by
    apply decide_eq_decide.mpr
    rw [hz]
  rw [hs]
  unfold dvX
  generalize N * 2 ^ (79 - k) / D = Wq at *
  generalize N * 2 ^ 79 % D = rr at *
  generalize hu : N * 2 ^ 79 / D % 2 ^ k = u at *
  generalize N * 2 ^ 79 / D = Q at *
  have e6 : (2 : Nat) ^ (k + 65) = 2 ^ k * 2 * 2 ^ 64 := by rw [Nat.pow_add, Nat.mul_assoc]
  refine ⟨k + 65, (u * 2 + (if rr = 0 then 0 else 1)) * 2 ^ 64, ?_, ?_, h1, h2, by omega, ?_⟩
  · rw [e6]
    exact q_aux hQ
  · rw [e6]
    refine Nat.mul_lt_mul_of_pos_right ?_ (by decide)
    split <;> omega
  · apply decide_eq_decide.mpr
    constructor
    · intro h9 h8
      apply h9
      have h7 : u * 2 + (if rr = 0 then 0 else 1) = 0 := by
        rcases Nat.mul_eq_zero.mp h8 with h6 | h6
        · exact h6
        · exact absurd h6 (by decide)
      split at h7
      · exact ⟨by omega, by assumption⟩
      · omega
    · rintro h9 ⟨a1, a2⟩
      apply h9
      rw [a1, a2]
      rfl
section QU
variable {L : Nat} {xs : Nat → Int32} {d : Nat} {h : zH} {f : Nat → Int32} {g : Nat → Int64} {sg : Bool} {A : Nat → Option Nat} {W : Nat → RV} {x y v : XV} {Mc : Nat → Int64} {T : List zC}
set_option maxRecDepth 10000 in
theorem c_Ex_fitsInDouble {D r : Nat} (hD : D < 2 ^ 64) (hr : r < 2 ^ 64) : zE L xs (d + 1) m_Ex_fitsInDouble [.long (lN D), .long (lN r)] h (.inl (some (.int (bI (decide (D ≤ 2 * r)))))) h := by
  refine ⟨0, Nat.zero_le _, ?_⟩
  refine zR_to 3 (st' := [.int (lg_cmp (lN r) 0)]) rfl ?_
  refine zR_m 1 rfl ?_
  refine zR_if (fun h9 => ?_) (fun h9 => ?_)
  · have h8 : 2 ^ 63 ≤ r := by
      rcases Nat.lt_or_ge r (2 ^ 63) with h7 | h7
      · exact absurd ((lN_neg hr).mpr h7) (fun h6 => lg_lt_not_le ((lg_cmp_lt _ _).mp h9) h6)
      · exact h7
    rw [decide_eq_true (show D ≤ 2 * r by omega)]
    refine zR_to 21 (st' := [.int 1]) rfl ?_
    exact zR_e rfl rfl rfl rfl rfl rfl
  · have h8 : r < 2 ^ 63 := by
      apply (lN_neg hr).mp
      rcases lg_tri (lN r) 0 with h7 | h7 | h7
      · exact absurd ((lg_cmp_lt _ _).mpr h7) h9
      · rw [h7]; exact Int64.le_refl _
      · exact Int64.le_of_lt h7
    refine zR_to 9 (st' := [.long (lN r <<< ((nI 1).toInt64 &&& 63))]) rfl ?_
    rw [wb_shl _ (show 1 < 64 by decide), Nat.pow_one]
    refine zR_n 1 rfl ?_
    refine zR_i rfl rfl rfl rfl ⟨Nat.le_of_ble_eq_true rfl, Nat.le_of_ble_eq_true rfl, Nat.le_of_ble_eq_true rfl⟩ rfl (Nat.le_refl _) (c_SR_isBelow (u := lN (r * 2)) (v := lN D)) rfl rfl ?_
    rw [uN_lN (show r * 2 < 2 ^ 64 by omega), uN_lN hD]
    by_cases hc : r * 2 < D
    · rw [decide_eq_true hc, decide_eq_false (show ¬ D ≤ 2 * r by omega)]
      refine zR_to 21 (st' := [.int 0]) rfl ?_
      exact zR_e rfl rfl rfl rfl rfl rfl
    · rw [decide_eq_false hc, decide_eq_true (show D ≤ 2 * r by omega)]
      refine zR_to 21 (st' := [.int 1]) rfl ?_
      exact zR_e rfl rfl rfl rfl rfl rfl
set_option maxRecDepth 10000 in
theorem l_Ex_becomeQuotient {D ms : Nat} {mb : Bool} {e : Int32} {z : Int64} {o : zO} {h9 : zH} (hD0 : 0 < D) (hD : D < 2 ^ 64) (hms : ms ≤ 64) : ∀ (c : Nat) {n M : Nat}, c + n = ms → M / D < 2 ^ (64 - c) →
    (∀ i : Int32, zR L xs (d + 2) m_Ex_becomeQuotient 156 [(8, .int i), (5, .long (lN (M * 2 ^ c % D))), (3, .long (lN D)), (0, .ref 14)] [] (sH f g sg A W (mb, e, lN (M * 2 ^ c / D), z) y Mc T) 0 o h9 0) →
    zR L xs (d + 2) m_Ex_becomeQuotient 93 [(8, .int (nI n)), (5, .long (lN (M % D))), (7, .int (nI ms)), (3, .long (lN D)), (0, .ref 14)] [] (sH f g sg A W (mb, e, lN (M / D), z) y Mc T) 0 o h9 0 := by
  intro c
  induction c with
  | zero =>
    intro n M hn hM hr
    obtain rfl : n = ms := by omega
    rw [Nat.pow_zero, Nat.mul_one] at hr
    refine zR_to 97 (st' := [.int (nI n), .int (nI n)]) rfl ?_
    refine zR_m 1 rfl ?_
    refine zR_if (fun _ => ?_) (fun h8 => absurd ((nI_leI (by omega) (by omega)).mpr (Nat.le_refl _)) h8)
    exact zR_w (hr _) rfl rfl ⟨rfl, rfl, rfl, rfl, trivial⟩
  | succ c ih =>
    intro n M hn hM hr
    obtain ⟨d1, d2⟩ := dbl_div (M := M) hD0
    have hrl := Nat.mod_lt M hD0
    have hM1 : M * 2 / D < 2 ^ (64 - c) := by
      have e : (2 : Nat) ^ (64 - c) = 2 ^ (64 - (c + 1)) * 2 := by rw [← Nat.pow_succ]; congr 1; omega
      rw [d1, e]
      split <;> omega
    have hlt : M * 2 / D < 2 ^ 64 := Nat.lt_of_lt_of_le hM1 (Nat.pow_le_pow_right (by decide) (by omega))
    have h7 := ih (n := n + 1) (M := M * 2) (by omega) hM1 (by rw [Nat.mul_assoc, ← Nat.pow_succ']; exact hr)
    refine zR_to 97 (st' := [.int (nI ms), .int (nI n)]) rfl ?_
    refine zR_m 1 rfl ?_
    refine zR_if (fun h8 => absurd h8 (nI_ge (a := n) (b := ms) (by omega) (by omega))) (fun _ => ?_)
    refine zR_n 2 rfl ?_
    refine zR_i rfl rfl rfl rfl ⟨Nat.le_of_ble_eq_true rfl, Nat.le_of_ble_eq_true rfl, Nat.le_of_ble_eq_true rfl⟩ rfl (Nat.le_refl _) (c_Ex_fitsInDouble hD (show M % D < 2 ^ 64 by omega)) rfl rfl ?_
    by_cases hc : D ≤ 2 * (M % D)
    · rw [if_pos hc] at d1 d2
      rw [decide_eq_true hc]
      refine zR_to 117 (st' := [.long (lN (M % D) <<< ((nI 1).toInt64 &&& 63))]) rfl ?_
      rw [wb_shl _ (show 1 < 64 by decide), Nat.pow_one]
      refine zR_to 119 (st' := [.long (lN (M % D * 2) - lN D)]) rfl ?_
      rw [lN_sub (by omega), show M % D * 2 - D = M * 2 % D by omega]
      refine zR_to 135 (st' := [.long (lN (M / D) <<< ((nI 1).toInt64 &&& 63)), .ref 14]) rfl ?_
      rw [wb_shl _ (show 1 < 64 by decide), Nat.pow_one]
      refine zR_to 147 (st' := [.long (lN (M / D * 2) ||| lN 1), .ref 14]) rfl ?_
      rw [g_or (k := 1) (p := 2) rfl (by decide) (by omega), show M / D * 2 + 1 = M * 2 / D by omega]
      refine zX_h rfl rfl rfl ?_
      refine zR_to 93 rfl ?_
      refine zR_w h7 rfl rfl ⟨?_, rfl, rfl, rfl, rfl, trivial⟩
      rw [← nI_1]
      rfl
    · rw [if_neg hc] at d1 d2
      rw [decide_eq_false hc]
      refine zR_to 126 (st' := [.long (lN (M % D) <<< ((nI 1).toInt64 &&& 63))]) rfl ?_
      rw [wb_shl _ (show 1 < 64 by decide), Nat.pow_one, show M % D * 2 = M * 2 % D by omega]
      refine zR_to 135 (st' := [.long (lN (M / D) <<< ((nI 1).toInt64 &&& 63)), .ref 14]) rfl ?_
      rw [wb_shl _ (show 1 < 64 by decide), Nat.pow_one]
      refine zR_to 147 (st' := [.long (lN (M / D * 2) ||| lN 0), .ref 14]) rfl ?_
      rw [g_or (k := 1) (p := 2) rfl (by decide) (by omega), show M / D * 2 + 0 = M * 2 / D by omega]
      refine zX_h rfl rfl rfl ?_
      refine zR_to 93 rfl ?_
      refine zR_w h7 rfl rfl ⟨?_, rfl, rfl, rfl, rfl, trivial⟩
      rw [← nI_1]
      rfl
/-- the quotient's lower half -/
def qLo (M D : Nat) : Nat := (if D ≤ 2 * (M % D) then 1 else 0) * 2 ^ 63 + (if M * 2 % D = 0 then 0 else 1)
set_option maxRecDepth 10000 in
theorem t_Ex_becomeQuotient {D M : Nat} {mb : Bool} {e : Int32} {z : Int64} {i : Int32} (hD0 : 0 < D) (hD : D < 2 ^ 64) : zR L xs (d + 2) m_Ex_becomeQuotient 156 [(8, .int i), (5, .long (lN (M % D))), (3, .long (lN D)), (0, .ref 14)] [] (sH f g sg A W (mb, e, lN (M / D), z) y Mc T) 0 (.inl none) (sH f g sg A W (mb, e, lN (M / D), lN (qLo M D)) y Mc T) 0 := by
  obtain ⟨d1, d2⟩ := dbl_div (M := M) hD0
  have hrl := Nat.mod_lt M hD0
  have hTP : (-9223372036854775808 : Int64) = lN (1 * 2 ^ 63) := by decide +kernel
  -- the end
  have fin : ∀ (b st : Nat) (left : Nat), b ≤ 1 → left < 2 ^ 64 → qLo M D = b * 2 ^ 63 + (if left = 0 then 0 else 1) → zR L xs (d + 2) m_Ex_becomeQuotient 195 [(9, .long (lN left)), (0, .ref 14)] [.long (lN (b * 2 ^ 63)), .ref 14] (sH f g sg A W (mb, e, lN (M / D), z) y Mc T) 0 (.inl none) (sH f g sg A W (mb, e, lN (M / D), lN (qLo M D)) y Mc T) 0 := by
    intro b _ left hb hl hq
    rw [hq]
    refine zR_to 199 (st' := [.int (lg_cmp (lN left) 0), .long (lN (b * 2 ^ 63)), .ref 14]) rfl ?_
    refine zR_m 1 rfl ?_
    refine zR_if (fun h8 => ?_) (fun h8 => ?_)
    · rw [if_pos (show left = 0 by have := lN_z.mp ((lg_cmp_eq _ _).mp h8); omega)]
      refine zR_to 209 (st' := [.long (lN (b * 2 ^ 63) ||| lN 0), .ref 14]) rfl ?_
      rw [g_or (k := 63) rfl (by decide) (by omega)]
      refine zX_l rfl rfl rfl ?_
      exact zR_e rfl rfl rfl rfl rfl rfl
    · rw [if_neg (show ¬ left = 0 from fun h7 => h8 ((lg_cmp_eq _ _).mpr (by rw [h7]; rfl)))]
      refine zR_to 209 (st' := [.long (lN (b * 2 ^ 63) ||| lN 1), .ref 14]) rfl ?_
      rw [g_or (k := 63) rfl (by decide) (by omega)]
      refine zX_l rfl rfl rfl ?_
      exact zR_e rfl rfl rfl rfl rfl rfl
  refine zR_n 2 rfl ?_
  refine zR_i rfl rfl rfl rfl ⟨Nat.le_of_ble_eq_true rfl, Nat.le_of_ble_eq_true rfl, Nat.le_of_ble_eq_true rfl⟩ rfl (Nat.le_refl _) (c_Ex_fitsInDouble hD (show M % D < 2 ^ 64 by omega)) rfl rfl ?_
  by_cases hc : D ≤ 2 * (M % D)
  · have hq : qLo M D = 1 * 2 ^ 63 + (if 2 * (M % D) - D = 0 then 0 else 1) := by
      unfold qLo
      rw [if_pos hc] at d2
      rw [if_pos hc, d2]
    rw [decide_eq_true hc]
    refine zR_to 173 (st' := [.long (lN (M % D) <<< ((nI 1).toInt64 &&& 63))]) rfl ?_
    rw [wb_shl _ (show 1 < 64 by decide), Nat.pow_one]
    refine zR_to 175 (st' := [.long (lN (M % D * 2) - lN D)]) rfl ?_
    rw [lN_sub (by omega)]
    refine zR_to 191 (st' := [.long (-9223372036854775808), .ref 14]) rfl ?_
    rw [hTP]
    refine zR_to 195 rfl ?_
    rw [Nat.mul_comm (M % D) 2]
    exact zR_w (fin 1 0 _ (by decide) (by omega) hq) rfl rfl ⟨rfl, rfl, trivial⟩
  · have hq : qLo M D = 0 * 2 ^ 63 + (if M % D = 0 then 0 else 1) := by
      unfold qLo
      rw [if_neg hc] at d2
      rw [if_neg hc, d2]
      congr 1
      by_cases h0 : M % D = 0
      · rw [if_pos h0, if_pos (by omega)]
      · rw [if_neg h0, if_neg (by omega)]
    rw [decide_eq_false hc]
    have h9 := fin 0 0 (M % D) (by decide) (by omega) hq
    rw [Nat.zero_mul] at h9
    refine zR_to 195 rfl ?_
    exact zR_w h9 rfl rfl ⟨rfl, rfl, trivial⟩
/-- the class's quotient -/
def quX (x y : RV) : XV := if rs x < rs y then (decide (rn x ≠ rn y), iZ (zr x - zr y - 1), lN (rs x * 2 ^ 64 / rs y), lN (qLo (rs x * 2 ^ 64) (rs y))) else (decide (rn x ≠ rn y), iZ (zr x - zr y), lN (rs x * 2 ^ 63 / rs y), lN (qLo (rs x * 2 ^ 63) (rs y)))
set_option maxRecDepth 10000 in
set_option maxHeartbeats 4000000 in
theorem c_Ex_becomeQuotient {q j : Nat} (hq : RP q) (hj : RP j) (x1 : 2 ^ 63 ≤ rs (W q)) (y1 : 2 ^ 63 ≤ rs (W j)) : zE L xs (d + 2) m_Ex_becomeQuotient [.ref 14, .ref q, .ref j] (sH f g sg A W x y Mc T) (.inl none) (sH f g sg A W (quX (W q) (W j)) y Mc T) := by
  have xl : rs (W q) < 2 ^ 64 := uN_lt2 _
  have yl : rs (W j) < 2 ^ 64 := uN_lt2 _
  have rest : ∀ mb : Bool, decide (rn (W q) ≠ rn (W j)) = mb → zR L xs (d + 2) m_Ex_becomeQuotient 17 [(0, .ref 14), (1, .ref q), (2, .ref j)] [.int (bI mb), .ref 14] (sH f g sg A W x y Mc T) 0 (.inl none) (sH f g sg A W (quX (W q) (W j)) y Mc T) 0 := by
    intro mb hmb
    unfold quX
    rw [hmb]
    refine zX_n rfl rfl rfl ?_
    refine zR_n 2 rfl ?_
    refine zW_g hq rfl rfl rfl rfl rfl ?_
    refine zR_n 1 rfl ?_
    refine zW_g hj rfl rfl rfl rfl rfl ?_
    refine zR_to 30 (st' := [.int (re (W q) - re (W j)), .ref 14]) rfl ?_
    rw [re_zr (W q), re_zr (W j), iZ_sub]
    refine zX_e rfl rfl rfl ?_
    refine zR_n 1 rfl ?_
    refine zW_g hj rfl rfl rfl rfl rfl ?_
    refine zR_n 2 rfl ?_
    refine zW_g hq rfl rfl rfl rfl rfl ?_
    rw [← lN_uN (W q).2.2.2, ← lN_uN (W j).2.2.2]
    refine zR_to 50 (st' := [.long (lN 1), .ref 14]) rfl ?_
    refine zX_h rfl rfl rfl ?_
    refine zR_n 2 rfl ?_
    refine zR_i rfl rfl rfl rfl ⟨Nat.le_of_ble_eq_true rfl, Nat.le_of_ble_eq_true rfl, Nat.le_of_ble_eq_true rfl⟩ rfl (Nat.le_refl _) (c_SR_isBelow (u := lN (uN (W q).2.2.2)) (v := lN (uN (W j).2.2.2))) rfl rfl ?_
    rw [uN_lN (uN_lt2 _), uN_lN (uN_lt2 _)]
    by_cases hc : rs (W q) < rs (W j)
    · rw [if_pos hc, decide_eq_true (show uN (W q).2.2.2 < uN (W j).2.2.2 from hc)]
      refine zR_to 69 (st' := [.int (iZ (zr (W q) - zr (W j)) - iZ 1), .ref 14]) rfl ?_
      rw [iZ_sub]
      refine zX_e rfl rfl rfl ?_
      refine zR_to 78 (st' := [.long (lN 0), .ref 14]) rfl ?_
      refine zX_h rfl rfl rfl ?_
      refine zR_to 93 rfl ?_
      have h9 := l_Ex_becomeQuotient (L := L) (xs := xs) (d := d) (f := f) (g := g) (sg := sg) (A := A) (W := W) (y := y) (Mc := Mc) (T := T) (D := rs (W j)) (ms := 64) (mb := mb) (e := iZ (zr (W q) - zr (W j) - 1)) (z := x.2.2.2) (by omega) yl (by decide) 64 (n := 0) (M := rs (W q)) (by omega) (by rw [Nat.div_eq_of_lt hc]; decide) (fun i => t_Ex_becomeQuotient (by omega) yl)
      rw [Nat.div_eq_of_lt hc, Nat.mod_eq_of_lt hc] at h9
      exact zR_w h9 rfl rfl ⟨rfl, rfl, rfl, rfl, rfl, trivial⟩
    · rw [if_neg hc, decide_eq_false (show ¬ uN (W q).2.2.2 < uN (W j).2.2.2 from hc)]
      refine zR_to 88 (st' := [.long (lN (uN (W q).2.2.2) - lN (uN (W j).2.2.2))]) rfl ?_
      rw [lN_sub (show uN (W j).2.2.2 ≤ uN (W q).2.2.2 by show rs (W j) ≤ rs (W q); omega)]
      refine zR_to 93 rfl ?_
      have e1 : rs (W q) / rs (W j) = 1 := Nat.div_eq_of_lt_le (by omega) (by omega)
      have e2 : rs (W q) % rs (W j) = rs (W q) - rs (W j) := by
        rw [Nat.mod_eq_sub_mod (by omega), Nat.mod_eq_of_lt (by omega)]
      have h9 := l_Ex_becomeQuotient (L := L) (xs := xs) (d := d) (f := f) (g := g) (sg := sg) (A := A) (W := W) (y := y) (Mc := Mc) (T := T) (D := rs (W j)) (ms := 63) (mb := mb) (e := iZ (zr (W q) - zr (W j))) (z := x.2.2.2) (by omega) yl (by decide) 63 (n := 0) (M := rs (W q)) (by omega) (by rw [e1]; decide) (fun i => t_Ex_becomeQuotient (by omega) yl)
      rw [e1, e2] at h9
      exact zR_w h9 rfl rfl ⟨rfl, rfl, rfl, rfl, rfl, trivial⟩
  refine ⟨0, Nat.zero_le _, ?_⟩
  refine zR_n 2 rfl ?_
  refine zW_g hq rfl rfl rfl rfl rfl ?_
  refine zR_n 1 rfl ?_
  refine zW_g hj rfl rfl rfl rfl rfl ?_
  refine zR_n 1 rfl ?_
  refine zR_if (fun h => ?_) (fun h => ?_)
  · exact zR_n 1 rfl (rest false (decide_eq_false (fun h9 => h9 (bI_eq.mp h))))
  · exact zR_n 2 rfl (rest true (decide_eq_true (fun h9 => h (bI_eq.mpr h9))))
end QU
