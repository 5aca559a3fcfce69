/-! whole numbers of the class -/
def iwB (v : RV) : Bool := decide (63 ≤ zr v) || (decide (0 ≤ zr v) && decide (rs v * 2 ^ (zr v + 1).toNat % 2 ^ 64 = 0))
theorem exV_0 (mb : Bool) : exV mb 0 = (0, mb, 0, 0) := if_pos rfl
section WH
variable {L : Nat} {xs : Nat → Int32} {d : Nat} {f : Nat → Int32} {g : Nat → Int64} {sg : Bool} {A : Nat → Option Nat} {W : Nat → RV} {x y v : XV} {Mc : Nat → Int64} {T : List zC}
set_option maxRecDepth 10000 in
theorem c_Re_isWhole {q : Nat} (hq : RP q) : zE L xs d m_Re_isWhole [.ref q] (sH f g sg A W x y Mc T) (.inl (some (.int (bI (iwB (W q)))))) (sH f g sg A W x y Mc T) := by
  have hzr : -2147483648 ≤ zr (W q) ∧ zr (W q) < 2147483648 := iZ_rng (re (W q))
  have yes : iwB (W q) = true → zR L xs d m_Re_isWhole 32 [(0, .ref q)] [] (sH f g sg A W x y Mc T) 0 (.inl (some (.int (bI (iwB (W q)))))) (sH f g sg A W x y Mc T) 0 := fun h => by
    rw [h]
    exact zR_to 37 rfl (zR_e rfl rfl rfl rfl rfl rfl)
  have no : iwB (W q) = false → zR L xs d m_Re_isWhole 36 [(0, .ref q)] [] (sH f g sg A W x y Mc T) 0 (.inl (some (.int (bI (iwB (W q)))))) (sH f g sg A W x y Mc T) 0 := fun h => by
    rw [h]
    exact zR_to 37 rfl (zR_e rfl rfl rfl rfl rfl rfl)
  refine ⟨0, Nat.zero_le _, ?_⟩
  refine zR_n 1 rfl ?_
  refine zW_g hq rfl rfl rfl (fR_e _) rfl ?_
  refine zR_to 6 (st' := [.int (iZ 63), .int (iZ (zr (W q)))]) rfl ?_
  refine zR_m 1 rfl ?_
  refine zR_if (fun h => yes (by unfold iwB; rw [decide_eq_true ((iZ_le (by omega) (by omega)).mp h)]; rfl)) (fun h => ?_)
  have h63 : zr (W q) < 63 := by
    rcases Int.lt_or_le (zr (W q)) 63 with h9 | h9
    · exact h9
    · exact absurd ((iZ_le (by omega) (by omega)).mpr h9) h
  refine zR_n 1 rfl ?_
  refine zW_g hq rfl rfl rfl (fR_e _) rfl ?_
  refine zR_n 1 rfl ?_
  refine zR_if (fun h2 => no ?_) (fun h2 => ?_)
  · have := (iZ_lt (y := 0) (by omega) (by omega)).mp h2
    unfold iwB
    rw [decide_eq_false (show ¬ 63 ≤ zr (W q) by omega), decide_eq_false (show ¬ 0 ≤ zr (W q) by omega)]
    rfl
  have h0 : 0 ≤ zr (W q) := by
    rcases Int.lt_or_le (zr (W q)) 0 with h9 | h9
    · exact absurd ((iZ_lt (y := 0) (by omega) (by omega)).mpr h9) h2
    · exact h9
  refine zR_n 1 rfl ?_
  refine zW_g hq rfl rfl rfl (fR_s _) rfl ?_
  refine zR_n 1 rfl ?_
  refine zW_g hq rfl rfl rfl (fR_e _) rfl ?_
  refine zR_to 26 (st' := [.int (iZ (zr (W q)) + iZ 1), .long (lN (rs (W q)))]) rfl ?_
  rw [iZ_add, show iZ (zr (W q) + 1) = nI (zr (W q) + 1).toNat from by rw [← iZ_nat]; congr 1; omega]
  refine zR_to 27 (st' := [.long (lN (rs (W q)) <<< ((nI (zr (W q) + 1).toNat).toInt64 &&& 63))]) rfl ?_
  rw [wb_shl _ (show (zr (W q) + 1).toNat < 64 by omega)]
  refine zR_to 29 (st' := [.int (lg_cmp (lN (rs (W q) * 2 ^ (zr (W q) + 1).toNat)) 0)]) rfl ?_
  refine zR_m 1 rfl ?_
  refine zR_if (fun h3 => no ?_) (fun h3 => yes ?_)
  · unfold iwB
    rw [decide_eq_false (show ¬ 63 ≤ zr (W q) by omega), decide_eq_false (show ¬ rs (W q) * 2 ^ (zr (W q) + 1).toNat % 2 ^ 64 = 0 from fun h9 => h3 ((lg_cmp_eq _ _).mpr (lN_z.mpr h9)))]
    simp
  · unfold iwB
    rw [decide_eq_true h0, decide_eq_true (show rs (W q) * 2 ^ (zr (W q) + 1).toNat % 2 ^ 64 = 0 from lN_z.mp ((lg_cmp_eq _ _).mp (Decidable.of_not_not h3)))]
    simp
set_option maxRecDepth 10000 in
theorem l_Re_becomeWhole {q : Nat} {mb : Bool} (hq : RP q) : ∀ (s : Nat) {j n : Nat} {p : Int}, s + j ≤ 63 → 0 < n → n < 2 ^ 64 → 64 - nb n = s →
    zR L xs (d + 1) m_Re_becomeWhole 22 [(7, .int (nI j)), (6, .int (iZ p)), (4, .long (lN n)), (0, .ref q), (1, .int (bI mb))] [] (sH f g sg A W x y Mc T) 0 (.inl none) (sH f g sg A (fu W q (1, mb, iZ (p - s), lN (n * 2 ^ s))) x y Mc T) 0 := by
  intro s
  induction s with
  | zero =>
    intro j n p hj h0 h1 hs
    have hb := nb_bd h1
    have h3 := nb_le (x := n) (by omega)
    rw [show nb n = 64 by omega] at h3
    have fin : ∀ l9 : Int32, zR L xs (d + 1) m_Re_becomeWhole 51 [(7, .int (nI j)), (6, .int (iZ p)), (4, .long (lN n)), (0, .ref q), (1, .int (bI mb))] [] (sH f g sg A W x y Mc T) 0 (.inl none) (sH f g sg A (fu W q (1, mb, iZ (p - (0 : Nat)), lN (n * 2 ^ 0))) x y Mc T) 0 := by
      intro _
      rw [Nat.pow_zero, Nat.mul_one, show p - ((0 : Nat) : Int) = p by omega]
      refine zR_to 57 (st' := [.long (lN n), .int (iZ p), .int (bI mb), .ref q]) rfl ?_
      refine zR_v rfl rfl rfl rfl (sR_get hq) ⟨rfl, Nat.le_of_ble_eq_true rfl, Nat.le_of_ble_eq_true rfl⟩ rfl (Nat.le_refl _) (c_Re_becomeFinite hq) rfl rfl ?_
      exact zR_e rfl rfl rfl rfl rfl rfl
    refine zR_to 26 (st' := [.int (nI 63), .int (nI j)]) rfl ?_
    refine zR_m 1 rfl ?_
    refine zR_if (fun _ => fin 0) (fun _ => ?_)
    refine zR_to 33 (st' := [.int (lg_cmp (lN n) 0)]) rfl ?_
    refine zR_m 1 rfl ?_
    refine zR_if (fun _ => fin 0) (fun h9 => absurd ((lg_cmp_le _ _).mpr (by
      rcases lg_tri (lN n) 0 with h8 | h8 | h8
      · exact Int64.le_of_lt h8
      · rw [h8]; exact Int64.le_refl _
      · exact absurd ((lN_neg h1).mp (Int64.le_of_lt h8)) (by omega))) h9)
  | succ s ih =>
    intro j n p hj h0 h1 hs
    have h63 : n < 2 ^ 63 := by
      rcases Nat.lt_or_ge n (2 ^ 63) with h9 | h9
      · exact h9
      · have := nb64 h9 h1
        omega
    have h9 := ih (j := j + 1) (n := n * 2) (p := p - 1) (by omega) (by omega) (by omega) (by rw [nb_2 (by omega)]; omega)
    rw [Nat.mul_assoc, ← Nat.pow_succ', show p - 1 - (s : Int) = p - ((s + 1 : Nat) : Int) by omega] at h9
    refine zR_to 26 (st' := [.int (nI 63), .int (nI j)]) rfl ?_
    refine zR_m 1 rfl ?_
    refine zR_if (fun h8 => absurd h8 (nI_ge (a := j) (b := 63) (by omega) (by decide))) (fun _ => ?_)
    refine zR_to 33 (st' := [.int (lg_cmp (lN n) 0)]) rfl ?_
    refine zR_m 1 rfl ?_
    refine zR_if (fun h8 => ?_) (fun _ => ?_)
    · have h7 := (pk_lLE h63 (show 0 < 2 ^ 63 by decide)).mp ((lg_cmp_le _ _).mp h8)
      omega
    refine zR_to 40 (st' := [.long (lN n <<< ((nI 1).toInt64 &&& 63))]) rfl ?_
    rw [wb_shl _ (show 1 < 64 by decide), Nat.pow_one]
    refine zR_to 22 rfl ?_
    refine zR_w h9 rfl rfl ⟨?_, ?_, rfl, rfl, rfl, trivial⟩
    · rw [← nI_1]
      rfl
    · rw [show iZ (p - 1) = iZ p + iZ (-1) from by rw [iZ_add]; rfl]
      rfl
set_option maxRecDepth 10000 in
theorem c_Re_becomeWhole {q N : Nat} {mb : Bool} (hq : RP q) (hN : N < 2 ^ 64) : zE L xs (d + 1) m_Re_becomeWhole [.ref q, .int (bI mb), .long (lN N)] (sH f g sg A W x y Mc T) (.inl none) (sH f g sg A (fu W q (exV mb N)) x y Mc T) := by
  refine ⟨0, Nat.zero_le _, ?_⟩
  refine zR_to 3 (st' := [.int (lg_cmp (lN N) 0)]) rfl ?_
  refine zR_m 1 rfl ?_
  refine zR_if (fun h => ?_) (fun h => ?_)
  · have h0 : N ≠ 0 := fun h9 => h ((lg_cmp_eq _ _).mpr (by rw [h9]; rfl))
    have hb := nb_bd hN
    have hb1 : 1 ≤ nb N := by
      rcases Nat.eq_zero_or_pos (nb N) with h9 | h9
      · have := nb_lt N
        rw [h9] at this
        omega
      · exact h9
    have h9 := l_Re_becomeWhole (L := L) (xs := xs) (d := d) (f := f) (g := g) (sg := sg) (A := A) (W := W) (x := x) (y := y) (Mc := Mc) (T := T) (mb := mb) hq (64 - nb N) (j := 0) (n := N) (p := 63) (by omega) (by omega) hN rfl
    rw [show (63 : Int) - ((64 - nb N : Nat) : Int) = (nb N : Int) - 1 by omega, ← rSg_p rfl hb] at h9
    unfold exV
    rw [if_neg h0]
    refine zR_to 22 rfl ?_
    exact zR_w h9 rfl rfl ⟨rfl, rfl, rfl, rfl, rfl, trivial⟩
  · have h0 : N = 0 := by
      have := lN_z.mp ((lg_cmp_eq _ _).mp (Decidable.of_not_not h))
      omega
    rw [h0, exV_0]
    refine zR_to 8 (st' := [.int (bI mb), .ref q]) rfl ?_
    refine zR_v rfl rfl rfl rfl (sR_get hq) ⟨rfl, Nat.le_of_ble_eq_true rfl, Nat.le_of_ble_eq_true rfl⟩ rfl (Nat.le_refl _) (c_Re_becomeZero hq) rfl rfl ?_
    exact zR_e rfl rfl rfl rfl rfl rfl
/-- the bits behind the point -/
theorem wh_f {X c t : Nat} (hX : X < 2 ^ 64) (hc : c + t = 64) (h1 : 1 ≤ c) (ht : t ≤ 63) : gH X c = decide (2 ^ 63 ≤ X * 2 ^ t % 2 ^ 64) ∧ gB X c = decide (X * 2 ^ t * 2 % 2 ^ 64 ≠ 0) := by
  have e1 : (2 : Nat) ^ 64 = 2 ^ c * 2 ^ t := by rw [← Nat.pow_add, hc]
  have e2 : (2 : Nat) ^ 63 = 2 ^ (c - 1) * 2 ^ t := by rw [← Nat.pow_add]; congr 1; omega
  have e3 : (2 : Nat) ^ c = 2 ^ (c - 1) * 2 := by rw [← Nat.pow_succ]; congr 1; omega
  have hm : X * 2 ^ t % 2 ^ 64 = X % 2 ^ c * 2 ^ t := by rw [e1, Nat.mul_mod_mul_right]
  have hm2 : X * 2 ^ t * 2 % 2 ^ 64 = X % 2 ^ (c - 1) * (2 ^ t * 2) := by
    rw [e1, e3, Nat.mul_assoc X, Nat.mul_assoc (2 ^ (c - 1)), Nat.mul_comm 2 (2 ^ t), Nat.mul_mod_mul_right]
  have hpt := pow_pos2 t
  have hpc := pow_pos2 (c - 1)
  have hx : X % 2 ^ c = X % 2 ^ (c - 1) + 2 ^ (c - 1) * (X / 2 ^ (c - 1) % 2) := by rw [e3, Nat.mod_mul]
  have hlt := Nat.mod_lt X hpc
  unfold gH gB
  constructor
  · apply decide_eq_decide.mpr
    rw [hm, e2]
    constructor
    · intro h9
      rw [hx, h9, Nat.mul_one]
      exact Nat.mul_le_mul_right _ (by omega)
    · intro h9
      have h8 := Nat.le_of_mul_le_mul_right h9 hpt
      rcases Nat.mod_two_eq_zero_or_one (X / 2 ^ (c - 1)) with h7 | h7
      · rw [hx, h7] at h8
        omega
      · exact h7
  · apply decide_eq_decide.mpr
    rw [hm2]
    constructor
    · intro h9 h8
      rcases Nat.mul_eq_zero.mp h8 with h7 | h7
      · exact h9 h7
      · omega
    · intro h9 h8
      exact h9 (by rw [h8, Nat.zero_mul])
set_option maxRecDepth 10000 in
set_option maxHeartbeats 4000000 in
theorem c_Ro_wholeMagnitude {q w : Nat} (hq : RP q) (hw : f 5 = nI w) (hw4 : w < 4) (hr : -17000 ≤ zr (W q) ∧ zr (W q) ≤ 63) (hX : zr (W q) < -1 → rs (W q) ≠ 0) : zE L xs (d + 1) m_Ro_wholeMagnitude [.ref 12, .ref q] (sH f g sg A W x y Mc T) (.inl (some (.long (lN (whN w (rn (W q)) (rs (W q)) (zr (W q))))))) (sH f g sg A W x y Mc T) := by
  have xl : rs (W q) < 2 ^ 64 := uN_lt2 _
  refine ⟨0, Nat.zero_le _, ?_⟩
  refine zR_n 1 rfl ?_
  refine zW_g hq rfl rfl rfl (fR_e _) rfl ?_
  refine zR_to 6 (st' := [.int (iZ 63), .int (iZ (zr (W q)))]) rfl ?_
  refine zR_m 1 rfl ?_
  unfold whN
  refine zR_if (fun h => ?_) (fun h => ?_)
  · have h63 : zr (W q) < 63 := by
      rcases Int.lt_or_le (zr (W q)) 63 with h9 | h9
      · exact h9
      · exact absurd ((iZ_eq (by omega) (by omega)).mpr (show zr (W q) = 63 by omega)) h
    rw [if_neg (show ¬ 63 ≤ zr (W q) by omega)]
    refine zR_n 1 rfl ?_
    refine zW_g hq rfl rfl rfl (fR_e _) rfl ?_
    refine zR_to 19 (st' := [.int (iZ (-1)), .int (iZ (zr (W q)))]) rfl ?_
    refine zR_m 1 rfl ?_
    refine zR_if (fun h2 => ?_) (fun h2 => ?_)
    · have hm1 := (iZ_le (by omega) (by omega)).mp h2
      have hc : whC (zr (W q)) = (63 - zr (W q)).toNat := if_neg (by omega)
      rw [hc]
      generalize hcc : (63 - zr (W q)).toNat = c at *
      have hc1 : 1 ≤ c := by omega
      have hc64 : c ≤ 64 := by omega
      obtain ⟨g1, g2⟩ := wh_f (t := 64 - c) xl (by omega) hc1 (by omega)
      have hsh : (iZ 62 - iZ (zr (W q))) = nI (c - 1) := by
        rw [iZ_sub, ← iZ_nat]
        congr 1
        omega
      have hsl : iZ (zr (W q)) + iZ 1 = nI (64 - c) := by
        rw [iZ_add, ← iZ_nat]
        congr 1
        omega
      have hk : rs (W q) / 2 / 2 ^ (c - 1) = rs (W q) / 2 ^ c := by
        rw [Nat.div_div_eq_div_mul, ← Nat.pow_succ']
        congr 2
        omega
      have hkl : rs (W q) / 2 ^ c < 2 ^ 64 := Nat.lt_of_le_of_lt (Nat.div_le_self _ _) xl
      generalize hlo : rs (W q) * 2 ^ (64 - c) % 2 ^ 64 = lost at *
      have hll : lost < 2 ^ 64 := by
        rw [← hlo]
        exact Nat.mod_lt _ (by decide)
      have g2' : gB (rs (W q)) c = decide (lost * 2 % 2 ^ 64 ≠ 0) := by
        rw [g2, ← hlo]
        apply decide_eq_decide.mpr
        rw [show rs (W q) * 2 ^ (64 - c) * 2 % 2 ^ 64 = rs (W q) * 2 ^ (64 - c) % 2 ^ 64 * 2 % 2 ^ 64 from by rw [Nat.mod_mul_mod]]
      refine zR_n 1 rfl ?_
      refine zW_g hq rfl rfl rfl (fR_s _) rfl ?_
      refine zR_to 48 (st' := [.long ((lN (rs (W q))).toUInt64 >>> ((nI 1).toInt64.toUInt64 &&& Int64.toUInt64 63)).toInt64]) rfl ?_
      rw [wb_shr xl (show 1 < 64 by decide), Nat.pow_one]
      refine zR_n 2 rfl ?_
      refine zW_g hq rfl rfl rfl (fR_e _) rfl ?_
      refine zR_to 55 (st' := [.int (iZ 62 - iZ (zr (W q))), .long (lN (rs (W q) / 2))]) rfl ?_
      rw [hsh]
      refine zR_to 56 (st' := [.long ((lN (rs (W q) / 2)).toUInt64 >>> ((nI (c - 1)).toInt64.toUInt64 &&& Int64.toUInt64 63)).toInt64]) rfl ?_
      rw [wb_shr (by omega) (show c - 1 < 64 by omega), hk]
      refine zR_to 58 rfl ?_
      refine zW_g hq rfl rfl rfl (fR_s _) rfl ?_
      refine zR_n 1 rfl ?_
      refine zW_g hq rfl rfl rfl (fR_e _) rfl ?_
      refine zR_to 67 (st' := [.int (iZ (zr (W q)) + iZ 1), .long (lN (rs (W q)))]) rfl ?_
      rw [hsl]
      refine zR_to 68 (st' := [.long (lN (rs (W q)) <<< ((nI (64 - c)).toInt64 &&& 63))]) rfl ?_
      rw [wb_shl _ (show 64 - c < 64 by omega), wb_mod (rs (W q) * 2 ^ (64 - c)), hlo]
      refine zR_to 72 rfl ?_
      refine zW_g hq rfl rfl rfl rfl rfl ?_
      refine zR_to 78 (st' := [.long (lN (rs (W q) / 2 ^ c) &&& 1), .int (bI (rn (W q))), .ref 12]) rfl ?_
      rw [wb_a1 hkl]
      have gO' : gO (rs (W q)) c = decide (rs (W q) / 2 ^ c % 2 = 1) := rfl
      have h2l : rs (W q) / 2 ^ c % 2 < 2 := Nat.mod_lt _ (by decide)
      -- the answer of goesAway
      have away : ∀ up : Bool, rUp w (rn (W q)) (gO (rs (W q)) c) (gH (rs (W q)) c) (gB (rs (W q)) c) = up → zR L xs (d + 1) m_Ro_wholeMagnitude 117 [(4, .long (lN lost)), (2, .long (lN (rs (W q) / 2 ^ c))), (0, .ref 12), (1, .ref q)] [.int (bI up)] (sH f g sg A W x y Mc T) 0 (.inl (some (.long (lN (rs (W q) / 2 ^ c + (if rUp w (rn (W q)) (gO (rs (W q)) c) (gH (rs (W q)) c) (gB (rs (W q)) c) then 1 else 0)))))) (sH f g sg A W x y Mc T) 0 := by
        intro up hup
        rw [hup]
        cases up with
        | true =>
          refine zR_to 127 (st' := [.long (lN (rs (W q) / 2 ^ c) + lN 1)]) rfl ?_
          rw [lN_add]
          exact zR_to 131 rfl (zR_e rfl rfl rfl rfl rfl rfl)
        | false => exact zR_to 131 rfl (zR_e rfl rfl rfl rfl rfl rfl)
      have m3 : ∀ od hf rt : Bool, gO (rs (W q)) c = od → gH (rs (W q)) c = hf → gB (rs (W q)) c = rt → zR L xs (d + 1) m_Ro_wholeMagnitude 114 [(4, .long (lN lost)), (2, .long (lN (rs (W q) / 2 ^ c))), (0, .ref 12), (1, .ref q)] [.int (bI rt), .int (bI hf), .int (bI od), .int (bI (rn (W q))), .ref 12] (sH f g sg A W x y Mc T) 0 (.inl (some (.long (lN (rs (W q) / 2 ^ c + (if rUp w (rn (W q)) (gO (rs (W q)) c) (gH (rs (W q)) c) (gB (rs (W q)) c) then 1 else 0)))))) (sH f g sg A W x y Mc T) 0 := by
        intro od hf rt e1 e2 e3
        refine zR_v rfl rfl rfl rfl rfl ⟨rfl, Nat.le_of_ble_eq_true rfl, Nat.le_of_ble_eq_true rfl⟩ rfl (Nat.le_refl _) (c_Ro_goesAway hw hw4) rfl rfl ?_
        exact away _ (by rw [e1, e2, e3])
      have m2 : ∀ od hf : Bool, gO (rs (W q)) c = od → gH (rs (W q)) c = hf → zR L xs (d + 1) m_Ro_wholeMagnitude 100 [(4, .long (lN lost)), (2, .long (lN (rs (W q) / 2 ^ c))), (0, .ref 12), (1, .ref q)] [.int (bI hf), .int (bI od), .int (bI (rn (W q))), .ref 12] (sH f g sg A W x y Mc T) 0 (.inl (some (.long (lN (rs (W q) / 2 ^ c + (if rUp w (rn (W q)) (gO (rs (W q)) c) (gH (rs (W q)) c) (gB (rs (W q)) c) then 1 else 0)))))) (sH f g sg A W x y Mc T) 0 := by
        intro od hf e1 e2
        refine zR_to 104 (st' := [.long (lN lost <<< ((nI 1).toInt64 &&& 63)), .int (bI hf), .int (bI od), .int (bI (rn (W q))), .ref 12]) rfl ?_
        rw [wb_shl _ (show 1 < 64 by decide), Nat.pow_one]
        refine zR_to 106 (st' := [.int (lg_cmp (lN (lost * 2)) 0), .int (bI hf), .int (bI od), .int (bI (rn (W q))), .ref 12]) rfl ?_
        refine zR_m 1 rfl ?_
        refine zR_if (fun h3 => ?_) (fun h3 => ?_)
        · exact zR_to 114 rfl (m3 od hf false e1 e2 (by rw [g2', decide_eq_false (show ¬ lost * 2 % 2 ^ 64 ≠ 0 from fun h9 => h9 (lN_z.mp ((lg_cmp_eq _ _).mp h3)))]))
        · exact zR_to 114 rfl (m3 od hf true e1 e2 (by rw [g2', decide_eq_true (show lost * 2 % 2 ^ 64 ≠ 0 from fun h9 => h3 ((lg_cmp_eq _ _).mpr (lN_z.mpr h9)))]))
      have m1 : ∀ od : Bool, gO (rs (W q)) c = od → zR L xs (d + 1) m_Ro_wholeMagnitude 88 [(4, .long (lN lost)), (2, .long (lN (rs (W q) / 2 ^ c))), (0, .ref 12), (1, .ref q)] [.int (bI od), .int (bI (rn (W q))), .ref 12] (sH f g sg A W x y Mc T) 0 (.inl (some (.long (lN (rs (W q) / 2 ^ c + (if rUp w (rn (W q)) (gO (rs (W q)) c) (gH (rs (W q)) c) (gB (rs (W q)) c) then 1 else 0)))))) (sH f g sg A W x y Mc T) 0 := by
        intro od e1
        refine zR_to 92 (st' := [.int (lg_cmp (lN lost) 0), .int (bI od), .int (bI (rn (W q))), .ref 12]) rfl ?_
        refine zR_m 1 rfl ?_
        refine zR_if (fun h3 => ?_) (fun h3 => ?_)
        · exact zR_to 100 rfl (m2 od false e1 (by rw [g1, decide_eq_false (show ¬ 2 ^ 63 ≤ lost from fun h9 => by have := (lN_neg hll).mp ((lg_cmp_ge _ _).mp h3); omega)]))
        · exact zR_to 100 rfl (m2 od true e1 (by rw [g1, decide_eq_true (show 2 ^ 63 ≤ lost by
            rcases Nat.lt_or_ge lost (2 ^ 63) with h9 | h9
            · exact absurd ((lg_cmp_ge _ _).mpr ((lN_neg hll).mpr h9)) h3
            · exact h9)]))
      refine zR_to 80 (st' := [.int (lg_cmp (lN (rs (W q) / 2 ^ c % 2)) 0), .int (bI (rn (W q))), .ref 12]) rfl ?_
      refine zR_m 1 rfl ?_
      refine zR_if (fun h3 => ?_) (fun h3 => ?_)
      · have h8 : ¬ rs (W q) / 2 ^ c % 2 = 1 := fun h9 => by
          have := lN_z.mp ((lg_cmp_eq _ _).mp h3)
          omega
        exact zR_to 88 rfl (m1 false (by rw [gO', decide_eq_false h8]))
      · have h8 : rs (W q) / 2 ^ c % 2 = 1 := by
          rcases Nat.mod_two_eq_zero_or_one (rs (W q) / 2 ^ c) with h9 | h9
          · exact absurd ((lg_cmp_eq _ _).mpr (by rw [h9]; rfl)) h3
          · exact h9
        exact zR_to 88 rfl (m1 true (by rw [gO', decide_eq_true h8]))
    · have hm1 : zr (W q) < -1 := by
        rcases Int.lt_or_le (zr (W q)) (-1) with h9 | h9
        · exact h9
        · exact absurd ((iZ_le (by omega) (by omega)).mpr h9) h2
      have hc : 65 ≤ whC (zr (W q)) := by
        unfold whC
        split <;> omega
      generalize whC (zr (W q)) = c at *
      have z1 : rs (W q) / 2 ^ c = 0 := Nat.div_eq_of_lt (Nat.lt_of_lt_of_le xl (Nat.pow_le_pow_right (by decide) (by omega)))
      have hl1 : rs (W q) < 2 ^ (c - 1) := Nat.lt_of_lt_of_le xl (Nat.pow_le_pow_right (by decide) (by omega))
      have z2 : gO (rs (W q)) c = false := by
        unfold gO
        rw [z1]
        rfl
      have z3 : gH (rs (W q)) c = false := by
        unfold gH
        rw [Nat.div_eq_of_lt hl1]
        rfl
      have z4 : gB (rs (W q)) c = true := by
        unfold gB
        rw [Nat.mod_eq_of_lt hl1]
        exact decide_eq_true (hX hm1)
      rw [z1, z2, z3, z4, Nat.zero_add]
      refine zR_n 2 rfl ?_
      refine zW_g hq rfl rfl rfl rfl rfl ?_
      refine zR_to 30 (st' := [.int (bI true), .int (bI false), .int (bI false), .int (bI (rn (W q))), .ref 12]) rfl ?_
      refine zR_v rfl rfl rfl rfl rfl ⟨rfl, Nat.le_of_ble_eq_true rfl, Nat.le_of_ble_eq_true rfl⟩ rfl (Nat.le_refl _) (c_Ro_goesAway hw hw4) rfl rfl ?_
      cases rUp w (rn (W q)) false false true with
      | true => exact zR_to 41 rfl (zR_e rfl rfl rfl rfl rfl rfl)
      | false => exact zR_to 41 rfl (zR_e rfl rfl rfl rfl rfl rfl)
  · have h63 : zr (W q) = 63 := (iZ_eq (by omega) (by omega)).mp (Decidable.of_not_not h)
    rw [if_pos (by omega), h63, show (63 : Int) - 63 = ((0 : Nat) : Int) by decide, shZ_pos, Nat.pow_zero, Nat.mul_one]
    refine zR_n 1 rfl ?_
    refine zW_g hq rfl rfl rfl (fR_s _) rfl ?_
    exact zR_e rfl rfl rfl rfl rfl rfl
end WH
