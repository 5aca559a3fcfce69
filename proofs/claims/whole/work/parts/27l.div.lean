/-! divide of the class -/
theorem quo_rep {x y : RV} (x1 : 2 ^ 63 ≤ rs x) (y1 : 2 ^ 63 ≤ rs y) : xRep (quX x y) (decide (rn x ≠ rn y)) (dvX (rs x) (rs y)) (zr x - zr y - 80) := by
  have xl : rs x < 2 ^ 64 := uN_lt2 _
  have yl : rs y < 2 ^ 64 := uN_lt2 _
  have hD : 0 < rs y := by omega
  have lo_f : ∀ M : Nat, qLo M (rs y) < 2 ^ 64 ∧ 2 * (M / rs y) + qLo M (rs y) / 2 ^ 63 = M * 2 / rs y ∧ decide (qLo M (rs y) % 2 ^ 63 ≠ 0) = decide (M * 2 % rs y ≠ 0) := by
    intro M
    obtain ⟨d1, -⟩ := dbl_div (M := M) hD
    unfold qLo
    refine ⟨?_, ?_, ?_⟩
    · split <;> split <;> decide
    · rw [d1]
      congr 1
      split <;> split <;> decide
    · apply decide_eq_decide.mpr
      split <;> split <;> omega
  unfold quX
  by_cases hc : rs x < rs y
  · rw [if_pos hc]
    obtain ⟨l1, l2, l3⟩ := lo_f (rs x * 2 ^ 64)
    have a1 : 2 ^ 63 ≤ rs x * 2 ^ 64 / rs y := (Nat.le_div_iff_mul_le hD).mpr (by omega)
    have a2 : rs x * 2 ^ 64 / rs y < 2 ^ 64 := Nat.div_lt_of_lt_mul (by omega)
    refine ⟨_, _, _, rfl, a1, a2, l1, ?_⟩
    rw [l2, l3, show rs x * 2 ^ 64 * 2 = rs x * 2 ^ (79 - 14) by omega]
    have b1 : 2 ^ 64 ≤ rs x * 2 ^ (79 - 14) / rs y := (Nat.le_div_iff_mul_le hD).mpr (by omega)
    have b2 : rs x * 2 ^ (79 - 14) / rs y < 2 ^ 65 := Nat.div_lt_of_lt_mul (by omega)
    have h9 := quo_can (k := 14) (q := zr x - zr y - 80) (by decide) hD b1 b2
    rw [show zr x - zr y - 80 + ((14 : Nat) : Int) + 65 = zr x - zr y - 1 by omega] at h9
    exact h9
  · rw [if_neg hc]
    obtain ⟨l1, l2, l3⟩ := lo_f (rs x * 2 ^ 63)
    have a1 : 2 ^ 63 ≤ rs x * 2 ^ 63 / rs y := (Nat.le_div_iff_mul_le hD).mpr (by omega)
    have a2 : rs x * 2 ^ 63 / rs y < 2 ^ 64 := Nat.div_lt_of_lt_mul (by omega)
    refine ⟨_, _, _, rfl, a1, a2, l1, ?_⟩
    rw [l2, l3, show rs x * 2 ^ 63 * 2 = rs x * 2 ^ (79 - 15) by omega]
    have b1 : 2 ^ 64 ≤ rs x * 2 ^ (79 - 15) / rs y := (Nat.le_div_iff_mul_le hD).mpr (by omega)
    have b2 : rs x * 2 ^ (79 - 15) / rs y < 2 ^ 65 := Nat.div_lt_of_lt_mul (by omega)
    have h9 := quo_can (k := 15) (q := zr x - zr y - 80) (by decide) hD b1 b2
    rw [show zr x - zr y - 80 + ((15 : Nat) : Int) + 65 = zr x - zr y by omega] at h9
    exact h9
section DV
variable {L : Nat} {xs : Nat → Int32} {d : Nat} {f : Nat → Int32} {g : Nat → Int64} {sg : Bool} {A : Nat → Option Nat} {W : Nat → RV} {x y v : XV} {Mc : Nat → Int64} {T : List zC}
set_option maxRecDepth 10000 in
set_option maxHeartbeats 4000000 in
theorem c_Ar_divide {q j p w : Nat} (hq : RP q) (hj : RP j) (ht : f 4 = nI p) (hw : f 5 = nI w) (hw4 : w < 4) (hp : pOk p) (hx : vOk (W q)) (hy : vOk (W j)) : ∃ x', zE L xs (d + 3) m_Ar_divide [.ref 13, .ref q, .ref j, .ref 10] (sH f g sg A W x y Mc T) (.inl (some (.int (divR w p (W q) (W j)).2))) (sH f g sg A (fu W 10 (divR w p (W q) (W j)).1) x' y Mc T) := by
  have h10 : RP 10 := Or.inl ⟨by decide, by decide⟩
  generalize hmb : decide (rn (W q) ≠ rn (W j)) = mb
  have go : ∀ {o : zO} {h9 : zH}, zR L xs (d + 3) m_Ar_divide 18 [(4, .int (bI mb)), (0, .ref 13), (1, .ref q), (2, .ref j), (3, .ref 10)] [] (sH f g sg A W x y Mc T) 0 o h9 0 → zE L xs (d + 3) m_Ar_divide [.ref 13, .ref q, .ref j, .ref 10] (sH f g sg A W x y Mc T) o h9 := fun {o h9} hr => by
    refine ⟨0, Nat.zero_le _, ?_⟩
    refine zR_n 1 rfl ?_
    refine zW_g hq rfl rfl rfl rfl rfl ?_
    refine zR_n 1 rfl ?_
    refine zW_g hj rfl rfl rfl rfl rfl ?_
    refine zR_n 1 rfl ?_
    refine zR_if (fun h => ?_) (fun h => ?_)
    · rw [← hmb, decide_eq_false (show ¬ rn (W q) ≠ rn (W j) from fun h9 => h9 (bI_eq.mp h))] at hr
      exact zR_to 18 rfl hr
    · rw [← hmb, decide_eq_true (show rn (W q) ≠ rn (W j) from fun h9 => h (bI_eq.mpr h9))] at hr
      exact zR_to 18 rfl hr
  have q3 : ∀ {o : zO} {h9 : zH}, (eit (W q) (W j) 3 = true → zR L xs (d + 3) m_Ar_divide 34 [(4, .int (bI mb)), (0, .ref 13), (1, .ref q), (2, .ref j), (3, .ref 10)] [] (sH f g sg A W x y Mc T) 0 o h9 0) → (eit (W q) (W j) 3 = false → zR L xs (d + 3) m_Ar_divide 40 [(4, .int (bI mb)), (0, .ref 13), (1, .ref q), (2, .ref j), (3, .ref 10)] [] (sH f g sg A W x y Mc T) 0 o h9 0) → zE L xs (d + 3) m_Ar_divide [.ref 13, .ref q, .ref j, .ref 10] (sH f g sg A W x y Mc T) o h9 := fun {o h9} hy hn => by
    refine go ?_
    refine zR_n 1 rfl ?_
    refine zW_g hq rfl rfl rfl rfl rfl ?_
    refine zR_n 2 rfl ?_
    refine zR_if (fun h => hy (by unfold eit; rw [decide_eq_true (show rk (W q) = 3 from h)]; rfl)) (fun h => ?_)
    refine zR_n 1 rfl ?_
    refine zW_g hj rfl rfl rfl rfl rfl ?_
    refine zR_n 2 rfl ?_
    refine zR_if (fun h2 => hn (by unfold eit; rw [decide_eq_false (show ¬ rk (W q) = 3 from h), decide_eq_false (show ¬ rk (W j) = 3 from h2)]; rfl)) (fun h2 => hy (by unfold eit; rw [decide_eq_true (show rk (W j) = 3 from Decidable.of_not_not h2)]; simp))
  unfold divR
  rw [hmb]
  cases h3 : eit (W q) (W j) 3 with
  | true =>
    rw [if_pos rfl]
    refine ⟨x, q3 (fun _ => ?_) (fun h => by rw [h3] at h; cases h)⟩
    refine zR_n 1 rfl ?_
    refine zR_v rfl rfl rfl rfl rfl ⟨rfl, Nat.le_of_ble_eq_true rfl, Nat.le_of_ble_eq_true rfl⟩ rfl (Nat.le_refl _) (c_Re_becomeNan h10) rfl rfl ?_
    exact zR_to 39 rfl (zR_e rfl rfl rfl rfl rfl rfl)
  | false =>
    rw [if_neg (show ¬ (false = true) by decide)]
    have go3 : ∀ {o : zO} {h9 : zH}, zR L xs (d + 3) m_Ar_divide 40 [(4, .int (bI mb)), (0, .ref 13), (1, .ref q), (2, .ref j), (3, .ref 10)] [] (sH f g sg A W x y Mc T) 0 o h9 0 → zE L xs (d + 3) m_Ar_divide [.ref 13, .ref q, .ref j, .ref 10] (sH f g sg A W x y Mc T) o h9 := fun hr => q3 (fun h => by rw [h3] at h; cases h) (fun _ => hr)
    have qs : ∀ {o : zO} {h9 : zH}, (rk (W q) = rk (W j) ∧ rk (W q) ≠ 1 → zR L xs (d + 3) m_Ar_divide 59 [(4, .int (bI mb)), (0, .ref 13), (1, .ref q), (2, .ref j), (3, .ref 10)] [] (sH f g sg A W x y Mc T) 0 o h9 0) → (¬ (rk (W q) = rk (W j) ∧ rk (W q) ≠ 1) → zR L xs (d + 3) m_Ar_divide 64 [(4, .int (bI mb)), (0, .ref 13), (1, .ref q), (2, .ref j), (3, .ref 10)] [] (sH f g sg A W x y Mc T) 0 o h9 0) → zR L xs (d + 3) m_Ar_divide 40 [(4, .int (bI mb)), (0, .ref 13), (1, .ref q), (2, .ref j), (3, .ref 10)] [] (sH f g sg A W x y Mc T) 0 o h9 0 := fun {o h9} hy hn => by
      refine zR_n 1 rfl ?_
      refine zW_g hq rfl rfl rfl rfl rfl ?_
      refine zR_n 1 rfl ?_
      refine zW_g hj rfl rfl rfl rfl rfl ?_
      refine zR_n 1 rfl ?_
      refine zR_if (fun h => hn (fun h9 => h h9.1)) (fun h => ?_)
      refine zR_n 1 rfl ?_
      refine zW_g hq rfl rfl rfl rfl rfl ?_
      refine zR_n 2 rfl ?_
      refine zR_if (fun h2 => hn (fun h9 => h9.2 h2)) (fun h2 => hy ⟨Decidable.of_not_not h, h2⟩)
    by_cases hb : rk (W q) = rk (W j) ∧ rk (W q) ≠ 1
    · rw [if_pos hb]
      refine ⟨x, go3 (qs (fun _ => ?_) (fun h => absurd hb h))⟩
      refine zR_n 1 rfl ?_
      refine zR_i rfl rfl rfl rfl ⟨Nat.le_of_ble_eq_true rfl, Nat.le_of_ble_eq_true rfl, Nat.le_of_ble_eq_true rfl⟩ rfl (Nat.le_refl _) c_Ar_makeInvalid rfl rfl ?_
      exact zR_e rfl rfl rfl rfl rfl rfl
    · rw [if_neg hb]
      have go4 : ∀ {o : zO} {h9 : zH}, zR L xs (d + 3) m_Ar_divide 64 [(4, .int (bI mb)), (0, .ref 13), (1, .ref q), (2, .ref j), (3, .ref 10)] [] (sH f g sg A W x y Mc T) 0 o h9 0 → zE L xs (d + 3) m_Ar_divide [.ref 13, .ref q, .ref j, .ref 10] (sH f g sg A W x y Mc T) o h9 := fun hr => go3 (qs (fun h => absurd h hb) (fun _ => hr))
      by_cases hq2 : rk (W q) = 2
      · rw [if_pos hq2]
        refine ⟨x, go4 ?_⟩
        refine zR_n 1 rfl ?_
        refine zW_g hq rfl rfl rfl rfl rfl ?_
        refine zR_n 2 rfl ?_
        refine zR_if (fun h => absurd hq2 h) (fun _ => ?_)
        refine zR_n 2 rfl ?_
        refine zR_v rfl rfl rfl rfl rfl ⟨rfl, Nat.le_of_ble_eq_true rfl, Nat.le_of_ble_eq_true rfl⟩ rfl (Nat.le_refl _) (c_Re_becomeInfinite h10) rfl rfl ?_
        exact zR_to 79 rfl (zR_e rfl rfl rfl rfl rfl rfl)
      · rw [if_neg hq2]
        have go5 : ∀ {o : zO} {h9 : zH}, zR L xs (d + 3) m_Ar_divide 80 [(4, .int (bI mb)), (0, .ref 13), (1, .ref q), (2, .ref j), (3, .ref 10)] [] (sH f g sg A W x y Mc T) 0 o h9 0 → zE L xs (d + 3) m_Ar_divide [.ref 13, .ref q, .ref j, .ref 10] (sH f g sg A W x y Mc T) o h9 := fun {o h9} hr => by
          refine go4 ?_
          refine zR_n 1 rfl ?_
          refine zW_g hq rfl rfl rfl rfl rfl ?_
          refine zR_n 2 rfl ?_
          exact zR_if (fun _ => hr) (fun h => absurd (Decidable.of_not_not h) hq2)
        have z80 : ∀ {o : zO} {h9 : zH}, (rk (W j) = 2 ∨ rk (W q) = 0 → zR L xs (d + 3) m_Ar_divide 95 [(4, .int (bI mb)), (0, .ref 13), (1, .ref q), (2, .ref j), (3, .ref 10)] [] (sH f g sg A W x y Mc T) 0 o h9 0) → (¬ (rk (W j) = 2 ∨ rk (W q) = 0) → zR L xs (d + 3) m_Ar_divide 103 [(4, .int (bI mb)), (0, .ref 13), (1, .ref q), (2, .ref j), (3, .ref 10)] [] (sH f g sg A W x y Mc T) 0 o h9 0) → zR L xs (d + 3) m_Ar_divide 80 [(4, .int (bI mb)), (0, .ref 13), (1, .ref q), (2, .ref j), (3, .ref 10)] [] (sH f g sg A W x y Mc T) 0 o h9 0 := fun {o h9} hy hn => by
          refine zR_n 1 rfl ?_
          refine zW_g hj rfl rfl rfl rfl rfl ?_
          refine zR_n 2 rfl ?_
          refine zR_if (fun h => hy (Or.inl h)) (fun h => ?_)
          refine zR_n 1 rfl ?_
          refine zW_g hq rfl rfl rfl rfl rfl ?_
          refine zR_n 1 rfl ?_
          exact zR_if (fun h2 => hn (fun h9 => by
            rcases h9 with h9 | h9
            · exact h h9
            · exact h2 h9)) (fun h2 => hy (Or.inr (Decidable.of_not_not h2)))
        by_cases hz : rk (W j) = 2 ∨ rk (W q) = 0
        · rw [if_pos hz]
          refine ⟨x, go5 (z80 (fun _ => ?_) (fun h => absurd hz h))⟩
          refine zR_n 2 rfl ?_
          refine zR_v rfl rfl rfl rfl rfl ⟨rfl, Nat.le_of_ble_eq_true rfl, Nat.le_of_ble_eq_true rfl⟩ rfl (Nat.le_refl _) (c_Re_becomeZero h10) rfl rfl ?_
          exact zR_to 102 rfl (zR_e rfl rfl rfl rfl rfl rfl)
        · rw [if_neg hz]
          by_cases hj0 : rk (W j) = 0
          · rw [if_pos hj0]
            refine ⟨x, go5 (z80 (fun h => absurd h hz) (fun _ => ?_))⟩
            refine zR_n 1 rfl ?_
            refine zW_g hj rfl rfl rfl rfl rfl ?_
            refine zR_n 1 rfl ?_
            refine zR_if (fun h => absurd hj0 h) (fun _ => ?_)
            refine zR_n 2 rfl ?_
            refine zR_v rfl rfl rfl rfl rfl ⟨rfl, Nat.le_of_ble_eq_true rfl, Nat.le_of_ble_eq_true rfl⟩ rfl (Nat.le_refl _) (c_Re_becomeInfinite h10) rfl rfl ?_
            exact zR_to 117 rfl (zR_e rfl rfl rfl rfl rfl rfl)
          · rw [if_neg hj0]
            obtain ⟨a1, a2⟩ := eit_f h3
            have fq : rk (W q) = 1 := by
              rcases hx.1 with h | h | h | h
              · exact absurd (Or.inr h) hz
              · exact h
              · exact absurd h hq2
              · exact absurd h a1
            have fj : rk (W j) = 1 := by
              rcases hy.1 with h | h | h | h
              · exact absurd h hj0
              · exact h
              · exact absurd (Or.inl h) hz
              · exact absurd h a2
            obtain ⟨x1, x2, x3⟩ := hx.2.1 fq
            obtain ⟨y1, y2, y3⟩ := hy.2.1 fj
            obtain ⟨-, hnb⟩ := dvX_nb x1 (uN_lt2 _) y1
            have hr := quo_rep x1 y1
            rw [hmb] at hr
            refine ⟨quX (W q) (W j), go5 (z80 (fun h => absurd h hz) (fun _ => ?_))⟩
            refine zR_n 1 rfl ?_
            refine zW_g hj rfl rfl rfl rfl rfl ?_
            refine zR_n 1 rfl ?_
            refine zR_if (fun _ => ?_) (fun h => absurd (Decidable.of_not_not h) hj0)
            refine zR_to 124 (st' := [.ref j, .ref q, .ref 14]) rfl ?_
            refine zR_v rfl rfl rfl rfl rfl ⟨rfl, Nat.le_of_ble_eq_true rfl, Nat.le_of_ble_eq_true rfl⟩ rfl (Nat.le_refl _) (c_Ex_becomeQuotient hq hj x1 y1) rfl rfl ?_
            refine zR_to 136 (st' := [.ref 10, .ref 14, .ref 12]) rfl ?_
            refine zR_v rfl rfl rfl rfl rfl ⟨rfl, Nat.le_of_ble_eq_true rfl, Nat.le_of_ble_eq_true rfl⟩ rfl (Nat.le_refl _) (c_round_rep ht hw hw4 hp hr (Nat.lt_of_lt_of_le (nb_lt _) (Nat.pow_le_pow_right (by decide) (by omega))) (by omega)) rfl rfl ?_
            exact zR_e rfl rfl rfl rfl rfl rfl
end DV
