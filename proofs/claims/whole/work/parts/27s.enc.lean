/-! encode of the class -/
theorem whN_0 (w : Nat) (mb : Bool) : whN w mb 0 0 = 0 := by
  unfold whN
  rw [if_neg (by decide)]
  have hc : whC 0 = 63 := rfl
  rw [hc, show gH 0 63 = false from rfl, show gB 0 63 = false from rfl, rUp_ff]
  rfl
/-- a zero or finite real's magnitude, made whole -/
theorem ww_N {w : Nat} {v : RV} (hv : vOk v) (hk : rk v = 0 ∨ rk v = 1) : wwN w v = whN w (rn v) (rs v) (zr v) ∧ (zr v < -1 → rs v ≠ 0) ∧ -17000 ≤ zr v ∧ (rk v = 0 → zr v = 0 ∧ rs v = 0) := by
  rcases hk with h | h
  · obtain ⟨e1, e2⟩ := hv.2.2.1 (by rw [h]; decide)
    have hz : zr v = 0 := by
      show (re v).toInt = 0
      rw [e1]
      rfl
    have hs : rs v = 0 := by
      show uN _ = 0
      rw [e2]
      rfl
    refine ⟨?_, fun h9 => by omega, by omega, fun _ => ⟨hz, hs⟩⟩
    unfold wwN
    rw [if_neg (by rw [h]; decide), hz, hs, whN_0]
  · obtain ⟨x1, x2, x3⟩ := hv.2.1 h
    exact ⟨if_pos h, fun _ => by omega, x2, fun h9 => by rw [h] at h9; exact absurd h9 (by decide)⟩
/-- whether it was whole -/
theorem ww_16 {v : RV} (hv : vOk v) (hk : rk v = 0 ∨ rk v = 1) (he : zr v ≤ 63) : (if rk v = 1 ∧ whI (rs v) (zr v) = true then (16 : Int32) else 0) = if iwB v then 0 else 16 := by
  rcases hk with h | h
  · obtain ⟨-, -, -, h0⟩ := ww_N (w := 0) hv (Or.inl h)
    obtain ⟨hz, hs⟩ := h0 h
    rw [if_neg (fun h9 => by rw [h] at h9; exact absurd h9.1 (by decide)), show iwB v = true from by unfold iwB; rw [hz, hs]; decide]
    rfl
  · obtain ⟨x1, x2, x3⟩ := hv.2.1 h
    by_cases h63 : zr v < 63
    · rw [iw_whI x1 h63 x2]
      cases iwB v with
      | true => rw [if_neg (fun h9 => by cases h9.2)]; rfl
      | false => rw [if_pos ⟨h, rfl⟩]; rfl
    · rw [if_neg (show ¬ (rk v = 1 ∧ whI (rs v) (zr v) = true) from fun h9 => by
        have h8 := h9.2
        unfold whI at h8
        rw [if_pos (by omega)] at h8
        cases h8), show iwB v = true from by unfold iwB; rw [decide_eq_true (show 63 ≤ zr v by omega)]; rfl]
      rfl
theorem ww_bigf {v : RV} (hk : rk v = 0 ∨ rk v = 1) (he : zr v ≤ 70) : wwBig v = false := by
  unfold wwBig
  rw [decide_eq_false (show ¬ 70 < zr v by omega)]
  rcases hk with h | h
  · rw [decide_eq_false (show ¬ rk v = 2 by rw [h]; decide), decide_eq_false (show ¬ rk v = 3 by rw [h]; decide)]
    simp
  · rw [decide_eq_false (show ¬ rk v = 2 by rw [h]; decide), decide_eq_false (show ¬ rk v = 3 by rw [h]; decide)]
    simp
/-- too large for a whole number -/
theorem ww_inv {w : Nat} {dec : Bool} {v : RV} (hv : vOk v) (h : (rk v ≠ 0 ∧ rk v ≠ 1) ∨ (rk v = 1 ∧ (if dec then (49 : Int) else 63) < zr v)) : wwR w dec v = ((if dec then -1 else -9223372036854775808), 1) := by
  unfold wwR
  rw [if_pos]
  rcases h with ⟨h0, h1⟩ | ⟨h1, he⟩
  · unfold wwBig
    rcases hv.1 with h | h | h | h
    · exact absurd h h0
    · exact absurd h h1
    · rw [decide_eq_true h]; rfl
    · rw [decide_eq_true h]; simp
  · obtain ⟨x1, x2, x3⟩ := hv.2.1 h1
    have xl : rs v < 2 ^ 64 := uN_lt2 _
    by_cases h70 : 70 < zr v
    · unfold wwBig
      rw [decide_eq_true h1, decide_eq_true h70]
      simp
    · rw [decide_eq_true (show wwL dec (rn v) < wwN w v from ?_), Bool.or_true]
      unfold wwN
      rw [if_pos h1]
      by_cases h63 : 63 < zr v
      · have hL : wwL dec (rn v) ≤ 2 ^ 63 := by
          unfold wwL
          split
          · decide
          · split <;> decide
        unfold whN
        rw [if_pos (by omega)]
        obtain ⟨k, hk⟩ : ∃ k : Nat, zr v - 63 = ((k + 1 : Nat) : Int) := ⟨(zr v - 64).toNat, by omega⟩
        rw [hk, shZ_pos]
        have h9 : (2 : Nat) ^ 1 ≤ 2 ^ (k + 1) := Nat.pow_le_pow_right (by decide) (by omega)
        have h8 := Nat.mul_le_mul_left (rs v) h9
        omega
      · cases dec with
        | false => exact absurd (show (63 : Int) < zr v from he) h63
        | true =>
          have he' : 49 < zr v := he
          show 999999999999999 < _
          unfold whN
          split
          · rename_i h6
            rw [show zr v - 63 = ((0 : Nat) : Int) by omega, shZ_pos, Nat.pow_zero, Nat.mul_one]
            omega
          · have hc : whC (zr v) ≤ 13 := by
              unfold whC
              split <;> omega
            have h9 : (2 : Nat) ^ whC (zr v) ≤ 2 ^ 13 := Nat.pow_le_pow_right (by decide) hc
            have h8 : rs v / 2 ^ 13 ≤ rs v / 2 ^ whC (zr v) := Nat.div_le_div_left h9 (pow_pos2 _)
            omega
theorem rv_one {v : RV} {p w : Nat} {mb : Bool} {G : Int} (h : 2 ^ 63 ≤ rs v) (hp : 1 ≤ p) (hp2 : p ≤ 64) : rVal w mb (rs v * 2 ^ 64 + 0) p G (zr v - 127) = rVal w mb (rs v) p G (zr v - 63) ∧ rNt w mb (rs v * 2 ^ 64 + 0) p G (zr v - 127) = rNt w mb (rs v) p G (zr v - 63) := by
  have h9 := can_scale (can_hl (zr v) h (uN_lt2 _) (show 0 < 2 ^ 64 by decide)) (N := rs v) (m := 64) (by rw [Nat.add_zero]) (by decide)
  rw [show zr v - 127 + ((64 : Nat) : Int) = zr v - 63 by omega] at h9
  exact rv_hl h (uN_lt2 _) (by decide) hp hp2 h9
section EN
variable {L : Nat} {xs : Nat → Int32} {d : Nat} {f : Nat → Int32} {g : Nat → Int64} {sg : Bool} {A : Nat → Option Nat} {W : Nat → RV} {x y v : XV} {Mc : Nat → Int64} {T : List zC}
theorem k01 {v : RV} (hv : vOk v) : (¬ (1 : Int32) < rk v) ↔ (rk v = 0 ∨ rk v = 1) := by
  rcases hv.1 with h | h | h | h <;> rw [h] <;> decide
set_option maxRecDepth 10000 in
theorem c_Fo_encodeWhole {q w : Nat} (hq : RP q) (hw : f 5 = nI w) (hw4 : w < 4) (hx : vOk (W q)) : zE L xs (d + 2) m_Fo_encodeWhole [.ref 15, .ref q] (sH f g sg A W x y Mc T) (.inl (some (.int (wwR w false (W q)).2))) (sH f (fu g 0 (wwR w false (W q)).1) sg A W x y Mc T) := by
  have hzr : -2147483648 ≤ zr (W q) ∧ zr (W q) < 2147483648 := iZ_rng (re (W q))
  have xl : rs (W q) < 2 ^ 64 := uN_lt2 _
  have hTP : (-9223372036854775808 : Int64) = lN (2 ^ 63) := by decide +kernel
  have bad : wwR w false (W q) = (-9223372036854775808, 1) → zR L xs (d + 2) m_Fo_encodeWhole 24 [(0, .ref 15), (1, .ref q)] [] (sH f (fu g 0 (-9223372036854775808)) sg A W x y Mc T) 0 (.inl (some (.int (wwR w false (W q)).2))) (sH f (fu g 0 (wwR w false (W q)).1) sg A W x y Mc T) 0 := fun h => by
    rw [h]
    exact zR_to 25 rfl (zR_e rfl rfl rfl rfl rfl rfl)
  refine ⟨0, Nat.zero_le _, ?_⟩
  refine zR_to 8 (st' := [.ref q]) (h1 := sH f (fu g 0 (-9223372036854775808)) sg A W x y Mc T) rfl ?_
  refine zW_g hq rfl rfl rfl rfl rfl ?_
  refine zR_n 2 rfl ?_
  refine zR_if (fun h => bad (ww_inv hx (Or.inl ?_))) (fun h => ?_)
  · rcases Decidable.em (rk (W q) = 0 ∨ rk (W q) = 1) with h9 | h9
    · exact absurd h ((k01 hx).mpr h9)
    · exact ⟨fun h8 => h9 (Or.inl h8), fun h8 => h9 (Or.inr h8)⟩
  have hk := (k01 hx).mp h
  obtain ⟨n1, n2, n3, n4⟩ := ww_N (w := w) hx hk
  refine zR_n 1 rfl ?_
  refine zW_g hq rfl rfl rfl (fR_e _) rfl ?_
  refine zR_to 21 (st' := [.int (iZ 63), .int (iZ (zr (W q)))]) rfl ?_
  refine zR_m 1 rfl ?_
  refine zR_if (fun h2 => ?_) (fun h2 => bad (ww_inv hx (Or.inr ?_)))
  · have h63 := (iZ_le (by omega) (by omega)).mp h2
    have h16 := ww_16 hx hk h63
    have hbig := ww_bigf hk (show zr (W q) ≤ 70 by omega)
    have hNl : whN w (rn (W q)) (rs (W q)) (zr (W q)) < 2 ^ 64 := by
      rcases Int.lt_or_le (zr (W q)) 63 with h9 | h9
      · have := whN_lt (w := w) (mb := rn (W q)) xl h9
        omega
      · unfold whN
        rw [if_pos h9, show zr (W q) - 63 = ((0 : Nat) : Int) by omega, shZ_pos, Nat.pow_zero, Nat.mul_one]
        exact xl
    have er : wwR w false (W q) = if wwL false (rn (W q)) < whN w (rn (W q)) (rs (W q)) (zr (W q)) then (-9223372036854775808, 1) else (wwB false (rn (W q)) (whN w (rn (W q)) (rs (W q)) (zr (W q))), if iwB (W q) then 0 else 16) := by
      unfold wwR
      rw [hbig, n1, h16, Bool.false_or]
      by_cases hc : wwL false (rn (W q)) < whN w (rn (W q)) (rs (W q)) (zr (W q))
      · rw [decide_eq_true hc, if_pos rfl, if_pos hc]
        rfl
      · rw [decide_eq_false hc, if_neg (show ¬ (false = true) by decide), if_neg hc]
    refine zR_to 31 (st' := [.ref q, .ref 12]) rfl ?_
    refine zR_v rfl rfl rfl rfl rfl ⟨rfl, Nat.le_of_ble_eq_true rfl, Nat.le_of_ble_eq_true rfl⟩ rfl (Nat.le_refl _) (c_Ro_wholeMagnitude hq hw hw4 ⟨n3, h63⟩ n2) rfl rfl ?_
    generalize whN w (rn (W q)) (rs (W q)) (zr (W q)) = N at *
    -- the end: the image and the answer
    have fin : ¬ wwL false (rn (W q)) < N → ∀ z : Int32, zR L xs (d + 2) m_Fo_encodeWhole 70 [(4, .int z), (2, .long (lN N)), (0, .ref 15), (1, .ref q)] [] (sH f (fu g 0 (-9223372036854775808)) sg A W x y Mc T) 0 (.inl (some (.int (wwR w false (W q)).2))) (sH f (fu g 0 (wwR w false (W q)).1) sg A W x y Mc T) 0 := by
      intro hn z
      rw [er, if_neg hn]
      have tl : ∀ v9 : Int64, v9 = wwB false (rn (W q)) N → zR L xs (d + 2) m_Fo_encodeWhole 84 [(4, .int z), (2, .long (lN N)), (0, .ref 15), (1, .ref q)] [.long v9, .ref 15] (sH f (fu g 0 (-9223372036854775808)) sg A W x y Mc T) 0 (.inl (some (.int (if iwB (W q) then 0 else 16)))) (sH f (fu g 0 (wwB false (rn (W q)) N)) sg A W x y Mc T) 0 := by
        intro v9 hv9
        rw [← hv9, ← fu_fu (f := g) (k := 0) (x := -9223372036854775808) (y := v9)]
        generalize fu g 0 (-9223372036854775808) = g1
        refine zR_to 88 (st' := [.ref q]) (h1 := sH f (fu g1 0 v9) sg A W x y Mc T) rfl ?_
        refine zR_v rfl rfl rfl rfl (sR_get hq) ⟨rfl, Nat.le_of_ble_eq_true rfl, Nat.le_of_ble_eq_true rfl⟩ rfl (Nat.le_refl _) (c_Re_isWhole hq) rfl rfl ?_
        cases iwB (W q) with
        | true => exact zR_to 100 rfl (zR_e rfl rfl rfl rfl rfl rfl)
        | false => exact zR_to 100 rfl (zR_e rfl rfl rfl rfl rfl rfl)
      refine zR_n 2 rfl ?_
      refine zW_g hq rfl rfl rfl rfl rfl ?_
      show zR _ _ _ _ _ _ [Value.int (bI (rn (W q))), Value.ref 15] _ _ _ _ _
      cases hn9 : rn (W q) with
      | true =>
        rw [hn9] at tl
        exact zR_to 84 rfl (tl _ rfl)
      | false =>
        rw [hn9] at tl
        exact zR_to 84 rfl (tl _ rfl)
    have bad2 : wwL false (rn (W q)) < N → ∀ z : Int32, zR L xs (d + 2) m_Fo_encodeWhole 68 [(4, .int z), (2, .long (lN N)), (0, .ref 15), (1, .ref q)] [] (sH f (fu g 0 (-9223372036854775808)) sg A W x y Mc T) 0 (.inl (some (.int (wwR w false (W q)).2))) (sH f (fu g 0 (wwR w false (W q)).1) sg A W x y Mc T) 0 := by
      intro hn z
      rw [er, if_pos hn]
      exact zR_to 69 rfl (zR_e rfl rfl rfl rfl rfl rfl)
    -- whether it is the lowest
    have m57 : ∀ b : Bool, (rn (W q) = true ∧ N = 2 ^ 63 ↔ b = true) → zR L xs (d + 2) m_Fo_encodeWhole 57 [(4, .int (bI b)), (2, .long (lN N)), (0, .ref 15), (1, .ref q)] [] (sH f (fu g 0 (-9223372036854775808)) sg A W x y Mc T) 0 (.inl (some (.int (wwR w false (W q)).2))) (sH f (fu g 0 (wwR w false (W q)).1) sg A W x y Mc T) 0 := by
      intro b hb
      refine zR_to 60 (st' := [.int (lg_cmp (lN N) 0)]) rfl ?_
      refine zR_m 1 rfl ?_
      refine zR_if (fun h8 => fin ?_ _) (fun h8 => ?_)
      · have := (lN_neg hNl).mp ((lg_cmp_ge _ _).mp h8)
        unfold wwL
        split
        · contradiction
        · split <;> omega
      · have h7 : 2 ^ 63 ≤ N := by
          rcases Nat.lt_or_ge N (2 ^ 63) with h6 | h6
          · exact absurd ((lg_cmp_ge _ _).mpr ((lN_neg hNl).mpr h6)) h8
          · exact h6
        cases b with
        | true =>
          obtain ⟨e1, e2⟩ := hb.mpr rfl
          refine zR_n 2 rfl ?_
          refine fin ?_ _
          rw [e1, e2]
          show ¬ 2 ^ 63 < 2 ^ 63
          omega
        | false =>
          refine zR_n 2 rfl ?_
          refine bad2 ?_ _
          unfold wwL
          rw [if_neg (by decide)]
          cases hn : rn (W q) with
          | true =>
            rw [if_pos rfl]
            rcases Nat.lt_or_ge (2 ^ 63) N with h6 | h6
            · exact h6
            · have := hb.mp ⟨hn, by omega⟩
              cases this
          | false =>
            rw [if_neg (by decide)]
            omega
    refine zR_n 2 rfl ?_
    refine zW_g hq rfl rfl rfl rfl rfl ?_
    show zR _ _ _ _ _ _ [Value.int (bI (rn (W q)))] _ _ _ _ _
    cases hn : rn (W q) with
    | true =>
      rw [hn] at m57
      refine zR_to 46 (st' := [.long (-9223372036854775808), .long (lN N)]) rfl ?_
      rw [hTP] at m57 ⊢
      refine zR_to 47 (st' := [.int (lg_cmp (lN N) (lN (2 ^ 63)))]) rfl ?_
      refine zR_m 1 rfl ?_
      refine zR_if (fun h8 => ?_) (fun h8 => ?_)
      · refine zR_to 57 rfl ?_
        exact m57 false ⟨fun h7 => absurd ((lg_cmp_eq _ _).mpr (by rw [h7.2])) h8, fun h7 => by cases h7⟩
      · have h7 := (lN_eq64 hNl (by decide)).mp ((lg_cmp_eq _ _).mp (Decidable.of_not_not h8))
        refine zR_to 57 rfl ?_
        exact m57 true ⟨fun _ => rfl, fun _ => ⟨rfl, h7⟩⟩
    | false =>
      rw [hn] at m57
      refine zR_to 57 rfl ?_
      exact m57 false ⟨fun h7 => absurd h7.1 (by decide), fun h7 => by cases h7⟩
  · rcases hk with h9 | h9
    · have := (n4 h9).1
      exact absurd ((iZ_le (by omega) (by omega)).mpr (show zr (W q) ≤ 63 by omega)) h2
    · refine ⟨h9, ?_⟩
      show (63 : Int) < zr (W q)
      rcases Int.lt_or_le 63 (zr (W q)) with h8 | h8
      · exact h8
      · exact absurd ((iZ_le (by omega) (by omega)).mpr h8) h2
end EN
