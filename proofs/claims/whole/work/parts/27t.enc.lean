section EN
variable {L : Nat} {xs : Nat → Int32} {d : Nat} {f : Nat → Int32} {g : Nat → Int64} {sg : Bool} {A : Nat → Option Nat} {W : Nat → RV} {x y v : XV} {Mc : Nat → Int64} {T : List zC}
set_option maxRecDepth 10000 in
theorem l_Fo_encodeDecimal {N s q : Nat} {o : zO} {h9 : zH} (hN : N < 2 ^ 63) (hs : s < 2)
    (hr : ∀ z1 z2 : Value, zR L xs (d + 2) m_Fo_encodeDecimal 98 [(4, .long (lN (s * 2 ^ 60 + eD N 15))), (0, .ref 15), (1, .ref q)] [] (sH f g sg A W x y Mc T) 0 o h9 0) :
    ∀ (c t : Nat), c + t = 15 → zR L xs (d + 2) m_Fo_encodeDecimal 64 [(6, .int (nI t)), (4, .long (lN (s * 2 ^ 60 + eD N t))), (2, .long (lN (N / 10 ^ t))), (0, .ref 15), (1, .ref q)] [] (sH f g sg A W x y Mc T) 0 o h9 0 := by
  intro c
  induction c with
  | zero =>
    intro t ht
    obtain rfl : t = 15 := by omega
    refine zR_to 98 rfl ?_
    exact zR_w (hr (.int 0) (.int 0)) rfl rfl ⟨rfl, rfl, rfl, trivial⟩
  | succ c ih =>
    intro t ht
    have hd : N / 10 ^ t < 2 ^ 63 := Nat.lt_of_le_of_lt (Nat.div_le_self _ _) hN
    refine zR_to 68 (st' := [.int (nI 15), .int (nI t)]) rfl ?_
    refine zR_m 1 rfl ?_
    refine zR_if (fun h => absurd h (nI_ge (a := t) (b := 15) (by omega) (by decide))) (fun _ => ?_)
    refine zR_to 78 (st' := [.long (lN (N / 10 ^ t) - lN (N / 10 ^ t) / lN 10 * lN 10), .long (lN (s * 2 ^ 60 + eD N t))]) rfl ?_
    rw [pk_lRem hd (by decide) (by decide)]
    refine zR_to 82 (st' := [.int ((4 : Int32) * nI t), .long (lN (N / 10 ^ t % 10)), .long (lN (s * 2 ^ 60 + eD N t))]) rfl ?_
    rw [show (4 : Int32) * nI t = nI (4 * t) from by rw [show (4 : Int32) = nI 4 from rfl, pk_mul]]
    refine zR_to 83 (st' := [.long (lN (N / 10 ^ t % 10) <<< ((nI (4 * t)).toInt64 &&& 63)), .long (lN (s * 2 ^ 60 + eD N t))]) rfl ?_
    rw [wb_shl _ (show 4 * t < 64 by omega)]
    refine zR_to 84 (st' := [.long (lN (s * 2 ^ 60 + eD N t) ||| lN (N / 10 ^ t % 10 * 2 ^ (4 * t)))]) rfl ?_
    rw [eD_or hs (by omega)]
    refine zR_to 91 (st' := [.long (lN (N / 10 ^ t) / lN 10)]) rfl ?_
    rw [pk_lDiv hd (by decide) (by decide), Nat.div_div_eq_div_mul, ← Nat.pow_succ]
    refine zR_to 64 rfl ?_
    refine zR_w (ih (t + 1) (by omega)) rfl rfl ⟨?_, rfl, rfl, rfl, rfl, trivial⟩
    rw [← nI_1]
    rfl
set_option maxRecDepth 10000 in
theorem t_Fo_encodeDecimal {q : Nat} {v9 : Int64} (hq : RP q) : zR L xs (d + 2) m_Fo_encodeDecimal 98 [(4, .long v9), (0, .ref 15), (1, .ref q)] [] (sH f g sg A W x y Mc T) 0 (.inl (some (.int (if iwB (W q) then 0 else 16)))) (sH f (fu g 0 v9) sg A W x y Mc T) 0 := by
  refine zR_to 105 (st' := [.ref q]) (h1 := sH f (fu g 0 v9) sg A W x y Mc T) rfl ?_
  refine zR_v rfl rfl rfl rfl (sR_get hq) ⟨rfl, Nat.le_of_ble_eq_true rfl, Nat.le_of_ble_eq_true rfl⟩ rfl (Nat.le_refl _) (c_Re_isWhole hq) rfl rfl ?_
  cases iwB (W q) with
  | true => exact zR_to 117 rfl (zR_e rfl rfl rfl rfl rfl rfl)
  | false => exact zR_to 117 rfl (zR_e rfl rfl rfl rfl rfl rfl)
set_option maxRecDepth 10000 in
theorem c_Fo_encodeDecimal {q w : Nat} (hq : RP q) (hw : f 5 = nI w) (hw4 : w < 4) (hx : vOk (W q)) : zE L xs (d + 2) m_Fo_encodeDecimal [.ref 15, .ref q] (sH f g sg A W x y Mc T) (.inl (some (.int (wwR w true (W q)).2))) (sH f (fu g 0 (wwR w true (W q)).1) sg A W x y Mc T) := by
  have hzr : -2147483648 ≤ zr (W q) ∧ zr (W q) < 2147483648 := iZ_rng (re (W q))
  have xl : rs (W q) < 2 ^ 64 := uN_lt2 _
  have bad : wwR w true (W q) = (-1, 1) → zR L xs (d + 2) m_Fo_encodeDecimal 24 [(0, .ref 15), (1, .ref q)] [] (sH f (fu g 0 (-1)) sg A W x y Mc T) 0 (.inl (some (.int (wwR w true (W q)).2))) (sH f (fu g 0 (wwR w true (W q)).1) sg A W x y Mc T) 0 := fun h => by
    rw [h]
    exact zR_to 25 rfl (zR_e rfl rfl rfl rfl rfl rfl)
  refine ⟨0, Nat.zero_le _, ?_⟩
  refine zR_to 8 (st' := [.ref q]) (h1 := sH f (fu g 0 (-1)) sg A W x y Mc T) rfl ?_
  refine zW_g hq rfl rfl rfl rfl rfl ?_
  refine zR_n 2 rfl ?_
  refine zR_if (fun h => bad (ww_inv hx (Or.inl ?_))) (fun h => ?_)
  · rcases Decidable.em (rk (W q) = 0 ∨ rk (W q) = 1) with h9 | h9
    · exact absurd h ((k01 hx).mpr h9)
    · exact ⟨fun h8 => h9 (Or.inl h8), fun h8 => h9 (Or.inr h8)⟩
  have hk := (k01 hx).mp h
  obtain ⟨n1, n2, n3, n4⟩ := ww_N (w := w) hx hk
  refine zR_n 1 rfl ?_
  refine zW_g hq rfl rfl rfl (fR_e _) rfl ?_
  refine zR_to 21 (st' := [.int (iZ 49), .int (iZ (zr (W q)))]) rfl ?_
  refine zR_m 1 rfl ?_
  refine zR_if (fun h2 => ?_) (fun h2 => bad (ww_inv hx (Or.inr ?_)))
  · have h49 := (iZ_le (by omega) (by omega)).mp h2
    have h16 := ww_16 hx hk (show zr (W q) ≤ 63 by omega)
    have hbig := ww_bigf hk (show zr (W q) ≤ 70 by omega)
    have hNl : whN w (rn (W q)) (rs (W q)) (zr (W q)) < 2 ^ 63 := by
      have hc : 14 ≤ whC (zr (W q)) := by
        unfold whC
        split <;> omega
      unfold whN
      rw [if_neg (by omega)]
      have h1 : (2 : Nat) ^ 14 ≤ 2 ^ whC (zr (W q)) := Nat.pow_le_pow_right (by decide) hc
      have h2 : rs (W q) / 2 ^ whC (zr (W q)) ≤ rs (W q) / 2 ^ 14 := Nat.div_le_div_left h1 (by decide)
      split <;> omega
    have er : wwR w true (W q) = if 999999999999999 < whN w (rn (W q)) (rs (W q)) (zr (W q)) then (-1, 1) else (wwB true (rn (W q)) (whN w (rn (W q)) (rs (W q)) (zr (W q))), if iwB (W q) then 0 else 16) := by
      unfold wwR
      rw [hbig, n1, h16, Bool.false_or, show wwL true (rn (W q)) = 999999999999999 from rfl]
      by_cases hc : 999999999999999 < whN w (rn (W q)) (rs (W q)) (zr (W q))
      · rw [decide_eq_true hc, if_pos rfl, if_pos hc]
        rfl
      · rw [decide_eq_false hc, if_neg (show ¬ (false = true) by decide), if_neg hc]
    refine zR_to 31 (st' := [.ref q, .ref 12]) rfl ?_
    refine zR_v rfl rfl rfl rfl rfl ⟨rfl, Nat.le_of_ble_eq_true rfl, Nat.le_of_ble_eq_true rfl⟩ rfl (Nat.le_refl _) (c_Ro_wholeMagnitude hq hw hw4 ⟨n3, by omega⟩ n2) rfl rfl ?_
    generalize whN w (rn (W q)) (rs (W q)) (zr (W q)) = N at *
    refine zR_to 39 (st' := [.long 999999999999999, .long (lN N)]) rfl ?_
    rw [show (999999999999999 : Int64) = lN 999999999999999 from by decide +kernel]
    generalize hgc : lN 999999999999999 = gc
    refine zR_to 40 (st' := [.int (lg_cmp (lN N) gc)]) rfl ?_
    rw [← hgc]
    refine zR_m 1 rfl ?_
    refine zR_if (fun h8 => ?_) (fun h8 => ?_)
    · have hle := (pk_lLE hNl (show 999999999999999 < 2 ^ 63 by decide)).mp ((lg_cmp_le _ _).mp h8)
      rw [er, if_neg (show ¬ 999999999999999 < N by omega)]
      have tl : ∀ s : Nat, s < 2 → (if rn (W q) then 1 else 0) = s → zR L xs (d + 2) m_Fo_encodeDecimal 59 [(2, .long (lN N)), (0, .ref 15), (1, .ref q)] [.long (lN (s * 2 ^ 60))] (sH f (fu g 0 (-1)) sg A W x y Mc T) 0 (.inl (some (.int (if iwB (W q) then 0 else 16)))) (sH f (fu g 0 (wwB true (rn (W q)) N)) sg A W x y Mc T) 0 := by
        intro s hs hse
        have hv9 : wwB true (rn (W q)) N = lN (s * 2 ^ 60 + eD N 15) := by
          unfold wwB
          rw [if_pos rfl, hse]
        rw [hv9, ← fu_fu (f := g) (k := 0) (x := -1) (y := lN (s * 2 ^ 60 + eD N 15))]
        generalize fu g 0 (-1) = g1
        have h7 := l_Fo_encodeDecimal (L := L) (xs := xs) (d := d) (f := f) (g := g1) (sg := sg) (A := A) (W := W) (x := x) (y := y) (Mc := Mc) (T := T) (N := N) (s := s) (q := q) (o := .inl (some (.int (if iwB (W q) then 0 else 16)))) (h9 := sH f (fu g1 0 (lN (s * 2 ^ 60 + eD N 15))) sg A W x y Mc T) hNl hs (fun _ _ => by
          exact t_Fo_encodeDecimal hq) 15 0 rfl
        rw [Nat.pow_zero, Nat.div_one, show eD N 0 = 0 from rfl, show s * 2 ^ 60 + 0 = s * 2 ^ 60 from Nat.add_zero _] at h7
        refine zR_to 64 rfl ?_
        exact zR_w h7 rfl rfl ⟨rfl, rfl, rfl, rfl, rfl, trivial⟩
      refine zR_n 1 rfl ?_
      refine zW_g hq rfl rfl rfl rfl rfl ?_
      show zR _ _ _ _ _ _ [Value.int (bI (rn (W q)))] _ _ _ _ _
      cases hn9 : rn (W q) with
      | true =>
        rw [hn9] at tl
        refine zR_to 59 (st' := [.long 1152921504606846976]) rfl ?_
        rw [show (1152921504606846976 : Int64) = lN (1 * 2 ^ 60) from by decide +kernel]
        exact zR_w (tl 1 (by decide) rfl) rfl rfl ⟨rfl, rfl, rfl, trivial⟩
      | false =>
        rw [hn9] at tl
        have h7 := tl 0 (by decide) rfl
        rw [Nat.zero_mul] at h7
        refine zR_to 59 rfl ?_
        exact zR_w h7 rfl rfl ⟨rfl, rfl, rfl, trivial⟩
    · rw [er, if_pos (show 999999999999999 < N by
        rcases Nat.lt_or_ge 999999999999999 N with h7 | h7
        · exact h7
        · exact absurd ((lg_cmp_le _ _).mpr ((pk_lLE hNl (by decide)).mpr h7)) h8)]
      exact zR_to 44 rfl (zR_e rfl rfl rfl rfl rfl rfl)
  · rcases hk with h9 | h9
    · have := (n4 h9).1
      exact absurd ((iZ_le (by omega) (by omega)).mpr (show zr (W q) ≤ 49 by omega)) h2
    · refine ⟨h9, ?_⟩
      show (49 : Int) < zr (W q)
      rcases Int.lt_or_le 49 (zr (W q)) with h8 | h8
      · exact h8
      · exact absurd ((iZ_le (by omega) (by omega)).mpr h8) h2
theorem bF_eq {fr X : Nat} (hX : X < 2 ^ 64) (hfr : fr ≤ 52) (h1 : 1 ≤ fr) : X * 2 % 2 ^ 64 / 2 ^ (64 - fr) = X / 2 ^ (63 - fr) % 2 ^ fr := by
  have e1 : X * 2 % 2 ^ 64 = X % 2 ^ 63 * 2 := by omega
  have e2 : (2 : Nat) ^ (64 - fr) = 2 ^ (63 - fr) * 2 := by rw [← Nat.pow_succ]; congr 1; omega
  have e3 : (2 : Nat) ^ 63 = 2 ^ (63 - fr) * 2 ^ fr := by rw [← Nat.pow_add]; congr 1; omega
  rw [e1, e2, Nat.mul_div_mul_right _ _ (by decide), e3, Nat.mod_mul_right_div_self]
set_option maxRecDepth 10000 in
set_option maxHeartbeats 4000000 in
theorem c_Fo_binaryImage {fd fr : Nat} (hf : fOk fd fr) (hk : rk (W 17) = 3 ∨ bOk fd (W 17)) : zE L xs d m_Fo_binaryImage [.ref 17, .int (nI fd), .int (nI fr)] (sH f g sg A W x y Mc T) (.inl (some (.long (if rk (W 17) = 3 then lN (2 ^ (fd + fr) - 1) else bnI fd fr (W 17))))) (sH f g sg A W x y Mc T) := by
  have h17 : RP 17 := Or.inr rfl
  obtain ⟨h1, h2, h3, h4⟩ := fOk_half hf
  have hfd : fd ≤ 11 ∧ fr ≤ 52 ∧ fd + fr < 64 ∧ 1 ≤ fr := by rcases hf with ⟨rfl, rfl⟩ | ⟨rfl, rfl⟩ <;> decide
  -- from the kind on
  have kd : ∀ s : Nat, bnS (W 17) = s → s < 2 → zR L xs d m_Fo_binaryImage 27 [(7, .long (lN (2 ^ fd - 1))), (5, .long (lN (s * 2 ^ (fd + fr)))), (3, .long (lN (2 ^ (fd + fr)))), (0, .ref 17), (1, .int (nI fd)), (2, .int (nI fr))] [] (sH f g sg A W x y Mc T) 0 (.inl (some (.long (if rk (W 17) = 3 then lN (2 ^ (fd + fr) - 1) else bnI fd fr (W 17))))) (sH f g sg A W x y Mc T) 0 := by
    intro s hs hs2
    refine zR_n 1 rfl ?_
    refine zW_g h17 rfl rfl rfl rfl rfl ?_
    show zR _ _ _ _ _ _ [Value.int (rk (W 17))] _ _ _ _ _
    by_cases h3k : rk (W 17) = 3
    · rw [if_pos h3k, h3k]
      refine zR_to 106 (st' := [.long (lN (2 ^ (fd + fr)) - lN 1)]) rfl ?_
      rw [lN_sub (by have := Nat.pow_pos (n := fd + fr) (show 0 < 2 by decide); omega)]
      exact zR_e rfl rfl rfl rfl rfl rfl
    · rw [if_neg h3k]
      have hb : bOk fd (W 17) := by
        rcases hk with h | h
        · exact absurd h h3k
        · exact h
      obtain ⟨hE, hF⟩ := bn_lt hf hb
      unfold bnI
      rw [hs]
      rcases hb with h0 | h0 | ⟨h0, e1, e2⟩
      · rw [h0]
        have hEv : bnE fd (W 17) = 0 := if_pos h0
        have hFv : bnF fr (W 17) = 0 := if_neg (by rw [h0]; decide)
        rw [hEv, hFv, show (s * 2 ^ fd + 0) * 2 ^ fr + 0 = s * 2 ^ (fd + fr) from by rw [Nat.add_zero, Nat.add_zero, Nat.mul_assoc, ← Nat.pow_add]]
        exact zR_to 58 rfl (zR_e rfl rfl rfl rfl rfl rfl)
      · rw [h0]
        have hEv : bnE fd (W 17) = 2 ^ fd - 1 := by
          unfold bnE
          rw [if_neg (by rw [h0]; decide), if_pos h0]
        have hFv : bnF fr (W 17) = 0 := if_neg (by rw [h0]; decide)
        rw [hEv, hFv, show (s * 2 ^ fd + (2 ^ fd - 1)) * 2 ^ fr + 0 = (s * 2 ^ fd + (2 ^ fd - 1)) * 2 ^ fr from Nat.add_zero _]
        rw [hEv] at hE
        refine zR_to 101 (st' := [.long (lN (2 ^ fd - 1) <<< ((nI fr).toInt64 &&& 63)), .long (lN (s * 2 ^ (fd + fr)))]) rfl ?_
        rw [wb_shl _ (show fr < 64 by omega)]
        refine zR_to 102 (st' := [.long (lN (s * 2 ^ (fd + fr)) ||| lN ((2 ^ fd - 1) * 2 ^ fr))]) rfl ?_
        have e5 : (2 ^ fd - 1) * 2 ^ fr < 2 ^ (fd + fr) := by
          rw [Nat.pow_add]
          exact Nat.mul_lt_mul_of_pos_right hE (Nat.pow_pos (by decide))
        have e6 : (2 : Nat) ^ (fd + fr) ≤ 2 ^ 63 := Nat.pow_le_pow_right (by decide) (by omega)
        have e7 : s * 2 ^ (fd + fr) ≤ 1 * 2 ^ (fd + fr) := Nat.mul_le_mul_right _ (by omega)
        rw [g_or (k := fd + fr) rfl e5 (by omega), show s * 2 ^ (fd + fr) + (2 ^ fd - 1) * 2 ^ fr = (s * 2 ^ fd + (2 ^ fd - 1)) * 2 ^ fr by rw [Nat.add_mul, Nat.pow_add, Nat.mul_assoc]]
        exact zR_e rfl rfl rfl rfl rfl rfl
      · rw [h0]
        have hEv : bnE fd (W 17) = (zr (W 17) + (2 ^ (fd - 1) - 1 : Nat)).toNat := by
          unfold bnE
          rw [if_neg (by rw [h0]; decide), if_neg (by rw [h0]; decide)]
        have hFv : bnF fr (W 17) = rs (W 17) / 2 ^ (63 - fr) % 2 ^ fr := if_pos h0
        rw [hEv] at hE
        rw [hFv] at hF
        rw [hEv, hFv]
        refine zR_n 2 rfl ?_
        refine zW_g h17 rfl rfl rfl (fR_e _) rfl ?_
        refine zR_to 68 (st' := [.long (lN (2 ^ fd - 1) >>> ((nI 1).toInt64 &&& 63)), .long (iZ (zr (W 17))).toInt64]) rfl ?_
        rw [show lN (2 ^ fd - 1) >>> ((nI 1).toInt64 &&& 63) = lN (2 ^ (fd - 1) - 1) from by
          rw [pf_shr (d := 1) (by decide +kernel) (by omega), Nat.pow_one, h1]]
        refine zR_to 69 (st' := [.long ((iZ (zr (W 17))).toInt64 + lN (2 ^ (fd - 1) - 1))]) rfl ?_
        rw [i2l_add (by omega) (by omega)]
        refine zR_n 2 rfl ?_
        refine zW_g h17 rfl rfl rfl (fR_s _) rfl ?_
        refine zR_to 77 (st' := [.long (lN (rs (W 17)) <<< ((nI 1).toInt64 &&& 63))]) rfl ?_
        rw [wb_shl _ (show 1 < 64 by decide), Nat.pow_one, wb_mod (rs (W 17) * 2)]
        refine zR_to 81 (st' := [.int (nI 64 - nI fr), .long (lN (rs (W 17) * 2 % 2 ^ 64))]) rfl ?_
        rw [pk_sub (show fr ≤ 64 by omega)]
        have hml : rs (W 17) * 2 % 2 ^ 64 < 2 ^ 64 := Nat.mod_lt _ (by decide)
        have hbf := bF_eq (X := rs (W 17)) (uN_lt2 _) hfd.2.1 hfd.2.2.2
        generalize rs (W 17) * 2 % 2 ^ 64 = m2 at *
        refine zR_to 82 (st' := [.long ((lN m2).toUInt64 >>> ((nI (64 - fr)).toInt64.toUInt64 &&& Int64.toUInt64 63)).toInt64]) rfl ?_
        rw [wb_shr hml (show 64 - fr < 64 by omega), hbf]
        generalize rs (W 17) / 2 ^ (63 - fr) % 2 ^ fr = F at *
        generalize (zr (W 17) + (2 ^ (fd - 1) - 1 : Nat)).toNat = E at *
        refine zR_to 90 (st' := [.long (lN E <<< ((nI fr).toInt64 &&& 63)), .long (lN (s * 2 ^ (fd + fr)))]) rfl ?_
        rw [wb_shl _ (show fr < 64 by omega)]
        refine zR_to 94 (st' := [.long (lN (s * 2 ^ (fd + fr)) ||| lN (E * 2 ^ fr) ||| lN F)]) rfl ?_
        rw [bn_or hs2 hE hF hfd.2.2.1]
        exact zR_e rfl rfl rfl rfl rfl rfl
  have full : ∀ s : Nat, bnS (W 17) = s → s < 2 → zR L xs d m_Fo_binaryImage 20 [(5, .long (lN (s * 2 ^ (fd + fr)))), (3, .long (lN (2 ^ (fd + fr)))), (0, .ref 17), (1, .int (nI fd)), (2, .int (nI fr))] [] (sH f g sg A W x y Mc T) 0 (.inl (some (.long (if rk (W 17) = 3 then lN (2 ^ (fd + fr) - 1) else bnI fd fr (W 17))))) (sH f g sg A W x y Mc T) 0 := by
    intro s hs hs2
    refine zR_to 23 (st' := [.long (lN 1 <<< ((nI fd).toInt64 &&& 63))]) rfl ?_
    rw [wb_shl 1 (show fd < 64 by omega)]
    refine zR_to 25 (st' := [.long (lN (1 * 2 ^ fd) - lN 1)]) rfl ?_
    rw [lN_sub (by omega), Nat.one_mul]
    refine zR_to 27 rfl ?_
    exact zR_w (kd s hs hs2) rfl rfl ⟨rfl, rfl, rfl, rfl, rfl, rfl, trivial⟩
  refine ⟨0, Nat.zero_le _, ?_⟩
  refine zR_to 4 (st' := [.int (nI fd + nI fr), .long (lN 1)]) rfl ?_
  rw [nI_add]
  refine zR_to 5 (st' := [.long (lN 1 <<< ((nI (fd + fr)).toInt64 &&& 63))]) rfl ?_
  rw [wb_shl 1 hfd.2.2.1, Nat.one_mul]
  refine zR_n 2 rfl ?_
  refine zW_g h17 rfl rfl rfl rfl rfl ?_
  show zR _ _ _ _ _ _ [Value.int (bI (rn (W 17)))] _ _ _ _ _
  cases hn : rn (W 17) with
  | true =>
    have h9 := full 1 (by unfold bnS; rw [hn]; rfl) (by decide)
    rw [Nat.one_mul] at h9
    refine zR_to 20 rfl ?_
    exact zR_w h9 rfl rfl ⟨rfl, rfl, rfl, rfl, rfl, trivial⟩
  | false =>
    have h9 := full 0 (by unfold bnS; rw [hn]; rfl) (by decide)
    rw [Nat.zero_mul] at h9
    refine zR_to 20 rfl ?_
    exact zR_w h9 rfl rfl ⟨rfl, rfl, rfl, rfl, rfl, trivial⟩
end EN
section EC
variable {L : Nat} {xs : Nat → Int32} {d : Nat} {f : Nat → Int32} {g : Nat → Int64} {sg : Bool} {A : Nat → Option Nat} {W : Nat → RV} {x y v : XV} {Mc : Nat → Int64} {T : List zC}
theorem fOk_hi {fd fr : Nat} (hf : fOk fd fr) : (1 : Int32) <<< ((nI fd - 1) &&& 31) - 1 = iZ (wrG fd) := by
  rcases hf with ⟨rfl, rfl⟩ | ⟨rfl, rfl⟩ <;> decide +kernel
set_option maxRecDepth 10000 in
theorem c_Fo_encodeBinary {q w fd fr : Nat} (hf : fOk fd fr) (hq : RP q) (hq17 : q ≠ 17) (hw : f 5 = nI w) (hw4 : w < 4) (hx : vOk (W q)) : ∃ u y', zE L xs (d + 2) m_Fo_encodeBinary [.ref 15, .ref q, .int (nI fd), .int (nI fr)] (sH f g sg A W x y Mc T) (.inl (some (.int (wrR w fd fr (W q)).2))) (sH f (fu g 0 (wrR w fd fr (W q)).1) sg A (fu W 17 u) x y' Mc T) := by
  have h17 : RP 17 := Or.inr rfl
  have hp : pOk (fr + 1) := by
    rcases hf with ⟨rfl, rfl⟩ | ⟨rfl, rfl⟩
    · exact Or.inr (Or.inl rfl)
    · exact Or.inl rfl
  have hg : 1 ≤ wrG fd ∧ wrG fd ≤ 20000 := by
    rcases hf with ⟨rfl, rfl⟩ | ⟨rfl, rfl⟩ <;> decide
  have hfr : fr + 1 ≤ 64 := by rcases hf with ⟨rfl, rfl⟩ | ⟨rfl, rfl⟩ <;> decide
  -- the head
  have go : ∀ {o : zO} {h9 : zH}, zR L xs (d + 2) m_Fo_encodeBinary 25 [(5, .int 0), (4, .int (iZ (wrG fd))), (0, .ref 15), (1, .ref q), (2, .int (nI fd)), (3, .int (nI fr))] [.int 1, .int (rk (W q))] (sH f g sg A (fu W 17 (W q)) x y Mc T) 0 o h9 0 → zE L xs (d + 2) m_Fo_encodeBinary [.ref 15, .ref q, .int (nI fd), .int (nI fr)] (sH f g sg A W x y Mc T) o h9 := fun {o h9} hr => by
    refine ⟨0, Nat.zero_le _, ?_⟩
    refine zR_to 7 (st' := [.int ((1 : Int32) <<< ((nI fd - 1) &&& 31) - 1)]) rfl ?_
    rw [fOk_hi hf]
    refine zR_to 17 (st' := [.ref q, .ref 17]) rfl ?_
    refine zR_v rfl rfl rfl rfl rfl ⟨rfl, Nat.le_of_ble_eq_true rfl, Nat.le_of_ble_eq_true rfl⟩ rfl (Nat.le_refl _) (c_Re_copy h17 hq hq17) rfl rfl ?_
    refine zR_n 1 rfl ?_
    refine zW_g hq rfl rfl (fu_n hq17) rfl rfl ?_
    exact zR_n 1 rfl hr
  -- the end
  have fin : ∀ (u : RV) (yy : XV) (r9 : Int32), (rk u = 3 ∨ bOk fd u) → zR L xs (d + 2) m_Fo_encodeBinary 62 [(5, .int r9), (0, .ref 15), (2, .int (nI fd)), (3, .int (nI fr))] [] (sH f g sg A (fu W 17 u) x yy Mc T) 0 (.inl (some (.int r9))) (sH f (fu g 0 (if rk u = 3 then lN (2 ^ (fd + fr) - 1) else bnI fd fr u)) sg A (fu W 17 u) x yy Mc T) 0 := by
    intro u yy r9 hu
    have hbi := c_Fo_binaryImage (L := L) (xs := xs) (d := d + 1) (f := f) (g := g) (sg := sg) (A := A) (W := fu W 17 u) (x := x) (y := yy) (Mc := Mc) (T := T) hf (by rw [fu_s]; exact hu)
    rw [fu_s] at hbi
    generalize (if rk u = 3 then lN (2 ^ (fd + fr) - 1) else bnI fd fr u) = bits at *
    refine zR_to 69 (st' := [.int (nI fr), .int (nI fd), .ref 17, .ref 15]) rfl ?_
    refine zR_i rfl rfl rfl rfl ⟨Nat.le_of_ble_eq_true rfl, Nat.le_of_ble_eq_true rfl, Nat.le_of_ble_eq_true rfl⟩ rfl (Nat.le_refl _) hbi rfl rfl ?_
    refine zR_to 77 (st' := [.int r9]) (h1 := sH f (fu g 0 bits) sg A (fu W 17 u) x yy Mc T) rfl ?_
    exact zR_e rfl rfl rfl rfl rfl rfl
  unfold wrR
  by_cases h3 : rk (W q) = 3
  · rw [if_pos h3]
    have h9 := fin (W q) y 0 (Or.inl h3)
    rw [if_pos h3] at h9
    refine ⟨W q, y, go ?_⟩
    rw [h3]
    refine zR_n 1 rfl ?_
    exact zR_w h9 rfl rfl ⟨rfl, rfl, rfl, rfl, trivial⟩
  · rw [if_neg h3]
    by_cases h1 : rk (W q) = 1
    · rw [if_pos h1]
      obtain ⟨x1, x2, x3⟩ := hx.2.1 h1
      have hX : rs (W q) ≠ 0 := by omega
      obtain ⟨v1, v2⟩ := rv_one (v := W q) (p := fr + 1) (w := w) (mb := rn (W q)) (G := wrG fd) x1 (by omega) hfr
      have hbk : rk (rVal w (rn (W q)) (rs (W q)) (fr + 1) (wrG fd) (zr (W q) - 63)) ≠ 3 ∧ bOk fd (rVal w (rn (W q)) (rs (W q)) (fr + 1) (wrG fd) (zr (W q) - 63)) := by
        rcases rVal_is (w := w) (mb := rn (W q)) (q := zr (W q) - 63) hX hp hg with h9 | h9 | h9
        · exact ⟨by rw [h9.1]; decide, Or.inl h9.1⟩
        · exact ⟨by rw [h9.1]; decide, Or.inr (Or.inl h9.1)⟩
        · exact ⟨by rw [h9.1]; decide, Or.inr (Or.inr ⟨h9.1, h9.2.2.1, h9.2.2.2⟩)⟩
      have hro := c_Ro_roundTo (L := L) (xs := xs) (d := d) (f := f) (g := g) (sg := sg) (A := A) (W := fu W 17 (W q)) (x := x) (y := (rn (W q), re (W q), (W q).2.2.2, 0)) (Mc := Mc) (T := T) (e := 16) (t := 17) (p := fr + 1) (w := w) (hi := rs (W q)) (lo := 0) (E := zr (W q)) (G := wrG fd) (mb := rn (W q)) (Or.inr ⟨rfl, by rw [← re_zr (W q), lN_uN]; rfl⟩) h17 hw hw4 hp hg (by omega) x1 (uN_lt2 _) (by decide)
      rw [v1, v2, fu_fu] at hro
      have h9 := fin (rVal w (rn (W q)) (rs (W q)) (fr + 1) (wrG fd) (zr (W q) - 63)) (rn (W q), re (W q), (W q).2.2.2, 0) (rNt w (rn (W q)) (rs (W q)) (fr + 1) (wrG fd) (zr (W q) - 63)) (Or.inr hbk.2)
      rw [if_neg hbk.1] at h9
      generalize rVal w (rn (W q)) (rs (W q)) (fr + 1) (wrG fd) (zr (W q) - 63) = rv at *
      generalize rNt w (rn (W q)) (rs (W q)) (fr + 1) (wrG fd) (zr (W q) - 63) = rn9 at *
      refine ⟨rv, (rn (W q), re (W q), (W q).2.2.2, 0), go ?_⟩
      rw [h1]
      have hcp := c_Ex_copy16 (L := L) (xs := xs) (d := d + 1) (f := f) (g := g) (sg := sg) (A := A) (W := fu W 17 (W q)) (x := x) (y := y) (Mc := Mc) (T := T) hq
      rw [fu_n hq17] at hcp
      refine zR_to 33 (st' := [.ref q, .ref 16]) rfl ?_
      refine zR_v rfl rfl rfl rfl rfl ⟨rfl, Nat.le_of_ble_eq_true rfl, Nat.le_of_ble_eq_true rfl⟩ rfl (Nat.le_refl _) hcp rfl rfl ?_
      refine zR_to 47 (st' := [.int (nI fr + 1), .ref 16, .ref 12]) rfl ?_
      rw [nI_1]
      refine zR_to 51 (st' := [.int (iZ 1 - iZ (wrG fd)), .int (nI (fr + 1)), .ref 16, .ref 12]) rfl ?_
      rw [iZ_sub]
      refine zR_to 57 (st' := [.ref 17, .int (iZ (wrG fd)), .int (iZ (1 - wrG fd)), .int (nI (fr + 1)), .ref 16, .ref 12]) rfl ?_
      refine zR_v rfl rfl rfl rfl rfl ⟨rfl, Nat.le_of_ble_eq_true rfl, Nat.le_of_ble_eq_true rfl⟩ rfl (Nat.le_refl _) hro rfl rfl ?_
      refine zR_to 62 rfl ?_
      exact zR_w h9 rfl rfl ⟨rfl, rfl, rfl, rfl, trivial⟩
    · rw [if_neg h1]
      have hbk : bOk fd (W q) := by
        rcases hx.1 with h9 | h9 | h9 | h9
        · exact Or.inl h9
        · exact absurd h9 h1
        · exact Or.inr (Or.inl h9)
        · exact absurd h9 h3
      have h9 := fin (W q) y 0 (Or.inr hbk)
      rw [if_neg h3] at h9
      refine ⟨W q, y, go ?_⟩
      refine zR_m 1 rfl ?_
      refine zR_if (fun _ => ?_) (fun h => absurd (Decidable.of_not_not h) h1)
      exact zR_w h9 rfl rfl ⟨rfl, rfl, rfl, rfl, trivial⟩
set_option maxRecDepth 10000 in
theorem c_Fo_encode {q w fm : Nat} (hfm : fm < 4) (hq : RP q) (hq17 : q ≠ 17) (hw : f 5 = nI w) (hw4 : w < 4) (hx : vOk (W q)) : ∃ u y', zE L xs (d + 3) m_Fo_encode [.ref 15, .ref q, .int (nI fm)] (sH f g sg A W x y Mc T) (.inl (some (.int (stR w fm (W q)).2))) (sH f (fu g 0 (stR w fm (W q)).1) sg A (fu W 17 u) x y' Mc T) := by
  obtain rfl | rfl | rfl | rfl : fm = 0 ∨ fm = 1 ∨ fm = 2 ∨ fm = 3 := by omega
  · rw [stR_0]
    have h9 := c_Fo_encodeWhole (L := L) (xs := xs) (d := d) (f := f) (g := g) (sg := sg) (A := A) (W := W) (x := x) (y := y) (Mc := Mc) (T := T) hq hw hw4 hx
    generalize wwR w false (W q) = r at *
    refine ⟨W 17, y, 0, Nat.zero_le _, ?_⟩
    rw [fu_self (f := W) rfl]
    refine zR_to 30 (st' := [.ref q, .ref 15]) rfl ?_
    refine zR_v rfl rfl rfl rfl rfl ⟨rfl, Nat.le_of_ble_eq_true rfl, Nat.le_of_ble_eq_true rfl⟩ rfl (Nat.le_refl _) h9 rfl rfl ?_
    exact zR_e rfl rfl rfl rfl rfl rfl
  · rw [stR_1]
    obtain ⟨u, y', h9⟩ := c_Fo_encodeBinary (L := L) (xs := xs) (d := d) (f := f) (g := g) (sg := sg) (A := A) (W := W) (x := x) (y := y) (Mc := Mc) (T := T) (fd := 11) (fr := 52) (Or.inl ⟨rfl, rfl⟩) hq hq17 hw hw4 hx
    generalize wrR w 11 52 (W q) = r at *
    refine ⟨u, y', 0, Nat.zero_le _, ?_⟩
    refine zR_to 40 (st' := [.int (nI 52), .int (nI 11), .ref q, .ref 15]) rfl ?_
    refine zR_v rfl rfl rfl rfl rfl ⟨rfl, Nat.le_of_ble_eq_true rfl, Nat.le_of_ble_eq_true rfl⟩ rfl (Nat.le_refl _) h9 rfl rfl ?_
    exact zR_e rfl rfl rfl rfl rfl rfl
  · rw [stR_2]
    obtain ⟨u, y', h9⟩ := c_Fo_encodeBinary (L := L) (xs := xs) (d := d) (f := f) (g := g) (sg := sg) (A := A) (W := W) (x := x) (y := y) (Mc := Mc) (T := T) (fd := 8) (fr := 23) (Or.inr ⟨rfl, rfl⟩) hq hq17 hw hw4 hx
    generalize wrR w 8 23 (W q) = r at *
    refine ⟨u, y', 0, Nat.zero_le _, ?_⟩
    refine zR_to 50 (st' := [.int (nI 23), .int (nI 8), .ref q, .ref 15]) rfl ?_
    refine zR_v rfl rfl rfl rfl rfl ⟨rfl, Nat.le_of_ble_eq_true rfl, Nat.le_of_ble_eq_true rfl⟩ rfl (Nat.le_refl _) h9 rfl rfl ?_
    exact zR_e rfl rfl rfl rfl rfl rfl
  · rw [stR_3]
    have h9 := c_Fo_encodeDecimal (L := L) (xs := xs) (d := d) (f := f) (g := g) (sg := sg) (A := A) (W := W) (x := x) (y := y) (Mc := Mc) (T := T) hq hw hw4 hx
    generalize wwR w true (W q) = r at *
    refine ⟨W 17, y, 0, Nat.zero_le _, ?_⟩
    rw [fu_self (f := W) rfl]
    refine zR_to 56 (st' := [.ref q, .ref 15]) rfl ?_
    refine zR_v rfl rfl rfl rfl rfl ⟨rfl, Nat.le_of_ble_eq_true rfl, Nat.le_of_ble_eq_true rfl⟩ rfl (Nat.le_refl _) h9 rfl rfl ?_
    exact zR_e rfl rfl rfl rfl rfl rfl
end EC
