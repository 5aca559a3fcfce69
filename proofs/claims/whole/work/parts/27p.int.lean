/-! makeWhole and scale of the class -/
theorem whN_lt {w X : Nat} {mb : Bool} {e : Int} (hX : X < 2 ^ 64) (he : e < 63) : whN w mb X e ≤ 2 ^ 63 := by
  unfold whN
  rw [if_neg (by omega)]
  have hc : 1 ≤ whC e := by
    unfold whC
    split <;> omega
  have h1 : (2 : Nat) ^ 1 ≤ 2 ^ whC e := Nat.pow_le_pow_right (by decide) hc
  have h2 : X / 2 ^ whC e ≤ X / 2 ^ 1 := Nat.div_le_div_left h1 (by decide)
  split <;> omega
theorem iw_whI {v : RV} (h1 : 2 ^ 63 ≤ rs v) (he : zr v < 63) (hl : -17000 ≤ zr v) : whI (rs v) (zr v) = !iwB v := by
  have xl : rs v < 2 ^ 64 := uN_lt2 _
  unfold whI iwB
  rw [if_neg (by omega), decide_eq_false (show ¬ 63 ≤ zr v by omega), Bool.false_or]
  by_cases h0 : 0 ≤ zr v
  · have hc : whC (zr v) = (63 - zr v).toNat := if_neg (by omega)
    obtain ⟨g1, g2⟩ := wh_f (X := rs v) (c := (63 - zr v).toNat) (t := (zr v + 1).toNat) xl (by omega) (by omega) (by omega)
    rw [hc, g1, g2, decide_eq_true h0, Bool.true_and]
    rw [show rs v * 2 ^ (zr v + 1).toNat * 2 % 2 ^ 64 = rs v * 2 ^ (zr v + 1).toNat % 2 ^ 64 * 2 % 2 ^ 64 from by rw [Nat.mod_mul_mod]]
    have hlt : rs v * 2 ^ (zr v + 1).toNat % 2 ^ 64 < 2 ^ 64 := Nat.mod_lt _ (by decide)
    generalize rs v * 2 ^ (zr v + 1).toNat % 2 ^ 64 = lost at *
    rw [← Bool.decide_or, ← decide_not]
    apply decide_eq_decide.mpr
    omega
  · rw [decide_eq_false h0, Bool.false_and]
    show (gH (rs v) (whC (zr v)) || gB (rs v) (whC (zr v))) = true
    by_cases h9 : zr v = -1
    · have hc : whC (zr v) = 64 := by
        unfold whC
        rw [if_neg (by omega)]
        omega
      rw [hc, show gH (rs v) 64 = true from decide_eq_true (by omega)]
      rfl
    · have hc : 65 ≤ whC (zr v) := by
        unfold whC
        split <;> omega
      have hl1 : rs v < 2 ^ (whC (zr v) - 1) := Nat.lt_of_lt_of_le xl (Nat.pow_le_pow_right (by decide) (by omega))
      rw [show gB (rs v) (whC (zr v)) = true from by
        unfold gB
        rw [Nat.mod_eq_of_lt hl1]
        exact decide_eq_true (by omega), Bool.or_true]
theorem iw_exV {w : Nat} {v : RV} (hk : rk v = 1) (h1 : 2 ^ 63 ≤ rs v) (he : zr v < 63) (hl : -17000 ≤ zr v) (hw : iwB v = true) : exV (rn v) (whN w (rn v) (rs v) (zr v)) = v := by
  have xl : rs v < 2 ^ 64 := uN_lt2 _
  have hI := iw_whI h1 he hl
  rw [hw] at hI
  unfold whI at hI
  rw [if_neg (by omega)] at hI
  have h0 : 0 ≤ zr v ∧ rs v * 2 ^ (zr v + 1).toNat % 2 ^ 64 = 0 := by
    unfold iwB at hw
    rw [decide_eq_false (show ¬ 63 ≤ zr v by omega), Bool.false_or, Bool.and_eq_true] at hw
    exact ⟨of_decide_eq_true hw.1, of_decide_eq_true hw.2⟩
  have hc : whC (zr v) = (63 - zr v).toNat := if_neg (by omega)
  rw [Bool.not_true, Bool.or_eq_false_iff] at hI
  have hN : whN w (rn v) (rs v) (zr v) = rs v / 2 ^ (63 - zr v).toNat := by
    unfold whN
    rw [if_neg (by omega), hI.1, hI.2, rUp_ff, hc]
    rfl
  rw [hN]
  have e1 : (2 : Nat) ^ 64 = 2 ^ (63 - zr v).toNat * 2 ^ (zr v + 1).toNat := by rw [← Nat.pow_add]; congr 1; omega
  have hm : rs v % 2 ^ (63 - zr v).toNat = 0 := by
    have h9 := h0.2
    rw [e1, Nat.mul_mod_mul_right] at h9
    rcases Nat.mul_eq_zero.mp h9 with h8 | h8
    · exact h8
    · have := pow_pos2 (zr v + 1).toNat
      omega
  have hX : rs v = rs v / 2 ^ (63 - zr v).toNat * 2 ^ (63 - zr v).toNat := by
    have := Nat.div_add_mod' (rs v) (2 ^ (63 - zr v).toNat)
    rw [hm, Nat.add_zero] at this
    exact this.symm
  have hc63 : (63 - zr v).toNat ≤ 63 := by omega
  have hcz : ((63 - zr v).toNat : Int) = 63 - zr v := by omega
  generalize (63 - zr v).toNat = c at *
  generalize hNq : rs v / 2 ^ c = N at *
  have hpc := pow_pos2 c
  have e3 : (2 : Nat) ^ 63 = 2 ^ (63 - c) * 2 ^ c := by rw [← Nat.pow_add]; congr 1; omega
  have e4 : (2 : Nat) ^ 64 = 2 ^ (63 - c + 1) * 2 ^ c := by rw [← Nat.pow_add]; congr 1; omega
  have n1 : 2 ^ (63 - c) ≤ N := by
    rw [hX, e3] at h1
    exact Nat.le_of_mul_le_mul_right h1 hpc
  have n2 : N < 2 ^ (63 - c + 1) := by
    rw [hX, e4] at xl
    exact Nat.lt_of_mul_lt_mul_right xl
  have hnb : nb N = 63 - c + 1 := nb_uniq n1 n2
  have hN0 : N ≠ 0 := by
    have := pow_pos2 (63 - c)
    omega
  unfold exV
  rw [if_neg hN0, rSg_p hnb (by omega), hnb, show 64 - (63 - c + 1) = c by omega, ← hX, show ((63 - c + 1 : Nat) : Int) - 1 = zr v by omega, ← re_zr v, lN_uN]
  obtain ⟨k, n, e, s⟩ := v
  have hk' : k = 1 := hk
  rw [hk']
section MW
variable {L : Nat} {xs : Nat → Int32} {d : Nat} {f : Nat → Int32} {g : Nat → Int64} {sg : Bool} {A : Nat → Option Nat} {W : Nat → RV} {x y v : XV} {Mc : Nat → Int64} {T : List zC}
set_option maxRecDepth 10000 in
theorem c_Ar_makeWhole {q w : Nat} (hq : RP q) (hq10 : q ≠ 10) (hw : f 5 = nI w) (hw4 : w < 4) (hx : vOk (W q)) : zE L xs (d + 2) m_Ar_makeWhole [.ref 13, .ref q, .ref 10] (sH f g sg A W x y Mc T) (.inl (some (.int (intR w (W q)).2))) (sH f g sg A (fu W 10 (intR w (W q)).1) x y Mc T) := by
  have h10 : RP 10 := Or.inl ⟨by decide, by decide⟩
  have cp : zR L xs (d + 2) m_Ar_makeWhole 15 [(0, .ref 13), (1, .ref q), (2, .ref 10)] [] (sH f g sg A W x y Mc T) 0 (.inl (some (.int 0))) (sH f g sg A (fu W 10 (W q)) x y Mc T) 0 := by
    refine zR_n 2 rfl ?_
    refine zR_v rfl rfl rfl rfl rfl ⟨rfl, Nat.le_of_ble_eq_true rfl, Nat.le_of_ble_eq_true rfl⟩ rfl (Nat.le_refl _) (c_Re_copy h10 hq hq10) rfl rfl ?_
    exact zR_to 21 rfl (zR_e rfl rfl rfl rfl rfl rfl)
  by_cases h1 : rk (W q) = 1
  · obtain ⟨x1, x2, x3⟩ := hx.2.1 h1
    have xl : rs (W q) < 2 ^ 64 := uN_lt2 _
    have go : ∀ {o : zO} {h9 : zH}, zR L xs (d + 2) m_Ar_makeWhole 12 [(0, .ref 13), (1, .ref q), (2, .ref 10)] [.int (bI (iwB (W q)))] (sH f g sg A W x y Mc T) 0 o h9 0 → zE L xs (d + 2) m_Ar_makeWhole [.ref 13, .ref q, .ref 10] (sH f g sg A W x y Mc T) o h9 := fun {o h9} hr => by
      refine ⟨0, Nat.zero_le _, ?_⟩
      refine zR_n 1 rfl ?_
      refine zW_g hq rfl rfl rfl rfl rfl ?_
      refine zR_n 2 rfl ?_
      refine zR_if (fun h => absurd h1 h) (fun _ => ?_)
      refine zR_n 1 rfl ?_
      exact zR_v rfl rfl rfl rfl (sR_get hq) ⟨rfl, Nat.le_of_ble_eq_true rfl, Nat.le_of_ble_eq_true rfl⟩ rfl (Nat.le_refl _) (c_Re_isWhole hq) rfl rfl hr
    cases hi : iwB (W q) with
    | true =>
      have e : intR w (W q) = (W q, 0) := by
        unfold intR
        by_cases h63 : zr (W q) < 63
        · rw [if_pos ⟨h1, h63⟩, iw_exV h1 x1 h63 x2 hi, iw_whI x1 h63 x2, hi]
          rfl
        · rw [if_neg (fun h => h63 h.2)]
      rw [e]
      refine go ?_
      rw [hi]
      refine zR_n 1 rfl ?_
      exact cp
    | false =>
      have h63 : zr (W q) < 63 := by
        rcases Int.lt_or_le (zr (W q)) 63 with h9 | h9
        · exact h9
        · unfold iwB at hi
          rw [decide_eq_true h9] at hi
          cases hi
      have e : intR w (W q) = (exV (rn (W q)) (whN w (rn (W q)) (rs (W q)) (zr (W q))), 16) := by
        unfold intR
        rw [if_pos ⟨h1, h63⟩, iw_whI x1 h63 x2, hi]
        rfl
      have hl := whN_lt (w := w) (mb := rn (W q)) xl h63
      rw [e]
      refine go ?_
      rw [hi]
      refine zR_n 3 rfl ?_
      refine zW_g hq rfl rfl rfl rfl rfl ?_
      refine zR_to 32 (st' := [.ref q, .ref 12, .int (bI (rn (W q))), .ref 10]) rfl ?_
      refine zR_v rfl rfl rfl rfl rfl ⟨rfl, Nat.le_of_ble_eq_true rfl, Nat.le_of_ble_eq_true rfl⟩ rfl (Nat.le_refl _) (c_Ro_wholeMagnitude hq hw hw4 (by omega) (fun _ => by omega)) rfl rfl ?_
      refine zR_v rfl rfl rfl rfl rfl ⟨rfl, Nat.le_of_ble_eq_true rfl, Nat.le_of_ble_eq_true rfl⟩ rfl (Nat.le_refl _) (c_Re_becomeWhole h10 (by omega)) rfl rfl ?_
      exact zR_to 40 rfl (zR_e rfl rfl rfl rfl rfl rfl)
  · have e : intR w (W q) = (W q, 0) := if_neg (fun h => h1 h.1)
    rw [e]
    refine ⟨0, Nat.zero_le _, ?_⟩
    refine zR_n 1 rfl ?_
    refine zW_g hq rfl rfl rfl rfl rfl ?_
    refine zR_n 2 rfl ?_
    exact zR_if (fun _ => cp) (fun h => absurd (Decidable.of_not_not h) h1)
theorem sc_rep {v : RV} {z : Int} (h : 2 ^ 63 ≤ rs v) : xRep (rn v, iZ (zr v + z), v.2.2.2, 0) (rn v) (rs v) (zr v - 63 + z) := by
  refine ⟨zr v + z, rs v, 0, ?_, h, uN_lt2 _, by decide, ?_⟩
  · rw [lN_uN]
    rfl
  · have h9 := can_scale (can_hl (zr v + z) h (uN_lt2 _) (show 0 < 2 ^ 64 by decide)) (N := rs v) (m := 64) (by rw [Nat.add_zero]) (by decide)
    rw [show zr v + z - 127 + ((64 : Nat) : Int) = zr v - 63 + z by omega] at h9
    exact h9
/-- the scale's own conditions -/
theorem sc_iff {v : RV} (h0 : 0 ≤ zr v) (h16 : zr v < 16) : (rs v * 2 ^ (zr v + 1).toNat % 2 ^ 64 = 0 ↔ rs v / 2 ^ scK v * 2 ^ scK v = rs v) ∧ rs v / 2 ^ scK v < 65536 := by
  have xl : rs v < 2 ^ 64 := uN_lt2 _
  have e1 : (2 : Nat) ^ 64 = 2 ^ scK v * 2 ^ (zr v + 1).toNat := by rw [← Nat.pow_add]; congr 1; unfold scK; omega
  have hd := Nat.div_add_mod' (rs v) (2 ^ scK v)
  have hp := pow_pos2 (zr v + 1).toNat
  constructor
  · rw [e1, Nat.mul_mod_mul_right]
    constructor
    · intro h9
      rcases Nat.mul_eq_zero.mp h9 with h8 | h8 <;> omega
    · intro h9
      rw [show rs v % 2 ^ scK v = 0 by omega, Nat.zero_mul]
  · apply Nat.div_lt_of_lt_mul
    rw [show (65536 : Nat) = 2 ^ 16 from rfl, ← Nat.pow_add]
    exact Nat.lt_of_lt_of_le xl (Nat.pow_le_pow_right (by decide) (by unfold scK; omega))
set_option maxRecDepth 10000 in
set_option maxHeartbeats 4000000 in
theorem c_Ar_scale {q j p w : Nat} (hq : RP q) (hj : RP j) (hq10 : q ≠ 10) (ht : f 4 = nI p) (hw : f 5 = nI w) (hw4 : w < 4) (hp : pOk p) (hx : vOk (W q)) (hy : vOk (W j)) : ∃ x', zE L xs (d + 3) m_Ar_scale [.ref 13, .ref q, .ref j, .ref 10] (sH f g sg A W x y Mc T) (.inl (some (.int (sclR w p (W q) (W j)).2))) (sH f g sg A (fu W 10 (sclR w p (W q) (W j)).1) x' y Mc T) := by
  have h10 : RP 10 := Or.inl ⟨by decide, by decide⟩
  have yl : rs (W j) < 2 ^ 64 := uN_lt2 _
  have q3 : ∀ {o : zO} {h9 : zH}, (eit (W q) (W j) 3 = true → zR L xs (d + 3) m_Ar_scale 16 [(0, .ref 13), (1, .ref q), (2, .ref j), (3, .ref 10)] [] (sH f g sg A W x y Mc T) 0 o h9 0) → (eit (W q) (W j) 3 = false → zR L xs (d + 3) m_Ar_scale 22 [(0, .ref 13), (1, .ref q), (2, .ref j), (3, .ref 10)] [] (sH f g sg A W x y Mc T) 0 o h9 0) → zE L xs (d + 3) m_Ar_scale [.ref 13, .ref q, .ref j, .ref 10] (sH f g sg A W x y Mc T) o h9 := fun {o h9} hy hn => by
    refine ⟨0, Nat.zero_le _, ?_⟩
    refine zR_n 1 rfl ?_
    refine zW_g hj rfl rfl rfl rfl rfl ?_
    refine zR_n 2 rfl ?_
    refine zR_if (fun h => hy (by unfold eit; rw [decide_eq_true (show rk (W j) = 3 from h)]; simp)) (fun h => ?_)
    refine zR_n 1 rfl ?_
    refine zW_g hq rfl rfl rfl rfl rfl ?_
    refine zR_n 2 rfl ?_
    refine zR_if (fun h2 => hn (by unfold eit; rw [decide_eq_false (show ¬ rk (W j) = 3 from h), decide_eq_false (show ¬ rk (W q) = 3 from h2)]; rfl)) (fun h2 => hy (by unfold eit; rw [decide_eq_true (show rk (W q) = 3 from Decidable.of_not_not h2)]; rfl))
  unfold sclR
  cases h3 : eit (W q) (W j) 3 with
  | true =>
    rw [if_pos rfl]
    refine ⟨x, q3 (fun _ => ?_) (fun h => by rw [h3] at h; cases h)⟩
    refine zR_n 1 rfl ?_
    refine zR_v rfl rfl rfl rfl rfl ⟨rfl, Nat.le_of_ble_eq_true rfl, Nat.le_of_ble_eq_true rfl⟩ rfl (Nat.le_refl _) (c_Re_becomeNan h10) rfl rfl ?_
    exact zR_to 21 rfl (zR_e rfl rfl rfl rfl rfl rfl)
  | false =>
    rw [if_neg (show ¬ (false = true) by decide)]
    have go3 : ∀ {o : zO} {h9 : zH}, zR L xs (d + 3) m_Ar_scale 22 [(0, .ref 13), (1, .ref q), (2, .ref j), (3, .ref 10)] [] (sH f g sg A W x y Mc T) 0 o h9 0 → zE L xs (d + 3) m_Ar_scale [.ref 13, .ref q, .ref j, .ref 10] (sH f g sg A W x y Mc T) o h9 := fun hr => q3 (fun h => by rw [h3] at h; cases h) (fun _ => hr)
    obtain ⟨n3q, n3j⟩ := eit_f h3
    -- refused
    have bad1 : zR L xs (d + 3) m_Ar_scale 46 [(0, .ref 13), (1, .ref q), (2, .ref j), (3, .ref 10)] [] (sH f g sg A W x y Mc T) 0 (.inl (some (.int 1))) (sH f g sg A (fu W 10 vNan) x y Mc T) 0 := by
      refine zR_n 1 rfl ?_
      refine zR_i rfl rfl rfl rfl ⟨Nat.le_of_ble_eq_true rfl, Nat.le_of_ble_eq_true rfl, Nat.le_of_ble_eq_true rfl⟩ rfl (Nat.le_refl _) c_Ar_makeInvalid rfl rfl ?_
      exact zR_e rfl rfl rfl rfl rfl rfl
    -- with the power n
    have good : ∀ (n : Nat), n ≤ 40000 → ∃ x', zR L xs (d + 3) m_Ar_scale 78 [(4, .int (nI n)), (0, .ref 13), (1, .ref q), (2, .ref j), (3, .ref 10)] [] (sH f g sg A W x y Mc T) 0 (.inl (some (.int (sclN w p n (W q) (W j)).2))) (sH f g sg A (fu W 10 (sclN w p n (W q) (W j)).1) x' y Mc T) 0 := by
      intro n hn
      unfold sclN
      by_cases h1 : rk (W q) = 1
      · rw [if_pos h1]
        obtain ⟨x1, x2, x3⟩ := hx.2.1 h1
        have xl : rs (W q) < 2 ^ 200 := Nat.lt_of_lt_of_le (uN_lt2 _) (Nat.pow_le_pow_right (by decide) (by decide))
        have fin : ∀ z : Int, -40000 ≤ z ∧ z ≤ 40000 → zR L xs (d + 3) m_Ar_scale 128 [(4, .int (nI n)), (0, .ref 13), (1, .ref q), (2, .ref j), (3, .ref 10)] [] (sH f g sg A W (rn (W q), iZ (zr (W q) + z), (W q).2.2.2, 0) y Mc T) 0 (.inl (some (.int (rNt w (rn (W q)) (rs (W q)) p 16383 (zr (W q) - 63 + z))))) (sH f g sg A (fu W 10 (rVal w (rn (W q)) (rs (W q)) p 16383 (zr (W q) - 63 + z))) (rn (W q), iZ (zr (W q) + z), (W q).2.2.2, 0) y Mc T) 0 := by
          intro z hz
          refine zR_to 137 (st' := [.ref 10, .ref 14, .ref 12]) rfl ?_
          refine zR_v rfl rfl rfl rfl rfl ⟨rfl, Nat.le_of_ble_eq_true rfl, Nat.le_of_ble_eq_true rfl⟩ rfl (Nat.le_refl _) (c_round_rep ht hw hw4 hp (sc_rep x1) xl (by omega)) rfl rfl ?_
          exact zR_e rfl rfl rfl rfl rfl rfl
        have hd : ∀ {o : zO} {h9 : zH}, zR L xs (d + 3) m_Ar_scale 113 [(4, .int (nI n)), (0, .ref 13), (1, .ref q), (2, .ref j), (3, .ref 10)] [.int (bI (rn (W j))), .int (iZ (zr (W q))), .ref 14] (sH f g sg A W (rn (W q), re (W q), (W q).2.2.2, 0) y Mc T) 0 o h9 0 → zR L xs (d + 3) m_Ar_scale 78 [(4, .int (nI n)), (0, .ref 13), (1, .ref q), (2, .ref j), (3, .ref 10)] [] (sH f g sg A W x y Mc T) 0 o h9 0 := fun {o h9} hr => by
          refine zR_n 1 rfl ?_
          refine zW_g hq rfl rfl rfl rfl rfl ?_
          refine zR_n 2 rfl ?_
          refine zR_if (fun _ => ?_) (fun h => absurd h1 h)
          refine zR_to 98 (st' := [.ref q, .ref 14]) rfl ?_
          refine zR_v rfl rfl rfl rfl rfl ⟨rfl, Nat.le_of_ble_eq_true rfl, Nat.le_of_ble_eq_true rfl⟩ rfl (Nat.le_refl _) (c_Ex_copy14 hq) rfl rfl ?_
          refine zR_to 110 (st' := [.ref j, .int (re (W q)), .ref 14]) rfl ?_
          rw [re_zr (W q)]
          rw [re_zr (W q)] at hr
          exact zW_g hj rfl rfl rfl rfl rfl hr
        rw [re_zr (W q)] at hd
        cases hnj : rn (W j) with
        | true =>
          rw [if_pos rfl]
          rw [hnj] at hd
          refine ⟨(rn (W q), iZ (zr (W q) + -(n : Int)), (W q).2.2.2, 0), hd ?_⟩
          refine zR_to 124 (st' := [.int (- nI n), .int (iZ (zr (W q))), .ref 14]) rfl ?_
          rw [← iZ_nat, iZ_neg]
          refine zR_to 125 (st' := [.int (iZ (zr (W q)) + iZ (-(n : Int))), .ref 14]) rfl ?_
          rw [iZ_add]
          refine zX_e rfl rfl rfl ?_
          have h9 := fin (-(n : Int)) (by omega)
          rw [← iZ_nat] at h9
          exact h9
        | false =>
          rw [if_neg (show ¬ (false = true) by decide)]
          rw [hnj] at hd
          refine ⟨(rn (W q), iZ (zr (W q) + (n : Int)), (W q).2.2.2, 0), hd ?_⟩
          refine zR_to 124 (st' := [.int (nI n), .int (iZ (zr (W q))), .ref 14]) rfl ?_
          rw [← iZ_nat]
          refine zR_to 125 (st' := [.int (iZ (zr (W q)) + iZ (n : Int)), .ref 14]) rfl ?_
          rw [iZ_add]
          refine zX_e rfl rfl rfl ?_
          have h9 := fin (n : Int) (by omega)
          rw [← iZ_nat] at h9
          exact h9
      · rw [if_neg h1]
        refine ⟨x, ?_⟩
        refine zR_n 1 rfl ?_
        refine zW_g hq rfl rfl rfl rfl rfl ?_
        refine zR_n 2 rfl ?_
        refine zR_if (fun h => absurd h h1) (fun _ => ?_)
        refine zR_n 2 rfl ?_
        refine zR_v rfl rfl rfl rfl rfl ⟨rfl, Nat.le_of_ble_eq_true rfl, Nat.le_of_ble_eq_true rfl⟩ rfl (Nat.le_refl _) (c_Re_copy h10 hq hq10) rfl rfl ?_
        exact zR_to 92 rfl (zR_e rfl rfl rfl rfl rfl rfl)
    -- up to the power, y whole and small
    have pw : ∀ {o : zO} {h9 : zH}, rk (W j) ≠ 2 → iwB (W j) = true → 0 ≤ zr (W j) → zr (W j) ≤ 15 → (rs (W j) / 2 ^ scK (W j) ≤ 40000 → zR L xs (d + 3) m_Ar_scale 78 [(4, .int (nI (rs (W j) / 2 ^ scK (W j)))), (0, .ref 13), (1, .ref q), (2, .ref j), (3, .ref 10)] [] (sH f g sg A W x y Mc T) 0 o h9 0) → (40000 < rs (W j) / 2 ^ scK (W j) → zR L xs (d + 3) m_Ar_scale 73 [(4, .int (nI (rs (W j) / 2 ^ scK (W j)))), (0, .ref 13), (1, .ref q), (2, .ref j), (3, .ref 10)] [] (sH f g sg A W x y Mc T) 0 o h9 0) → zR L xs (d + 3) m_Ar_scale 22 [(0, .ref 13), (1, .ref q), (2, .ref j), (3, .ref 10)] [] (sH f g sg A W x y Mc T) 0 o h9 0 := fun {o h9} hk2 hiw h0 h15 hy hn => by
      obtain ⟨-, hlt⟩ := sc_iff h0 (show zr (W j) < 16 by omega)
      have hsk : scK (W j) < 64 := by unfold scK; omega
      refine zR_n 1 rfl ?_
      refine zW_g hj rfl rfl rfl rfl rfl ?_
      refine zR_n 2 rfl ?_
      refine zR_if (fun h => absurd h hk2) (fun _ => ?_)
      refine zR_n 1 rfl ?_
      refine zR_v rfl rfl rfl rfl (sR_get hj) ⟨rfl, Nat.le_of_ble_eq_true rfl, Nat.le_of_ble_eq_true rfl⟩ rfl (Nat.le_refl _) (c_Re_isWhole hj) rfl rfl ?_
      rw [hiw]
      refine zR_n 2 rfl ?_
      refine zW_g hj rfl rfl rfl (fR_e _) rfl ?_
      refine zR_to 43 (st' := [.int (iZ 15), .int (iZ (zr (W j)))]) rfl ?_
      refine zR_m 1 rfl ?_
      refine zR_if (fun _ => ?_) (fun h => absurd ((iZ_le (by omega) (by omega)).mpr h15) h)
      refine zR_n 1 rfl ?_
      refine zW_g hj rfl rfl rfl (fR_s _) rfl ?_
      refine zR_n 2 rfl ?_
      refine zW_g hj rfl rfl rfl (fR_e _) rfl ?_
      refine zR_to 62 (st' := [.int (iZ 63 - iZ (zr (W j))), .long (lN (rs (W j)))]) rfl ?_
      rw [show iZ 63 - iZ (zr (W j)) = nI (scK (W j)) from by rw [iZ_sub, ← iZ_nat]; congr 1; unfold scK; omega]
      refine zR_to 64 (st' := [.int ((lN (rs (W j))).toUInt64 >>> ((nI (scK (W j))).toInt64.toUInt64 &&& Int64.toUInt64 63)).toInt64.toInt32]) rfl ?_
      rw [sc_n yl hsk]
      refine zR_to 70 (st' := [.int (nI 40000), .int (nI (rs (W j) / 2 ^ scK (W j)))]) rfl ?_
      refine zR_m 1 rfl ?_
      refine zR_if (fun h => hy ((nI_leI (by omega) (by omega)).mp h)) (fun h => hn ?_)
      rcases Nat.lt_or_ge 40000 (rs (W j) / 2 ^ scK (W j)) with h8 | h8
      · exact h8
      · exact absurd ((nI_leI (by omega) (by omega)).mpr h8) h
    by_cases hj0 : rk (W j) = 0
    · rw [if_pos hj0]
      obtain ⟨e1, e2⟩ := hy.2.2.1 (by rw [hj0]; decide)
      have hz : zr (W j) = 0 := by
        show (re (W j)).toInt = 0
        rw [e1]
        rfl
      have hs : rs (W j) = 0 := by
        show uN _ = 0
        rw [e2]
        rfl
      have hiw : iwB (W j) = true := by
        unfold iwB
        rw [hz, hs]
        decide
      have hn0 : rs (W j) / 2 ^ scK (W j) = 0 := by rw [hs, Nat.zero_div]
      obtain ⟨x', hg⟩ := good 0 (by decide)
      refine ⟨x', go3 (pw (by rw [hj0]; decide) hiw (by omega) (by omega) (fun _ => ?_) (fun h => by omega))⟩
      rw [hn0]
      exact hg
    · rw [if_neg hj0]
      by_cases hfin : rk (W j) = 1 ∧ (0 ≤ zr (W j) ∧ zr (W j) < 16) ∧ rs (W j) / 2 ^ scK (W j) ≤ 40000 ∧ rs (W j) / 2 ^ scK (W j) * 2 ^ scK (W j) = rs (W j)
      · rw [if_pos hfin]
        obtain ⟨f1, f2, f3, f4⟩ := hfin
        obtain ⟨hi, -⟩ := sc_iff f2.1 f2.2
        have hiw : iwB (W j) = true := by
          unfold iwB
          rw [decide_eq_true f2.1, decide_eq_true (hi.mpr f4)]
          simp
        obtain ⟨x', hg⟩ := good _ f3
        exact ⟨x', go3 (pw (by rw [f1]; decide) hiw f2.1 (by omega) (fun _ => hg) (fun h => by omega))⟩
      · rw [if_neg hfin]
        refine ⟨x, go3 ?_⟩
        by_cases hj2 : rk (W j) = 2
        · refine zR_n 1 rfl ?_
          refine zW_g hj rfl rfl rfl rfl rfl ?_
          refine zR_n 2 rfl ?_
          exact zR_if (fun _ => bad1) (fun h => absurd hj2 h)
        · have f1 : rk (W j) = 1 := by
            rcases hy.1 with h | h | h | h
            · exact absurd h hj0
            · exact h
            · exact absurd h hj2
            · exact absurd h n3j
          obtain ⟨y1, y2, y3⟩ := hy.2.1 f1
          cases hiw : iwB (W j) with
          | false =>
            refine zR_n 1 rfl ?_
            refine zW_g hj rfl rfl rfl rfl rfl ?_
            refine zR_n 2 rfl ?_
            refine zR_if (fun h => absurd h hj2) (fun _ => ?_)
            refine zR_n 1 rfl ?_
            refine zR_v rfl rfl rfl rfl (sR_get hj) ⟨rfl, Nat.le_of_ble_eq_true rfl, Nat.le_of_ble_eq_true rfl⟩ rfl (Nat.le_refl _) (c_Re_isWhole hj) rfl rfl ?_
            rw [hiw]
            refine zR_n 1 rfl ?_
            exact bad1
          | true =>
            have h0 : 0 ≤ zr (W j) := by
              rcases Int.lt_or_le (zr (W j)) 0 with h9 | h9
              · unfold iwB at hiw
                rw [decide_eq_false (show ¬ 63 ≤ zr (W j) by omega), decide_eq_false (show ¬ 0 ≤ zr (W j) by omega)] at hiw
                cases hiw
              · exact h9
            by_cases h15 : zr (W j) ≤ 15
            · obtain ⟨hi, hlt⟩ := sc_iff h0 (show zr (W j) < 16 by omega)
              have hex : rs (W j) / 2 ^ scK (W j) * 2 ^ scK (W j) = rs (W j) := by
                unfold iwB at hiw
                rw [decide_eq_false (show ¬ 63 ≤ zr (W j) by omega), Bool.false_or, Bool.and_eq_true] at hiw
                exact hi.mp (of_decide_eq_true hiw.2)
              refine pw hj2 hiw h0 h15 (fun h => absurd ⟨f1, ⟨h0, by omega⟩, h, hex⟩ hfin) (fun _ => ?_)
              refine zR_n 1 rfl ?_
              refine zR_i rfl rfl rfl rfl ⟨Nat.le_of_ble_eq_true rfl, Nat.le_of_ble_eq_true rfl, Nat.le_of_ble_eq_true rfl⟩ rfl (Nat.le_refl _) c_Ar_makeInvalid rfl rfl ?_
              exact zR_e rfl rfl rfl rfl rfl rfl
            · refine zR_n 1 rfl ?_
              refine zW_g hj rfl rfl rfl rfl rfl ?_
              refine zR_n 2 rfl ?_
              refine zR_if (fun h => absurd h hj2) (fun _ => ?_)
              refine zR_n 1 rfl ?_
              refine zR_v rfl rfl rfl rfl (sR_get hj) ⟨rfl, Nat.le_of_ble_eq_true rfl, Nat.le_of_ble_eq_true rfl⟩ rfl (Nat.le_refl _) (c_Re_isWhole hj) rfl rfl ?_
              rw [hiw]
              refine zR_n 2 rfl ?_
              refine zW_g hj rfl rfl rfl (fR_e _) rfl ?_
              refine zR_to 43 (st' := [.int (iZ 15), .int (iZ (zr (W j)))]) rfl ?_
              refine zR_m 1 rfl ?_
              exact zR_if (fun h => absurd ((iZ_le (by omega) (by omega)).mp h) h15) (fun _ => bad1)
end MW
