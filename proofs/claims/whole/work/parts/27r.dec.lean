/-! decode of the class -/
section DE
variable {L : Nat} {xs : Nat → Int32} {d : Nat} {f : Nat → Int32} {g : Nat → Int64} {sg : Bool} {A : Nat → Option Nat} {W : Nat → RV} {x y v : XV} {Mc : Nat → Int64} {T : List zC}
theorem fOk_and {fd fr n : Nat} (hf : fOk fd fr) : nI (n / 2 ^ fr) &&& nI (2 ^ fd - 1) = nI (rdE fd fr n) := by
  have hfd : fd ≤ 11 := by rcases hf with ⟨rfl, rfl⟩ | ⟨rfl, rfl⟩ <;> decide
  have hm : (nI (2 ^ fd - 1)).toBitVec.toNat = 2 ^ fd - 1 := by rcases hf with ⟨rfl, rfl⟩ | ⟨rfl, rfl⟩ <;> decide +kernel
  rw [pk_and (nI (n / 2 ^ fr)) fd hm]
  congr 1
  show (BitVec.ofNat 32 (n / 2 ^ fr)).toNat % 2 ^ fd = _
  rw [BitVec.toNat_ofNat]
  exact Nat.mod_mod_of_dvd _ (Nat.pow_dvd_pow 2 (by omega))
theorem fOk_shr {fd fr : Nat} (hf : fOk fd fr) : nI (2 ^ fd - 1) >>> ((1 : Int32) &&& 31) = nI (2 ^ (fd - 1) - 1) := by
  rcases hf with ⟨rfl, rfl⟩ | ⟨rfl, rfl⟩ <;> decide +kernel
set_option maxRecDepth 10000 in
set_option maxHeartbeats 4000000 in
theorem c_Fo_decodeBinary {fd fr n : Nat} (hf : fOk fd fr) (hn : n < 2 ^ 64) : zE L xs (d + 1) m_Fo_decodeBinary [.long (lN n), .int (nI fd), .int (nI fr), .ref 10] (sH f g sg A W x y Mc T) (.inl none) (sH f g sg A (fu W 10 (rdR fd fr n)) x y Mc T) := by
  have h10 : RP 10 := Or.inl ⟨by decide, by decide⟩
  obtain ⟨hm1, -⟩ := fOk_most hf
  have hfd : fd ≤ 11 ∧ fr ≤ 52 ∧ 1 ≤ fd ∧ 1 ≤ fr := by rcases hf with ⟨rfl, rfl⟩ | ⟨rfl, rfl⟩ <;> decide
  have hTP : (-9223372036854775808 : Int64) = lN (1 * 2 ^ 63) := by decide +kernel
  have hmlt : 2 ^ fd - 1 < 2 ^ 31 := by
    have : 2 ^ fd ≤ 2 ^ 11 := Nat.pow_le_pow_right (by decide) hfd.1
    omega
  have hE : rdE fd fr n < 2 ^ 31 := by
    have h1 : rdE fd fr n < 2 ^ fd := Nat.mod_lt _ (Nat.pow_pos (by decide))
    have : 2 ^ fd ≤ 2 ^ 11 := Nat.pow_le_pow_right (by decide) hfd.1
    omega
  have hF : n % 2 ^ fr < 2 ^ fr := Nat.mod_lt _ (Nat.pow_pos (by decide))
  have hfr : 2 ^ fr ≤ 2 ^ 52 := Nat.pow_le_pow_right (by decide) hfd.2.1
  have hF63 : n % 2 ^ fr < 2 ^ 63 := by omega
  have hP : 2 ^ fr * 2 ^ (63 - fr) = 2 ^ 63 := by rw [← Nat.pow_add]; congr 1; omega
  have hFs : n % 2 ^ fr * 2 ^ (63 - fr) < 2 ^ 63 := by
    rw [← hP]
    exact Nat.mul_lt_mul_of_pos_right hF (pow_pos2 _)
  -- from the three numbers on
  have go : ∀ mb : Bool, decide (n / 2 ^ (fd + fr) % 2 = 1) = mb → zR L xs (d + 1) m_Fo_decodeBinary 44 [(9, .int (bI mb)), (7, .long (lN (n % 2 ^ fr))), (6, .int (nI (rdE fd fr n))), (5, .int (nI (2 ^ fd - 1))), (3, .int (nI fr)), (4, .ref 10)] [] (sH f g sg A W x y Mc T) 0 (.inl none) (sH f g sg A (fu W 10 (rdR fd fr n)) x y Mc T) 0 := by
    intro mb hmb
    unfold rdR
    rw [hmb]
    refine zR_to 46 (st' := [.int (nI (rdE fd fr n))]) rfl ?_
    refine zR_m 1 rfl ?_
    refine zR_if (fun h => ?_) (fun h => ?_)
    · have h0 : rdE fd fr n ≠ 0 := fun h9 => h (by rw [h9]; rfl)
      rw [if_neg h0]
      refine zR_to 63 (st' := [.int (nI (2 ^ fd - 1)), .int (nI (rdE fd fr n))]) rfl ?_
      refine zR_m 1 rfl ?_
      refine zR_if (fun h1 => ?_) (fun h1 => ?_)
      · rw [if_neg (show ¬ rdE fd fr n < 2 ^ fd - 1 from fun h9 => by have := (nI_leI (by omega) (by omega)).mp h1; omega)]
        refine zR_to 102 (st' := [.int (lg_cmp (lN (n % 2 ^ fr)) 0)]) rfl ?_
        refine zR_m 1 rfl ?_
        refine zR_if (fun h2 => ?_) (fun h2 => ?_)
        · rw [if_neg (show ¬ n % 2 ^ fr = 0 from fun h9 => h2 ((lg_cmp_eq _ _).mpr (by rw [h9]; rfl)))]
          refine zR_n 1 rfl ?_
          refine zR_v rfl rfl rfl rfl rfl ⟨rfl, Nat.le_of_ble_eq_true rfl, Nat.le_of_ble_eq_true rfl⟩ rfl (Nat.le_refl _) (c_Re_becomeNan h10) rfl rfl ?_
          exact zR_e rfl rfl rfl rfl rfl rfl
        · rw [if_pos (show n % 2 ^ fr = 0 from (pk_lEQ hF63 (by decide)).mp ((lg_cmp_eq _ _).mp (Decidable.of_not_not h2)))]
          refine zR_n 2 rfl ?_
          refine zR_v rfl rfl rfl rfl rfl ⟨rfl, Nat.le_of_ble_eq_true rfl, Nat.le_of_ble_eq_true rfl⟩ rfl (Nat.le_refl _) (c_Re_becomeInfinite h10) rfl rfl ?_
          exact zR_to 120 rfl (zR_e rfl rfl rfl rfl rfl rfl)
      · rw [if_pos (show rdE fd fr n < 2 ^ fd - 1 by
          rcases Nat.lt_or_ge (rdE fd fr n) (2 ^ fd - 1) with h9 | h9
          · exact h9
          · exact absurd ((nI_leI (by omega) (by omega)).mpr h9) h1)]
        refine zR_to 69 (st' := [.long (-9223372036854775808)]) rfl ?_
        rw [hTP]
        generalize htp : lN (1 * 2 ^ 63) = tp
        refine zR_to 75 (st' := [.int (nI 63 - nI fr), .long (lN (n % 2 ^ fr)), .long tp]) rfl ?_
        rw [pk_sub (show fr ≤ 63 by omega)]
        refine zR_to 76 (st' := [.long (lN (n % 2 ^ fr) <<< ((nI (63 - fr)).toInt64 &&& 63)), .long tp]) rfl ?_
        rw [wb_shl _ (show 63 - fr < 64 by omega)]
        refine zR_to 77 (st' := [.long (tp ||| lN (n % 2 ^ fr * 2 ^ (63 - fr)))]) rfl ?_
        rw [← htp, g_or (k := 63) rfl hFs (by omega), show 1 * 2 ^ 63 + n % 2 ^ fr * 2 ^ (63 - fr) = (2 ^ fr + n % 2 ^ fr) * 2 ^ (63 - fr) by rw [Nat.add_mul, hP, Nat.one_mul]]
        refine zR_to 89 (st' := [.int (nI (2 ^ fd - 1) >>> ((1 : Int32) &&& 31)), .int (nI (rdE fd fr n)), .int (bI mb), .ref 10]) rfl ?_
        rw [fOk_shr hf]
        refine zR_n 2 rfl ?_
        refine zR_v rfl rfl rfl rfl rfl ⟨rfl, Nat.le_of_ble_eq_true rfl, Nat.le_of_ble_eq_true rfl⟩ rfl (Nat.le_refl _) (c_Re_becomeFinite h10) rfl rfl ?_
        exact zR_to 120 rfl (zR_e rfl rfl rfl rfl rfl rfl)
    · have h0 : rdE fd fr n = 0 := by
        rcases Nat.eq_zero_or_pos (rdE fd fr n) with h9 | h9
        · exact h9
        · exact absurd (nI_ne0 h9 hE) h
      rw [if_pos h0]
      refine zR_n 2 rfl ?_
      refine zR_v rfl rfl rfl rfl rfl ⟨rfl, Nat.le_of_ble_eq_true rfl, Nat.le_of_ble_eq_true rfl⟩ rfl (Nat.le_refl _) (c_Re_becomeZero h10) rfl rfl ?_
      exact zR_to 120 rfl (zR_e rfl rfl rfl rfl rfl rfl)
  refine ⟨0, Nat.zero_le _, ?_⟩
  refine zR_to 5 (st' := [.int ((1 : Int32) <<< (nI fd &&& 31) - 1)]) rfl ?_
  rw [hm1]
  refine zR_to 10 (st' := [.long ((lN n).toUInt64 >>> ((nI fr).toInt64.toUInt64 &&& Int64.toUInt64 63)).toInt64]) rfl ?_
  rw [wb_shr hn (show fr < 64 by omega)]
  refine zR_to 11 (st' := [.int (lN (n / 2 ^ fr)).toInt32]) rfl ?_
  rw [lN_i]
  refine zR_to 14 (st' := [.int (nI (n / 2 ^ fr) &&& nI (2 ^ fd - 1))]) rfl ?_
  rw [fOk_and hf]
  refine zR_to 20 (st' := [.long (lN 1 <<< ((nI fr).toInt64 &&& 63)), .long (lN n)]) rfl ?_
  rw [wb_shl 1 (show fr < 64 by omega)]
  refine zR_to 22 (st' := [.long (lN (1 * 2 ^ fr) - lN 1), .long (lN n)]) rfl ?_
  rw [lN_sub (by have := Nat.pow_pos (n := fr) (show 0 < 2 by decide); omega), Nat.one_mul]
  refine zR_to 23 (st' := [.long (lN n &&& lN (2 ^ fr - 1))]) rfl ?_
  rw [wb_mask hn (show fr < 64 by omega)]
  refine zR_to 29 (st' := [.int (nI fd + nI fr), .long (lN n)]) rfl ?_
  rw [nI_add]
  refine zR_to 32 (st' := [.long (((lN n).toUInt64 >>> ((nI (fd + fr)).toInt64.toUInt64 &&& Int64.toUInt64 63)).toInt64 &&& 1)]) rfl ?_
  rw [wb_bit hn (show fd + fr < 64 by omega)]
  refine zR_to 34 (st' := [.int (lg_cmp (lN (n / 2 ^ (fd + fr) % 2)) 0)]) rfl ?_
  refine zR_m 1 rfl ?_
  have hb2 : n / 2 ^ (fd + fr) % 2 < 2 := Nat.mod_lt _ (by decide)
  refine zR_if (fun h => ?_) (fun h => ?_)
  · refine zR_to 44 rfl ?_
    exact zR_w (go false (decide_eq_false (fun h9 => by have := lN_z.mp ((lg_cmp_eq _ _).mp h); omega))) rfl rfl ⟨rfl, rfl, rfl, rfl, rfl, rfl, trivial⟩
  · refine zR_to 44 rfl ?_
    exact zR_w (go true (decide_eq_true (by
      rcases Nat.mod_two_eq_zero_or_one (n / 2 ^ (fd + fr)) with h9 | h9
      · exact absurd ((lg_cmp_eq _ _).mpr (by rw [h9]; rfl)) h
      · exact h9))) rfl rfl ⟨rfl, rfl, rfl, rfl, rfl, rfl, trivial⟩
set_option maxRecDepth 10000 in
theorem l_Fo_decodeDecimal {n : Nat} {o : zO} {h9 : zH} (hn : n < 2 ^ 64)
    (hr : ∀ z : Int32, zR L xs (d + 2) m_Fo_decodeDecimal 75 [(6, .int z), (3, .long (lN (dV n 15))), (5, .int (bI (dG n 15))), (0, .long (lN n)), (2, .ref 10)] [] (sH f g sg A W x y Mc T) 0 o h9 0) :
    ∀ (c t : Nat), c + t = 15 → zR L xs (d + 2) m_Fo_decodeDecimal 22 [(6, .int (iZ (14 - (t : Int)))), (3, .long (lN (dV n t))), (5, .int (bI (dG n t))), (0, .long (lN n)), (2, .ref 10)] [] (sH f g sg A W x y Mc T) 0 o h9 0 := by
  intro c
  induction c with
  | zero =>
    intro t ht
    obtain rfl : t = 15 := by omega
    refine zR_to 24 rfl ?_
    refine zR_m 1 rfl ?_
    refine zR_if (fun _ => ?_) (fun h => absurd (show iZ (14 - ((15 : Nat) : Int)) < 0 by decide) h)
    exact hr _
  | succ c ih =>
    intro t ht
    have e1 : (14 : Int) - (t : Int) = ((14 - t : Nat) : Int) := by omega
    have e2 : (4 : Int32) * nI (14 - t) = nI (56 - 4 * t) := by
      rw [show (4 : Int32) = nI 4 from rfl, pk_mul]
      congr 1
      omega
    have hd : n / 2 ^ (56 - 4 * t) % 16 < 16 := Nat.mod_lt _ (by decide)
    have nx : ∀ gg : Bool, dG n (t + 1) = gg → zR L xs (d + 2) m_Fo_decodeDecimal 60 [(5, .int (bI gg)), (7, .long (lN (n / 2 ^ (56 - 4 * t) % 16))), (6, .int (iZ (14 - (t : Int)))), (3, .long (lN (dV n t))), (0, .long (lN n)), (2, .ref 10)] [] (sH f g sg A W x y Mc T) 0 o h9 0 := by
      intro gg hgg
      have h := ih (t + 1) (by omega)
      rw [hgg] at h
      refine zR_to 68 (st' := [.long (lN (dV n t) * lN 10 + lN (n / 2 ^ (56 - 4 * t) % 16))]) rfl ?_
      rw [lN_mul, lN_add]
      refine zR_to 22 rfl ?_
      refine zR_w h rfl rfl ⟨?_, rfl, rfl, rfl, rfl, trivial⟩
      rw [show iZ (14 - ((t + 1 : Nat) : Int)) = iZ (14 - (t : Int)) + iZ (-1) from by rw [iZ_add]; congr 1; omega]
      rfl
    refine zR_to 24 rfl ?_
    refine zR_m 1 rfl ?_
    refine zR_if (fun h => ?_) (fun _ => ?_)
    · have := (iZ_lt (y := 0) (by omega) (by omega)).mp h
      omega
    refine zR_to 32 (st' := [.int ((4 : Int32) * iZ (14 - (t : Int))), .long (lN n)]) rfl ?_
    rw [show (4 : Int32) * iZ (14 - (t : Int)) = nI (56 - 4 * t) from by rw [e1, iZ_nat, e2]]
    refine zR_to 37 (st' := [.long (((lN n).toUInt64 >>> ((nI (56 - 4 * t)).toInt64.toUInt64 &&& Int64.toUInt64 63)).toInt64 &&& lN 15)]) rfl ?_
    rw [dgt hn (by omega)]
    cases hg : dG n t with
    | false =>
      have hg1 : dG n (t + 1) = false := by
        show (dG n t && _) = false
        rw [hg]
        rfl
      refine zR_to 60 rfl ?_
      exact zR_w (nx false hg1) rfl rfl ⟨rfl, rfl, rfl, rfl, rfl, rfl, trivial⟩
    | true =>
      refine zR_to 50 (st' := [.int (lg_cmp (lN (n / 2 ^ (56 - 4 * t) % 16)) (lN 9))]) rfl ?_
      refine zR_m 1 rfl ?_
      refine zR_if (fun h => ?_) (fun h => ?_)
      · have hg1 : dG n (t + 1) = false := by
          show (dG n t && _) = false
          rw [hg, decide_eq_false (show ¬ n / 2 ^ (56 - 4 * t) % 16 < 10 from fun h8 => by
            have := (pk_lLT (a := 9) (by decide) (by omega)).mp ((lg_cmp_gt _ _).mp h)
            omega)]
          rfl
        refine zR_to 60 rfl ?_
        exact zR_w (nx false hg1) rfl rfl ⟨rfl, rfl, rfl, rfl, rfl, rfl, trivial⟩
      · have hg1 : dG n (t + 1) = true := by
          show (dG n t && _) = true
          rw [hg, decide_eq_true (show n / 2 ^ (56 - 4 * t) % 16 < 10 by
            rcases Nat.lt_or_ge 9 (n / 2 ^ (56 - 4 * t) % 16) with h8 | h8
            · exact absurd ((lg_cmp_gt _ _).mpr ((pk_lLT (by decide) (by omega)).mpr h8)) h
            · omega)]
          rfl
        refine zR_to 60 rfl ?_
        exact zR_w (nx true hg1) rfl rfl ⟨rfl, rfl, rfl, rfl, rfl, rfl, trivial⟩
set_option maxRecDepth 10000 in
theorem c_Fo_decodeDecimal {n : Nat} (hn : n < 2 ^ 64) : zE L xs (d + 2) m_Fo_decodeDecimal [.long (lN n), .ref 10] (sH f g sg A W x y Mc T) (.inl (some (.int (rdD n).2))) (sH f g sg A (fu W 10 (rdD n).1) x y Mc T) := by
  have h10 : RP 10 := Or.inl ⟨by decide, by decide⟩
  have h63 := dV_lt n
  have hsl : n / 2 ^ 60 < 2 ^ 63 := by omega
  have go : ∀ {o : zO} {h9 : zH}, (∀ z : Int32, zR L xs (d + 2) m_Fo_decodeDecimal 75 [(6, .int z), (3, .long (lN (dV n 15))), (5, .int (bI (dG n 15))), (0, .long (lN n)), (2, .ref 10)] [] (sH f g sg A W x y Mc T) 0 o h9 0) → zE L xs (d + 2) m_Fo_decodeDecimal [.long (lN n), .ref 10] (sH f g sg A W x y Mc T) o h9 := fun {o h9} hr => by
    have hl := l_Fo_decodeDecimal hn hr 15 0 rfl
    refine ⟨0, Nat.zero_le _, ?_⟩
    refine zR_to 6 (st' := [.long ((lN n).toUInt64 >>> ((nI 60).toInt64.toUInt64 &&& Int64.toUInt64 63)).toInt64]) rfl ?_
    rw [wb_shr hn (show 60 < 64 by decide)]
    refine zR_to 8 (st' := [.int (lg_cmp (lN (n / 2 ^ 60)) (lN 1))]) rfl ?_
    refine zR_m 1 rfl ?_
    refine zR_if (fun h => ?_) (fun h => ?_)
    · rw [show dG n 0 = false from decide_eq_false (fun h8 => by
        have := (pk_lLT (a := 1) (by decide) (by omega)).mp ((lg_cmp_gt _ _).mp h)
        omega)] at hl
      refine zR_to 22 rfl ?_
      exact zR_w hl rfl rfl ⟨rfl, rfl, rfl, rfl, rfl, trivial⟩
    · rw [show dG n 0 = true from decide_eq_true (by
        rcases Nat.lt_or_ge 1 (n / 2 ^ 60) with h8 | h8
        · exact absurd ((lg_cmp_gt _ _).mpr ((pk_lLT (by decide) (by omega)).mpr h8)) h
        · omega)] at hl
      refine zR_to 22 rfl ?_
      exact zR_w hl rfl rfl ⟨rfl, rfl, rfl, rfl, rfl, trivial⟩
  unfold rdD
  cases hg : dG n 15 with
  | false =>
    rw [if_neg (show ¬ (false = true) by decide)]
    refine go (fun z => ?_)
    rw [hg]
    refine zR_to 81 rfl ?_
    refine zR_v rfl rfl rfl rfl rfl ⟨rfl, Nat.le_of_ble_eq_true rfl, Nat.le_of_ble_eq_true rfl⟩ rfl (Nat.le_refl _) (c_Re_becomeNan h10) rfl rfl ?_
    exact zR_to 85 rfl (zR_e rfl rfl rfl rfl rfl rfl)
  | true =>
    rw [if_pos rfl]
    refine go (fun z => ?_)
    rw [hg]
    have fin : ∀ b : Bool, decide (n / 2 ^ 60 = 1) = b → ∀ z : Int32, zR L xs (d + 2) m_Fo_decodeDecimal 101 [(6, .int z), (3, .long (lN (dV n 15))), (5, .int (bI true)), (0, .long (lN n)), (2, .ref 10)] [.int (bI b), .ref 10] (sH f g sg A W x y Mc T) 0 (.inl (some (.int 0))) (sH f g sg A (fu W 10 (exV (decide (n / 2 ^ 60 = 1)) (dV n 15))) x y Mc T) 0 := by
      intro b hb z
      rw [hb]
      refine zR_n 1 rfl ?_
      refine zR_v rfl rfl rfl rfl rfl ⟨rfl, Nat.le_of_ble_eq_true rfl, Nat.le_of_ble_eq_true rfl⟩ rfl (Nat.le_refl _) (c_Re_becomeWhole h10 (by omega)) rfl rfl ?_
      exact zR_to 106 rfl (zR_e rfl rfl rfl rfl rfl rfl)
    refine zR_to 91 (st' := [.long ((lN n).toUInt64 >>> ((nI 60).toInt64.toUInt64 &&& Int64.toUInt64 63)).toInt64, .ref 10]) rfl ?_
    rw [wb_shr hn (show 60 < 64 by decide)]
    refine zR_to 93 (st' := [.int (lg_cmp (lN (n / 2 ^ 60)) (lN 1)), .ref 10]) rfl ?_
    refine zR_m 1 rfl ?_
    refine zR_if (fun h => ?_) (fun h => ?_)
    · exact zR_to 101 rfl (fin false (decide_eq_false (fun h8 => h ((lg_cmp_eq _ _).mpr (by rw [h8])))) _)
    · exact zR_to 101 rfl (fin true (decide_eq_true ((pk_lEQ hsl (by decide)).mp ((lg_cmp_eq _ _).mp (Decidable.of_not_not h)))) _)
set_option maxRecDepth 10000 in
theorem c_Fo_decode {fm : Nat} {z : Int64} (hfm : fm < 4) : zE L xs (d + 3) m_Fo_decode [.ref 15, .long z, .int (nI fm), .ref 10] (sH f g sg A W x y Mc T) (.inl (some (.int (ldR fm z).2))) (sH f g sg A (fu W 10 (ldR fm z).1) x y Mc T) := by
  have h10 : RP 10 := Or.inl ⟨by decide, by decide⟩
  unfold ldR
  obtain rfl | rfl | rfl | rfl : fm = 0 ∨ fm = 1 ∨ fm = 2 ∨ fm = 3 := by omega
  · rw [if_pos rfl]
    have hl := wM_l z
    have hlt := wM_lt z
    have two : ∀ b : Bool, decide (z < 0) = b → zR L xs (d + 3) m_Fo_decode 41 [(0, .ref 15), (1, .long z), (3, .int (nI 0)), (4, .ref 10)] [.int (bI b), .ref 10] (sH f g sg A W x y Mc T) 0 (.inl (some (.int 0))) (sH f g sg A (fu W 10 (rdW z)) x y Mc T) 0 := by
      intro b hb
      unfold rdW
      rw [hb]
      have fin : ∀ v : Int64, v = lN (wM z) → zR L xs (d + 3) m_Fo_decode 53 [(0, .ref 15), (1, .long z), (3, .int (nI 0)), (4, .ref 10)] [.long v, .int (bI b), .ref 10] (sH f g sg A W x y Mc T) 0 (.inl (some (.int 0))) (sH f g sg A (fu W 10 (exV b (wM z))) x y Mc T) 0 := by
        intro v hv
        rw [hv]
        refine zR_v rfl rfl rfl rfl rfl ⟨rfl, Nat.le_of_ble_eq_true rfl, Nat.le_of_ble_eq_true rfl⟩ rfl (Nat.le_refl _) (c_Re_becomeWhole h10 hlt) rfl rfl ?_
        exact zR_to 57 rfl (zR_e rfl rfl rfl rfl rfl rfl)
      refine zR_to 44 (st' := [.int (lg_cmp z 0), .int (bI b), .ref 10]) rfl ?_
      refine zR_m 1 rfl ?_
      refine zR_if (fun h => ?_) (fun h => ?_)
      · rw [if_neg (fun h9 => lg_lt_not_le h9 ((lg_cmp_ge _ _).mp h))] at hl
        exact zR_to 53 rfl (fin _ hl)
      · rw [if_pos (show z < 0 by
          rcases lg_tri z 0 with h9 | h9 | h9
          · exact h9
          · exact absurd ((lg_cmp_ge _ _).mpr (by rw [h9]; exact Int64.le_refl _)) h
          · exact absurd ((lg_cmp_ge _ _).mpr (Int64.le_of_lt h9)) h)] at hl
        exact zR_to 53 rfl (fin _ hl)
    refine ⟨0, Nat.zero_le _, ?_⟩
    refine zR_to 33 (st' := [.int (lg_cmp z 0), .ref 10]) rfl ?_
    refine zR_m 1 rfl ?_
    refine zR_if (fun h => ?_) (fun h => ?_)
    · exact zR_to 41 rfl (two false (decide_eq_false (fun h9 => lg_lt_not_le h9 ((lg_cmp_ge _ _).mp h))))
    · exact zR_to 41 rfl (two true (decide_eq_true (by
        rcases lg_tri z 0 with h9 | h9 | h9
        · exact h9
        · exact absurd ((lg_cmp_ge _ _).mpr (by rw [h9]; exact Int64.le_refl _)) h
        · exact absurd ((lg_cmp_ge _ _).mpr (Int64.le_of_lt h9)) h)))
  · rw [if_neg (by decide), if_pos rfl]
    have h9 := c_Fo_decodeBinary (L := L) (xs := xs) (d := d + 1) (f := f) (g := g) (sg := sg) (A := A) (W := W) (x := x) (y := y) (Mc := Mc) (T := T) (n := uN z) (Or.inl ⟨rfl, rfl⟩) (uN_lt2 z)
    rw [lN_uN] at h9
    refine ⟨0, Nat.zero_le _, ?_⟩
    refine zR_to 65 (st' := [.ref 10, .int (nI 52), .int (nI 11), .long z]) rfl ?_
    refine zR_i rfl rfl rfl rfl ⟨Nat.le_of_ble_eq_true rfl, Nat.le_of_ble_eq_true rfl, Nat.le_of_ble_eq_true rfl⟩ rfl (Nat.le_refl _) h9 rfl rfl ?_
    exact zR_to 69 rfl (zR_e rfl rfl rfl rfl rfl rfl)
  · rw [if_neg (by decide), if_neg (by decide), if_pos rfl]
    have h9 := c_Fo_decodeBinary (L := L) (xs := xs) (d := d + 1) (f := f) (g := g) (sg := sg) (A := A) (W := W) (x := x) (y := y) (Mc := Mc) (T := T) (n := uN z) (Or.inr ⟨rfl, rfl⟩) (uN_lt2 z)
    rw [lN_uN] at h9
    refine ⟨0, Nat.zero_le _, ?_⟩
    refine zR_to 77 (st' := [.ref 10, .int (nI 23), .int (nI 8), .long z]) rfl ?_
    refine zR_i rfl rfl rfl rfl ⟨Nat.le_of_ble_eq_true rfl, Nat.le_of_ble_eq_true rfl, Nat.le_of_ble_eq_true rfl⟩ rfl (Nat.le_refl _) h9 rfl rfl ?_
    exact zR_to 81 rfl (zR_e rfl rfl rfl rfl rfl rfl)
  · rw [if_neg (by decide), if_neg (by decide), if_neg (by decide)]
    have h9 := c_Fo_decodeDecimal (L := L) (xs := xs) (d := d) (f := f) (g := g) (sg := sg) (A := A) (W := W) (x := x) (y := y) (Mc := Mc) (T := T) (n := uN z) (uN_lt2 z)
    generalize rdD (uN z) = r at *
    rw [lN_uN] at h9
    refine ⟨0, Nat.zero_le _, ?_⟩
    refine zR_to 85 (st' := [.ref 10, .long z]) rfl ?_
    refine zR_i rfl rfl rfl rfl ⟨Nat.le_of_ble_eq_true rfl, Nat.le_of_ble_eq_true rfl, Nat.le_of_ble_eq_true rfl⟩ rfl (Nat.le_refl _) h9 rfl rfl ?_
    exact zR_e rfl rfl rfl rfl rfl rfl
end DE
