/-! becomeSum and add of the class -/
def dst (x y : RV) : Nat := (zr x - zr y).toNat
/-- larger and smaller put together -/
def cbX (x y : RV) : XV := if rn x = rn y then pnX (rn x) (zr x) (rs x + rs y / 2 ^ dst x y) (lowP (rs y) (dst x y)) else nmX (rn x) (zr x) (rs x * 2 ^ 64 - (rs y / 2 ^ dst x y * 2 ^ 64 + lowP (rs y) (dst x y)))
theorem lowP_lt {s D : Nat} (hs : s < 2 ^ 64) (h2 : 2 ^ 63 ≤ s) : lowP s D < 2 ^ 64 := by
  rcases Nat.lt_or_ge 64 D with hD | hD
  · have := low_d hs h2 (show 65 ≤ D by omega)
    omega
  · unfold lowP
    split
    · decide
    · exact Nat.mod_lt _ (by decide)
section SM
variable {L : Nat} {xs : Nat → Int32} {d : Nat} {h : zH} {f : Nat → Int32} {g : Nat → Int64} {sg : Bool} {A : Nat → Option Nat} {W : Nat → RV} {x y : XV} {Mc : Nat → Int64} {T : List zC}
set_option maxRecDepth 10000 in
theorem c_Ex_lowerPart {s D : Nat} (hs : s < 2 ^ 64) (hD : D ≤ 40000) : zE L xs d m_Ex_lowerPart [.long (lN s), .int (nI D)] h (.inl (some (.long (lN (lowP s D))))) h := by
  refine ⟨0, Nat.zero_le _, ?_⟩
  unfold lowP
  refine zR_n 1 rfl ?_
  refine zR_n 1 rfl ?_
  refine zR_if (fun h0 => ?_) (fun h0 => ?_)
  · have hne : ¬ D = 0 := fun h9 => h0 (by rw [h9]; rfl)
    rw [if_neg hne]
    refine zR_n 2 rfl ?_
    refine zR_n 1 rfl ?_
    refine zR_if (fun h1 => ?_) (fun h1 => ?_)
    · have h64 : 64 < D := (nI_ltI (a := 64) (b := D) (by omega) (by omega)).mp h1
      rw [if_neg (show ¬ D ≤ 64 by omega)]
      refine zR_n 2 rfl ?_
      refine zR_n 1 rfl ?_
      refine zR_if (fun h2 => ?_) (fun h2 => ?_)
      · have h128 : D < 128 := (nI_ltI (a := D) (b := 128) (by omega) (by omega)).mp h2
        rw [if_neg (show ¬ 128 ≤ D by omega)]
        refine zR_to 34 (st' := [.int (nI 128 - nI D), .long (lN s)]) rfl ?_
        rw [pk_sub (show D ≤ 128 by omega)]
        refine zR_to 35 (st' := [.long (lN s <<< ((nI (128 - D)).toInt64 &&& 63))]) rfl ?_
        rw [wb_shl _ (show 128 - D < 64 by omega)]
        refine zR_to 41 (st' := [.int (nI D - nI 64), .long (lN s)]) rfl ?_
        rw [pk_sub (show 64 ≤ D by omega)]
        refine zR_to 42 (st' := [.long ((lN s).toUInt64 >>> ((nI (D - 64)).toInt64.toUInt64 &&& Int64.toUInt64 63)).toInt64]) rfl ?_
        rw [wb_shr hs (show D - 64 < 64 by omega)]
        have hq : s / 2 ^ (D - 64) < 2 ^ 64 := Nat.lt_of_le_of_lt (Nat.div_le_self _ _) hs
        refine zR_to 45 (st' := [.int (lg_cmp (lN (s * 2 ^ (128 - D))) 0), .long (lN (s / 2 ^ (D - 64)))]) rfl ?_
        refine zR_m 1 rfl ?_
        refine zR_if (fun h3 => ?_) (fun h3 => ?_)
        · rw [if_pos (lN_z.mp ((lg_cmp_eq _ _).mp h3))]
          refine zR_to 55 (st' := [.long (lN (s / 2 ^ (D - 64)) ||| lN 0)]) rfl ?_
          rw [wb_or hq (by decide)]
          exact zR_e rfl rfl rfl rfl rfl rfl
        · rw [if_neg (fun h9 => h3 ((lg_cmp_eq _ _).mpr (lN_z.mpr h9)))]
          refine zR_to 55 (st' := [.long (lN (s / 2 ^ (D - 64)) ||| lN 1)]) rfl ?_
          rw [wb_or hq (by decide)]
          exact zR_e rfl rfl rfl rfl rfl rfl
      · have h128 : 128 ≤ D := by
          rcases Nat.lt_or_ge D 128 with h9 | h9
          · exact absurd ((nI_ltI (by omega) (by omega)).mpr h9) h2
          · exact h9
        rw [if_pos h128]
        refine zR_to 27 (st' := [.long (lN 1)]) rfl ?_
        exact zR_e rfl rfl rfl rfl rfl rfl
    · have h64 : D ≤ 64 := by
        rcases Nat.lt_or_ge 64 D with h9 | h9
        · exact absurd ((nI_ltI (by omega) (by omega)).mpr h9) h1
        · exact h9
      rw [if_pos h64]
      refine zR_to 17 (st' := [.int (nI 64 - nI D), .long (lN s)]) rfl ?_
      rw [pk_sub h64]
      refine zR_to 18 (st' := [.long (lN s <<< ((nI (64 - D)).toInt64 &&& 63))]) rfl ?_
      rw [wb_shl _ (show 64 - D < 64 by omega), wb_mod (s * 2 ^ (64 - D))]
      exact zR_e rfl rfl rfl rfl rfl rfl
  · have h9 : D = 0 := by
      rcases Nat.eq_zero_or_pos D with h9 | h9
      · exact h9
      · exact absurd (nI_ne0 h9 (by omega)) h0
    rw [if_pos h9]
    refine zR_to 5 (st' := [.long (lN 0)]) rfl ?_
    exact zR_e rfl rfl rfl rfl rfl rfl
/-- the fields of an exact number written -/
theorem zX_e {mi : ZM} {pc pc' n : Nat} {lv : zL} {r : List Value} {k k' : Nat} {o : zO} {h' : zH} {v : Int32} (hf : zfetch mi pc = some (.putfield n, 3)) (hx : zFld (zCno mi) n = some (2, 1)) (hp : pc + 3 = pc') (hR : zR L xs d mi pc' lv r (sH f g sg A W (x.1, v, x.2.2) y Mc T) k o h' k') : zR L xs d mi pc lv (.int v :: .ref 14 :: r) (sH f g sg A W x y Mc T) k o h' k' :=
  zR_p (q := 14) (fs := [.int (bI x.1), .int x.2.1, .long x.2.2.1, .long x.2.2.2]) (fs' := [.int (bI x.1), .int v, .long x.2.2.1, .long x.2.2.2]) hf hx rfl (Nat.le_of_ble_eq_true rfl) rfl rfl hp hR
theorem zX_h {mi : ZM} {pc pc' n : Nat} {lv : zL} {r : List Value} {k k' : Nat} {o : zO} {h' : zH} {v : Int64} (hf : zfetch mi pc = some (.putfield n, 3)) (hx : zFld (zCno mi) n = some (2, 2)) (hp : pc + 3 = pc') (hR : zR L xs d mi pc' lv r (sH f g sg A W (x.1, x.2.1, v, x.2.2.2) y Mc T) k o h' k') : zR L xs d mi pc lv (.long v :: .ref 14 :: r) (sH f g sg A W x y Mc T) k o h' k' :=
  zR_p (q := 14) (fs := [.int (bI x.1), .int x.2.1, .long x.2.2.1, .long x.2.2.2]) (fs' := [.int (bI x.1), .int x.2.1, .long v, .long x.2.2.2]) hf hx rfl (Nat.le_of_ble_eq_true rfl) rfl rfl hp hR
theorem zX_l {mi : ZM} {pc pc' n : Nat} {lv : zL} {r : List Value} {k k' : Nat} {o : zO} {h' : zH} {v : Int64} (hf : zfetch mi pc = some (.putfield n, 3)) (hx : zFld (zCno mi) n = some (2, 3)) (hp : pc + 3 = pc') (hR : zR L xs d mi pc' lv r (sH f g sg A W (x.1, x.2.1, x.2.2.1, v) y Mc T) k o h' k') : zR L xs d mi pc lv (.long v :: .ref 14 :: r) (sH f g sg A W x y Mc T) k o h' k' :=
  zR_p (q := 14) (fs := [.int (bI x.1), .int x.2.1, .long x.2.2.1, .long x.2.2.2]) (fs' := [.int (bI x.1), .int x.2.1, .long x.2.2.1, .long v]) hf hx rfl (Nat.le_of_ble_eq_true rfl) rfl rfl hp hR
set_option maxRecDepth 10000 in
theorem c_Ex_putOn {H U Lo : Nat} {mb : Bool} {E : Int} {z : Int64} (h1 : H < 2 ^ 64) (h2 : U < 2 ^ 64) (h3 : Lo < 2 ^ 64) : zE L xs (d + 1) m_Ex_putOn [.ref 14, .long (lN U), .long (lN Lo)] (sH f g sg A W (mb, iZ E, lN H, z) y Mc T) (.inl none) (sH f g sg A W (pnX mb E (H + U) Lo) y Mc T) := by
  refine ⟨0, Nat.zero_le _, ?_⟩
  refine zR_to 6 (st' := [.long (lN H + lN U)]) rfl ?_
  rw [lN_add]
  refine zR_to 19 (st' := [.long (lN H), .long (lN (H + U))]) (h1 := sH f g sg A W (mb, iZ E, lN H, lN Lo) y Mc T) rfl ?_
  refine zR_i rfl rfl rfl rfl ⟨Nat.le_of_ble_eq_true rfl, Nat.le_of_ble_eq_true rfl, Nat.le_of_ble_eq_true rfl⟩ rfl (Nat.le_refl _) (c_SR_isBelow (u := lN (H + U)) (v := lN H)) rfl rfl ?_
  rw [wb_mod (H + U), uN_lN (Nat.mod_lt _ (by decide)), uN_lN h1]
  unfold pnX
  by_cases hc : H + U < 2 ^ 64
  · rw [if_pos hc, decide_eq_false (show ¬ (H + U) % 2 ^ 64 < H by omega), Nat.mod_eq_of_lt hc]
    refine zR_to 64 (h1 := sH f g sg A W (mb, iZ E, lN (H + U), lN Lo) y Mc T) rfl ?_
    exact zR_e rfl rfl rfl rfl rfl rfl
  · have hS1 : (H + U) % 2 ^ 64 < 2 ^ 64 := Nat.mod_lt _ (by decide)
    have hS2 : (H + U) % 2 ^ 64 + 2 ^ 64 = H + U := by omega
    rw [if_neg hc, decide_eq_true (show (H + U) % 2 ^ 64 < H by omega)]
    generalize (H + U) % 2 ^ 64 = S at *
    refine zR_to 31 (st' := [.long (lN S <<< ((nI 63).toInt64 &&& 63)), .ref 14]) rfl ?_
    rw [wb_shl _ (show 63 < 64 by decide), wb_mod (S * 2 ^ 63), show S * 2 ^ 63 % 2 ^ 64 = (H + U) % 2 * 2 ^ 63 by omega]
    refine zR_to 34 (st' := [.long ((lN Lo).toUInt64 >>> ((nI 1).toInt64.toUInt64 &&& Int64.toUInt64 63)).toInt64, .long (lN ((H + U) % 2 * 2 ^ 63)), .ref 14]) rfl ?_
    rw [wb_shr h3 (show 1 < 64 by decide), Nat.pow_one]
    refine zR_to 35 (st' := [.long (lN ((H + U) % 2 * 2 ^ 63) ||| lN (Lo / 2)), .ref 14]) rfl ?_
    rw [g_or (k := 63) rfl (by omega) (by omega)]
    generalize (H + U) % 2 * 2 ^ 63 + Lo / 2 = lo1 at *
    refine zX_l rfl rfl rfl ?_
    refine zR_to 42 (st' := [.long ((lN S).toUInt64 >>> ((nI 1).toInt64.toUInt64 &&& Int64.toUInt64 63)).toInt64]) rfl ?_
    rw [wb_shr hS1 (show 1 < 64 by decide), Nat.pow_one]
    refine zR_to 45 (st' := [.long (-9223372036854775808), .long (lN (S / 2))]) rfl ?_
    rw [show (-9223372036854775808 : Int64) = lN (1 * 2 ^ 63) from by decide +kernel]
    generalize hTP : lN (1 * 2 ^ 63) = tp
    refine zR_to 46 (st' := [.long (lN (S / 2) ||| tp)]) rfl ?_
    rw [← hTP, g_or' (k := 63) rfl (by omega) (by omega), show S / 2 + 1 * 2 ^ 63 = (H + U) / 2 by omega]
    refine zR_to 55 (st' := [.int (iZ E + iZ 1), .ref 14]) rfl ?_
    rw [iZ_add]
    refine zX_e rfl rfl rfl ?_
    refine zR_n 2 rfl ?_
    refine zX_h rfl rfl rfl ?_
    exact zR_e rfl rfl rfl rfl rfl rfl
set_option maxRecDepth 10000 in
theorem c_Ex_takeAway {H U Lo : Nat} {mb : Bool} {E : Int} {z : Int64} (h1 : H < 2 ^ 64) (h3 : Lo < 2 ^ 64) (hle : U * 2 ^ 64 + Lo ≤ H * 2 ^ 64) : zE L xs (d + 1) m_Ex_takeAway [.ref 14, .long (lN U), .long (lN Lo)] (sH f g sg A W (mb, iZ E, lN H, z) y Mc T) (.inl none) (sH f g sg A W (nmX mb E (H * 2 ^ 64 - (U * 2 ^ 64 + Lo))) y Mc T) := by
  have hU : U ≤ H := by omega
  have fin : ∀ (b H' : Nat), H' = H - U - b → H' * 2 ^ 64 + (2 ^ 64 - Lo) % 2 ^ 64 = H * 2 ^ 64 - (U * 2 ^ 64 + Lo) → zR L xs (d + 1) m_Ex_takeAway 20 [(0, .ref 14), (1, .long (lN U)), (3, .long (lN Lo))] [.long (lN H'), .ref 14] (sH f g sg A W (mb, iZ E, lN H, z) y Mc T) 0 (.inl none) (sH f g sg A W (nmX mb E (H * 2 ^ 64 - (U * 2 ^ 64 + Lo))) y Mc T) 0 := by
    intro b H' hH' hZ
    rw [← hZ]
    refine zR_to 26 (st' := [.long (- lN Lo), .ref 14]) (h1 := sH f g sg A W (mb, iZ E, lN H', z) y Mc T) rfl ?_
    rw [lN_mn (by omega), wb_mod (2 ^ 64 - Lo)]
    refine zR_to 30 (h1 := sH f g sg A W (mb, iZ E, lN H', lN ((2 ^ 64 - Lo) % 2 ^ 64)) y Mc T) rfl ?_
    refine zR_v rfl rfl rfl rfl rfl ⟨rfl, Nat.le_of_ble_eq_true rfl, Nat.le_of_ble_eq_true rfl⟩ rfl (Nat.le_refl _) (c_Ex_normalize (by omega) (Nat.mod_lt _ (by decide))) rfl rfl ?_
    exact zR_e rfl rfl rfl rfl rfl rfl
  refine ⟨0, Nat.zero_le _, ?_⟩
  refine zR_to 7 (st' := [.long (lN H - lN U), .ref 14]) rfl ?_
  rw [lN_sub hU]
  refine zR_to 10 (st' := [.int (lg_cmp (lN Lo) 0), .long (lN (H - U)), .ref 14]) rfl ?_
  refine zR_m 1 rfl ?_
  refine zR_if (fun h9 => ?_) (fun h9 => ?_)
  · have h0 : Lo = 0 := by
      have := lN_z.mp ((lg_cmp_eq _ _).mp h9)
      omega
    refine zR_to 20 (st' := [.long (lN (H - U) - lN 0), .ref 14]) rfl ?_
    rw [lN_sub (Nat.zero_le _)]
    exact fin 0 _ rfl (by rw [h0]; omega)
  · have h0 : Lo ≠ 0 := fun h8 => h9 ((lg_cmp_eq _ _).mpr (by rw [h8]; rfl))
    refine zR_to 20 (st' := [.long (lN (H - U) - lN 1), .ref 14]) rfl ?_
    rw [lN_sub (by omega)]
    exact fin 1 _ rfl (by omega)
set_option maxRecDepth 10000 in
theorem c_Ex_combine {q j : Nat} (hq : RP q) (hj : RP j) (f1 : 2 ^ 63 ≤ rs (W q)) (f2 : 2 ^ 63 ≤ rs (W j)) (hle : zr (W j) ≤ zr (W q)) (hr1 : zr (W q) ≤ 17000) (hr2 : -17000 ≤ zr (W j)) (h0 : zr (W q) = zr (W j) → rs (W j) ≤ rs (W q)) :
    zE L xs (d + 2) m_Ex_combine [.ref 14, .ref q, .ref j] (sH f g sg A W x y Mc T) (.inl none) (sH f g sg A W (cbX (W q) (W j)) y Mc T) := by
  have hs1 : rs (W q) < 2 ^ 64 := uN_lt2 _
  have hs2 : rs (W j) < 2 ^ 64 := uN_lt2 _
  have hD : dst (W q) (W j) ≤ 40000 := by unfold dst; omega
  have hDi : iZ (zr (W q)) - iZ (zr (W j)) = nI (dst (W q) (W j)) := by
    rw [iZ_sub, ← iZ_nat]
    congr 1
    unfold dst
    omega
  have hlo := lowP_lt (D := dst (W q) (W j)) hs2 f2
  obtain ⟨d1, -⟩ := sum_diff (D := dst (W q) (W j)) (e1 := zr (W q)) (mb := rn (W q)) f1 hs1 f2 hs2 (fun h9 => h0 (by unfold dst at h9; omega))
  unfold cbX
  generalize dst (W q) (W j) = D at *
  have hU : rs (W j) / 2 ^ D < 2 ^ 64 := Nat.lt_of_le_of_lt (Nat.div_le_self _ _) hs2
  -- from the upper part on
  have m31 : zR L xs (d + 2) m_Ex_combine 31 [(3, .int (nI D)), (0, .ref 14), (1, .ref q), (2, .ref j)] [.long (lN (rs (W j) / 2 ^ D))] (sH f g sg A W (rn (W q), re (W q), (W q).2.2.2, 0) y Mc T) 0 (.inl none) (sH f g sg A W (if rn (W q) = rn (W j) then pnX (rn (W q)) (zr (W q)) (rs (W q) + rs (W j) / 2 ^ D) (lowP (rs (W j)) D) else nmX (rn (W q)) (zr (W q)) (rs (W q) * 2 ^ 64 - (rs (W j) / 2 ^ D * 2 ^ 64 + lowP (rs (W j)) D))) y Mc T) 0 := by
    refine zR_to 34 rfl ?_
    refine zW_g hj rfl rfl rfl rfl rfl ?_
    refine zR_n 1 rfl ?_
    rw [← lN_uN (W j).2.2.2]
    refine zR_i rfl rfl rfl rfl ⟨Nat.le_of_ble_eq_true rfl, Nat.le_of_ble_eq_true rfl, Nat.le_of_ble_eq_true rfl⟩ rfl (Nat.le_refl _) (c_Ex_lowerPart (uN_lt2 (W j).2.2.2) hD) rfl rfl ?_
    refine zR_to 44 rfl ?_
    refine zW_g hq rfl rfl rfl rfl rfl ?_
    refine zR_n 1 rfl ?_
    refine zW_g hj rfl rfl rfl rfl rfl ?_
    refine zR_n 1 rfl ?_
    rw [re_zr (W q), ← lN_uN (W q).2.2.2]
    refine zR_if (fun h9 => ?_) (fun h9 => ?_)
    · rw [if_neg (fun h8 => h9 (bI_eq.mpr h8))]
      refine zR_to 70 (st' := [.long (lN (lowP (rs (W j)) D)), .long (lN (rs (W j) / 2 ^ D)), .ref 14]) rfl ?_
      refine zR_v rfl rfl rfl rfl rfl ⟨rfl, Nat.le_of_ble_eq_true rfl, Nat.le_of_ble_eq_true rfl⟩ rfl (Nat.le_refl _) (c_Ex_takeAway hs1 hlo d1) rfl rfl ?_
      exact zR_e rfl rfl rfl rfl rfl rfl
    · rw [if_pos (bI_eq.mp (Decidable.of_not_not h9))]
      refine zR_to 59 (st' := [.long (lN (lowP (rs (W j)) D)), .long (lN (rs (W j) / 2 ^ D)), .ref 14]) rfl ?_
      refine zR_v rfl rfl rfl rfl rfl ⟨rfl, Nat.le_of_ble_eq_true rfl, Nat.le_of_ble_eq_true rfl⟩ rfl (Nat.le_refl _) (c_Ex_putOn hs1 hU hlo) rfl rfl ?_
      exact zR_to 73 rfl (zR_e rfl rfl rfl rfl rfl rfl)
  refine ⟨0, Nat.zero_le _, ?_⟩
  refine zR_n 2 rfl ?_
  refine zR_v rfl rfl rfl rfl rfl ⟨rfl, Nat.le_of_ble_eq_true rfl, Nat.le_of_ble_eq_true rfl⟩ rfl (Nat.le_refl _) (c_Ex_copy14 hq) rfl rfl ?_
  refine zR_n 1 rfl ?_
  refine zW_g hq rfl rfl rfl rfl rfl ?_
  refine zR_n 1 rfl ?_
  refine zW_g hj rfl rfl rfl rfl rfl ?_
  refine zR_to 14 (st' := [.int (re (W q) - re (W j))]) rfl ?_
  rw [show re (W q) - re (W j) = nI D from by rw [re_zr (W q), re_zr (W j)]; exact hDi]
  refine zR_to 18 (st' := [.int (nI 64), .int (nI D)]) rfl ?_
  refine zR_m 1 rfl ?_
  refine zR_if (fun h9 => ?_) (fun h9 => ?_)
  · have h64 := (nI_leI (a := 64) (b := D) (by omega) (by omega)).mp h9
    have h00 : rs (W j) / 2 ^ D = 0 := Nat.div_eq_of_lt (Nat.lt_of_lt_of_le hs2 (Nat.pow_le_pow_right (by decide) h64))
    exact zR_to 31 (st' := [.long (lN (rs (W j) / 2 ^ D))]) (by rw [h00]; rfl) m31
  · have h64 : D < 64 := by
      rcases Nat.lt_or_ge D 64 with h8 | h8
      · exact h8
      · exact absurd ((nI_leI (by omega) (by omega)).mpr h8) h9
    refine zR_to 22 rfl ?_
    refine zW_g hj rfl rfl rfl rfl rfl ?_
    refine zR_n 1 rfl ?_
    rw [← lN_uN (W j).2.2.2]
    refine zR_to 27 (st' := [.long ((lN (uN (W j).2.2.2)).toUInt64 >>> ((nI D).toInt64.toUInt64 &&& Int64.toUInt64 63)).toInt64]) rfl ?_
    rw [wb_shr (uN_lt2 _) h64]
    exact zR_to 31 rfl m31
/-- which of two is taken as the larger -/
theorem cmM_fin {x y : RV} (hk : rk x = rk y) : (cmM x y < 0 ↔ zr x < zr y ∨ (zr x = zr y ∧ rs x < rs y)) := by
  have hx := iZ_rng (re x)
  have hy := iZ_rng (re y)
  have he : re x = re y ↔ zr x = zr y := by
    rw [re_zr x, re_zr y]
    exact iZ_eq hx hy
  have hl : re x < re y ↔ zr x < zr y := by
    rw [re_zr x, re_zr y]
    exact iZ_lt hx hy
  unfold cmM
  rw [if_pos hk]
  by_cases h1 : re x = re y
  · rw [if_pos h1]
    have h1' := he.mp h1
    by_cases h2 : x.2.2.2 = y.2.2.2
    · rw [if_pos h2]
      have h3 : rs x = rs y := by
        show uN _ = uN _
        rw [h2]
      constructor
      · intro h9
        exact absurd h9 (by decide)
      · intro h9
        omega
    · rw [if_neg h2]
      by_cases h3 : rs x < rs y
      · rw [if_pos h3]
        exact ⟨fun _ => Or.inr ⟨h1', h3⟩, fun _ => by decide⟩
      · rw [if_neg h3]
        constructor
        · intro h9
          exact absurd h9 (by decide)
        · intro h9
          omega
  · rw [if_neg h1]
    have h1' : ¬ zr x = zr y := fun h9 => h1 (he.mpr h9)
    by_cases h2 : re x < re y
    · rw [if_pos h2]
      exact ⟨fun _ => Or.inl (hl.mp h2), fun _ => by decide⟩
    · rw [if_neg h2]
      have h2' : ¬ zr x < zr y := fun h9 => h2 (hl.mpr h9)
      constructor
      · intro h9
        exact absurd h9 (by decide)
      · intro h9
        omega
end SM
