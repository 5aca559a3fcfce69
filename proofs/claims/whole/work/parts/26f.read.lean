/-! readWhole, readReal of the reference -/
def wM (z : Int64) : Nat := z.toInt.natAbs
theorem wM_lt (z : Int64) : wM z < 2 ^ 64 := by
  have h1 := Int64.le_toInt z
  have h2 := Int64.toInt_lt z
  unfold wM
  omega
theorem wM_l (z : Int64) : (if z < 0 then -z else z) = lN (wM z) := by
  have hl : ∀ n : Nat, Int64.ofInt (n : Int) = lN n := fun n => Int64.ofInt_eq_ofNat
  unfold wM
  split
  · rename_i h
    have h9 : z.toInt < 0 := by
      have := Int64.lt_iff_toInt_lt.mp h
      exact this
    rw [← hl, show ((z.toInt.natAbs : Nat) : Int) = -z.toInt by omega, Int64.ofInt_neg, Int64.ofInt_toInt]
  · rename_i h
    have h9 : ¬ z.toInt < 0 := fun h8 => h (Int64.lt_iff_toInt_lt.mpr h8)
    rw [← hl, show ((z.toInt.natAbs : Nat) : Int) = z.toInt by omega, Int64.ofInt_toInt]
def rdW (z : Int64) : RV := exV (decide (z < 0)) (wM z)
/-- a binary form with fd bits of exponent, fr bits of fraction -/
def rdE (fd fr n : Nat) : Nat := n / 2 ^ fr % 2 ^ fd
def rdR (fd fr n : Nat) : RV := if rdE fd fr n = 0 then (0, decide (n / 2 ^ (fd + fr) % 2 = 1), 0, 0)
  else if rdE fd fr n < 2 ^ fd - 1 then (1, decide (n / 2 ^ (fd + fr) % 2 = 1), nI (rdE fd fr n) - nI (2 ^ (fd - 1) - 1), lN ((2 ^ fr + n % 2 ^ fr) * 2 ^ (63 - fr)))
  else if n % 2 ^ fr = 0 then (2, decide (n / 2 ^ (fd + fr) % 2 = 1), 0, 0) else vNan
section RD
variable {L : Nat} {xs : Nat → Int32} {d : Nat} {C : Nat → zC} {u : zC} {a : Nat → Int32} {b : Nat → Int64} {M : Nat → Int64} {R : Nat → Nat} {V : Nat → RV}
set_option maxRecDepth 10000 in
theorem e_Mo_readWhole {z : Int64} (hR : Rok R) : zEr L xs (d + 4) m_Mo_readWhole [.ref 20, .long z] (mV C u a b V M R) (.inl none) C u a b (fu V 10 (rdW z)) M := by
  have hl := wM_l z
  have hlt := wM_lt z
  have hR1 : Rok (fu R 0 (wM z)) := hR.fu (Nat.lt_of_lt_of_le hlt (by rw [B2]; exact Nat.pow_le_pow_right (by decide) (by decide)))
  obtain ⟨R', hR', hex⟩ := e_Mo_exactly (L := L) (xs := xs) (d := d) (C := C) (u := u) (a := a) (b := b) (V := V) (M := M) (R := fu R 0 (wM z)) (N := wM z) (mb := decide (z < 0)) (Nat.le_trans (nb_bd hlt) (by decide)) hR1 fu_s
  refine ⟨R', hR', 0, Nat.zero_le _, ?_⟩
  have two : ∀ (v : Int64), v = lN (wM z) → zR L xs (d + 4) m_Mo_readWhole 14 [(0, .ref 20), (1, .long z)] [.long v, .int (nI 0), .ref 20] (mV C u a b V M R) 0 (.inl none) (mV C u a b (fu V 10 (rdW z)) M R') 0 := by
    intro v hv
    rw [hv]
    refine zR_v rfl rfl rfl rfl rfl ⟨rfl, Nat.le_of_ble_eq_true rfl, Nat.le_of_ble_eq_true rfl⟩ rfl (Nat.le_refl _) (e_Mo_put (r := 0) (n := wM z) (by decide) hlt hR) rfl rfl ?_
    refine zR_to 21 (st' := [.int (lg_cmp z 0), .ref 20]) rfl ?_
    refine zR_m 1 rfl ?_
    refine zR_if (fun h => ?_) (fun h => ?_)
    · have h0 : decide (z < 0) = false := decide_eq_false (fun h9 => lg_lt_not_le h9 ((lg_cmp_ge _ _).mp h))
      rw [h0] at hex
      refine zR_to 29 (st' := [.int (bI false), .ref 20]) rfl ?_
      refine zR_v rfl rfl rfl rfl rfl ⟨rfl, Nat.le_of_ble_eq_true rfl, Nat.le_of_ble_eq_true rfl⟩ rfl (Nat.le_refl _) hex rfl rfl ?_
      refine zR_e rfl rfl rfl rfl rfl ?_
      unfold rdW
      rw [h0]
    · have h0 : decide (z < 0) = true := decide_eq_true (by
        rcases lg_tri z 0 with h9 | h9 | h9
        · exact h9
        · exact absurd ((lg_cmp_ge _ _).mpr (by rw [h9]; exact Int64.le_refl _)) h
        · exact absurd ((lg_cmp_ge _ _).mpr (Int64.le_of_lt h9)) h)
      rw [h0] at hex
      refine zR_to 29 (st' := [.int (bI true), .ref 20]) rfl ?_
      refine zR_v rfl rfl rfl rfl rfl ⟨rfl, Nat.le_of_ble_eq_true rfl, Nat.le_of_ble_eq_true rfl⟩ rfl (Nat.le_refl _) hex rfl rfl ?_
      refine zR_e rfl rfl rfl rfl rfl ?_
      unfold rdW
      rw [h0]
  refine zR_to 5 (st' := [.int (lg_cmp z 0), .int (nI 0), .ref 20]) rfl ?_
  refine zR_m 1 rfl ?_
  refine zR_if (fun h => ?_) (fun h => ?_)
  · rw [if_neg (fun h9 => lg_lt_not_le h9 ((lg_cmp_ge _ _).mp h))] at hl
    exact zR_to 14 rfl (two _ hl)
  · rw [if_pos (show z < 0 by
      rcases lg_tri z 0 with h9 | h9 | h9
      · exact h9
      · exact absurd ((lg_cmp_ge _ _).mpr (by rw [h9]; exact Int64.le_refl _)) h
      · exact absurd ((lg_cmp_ge _ _).mpr (Int64.le_of_lt h9)) h)] at hl
    exact zR_to 14 rfl (two _ hl)
/-- the two binary forms -/
def fOk (fd fr : Nat) : Prop := (fd = 11 ∧ fr = 52) ∨ (fd = 8 ∧ fr = 23)
theorem fOk_most {fd fr : Nat} (h : fOk fd fr) : (1 : Int32) <<< (nI fd &&& 31) - 1 = nI (2 ^ fd - 1) ∧ (nI (2 ^ fd - 1) - 1) / (2 : Int32) = nI (2 ^ (fd - 1) - 1) := by
  rcases h with ⟨rfl, rfl⟩ | ⟨rfl, rfl⟩ <;> exact ⟨by decide +kernel, by decide +kernel⟩
set_option maxRecDepth 10000 in
set_option maxHeartbeats 4000000 in
theorem e_Mo_readReal {fd fr n : Nat} (hf : fOk fd fr) (hn : n < 2 ^ 64) : zE L xs (d + 1) m_Mo_readReal [.ref 20, .long (lN n), .int (nI fd), .int (nI fr)] (mV C u a b V M R) (.inl none) (mV C u a b (fu V 10 (rdR fd fr n)) M R) := by
  obtain ⟨hm1, hm2⟩ := fOk_most hf
  have hfd : fd ≤ 11 ∧ fr ≤ 52 ∧ 1 ≤ fd ∧ 1 ≤ fr := by rcases hf with ⟨rfl, rfl⟩ | ⟨rfl, rfl⟩ <;> decide
  have hmlt : 2 ^ fd - 1 < 2 ^ 31 := by
    have : 2 ^ fd ≤ 2 ^ 11 := Nat.pow_le_pow_right (by decide) hfd.1
    omega
  have hE : rdE fd fr n < 2 ^ 31 := by
    have h1 : rdE fd fr n < 2 ^ fd := Nat.mod_lt _ (Nat.pow_pos (by decide))
    have : 2 ^ fd ≤ 2 ^ 11 := Nat.pow_le_pow_right (by decide) hfd.1
    omega
  have hF : n % 2 ^ fr < 2 ^ fr := Nat.mod_lt _ (Nat.pow_pos (by decide))
  have hfr : 2 ^ fr ≤ 2 ^ 52 := Nat.pow_le_pow_right (by decide) hfd.2.1
  have hF63 : n % 2 ^ fr < 2 ^ 63 := by omega
  have hor : lN (1 * 2 ^ fr) ||| lN (n % 2 ^ fr) = lN (2 ^ fr + n % 2 ^ fr) := by
    rw [g_or (k := fr) rfl hF (by omega), Nat.one_mul]
  -- from the two numbers on
  have go : ∀ mb : Bool, decide (n / 2 ^ (fd + fr) % 2 = 1) = mb → zR L xs (d + 1) m_Mo_readReal 48 [(8, .long (lN (n % 2 ^ fr))), (7, .int (nI (rdE fd fr n))), (6, .int (nI (2 ^ fd - 1))), (5, .int (bI mb)), (0, .ref 20), (4, .int (nI fr))] [] (mV C u a b V M R) 0 (.inl none) (mV C u a b (fu V 10 (rdR fd fr n)) M R) 0 := by
    intro mb hmb
    unfold rdR
    rw [hmb]
    refine zR_to 51 (st' := [.int (nI (rdE fd fr n)), .ref 20]) rfl ?_
    refine zR_m 1 rfl ?_
    refine zR_if (fun h => ?_) (fun h => ?_)
    · have h0 : rdE fd fr n ≠ 0 := fun h9 => h (by rw [h9]; rfl)
      rw [if_neg h0]
      refine zR_to 62 (st' := [.int (nI (2 ^ fd - 1)), .int (nI (rdE fd fr n)), .ref 20]) rfl ?_
      refine zR_m 1 rfl ?_
      refine zR_if (fun h1 => ?_) (fun h1 => ?_)
      · rw [if_neg (show ¬ rdE fd fr n < 2 ^ fd - 1 from fun h9 => by have := (nI_leI (by omega) (by omega)).mp h1; omega)]
        refine zR_to 73 (st' := [.int (lg_cmp (lN (n % 2 ^ fr)) 0), .ref 20]) rfl ?_
        refine zR_m 1 rfl ?_
        refine zR_if (fun h2 => ?_) (fun h2 => ?_)
        · rw [if_neg (show ¬ n % 2 ^ fr = 0 from fun h9 => h2 ((lg_cmp_eq _ _).mpr (by rw [h9]; rfl)))]
          refine zR_to 83 (st' := [.int (bI mb), .int 3, .ref 20]) rfl ?_
          refine zR_v rfl rfl rfl rfl rfl ⟨rfl, Nat.le_of_ble_eq_true rfl, Nat.le_of_ble_eq_true rfl⟩ rfl (Nat.le_refl _) e_Mo_special rfl rfl ?_
          refine zR_to 97 rfl ?_
          exact zR_e rfl rfl rfl rfl rfl rfl
        · rw [if_pos (show n % 2 ^ fr = 0 from (pk_lEQ hF63 (by decide)).mp ((lg_cmp_eq _ _).mp (Decidable.of_not_not h2)))]
          refine zR_to 83 (st' := [.int (bI mb), .int 2, .ref 20]) rfl ?_
          refine zR_v rfl rfl rfl rfl rfl ⟨rfl, Nat.le_of_ble_eq_true rfl, Nat.le_of_ble_eq_true rfl⟩ rfl (Nat.le_refl _) e_Mo_special rfl rfl ?_
          refine zR_to 97 rfl ?_
          exact zR_e rfl rfl rfl rfl rfl rfl
      · rw [if_pos (show rdE fd fr n < 2 ^ fd - 1 by
          rcases Nat.lt_or_ge (rdE fd fr n) (2 ^ fd - 1) with h9 | h9
          · exact h9
          · exact absurd ((nI_leI (by omega) (by omega)).mpr h9) h1)]
        refine zR_to 83 (st' := [.int (bI mb), .int 1, .ref 20]) rfl ?_
        refine zR_v rfl rfl rfl rfl rfl ⟨rfl, Nat.le_of_ble_eq_true rfl, Nat.le_of_ble_eq_true rfl⟩ rfl (Nat.le_refl _) e_Mo_special rfl rfl ?_
        refine zR_to 112 (st' := [.int ((nI (2 ^ fd - 1) - 1) / 2), .int (nI (rdE fd fr n)), .int (nI 10), .ref 23]) rfl ?_
        rw [hm2]
        refine zR_to 113 (st' := [.int (nI (rdE fd fr n) - nI (2 ^ (fd - 1) - 1)), .int (nI 10), .ref 23]) rfl ?_
        refine zX_put (n := 10) rfl rfl (by decide) rfl ?_
        refine zR_to 123 (st' := [.int (nI fr), .long (lN 1), .int (nI 10), .ref 24]) rfl ?_
        refine zR_to 124 (st' := [.long (lN 1 <<< ((nI fr).toInt64 &&& 63)), .int (nI 10), .ref 24]) rfl ?_
        rw [wb_shl 1 (show fr < 64 by omega)]
        refine zR_to 127 (st' := [.long (lN (1 * 2 ^ fr) ||| lN (n % 2 ^ fr)), .int (nI 10), .ref 24]) rfl ?_
        rw [hor]
        refine zR_to 132 (st' := [.int (nI 63 - nI fr), .long (lN (2 ^ fr + n % 2 ^ fr)), .int (nI 10), .ref 24]) rfl ?_
        rw [pk_sub (show fr ≤ 63 by omega)]
        refine zR_to 133 (st' := [.long (lN (2 ^ fr + n % 2 ^ fr) <<< ((nI (63 - fr)).toInt64 &&& 63)), .int (nI 10), .ref 24]) rfl ?_
        rw [wb_shl _ (show 63 - fr < 64 by omega)]
        refine zS_put (n := 10) rfl rfl (by decide) rfl ?_
        refine zR_e rfl rfl rfl rfl rfl ?_
        have h9 := mV_fu (C := C) (u := u) (a := a) (b := b) (V := fu V 10 (1, decide ((1 : Int32) ≠ 3) && mb, 0, 0)) (M := M) (R := R) (n := 10) (k9 := 1) (b9 := mb) (e9 := nI (rdE fd fr n) - nI (2 ^ (fd - 1) - 1)) (s9 := lN ((2 ^ fr + n % 2 ^ fr) * 2 ^ (63 - fr)))
        rw [fu_self (f := fun i => (fu V 10 (1, decide ((1 : Int32) ≠ 3) && mb, 0, 0) i).1) (k := 10) (x := 1) rfl, fu_self (f := fun i => (fu V 10 (1, decide ((1 : Int32) ≠ 3) && mb, 0, 0) i).2.1) (k := 10) (x := mb) rfl, fu_fu] at h9
        exact h9
    · have h0 : rdE fd fr n = 0 := by
        rcases Nat.eq_zero_or_pos (rdE fd fr n) with h9 | h9
        · exact h9
        · exact absurd (nI_ne0 h9 hE) h
      rw [if_pos h0]
      refine zR_to 83 (st' := [.int (bI mb), .int 0, .ref 20]) rfl ?_
      refine zR_v rfl rfl rfl rfl rfl ⟨rfl, Nat.le_of_ble_eq_true rfl, Nat.le_of_ble_eq_true rfl⟩ rfl (Nat.le_refl _) e_Mo_special rfl rfl ?_
      refine zR_to 97 rfl ?_
      exact zR_e rfl rfl rfl rfl rfl rfl
  have mid : ∀ mb : Bool, decide (n / 2 ^ (fd + fr) % 2 = 1) = mb → zR L xs (d + 1) m_Mo_readReal 20 [(5, .int (bI mb)), (0, .ref 20), (1, .long (lN n)), (3, .int (nI fd)), (4, .int (nI fr))] [] (mV C u a b V M R) 0 (.inl none) (mV C u a b (fu V 10 (rdR fd fr n)) M R) 0 := by
    intro mb hmb
    refine zR_to 25 (st' := [.int ((1 : Int32) <<< (nI fd &&& 31) - 1)]) rfl ?_
    rw [hm1]
    refine zR_to 33 (st' := [.int (nI (2 ^ fd - 1)), .long ((lN n).toUInt64 >>> ((nI fr).toInt64.toUInt64 &&& Int64.toUInt64 63)).toInt64]) rfl ?_
    rw [wb_shr hn (show fr < 64 by omega)]
    refine zR_to 34 (st' := [.long (nI (2 ^ fd - 1)).toInt64, .long (lN (n / 2 ^ fr))]) rfl ?_
    rw [nI_l hmlt]
    refine zR_to 35 (st' := [.long (lN (n / 2 ^ fr) &&& lN (2 ^ fd - 1))]) rfl ?_
    rw [wb_mask (Nat.lt_of_le_of_lt (Nat.div_le_self _ _) hn) (show fd < 64 by omega)]
    refine zR_to 36 (st' := [.int (lN (n / 2 ^ fr % 2 ^ fd)).toInt32]) rfl ?_
    rw [lN_i]
    refine zR_to 43 (st' := [.long (lN 1 <<< ((nI fr).toInt64 &&& 63)), .long (lN n)]) rfl ?_
    rw [wb_shl 1 (show fr < 64 by omega)]
    refine zR_to 45 (st' := [.long (lN (1 * 2 ^ fr) - lN 1), .long (lN n)]) rfl ?_
    rw [lN_sub (by have := Nat.pow_pos (n := fr) (show 0 < 2 by decide); omega), Nat.one_mul]
    refine zR_to 46 (st' := [.long (lN n &&& lN (2 ^ fr - 1))]) rfl ?_
    rw [wb_mask hn (show fr < 64 by omega)]
    refine zR_to 48 rfl ?_
    exact zR_w (go mb hmb) rfl rfl ⟨rfl, rfl, rfl, rfl, rfl, rfl, trivial⟩
  refine ⟨0, Nat.zero_le _, ?_⟩
  refine zR_to 5 (st' := [.int (nI fd + nI fr), .long (lN n)]) rfl ?_
  rw [nI_add]
  refine zR_to 8 (st' := [.long (((lN n).toUInt64 >>> ((nI (fd + fr)).toInt64.toUInt64 &&& Int64.toUInt64 63)).toInt64 &&& 1)]) rfl ?_
  rw [wb_bit hn (show fd + fr < 64 by omega)]
  refine zR_to 10 (st' := [.int (lg_cmp (lN (n / 2 ^ (fd + fr) % 2)) (lN 1))]) rfl ?_
  refine zR_m 1 rfl ?_
  have hb2 : n / 2 ^ (fd + fr) % 2 < 2 ^ 63 := by omega
  refine zR_if (fun h => ?_) (fun h => ?_)
  · exact zR_to 20 rfl (mid false (decide_eq_false (fun h9 => h ((lg_cmp_eq _ _).mpr (by rw [h9])))))
  · exact zR_to 20 rfl (mid true (decide_eq_true ((pk_lEQ hb2 (by decide)).mp ((lg_cmp_eq _ _).mp (Decidable.of_not_not h)))))
end RD
