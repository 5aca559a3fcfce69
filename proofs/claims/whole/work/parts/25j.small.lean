section SM
variable {L : Nat} {xs : Nat → Int32} {d : Nat} {mi : ZM} {pc : Nat} {lv : zL} {st st' : List Value} {h' : zH} {k k' : Nat} {o : zO} {pc' : Nat}
variable {C : Nat → zC} {u : zC} {a : Nat → Int32} {b : Nat → Int64} {M : Nat → Int64} {R : Nat → Nat} {V : Nat → RV}
set_option maxRecDepth 10000 in
theorem e_Mo_integer {w : Nat} (hw : a 2 = nI w) (hw4 : w < 4) (hx : vOk (V 8)) (hR : Rok R) : zEr L xs (d + 4) m_Mo_integer [.ref 20] (mV C u a b V M R) (.inl none) C u (nt a (intR w (V 8)).2) b (fu V 10 (intR w (V 8)).1) M := by
  have go : ∀ {h9 : zH}, zR L xs (d + 4) m_Mo_integer 16 [(0, .ref 20)] [.int 1, .int (rk (V 8))] (mV C u a b (fu V 10 (V 8)) M R) 0 (.inl none) h9 0 → zE L xs (d + 4) m_Mo_integer [.ref 20] (mV C u a b V M R) (.inl none) h9 := fun {h9} hr => by
    refine ⟨0, Nat.zero_le _, ?_⟩
    refine zR_to 5 (st' := [.int (nI 10), .int (nI 8), .ref 20]) rfl ?_
    refine zR_v rfl rfl rfl rfl rfl ⟨rfl, Nat.le_of_ble_eq_true rfl, Nat.le_of_ble_eq_true rfl⟩ rfl (Nat.le_refl _) (e_Mo_copy (f := 8) (t := 10) (by decide) (by decide)) rfl rfl ?_
    exact zR_to 16 rfl hr
  unfold intR
  by_cases h : rk (V 8) = 1 ∧ zr (V 8) < 63
  · rw [if_pos h]
    obtain ⟨x1, x2, x3⟩ := hx.2.1 h.1
    obtain ⟨R1, hR1, c0, hwh⟩ := e_Mo_whole (L := L) (xs := xs) (d := d) (C := C) (u := u) (a := a) (b := b) (V := fu V 10 (V 8)) (M := M) (R := R) (w := w) hw hw4 (by show -17000 ≤ zr (V 8) ∧ zr (V 8) ≤ 70; omega) hR
    have hN : nb (whN w (rn (V 8)) (rs (V 8)) (zr (V 8))) ≤ 400 := by
      have h1 := hR1 0
      unfold whN
      rw [if_neg (by omega)]
      have hQ : rs (V 8) / 2 ^ whC (zr (V 8)) < 2 ^ 64 := Nat.lt_of_le_of_lt (Nat.div_le_self _ _) (uN_lt2 _)
      have hp : (2 : Nat) ^ 64 + 1 < 2 ^ 400 := by decide
      refine nb_bd ?_
      split <;> omega
    obtain ⟨R2, hR2, hex⟩ := e_Mo_exactly (L := L) (xs := xs) (d := d) (C := C) (u := u) (a := nt a (if whI (rs (V 8)) (zr (V 8)) then 16 else 0)) (b := b) (V := fu V 10 (V 8)) (M := M) (R := R1) (mb := rn (V 8)) hN hR1 c0
    refine ⟨R2, hR2, go ?_⟩
    rw [h.1]
    refine zR_to 28 (st' := [.int (iZ 63), .int (re (V 8))]) rfl ?_
    rw [re_zr (V 8)]
    refine zR_m 1 rfl ?_
    refine zR_if (fun _ => ?_) (fun h5 => absurd ((iZ_lt (by omega) (by omega)).mpr h.2) h5)
    refine zR_to 33 rfl ?_
    refine zR_v rfl rfl rfl rfl rfl ⟨rfl, Nat.le_of_ble_eq_true rfl, Nat.le_of_ble_eq_true rfl⟩ rfl (Nat.le_refl _) hwh rfl rfl ?_
    refine zR_to 44 (st' := [.int (bI (rn (V 8))), .ref 20]) rfl ?_
    refine zR_v rfl rfl rfl rfl rfl ⟨rfl, Nat.le_of_ble_eq_true rfl, Nat.le_of_ble_eq_true rfl⟩ rfl (Nat.le_refl _) hex rfl rfl ?_
    rw [fu_fu]
    exact zR_e rfl rfl rfl rfl rfl rfl
  · rw [if_neg h, nt_0]
    refine ⟨R, hR, go ?_⟩
    refine zR_m 1 rfl ?_
    refine zR_if (fun _ => zR_e rfl rfl rfl rfl rfl rfl) (fun h1 => ?_)
    have f8 : rk (V 8) = 1 := Decidable.of_not_not h1
    obtain ⟨x1, x2, x3⟩ := hx.2.1 f8
    refine zR_to 28 (st' := [.int (iZ 63), .int (re (V 8))]) rfl ?_
    rw [re_zr (V 8)]
    refine zR_m 1 rfl ?_
    refine zR_if (fun h5 => absurd ⟨f8, (iZ_lt (by omega) (by omega)).mp h5⟩ h) (fun _ => zR_e rfl rfl rfl rfl rfl rfl)
end SM
