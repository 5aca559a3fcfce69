/-! whole numbers -/
def exV (mb : Bool) (N : Nat) : RV := if N = 0 then (0, mb, 0, 0) else (1, mb, iZ ((nb N : Int) - 1), lN (rSg N))
def whC (e : Int) : Nat := if 90 < 63 - e then 90 else (63 - e).toNat
def whN (w : Nat) (mb : Bool) (X : Nat) (e : Int) : Nat := if 63 ≤ e then shZ X (e - 63) else X / 2 ^ whC e + (if rUp w mb (gO X (whC e)) (gH X (whC e)) (gB X (whC e)) then 1 else 0)
def whI (X : Nat) (e : Int) : Bool := if 63 ≤ e then false else (gH X (whC e) || gB X (whC e))
def intR (w : Nat) (x : RV) : RV × Int32 := if rk x = 1 ∧ zr x < 63 then (exV (rn x) (whN w (rn x) (rs x) (zr x)), if whI (rs x) (zr x) then 16 else 0) else (x, 0)
section IN
variable {L : Nat} {xs : Nat → Int32} {d : Nat} {mi : ZM} {pc : Nat} {lv : zL} {st st' : List Value} {h' : zH} {k k' : Nat} {o : zO} {pc' : Nat}
variable {C : Nat → zC} {u : zC} {a : Nat → Int32} {b : Nat → Int64} {M : Nat → Int64} {R : Nat → Nat} {V : Nat → RV}
set_option maxRecDepth 10000 in
theorem e_Mo_root {p w : Nat} (hc : cOk a p w) (hx : vOk (V 8)) (hR : Rok R) : zEr L xs (d + 6) m_Mo_root [.ref 20] (mV C u a b V M R) (.inl none) C u (nt a (rootR w p (V 8)).2) b (fu V 10 (rootR w p (V 8)).1) M := by
  have cp : zR L xs (d + 6) m_Mo_root 42 [(0, .ref 20)] [] (mV C u a b V M R) 0 (.inl none) (mV C u a b (fu V 10 (V 8)) M R) 0 := by
    refine zR_to 47 (st' := [.int (nI 10), .int (nI 8), .ref 20]) rfl ?_
    refine zR_v rfl rfl rfl rfl rfl ⟨rfl, Nat.le_of_ble_eq_true rfl, Nat.le_of_ble_eq_true rfl⟩ rfl (Nat.le_refl _) (e_Mo_copy (f := 8) (t := 10) (by decide) (by decide)) rfl rfl ?_
    exact zR_e rfl rfl rfl rfl rfl rfl
  unfold rootR
  by_cases h1 : rk (V 8) = 3 ∨ rk (V 8) = 0 ∨ (rk (V 8) = 2 ∧ rn (V 8) = false)
  · rw [if_pos h1, nt_0]
    refine ⟨R, hR, 0, Nat.zero_le _, ?_⟩
    refine zR_to 8 (st' := [.int 3, .int (rk (V 8))]) rfl ?_
    refine zR_m 1 rfl ?_
    refine zR_if (fun _ => cp) (fun h3 => ?_)
    refine zR_to 18 (st' := [.int (rk (V 8))]) rfl ?_
    refine zR_m 1 rfl ?_
    refine zR_if (fun _ => cp) (fun h0 => ?_)
    have h2 : rk (V 8) = 2 ∧ rn (V 8) = false := by
      rcases h1 with h | h | h
      · exact absurd h h3
      · exact absurd h h0
      · exact h
    refine zR_to 29 (st' := [.int 2, .int (rk (V 8))]) rfl ?_
    refine zR_m 1 rfl ?_
    refine zR_if (fun h => absurd h2.1 h) (fun _ => ?_)
    refine zR_to 39 (st' := [.int (bI (rn (V 8)))]) rfl ?_
    rw [h2.2]
    exact zR_to 42 rfl cp
  · rw [if_neg h1]
    have go : ∀ {h9 : zH}, zR L xs (d + 6) m_Mo_root 58 [(0, .ref 20)] [.int (bI (rn (V 8)))] (mV C u a b V M R) 0 (.inl none) h9 0 → zE L xs (d + 6) m_Mo_root [.ref 20] (mV C u a b V M R) (.inl none) h9 := fun {h9} hr => by
      refine ⟨0, Nat.zero_le _, ?_⟩
      refine zR_to 8 (st' := [.int 3, .int (rk (V 8))]) rfl ?_
      refine zR_m 1 rfl ?_
      refine zR_if (fun h => absurd (Or.inl h) h1) (fun _ => ?_)
      refine zR_to 18 (st' := [.int (rk (V 8))]) rfl ?_
      refine zR_m 1 rfl ?_
      refine zR_if (fun h => absurd (Or.inr (Or.inl h)) h1) (fun _ => ?_)
      refine zR_to 29 (st' := [.int 2, .int (rk (V 8))]) rfl ?_
      refine zR_m 1 rfl ?_
      refine zR_if (fun _ => zR_to 58 rfl hr) (fun h2 => ?_)
      refine zR_to 39 (st' := [.int (bI (rn (V 8)))]) rfl ?_
      cases hn : rn (V 8) with
      | false => exact absurd (Or.inr (Or.inr ⟨Decidable.of_not_not h2, hn⟩)) h1
      | true =>
        rw [hn] at hr
        exact zR_to 51 rfl (zR_to 58 (st' := [.int (bI true)]) (by rw [← hn]; rfl) hr)
    cases hn : rn (V 8) with
    | true =>
      rw [if_pos rfl]
      refine ⟨R, hR, go ?_⟩
      rw [hn]
      refine zR_to 62 rfl ?_
      refine zR_v rfl rfl rfl rfl rfl ⟨rfl, Nat.le_of_ble_eq_true rfl, Nat.le_of_ble_eq_true rfl⟩ rfl (Nat.le_refl _) e_Mo_invalid rfl rfl ?_
      exact zR_e rfl rfl rfl rfl rfl rfl
    | false =>
      rw [if_neg (by decide)]
      have f8 : rk (V 8) = 1 := by
        rcases hx.1 with h | h | h | h
        · exact absurd (Or.inr (Or.inl h)) h1
        · exact h
        · exact absurd (Or.inr (Or.inr ⟨h, hn⟩)) h1
        · exact absurd (Or.inl h) h1
      obtain ⟨R', hR', hgo⟩ := f_Mo_root (L := L) (xs := xs) (d := d + 1) (C := C) (u := u) (a := a) (b := b) (V := V) (M := M) (R := R) hc f8 hx hR
      refine ⟨R', hR', go ?_⟩
      rw [hn]
      exact zR_to 66 rfl hgo
set_option maxRecDepth 10000 in
theorem e_Mo_exactly {N : Nat} {mb : Bool} (hN : nb N ≤ 400) (hR : Rok R) (hR0 : R 0 = N) : zEr L xs (d + 3) m_Mo_exactly [.ref 20, .int (bI mb)] (mV C u a b V M R) (.inl none) C u a b (fu V 10 (exV mb N)) M := by
  unfold exV
  by_cases h0 : N = 0
  · rw [if_pos h0]
    refine ⟨R, hR, 0, Nat.zero_le _, ?_⟩
    refine zR_to 2 rfl ?_
    refine zR_v rfl rfl rfl rfl rfl ⟨rfl, Nat.le_of_ble_eq_true rfl, Nat.le_of_ble_eq_true rfl⟩ rfl (Nat.le_refl _) (e_Mo_top (r := 0) (by decide) hR) rfl rfl ?_
    rw [hR0, h0, nb_0]
    refine zR_to 13 rfl ?_
    refine zR_v rfl rfl rfl rfl rfl ⟨rfl, Nat.le_of_ble_eq_true rfl, Nat.le_of_ble_eq_true rfl⟩ rfl (Nat.le_refl _) e_Mo_special rfl rfl ?_
    exact zR_e rfl rfl rfl rfl rfl rfl
  · rw [if_neg h0]
    have hn : 1 ≤ nb N := by
      rcases Nat.eq_zero_or_pos (nb N) with h9 | h9
      · have := nb_lt N
        rw [h9] at this
        omega
      · exact h9
    have hS := rSg_lt h0
    have hS5 : rSg N < 65536 ^ 32 := Nat.lt_of_lt_of_le hS (by rw [B2]; exact Nat.pow_le_pow_right (by decide) (by decide))
    refine ⟨fu R 1 (rSg N), hR.fu hS5, 0, Nat.zero_le _, ?_⟩
    refine zR_to 2 rfl ?_
    refine zR_v rfl rfl rfl rfl rfl ⟨rfl, Nat.le_of_ble_eq_true rfl, Nat.le_of_ble_eq_true rfl⟩ rfl (Nat.le_refl _) (e_Mo_top (r := 0) (by decide) hR) rfl rfl ?_
    rw [hR0]
    refine zR_to 7 rfl ?_
    refine zR_m 1 rfl ?_
    refine zR_if (fun _ => ?_) (fun h => absurd ((iZ_le (x := 0) (by omega) (by omega)).mpr (show (0 : Int) ≤ (nb N : Int) - 1 by omega)) h)
    refine zR_to 24 (st' := [.int (iZ 63 - iZ ((nb N : Int) - 1)), .int (nI 1), .int (nI 0), .ref 20]) rfl ?_
    rw [iZ_sub, show (63 : Int) - ((nb N : Int) - 1) = 64 - (nb N : Int) by omega]
    refine zR_v rfl rfl rfl rfl rfl ⟨rfl, Nat.le_of_ble_eq_true rfl, Nat.le_of_ble_eq_true rfl⟩ rfl (Nat.le_refl _) (e_Mo_shift (f := 0) (t := 1) (n := 64 - (nb N : Int)) (by decide) (by decide) (by decide) hR (by rw [hR0]; omega) (by omega)) rfl rfl ?_
    rw [hR0, show shZ N (64 - (nb N : Int)) = rSg N from rfl]
    refine zR_to 34 rfl ?_
    refine zK_put (n := 10) rfl rfl (by decide) rfl ?_
    refine zR_to 42 rfl ?_
    refine zB_put (n := 10) rfl rfl (by decide) rfl ?_
    refine zR_to 50 rfl ?_
    refine zX_put (n := 10) rfl rfl (by decide) rfl ?_
    refine zR_to 59 rfl ?_
    refine zR_v rfl rfl rfl rfl rfl ⟨rfl, Nat.le_of_ble_eq_true rfl, Nat.le_of_ble_eq_true rfl⟩ rfl (Nat.le_refl _) (e_Mo_lowest (r := 1) (by decide)) rfl rfl ?_
    rw [fu_s, Nat.mod_eq_of_lt hS]
    refine zS_put (n := 10) rfl rfl (by decide) rfl ?_
    rw [mV_fu]
    exact zR_e rfl rfl rfl rfl rfl rfl
set_option maxRecDepth 10000 in
theorem e_Mo_whole {w : Nat} (hw : a 2 = nI w) (hw4 : w < 4) (he : -17000 ≤ zr (V 8) ∧ zr (V 8) ≤ 70) (hR : Rok R) : ∃ R', Rok R' ∧ R' 0 = whN w (rn (V 8)) (rs (V 8)) (zr (V 8)) ∧ zE L xs (d + 3) m_Mo_whole [.ref 20] (mV C u a b V M R) (.inl none) (mV C u (nt a (if whI (rs (V 8)) (zr (V 8)) then 16 else 0)) b V M R') := by
  have hxl : rs (V 8) < 2 ^ 64 := uN_lt2 _
  have hxn : nb (rs (V 8)) ≤ 64 := nb_bd hxl
  have hR1 : Rok (fu R 0 (rs (V 8))) := hR.fu (uN_rok _)
  have go : ∀ {h9 : zH}, zR L xs (d + 3) m_Mo_whole 24 [(1, .int (iZ (63 - zr (V 8)))), (0, .ref 20)] [.int (iZ (63 - zr (V 8)))] (mV C u a b V M (fu R 0 (rs (V 8)))) 0 (.inl none) h9 0 → zE L xs (d + 3) m_Mo_whole [.ref 20] (mV C u a b V M R) (.inl none) h9 := fun {h9} hr => by
    refine ⟨0, Nat.zero_le _, ?_⟩
    refine zR_to 9 (st' := [.long (V 8).2.2.2, .int (nI 0), .ref 20]) rfl ?_
    refine zR_v rfl rfl rfl rfl rfl ⟨rfl, Nat.le_of_ble_eq_true rfl, Nat.le_of_ble_eq_true rfl⟩ rfl (Nat.le_refl _) (e_Mo_putU (r := 0) (by decide) hR) rfl rfl ?_
    refine zR_to 22 (st' := [.int (iZ 63 - re (V 8))]) rfl ?_
    rw [re_zr (V 8), iZ_sub]
    exact zR_to 24 rfl hr
  unfold whN whI
  by_cases h63 : 63 ≤ zr (V 8)
  · rw [if_pos h63, if_pos h63, if_neg (by decide), nt_0]
    have hS : (nb (shZ (rs (V 8)) (zr (V 8) - 63)) : Int) ≤ 80 := by
      by_cases h0 : rs (V 8) = 0
      · rw [h0]
        unfold shZ
        rw [Nat.zero_mul, Nat.zero_div, nb_0]
        decide
      · have hn : 1 ≤ nb (rs (V 8)) := by
          rcases Nat.eq_zero_or_pos (nb (rs (V 8))) with h9 | h9
          · have := nb_lt (rs (V 8))
            rw [h9] at this
            omega
          · exact h9
        have := nb_shZ h0 (n := zr (V 8) - 63) (by omega)
        omega
    have hS5 : shZ (rs (V 8)) (zr (V 8) - 63) < 65536 ^ 32 := lt512 (n := 80) (by omega) (by decide)
    have hR2 : Rok (fu (fu R 0 (rs (V 8))) 1 (shZ (rs (V 8)) (zr (V 8) - 63))) := hR1.fu hS5
    refine ⟨fu (fu (fu R 0 (rs (V 8))) 1 (shZ (rs (V 8)) (zr (V 8) - 63))) 0 (shZ (rs (V 8)) (zr (V 8) - 63)), hR2.fu hS5, fu_s, go ?_⟩
    refine zR_m 1 rfl ?_
    refine zR_if (fun h => ?_) (fun _ => ?_)
    · have := (iZ_lt (x := 0) (by omega) (by omega)).mp h
      omega
    refine zR_to 32 (st' := [.int (- iZ (63 - zr (V 8))), .int (nI 1), .int (nI 0), .ref 20]) rfl ?_
    rw [iZ_neg, show -(63 - zr (V 8)) = zr (V 8) - 63 by omega]
    refine zR_v rfl rfl rfl rfl rfl ⟨rfl, Nat.le_of_ble_eq_true rfl, Nat.le_of_ble_eq_true rfl⟩ rfl (Nat.le_refl _) (e_Mo_shift (f := 0) (t := 1) (n := zr (V 8) - 63) (by decide) (by decide) (by decide) hR1 (by rw [fu_s]; omega) (by omega)) rfl rfl ?_
    rw [fu_s]
    refine zR_to 39 (st' := [.int (iZ 0), .int (nI 0), .int (nI 1), .ref 20]) rfl ?_
    refine zR_v rfl rfl rfl rfl rfl ⟨rfl, Nat.le_of_ble_eq_true rfl, Nat.le_of_ble_eq_true rfl⟩ rfl (Nat.le_refl _) (e_Mo_sh0 (f := 1) (t := 0) (by decide) (by decide) (by decide) hR2) rfl rfl ?_
    rw [fu_s]
    exact zR_e rfl rfl rfl rfl rfl rfl
  · rw [if_neg h63, if_neg h63]
    have hcc : 1 ≤ whC (zr (V 8)) ∧ whC (zr (V 8)) ≤ 90 := by
      unfold whC
      split <;> omega
    generalize hcd : whC (zr (V 8)) = c at *
    generalize hup : rUp w (rn (V 8)) (gO (rs (V 8)) c) (gH (rs (V 8)) c) (gB (rs (V 8)) c) = up at *
    have hQ : rs (V 8) / 2 ^ c < 2 ^ 64 := Nat.lt_of_le_of_lt (Nat.div_le_self _ _) hxl
    have h64 : (2 : Nat) ^ 64 + 1 < 65536 ^ 32 := by decide
    have hQ5 : rs (V 8) / 2 ^ c < 65536 ^ 32 := by omega
    have hu1 : (if up then 1 else 0 : Nat) ≤ 1 := by split <;> omega
    have hR2 : Rok (fu (fu R 0 (rs (V 8))) 1 (rs (V 8) / 2 ^ c)) := hR1.fu hQ5
    have hR3 : Rok (fu (fu (fu R 0 (rs (V 8))) 1 (rs (V 8) / 2 ^ c)) 2 (if up then 1 else 0)) := hR2.fu (by omega)
    have hR4 : Rok (fu (fu (fu (fu R 0 (rs (V 8))) 1 (rs (V 8) / 2 ^ c)) 2 (if up then 1 else 0)) 1 (rs (V 8) / 2 ^ c + (if up then 1 else 0))) := hR3.fu (by omega)
    refine ⟨fu (fu (fu (fu (fu R 0 (rs (V 8))) 1 (rs (V 8) / 2 ^ c)) 2 (if up then 1 else 0)) 1 (rs (V 8) / 2 ^ c + (if up then 1 else 0))) 0 (rs (V 8) / 2 ^ c + (if up then 1 else 0)), hR4.fu (by omega), fu_s, go ?_⟩
    have ha : (if gH (rs (V 8)) c || gB (rs (V 8)) c then nt a 16 else a) = nt a (if (gH (rs (V 8)) c || gB (rs (V 8)) c) = true then 16 else 0) := by
      split
      · rfl
      · exact nt_0.symm
    -- from the cut on
    have mid : zR L xs (d + 3) m_Mo_whole 56 [(2, .int (nI c)), (0, .ref 20)] [] (mV C u a b V M (fu R 0 (rs (V 8)))) 0 (.inl none) (mV C u (nt a (if (gH (rs (V 8)) c || gB (rs (V 8)) c) = true then 16 else 0)) b V M (fu (fu (fu (fu (fu R 0 (rs (V 8))) 1 (rs (V 8) / 2 ^ c)) 2 (if up then 1 else 0)) 1 (rs (V 8) / 2 ^ c + (if up then 1 else 0))) 0 (rs (V 8) / 2 ^ c + (if up then 1 else 0)))) 0 := by
      refine zR_to 65 (st' := [.int (bI (rn (V 8))), .int (nI c), .ref 20]) rfl ?_
      refine zR_v rfl rfl rfl rfl rfl ⟨rfl, Nat.le_of_ble_eq_true rfl, Nat.le_of_ble_eq_true rfl⟩ rfl (Nat.le_refl _) (e_Mo_goesUp (n := c) (X := rs (V 8)) hcc.1 (by omega) fu_s hw hw4) rfl rfl ?_
      rw [hup, ha]
      refine zR_to 74 (st' := [.int (- nI c), .int (nI 1), .int (nI 0), .ref 20]) rfl ?_
      rw [← iZ_nat c, iZ_neg]
      refine zR_v rfl rfl rfl rfl rfl ⟨rfl, Nat.le_of_ble_eq_true rfl, Nat.le_of_ble_eq_true rfl⟩ rfl (Nat.le_refl _) (e_Mo_shift (f := 0) (t := 1) (n := -(c : Int)) (by decide) (by decide) (by decide) hR1 (by rw [fu_s]; omega) (by omega)) rfl rfl ?_
      rw [fu_s, shZ_neg]
      refine zR_to 88 (lv' := [(3, .int (bI up)), (2, .int (iZ c)), (0, .ref 20)]) (st' := [.long (lN (if up then 1 else 0)), .int (nI 2), .ref 20]) (h1 := mV C u (nt a (if (gH (rs (V 8)) c || gB (rs (V 8)) c) = true then 16 else 0)) b V M (fu (fu R 0 (rs (V 8))) 1 (rs (V 8) / 2 ^ c))) (by cases up <;> rfl) ?_
      refine zR_v rfl rfl rfl rfl rfl ⟨rfl, Nat.le_of_ble_eq_true rfl, Nat.le_of_ble_eq_true rfl⟩ rfl (Nat.le_refl _) (e_Mo_put (r := 2) (n := if up then 1 else 0) (by decide) (by omega) hR2) rfl rfl ?_
      refine zR_to 95 (st' := [.int (iZ 1), .int (nI 2), .int (nI 1), .ref 20]) rfl ?_
      refine zR_v rfl rfl rfl rfl rfl ⟨rfl, Nat.le_of_ble_eq_true rfl, Nat.le_of_ble_eq_true rfl⟩ rfl (Nat.le_refl _) (e_Mo_add (p := 1) (q := 2) (s := 1) (Or.inl rfl) (by decide) (by decide) (by decide) hR3) rfl rfl ?_
      rw [fu_s, fu_n (show (1 : Nat) ≠ 2 by decide), fu_s, adL_add (by omega)]
      refine zR_to 102 (st' := [.int (iZ 0), .int (nI 0), .int (nI 1), .ref 20]) rfl ?_
      refine zR_v rfl rfl rfl rfl rfl ⟨rfl, Nat.le_of_ble_eq_true rfl, Nat.le_of_ble_eq_true rfl⟩ rfl (Nat.le_refl _) (e_Mo_sh0 (f := 1) (t := 0) (by decide) (by decide) (by decide) hR4) rfl rfl ?_
      rw [fu_s]
      exact zR_e rfl rfl rfl rfl rfl rfl
    refine zR_m 1 rfl ?_
    refine zR_if (fun _ => ?_) (fun h => absurd ((iZ_lt (x := 0) (by omega) (by omega)).mpr (show (0 : Int) < 63 - zr (V 8) by omega)) h)
    refine zR_to 46 (st' := [.int (iZ 90), .int (iZ (63 - zr (V 8)))]) rfl ?_
    refine zR_m 1 rfl ?_
    refine zR_if (fun h => ?_) (fun h => ?_)
    · have h1 := (iZ_le (by omega) (by omega)).mp h
      have h2 : 63 - zr (V 8) = (c : Int) := by rw [← hcd]; unfold whC; rw [if_neg (by omega)]; omega
      rw [h2, iZ_nat]
      refine zR_to 56 rfl ?_
      exact zR_w mid rfl rfl ⟨rfl, rfl, trivial⟩
    · have h1 : ¬ 63 - zr (V 8) ≤ 90 := fun h9 => h ((iZ_le (by omega) (by omega)).mpr h9)
      have h2 : c = 90 := by rw [← hcd]; unfold whC; rw [if_pos (by omega)]
      subst h2
      refine zR_to 56 rfl ?_
      exact zR_w mid rfl rfl ⟨rfl, rfl, trivial⟩
end IN
