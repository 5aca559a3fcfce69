theorem lt512 {x n : Nat} (h : nb x ≤ n) (hn : n ≤ 512) : x < 65536 ^ 32 := by
  rw [B2]
  exact Nat.lt_of_lt_of_le (nb_lt x) (Nat.pow_le_pow_right (by decide) (by omega))
theorem rSg_lt {K : Nat} (h : K ≠ 0) : rSg K < 2 ^ 64 := by
  unfold rSg
  have h1 := nb_shZ h (n := 64 - (nb K : Int)) (by omega)
  have h2 := nb_lt (shZ K (64 - (nb K : Int)))
  rw [show nb (shZ K (64 - (nb K : Int))) = 64 by omega] at h2
  exact h2
section RO
variable {L : Nat} {xs : Nat → Int32} {d : Nat} {mi : ZM} {pc : Nat} {lv : zL} {st st' : List Value} {h' : zH} {k k' : Nat} {o : zO} {pc' : Nat}
variable {C : Nat → zC} {u : zC} {a : Nat → Int32} {b : Nat → Int64} {M : Nat → Int64} {R : Nat → Nat} {V : Nat → RV}
set_option maxRecDepth 10000 in
/-- from pc 90: the significand -/
theorem g_Mo_round {K1 : Nat} {e : Int} {p : Nat} {g : Int} {mb : Bool} {h9 : zH} (hR : Rok R) (hK : R 1 = K1) (h0 : K1 ≠ 0)
    (kk : zR L xs (d + 3) m_Mo_round 104 [(7, .int (iZ e)), (0, .ref 20), (1, .int (bI mb)), (3, .int (nI p)), (4, .int (iZ g))] [] (mV C u a b V M (fu R 2 (rSg K1))) 0 (.inl none) h9 0) :
    zR L xs (d + 3) m_Mo_round 90 [(7, .int (iZ e)), (0, .ref 20), (1, .int (bI mb)), (3, .int (nI p)), (4, .int (iZ g))] [] (mV C u a b V M R) 0 (.inl none) h9 0 := by
  refine zR_to 97 rfl ?_
  refine zR_v rfl rfl rfl rfl rfl ⟨rfl, Nat.le_of_ble_eq_true rfl, Nat.le_of_ble_eq_true rfl⟩ rfl (Nat.le_refl _) (e_Mo_top (r := 1) (by decide) hR) rfl rfl ?_
  refine zR_to 101 (st' := [.int (iZ 63 - iZ ((nb (R 1) : Int) - 1)), .int (nI 2), .int (nI 1), .ref 20]) rfl ?_
  have hn := nb_bd (x := R 1) (n := 512) (by have := hR 1; rw [B2] at this; exact this)
  rw [iZ_sub, show (63 : Int) - ((nb (R 1) : Int) - 1) = 64 - (nb K1 : Int) by rw [hK]; omega]
  refine zR_v rfl rfl rfl rfl rfl ⟨rfl, Nat.le_of_ble_eq_true rfl, Nat.le_of_ble_eq_true rfl⟩ rfl (Nat.le_refl _) (e_Mo_shift (f := 1) (t := 2) (by decide) (by decide) (by decide) hR (by rw [hK]; omega) (by rw [← hK]; omega)) rfl rfl ?_
  rw [hK]
  exact kk
set_option maxRecDepth 10000 in
/-- from pc 43 -/
theorem h_Mo_round {X p : Nat} {e g : Int} {mb up : Bool} {z : Int32} {h9 : zH} (hp : pOk p) (hX : X ≠ 0) (hX4 : nb X ≤ 400) (hR : Rok R) (hR0 : R 0 = X) (hz : - z = iZ (-((nb X : Int) - p)))
    (kk : zR L xs (d + 3) m_Mo_round 104 [(7, .int (iZ (e + if rK X p + (if up then 1 else 0) = 2 ^ p then 1 else 0))), (0, .ref 20), (1, .int (bI mb)), (3, .int (nI p)), (4, .int (iZ g))] [] (mV C u a b V M (fu (fu R 1 (rK X p + (if up then 1 else 0))) 2 (rSg (rK X p + (if up then 1 else 0))))) 0 (.inl none) h9 0) :
    zR L xs (d + 3) m_Mo_round 43 [(8, .int (bI up)), (7, .int (iZ e)), (6, .int z), (0, .ref 20), (1, .int (bI mb)), (3, .int (nI p)), (4, .int (iZ g))] [] (mV C u a b V M R) 0 (.inl none) h9 0 := by
  have hp1 : 1 ≤ p ∧ p ≤ 64 := by rcases hp with rfl | rfl | rfl <;> decide
  have hKn := rK_nb hX hp1.1
  obtain ⟨hK1, hK2⟩ := rK_rng hX hp1.1
  have hK0 : rK X p ≠ 0 := by have := Nat.pow_pos (n := p - 1) (show 0 < 2 by decide); omega
  have hKlt : rK X p < 65536 ^ 32 := lt512 (n := 64) (by omega) (by decide)
  have hR1 : Rok (fu R 1 (rK X p)) := hR.fu hKlt
  refine zR_to 49 (st' := [.int (- z), .int (nI 1), .int (nI 0), .ref 20]) rfl ?_
  rw [hz]
  refine zR_v rfl rfl rfl rfl rfl ⟨rfl, Nat.le_of_ble_eq_true rfl, Nat.le_of_ble_eq_true rfl⟩ rfl (Nat.le_refl _) (e_Mo_shift (f := 0) (t := 1) (by decide) (by decide) (by decide) hR (by rw [hR0]; omega) (by omega)) rfl rfl ?_
  rw [hR0, show shZ X (-((nb X : Int) - p)) = rK X p from rfl]
  cases up with
  | false =>
    simp only [Bool.false_eq_true, if_false, Nat.add_zero] at kk
    rw [if_neg (show ¬ rK X p = 2 ^ p by omega), Int.add_zero] at kk
    refine zR_to 90 rfl ?_
    exact zR_w (g_Mo_round hR1 fu_s hK0 kk) rfl rfl ⟨rfl, rfl, rfl, rfl, rfl, trivial⟩
  | true =>
    simp only [if_true] at kk
    have h1k : rK X p + 1 < 65536 ^ 32 := by
      have : (2 : Nat) ^ p < 65536 ^ 32 := by rw [B2]; exact Nat.pow_lt_pow_right (by decide) (by omega)
      omega
    refine zR_to 60 (st' := [.long (lN 1), .int (nI 2), .ref 20]) rfl ?_
    refine zR_v rfl rfl rfl rfl rfl ⟨rfl, Nat.le_of_ble_eq_true rfl, Nat.le_of_ble_eq_true rfl⟩ rfl (Nat.le_refl _) (e_Mo_put (r := 2) (n := 1) (by decide) (by decide) hR1) rfl rfl ?_
    refine zR_to 67 (st' := [.int (iZ 1), .int (nI 2), .int (nI 1), .ref 20]) rfl ?_
    have hR2 : Rok (fu (fu R 1 (rK X p)) 2 1) := hR1.fu (Nat.lt_of_lt_of_le (show 1 < 65536 by decide) (Nat.pow_le_pow_right (n := 65536) (i := 1) (by decide) (by decide)))
    refine zR_v rfl rfl rfl rfl rfl ⟨rfl, Nat.le_of_ble_eq_true rfl, Nat.le_of_ble_eq_true rfl⟩ rfl (Nat.le_refl _) (e_Mo_add (p := 1) (q := 2) (s := 1) (Or.inl rfl) (by decide) (by decide) (by decide) hR2) rfl rfl ?_
    rw [fu_s, fu_n (show (1 : Nat) ≠ 2 by decide), fu_s, adL_add h1k, fu_comm (show (2 : Nat) ≠ 1 by decide), fu_fu]
    have hR3 : Rok (fu (fu R 1 (rK X p + 1)) 2 1) := (hR.fu h1k).fu (Nat.lt_of_lt_of_le (show 1 < 65536 by decide) (Nat.pow_le_pow_right (n := 65536) (i := 1) (by decide) (by decide)))
    have hv1 : fu (fu R 1 (rK X p + 1)) 2 1 1 = rK X p + 1 := by rw [fu_n (by decide), fu_s]
    refine zR_to 72 rfl ?_
    refine zR_v rfl rfl rfl rfl rfl ⟨rfl, Nat.le_of_ble_eq_true rfl, Nat.le_of_ble_eq_true rfl⟩ rfl (Nat.le_refl _) (e_Mo_top (r := 1) (by decide) hR3) rfl rfl ?_
    rw [hv1]
    have hb1 : nb (rK X p + 1) = if rK X p + 1 = 2 ^ p then p + 1 else p := by
      obtain ⟨m, rfl⟩ : ∃ m, p = m + 1 := ⟨p - 1, by omega⟩
      split
      · rename_i h
        rw [h]
        exact nb_uniq (Nat.le_refl _) (Nat.pow_lt_pow_right (by decide) (by omega))
      · rename_i h
        exact nb_uniq (n := m) (by rw [Nat.add_sub_cancel] at hK1; omega) (by omega)
    have hgo := g_Mo_round (L := L) (xs := xs) (d := d) (C := C) (u := u) (a := a) (b := b) (V := V) (M := M) (h9 := h9) hR3 hv1 (by omega) (by rw [fu_fu]; exact kk)
    refine zR_to 76 rfl ?_
    refine zR_m 1 rfl ?_
    by_cases hb : rK X p + 1 = 2 ^ p
    · rw [if_pos hb] at hb1 hgo
      refine zR_if (fun h => absurd ?_ h) (fun _ => ?_)
      · rw [hb1, show ((p + 1 : Nat) : Int) - 1 = (p : Int) by omega, iZ_nat]
      · refine zR_to 90 rfl ?_
        refine zR_w hgo rfl rfl ⟨?_, rfl, rfl, rfl, rfl, trivial⟩
        rw [← iZ_add]
        rfl
    · rw [if_neg hb] at hb1 hgo
      refine zR_if (fun _ => ?_) (fun h => absurd (fun h9 => ?_) h)
      · refine zR_to 90 rfl ?_
        refine zR_w hgo rfl rfl ⟨?_, rfl, rfl, rfl, rfl, trivial⟩
        rw [Int.add_zero]
        rfl
      · rw [hb1, ← iZ_nat, iZ_eq (by omega) (by omega)] at h9
        omega
set_option maxRecDepth 10000 in
theorem e_Mo_round {X p w : Nat} {q g : Int} {mb : Bool} (hp : pOk p) (hw : a 2 = nI w) (hw4 : w < 4) (hg : 1 ≤ g ∧ g ≤ 20000) (hq : -100000 ≤ q ∧ q ≤ 100000) (hX : X ≠ 0) (hX4 : nb X ≤ 400) (hR : Rok R) (hR0 : R 0 = X) :
    zE L xs (d + 3) m_Mo_round [.ref 20, .int (bI mb), .int (iZ q), .int (nI p), .int (iZ g)] (mV C u a b V M R) (.inl none) (mV C u (nt a (rNt w mb X p g q)) b (fu V 10 (rVal w mb X p g q)) M (fu (fu R 1 (rK1 w mb X p)) 2 (rSg (rK1 w mb X p)))) := by
  have hp1 : 1 ≤ p ∧ p ≤ 64 := by rcases hp with rfl | rfl | rfl <;> decide
  have hK0 : rK1 w mb X p ≠ 0 := by
    obtain ⟨h1, -⟩ := rK_rng hX hp1.1
    have := Nat.pow_pos (n := p - 1) (show 0 < 2 by decide)
    unfold rK1
    omega
  have hE : -200000 ≤ rEx w mb X p q ∧ rEx w mb X p q ≤ 200000 := by
    unfold rEx
    split <;> omega
  -- the end, with what goesUp noted
  have fin : ∀ (a' : Nat → Int32), a' 2 = nI w → nt a' (if g < rEx w mb X p q then 20 else if rEx w mb X p q < 1 - g then 24 else 0) = nt a (rNt w mb X p g q) →
      zR L xs (d + 3) m_Mo_round 104 [(7, .int (iZ (((nb X : Int) - 1 + q) + if rK X p + (if rUq w mb X p then 1 else 0) = 2 ^ p then 1 else 0))), (0, .ref 20), (1, .int (bI mb)), (3, .int (nI p)), (4, .int (iZ g))] [] (mV C u a' b V M (fu (fu R 1 (rK X p + (if rUq w mb X p then 1 else 0))) 2 (rSg (rK X p + (if rUq w mb X p then 1 else 0))))) 0 (.inl none) (mV C u (nt a (rNt w mb X p g q)) b (fu V 10 (rVal w mb X p g q)) M (fu (fu R 1 (rK1 w mb X p)) 2 (rSg (rK1 w mb X p)))) 0 := by
    intro a' h1 h2
    have h9 := f_Mo_round (L := L) (xs := xs) (d := d + 1) (C := C) (u := u) (a := a') (b := b) (V := V) (M := M) (R := fu (fu R 1 (rK1 w mb X p)) 2 (rSg (rK1 w mb X p))) (z := []) (mb := mb) hp h1 hw4 hg hE fu_s (rSg_lt hK0)
    rw [h2] at h9
    exact h9
  refine ⟨0, Nat.zero_le _, ?_⟩
  refine zR_to 2 rfl ?_
  refine zR_v rfl rfl rfl rfl rfl ⟨rfl, Nat.le_of_ble_eq_true rfl, Nat.le_of_ble_eq_true rfl⟩ rfl (Nat.le_refl _) (e_Mo_top (r := 0) (by decide) hR) rfl rfl ?_
  rw [hR0]
  refine zR_to 13 (st' := [.int (iZ ((nb X : Int) - 1) + iZ 1 - nI p)]) rfl ?_
  rw [← iZ_nat p, iZ_add, iZ_sub, show (nb X : Int) - 1 + 1 - (p : Int) = (nb X : Int) - p by omega]
  refine zR_to 19 (st' := [.int (iZ ((nb X : Int) - 1) + iZ q)]) rfl ?_
  rw [iZ_add]
  refine zR_to 23 rfl ?_
  refine zR_m 1 rfl ?_
  refine zR_if (fun h => ?_) (fun h => ?_)
  · -- no bits go
    have h1 := (iZ_le (y := 0) (by omega) (by omega)).mp h
    have hu : rUq w mb X p = false ∧ (rHf X p || rRs X p) = false := by
      unfold rUq rHf rRs
      rw [decide_eq_false (show ¬ p < nb X by omega)]
      simp only [Bool.false_and, Bool.or_false]
      unfold rUp
      simp
    have h9 := h_Mo_round (L := L) (xs := xs) (d := d) (C := C) (u := u) (a := a) (b := b) (V := V) (M := M) (up := rUq w mb X p) (z := iZ ((nb X : Int) - p)) hp hX hX4 hR hR0 (iZ_neg _) (fin a hw (by
      unfold rNt
      rw [hu.2]
      rfl))
    rw [hu.1] at h9
    refine zR_to 43 rfl ?_
    refine zR_w h9 rfl rfl ⟨rfl, rfl, rfl, rfl, rfl, ?_, rfl, trivial⟩
    rw [← iZ_nat p]
    rfl
  · have h1 : ¬ (nb X : Int) - p ≤ 0 := fun h4 => h ((iZ_le (y := 0) (by omega) (by omega)).mpr h4)
    have hc : (nb X : Int) - p = ((nb X - p : Nat) : Int) := by omega
    have hH : rHf X p = gH X (nb X - p) := by
      unfold rHf
      rw [decide_eq_true (show p < nb X by omega)]
      rfl
    have hB : rRs X p = gB X (nb X - p) := by
      unfold rRs
      rw [decide_eq_true (show p < nb X by omega)]
      rfl
    have hU : rUq w mb X p = rUp w mb (gO X (nb X - p)) (gH X (nb X - p)) (gB X (nb X - p)) := by
      unfold rUq
      rw [hH, hB]
    have h9 := h_Mo_round (L := L) (xs := xs) (d := d) (C := C) (u := u) (a := if gH X (nb X - p) || gB X (nb X - p) then nt a 16 else a) (b := b) (V := V) (M := M) (up := rUq w mb X p) (z := nI (nb X - p)) hp hX hX4 hR hR0 (by rw [← iZ_nat, iZ_neg, hc]) (fin _ (by split <;> exact hw) (by
      unfold rNt
      rw [hH, hB]
      split
      · rw [nt_nt]
        split
        · rfl
        · split <;> rfl
      · rfl))
    rw [hc, iZ_nat]
    refine zR_to 30 rfl ?_
    refine zR_v rfl rfl rfl rfl rfl ⟨rfl, Nat.le_of_ble_eq_true rfl, Nat.le_of_ble_eq_true rfl⟩ rfl (Nat.le_refl _) (e_Mo_goesUp (n := nb X - p) (by omega) (by omega) hR0 hw hw4) rfl rfl ?_
    rw [← hU]
    cases hu : rUq w mb X p with
    | false =>
      rw [hu] at h9
      refine zR_to 43 rfl ?_
      refine zR_w h9 rfl rfl ⟨rfl, rfl, rfl, rfl, rfl, ?_, rfl, trivial⟩
      rw [← iZ_nat p]
      rfl
    | true =>
      rw [hu] at h9
      refine zR_to 43 rfl ?_
      refine zR_w h9 rfl rfl ⟨rfl, rfl, rfl, rfl, rfl, ?_, rfl, trivial⟩
      rw [← iZ_nat p]
      rfl
end RO
