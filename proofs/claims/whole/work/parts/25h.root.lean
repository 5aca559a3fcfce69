section RT
variable {L : Nat} {xs : Nat → Int32} {d : Nat} {mi : ZM} {pc : Nat} {lv : zL} {st st' : List Value} {h' : zH} {k k' : Nat} {o : zO} {pc' : Nat}
variable {C : Nat → zC} {u : zC} {a : Nat → Int32} {b : Nat → Int64} {M : Nat → Int64} {R : Nat → Nat} {V : Nat → RV}
theorem rtX_nb {A : Nat} (hA : A ≠ 0) : rtX A ≠ 0 ∧ nb (rtX A) ≤ 90 := by
  have h1 := (sqB_lt (A := A) 85 0 (by omega)).1
  have h2 : sqN A < 2 ^ 85 := h1
  constructor
  · unfold rtX
    by_cases h0 : sqN A = 0
    · rw [h0, if_neg (by omega)]
      omega
    · omega
  · apply nb_bd
    unfold rtX
    have e : (2 : Nat) ^ 90 = 32 * 2 ^ 85 := rfl
    split <;> omega
set_option maxRecDepth 10000 in
set_option maxHeartbeats 4000000 in
/-- the finite root, from pc 66 -/
theorem f_Mo_root {p w : Nat} (hc : cOk a p w) (h8 : rk (V 8) = 1) (hx : vOk (V 8)) (hR : Rok R) : ∃ R'', Rok R'' ∧ zR L xs (d + 5) m_Mo_root 66 [(0, .ref 20)] [] (mV C u a b V M R) 0 (.inl none) (mV C u (nt a (rNt w false (rtX (rs (V 8) * 2 ^ rtN (zr (V 8)))) p 16383 ((zr (V 8) - 63 - rtN (zr (V 8))) / 2 - 1))) b (fu V 10 (rVal w false (rtX (rs (V 8) * 2 ^ rtN (zr (V 8)))) p 16383 ((zr (V 8) - 63 - rtN (zr (V 8))) / 2 - 1))) M R'') 0 := by
  obtain ⟨x1, x2, x3⟩ := hx.2.1 h8
  have hxl : rs (V 8) < 2 ^ 64 := uN_lt2 _
  have hn : rtN (zr (V 8)) = 100 ∨ rtN (zr (V 8)) = 101 := by
    unfold rtN
    split
    · exact Or.inl rfl
    · exact Or.inr rfl
  have hpar : (zr (V 8) - 63 - (rtN (zr (V 8)) : Int)) % 2 = 0 := by
    unfold rtN
    split <;> omega
  generalize hnn : rtN (zr (V 8)) = n at *
  generalize hAA : rs (V 8) * 2 ^ n = A at *
  have hA0 : A ≠ 0 := by
    rw [← hAA]
    exact Nat.ne_of_gt (Nat.mul_pos (by omega) (Nat.pow_pos (by decide)))
  have hAn : nb A ≤ 165 := by
    rw [← hAA]
    have h1 : nb (2 ^ n) ≤ 101 + 1 := nb_bd (Nat.pow_lt_pow_right (by decide) (by omega))
    have e : (rs (V 8)) * 2 ^ n < 2 ^ 64 * 2 ^ n := Nat.mul_lt_mul_of_pos_right hxl (Nat.pow_pos (by decide))
    rw [← Nat.pow_add] at e
    exact nb_bd (Nat.lt_of_lt_of_le e (Nat.pow_le_pow_right (by decide) (by omega)))
  obtain ⟨n1, n2⟩ := rtX_nb hA0
  have hX5 : rtX A < 65536 ^ 32 := lt512 n2 (by decide)
  have hA5 : A < 65536 ^ 32 := lt512 hAn (by decide)
  -- the end
  have fin : ∀ Rb : Nat → Nat, Rok Rb → Rb 0 = rtX A → ∃ R'', Rok R'' ∧ zR L xs (d + 5) m_Mo_root 205 [(1, .int (iZ n)), (0, .ref 20)] [] (mV C u a b V M Rb) 0 (.inl none) (mV C u (nt a (rNt w false (rtX A) p 16383 ((zr (V 8) - 63 - n) / 2 - 1))) b (fu V 10 (rVal w false (rtX A) p 16383 ((zr (V 8) - 63 - n) / 2 - 1))) M R'') 0 := by
    intro Rb hRb hb0
    refine ⟨_, rok_round (w := w) (mb := false) n1 hc.2.2.1 hRb, ?_⟩
    refine zR_to 219 (st' := [.int (re (V 8) - iZ 63 - iZ n), .int (bI false), .ref 20]) rfl ?_
    rw [re_zr (V 8), iZ_sub, iZ_sub, show zr (V 8) - 63 - (n : Int) = 2 * ((zr (V 8) - 63 - (n : Int)) / 2) by omega]
    refine zR_to 221 (st' := [.int (iZ (2 * ((zr (V 8) - 63 - (n : Int)) / 2)) / (2 : Int32)), .int (bI false), .ref 20]) rfl ?_
    rw [iZ_half (by omega) (by omega)]
    refine zR_to 223 (st' := [.int (iZ ((zr (V 8) - 63 - (n : Int)) / 2) - iZ 1), .int (bI false), .ref 20]) rfl ?_
    rw [iZ_sub, show 2 * ((zr (V 8) - 63 - (n : Int)) / 2) = zr (V 8) - 63 - (n : Int) by omega]
    refine zR_v rfl rfl rfl rfl rfl ⟨rfl, Nat.le_of_ble_eq_true rfl, Nat.le_of_ble_eq_true rfl⟩ rfl (Nat.le_refl _) (e_Mo_result (X := rtX A) hc (by omega) n1 (by omega) hRb hb0) rfl rfl ?_
    exact zR_e rfl rfl rfl rfl rfl rfl
  have hR1 : Rok (fu R 1 (rs (V 8))) := hR.fu (uN_rok _)
  have hR4 : Rok (fu (fu R 1 (rs (V 8))) 4 A) := hR1.fu hA5
  obtain ⟨R'', hR'', hgo⟩ := l_Mo_root (L := L) (xs := xs) (d := d + 2) (C := C) (u := u) (a := a) (b := b) (V := V) (M := M) (A := A) (z := iZ n) (a9 := nt a (rNt w false (rtX A) p 16383 ((zr (V 8) - 63 - n) / 2 - 1))) (V9 := fu V 10 (rVal w false (rtX A) p 16383 ((zr (V 8) - 63 - n) / 2 - 1))) (fun R' Q hR' hQ c0 c4 hq => by
    have hQn : nb Q ≤ 85 := nb_bd hQ
    have hQQ : nb (Q * Q) ≤ 170 := mul_nb hQn hQn
    have hQQ5 : Q * Q < 65536 ^ 32 := lt512 hQQ (by decide)
    have hX : rtX A = 2 * Q + (if Q * Q = A then 0 else 1) := by rw [hq]; rfl
    have h2Q : 2 * Q < 65536 ^ 32 := by omega
    have hRa : Rok (fu R' 2 (Q * Q)) := hR'.fu hQQ5
    have hRb : Rok (fu (fu R' 2 (Q * Q)) 1 (2 * Q)) := hRa.fu h2Q
    have hRc : Rok (fu (fu (fu R' 2 (Q * Q)) 1 (2 * Q)) 0 (2 * Q)) := hRb.fu h2Q
    have hcr := cmpZ_rng (Q * Q) A
    have hd : ∀ {h9 : zH}, zR L xs (d + 5) m_Mo_root 172 [(1, .int (iZ n)), (0, .ref 20)] [.int (iZ (cmpZ (Q * Q) A))] (mV C u a b V M (fu R' 2 (Q * Q))) 0 (.inl none) h9 0 → zR L xs (d + 5) m_Mo_root 159 [(1, .int (iZ n)), (0, .ref 20)] [] (mV C u a b V M R') 0 (.inl none) h9 0 := fun {h9} hr => by
      refine zR_to 163 (st' := [.int (nI 2), .int (nI 0), .int (nI 0), .ref 20]) rfl ?_
      refine zR_v rfl rfl rfl rfl rfl ⟨rfl, Nat.le_of_ble_eq_true rfl, Nat.le_of_ble_eq_true rfl⟩ rfl (Nat.le_refl _) (e_Mo_times (p := 0) (q := 0) (c := 2) (by decide) (by decide) (by decide) (by decide) (by decide) hR' (by
        rw [c0, B2]
        exact Nat.lt_of_lt_of_le hQ (Nat.pow_le_pow_right (by decide) (by decide)))) rfl rfl ?_
      rw [c0, Nat.mod_eq_of_lt hQQ5]
      refine zR_to 169 rfl ?_
      refine zR_v rfl rfl rfl rfl rfl ⟨rfl, Nat.le_of_ble_eq_true rfl, Nat.le_of_ble_eq_true rfl⟩ rfl (Nat.le_refl _) (e_Mo_compareRows (p := 2) (q := 4) (by decide) (by decide) hRa) rfl rfl ?_
      rw [fu_s, fu_n (show (4 : Nat) ≠ 2 by decide), c4]
      exact hr
    have md : ∀ (e : Int32) {h9 : zH}, zR L xs (d + 5) m_Mo_root 195 [(2, .int e), (1, .int (iZ n)), (0, .ref 20)] [] (mV C u a b V M (fu (fu (fu R' 2 (Q * Q)) 1 (2 * Q)) 0 (2 * Q))) 0 (.inl none) h9 0 → zR L xs (d + 5) m_Mo_root 181 [(2, .int e), (1, .int (iZ n)), (0, .ref 20)] [] (mV C u a b V M (fu R' 2 (Q * Q))) 0 (.inl none) h9 0 := fun e {h9} hr => by
      refine zR_to 185 (st' := [.int (iZ 1), .int (nI 1), .int (nI 0), .ref 20]) rfl ?_
      refine zR_v rfl rfl rfl rfl rfl ⟨rfl, Nat.le_of_ble_eq_true rfl, Nat.le_of_ble_eq_true rfl⟩ rfl (Nat.le_refl _) (e_Mo_shift (f := 0) (t := 1) (n := 1) (by decide) (by decide) (by decide) hRa (by rw [fu_n (by decide), c0]; omega) (by omega)) rfl rfl ?_
      rw [fu_n (show (0 : Nat) ≠ 2 by decide), c0, sh1]
      refine zR_to 192 (st' := [.int (iZ 0), .int (nI 0), .int (nI 1), .ref 20]) rfl ?_
      refine zR_v rfl rfl rfl rfl rfl ⟨rfl, Nat.le_of_ble_eq_true rfl, Nat.le_of_ble_eq_true rfl⟩ rfl (Nat.le_refl _) (e_Mo_sh0 (f := 1) (t := 0) (by decide) (by decide) (by decide) hRb) rfl rfl ?_
      rw [fu_s]
      exact hr
    by_cases he : Q * Q = A
    · rw [if_pos he, Nat.add_zero] at hX
      obtain ⟨R'', q1, q2⟩ := fin (fu (fu (fu R' 2 (Q * Q)) 1 (2 * Q)) 0 (2 * Q)) hRc (by rw [fu_s, hX])
      refine ⟨R'', q1, hd ?_⟩
      rw [cmpZ_0.mpr he]
      refine zR_to 181 rfl ?_
      refine zR_w (md 1 ?_) rfl rfl ⟨rfl, rfl, rfl, trivial⟩
      refine zR_to 205 rfl ?_
      exact zR_w q2 rfl rfl ⟨rfl, rfl, trivial⟩
    · rw [if_neg he] at hX
      obtain ⟨R'', q1, q2⟩ := fin (fu (fu (fu R' 2 (Q * Q)) 1 (2 * Q)) 0 (2 * Q + 1)) (hRb.fu (by rw [← hX]; exact hX5)) (by rw [fu_s, hX])
      refine ⟨R'', q1, hd ?_⟩
      refine zR_m 1 rfl ?_
      refine zR_if (fun _ => ?_) (fun h => absurd (fun h7 => he (cmpZ_0.mp ((iZ_eq (y := 0) (by omega) (by omega)).mp h7))) h)
      refine zR_to 181 rfl ?_
      refine zR_w (md 0 ?_) rfl rfl ⟨rfl, rfl, rfl, trivial⟩
      refine zR_to 202 (st' := [.int (nI 0), .int (nI 0), .ref 20]) rfl ?_
      refine zR_v rfl rfl rfl rfl rfl ⟨rfl, Nat.le_of_ble_eq_true rfl, Nat.le_of_ble_eq_true rfl⟩ rfl (Nat.le_refl _) (e_Mo_setBit (r := 0) (n := 0) (by decide) (by decide)) rfl rfl ?_
      rw [fu_s, fu_fu, or_1]
      exact zR_w q2 rfl rfl ⟨rfl, rfl, trivial⟩) 85 (Q := 0) (R := fu (fu (fu R 1 (rs (V 8))) 4 A) 0 0) (Nat.le_refl _) (by omega) (Nat.zero_mod _) rfl (hR4.fu (Bp 32)) fu_s (by rw [fu_n (by decide), fu_s])
  refine ⟨R'', hR'', ?_⟩
  have hgo' : zR L xs (d + 5) m_Mo_root 87 [(1, .int (iZ n)), (0, .ref 20)] [] (mV C u a b V M R) 0 (.inl none) (mV C u (nt a (rNt w false (rtX A) p 16383 ((zr (V 8) - 63 - n) / 2 - 1))) b (fu V 10 (rVal w false (rtX A) p 16383 ((zr (V 8) - 63 - n) / 2 - 1))) M R'') 0 := by
    refine zR_to 96 (st' := [.long (V 8).2.2.2, .int (nI 1), .ref 20]) rfl ?_
    refine zR_v rfl rfl rfl rfl rfl ⟨rfl, Nat.le_of_ble_eq_true rfl, Nat.le_of_ble_eq_true rfl⟩ rfl (Nat.le_refl _) (e_Mo_putU (r := 1) (by decide) hR) rfl rfl ?_
    refine zR_to 103 (st' := [.int (iZ n), .int (nI 4), .int (nI 1), .ref 20]) rfl ?_
    refine zR_v rfl rfl rfl rfl rfl ⟨rfl, Nat.le_of_ble_eq_true rfl, Nat.le_of_ble_eq_true rfl⟩ rfl (Nat.le_refl _) (e_Mo_shift (f := 1) (t := 4) (n := n) (by decide) (by decide) (by decide) hR1 (by rw [fu_s]; have := nb_bd (n := 64) hxl; show (nb (rs (V 8)) : Int) + n ≤ 512; omega) (by omega)) rfl rfl ?_
    rw [fu_s, shZ_pos, show uN (V 8).2.2.2 * 2 ^ n = A from hAA]
    refine zR_to 108 rfl ?_
    refine zR_v rfl rfl rfl rfl rfl ⟨rfl, Nat.le_of_ble_eq_true rfl, Nat.le_of_ble_eq_true rfl⟩ rfl (Nat.le_refl _) (e_Mo_blank (r := 0) (by decide) hR4) rfl rfl ?_
    refine zR_to 114 rfl ?_
    exact zR_w hgo rfl rfl ⟨rfl, rfl, rfl, trivial⟩
  refine zR_to 75 (st' := [.int (re (V 8) &&& 1)]) rfl ?_
  rw [re_zr (V 8), iZ_and1]
  refine zR_m 2 rfl ?_
  refine zR_if (fun h => ?_) (fun h => ?_)
  · have h1 : ¬ zr (V 8) % 2 = 1 := fun h9 => h (by rw [h9]; rfl)
    have h2 : n = 101 := by rw [← hnn]; unfold rtN; rw [if_neg h1]
    rw [h2] at hgo'
    rw [h2]
    refine zR_to 87 rfl ?_
    exact zR_w hgo' rfl rfl ⟨rfl, rfl, trivial⟩
  · have h1 : zr (V 8) % 2 = 1 := by
      rcases (show zr (V 8) % 2 = 0 ∨ zr (V 8) % 2 = 1 by omega) with h9 | h9
      · rw [h9] at h
        exact absurd (by decide) h
      · exact h9
    have h2 : n = 100 := by rw [← hnn]; unfold rtN; rw [if_pos h1]
    rw [h2] at hgo'
    rw [h2]
    refine zR_to 87 rfl ?_
    exact zR_w hgo' rfl rfl ⟨rfl, rfl, trivial⟩
end RT
