section MU
variable {L : Nat} {xs : Nat → Int32} {d : Nat} {mi : ZM} {pc : Nat} {lv : zL} {st st' : List Value} {h' : zH} {k k' : Nat} {o : zO} {pc' : Nat}
variable {C : Nat → zC} {u : zC} {a : Nat → Int32} {b : Nat → Int64} {M : Nat → Int64} {R : Nat → Nat} {V : Nat → RV}
theorem mul_nb {x y m n : Nat} (h1 : nb x ≤ m) (h2 : nb y ≤ n) : nb (x * y) ≤ m + n := nb_bd (by
  have e1 := Nat.lt_of_lt_of_le (nb_lt x) (Nat.pow_le_pow_right (n := 2) (by decide) h1)
  have e2 := Nat.lt_of_lt_of_le (nb_lt y) (Nat.pow_le_pow_right (n := 2) (by decide) h2)
  rw [Nat.pow_add]
  exact Nat.mul_lt_mul'' e1 e2)
set_option maxRecDepth 10000 in
set_option maxHeartbeats 4000000 in
theorem e_Mo_product {p w : Nat} (hc : cOk a p w) (hx : vOk (V 8)) (hy : vOk (V 9)) (hR : Rok R) : zEr L xs (d + 6) m_Mo_product [.ref 20] (mV C u a b V M R) (.inl none) C u (nt a (mulR w p (V 8) (V 9)).2) b (fu V 10 (mulR w p (V 8) (V 9)).1) M := by
  generalize hmb : decide (rn (V 8) ≠ rn (V 9)) = mb
  have go : ∀ {h9 : zH}, zR L xs (d + 6) m_Mo_product 28 [(1, .int (bI mb)), (0, .ref 20)] [.int (bI (eit (V 8) (V 9) 3))] (mV C u a b V M R) 0 (.inl none) h9 0 → zE L xs (d + 6) m_Mo_product [.ref 20] (mV C u a b V M R) (.inl none) h9 := fun {h9} hr => by
    have hr' : zR L xs (d + 6) m_Mo_product 23 [(1, .int (bI mb)), (0, .ref 20)] [] (mV C u a b V M R) 0 (.inl none) h9 0 := by
      refine zR_to 25 rfl ?_
      exact zR_v rfl rfl rfl rfl rfl ⟨rfl, Nat.le_of_ble_eq_true rfl, Nat.le_of_ble_eq_true rfl⟩ rfl (Nat.le_refl _) e_Mo_either rfl rfl hr
    refine ⟨0, Nat.zero_le _, ?_⟩
    refine zR_to 14 (st' := [.int (bI (rn (V 9))), .int (bI (rn (V 8)))]) rfl ?_
    refine zR_m 1 rfl ?_
    refine zR_if (fun h => ?_) (fun h => ?_)
    · have : mb = false := by rw [← hmb, decide_eq_false (fun h9 => h9 (bI_eq.mp h))]
      subst this
      refine zR_to 23 rfl ?_
      exact zR_w hr' rfl rfl ⟨rfl, rfl, trivial⟩
    · have : mb = true := by rw [← hmb, decide_eq_true (show rn (V 8) ≠ rn (V 9) from fun h9 => h (bI_eq.mpr h9))]
      subst this
      refine zR_to 23 rfl ?_
      exact zR_w hr' rfl rfl ⟨rfl, rfl, trivial⟩
  unfold mulR
  rw [hmb]
  cases h3 : eit (V 8) (V 9) 3 with
  | true =>
    rw [if_pos rfl, nt_0]
    refine ⟨R, hR, go ?_⟩
    rw [h3]
    refine zR_to 34 (st' := [.int (bI false), .int 3, .ref 20]) rfl ?_
    refine zR_v rfl rfl rfl rfl rfl ⟨rfl, Nat.le_of_ble_eq_true rfl, Nat.le_of_ble_eq_true rfl⟩ rfl (Nat.le_refl _) e_Mo_special rfl rfl ?_
    refine zR_to 151 rfl ?_
    exact zR_e rfl rfl rfl rfl rfl rfl
  | false =>
    rw [if_neg (by decide)]
    have go2 : ∀ {h9 : zH}, zR L xs (d + 6) m_Mo_product 45 [(1, .int (bI mb)), (0, .ref 20)] [.int (bI (eit (V 8) (V 9) 0))] (mV C u a b V M R) 0 (.inl none) h9 0 → zE L xs (d + 6) m_Mo_product [.ref 20] (mV C u a b V M R) (.inl none) h9 := fun {h9} hr => by
      refine go ?_
      rw [h3]
      refine zR_to 42 rfl ?_
      exact zR_v rfl rfl rfl rfl rfl ⟨rfl, Nat.le_of_ble_eq_true rfl, Nat.le_of_ble_eq_true rfl⟩ rfl (Nat.le_refl _) e_Mo_either rfl rfl hr
    -- the third question, with the answer to the second
    have go3 : ∀ {h9 : zH}, (eit (V 8) (V 9) 0 && eit (V 8) (V 9) 2) = false → zR L xs (d + 6) m_Mo_product 68 [(1, .int (bI mb)), (0, .ref 20)] [.int (bI (eit (V 8) (V 9) 2))] (mV C u a b V M R) 0 (.inl none) h9 0 → zE L xs (d + 6) m_Mo_product [.ref 20] (mV C u a b V M R) (.inl none) h9 := fun {h9} hz hr => by
      have hr' : zR L xs (d + 6) m_Mo_product 63 [(1, .int (bI mb)), (0, .ref 20)] [] (mV C u a b V M R) 0 (.inl none) h9 0 := by
        refine zR_to 65 rfl ?_
        exact zR_v rfl rfl rfl rfl rfl ⟨rfl, Nat.le_of_ble_eq_true rfl, Nat.le_of_ble_eq_true rfl⟩ rfl (Nat.le_refl _) e_Mo_either rfl rfl hr
      refine go2 ?_
      cases h0 : eit (V 8) (V 9) 0 with
      | false => exact zR_to 63 rfl hr'
      | true =>
        rw [h0, Bool.true_and] at hz
        refine zR_to 50 rfl ?_
        refine zR_v rfl rfl rfl rfl rfl ⟨rfl, Nat.le_of_ble_eq_true rfl, Nat.le_of_ble_eq_true rfl⟩ rfl (Nat.le_refl _) (e_Mo_either (kd := 2)) rfl rfl ?_
        rw [hz]
        exact zR_to 63 rfl hr'
    cases h02 : (eit (V 8) (V 9) 0 && eit (V 8) (V 9) 2) with
    | true =>
      rw [if_pos rfl]
      refine ⟨R, hR, go2 ?_⟩
      rw [Bool.and_eq_true] at h02
      rw [h02.1]
      refine zR_to 50 rfl ?_
      refine zR_v rfl rfl rfl rfl rfl ⟨rfl, Nat.le_of_ble_eq_true rfl, Nat.le_of_ble_eq_true rfl⟩ rfl (Nat.le_refl _) (e_Mo_either (kd := 2)) rfl rfl ?_
      rw [h02.2]
      refine zR_to 57 rfl ?_
      refine zR_v rfl rfl rfl rfl rfl ⟨rfl, Nat.le_of_ble_eq_true rfl, Nat.le_of_ble_eq_true rfl⟩ rfl (Nat.le_refl _) e_Mo_invalid rfl rfl ?_
      refine zR_to 151 rfl ?_
      exact zR_e rfl rfl rfl rfl rfl rfl
    | false =>
      rw [if_neg (by decide)]
      cases h2 : eit (V 8) (V 9) 2 with
      | true =>
        rw [if_pos rfl, nt_0]
        refine ⟨R, hR, go3 h02 ?_⟩
        rw [h2]
        refine zR_to 74 rfl ?_
        refine zR_v rfl rfl rfl rfl rfl ⟨rfl, Nat.le_of_ble_eq_true rfl, Nat.le_of_ble_eq_true rfl⟩ rfl (Nat.le_refl _) e_Mo_special rfl rfl ?_
        refine zR_to 151 rfl ?_
        exact zR_e rfl rfl rfl rfl rfl rfl
      | false =>
        rw [if_neg (by decide)]
        have go4 : ∀ {h9 : zH}, zR L xs (d + 6) m_Mo_product 85 [(1, .int (bI mb)), (0, .ref 20)] [.int (bI (eit (V 8) (V 9) 0))] (mV C u a b V M R) 0 (.inl none) h9 0 → zE L xs (d + 6) m_Mo_product [.ref 20] (mV C u a b V M R) (.inl none) h9 := fun {h9} hr => by
          refine go3 h02 ?_
          rw [h2]
          refine zR_to 82 rfl ?_
          exact zR_v rfl rfl rfl rfl rfl ⟨rfl, Nat.le_of_ble_eq_true rfl, Nat.le_of_ble_eq_true rfl⟩ rfl (Nat.le_refl _) e_Mo_either rfl rfl hr
        cases h0 : eit (V 8) (V 9) 0 with
        | true =>
          rw [if_pos rfl, nt_0]
          refine ⟨R, hR, go4 ?_⟩
          rw [h0]
          refine zR_to 91 rfl ?_
          refine zR_v rfl rfl rfl rfl rfl ⟨rfl, Nat.le_of_ble_eq_true rfl, Nat.le_of_ble_eq_true rfl⟩ rfl (Nat.le_refl _) e_Mo_special rfl rfl ?_
          refine zR_to 151 rfl ?_
          exact zR_e rfl rfl rfl rfl rfl rfl
        | false =>
          rw [if_neg (by decide)]
          obtain ⟨f8, f9⟩ := eit_fin hx hy h3 h2 h0
          obtain ⟨x1, x2, x3⟩ := hx.2.1 f8
          obtain ⟨y1, y2, y3⟩ := hy.2.1 f9
          have hX0 : rs (V 8) * rs (V 9) ≠ 0 := Nat.ne_of_gt (Nat.mul_pos (by omega) (by omega))
          have hXn : nb (rs (V 8) * rs (V 9)) ≤ 128 := mul_nb (m := 64) (n := 64) (nb_bd (uN_lt2 _)) (nb_bd (uN_lt2 _))
          have hX5 : rs (V 8) * rs (V 9) < 65536 ^ 32 := lt512 hXn (by decide)
          have hR1 : Rok (fu R 1 (rs (V 8))) := hR.fu (uN_rok _)
          have hR2 : Rok (fu (fu R 1 (rs (V 8))) 2 (rs (V 9))) := hR1.fu (uN_rok _)
          have hR3 : Rok (fu (fu (fu R 1 (rs (V 8))) 2 (rs (V 9))) 0 (rs (V 8) * rs (V 9))) := hR2.fu hX5
          refine ⟨_, rok_round (w := w) (mb := mb) hX0 hc.2.2.1 hR3, go4 ?_⟩
          rw [h0]
          refine zR_to 106 (st' := [.long (V 8).2.2.2, .int (nI 1), .ref 20]) rfl ?_
          refine zR_v rfl rfl rfl rfl rfl ⟨rfl, Nat.le_of_ble_eq_true rfl, Nat.le_of_ble_eq_true rfl⟩ rfl (Nat.le_refl _) (e_Mo_putU (r := 1) (by decide) hR) rfl rfl ?_
          refine zR_to 118 (st' := [.long (V 9).2.2.2, .int (nI 2), .ref 20]) rfl ?_
          refine zR_v rfl rfl rfl rfl rfl ⟨rfl, Nat.le_of_ble_eq_true rfl, Nat.le_of_ble_eq_true rfl⟩ rfl (Nat.le_refl _) (e_Mo_putU (r := 2) (by decide) hR1) rfl rfl ?_
          refine zR_to 125 (st' := [.int (nI 0), .int (nI 2), .int (nI 1), .ref 20]) rfl ?_
          refine zR_v rfl rfl rfl rfl rfl ⟨rfl, Nat.le_of_ble_eq_true rfl, Nat.le_of_ble_eq_true rfl⟩ rfl (Nat.le_refl _) (e_Mo_times (p := 1) (q := 2) (c := 0) (by decide) (by decide) (by decide) (by decide) (by decide) hR2 (by
            rw [fu_n (by decide), fu_s]
            exact Nat.lt_of_lt_of_le (uN_lt2 _) (by rw [B2]; exact Nat.pow_le_pow_right (by decide) (by decide)))) rfl rfl ?_
          rw [fu_s, fu_n (show (1 : Nat) ≠ 2 by decide), fu_s, Nat.mod_eq_of_lt hX5]
          refine zR_to 148 (st' := [.int (re (V 8) + re (V 9) - iZ 126), .int (bI mb), .ref 20]) rfl ?_
          rw [re_zr (V 8), re_zr (V 9), iZ_add, iZ_sub]
          refine zR_v rfl rfl rfl rfl rfl ⟨rfl, Nat.le_of_ble_eq_true rfl, Nat.le_of_ble_eq_true rfl⟩ rfl (Nat.le_refl _) (e_Mo_result (X := rs (V 8) * rs (V 9)) hc (by omega) hX0 (by omega) hR3 fu_s) rfl rfl ?_
          exact zR_e rfl rfl rfl rfl rfl rfl
end MU
