section SC
variable {L : Nat} {xs : Nat → Int32} {d : Nat} {mi : ZM} {pc : Nat} {lv : zL} {st st' : List Value} {h h' : zH} {k k' : Nat} {o : zO} {pc' : Nat}
variable {C : Nat → zC} {u : zC} {a : Nat → Int32} {b : Nat → Int64} {M : Nat → Int64} {R : Nat → Nat} {V : Nat → RV}
/-- x scaled by the power n (signed as y is) -/
def sclN (w p n : Nat) (x y : RV) : RV × Int32 := if rk x = 1 then (rVal w (rn x) (rs x) p 16383 (zr x - 63 + (if rn y then -(n : Int) else (n : Int))), rNt w (rn x) (rs x) p 16383 (zr x - 63 + (if rn y then -(n : Int) else (n : Int)))) else (x, 0)
/-- a finite scale of whole magnitude -/
def scFin (y : RV) : Prop := rk y = 1 ∧ (0 ≤ zr y ∧ zr y < 16) ∧ rs y / 2 ^ scK y ≤ 40000 ∧ rs y / 2 ^ scK y * 2 ^ scK y = rs y
theorem sclN_1 (w p n : Nat) (x y : RV) : (sclN w p n x y).1 = (if rk x = 1 then rVal w (rn x) (rs x) p 16383 (zr x - 63 + (if rn y then -(n : Int) else (n : Int))) else x) ∧ (sclN w p n x y).2 = (if rk x = 1 then rNt w (rn x) (rs x) p 16383 (zr x - 63 + (if rn y then -(n : Int) else (n : Int))) else 0) := by
  unfold sclN
  split <;> exact ⟨rfl, rfl⟩
set_option maxRecDepth 10000 in
set_option maxHeartbeats 4000000 in
theorem e_Mo_scaled {p w : Nat} {r9 : RV × Int32} (hc : cOk a p w) (hx : vOk (V 8)) (hR : Rok R)
    (h3r : eit (V 8) (V 9) 3 = true → r9 = (vNan, 0)) (h0r : eit (V 8) (V 9) 3 = false → rk (V 9) = 0 → r9 = sclN w p 0 (V 8) (V 9)) (h1r : eit (V 8) (V 9) 3 = false → scFin (V 9) → r9 = sclN w p (rs (V 9) / 2 ^ scK (V 9)) (V 8) (V 9)) (hbr : eit (V 8) (V 9) 3 = false → rk (V 9) ≠ 0 → ¬ scFin (V 9) → r9 = (vNan, 1)) :
    zEr L xs (d + 5) m_Mo_scaled [.ref 20] (mV C u a b V M R) (.inl none) C u (nt a r9.2) b (fu V 10 r9.1) M := by
  have go : ∀ {h9 : zH}, zR L xs (d + 5) m_Mo_scaled 5 [(0, .ref 20)] [.int (bI (eit (V 8) (V 9) 3))] (mV C u a b V M R) 0 (.inl none) h9 0 → zE L xs (d + 5) m_Mo_scaled [.ref 20] (mV C u a b V M R) (.inl none) h9 := fun {h9} hr => by
    refine ⟨0, Nat.zero_le _, ?_⟩
    refine zR_to 2 rfl ?_
    exact zR_v rfl rfl rfl rfl rfl ⟨rfl, Nat.le_of_ble_eq_true rfl, Nat.le_of_ble_eq_true rfl⟩ rfl (Nat.le_refl _) e_Mo_either rfl rfl hr
  cases h3 : eit (V 8) (V 9) 3 with
  | true =>
    rw [h3r h3, nt_0]
    refine ⟨R, hR, go ?_⟩
    rw [h3]
    refine zR_to 11 (st' := [.int (bI false), .int 3, .ref 20]) rfl ?_
    refine zR_v rfl rfl rfl rfl rfl ⟨rfl, Nat.le_of_ble_eq_true rfl, Nat.le_of_ble_eq_true rfl⟩ rfl (Nat.le_refl _) e_Mo_special rfl rfl ?_
    exact zR_e rfl rfl rfl rfl rfl rfl
  | false =>
    have go2 : ∀ {h9 : zH}, zR L xs (d + 5) m_Mo_scaled 22 [(0, .ref 20)] [.int (rk (V 9))] (mV C u a b V M R) 0 (.inl none) h9 0 → zE L xs (d + 5) m_Mo_scaled [.ref 20] (mV C u a b V M R) (.inl none) h9 := fun {h9} hr => by
      refine go ?_
      rw [h3]
      exact zR_to 22 rfl hr
    have bad : ∀ z : Int32, zR L xs (d + 5) m_Mo_scaled 137 [(1, .int (bI false)), (2, .int z), (0, .ref 20)] [] (mV C u a b V M R) 0 (.inl none) (mV C u (nt a 1) b (fu V 10 vNan) M R) 0 := by
      intro z
      refine zR_to 142 rfl ?_
      refine zR_v rfl rfl rfl rfl rfl ⟨rfl, Nat.le_of_ble_eq_true rfl, Nat.le_of_ble_eq_true rfl⟩ rfl (Nat.le_refl _) e_Mo_invalid rfl rfl ?_
      refine zR_to 220 rfl ?_
      exact zR_e rfl rfl rfl rfl rfl rfl
    by_cases h0 : rk (V 9) = 0
    · rw [h0r h3 h0]
      obtain ⟨R', hR', hgo⟩ := f_Mo_scaled (L := L) (xs := xs) (d := d) (C := C) (u := u) (a := a) (b := b) (V := V) (M := M) (R := R) (p := p) (w := w) (n := 0) hc hx hR (by decide)
      rw [← (sclN_1 w p 0 (V 8) (V 9)).1, ← (sclN_1 w p 0 (V 8) (V 9)).2] at hgo
      refine ⟨R', hR', go2 ?_⟩
      rw [h0]
      refine zR_to 78 (st' := [.int 1, .int (rk (V 9))]) rfl ?_
      rw [h0]
      refine zR_to 137 rfl ?_
      exact zR_w hgo rfl rfl ⟨rfl, rfl, rfl, trivial⟩
    · have go3 : ∀ {h9 : zH}, zR L xs (d + 5) m_Mo_scaled 33 [(0, .ref 20)] [.int 1, .int (rk (V 9))] (mV C u a b V M R) 0 (.inl none) h9 0 → zE L xs (d + 5) m_Mo_scaled [.ref 20] (mV C u a b V M R) (.inl none) h9 := fun {h9} hr => by
        refine go2 ?_
        refine zR_m 1 rfl ?_
        refine zR_if (fun h => absurd h h0) (fun _ => zR_to 33 rfl hr)
      have bad62 : zR L xs (d + 5) m_Mo_scaled 62 [(0, .ref 20)] [] (mV C u a b V M R) 0 (.inl none) (mV C u (nt a 1) b (fu V 10 vNan) M R) 0 := by
        refine zR_to 137 rfl ?_
        exact zR_w (bad 0) rfl rfl ⟨rfl, rfl, rfl, trivial⟩
      by_cases h1 : rk (V 9) = 1 ∧ (0 ≤ zr (V 9) ∧ zr (V 9) < 16)
      · obtain ⟨h91, he⟩ := h1
        have hr9 := iZ_rng (re (V 9))
        have hk : scK (V 9) < 64 ∧ 48 ≤ scK (V 9) := by unfold scK; omega
        have hsl : rs (V 9) < 2 ^ 64 := uN_lt2 _
        have hq : rs (V 9) / 2 ^ scK (V 9) < 2 ^ 16 := by
          apply Nat.div_lt_of_lt_mul
          rw [← Nat.pow_add]
          exact Nat.lt_of_lt_of_le hsl (Nat.pow_le_pow_right (by decide) (by omega))
        have hqk : rs (V 9) / 2 ^ scK (V 9) * 2 ^ scK (V 9) < 2 ^ 64 := Nat.lt_of_le_of_lt (Nat.div_mul_le_self _ _) hsl
        have go4 : ∀ {h9 : zH}, zR L xs (d + 5) m_Mo_scaled 101 [(2, .int (nI (rs (V 9) / 2 ^ scK (V 9)))), (1, .int (bI true)), (0, .ref 20)] [] (mV C u a b V M R) 0 (.inl none) h9 0 → zE L xs (d + 5) m_Mo_scaled [.ref 20] (mV C u a b V M R) (.inl none) h9 := fun {h9} hr => by
          refine go3 ?_
          rw [h91]
          refine zR_to 43 (st' := [.int (re (V 9))]) rfl ?_
          rw [re_zr (V 9)]
          refine zR_m 1 rfl ?_
          refine zR_if (fun h => ?_) (fun _ => ?_)
          · have := (iZ_lt (y := 0) (by omega) (by omega)).mp h
            omega
          refine zR_to 55 (st' := [.int (iZ 16), .int (re (V 9))]) rfl ?_
          rw [re_zr (V 9)]
          refine zR_m 1 rfl ?_
          refine zR_if (fun h => ?_) (fun _ => ?_)
          · have := (iZ_le (by omega) (by omega)).mp h
            omega
          refine zR_to 78 (st' := [.int 1, .int (rk (V 9))]) rfl ?_
          rw [h91]
          refine zR_to 98 (st' := [.int (iZ 63 - re (V 9)), .long (V 9).2.2.2]) rfl ?_
          rw [re_zr (V 9), sc_k he.1 he.2, ← lN_uN (V 9).2.2.2]
          refine zR_to 100 (st' := [.int ((lN (uN (V 9).2.2.2)).toUInt64 >>> ((nI (63 - zr (V 9)).toNat).toInt64.toUInt64 &&& Int64.toUInt64 63)).toInt64.toInt32]) rfl ?_
          rw [sc_n hsl (show (63 - zr (V 9)).toNat < 64 by omega)]
          refine zR_to 101 rfl ?_
          exact zR_w hr rfl rfl ⟨rfl, rfl, rfl, trivial⟩
        by_cases hl : rs (V 9) / 2 ^ scK (V 9) ≤ 40000
        · have go5 : ∀ {h9 : zH}, zR L xs (d + 5) m_Mo_scaled 128 [(2, .int (nI (rs (V 9) / 2 ^ scK (V 9)))), (1, .int (bI true)), (0, .ref 20)] [.int (lg_cmp (lN (rs (V 9) / 2 ^ scK (V 9) * 2 ^ scK (V 9))) (lN (rs (V 9))))] (mV C u a b V M R) 0 (.inl none) h9 0 → zE L xs (d + 5) m_Mo_scaled [.ref 20] (mV C u a b V M R) (.inl none) h9 := fun {h9} hr => by
            refine go4 ?_
            refine zR_to 104 (st' := [.int (nI 40000), .int (nI (rs (V 9) / 2 ^ scK (V 9)))]) rfl ?_
            refine zR_m 1 rfl ?_
            refine zR_if (fun h => absurd h (nI_nlt (a := 40000) (b := rs (V 9) / 2 ^ scK (V 9)) hl (by omega))) (fun _ => ?_)
            refine zR_to 119 (st' := [.int (iZ 63 - re (V 9)), .long (nI (rs (V 9) / 2 ^ scK (V 9))).toInt64]) rfl ?_
            rw [re_zr (V 9), sc_k he.1 he.2]
            refine zR_to 120 (st' := [.long ((nI (rs (V 9) / 2 ^ scK (V 9))).toInt64 <<< ((nI (63 - zr (V 9)).toNat).toInt64 &&& 63))]) rfl ?_
            rw [sc_b (by omega) (show (63 - zr (V 9)).toNat < 64 by omega)]
            refine zR_to 127 (st' := [.long (V 9).2.2.2, .long (lN (rs (V 9) / 2 ^ scK (V 9) * 2 ^ (63 - zr (V 9)).toNat))]) rfl ?_
            rw [← lN_uN (V 9).2.2.2]
            exact zR_to 128 rfl hr
          by_cases heq : rs (V 9) / 2 ^ scK (V 9) * 2 ^ scK (V 9) = rs (V 9)
          · rw [h1r h3 ⟨h91, he, hl, heq⟩]
            obtain ⟨R', hR', hgo⟩ := f_Mo_scaled (L := L) (xs := xs) (d := d) (C := C) (u := u) (a := a) (b := b) (V := V) (M := M) (R := R) (p := p) (w := w) (n := rs (V 9) / 2 ^ scK (V 9)) hc hx hR hl
            rw [← (sclN_1 w p (rs (V 9) / 2 ^ scK (V 9)) (V 8) (V 9)).1, ← (sclN_1 w p (rs (V 9) / 2 ^ scK (V 9)) (V 8) (V 9)).2] at hgo
            refine ⟨R', hR', go5 ?_⟩
            rw [(lg_cmp_eq _ _).mpr (by rw [heq])]
            refine zR_to 137 rfl ?_
            exact zR_w hgo rfl rfl ⟨rfl, rfl, rfl, trivial⟩
          · rw [hbr h3 h0 (fun h9 => heq h9.2.2.2)]
            refine ⟨R, hR, go5 ?_⟩
            refine zR_m 1 rfl ?_
            refine zR_if (fun _ => ?_) (fun h => absurd (fun h7 => heq ((lN_eq64 hqk hsl).mp ((lg_cmp_eq _ _).mp h7))) h)
            refine zR_to 137 rfl ?_
            exact zR_w (bad _) rfl rfl ⟨rfl, rfl, rfl, trivial⟩
        · rw [hbr h3 h0 (fun h9 => hl h9.2.2.1)]
          refine ⟨R, hR, go4 ?_⟩
          refine zR_to 104 (st' := [.int (nI 40000), .int (nI (rs (V 9) / 2 ^ scK (V 9)))]) rfl ?_
          refine zR_m 1 rfl ?_
          refine zR_if (fun _ => ?_) (fun h => absurd (nI_lt (a := 40000) (b := rs (V 9) / 2 ^ scK (V 9)) (by omega) (by omega)) h)
          refine zR_to 137 rfl ?_
          exact zR_w (bad _) rfl rfl ⟨rfl, rfl, rfl, trivial⟩
      · rw [hbr h3 h0 (fun h9 => h1 ⟨h9.1, h9.2.1⟩)]
        refine ⟨R, hR, go3 ?_⟩
        have hr9 := iZ_rng (re (V 9))
        have hzr : zr (V 9) = (re (V 9)).toInt := rfl
        refine zR_m 1 rfl ?_
        refine zR_if (fun _ => bad62) (fun h => ?_)
        have h91 : rk (V 9) = 1 := Decidable.of_not_not h
        refine zR_to 43 (st' := [.int (re (V 9))]) rfl ?_
        rw [re_zr (V 9)]
        refine zR_m 1 rfl ?_
        refine zR_if (fun _ => bad62) (fun h2 => ?_)
        have h4 : 0 ≤ zr (V 9) := by
          rcases Int.lt_or_le (zr (V 9)) 0 with h9 | h9
          · exact absurd ((iZ_lt (y := 0) (by omega) (by omega)).mpr h9) h2
          · exact h9
        refine zR_to 55 (st' := [.int (iZ 16), .int (re (V 9))]) rfl ?_
        rw [re_zr (V 9)]
        refine zR_m 1 rfl ?_
        refine zR_if (fun _ => bad62) (fun h5 => absurd ((iZ_le (by omega) (by omega)).mpr (by
          rcases Int.lt_or_le (zr (V 9)) 16 with h9 | h9
          · exact absurd ⟨h91, h4, h9⟩ h1
          · exact h9)) h5)
end SC
