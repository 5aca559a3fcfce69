/-! the finite sum -/
/-- the two numbers that are added or compared, over the lowest exponent -/
def fsA (x : RV) (ex ey : Int) : Nat := shZ (rs x) (if 70 < ex - ey then 10 else ex - ey)
def fsD (y : RV) (ex ey : Int) : Nat := if 70 < ex - ey then 1 else rs y
def fsQ (ex ey : Int) : Int := if 70 < ex - ey then ex - 73 else ey - 63
/-- a sum's result: magnitude N, sign mb -/
def nRes (w p : Nat) (mb : Bool) (N : Nat) (q : Int) : RV × Int32 := if N = 0 then ((0, decide (w = 1), 0, 0), 0) else (rVal w mb N p 16383 q, rNt w mb N p 16383 q)
def fsR (w p : Nat) (x y : RV) (ex ey : Int) : RV × Int32 := if rn x = rn y then nRes w p (rn x) (fsA x ex ey + fsD y ex ey) (fsQ ex ey)
  else if fsD y ex ey ≤ fsA x ex ey then nRes w p (rn x) (fsA x ex ey - fsD y ex ey) (fsQ ex ey) else nRes w p (rn y) (fsD y ex ey - fsA x ex ey) (fsQ ex ey)
theorem cmpZ_ge {x y : Nat} : 0 ≤ cmpZ x y ↔ y ≤ x := by
  unfold cmpZ
  split
  · omega
  · split <;> omega
theorem cmpZ_rng (x y : Nat) : -1 ≤ cmpZ x y ∧ cmpZ x y ≤ 1 := by
  unfold cmpZ
  split
  · omega
  · split <;> omega
theorem bI_eq {x y : Bool} : bI x = bI y ↔ x = y := by cases x <;> cases y <;> decide
section FS
variable {L : Nat} {xs : Nat → Int32} {d : Nat} {mi : ZM} {pc : Nat} {lv : zL} {st st' : List Value} {h' : zH} {k k' : Nat} {o : zO} {pc' : Nat}
variable {C : Nat → zC} {u : zC} {a : Nat → Int32} {b : Nat → Int64} {M : Nat → Int64} {R : Nat → Nat} {V : Nat → RV}
set_option maxRecDepth 10000 in
theorem f_Mo_finiteSum {N p w : Nat} {q : Int} {mb : Bool} (hc : cOk a p w) (hq : -100000 ≤ q ∧ q ≤ 100000) (hN : nb N ≤ 400) (hR : Rok R) (hR0 : R 0 = N) : ∃ R', Rok R' ∧ zR L xs (d + 5) m_Mo_finiteSum 177 [(6, .int (bI mb)), (5, .int (iZ q)), (0, .ref 20)] [] (mV C u a b V M R) 0 (.inl none) (mV C u (nt a (nRes w p mb N q).2) b (fu V 10 (nRes w p mb N q).1) M R') 0 := by
  unfold nRes
  by_cases h0 : N = 0
  · rw [if_pos h0, nt_0]
    refine ⟨R, hR, ?_⟩
    refine zR_to 179 rfl ?_
    refine zR_v rfl rfl rfl rfl rfl ⟨rfl, Nat.le_of_ble_eq_true rfl, Nat.le_of_ble_eq_true rfl⟩ rfl (Nat.le_refl _) (e_Mo_top (r := 0) (by decide) hR) rfl rfl ?_
    rw [hR0, h0, nb_0]
    refine zR_to 192 (st' := [.int 1, .int (a 2), .int 0, .ref 20]) rfl ?_
    rw [hc.2.1]
    obtain ⟨-, -, -, hw⟩ := hc
    refine zR_m 1 rfl ?_
    refine zR_if (fun h => ?_) (fun h => ?_)
    · have h1 : ¬ w = 1 := fun h9 => h (by rw [h9]; rfl)
      rw [decide_eq_false h1]
      refine zR_to 200 rfl ?_
      refine zR_v rfl rfl rfl rfl rfl ⟨rfl, Nat.le_of_ble_eq_true rfl, Nat.le_of_ble_eq_true rfl⟩ rfl (Nat.le_refl _) (e_Mo_special (mb := false)) rfl rfl ?_
      refine zR_to 214 rfl ?_
      exact zR_e rfl rfl rfl rfl rfl rfl
    · have h1 : w = 1 := by
        rcases Decidable.em (w = 1) with h9 | h9
        · exact h9
        · exact absurd (fun h8 => h9 ((nI_eq (by omega) (by omega)).mp h8)) h
      rw [decide_eq_true h1]
      refine zR_to 200 rfl ?_
      refine zR_v rfl rfl rfl rfl rfl ⟨rfl, Nat.le_of_ble_eq_true rfl, Nat.le_of_ble_eq_true rfl⟩ rfl (Nat.le_refl _) (e_Mo_special (mb := true)) rfl rfl ?_
      refine zR_to 214 rfl ?_
      exact zR_e rfl rfl rfl rfl rfl rfl
  · rw [if_neg h0]
    refine ⟨_, rok_round (w := w) (mb := mb) h0 hc.2.2.1 hR, ?_⟩
    refine zR_to 179 rfl ?_
    refine zR_v rfl rfl rfl rfl rfl ⟨rfl, Nat.le_of_ble_eq_true rfl, Nat.le_of_ble_eq_true rfl⟩ rfl (Nat.le_refl _) (e_Mo_top (r := 0) (by decide) hR) rfl rfl ?_
    rw [hR0]
    have hn : 1 ≤ nb N := by
      rcases Nat.eq_zero_or_pos (nb N) with h9 | h9
      · have := nb_lt N
        rw [h9] at this
        omega
      · exact h9
    refine zR_m 1 rfl ?_
    refine zR_if (fun h => ?_) (fun h => absurd ((iZ_le (x := 0) (by omega) (by omega)).mpr (show (0 : Int) ≤ (nb N : Int) - 1 by omega)) h)
    refine zR_to 211 rfl ?_
    refine zR_v rfl rfl rfl rfl rfl ⟨rfl, Nat.le_of_ble_eq_true rfl, Nat.le_of_ble_eq_true rfl⟩ rfl (Nat.le_refl _) (e_Mo_result hc hq h0 hN hR hR0) rfl rfl ?_
    exact zR_e rfl rfl rfl rfl rfl rfl
theorem e_Mo_putU {r : Nat} {s : Int64} (hr : r < 5) (hR : Rok R) : zE L xs (d + 1) m_Mo_put [.ref 20, .int (nI r), .long s] (mV C u a b V M R) (.inl none) (mV C u a b V M (fu R r (uN s))) := by
  have h9 := e_Mo_put (L := L) (xs := xs) (d := d) (C := C) (u := u) (a := a) (b := b) (K := fun i => (V i).1) (B := fun i => (V i).2.1) (E := fun i => (V i).2.2.1) (S := fun i => (V i).2.2.2) (M := M) (R := R) (r := r) (n := uN s) hr (uN_lt2 s) hR
  rw [lN_uN] at h9
  exact h9
theorem uN_rok (s : Int64) : uN s < 65536 ^ 32 := Nat.lt_of_lt_of_le (uN_lt2 s) (by rw [B2]; exact Nat.pow_le_pow_right (by decide) (by decide))
theorem add_nb {x y n : Nat} (h1 : nb x ≤ n) (h2 : nb y ≤ n) : nb (x + y) ≤ n + 1 := nb_bd (by
  have e1 := Nat.lt_of_lt_of_le (nb_lt x) (Nat.pow_le_pow_right (n := 2) (by decide) h1)
  have e2 := Nat.lt_of_lt_of_le (nb_lt y) (Nat.pow_le_pow_right (n := 2) (by decide) h2)
  rw [Nat.pow_succ]
  omega)
theorem sub_nb {x y n : Nat} (h1 : nb x ≤ n) : nb (x - y) ≤ n := nb_bd (by
  have e1 := Nat.lt_of_lt_of_le (nb_lt x) (Nat.pow_le_pow_right (n := 2) (by decide) h1)
  omega)
theorem fsA_nb {x : RV} {ex ey : Int} (hs : 2 ^ 63 ≤ rs x) (h : ey ≤ ex) : nb (fsA x ex ey) ≤ 134 := by
  have h1 := nb64 hs (uN_lt2 _)
  have h0 : rs x ≠ 0 := by omega
  unfold fsA
  split
  · have := nb_shZ h0 (n := 10) (by omega)
    omega
  · have := nb_shZ h0 (n := ex - ey) (by omega)
    omega
theorem fsD_nb {y : RV} {ex ey : Int} : nb (fsD y ex ey) ≤ 64 := by
  unfold fsD
  split
  · decide
  · exact nb_bd (uN_lt2 _)
set_option maxRecDepth 10000 in
/-- from the signs on -/
theorem g_Mo_finiteSum {i j p w : Nat} {q : Int} {A D : Nat} (hi : i < 11) (hj : j < 11) (hc : cOk a p w) (hq : -100000 ≤ q ∧ q ≤ 100000) (hA : nb A ≤ 134) (hD : nb D ≤ 64) (hR : Rok R) (hR0 : R 0 = A) (hR1 : R 1 = D) : ∃ R', Rok R' ∧
    zR L xs (d + 5) m_Mo_finiteSum 103 [(5, .int (iZ q)), (0, .ref 20), (1, .int (nI i)), (2, .int (nI j))] [] (mV C u a b V M R) 0 (.inl none)
      (mV C u (nt a (if rn (V i) = rn (V j) then nRes w p (rn (V i)) (A + D) q else if D ≤ A then nRes w p (rn (V i)) (A - D) q else nRes w p (rn (V j)) (D - A) q).2) b (fu V 10 (if rn (V i) = rn (V j) then nRes w p (rn (V i)) (A + D) q else if D ≤ A then nRes w p (rn (V i)) (A - D) q else nRes w p (rn (V j)) (D - A) q).1) M R') 0 := by
  have hA5 : A < 65536 ^ 32 := lt512 hA (by decide)
  have hD5 : D < 65536 ^ 32 := lt512 hD (by decide)
  have hAD : nb (A + D) ≤ 135 := add_nb hA (by omega)
  by_cases hs : rn (V i) = rn (V j)
  · rw [if_pos hs]
    have hAD5 : A + D < 65536 ^ 32 := lt512 hAD (by decide)
    obtain ⟨R', hR', hgo⟩ := f_Mo_finiteSum (L := L) (xs := xs) (d := d) (C := C) (u := u) (a := a) (b := b) (V := V) (M := M) (R := fu R 0 (A + D)) (mb := rn (V i)) (N := A + D) hc hq (by omega) (hR.fu hAD5) fu_s
    refine ⟨R', hR', ?_⟩
    refine zR_to 108 rfl ?_
    refine zB_get rfl rfl hi rfl ?_
    refine zR_to 116 rfl ?_
    refine zB_get rfl rfl hi rfl ?_
    refine zR_to 122 rfl ?_
    refine zB_get rfl rfl hj rfl ?_
    refine zR_m 1 rfl ?_
    refine zR_if (fun h => absurd (bI_eq.mpr hs) h) (fun _ => ?_)
    refine zR_to 130 (st' := [.int (iZ 1), .int (nI 1), .int (nI 0), .ref 20]) rfl ?_
    refine zR_v rfl rfl rfl rfl rfl ⟨rfl, Nat.le_of_ble_eq_true rfl, Nat.le_of_ble_eq_true rfl⟩ rfl (Nat.le_refl _) (e_Mo_add (p := 0) (q := 1) (s := 1) (Or.inl rfl) (by decide) (by decide) (by decide) hR) rfl rfl ?_
    rw [hR0, hR1, adL_add hAD5]
    refine zR_to 177 rfl ?_
    exact zR_w hgo rfl rfl ⟨rfl, rfl, rfl, trivial⟩
  · rw [if_neg hs]
    have hcr := cmpZ_rng A D
    by_cases hl : D ≤ A
    · rw [if_pos hl]
      have hAD5 : A - D < 65536 ^ 32 := by omega
      obtain ⟨R', hR', hgo⟩ := f_Mo_finiteSum (L := L) (xs := xs) (d := d) (C := C) (u := u) (a := a) (b := b) (V := V) (M := M) (R := fu R 0 (A - D)) (mb := rn (V i)) (N := A - D) hc hq (by have := sub_nb (y := D) hA; omega) (hR.fu hAD5) fu_s
      refine ⟨R', hR', ?_⟩
      refine zR_to 108 rfl ?_
      refine zB_get rfl rfl hi rfl ?_
      refine zR_to 116 rfl ?_
      refine zB_get rfl rfl hi rfl ?_
      refine zR_to 122 rfl ?_
      refine zB_get rfl rfl hj rfl ?_
      refine zR_m 1 rfl ?_
      refine zR_if (fun _ => ?_) (fun h => absurd (fun h9 => hs (bI_eq.mp h9)) h)
      refine zR_to 139 rfl ?_
      refine zR_v rfl rfl rfl rfl rfl ⟨rfl, Nat.le_of_ble_eq_true rfl, Nat.le_of_ble_eq_true rfl⟩ rfl (Nat.le_refl _) (e_Mo_compareRows (p := 0) (q := 1) (by decide) (by decide) hR) rfl rfl ?_
      rw [hR0, hR1]
      refine zR_m 1 rfl ?_
      refine zR_if (fun h => ?_) (fun _ => ?_)
      · have := (iZ_lt (y := 0) (by omega) (by omega)).mp h
        have := cmpZ_ge.mpr hl
        omega
      refine zR_to 149 (st' := [.int (iZ (-1)), .int (nI 1), .int (nI 0), .ref 20]) rfl ?_
      refine zR_v rfl rfl rfl rfl rfl ⟨rfl, Nat.le_of_ble_eq_true rfl, Nat.le_of_ble_eq_true rfl⟩ rfl (Nat.le_refl _) (e_Mo_add (p := 0) (q := 1) (s := -1) (Or.inr rfl) (by decide) (by decide) (by decide) hR) rfl rfl ?_
      rw [hR0, hR1, adL_sub hA5 hl]
      refine zR_to 177 rfl ?_
      exact zR_w hgo rfl rfl ⟨rfl, rfl, rfl, trivial⟩
    · rw [if_neg hl]
      have hAD5 : D - A < 65536 ^ 32 := by omega
      have hR2 : Rok (fu R 1 (D - A)) := hR.fu hAD5
      have hDn : nb (D - A) ≤ 64 := sub_nb hD
      obtain ⟨R', hR', hgo⟩ := f_Mo_finiteSum (L := L) (xs := xs) (d := d) (C := C) (u := u) (a := a) (b := b) (V := V) (M := M) (R := fu (fu R 1 (D - A)) 0 (D - A)) (mb := rn (V j)) (N := D - A) hc hq (by omega) (hR2.fu hAD5) fu_s
      refine ⟨R', hR', ?_⟩
      refine zR_to 108 rfl ?_
      refine zB_get rfl rfl hi rfl ?_
      refine zR_to 116 rfl ?_
      refine zB_get rfl rfl hi rfl ?_
      refine zR_to 122 rfl ?_
      refine zB_get rfl rfl hj rfl ?_
      refine zR_m 1 rfl ?_
      refine zR_if (fun _ => ?_) (fun h => absurd (fun h9 => hs (bI_eq.mp h9)) h)
      refine zR_to 139 rfl ?_
      refine zR_v rfl rfl rfl rfl rfl ⟨rfl, Nat.le_of_ble_eq_true rfl, Nat.le_of_ble_eq_true rfl⟩ rfl (Nat.le_refl _) (e_Mo_compareRows (p := 0) (q := 1) (by decide) (by decide) hR) rfl rfl ?_
      rw [hR0, hR1]
      refine zR_m 1 rfl ?_
      refine zR_if (fun _ => ?_) (fun h => absurd ((iZ_lt (y := 0) (by omega) (by omega)).mpr (by
        rcases Int.lt_or_le (cmpZ A D) 0 with h9 | h9
        · exact h9
        · exact absurd (cmpZ_ge.mp h9) hl)) h)
      refine zR_to 159 (st' := [.int (iZ (-1)), .int (nI 0), .int (nI 1), .ref 20]) rfl ?_
      refine zR_v rfl rfl rfl rfl rfl ⟨rfl, Nat.le_of_ble_eq_true rfl, Nat.le_of_ble_eq_true rfl⟩ rfl (Nat.le_refl _) (e_Mo_add (p := 1) (q := 0) (s := -1) (Or.inr rfl) (by decide) (by decide) (by decide) hR) rfl rfl ?_
      rw [hR0, hR1, adL_sub hD5 (by omega)]
      refine zR_to 166 (st' := [.int (iZ 0), .int (nI 0), .int (nI 1), .ref 20]) rfl ?_
      refine zR_v rfl rfl rfl rfl rfl ⟨rfl, Nat.le_of_ble_eq_true rfl, Nat.le_of_ble_eq_true rfl⟩ rfl (Nat.le_refl _) (e_Mo_shift (f := 1) (t := 0) (n := 0) (by decide) (by decide) (by decide) hR2 (by rw [fu_s]; omega) (by omega)) rfl rfl ?_
      rw [fu_s, show shZ (D - A) 0 = D - A from by rw [show (0 : Int) = ((0 : Nat) : Int) from rfl, shZ_pos, Nat.pow_zero, Nat.mul_one]]
      refine zR_to 174 rfl ?_
      refine zB_get rfl rfl hj rfl ?_
      refine zR_to 177 rfl ?_
      exact zR_w hgo rfl rfl ⟨rfl, rfl, rfl, trivial⟩
set_option maxRecDepth 10000 in
theorem e_Mo_finiteSum {i j p w : Nat} {ex ey : Int} (hi : i < 11) (hj : j < 11) (hc : cOk a p w) (hx : re (V i) = iZ ex) (hy : re (V j) = iZ ey) (hs : 2 ^ 63 ≤ rs (V i)) (hl : ey ≤ ex) (hex : -17000 ≤ ey ∧ ex ≤ 17000) (hR : Rok R) :
    zEr L xs (d + 5) m_Mo_finiteSum [.ref 20, .int (nI i), .int (nI j)] (mV C u a b V M R) (.inl none) C u (nt a (fsR w p (V i) (V j) ex ey).2) b (fu V 10 (fsR w p (V i) (V j) ex ey).1) M := by
  have hA := fsA_nb hs hl
  have hD := fsD_nb (y := V j) (ex := ex) (ey := ey)
  have hA5 : fsA (V i) ex ey < 65536 ^ 32 := lt512 hA (by decide)
  have hD5 : fsD (V j) ex ey < 65536 ^ 32 := lt512 hD (by decide)
  have h64 := nb64 hs (uN_lt2 _)
  have hR1 : Rok (fu R 1 (rs (V i))) := hR.fu (uN_rok _)
  have hR2 : Rok (fu (fu R 1 (rs (V i))) 0 (fsA (V i) ex ey)) := hR1.fu hA5
  have hR3 : Rok (fu (fu (fu R 1 (rs (V i))) 0 (fsA (V i) ex ey)) 1 (fsD (V j) ex ey)) := hR2.fu hD5
  obtain ⟨R', hR', hgo⟩ := g_Mo_finiteSum (L := L) (xs := xs) (d := d) (C := C) (u := u) (a := a) (b := b) (V := V) (M := M) (i := i) (j := j) (q := fsQ ex ey) (A := fsA (V i) ex ey) (D := fsD (V j) ex ey) hi hj hc (by unfold fsQ; split <;> omega) hA hD hR3 (by rw [fu_n (by decide), fu_s]) fu_s
  refine ⟨R', hR', 0, Nat.zero_le _, ?_⟩
  refine zR_to 5 rfl ?_
  refine zX_get rfl rfl hi rfl ?_
  refine zR_to 11 rfl ?_
  refine zX_get rfl rfl hj rfl ?_
  refine zR_to 13 (st' := [.int (re (V i) - re (V j))]) rfl ?_
  rw [hx, hy, iZ_sub]
  refine zR_to 17 (st' := [.int (iZ 70), .int (iZ (ex - ey))]) rfl ?_
  refine zR_m 1 rfl ?_
  refine zR_if (fun h => ?_) (fun h => ?_)
  · have h1 := (iZ_le (by omega) (by omega)).mp h
    refine zR_to 34 rfl ?_
    refine zS_get rfl rfl hi rfl ?_
    refine zR_v rfl rfl rfl rfl rfl ⟨rfl, Nat.le_of_ble_eq_true rfl, Nat.le_of_ble_eq_true rfl⟩ rfl (Nat.le_refl _) (e_Mo_putU (r := 1) (by decide) hR) rfl rfl ?_
    refine zR_to 52 (st' := [.int (iZ (ex - ey)), .int (nI 0), .int (nI 1), .ref 20]) rfl ?_
    refine zR_v rfl rfl rfl rfl rfl ⟨rfl, Nat.le_of_ble_eq_true rfl, Nat.le_of_ble_eq_true rfl⟩ rfl (Nat.le_refl _) (e_Mo_shift (f := 1) (t := 0) (n := ex - ey) (by decide) (by decide) (by decide) hR1 (by rw [fu_s]; show (nb (rs (V i)) : Int) + (ex - ey) ≤ 512; omega) (by omega)) rfl rfl ?_
    rw [fu_s, show shZ (uN (V i).2.2.2) (ex - ey) = fsA (V i) ex ey from by unfold fsA; rw [if_neg (by omega)]]
    refine zR_to 71 rfl ?_
    refine zS_get rfl rfl hj rfl ?_
    refine zR_v rfl rfl rfl rfl rfl ⟨rfl, Nat.le_of_ble_eq_true rfl, Nat.le_of_ble_eq_true rfl⟩ rfl (Nat.le_refl _) (e_Mo_putU (r := 1) (by decide) hR2) rfl rfl ?_
    rw [show uN (V j).2.2.2 = fsD (V j) ex ey from by unfold fsD; rw [if_neg (by omega)]]
    refine zR_to 97 rfl ?_
    refine zX_get rfl rfl hj rfl ?_
    refine zR_to 101 (st' := [.int (re (V j) - iZ 63)]) rfl ?_
    rw [hy, iZ_sub, show ey - 63 = fsQ ex ey from by unfold fsQ; rw [if_neg (by omega)]]
    refine zR_to 103 rfl ?_
    exact zR_w hgo rfl rfl ⟨rfl, rfl, rfl, rfl, trivial⟩
  · have h1 : ¬ ex - ey ≤ 70 := fun h9 => h ((iZ_le (by omega) (by omega)).mpr h9)
    refine zR_to 34 rfl ?_
    refine zS_get rfl rfl hi rfl ?_
    refine zR_v rfl rfl rfl rfl rfl ⟨rfl, Nat.le_of_ble_eq_true rfl, Nat.le_of_ble_eq_true rfl⟩ rfl (Nat.le_refl _) (e_Mo_putU (r := 1) (by decide) hR) rfl rfl ?_
    refine zR_to 52 (st' := [.int (iZ 10), .int (nI 0), .int (nI 1), .ref 20]) rfl ?_
    refine zR_v rfl rfl rfl rfl rfl ⟨rfl, Nat.le_of_ble_eq_true rfl, Nat.le_of_ble_eq_true rfl⟩ rfl (Nat.le_refl _) (e_Mo_shift (f := 1) (t := 0) (n := 10) (by decide) (by decide) (by decide) hR1 (by rw [fu_s]; show (nb (rs (V i)) : Int) + 10 ≤ 512; omega) (by omega)) rfl rfl ?_
    rw [fu_s, show shZ (uN (V i).2.2.2) 10 = fsA (V i) ex ey from by unfold fsA; rw [if_pos (by omega)]]
    have hd1 : fsD (V j) ex ey = 1 := by unfold fsD; rw [if_pos (by omega)]
    refine zR_to 72 (st' := [.long (lN (fsD (V j) ex ey)), .int (nI 1), .ref 20]) (by rw [hd1]; rfl) ?_
    refine zR_v rfl rfl rfl rfl rfl ⟨rfl, Nat.le_of_ble_eq_true rfl, Nat.le_of_ble_eq_true rfl⟩ rfl (Nat.le_refl _) (e_Mo_put (r := 1) (n := fsD (V j) ex ey) (by decide) (by rw [hd1]; decide) hR2) rfl rfl ?_
    refine zR_to 85 rfl ?_
    refine zX_get rfl rfl hi rfl ?_
    refine zR_to 101 (st' := [.int (re (V i) - iZ 73)]) rfl ?_
    rw [hx, iZ_sub, show ex - 73 = fsQ ex ey from by unfold fsQ; rw [if_pos (by omega)]]
    refine zR_to 103 rfl ?_
    exact zR_w hgo rfl rfl ⟨rfl, rfl, rfl, rfl, trivial⟩
end FS
