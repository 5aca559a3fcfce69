/-! the quotient -/
def dvX (N D : Nat) : Nat := 2 * (N * 2 ^ 79 / D) + (if N * 2 ^ 79 % D = 0 then 0 else 1)
/-- after k steps: quotient and rest -/
def dvI (N D k Q r : Nat) : Prop := N * 2 ^ k = 2 * (Q * D) + r ∧ r < 2 * D ∧ Q < 2 ^ k
theorem dv_step {N D k Q r : Nat} (h : dvI N D k Q r) : (D ≤ r → dvI N D (k + 1) (2 * Q + 1) (2 * (r - D))) ∧ (r < D → dvI N D (k + 1) (2 * Q) (2 * r)) := by
  obtain ⟨h1, h2, h3⟩ := h
  unfold dvI
  rw [Nat.pow_succ, ← Nat.mul_assoc, h1]
  constructor
  · intro hl
    refine ⟨?_, by omega, by omega⟩
    rw [Nat.add_mul (2 * Q), Nat.one_mul, Nat.mul_assoc]
    omega
  · intro hl
    refine ⟨?_, by omega, by omega⟩
    rw [Nat.mul_assoc]
    omega
theorem dv_end {N D Q r : Nat} (hD : 0 < D) (h : dvI N D 80 Q r) : dvX N D = 2 * Q + (if r = 0 then 0 else 1) := by
  obtain ⟨h1, h2, h3⟩ := h
  have e : N * 2 ^ 79 = Q * D + r / 2 ∧ r % 2 = 0 := by
    have : N * 2 ^ 80 = 2 * (N * 2 ^ 79) := by rw [Nat.pow_succ 2 79, ← Nat.mul_assoc, Nat.mul_comm]
    omega
  have hr : r / 2 < D := by omega
  unfold dvX
  rw [e.1, Nat.add_comm (Q * D), Nat.add_mul_div_right _ _ hD, Nat.div_eq_of_lt hr, Nat.zero_add, Nat.add_mul_mod_self_right, Nat.mod_eq_of_lt hr]
  by_cases h0 : r = 0
  · rw [if_pos h0, if_pos (by omega)]
  · rw [if_neg h0, if_neg (by omega)]
theorem or_1 (x : Nat) : 2 * x ||| 2 ^ 0 = 2 * x + 1 := by
  have h := Nat.two_pow_add_eq_or_of_lt (i := 1) (b := 1) (by decide) x
  rw [Nat.pow_one] at h
  exact h.symm
theorem sh1 (x : Nat) : shZ x 1 = 2 * x := by
  rw [show (1 : Int) = ((1 : Nat) : Int) from rfl, shZ_pos, Nat.pow_one, Nat.mul_comm]
theorem sh0 (x : Nat) : shZ x 0 = x := by
  rw [show (0 : Int) = ((0 : Nat) : Int) from rfl, shZ_pos, Nat.pow_zero, Nat.mul_one]
def divR (w p : Nat) (x y : RV) : RV × Int32 := if eit x y 3 then (vNan, 0)
  else if rk x = rk y ∧ rk x ≠ 1 then (vNan, 1)
  else if rk x = 2 then ((2, decide (rn x ≠ rn y), 0, 0), 0)
  else if rk y = 2 ∨ rk x = 0 then ((0, decide (rn x ≠ rn y), 0, 0), 0)
  else if rk y = 0 then ((2, decide (rn x ≠ rn y), 0, 0), 2)
  else (rVal w (decide (rn x ≠ rn y)) (dvX (rs x) (rs y)) p 16383 (zr x - zr y - 80), rNt w (decide (rn x ≠ rn y)) (dvX (rs x) (rs y)) p 16383 (zr x - zr y - 80))
section DI
variable {L : Nat} {xs : Nat → Int32} {d : Nat} {mi : ZM} {pc : Nat} {lv : zL} {st st' : List Value} {h' : zH} {k k' : Nat} {o : zO} {pc' : Nat}
variable {C : Nat → zC} {u : zC} {a : Nat → Int32} {b : Nat → Int64} {M : Nat → Int64} {R : Nat → Nat} {V : Nat → RV}
theorem nb_lt512 {x : Nat} (h : x < 2 ^ 200) : nb x ≤ 200 := nb_bd h
theorem rok200 {x : Nat} (h : x < 2 ^ 200) : x < 65536 ^ 32 := lt512 (nb_bd h) (by decide)
set_option maxRecDepth 10000 in
/-- a row doubled: two shifts by way of row 3 -/
theorem dbl {r : Nat} (hr : r = 0 ∨ r = 1) (hR : Rok R) (hx : R r < 2 ^ 180) : ∃ R', Rok R' ∧ R' r = 2 * R r ∧ (∀ i, i ≠ r → i ≠ 3 → R' i = R i) ∧ zE L xs (d + 2) m_Mo_shift [.ref 20, .int (nI r), .int (nI 3), .int (iZ 1)] (mV C u a b V M R) (.inl none) (mV C u a b V M (fu R 3 (2 * R r))) ∧ zE L xs (d + 2) m_Mo_shift [.ref 20, .int (nI 3), .int (nI r), .int (iZ 0)] (mV C u a b V M (fu R 3 (2 * R r))) (.inl none) (mV C u a b V M R') := by
  have hn : nb (R r) ≤ 180 := nb_bd hx
  have h2 : 2 * R r < 2 ^ 200 := by
    have : (2 : Nat) ^ 200 = 2 ^ 20 * 2 ^ 180 := by rw [← Nat.pow_add]
    have h3 : (2 : Nat) ^ 20 = 1048576 := rfl
    rw [this, h3]
    omega
  have hR1 : Rok (fu R 3 (2 * R r)) := hR.fu (rok200 h2)
  have hr3 : r ≠ 3 := by omega
  refine ⟨fu (fu R 3 (2 * R r)) r (2 * R r), hR1.fu (rok200 h2), fu_s, fun i h1 h3 => by rw [fu_n h1, fu_n h3], ?_, ?_⟩
  · have h9 := e_Mo_shift (L := L) (xs := xs) (d := d) (C := C) (u := u) (a := a) (b := b) (K := fun i => (V i).1) (B := fun i => (V i).2.1) (E := fun i => (V i).2.2.1) (S := fun i => (V i).2.2.2) (M := M) (f := r) (t := 3) (n := 1) (by omega) (by decide) hr3 hR (by omega) (by omega)
    rw [sh1] at h9
    exact h9
  · have h9 := e_Mo_shift (L := L) (xs := xs) (d := d) (C := C) (u := u) (a := a) (b := b) (K := fun i => (V i).1) (B := fun i => (V i).2.1) (E := fun i => (V i).2.2.1) (S := fun i => (V i).2.2.2) (M := M) (f := 3) (t := r) (n := 0) (by decide) (by omega) (fun h => hr3 h.symm) hR1 (by rw [fu_s]; have := nb_bd h2; omega) (by omega)
    rw [sh0, fu_s] at h9
    exact h9
theorem dvI_r {N D k Q r : Nat} (h : dvI N D k Q r) (hk : k ≤ 80) (hD : D < 2 ^ 64) : Q < 2 ^ 180 ∧ r < 2 ^ 180 := by
  obtain ⟨h1, h2, h3⟩ := h
  have e1 : (2 : Nat) ^ k ≤ 2 ^ 180 := Nat.pow_le_pow_right (by decide) (by omega)
  have e2 : (2 : Nat) ^ 65 ≤ 2 ^ 180 := Nat.pow_le_pow_right (by decide) (by omega)
  have e3 : (2 : Nat) ^ 65 = 2 * 2 ^ 64 := rfl
  omega
set_option maxRecDepth 10000 in
set_option maxHeartbeats 4000000 in
theorem l_Mo_finiteQuotient {N D : Nat} {mb : Bool} {a9 : Nat → Int32} {V9 : Nat → RV} (hD : D < 2 ^ 64)
    (kk : ∀ (R' : Nat → Nat) (Q' r' : Nat), Rok R' → R' 0 = Q' → R' 1 = r' → dvI N D 80 Q' r' → ∃ R'', Rok R'' ∧ zR L xs (d + 3) m_Mo_finiteQuotient 93 [(0, .ref 20), (1, .int (bI mb))] [] (mV C u a b V M R') 0 (.inl none) (mV C u a9 b V9 M R'') 0) :
    ∀ (t : Nat) {k Q r : Nat} {R : Nat → Nat}, t + k = 80 → dvI N D k Q r → Rok R → R 0 = Q → R 1 = r → R 2 = D → ∃ R'', Rok R'' ∧ zR L xs (d + 3) m_Mo_finiteQuotient 31 [(2, .int (nI k)), (0, .ref 20), (1, .int (bI mb))] [] (mV C u a b V M R) 0 (.inl none) (mV C u a9 b V9 M R'') 0 := by
  intro t
  induction t with
  | zero =>
    intro k Q r R ht hI hR h0 h1 h2
    obtain rfl : k = 80 := by omega
    obtain ⟨R'', hR'', hgo⟩ := kk R Q r hR h0 h1 hI
    refine ⟨R'', hR'', ?_⟩
    refine zR_to 93 rfl ?_
    exact zR_w hgo rfl rfl ⟨rfl, rfl, trivial⟩
  | succ t ih =>
    intro k Q r R ht hI hR h0 h1 h2
    obtain ⟨b1, b2⟩ := dvI_r hI (by omega) hD
    obtain ⟨s1, s2⟩ := dv_step hI
    obtain ⟨Ra, hRa, a1, a2, a3, a4⟩ := dbl (L := L) (xs := xs) (d := d) (C := C) (u := u) (a := a) (b := b) (V := V) (M := M) (r := 0) (Or.inl rfl) hR (by rw [h0]; exact b1)
    rw [h0] at a1
    -- the head of a step
    have hd : ∀ {h9 : zH}, zR L xs (d + 3) m_Mo_finiteQuotient 57 [(2, .int (nI k)), (0, .ref 20), (1, .int (bI mb))] [.int (iZ (cmpZ r D))] (mV C u a b V M Ra) 0 (.inl none) h9 0 → zR L xs (d + 3) m_Mo_finiteQuotient 31 [(2, .int (nI k)), (0, .ref 20), (1, .int (bI mb))] [] (mV C u a b V M R) 0 (.inl none) h9 0 := fun {h9} hr => by
      refine zR_m 3 rfl ?_
      refine zR_if (fun h => absurd h (nI_ge (a := k) (b := 80) (by omega) (by decide))) (fun _ => ?_)
      refine zR_to 41 (st' := [.int (iZ 1), .int (nI 3), .int (nI 0), .ref 20]) rfl ?_
      refine zR_v rfl rfl rfl rfl rfl ⟨rfl, Nat.le_of_ble_eq_true rfl, Nat.le_of_ble_eq_true rfl⟩ rfl (Nat.le_refl _) a3 rfl rfl ?_
      refine zR_to 48 (st' := [.int (iZ 0), .int (nI 0), .int (nI 3), .ref 20]) rfl ?_
      refine zR_v rfl rfl rfl rfl rfl ⟨rfl, Nat.le_of_ble_eq_true rfl, Nat.le_of_ble_eq_true rfl⟩ rfl (Nat.le_refl _) a4 rfl rfl ?_
      refine zR_to 54 rfl ?_
      refine zR_v rfl rfl rfl rfl rfl ⟨rfl, Nat.le_of_ble_eq_true rfl, Nat.le_of_ble_eq_true rfl⟩ rfl (Nat.le_refl _) (e_Mo_compareRows (p := 1) (q := 2) (by decide) (by decide) hRa) rfl rfl ?_
      rw [a2 1 (by decide) (by decide), a2 2 (by decide) (by decide), h1, h2]
      exact hr
    -- the tail of a step
    have tl9 : ∀ (Q1 r1 : Nat) (Rb : Nat → Nat), dvI N D (k + 1) Q1 (2 * r1) → Rok Rb → Rb 0 = Q1 → Rb 1 = r1 → Rb 2 = D → ∃ R'', Rok R'' ∧ zR L xs (d + 3) m_Mo_finiteQuotient 73 [(2, .int (nI k)), (0, .ref 20), (1, .int (bI mb))] [] (mV C u a b V M Rb) 0 (.inl none) (mV C u a9 b V9 M R'') 0 := by
      intro Q1 r1 Rb hI1 hRb c0 c1 c2
      obtain ⟨-, e2⟩ := dvI_r hI1 (by omega) hD
      obtain ⟨Rc, hRc, d1, d2, d3, d4⟩ := dbl (L := L) (xs := xs) (d := d) (C := C) (u := u) (a := a) (b := b) (V := V) (M := M) (r := 1) (Or.inr rfl) hRb (by rw [c1]; omega)
      rw [c1] at d1
      obtain ⟨R'', hR'', hgo⟩ := ih (k := k + 1) (Q := Q1) (r := 2 * r1) (R := Rc) (by omega) hI1 hRc (by rw [d2 0 (by decide) (by decide)]; exact c0) d1 (by rw [d2 2 (by decide) (by decide)]; exact c2)
      refine ⟨R'', hR'', ?_⟩
      refine zR_to 77 (st' := [.int (iZ 1), .int (nI 3), .int (nI 1), .ref 20]) rfl ?_
      refine zR_v rfl rfl rfl rfl rfl ⟨rfl, Nat.le_of_ble_eq_true rfl, Nat.le_of_ble_eq_true rfl⟩ rfl (Nat.le_refl _) d3 rfl rfl ?_
      refine zR_to 84 (st' := [.int (iZ 0), .int (nI 1), .int (nI 3), .ref 20]) rfl ?_
      refine zR_v rfl rfl rfl rfl rfl ⟨rfl, Nat.le_of_ble_eq_true rfl, Nat.le_of_ble_eq_true rfl⟩ rfl (Nat.le_refl _) d4 rfl rfl ?_
      refine zR_to 31 rfl ?_
      refine zR_w hgo rfl rfl ⟨?_, rfl, rfl, trivial⟩
      rw [nI_succ k]
      rfl
    have hcr := cmpZ_rng r D
    by_cases hl : D ≤ r
    · have hI1 := s1 hl
      have q1 : Rok (fu Ra 1 (r - D)) := hRa.fu (rok200 (by
        have : (2 : Nat) ^ 180 ≤ 2 ^ 200 := Nat.pow_le_pow_right (by decide) (by decide)
        omega))
      obtain ⟨b3, -⟩ := dvI_r hI1 (by omega) hD
      have q2 : Rok (fu (fu Ra 1 (r - D)) 0 (2 * Q + 1)) := q1.fu (rok200 (by
        have : (2 : Nat) ^ 180 ≤ 2 ^ 200 := Nat.pow_le_pow_right (by decide) (by decide)
        omega))
      obtain ⟨R'', hR'', hgo⟩ := tl9 (2 * Q + 1) (r - D) (fu (fu Ra 1 (r - D)) 0 (2 * Q + 1)) hI1 q2 fu_s (by rw [fu_n (by decide), fu_s]) (by rw [fu_n (by decide), fu_n (by decide), a2 2 (by decide) (by decide)]; exact h2)
      refine ⟨R'', hR'', hd ?_⟩
      refine zR_m 1 rfl ?_
      refine zR_if (fun h => ?_) (fun _ => ?_)
      · have := (iZ_lt (y := 0) (by omega) (by omega)).mp h
        have := cmpZ_ge.mpr hl
        omega
      refine zR_to 64 (st' := [.int (iZ (-1)), .int (nI 2), .int (nI 1), .ref 20]) rfl ?_
      refine zR_v rfl rfl rfl rfl rfl ⟨rfl, Nat.le_of_ble_eq_true rfl, Nat.le_of_ble_eq_true rfl⟩ rfl (Nat.le_refl _) (e_Mo_add (p := 1) (q := 2) (s := -1) (Or.inr rfl) (by decide) (by decide) (by decide) hRa) rfl rfl ?_
      rw [a2 1 (by decide) (by decide), a2 2 (by decide) (by decide), h1, h2, adL_sub (by rw [← h1]; exact hR 1) hl]
      refine zR_to 70 (st' := [.int (nI 0), .int (nI 0), .ref 20]) rfl ?_
      refine zR_v rfl rfl rfl rfl rfl ⟨rfl, Nat.le_of_ble_eq_true rfl, Nat.le_of_ble_eq_true rfl⟩ rfl (Nat.le_refl _) (e_Mo_setBit (r := 0) (n := 0) (by decide) (by decide)) rfl rfl ?_
      rw [fu_n (show (0 : Nat) ≠ 1 by decide), a1, or_1]
      exact hgo
    · have hI1 := s2 (by omega)
      obtain ⟨R'', hR'', hgo⟩ := tl9 (2 * Q) r Ra hI1 hRa a1 (by rw [a2 1 (by decide) (by decide)]; exact h1) (by rw [a2 2 (by decide) (by decide)]; exact h2)
      refine ⟨R'', hR'', hd ?_⟩
      refine zR_m 1 rfl ?_
      refine zR_if (fun _ => hgo) (fun h => absurd ((iZ_lt (y := 0) (by omega) (by omega)).mpr (by
        rcases Int.lt_or_le (cmpZ r D) 0 with h9 | h9
        · exact h9
        · exact absurd (cmpZ_ge.mp h9) hl)) h)
theorem dvX_nb {N D : Nat} (h1 : 2 ^ 63 ≤ N) (h2 : N < 2 ^ 64) (h3 : 2 ^ 63 ≤ D) : dvX N D ≠ 0 ∧ nb (dvX N D) ≤ 150 := by
  have hD : 0 < D := by omega
  have e1 : N * 2 ^ 79 / D ≤ N * 2 ^ 79 := Nat.div_le_self _ _
  have e2 : N * 2 ^ 79 < 2 ^ 64 * 2 ^ 79 := Nat.mul_lt_mul_of_pos_right h2 (Nat.pow_pos (by decide))
  have e4 : (2 : Nat) ^ 64 * 2 ^ 79 = 2 ^ 143 := by rw [← Nat.pow_add]
  have e5 : (2 : Nat) ^ 150 = 2 ^ 7 * 2 ^ 143 := by rw [← Nat.pow_add]
  have hp : 0 < (2 : Nat) ^ 143 := Nat.pow_pos (by decide)
  constructor
  · unfold dvX
    by_cases h0 : N * 2 ^ 79 / D = 0
    · have := (Nat.div_eq_zero_iff_lt hD).mp h0
      have h9 : N * 2 ^ 79 ≠ 0 := Nat.ne_of_gt (Nat.mul_pos (by omega) (Nat.pow_pos (by decide)))
      rw [Nat.mod_eq_of_lt this, if_neg h9]
      omega
    · omega
  · apply nb_bd
    unfold dvX
    rw [e5, show (2 : Nat) ^ 7 = 128 from rfl]
    rw [e4] at e2
    generalize (2 : Nat) ^ 143 = W at *
    generalize N * 2 ^ 79 / D = T at *
    split <;> omega
set_option maxRecDepth 10000 in
theorem e_Mo_finiteQuotient {p w : Nat} {mb : Bool} (hc : cOk a p w) (h8 : rk (V 8) = 1) (h9 : rk (V 9) = 1) (hx : vOk (V 8)) (hy : vOk (V 9)) (hR : Rok R) : zEr L xs (d + 5) m_Mo_finiteQuotient [.ref 20, .int (bI mb)] (mV C u a b V M R) (.inl none) C u (nt a (rNt w mb (dvX (rs (V 8)) (rs (V 9))) p 16383 (zr (V 8) - zr (V 9) - 80))) b (fu V 10 (rVal w mb (dvX (rs (V 8)) (rs (V 9))) p 16383 (zr (V 8) - zr (V 9) - 80))) M := by
  obtain ⟨x1, x2, x3⟩ := hx.2.1 h8
  obtain ⟨y1, y2, y3⟩ := hy.2.1 h9
  have hxl : rs (V 8) < 2 ^ 64 := uN_lt2 _
  have hyl : rs (V 9) < 2 ^ 64 := uN_lt2 _
  obtain ⟨n1, n2⟩ := dvX_nb x1 hxl y1
  have hR0 : Rok (fu R 0 0) := hR.fu (Bp 32)
  have hR1 : Rok (fu (fu R 0 0) 1 (rs (V 8))) := hR0.fu (uN_rok _)
  have hR2 : Rok (fu (fu (fu R 0 0) 1 (rs (V 8))) 2 (rs (V 9))) := hR1.fu (uN_rok _)
  obtain ⟨R'', hR'', hgo⟩ := l_Mo_finiteQuotient (L := L) (xs := xs) (d := d + 2) (C := C) (u := u) (a := a) (b := b) (V := V) (M := M) (N := rs (V 8)) (D := rs (V 9)) (mb := mb) (a9 := nt a (rNt w mb (dvX (rs (V 8)) (rs (V 9))) p 16383 (zr (V 8) - zr (V 9) - 80))) (V9 := fu V 10 (rVal w mb (dvX (rs (V 8)) (rs (V 9))) p 16383 (zr (V 8) - zr (V 9) - 80))) hyl (fun R' Q' r' hR' c0 c1 hI => by
    have he := dv_end (by omega) hI
    obtain ⟨b1, b2⟩ := dvI_r hI (Nat.le_refl _) hyl
    obtain ⟨Ra, hRa, a1, a2, a3, a4⟩ := dbl (L := L) (xs := xs) (d := d + 2) (C := C) (u := u) (a := a) (b := b) (V := V) (M := M) (r := 0) (Or.inl rfl) hR' (by rw [c0]; exact b1)
    rw [c0] at a1
    have hr1 : nb r' ≤ 180 := nb_bd b2
    have hX5 : dvX (rs (V 8)) (rs (V 9)) < 65536 ^ 32 := lt512 n2 (by decide)
    -- the end
    have fin : ∀ Rb : Nat → Nat, Rok Rb → Rb 0 = dvX (rs (V 8)) (rs (V 9)) → ∃ R'', Rok R'' ∧ zR L xs (d + 5) m_Mo_finiteQuotient 121 [(0, .ref 20), (1, .int (bI mb))] [] (mV C u a b V M Rb) 0 (.inl none) (mV C u (nt a (rNt w mb (dvX (rs (V 8)) (rs (V 9))) p 16383 (zr (V 8) - zr (V 9) - 80))) b (fu V 10 (rVal w mb (dvX (rs (V 8)) (rs (V 9))) p 16383 (zr (V 8) - zr (V 9) - 80))) M R'') 0 := by
      intro Rb hRb hb0
      refine ⟨_, rok_round (w := w) (mb := mb) n1 hc.2.2.1 hRb, ?_⟩
      refine zR_to 141 (st' := [.int (re (V 8) - re (V 9) - iZ 80), .int (bI mb), .ref 20]) rfl ?_
      rw [re_zr (V 8), re_zr (V 9), iZ_sub, iZ_sub]
      refine zR_v rfl rfl rfl rfl rfl ⟨rfl, Nat.le_of_ble_eq_true rfl, Nat.le_of_ble_eq_true rfl⟩ rfl (Nat.le_refl _) (e_Mo_result (X := dvX (rs (V 8)) (rs (V 9))) hc (by omega) n1 (by omega) hRb hb0) rfl rfl ?_
      exact zR_e rfl rfl rfl rfl rfl rfl
    have hd : ∀ {h9 : zH}, zR L xs (d + 5) m_Mo_finiteQuotient 112 [(0, .ref 20), (1, .int (bI mb))] [.int (iZ ((nb r' : Int) - 1))] (mV C u a b V M Ra) 0 (.inl none) h9 0 → zR L xs (d + 5) m_Mo_finiteQuotient 93 [(0, .ref 20), (1, .int (bI mb))] [] (mV C u a b V M R') 0 (.inl none) h9 0 := fun {h9} hr => by
      refine zR_to 97 (st' := [.int (iZ 1), .int (nI 3), .int (nI 0), .ref 20]) rfl ?_
      refine zR_v rfl rfl rfl rfl rfl ⟨rfl, Nat.le_of_ble_eq_true rfl, Nat.le_of_ble_eq_true rfl⟩ rfl (Nat.le_refl _) a3 rfl rfl ?_
      refine zR_to 104 (st' := [.int (iZ 0), .int (nI 0), .int (nI 3), .ref 20]) rfl ?_
      refine zR_v rfl rfl rfl rfl rfl ⟨rfl, Nat.le_of_ble_eq_true rfl, Nat.le_of_ble_eq_true rfl⟩ rfl (Nat.le_refl _) a4 rfl rfl ?_
      refine zR_to 109 rfl ?_
      refine zR_v rfl rfl rfl rfl rfl ⟨rfl, Nat.le_of_ble_eq_true rfl, Nat.le_of_ble_eq_true rfl⟩ rfl (Nat.le_refl _) (e_Mo_top (r := 1) (by decide) hRa) rfl rfl ?_
      rw [a2 1 (by decide) (by decide), c1]
      exact hr
    by_cases hr0 : r' = 0
    · rw [if_pos hr0, Nat.add_zero] at he
      obtain ⟨R'', q1, q2⟩ := fin Ra hRa (by rw [a1, he])
      refine ⟨R'', q1, hd ?_⟩
      rw [hr0, nb_0]
      exact zR_to 121 rfl q2
    · rw [if_neg hr0] at he
      obtain ⟨R'', q1, q2⟩ := fin (fu Ra 0 (2 * Q' + 1)) (hRa.fu (by rw [← he]; exact hX5)) (by rw [fu_s, he])
      refine ⟨R'', q1, hd ?_⟩
      have hn : 1 ≤ nb r' := by
        rcases Nat.eq_zero_or_pos (nb r') with h9 | h9
        · have := nb_lt r'
          rw [h9] at this
          omega
        · exact h9
      refine zR_m 1 rfl ?_
      refine zR_if (fun h => ?_) (fun _ => ?_)
      · have := (iZ_lt (y := 0) (by omega) (by omega)).mp h
        omega
      refine zR_to 118 (st' := [.int (nI 0), .int (nI 0), .ref 20]) rfl ?_
      refine zR_v rfl rfl rfl rfl rfl ⟨rfl, Nat.le_of_ble_eq_true rfl, Nat.le_of_ble_eq_true rfl⟩ rfl (Nat.le_refl _) (e_Mo_setBit (r := 0) (n := 0) (by decide) (by decide)) rfl rfl ?_
      rw [a1, or_1]
      exact q2) 80 (k := 0) (Q := 0) (r := rs (V 8)) (R := fu (fu (fu R 0 0) 1 (rs (V 8))) 2 (rs (V 9))) (by omega) ⟨by rw [Nat.pow_zero, Nat.mul_one, Nat.zero_mul, Nat.mul_zero, Nat.zero_add], by omega, by decide⟩ hR2 (by rw [fu_n (by decide), fu_n (by decide), fu_s]) (by rw [fu_n (by decide), fu_s]) fu_s
  refine ⟨R'', hR'', 0, Nat.zero_le _, ?_⟩
  refine zR_to 2 rfl ?_
  refine zR_v rfl rfl rfl rfl rfl ⟨rfl, Nat.le_of_ble_eq_true rfl, Nat.le_of_ble_eq_true rfl⟩ rfl (Nat.le_refl _) (e_Mo_blank (r := 0) (by decide) hR) rfl rfl ?_
  refine zR_to 14 (st' := [.long (V 8).2.2.2, .int (nI 1), .ref 20]) rfl ?_
  refine zR_v rfl rfl rfl rfl rfl ⟨rfl, Nat.le_of_ble_eq_true rfl, Nat.le_of_ble_eq_true rfl⟩ rfl (Nat.le_refl _) (e_Mo_putU (r := 1) (by decide) hR0) rfl rfl ?_
  refine zR_to 26 (st' := [.long (V 9).2.2.2, .int (nI 2), .ref 20]) rfl ?_
  refine zR_v rfl rfl rfl rfl rfl ⟨rfl, Nat.le_of_ble_eq_true rfl, Nat.le_of_ble_eq_true rfl⟩ rfl (Nat.le_refl _) (e_Mo_putU (r := 2) (by decide) hR1) rfl rfl ?_
  refine zR_to 31 rfl ?_
  exact zR_w hgo rfl rfl ⟨rfl, rfl, rfl, trivial⟩
end DI
