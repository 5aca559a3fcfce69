/-! the quotient -/
def dvX (N D : Nat) : Nat := 2 * (N * 2 ^ 79 / D) + (if N * 2 ^ 79 % D = 0 then 0 else 1)
/-- after k steps: quotient and rest -/
def dvI (N D k Q r : Nat) : Prop := N * 2 ^ k = 2 * (Q * D) + r ∧ r < 2 * D ∧ Q < 2 ^ k
theorem dv_step {N D k Q r : Nat} (h : dvI N D k Q r) : (D ≤ r → dvI N D (k + 1) (2 * Q + 1) (2 * (r - D))) ∧ (r < D → dvI N D (k + 1) (2 * Q) (2 * r)) := by
  obtain ⟨h1, h2, h3⟩ := h
  unfold dvI
  rw [Nat.pow_succ, ← Nat.mul_assoc, h1]
  constructor
  · intro hl
    refine ⟨?_, by omega, by omega⟩
    rw [Nat.add_mul (2 * Q), Nat.one_mul, Nat.mul_assoc]
    omega
  · intro hl
    refine ⟨?_, by omega, by omega⟩
    rw [Nat.mul_assoc]
    omega
theorem dv_end {N D Q r : Nat} (hD : 0 < D) (h : dvI N D 80 Q r) : dvX N D = 2 * Q + (if r = 0 then 0 else 1) := by
  obtain ⟨h1, h2, h3⟩ := h
  have e : N * 2 ^ 79 = Q * D + r / 2 ∧ r % 2 = 0 := by
    have : N * 2 ^ 80 = 2 * (N * 2 ^ 79) := by rw [Nat.pow_succ 2 79, ← Nat.mul_assoc, Nat.mul_comm]
    omega
  have hr : r / 2 < D := by omega
  unfold dvX
  rw [e.1, Nat.add_comm (Q * D), Nat.add_mul_div_right _ _ hD, Nat.div_eq_of_lt hr, Nat.zero_add, Nat.add_mul_mod_self_right, Nat.mod_eq_of_lt hr]
  by_cases h0 : r = 0
  · rw [if_pos h0, if_pos (by omega)]
  · rw [if_neg h0, if_neg (by omega)]
theorem or_1 (x : Nat) : 2 * x ||| 2 ^ 0 = 2 * x + 1 := by
  have h := Nat.two_pow_add_eq_or_of_lt (i := 1) (b := 1) (by decide) x
  rw [Nat.pow_one] at h
  exact h.symm
theorem sh1 (x : Nat) : shZ x 1 = 2 * x := by
  rw [show (1 : Int) = ((1 : Nat) : Int) from rfl, shZ_pos, Nat.pow_one, Nat.mul_comm]
theorem sh0 (x : Nat) : shZ x 0 = x := by
  rw [show (0 : Int) = ((0 : Nat) : Int) from rfl, shZ_pos, Nat.pow_zero, Nat.mul_one]
def divR (w p : Nat) (x y : RV) : RV × Int32 := if eit x y 3 then (vNan, 0)
  else if rk x = rk y ∧ rk x ≠ 1 then (vNan, 1)
  else if rk x = 2 then ((2, decide (rn x ≠ rn y), 0, 0), 0)
  else if rk y = 2 ∨ rk x = 0 then ((0, decide (rn x ≠ rn y), 0, 0), 0)
  else if rk y = 0 then ((2, decide (rn x ≠ rn y), 0, 0), 2)
  else (rVal w (decide (rn x ≠ rn y)) (dvX (rs x) (rs y)) p 16383 (zr x - zr y - 80), rNt w (decide (rn x ≠ rn y)) (dvX (rs x) (rs y)) p 16383 (zr x - zr y - 80))
section DI
variable {L : Nat} {xs : Nat → Int32} {d : Nat} {mi : ZM} {pc : Nat} {lv : zL} {st st' : List Value} {h' : zH} {k k' : Nat} {o : zO} {pc' : Nat}
variable {C : Nat → zC} {u : zC} {a : Nat → Int32} {b : Nat → Int64} {M : Nat → Int64} {R : Nat → Nat} {V : Nat → RV}
theorem nb_lt512 {x : Nat} (h : x < 2 ^ 200) : nb x ≤ 200 := nb_bd h
theorem rok200 {x : Nat} (h : x < 2 ^ 200) : x < 65536 ^ 32 := lt512 (nb_bd h) (by decide)
set_option maxRecDepth 10000 in
/-- a row doubled: two shifts by way of row 3 -/
theorem dbl {pc0 : Nat} {h9 : zH} {r : Nat} (hr : r = 0 ∨ r = 1) (hR : Rok R) (hx : R r < 2 ^ 180) : ∃ R', Rok R' ∧ R' r = 2 * R r ∧ (∀ i, i ≠ r → i ≠ 3 → R' i = R i) ∧ zE L xs (d + 2) m_Mo_shift [.ref 20, .int (nI r), .int (nI 3), .int (iZ 1)] (mV C u a b V M R) (.inl none) (mV C u a b V M (fu R 3 (2 * R r))) ∧ zE L xs (d + 2) m_Mo_shift [.ref 20, .int (nI 3), .int (nI r), .int (iZ 0)] (mV C u a b V M (fu R 3 (2 * R r))) (.inl none) (mV C u a b V M R') := by
  have hn : nb (R r) ≤ 180 := nb_bd hx
  have h2 : 2 * R r < 2 ^ 200 := by
    have : (2 : Nat) ^ 200 = 2 ^ 20 * 2 ^ 180 := by rw [← Nat.pow_add]
    have h3 : (2 : Nat) ^ 20 = 1048576 := rfl
    rw [this, h3]
    omega
  have hR1 : Rok (fu R 3 (2 * R r)) := hR.fu (rok200 h2)
  have hr3 : r ≠ 3 := by omega
  refine ⟨fu (fu R 3 (2 * R r)) r (2 * R r), hR1.fu (rok200 h2), fu_s, fun i h1 h3 => by rw [fu_n h1, fu_n h3], ?_, ?_⟩
  · have h9 := e_Mo_shift (L := L) (xs := xs) (d := d) (C := C) (u := u) (a := a) (b := b) (K := fun i => (V i).1) (B := fun i => (V i).2.1) (E := fun i => (V i).2.2.1) (S := fun i => (V i).2.2.2) (M := M) (f := r) (t := 3) (n := 1) (by omega) (by decide) hr3 hR (by omega) (by omega)
    rw [sh1] at h9
    exact h9
  · have h9 := e_Mo_shift (L := L) (xs := xs) (d := d) (C := C) (u := u) (a := a) (b := b) (K := fun i => (V i).1) (B := fun i => (V i).2.1) (E := fun i => (V i).2.2.1) (S := fun i => (V i).2.2.2) (M := M) (f := 3) (t := r) (n := 0) (by decide) (by omega) (fun h => hr3 h.symm) hR1 (by rw [fu_s]; have := nb_bd h2; omega) (by omega)
    rw [sh0, fu_s] at h9
    exact h9
end DI
