/-! What rounding is: a positive number M * 2^q by its exponent e, its first 65 bits W, and whether there is more below (s) -/
def Can (M : Nat) (q e : Int) (W : Nat) (s : Bool) : Prop := ∃ t r : Nat, M * 2 ^ 64 = W * 2 ^ t + r ∧ r < 2 ^ t ∧ 2 ^ 64 ≤ W ∧ W < 2 ^ 65 ∧ e = (t : Int) + q ∧ s = decide (r ≠ 0)
theorem pow_pos2 (t : Nat) : 0 < 2 ^ t := Nat.pow_pos (by decide)
theorem top_uniq {M t t' : Nat} (h1 : 2 ^ t ≤ M) (h2 : M < 2 ^ (t + 1)) (h3 : 2 ^ t' ≤ M) (h4 : M < 2 ^ (t' + 1)) : t = t' := by
  rcases Nat.lt_trichotomy t t' with h | h | h
  · have := Nat.pow_le_pow_right (n := 2) (by decide) (show t + 1 ≤ t' by omega)
    omega
  · exact h
  · have := Nat.pow_le_pow_right (n := 2) (by decide) (show t' + 1 ≤ t by omega)
    omega
theorem Can.top {M : Nat} {W t r : Nat} (h : M * 2 ^ 64 = W * 2 ^ t + r) (hr : r < 2 ^ t) (h1 : 2 ^ 64 ≤ W) (h2 : W < 2 ^ 65) : 2 ^ t ≤ M ∧ M < 2 ^ (t + 1) := by
  have hp := pow_pos2 t
  constructor
  · have h3 : 2 ^ 64 * 2 ^ t ≤ W * 2 ^ t := Nat.mul_le_mul_right _ h1
    have h4 : 2 ^ t * 2 ^ 64 ≤ M * 2 ^ 64 := by rw [h, Nat.mul_comm (2 ^ t)]; omega
    exact Nat.le_of_mul_le_mul_right h4 (by decide)
  · have h3 : (W + 1) * 2 ^ t ≤ 2 ^ 65 * 2 ^ t := Nat.mul_le_mul_right _ h2
    have h4 : M * 2 ^ 64 < 2 ^ (t + 1) * 2 ^ 64 := by
      rw [h]
      have e1 : 2 ^ (t + 1) * 2 ^ 64 = 2 ^ 65 * 2 ^ t := by rw [← Nat.pow_add, ← Nat.pow_add]; congr 1; omega
      rw [e1]
      rw [Nat.add_mul, Nat.one_mul] at h3
      omega
    exact Nat.lt_of_mul_lt_mul_right h4
theorem Can.uniq {M W W' : Nat} {q e e' : Int} {s s' : Bool} (h : Can M q e W s) (h' : Can M q e' W' s') : e = e' ∧ W = W' ∧ s = s' := by
  obtain ⟨t, r, a1, a2, a3, a4, a5, a6⟩ := h
  obtain ⟨t', r', b1, b2, b3, b4, b5, b6⟩ := h'
  obtain ⟨c1, c2⟩ := Can.top a1 a2 a3 a4
  obtain ⟨d1, d2⟩ := Can.top b1 b2 b3 b4
  have ht := top_uniq c1 c2 d1 d2
  subst ht
  have hW : W = M * 2 ^ 64 / 2 ^ t := by
    rw [a1, Nat.add_comm, Nat.add_mul_div_right _ _ (pow_pos2 t), Nat.div_eq_of_lt a2, Nat.zero_add]
  have hW' : W' = M * 2 ^ 64 / 2 ^ t := by
    rw [b1, Nat.add_comm, Nat.add_mul_div_right _ _ (pow_pos2 t), Nat.div_eq_of_lt b2, Nat.zero_add]
  have hr : r = M * 2 ^ 64 % 2 ^ t := by rw [a1, Nat.add_comm, Nat.add_mul_mod_self_right, Nat.mod_eq_of_lt a2]
  have hr' : r' = M * 2 ^ 64 % 2 ^ t := by rw [b1, Nat.add_comm, Nat.add_mul_mod_self_right, Nat.mod_eq_of_lt b2]
  exact ⟨by omega, by omega, by rw [a6, b6, hr, hr']⟩
/-- taken upwards in magnitude? way: 0 nearest, 1 down, 2 up, 3 towards zero -/
def rUp (way : Nat) (neg odd half rest : Bool) : Bool := if way = 0 then half && (rest || odd) else if way = 1 then neg && (half || rest) else if way = 2 then !neg && (half || rest) else false
def rBelow (way : Nat) (neg : Bool) : Bool := way == 3 || (if neg then way == 2 else way == 1)
/-- the rounding to p bits with exponents from 1 - g to g: (kind, sign, exponent, significand), exceptions -/
def RND (way p : Nat) (g : Int) (neg : Bool) (e : Int) (W : Nat) (s : Bool) : (Nat × Bool × Int × Nat) × Nat :=
  let K := W / 2 ^ (65 - p)
  let half := W / 2 ^ (64 - p) % 2 == 1
  let rest := W % 2 ^ (64 - p) != 0 || s
  let K1 := if rUp way neg (K % 2 == 1) half rest then K + 1 else K
  let e1 := if K1 = 2 ^ p then e + 1 else e
  let sg := if K1 = 2 ^ p then 2 ^ 63 else K1 * 2 ^ (64 - p)
  if e1 > g then ((if rBelow way neg then (1, neg, g, 2 ^ 64 - 2 ^ (64 - p)) else (2, neg, 0, 0)), 20)
  else if e1 < 1 - g then ((0, neg, 0, 0), 24)
  else ((1, neg, e1, sg), if half || rest then 16 else 0)
