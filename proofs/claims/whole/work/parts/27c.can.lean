/-! A rounded number is a function of (e, W, s): two exact numbers with the same are rounded alike -/
theorem shZ_64 (X : Nat) {n : Int} (h : n ≤ 64) : shZ X n = X * 2 ^ 64 / 2 ^ (64 - n).toNat := by
  unfold shZ
  rcases Int.lt_or_le n 0 with h0 | h0
  · rw [show n.toNat = 0 by omega, Nat.pow_zero, Nat.mul_one, show (64 - n).toNat = 64 + (-n).toNat by omega, Nat.pow_add, ← Nat.div_div_eq_div_mul, Nat.mul_div_cancel _ (by decide)]
  · rw [show (-n).toNat = 0 by omega, Nat.pow_zero, Nat.div_one]
    have e : (2 : Nat) ^ 64 = 2 ^ n.toNat * 2 ^ (64 - n).toNat := by rw [← Nat.pow_add]; congr 1; omega
    rw [e, ← Nat.mul_assoc, Nat.mul_div_cancel _ (pow_pos2 _)]
def cHf (p W : Nat) : Bool := decide (W / 2 ^ (64 - p) % 2 = 1)
def cRs (p W : Nat) (s : Bool) : Bool := decide (W % 2 ^ (64 - p) ≠ 0) || s
def cK1 (w : Nat) (mb : Bool) (p W : Nat) (s : Bool) : Nat := W / 2 ^ (65 - p) + (if rUp w mb (decide (W / 2 ^ (65 - p) % 2 = 1)) (cHf p W) (cRs p W s) then 1 else 0)
theorem div_pw {W t r m : Nat} (hr : r < 2 ^ t) : (W * 2 ^ t + r) / 2 ^ (t + m) = W / 2 ^ m := by
  rw [Nat.pow_add, ← Nat.div_div_eq_div_mul, Nat.add_comm, Nat.add_mul_div_right _ _ (pow_pos2 t), Nat.div_eq_of_lt hr, Nat.zero_add]
theorem mod_pw {W t r m : Nat} (hr : r < 2 ^ t) : (W * 2 ^ t + r) % 2 ^ (t + m) = (W % 2 ^ m) * 2 ^ t + r := by
  have h1 : (W * 2 ^ t + r) / 2 ^ t = W := by rw [Nat.add_comm, Nat.add_mul_div_right _ _ (pow_pos2 t), Nat.div_eq_of_lt hr, Nat.zero_add]
  have h2 : (W * 2 ^ t + r) % 2 ^ t = r := by rw [Nat.add_comm, Nat.add_mul_mod_self_right, Nat.mod_eq_of_lt hr]
  rw [Nat.pow_add, Nat.mod_mul, h1, h2, Nat.add_comm, Nat.mul_comm (2 ^ t)]
theorem rUp_ff (w : Nat) (mb o : Bool) : rUp w mb o false false = false := by
  unfold rUp
  split
  · rfl
  · split
    · simp
    · split
      · simp
      · rfl
theorem can_K {X W p : Nat} {q e : Int} {s : Bool} (h : Can X q e W s) (hp : 1 ≤ p) (hp2 : p ≤ 64) :
    rK X p = W / 2 ^ (65 - p) ∧ rHf X p = cHf p W ∧ rRs X p = cRs p W s ∧ (nb X : Int) - 1 + q = e ∧ (p ≤ nb X → gO X (nb X - p) = decide (W / 2 ^ (65 - p) % 2 = 1)) := by
  obtain ⟨t, r, h1, h2, h3, h4, h5, h6⟩ := h
  obtain ⟨c1, c2⟩ := Can.top h1 h2 h3 h4
  have hnb : nb X = t + 1 := nb_uniq c1 c2
  have hK : rK X p = W / 2 ^ (65 - p) := by
    unfold rK
    rw [hnb, shZ_64 X (by omega), h1, show (64 - -(((t + 1 : Nat) : Int) - p)).toNat = t + (65 - p) by omega, div_pw h2]
  have hd : X * 2 ^ 64 / 2 ^ (t + (64 - p)) = W / 2 ^ (64 - p) := by rw [h1, div_pw h2]
  have hm : X * 2 ^ 64 % 2 ^ (t + (64 - p)) = (W % 2 ^ (64 - p)) * 2 ^ t + r := by rw [h1, mod_pw h2]
  have hz : (W % 2 ^ (64 - p)) * 2 ^ t + r = 0 ↔ W % 2 ^ (64 - p) = 0 ∧ r = 0 := by
    have hp := pow_pos2 t
    constructor
    · intro h9
      have h8 : W % 2 ^ (64 - p) * 2 ^ t = 0 := by omega
      refine ⟨?_, by omega⟩
      rcases Nat.mul_eq_zero.mp h8 with h7 | h7
      · exact h7
      · omega
    · rintro ⟨h9, h8⟩
      rw [h9, h8, Nat.zero_mul]
  have hs : cRs p W s = decide (¬ ((W % 2 ^ (64 - p)) * 2 ^ t + r = 0)) := by
    unfold cRs
    rw [h6, ← Bool.decide_or]
    apply decide_eq_decide.mpr
    rw [hz]
    constructor
    · intro h9 h8
      rcases h9 with h9 | h9
      · exact h9 h8.1
      · exact h9 h8.2
    · intro h9
      rcases Nat.eq_zero_or_pos (W % 2 ^ (64 - p)) with h8 | h8
      · right
        intro h7
        exact h9 ⟨h8, h7⟩
      · left
        omega
  refine ⟨hK, ?_, ?_, by rw [hnb, h5]; omega, fun hle => ?_⟩
  · unfold rHf cHf gH
    rw [hnb, ← hd]
    by_cases hlt : p < t + 1
    · rw [decide_eq_true hlt, show t + (64 - p) = 64 + (t + 1 - p - 1) by omega, Nat.pow_add, ← Nat.div_div_eq_div_mul, Nat.mul_div_cancel _ (show 0 < 2 ^ 64 by decide)]
      rfl
    · rw [decide_eq_false hlt]
      have e : (2 : Nat) ^ 64 = 2 ^ (p - t - 1) * 2 * 2 ^ (t + (64 - p)) := by rw [← Nat.pow_succ, ← Nat.pow_add]; congr 1; omega
      rw [e, ← Nat.mul_assoc, Nat.mul_div_cancel _ (pow_pos2 _), ← Nat.mul_assoc, Nat.mul_mod_left]
      rfl
  · rw [hs, ← hm]
    unfold rRs gB
    rw [hnb]
    by_cases hlt : p < t + 1
    · rw [decide_eq_true hlt, show t + (64 - p) = (t + 1 - p - 1) + 64 by omega, Nat.pow_add, Nat.mul_mod_mul_right, Bool.true_and]
      apply decide_eq_decide.mpr
      constructor
      · intro h9 h8
        rcases Nat.mul_eq_zero.mp h8 with h7 | h7
        · exact h9 h7
        · exact absurd h7 (by decide)
      · intro h9 h8
        exact h9 (by rw [h8, Nat.zero_mul])
    · rw [decide_eq_false hlt]
      have e : (2 : Nat) ^ 64 = 2 ^ (p - t) * 2 ^ (t + (64 - p)) := by rw [← Nat.pow_add]; congr 1; omega
      rw [e, ← Nat.mul_assoc, Nat.mul_mod_left]
      simp
  · have e : rK X p = X / 2 ^ (t + 1 - p) := by
      unfold rK
      rw [hnb, show -(((t + 1 : Nat) : Int) - p) = -((t + 1 - p : Nat) : Int) by omega, shZ_neg]
    unfold gO
    rw [← hK, e, hnb]
theorem can_K1 {X W p w : Nat} {mb : Bool} {q e : Int} {s : Bool} (h : Can X q e W s) (hp : 1 ≤ p) (hp2 : p ≤ 64) : rK1 w mb X p = cK1 w mb p W s := by
  obtain ⟨h1, h2, h3, h4, h5⟩ := can_K h hp hp2
  have hu : rUq w mb X p = rUp w mb (decide (W / 2 ^ (65 - p) % 2 = 1)) (cHf p W) (cRs p W s) := by
    unfold rUq
    by_cases hle : p ≤ nb X
    · rw [h5 hle, h2, h3]
    · have e1 : rHf X p = false := by
        unfold rHf
        rw [decide_eq_false (by omega)]
        rfl
      have e2 : rRs X p = false := by
        unfold rRs
        rw [decide_eq_false (by omega)]
        rfl
      rw [← h2, ← h3, e1, e2, rUp_ff, rUp_ff]
  unfold rK1 cK1
  rw [h1, hu]
theorem rv_eq {X X' W p w : Nat} {mb : Bool} {q q' e g : Int} {s : Bool} (h : Can X q e W s) (h' : Can X' q' e W s) (hp : 1 ≤ p) (hp2 : p ≤ 64) : rVal w mb X p g q = rVal w mb X' p g q' ∧ rNt w mb X p g q = rNt w mb X' p g q' := by
  obtain ⟨-, h2, h3, h4, -⟩ := can_K h hp hp2
  obtain ⟨-, h2', h3', h4', -⟩ := can_K h' hp hp2
  have hE : rEx w mb X p q = rEx w mb X' p q' := by
    unfold rEx
    rw [can_K1 h hp hp2, can_K1 h' hp hp2, h4, h4']
  have hK : rK1 w mb X p = rK1 w mb X' p := by rw [can_K1 h hp hp2, can_K1 h' hp hp2]
  unfold rVal rNt
  rw [hE, hK, h2, h3, h2', h3']
  exact ⟨rfl, rfl⟩
/-- the class's number: 128 bits -/
theorem can_hl {hi lo : Nat} (E : Int) (h1 : 2 ^ 63 ≤ hi) (h2 : hi < 2 ^ 64) (h3 : lo < 2 ^ 64) : Can (hi * 2 ^ 64 + lo) (E - 127) E (2 * hi + lo / 2 ^ 63) (decide (lo % 2 ^ 63 ≠ 0)) := by
  refine ⟨127, (lo % 2 ^ 63) * 2 ^ 64, ?_, ?_, by omega, by omega, by omega, ?_⟩
  · have e : lo = 2 ^ 63 * (lo / 2 ^ 63) + lo % 2 ^ 63 := (Nat.div_add_mod lo (2 ^ 63)).symm
    generalize lo / 2 ^ 63 = u at *
    generalize lo % 2 ^ 63 = v at *
    subst e
    rw [show (2 : Nat) ^ 127 = 2 ^ 63 * 2 ^ 64 by decide]
    omega
  · rw [show (2 : Nat) ^ 127 = 2 ^ 63 * 2 ^ 64 by decide]
    exact Nat.mul_lt_mul_of_pos_right (Nat.mod_lt _ (by decide)) (by decide)
  · apply decide_eq_decide.mpr
    omega
/-- rounded as the class's number is -/
theorem rv_hl {X hi lo p w : Nat} {mb : Bool} {q E g : Int} (h1 : 2 ^ 63 ≤ hi) (h2 : hi < 2 ^ 64) (h3 : lo < 2 ^ 64) (hp : 1 ≤ p) (hp2 : p ≤ 64) (h : Can X q E (2 * hi + lo / 2 ^ 63) (decide (lo % 2 ^ 63 ≠ 0))) : rVal w mb (hi * 2 ^ 64 + lo) p g (E - 127) = rVal w mb X p g q ∧ rNt w mb (hi * 2 ^ 64 + lo) p g (E - 127) = rNt w mb X p g q := rv_eq (can_hl E h1 h2 h3) h hp hp2
/-! .. and the numbers of roundTo -/
theorem x128 {hi lo : Nat} (h1 : 2 ^ 63 ≤ hi) (h2 : hi < 2 ^ 64) (h3 : lo < 2 ^ 64) : nb (hi * 2 ^ 64 + lo) = 128 := nb_uniq (n := 127) (by rw [show (2 : Nat) ^ 127 = 2 ^ 63 * 2 ^ 64 by decide]; omega) (by rw [show (2 : Nat) ^ (127 + 1) = 2 ^ 64 * 2 ^ 64 by decide]; omega)
/-- what is lost -/
def rtL (p hi lo : Nat) : Nat := if p = 64 then lo else hi * 2 ^ p % 2 ^ 64
theorem rt_n {hi lo p : Nat} (hp : pOk p) (h1 : 2 ^ 63 ≤ hi) (h2 : hi < 2 ^ 64) (h3 : lo < 2 ^ 64) :
    rK (hi * 2 ^ 64 + lo) p = hi / 2 ^ (64 - p) ∧ rHf (hi * 2 ^ 64 + lo) p = decide (2 ^ 63 ≤ rtL p hi lo) ∧ rRs (hi * 2 ^ 64 + lo) p = (decide (rtL p hi lo * 2 % 2 ^ 64 ≠ 0) || (decide (p < 64) && decide (lo ≠ 0))) ∧ gO (hi * 2 ^ 64 + lo) (128 - p) = decide (hi / 2 ^ (64 - p) % 2 = 1) := by
  have hp1 : 1 ≤ p ∧ p ≤ 64 := by rcases hp with rfl | rfl | rfl <;> decide
  obtain ⟨c1, c2, c3, c4, c5⟩ := can_K (can_hl 0 h1 h2 h3) hp1.1 hp1.2
  have hnb := x128 h1 h2 h3
  rw [hnb] at c5
  have e1 : (2 * hi + lo / 2 ^ 63) / 2 ^ (65 - p) = hi / 2 ^ (64 - p) := by
    rw [show 65 - p = 1 + (64 - p) by omega, Nat.pow_add, ← Nat.div_div_eq_div_mul]
    congr 1
    omega
  rw [e1] at c1 c5
  refine ⟨c1, ?_, ?_, c5 (by omega)⟩
  · rw [c2]
    unfold cHf rtL
    rcases hp with rfl | rfl | rfl
    · rw [if_neg (by decide)]
      apply decide_eq_decide.mpr
      omega
    · rw [if_neg (by decide)]
      apply decide_eq_decide.mpr
      omega
    · rw [if_pos rfl]
      apply decide_eq_decide.mpr
      omega
  · rw [c3]
    unfold cRs rtL
    rcases hp with rfl | rfl | rfl
    · rw [if_neg (by decide), decide_eq_true (show 24 < 64 by decide), Bool.true_and, ← Bool.decide_or, ← Bool.decide_or]
      apply decide_eq_decide.mpr
      omega
    · rw [if_neg (by decide), decide_eq_true (show 53 < 64 by decide), Bool.true_and, ← Bool.decide_or, ← Bool.decide_or]
      apply decide_eq_decide.mpr
      omega
    · rw [if_pos rfl, decide_eq_false (show ¬ 64 < 64 by decide), Bool.false_and, Bool.or_false, ← Bool.decide_or]
      apply decide_eq_decide.mpr
      omega
