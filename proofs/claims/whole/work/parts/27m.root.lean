/-! becomeRoot of the class -/
theorem sq_lt {a b : Nat} (h : a * a < b * b) : a < b := by
  rcases Nat.lt_or_ge a b with h1 | h1
  · exact h1
  · have := Nat.mul_le_mul h1 h1
    omega
theorem sq_k {W S B k A : Nat} (hA : A = B * (2 ^ k * 2 ^ k)) (h1 : W * W ≤ B) (h2 : B < (W + 1) * (W + 1)) (h3 : S * S ≤ A) (h4 : A < (S + 1) * (S + 1)) : S / 2 ^ k = W ∧ ((S % 2 ^ k = 0 ∧ S * S = A) ↔ W * W = B) := by
  have hp := pow_pos2 k
  have e1 : W * 2 ^ k * (W * 2 ^ k) = W * W * (2 ^ k * 2 ^ k) := Nat.mul_mul_mul_comm _ _ _ _
  have e2 : (W + 1) * 2 ^ k * ((W + 1) * 2 ^ k) = (W + 1) * (W + 1) * (2 ^ k * 2 ^ k) := Nat.mul_mul_mul_comm _ _ _ _
  have c1 : W * 2 ^ k < S + 1 := sq_lt (by
    rw [e1]
    exact Nat.lt_of_le_of_lt (Nat.mul_le_mul_right _ h1) (hA ▸ h4))
  have c2 : S < (W + 1) * 2 ^ k := sq_lt (by
    rw [e2]
    exact Nat.lt_of_le_of_lt h3 (hA ▸ Nat.mul_lt_mul_of_pos_right h2 (Nat.mul_pos hp hp)))
  have hd : S / 2 ^ k = W := Nat.div_eq_of_lt_le (by omega) c2
  refine ⟨hd, ?_⟩
  have hS := Nat.div_add_mod' S (2 ^ k)
  rw [hd] at hS
  constructor
  · rintro ⟨a1, a2⟩
    rw [a1, Nat.add_zero] at hS
    rw [← hS, e1, hA] at a2
    exact Nat.eq_of_mul_eq_mul_right (Nat.mul_pos hp hp) a2
  · intro a1
    have e3 : A = W * 2 ^ k * (W * 2 ^ k) := by rw [e1, a1, hA]
    have e4 : S ≤ W * 2 ^ k := by
      rcases Nat.lt_or_ge (W * 2 ^ k) S with h9 | h9
      · have := Nat.mul_lt_mul'' h9 h9
        omega
      · exact h9
    have e5 : S = W * 2 ^ k := by omega
    refine ⟨by rw [e5, Nat.mul_mod_left], by rw [e5, e3]⟩
theorem root_can {W S B A k : Nat} {q : Int} (hA : A = B * (2 ^ k * 2 ^ k)) (h1 : W * W ≤ B) (h2 : B < (W + 1) * (W + 1)) (h3 : S * S ≤ A) (h4 : A < (S + 1) * (S + 1)) (w1 : 2 ^ 64 ≤ W) (w2 : W < 2 ^ 65) : Can (2 * S + (if S * S = A then 0 else 1)) q (q + k + 65) W (decide (W * W ≠ B)) := by
  obtain ⟨d1, d2⟩ := sq_k hA h1 h2 h3 h4
  have hm : S % 2 ^ k < 2 ^ k := Nat.mod_lt _ (pow_pos2 k)
  have hQ : S = W * 2 ^ k + S % 2 ^ k := by
    have := Nat.div_add_mod' S (2 ^ k)
    rw [d1] at this
    exact this.symm
  have hs : decide (W * W ≠ B) = decide (¬ (S % 2 ^ k = 0 ∧ S * S = A)) := by
    apply decide_eq_decide.mpr
    rw [d2]
  rw [hs]
  have e6 : (2 : Nat) ^ (k + 65) = 2 ^ k * 2 * 2 ^ 64 := by rw [Nat.pow_add, Nat.mul_assoc]
  generalize hu : S % 2 ^ k = u at *
  refine ⟨k + 65, (u * 2 + (if S * S = A then 0 else 1)) * 2 ^ 64, ?_, ?_, w1, w2, by omega, ?_⟩
  · rw [e6]
    exact q_aux hQ
  · rw [e6]
    refine Nat.mul_lt_mul_of_pos_right ?_ (by decide)
    split <;> omega
  · apply decide_eq_decide.mpr
    constructor
    · intro h9 h8
      apply h9
      have h7 : u * 2 + (if S * S = A then 0 else 1) = 0 := by
        rcases Nat.mul_eq_zero.mp h8 with h6 | h6
        · exact h6
        · exact absurd h6 (by decide)
      by_cases h5 : S * S = A
      · rw [if_pos h5] at h7
        exact ⟨by omega, h5⟩
      · rw [if_neg h5] at h7
        omega
    · rintro h9 ⟨a1, a2⟩
      apply h9
      rw [a1, if_pos a2]
/-- the class's root, of a number of 128 bits -/
def rtR (A : Nat) : Nat := sqB A 64 0
def rtLo (A : Nat) : Nat := (if rtR A < A - rtR A * rtR A then 1 else 0) * 2 ^ 63 + (if A - rtR A * rtR A = 0 then 0 else 1)
def rtA (x : RV) : Nat := if zr x % 2 = 1 then rs x * 2 ^ 64 else rs x * 2 ^ 63
def roX (x : RV) : XV := (false, iZ (zr x / 2), lN (rtR (rtA x)), lN (rtLo (rtA x)))
theorem rtA_b {x : RV} (x1 : 2 ^ 63 ≤ rs x) : 2 ^ 126 ≤ rtA x ∧ rtA x < 2 ^ 128 := by
  have xl : rs x < 2 ^ 64 := uN_lt2 _
  unfold rtA
  split <;> constructor <;> omega
theorem rtR_sq {A : Nat} (h : A < 2 ^ 128) : rtR A * rtR A ≤ A ∧ A < (rtR A + 1) * (rtR A + 1) := sqB_sq 64 0 (Nat.zero_le _) (by rw [Nat.zero_add, ← Nat.pow_add]; exact h)
theorem rtR_b {A : Nat} (h0 : 2 ^ 126 ≤ A) (h : A < 2 ^ 128) : 2 ^ 63 ≤ rtR A ∧ rtR A < 2 ^ 64 := by
  obtain ⟨h1, h2⟩ := rtR_sq h
  constructor
  · have := sq_lt (a := 2 ^ 63) (b := rtR A + 1) (by rw [← Nat.pow_add]; exact Nat.lt_of_le_of_lt h0 h2)
    omega
  · exact sq_lt (by rw [← Nat.pow_add]; exact Nat.lt_of_le_of_lt h1 h)
theorem sqN_sq {A : Nat} (h : A < 2 ^ 170) : sqN A * sqN A ≤ A ∧ A < (sqN A + 1) * (sqN A + 1) := sqB_sq 85 0 (Nat.zero_le _) (by rw [Nat.zero_add, ← Nat.pow_add]; exact h)
theorem rt_W {r A : Nat} (h1 : r * r ≤ A) (h2 : A < (r + 1) * (r + 1)) : (2 * r + (if r < A - r * r then 1 else 0)) * (2 * r + (if r < A - r * r then 1 else 0)) ≤ 4 * A ∧ 4 * A < (2 * r + (if r < A - r * r then 1 else 0) + 1) * (2 * r + (if r < A - r * r then 1 else 0) + 1) ∧ ((2 * r + (if r < A - r * r then 1 else 0)) * (2 * r + (if r < A - r * r then 1 else 0)) = 4 * A ↔ A - r * r = 0) := by
  have e2 : (r + 1) * (r + 1) = r * r + 2 * r + 1 := by rw [Nat.add_mul, Nat.mul_add, Nat.one_mul, Nat.mul_one]; omega
  rw [e2] at h2
  have f0 : 2 * r * (2 * r) = 4 * (r * r) := by rw [Nat.mul_mul_mul_comm]
  have f1 : (2 * r + 1) * (2 * r + 1) = 4 * (r * r) + 4 * r + 1 := by rw [Nat.add_mul, Nat.mul_add, Nat.one_mul, Nat.mul_one, f0]; omega
  have f2 : (2 * r + 1 + 1) * (2 * r + 1 + 1) = 4 * (r * r) + 8 * r + 4 := by
    rw [show 2 * r + 1 + 1 = 2 * (r + 1) by omega, Nat.mul_mul_mul_comm, e2]
    omega
  by_cases h : r < A - r * r
  · rw [if_pos h, f1, f2]
    generalize r * r = rr at *
    refine ⟨by omega, by omega, ?_⟩
    constructor <;> intro h9 <;> omega
  · rw [if_neg h, Nat.add_zero, f0, f1]
    generalize r * r = rr at *
    refine ⟨by omega, by omega, ?_⟩
    constructor <;> intro h9 <;> omega
theorem root_rep {x : RV} (x1 : 2 ^ 63 ≤ rs x) : xRep (roX x) false (rtX (rs x * 2 ^ rtN (zr x))) ((zr x - 63 - rtN (zr x)) / 2 - 1) := by
  have xl : rs x < 2 ^ 64 := uN_lt2 _
  obtain ⟨b1, b2⟩ := rtA_b x1
  obtain ⟨r1, r2⟩ := rtR_b b1 b2
  obtain ⟨s1, s2⟩ := rtR_sq b2
  obtain ⟨w1, w2, w3⟩ := rt_W s1 s2
  have hlo : rtLo (rtA x) < 2 ^ 64 ∧ 2 * rtR (rtA x) + rtLo (rtA x) / 2 ^ 63 = 2 * rtR (rtA x) + (if rtR (rtA x) < rtA x - rtR (rtA x) * rtR (rtA x) then 1 else 0) ∧ (rtLo (rtA x) % 2 ^ 63 ≠ 0 ↔ ¬ (rtA x - rtR (rtA x) * rtR (rtA x) = 0)) := by
    unfold rtLo
    refine ⟨?_, ?_, ?_⟩
    · split <;> split <;> decide
    · congr 1
      split <;> split <;> decide
    · by_cases hz : rtA x - rtR (rtA x) * rtR (rtA x) = 0
      · rw [if_pos hz, if_neg (by omega)]
        exact ⟨fun h => absurd h (by decide), fun h => absurd hz h⟩
      · rw [if_neg hz]
        refine ⟨fun _ => hz, fun _ => ?_⟩
        split <;> decide
  refine ⟨zr x / 2, rtR (rtA x), rtLo (rtA x), rfl, r1, r2, hlo.1, ?_⟩
  rw [hlo.2.1, show decide (rtLo (rtA x) % 2 ^ 63 ≠ 0) = decide ((2 * rtR (rtA x) + (if rtR (rtA x) < rtA x - rtR (rtA x) * rtR (rtA x) then 1 else 0)) * (2 * rtR (rtA x) + (if rtR (rtA x) < rtA x - rtR (rtA x) * rtR (rtA x) then 1 else 0)) ≠ 4 * rtA x) from by
    apply decide_eq_decide.mpr
    rw [hlo.2.2]
    exact ⟨fun h h9 => h (w3.mp h9), fun h h9 => h (w3.mpr h9)⟩]
  have wb1 : 2 ^ 64 ≤ 2 * rtR (rtA x) + (if rtR (rtA x) < rtA x - rtR (rtA x) * rtR (rtA x) then 1 else 0) := by split <;> omega
  have wb2 : 2 * rtR (rtA x) + (if rtR (rtA x) < rtA x - rtR (rtA x) * rtR (rtA x) then 1 else 0) < 2 ^ 65 := by split <;> omega
  generalize 2 * rtR (rtA x) + (if rtR (rtA x) < rtA x - rtR (rtA x) * rtR (rtA x) then 1 else 0) = Wd at *
  by_cases ho : zr x % 2 = 1
  · have hn : rtN (zr x) = 100 := if_pos ho
    have ha : rtA x = rs x * 2 ^ 64 := if_pos ho
    rw [hn]
    have hA : rs x * 2 ^ 100 = 4 * rtA x * (2 ^ 17 * 2 ^ 17) := by rw [ha]; omega
    obtain ⟨q1, q2⟩ := sqN_sq (A := rs x * 2 ^ 100) (by omega)
    have h9 := root_can (q := (zr x - 63 - (100 : Nat)) / 2 - 1) hA w1 w2 q1 q2 wb1 wb2
    rw [show (zr x - 63 - ((100 : Nat) : Int)) / 2 - 1 + ((17 : Nat) : Int) + 65 = zr x / 2 by omega] at h9
    exact h9
  · have hn : rtN (zr x) = 101 := if_neg ho
    have ha : rtA x = rs x * 2 ^ 63 := if_neg ho
    rw [hn]
    have hA : rs x * 2 ^ 101 = 4 * rtA x * (2 ^ 18 * 2 ^ 18) := by rw [ha]; omega
    obtain ⟨q1, q2⟩ := sqN_sq (A := rs x * 2 ^ 101) (by omega)
    have h9 := root_can (q := (zr x - 63 - (101 : Nat)) / 2 - 1) hA w1 w2 q1 q2 wb1 wb2
    rw [show (zr x - 63 - ((101 : Nat) : Int)) / 2 - 1 + ((18 : Nat) : Int) + 65 = zr x / 2 by omega] at h9
    exact h9
