/-! The exact sum of the class: numbers -/
def lowP (s D : Nat) : Nat := if D = 0 then 0 else if D ≤ 64 then s * 2 ^ (64 - D) % 2 ^ 64 else if 128 ≤ D then 1 else s / 2 ^ (D - 64) ||| (if s * 2 ^ (128 - D) % 2 ^ 64 = 0 then 0 else 1)
theorem or1 (x : Nat) : x ||| 1 = 2 * (x / 2) + 1 := by
  have h : ∀ k : Nat, 2 * k ||| 1 = 2 * k + 1 := fun k => by
    have := or_1 k
    rw [Nat.pow_zero] at this
    exact this
  rcases Nat.mod_two_eq_zero_or_one x with h2 | h2
  · have e : x = 2 * (x / 2) := by omega
    conv => lhs; rw [e, h]
  · have e : x = 2 * (x / 2) ||| 1 := by rw [h]; omega
    conv => lhs; rw [e, Nat.or_assoc, Nat.or_self, h]
theorem or01 (x : Nat) (c : Prop) [Decidable c] : x ||| (if c then 0 else 1) = if c then x else 2 * (x / 2) + 1 := by
  split
  · exact Nat.or_zero x
  · exact or1 x
theorem low_a {s D : Nat} (hD : D ≤ 64) : s / 2 ^ D * 2 ^ 64 + lowP s D = s * 2 ^ (64 - D) := by
  unfold lowP
  split
  · rename_i h0
    rw [h0, Nat.pow_zero, Nat.div_one, Nat.add_zero, Nat.sub_zero]
  · have e : (2 : Nat) ^ 64 = 2 ^ D * 2 ^ (64 - D) := by rw [← Nat.pow_add]; congr 1; omega
    have e2 : s * 2 ^ (64 - D) / 2 ^ 64 = s / 2 ^ D := by
      conv => lhs; rw [e]
      exact Nat.mul_div_mul_right _ _ (pow_pos2 _)
    rw [← e2, Nat.mul_comm (s * 2 ^ (64 - D) / 2 ^ 64), Nat.div_add_mod]
theorem low_b {s : Nat} (h1 : s < 2 ^ 64) : lowP s 65 = if s % 2 = 0 then s / 2 else 2 * (s / 2 / 2) + 1 := by
  unfold lowP
  rw [if_neg (by decide), if_neg (by decide), if_neg (by decide), or01, show (65 - 64 : Nat) = 1 by decide, Nat.pow_one, show (128 - 65 : Nat) = 63 by decide]
  by_cases h : s % 2 = 0
  · rw [if_pos h, if_pos (by omega)]
  · rw [if_neg h, if_neg (by omega)]
theorem low_c {s D : Nat} (h1 : s < 2 ^ 64) (h2 : 2 ^ 63 ≤ s) (hD : 66 ≤ D) : 0 < lowP s D ∧ lowP s D < 2 ^ 62 := by
  unfold lowP
  rw [if_neg (by omega), if_neg (by omega)]
  split
  · decide
  · rename_i h9
    have e2 : (2 : Nat) ^ 2 ≤ 2 ^ (D - 64) := Nat.pow_le_pow_right (by decide) (by omega)
    have e3 : s / 2 ^ (D - 64) < 2 ^ 62 := Nat.div_lt_of_lt_mul (Nat.lt_of_lt_of_le h1 (by
      rw [show (2 : Nat) ^ 64 = 2 ^ 2 * 2 ^ 62 by decide]
      exact Nat.mul_le_mul_right _ e2))
    have e4 : 0 < s / 2 ^ (D - 64) := Nat.div_pos (Nat.le_trans (Nat.pow_le_pow_right (by decide) (show D - 64 ≤ 63 by omega)) h2) (pow_pos2 _)
    rw [or01]
    split
    · exact ⟨e4, e3⟩
    · constructor <;> omega
theorem low_d {s D : Nat} (h1 : s < 2 ^ 64) (h2 : 2 ^ 63 ≤ s) (hD : 65 ≤ D) : 0 < lowP s D ∧ lowP s D < 2 ^ 63 := by
  rcases Nat.lt_or_ge D 66 with h | h
  · obtain rfl : D = 65 := by omega
    rw [low_b h1]
    split <;> omega
  · obtain ⟨a, b⟩ := low_c h1 h2 h
    exact ⟨a, by omega⟩
/-- the reference's numbers -/
def sA (s D : Nat) : Nat := if 70 < D then s * 2 ^ 10 else s * 2 ^ D
def sD (s D : Nat) : Nat := if 70 < D then 1 else s
def sQ (e : Int) (D : Nat) : Int := if 70 < D then e - 73 else e - D - 63
def pnX (mb : Bool) (E : Int) (S Lo : Nat) : XV := if S < 2 ^ 64 then (mb, iZ E, lN S, lN Lo) else (mb, iZ (E + 1), lN (S / 2), lN (S % 2 * 2 ^ 63 + Lo / 2))
/-- what an exact number of the class stands for -/
def xRep (v : XV) (mb : Bool) (N : Nat) (q : Int) : Prop := ∃ (E : Int) (hi lo : Nat), v = (mb, iZ E, lN hi, lN lo) ∧ 2 ^ 63 ≤ hi ∧ hi < 2 ^ 64 ∧ lo < 2 ^ 64 ∧ Can N q E (2 * hi + lo / 2 ^ 63) (decide (lo % 2 ^ 63 ≠ 0))
set_option maxRecDepth 10000 in
theorem sm_aux {s1 U Lo Y Y2 : Nat} (hl : U * 2 ^ 64 + Lo = Y2 * 2) (hZ : (s1 + U) * 2 ^ 64 + Lo = Y * 2) : (s1 + U) / 2 * 2 ^ 64 + ((s1 + U) % 2 * 2 ^ 63 + Lo / 2) = Y := by
  have hLo : Lo = 2 * (Lo / 2) := by omega
  have ha : s1 + U = 2 * ((s1 + U) / 2) + (s1 + U) % 2 := by omega
  generalize Lo / 2 = l at *
  generalize (s1 + U) / 2 = a at *
  generalize (s1 + U) % 2 = b at *
  rw [ha, hLo] at hZ
  have e1 : 2 * a * 2 ^ 64 = a * 2 ^ 64 * 2 := by rw [Nat.mul_comm 2 a, Nat.mul_right_comm]
  have e2 : b * 2 ^ 64 = b * 2 ^ 63 * 2 := by rw [Nat.mul_assoc]
  have e : (2 * a + b) * 2 ^ 64 + 2 * l = (a * 2 ^ 64 + (b * 2 ^ 63 + l)) * 2 := by
    rw [Nat.add_mul, Nat.add_mul, Nat.add_mul, e1, e2, Nat.mul_comm 2 l, Nat.add_assoc]
  rw [e] at hZ
  exact Nat.eq_of_mul_eq_mul_right (by decide) hZ
theorem sum_same {s1 s2 D : Nat} {e1 : Int} {mb : Bool} (h1 : 2 ^ 63 ≤ s1) (h2 : s1 < 2 ^ 64) (h3 : 2 ^ 63 ≤ s2) (h4 : s2 < 2 ^ 64) : xRep (pnX mb e1 (s1 + s2 / 2 ^ D) (lowP s2 D)) mb (sA s1 D + sD s2 D) (sQ e1 D) := by
  rcases Nat.lt_or_ge 64 D with hD | hD
  · obtain ⟨l1, l2⟩ := low_d h4 h3 (show 65 ≤ D by omega)
    have hU : s2 / 2 ^ D = 0 := Nat.div_eq_of_lt (Nat.lt_of_lt_of_le h4 (Nat.pow_le_pow_right (by decide) (by omega)))
    rw [hU, Nat.add_zero]
    unfold pnX
    rw [if_pos h2]
    refine ⟨e1, s1, lowP s2 D, rfl, h1, h2, by omega, ?_⟩
    rw [Nat.div_eq_of_lt l2, Nat.add_zero, decide_eq_true (show lowP s2 D % 2 ^ 63 ≠ 0 by rw [Nat.mod_eq_of_lt l2]; omega)]
    unfold sA sD sQ
    by_cases h70 : 70 < D
    · rw [if_pos h70, if_pos h70, if_pos h70]
      exact ⟨73, 2 ^ 64, by omega, by decide, by omega, by omega, by omega, (decide_eq_true (by decide)).symm⟩
    · rw [if_neg h70, if_neg h70, if_neg h70]
      have hB : (2 : Nat) ^ 128 ≤ 2 ^ (D + 63) := Nat.pow_le_pow_right (by decide) (by omega)
      refine ⟨D + 63, s2 * 2 ^ 64, ?_, by omega, by omega, by omega, by omega, (decide_eq_true (by omega)).symm⟩
      rw [Nat.add_mul, Nat.mul_assoc, ← Nat.pow_add, Nat.mul_comm 2 s1, Nat.mul_assoc, ← Nat.pow_succ', show D + 63 + 1 = D + 64 by omega]
  · have hl := low_a (s := s2) hD
    have hN : sA s1 D + sD s2 D = s1 * 2 ^ D + s2 := by
      unfold sA sD
      rw [if_neg (by omega), if_neg (by omega)]
    have hQ : sQ e1 D = e1 - D - 63 := by
      unfold sQ
      rw [if_neg (by omega)]
    have hZ : (s1 + s2 / 2 ^ D) * 2 ^ 64 + lowP s2 D = (s1 * 2 ^ D + s2) * 2 ^ (64 - D) := by
      rw [Nat.add_mul, Nat.add_mul, Nat.add_assoc, hl, Nat.mul_assoc, ← Nat.pow_add, show D + (64 - D) = 64 by omega]
    have hlo : lowP s2 D < 2 ^ 64 := by
      unfold lowP
      split
      · decide
      · exact Nat.mod_lt _ (by decide)
    rw [hN, hQ]
    have hU : s2 / 2 ^ D ≤ s2 := Nat.div_le_self _ _
    unfold pnX
    by_cases hc : s1 + s2 / 2 ^ D < 2 ^ 64
    · rw [if_pos hc]
      refine ⟨e1, _, _, rfl, by omega, hc, hlo, ?_⟩
      have h9 := can_scale (can_hl e1 (show 2 ^ 63 ≤ s1 + s2 / 2 ^ D by omega) hc hlo) hZ (by omega)
      rw [show e1 - 127 + ((64 - D : Nat) : Int) = e1 - D - 63 by omega] at h9
      exact h9
    · rw [if_neg hc]
      have hD63 : D ≤ 63 := by
        rcases Nat.lt_or_ge 63 D with h | h
        · have : s2 / 2 ^ D = 0 := Nat.div_eq_of_lt (Nat.lt_of_lt_of_le h4 (Nat.pow_le_pow_right (by decide) (by omega)))
          omega
        · exact h
      have he2 : s2 * 2 ^ (64 - D) = s2 * 2 ^ (63 - D) * 2 := by rw [Nat.mul_assoc, ← Nat.pow_succ]; congr 2; omega
      have he3 : (s1 * 2 ^ D + s2) * 2 ^ (64 - D) = (s1 * 2 ^ D + s2) * 2 ^ (63 - D) * 2 := by rw [Nat.mul_assoc _ (2 ^ (63 - D)), ← Nat.pow_succ]; congr 2; omega
      rw [he2] at hl
      rw [he3] at hZ
      have hX : (s1 + s2 / 2 ^ D) / 2 * 2 ^ 64 + ((s1 + s2 / 2 ^ D) % 2 * 2 ^ 63 + lowP s2 D / 2) = (s1 * 2 ^ D + s2) * 2 ^ (63 - D) := by
        exact sm_aux hl hZ
      refine ⟨e1 + 1, _, _, rfl, by omega, by omega, by omega, ?_⟩
      have h9 := can_scale (can_hl (e1 + 1) (show 2 ^ 63 ≤ (s1 + s2 / 2 ^ D) / 2 by omega) (by omega) (show (s1 + s2 / 2 ^ D) % 2 * 2 ^ 63 + lowP s2 D / 2 < 2 ^ 64 by omega)) hX (by omega)
      rw [show e1 + 1 - 127 + ((63 - D : Nat) : Int) = e1 - D - 63 by omega] at h9
      exact h9
set_option maxRecDepth 10000 in
/-- a difference -/
theorem sum_diff {s1 s2 D : Nat} {e1 : Int} {mb : Bool} (h1 : 2 ^ 63 ≤ s1) (h2 : s1 < 2 ^ 64) (h3 : 2 ^ 63 ≤ s2) (h4 : s2 < 2 ^ 64) (h0 : D = 0 → s2 ≤ s1) :
    s2 / 2 ^ D * 2 ^ 64 + lowP s2 D ≤ s1 * 2 ^ 64 ∧ sD s2 D ≤ sA s1 D ∧ (sA s1 D - sD s2 D = 0 → s1 * 2 ^ 64 - (s2 / 2 ^ D * 2 ^ 64 + lowP s2 D) = 0) ∧ (sA s1 D - sD s2 D ≠ 0 → xRep (nmX mb e1 (s1 * 2 ^ 64 - (s2 / 2 ^ D * 2 ^ 64 + lowP s2 D))) mb (sA s1 D - sD s2 D) (sQ e1 D)) := by
  rcases Nat.lt_or_ge 64 D with hD | hD
  · obtain ⟨l1, l2⟩ := low_d h4 h3 (show 65 ≤ D by omega)
    have hU : s2 / 2 ^ D = 0 := Nat.div_eq_of_lt (Nat.lt_of_lt_of_le h4 (Nat.pow_le_pow_right (by decide) (by omega)))
    rw [hU, Nat.zero_mul, Nat.zero_add]
    have hle : sD s2 D < sA s1 D := by
      unfold sA sD
      by_cases h70 : 70 < D
      · rw [if_pos h70, if_pos h70]
        omega
      · rw [if_neg h70, if_neg h70]
        have hB : (2 : Nat) ^ 1 ≤ 2 ^ D := Nat.pow_le_pow_right (by decide) (by omega)
        have hC := Nat.mul_le_mul_left s1 hB
        omega
    refine ⟨by omega, by omega, fun h => by omega, fun _ => ?_⟩
    generalize hLo : lowP s2 D = Lo at *
    have hZ0 : s1 * 2 ^ 64 - Lo ≠ 0 := by omega
    have hZ1 : s1 * 2 ^ 64 - Lo < 2 ^ 128 := by
      rw [show (2 : Nat) ^ 128 = 2 ^ 64 * 2 ^ 64 by decide]
      omega
    unfold nmX
    rw [if_neg hZ0]
    by_cases hs : s1 = 2 ^ 63
    · -- the top bit goes down by one
      subst hs
      have hnb : nb (2 ^ 63 * 2 ^ 64 - Lo) = 127 := nb_uniq (n := 126) (by omega) (by omega)
      rw [hnb, show (128 - 127 : Nat) = 1 by decide, Nat.pow_one]
      refine ⟨e1 - 1, 2 ^ 64 - 1, 2 ^ 64 - 2 * Lo, ?_, by decide, by decide, by omega, ?_⟩
      · rw [show (2 ^ 63 * 2 ^ 64 - Lo) * 2 / 2 ^ 64 = 2 ^ 64 - 1 by omega, show (2 ^ 63 * 2 ^ 64 - Lo) * 2 % 2 ^ 64 = 2 ^ 64 - 2 * Lo by omega]
        rfl
      · unfold sA sD sQ
        by_cases h70 : 70 < D
        · rw [if_pos h70, if_pos h70, if_pos h70]
          obtain ⟨c1, c2⟩ := low_c h4 h3 (show 66 ≤ D by omega)
          rw [hLo] at c1 c2
          rw [decide_eq_true (show (2 ^ 64 - 2 * Lo) % 2 ^ 63 ≠ 0 by omega)]
          refine ⟨72, 2 ^ 72 - 2 ^ 64, by omega, by decide, by omega, by omega, by omega, (decide_eq_true (by decide)).symm⟩
        · rw [if_neg h70, if_neg h70, if_neg h70]
          rcases Nat.lt_or_ge D 66 with h66 | h66
          · obtain rfl : D = 65 := by omega
            rw [low_b h4] at hLo
            by_cases hs2 : s2 = 2 ^ 63
            · subst hs2
              rw [if_pos (by decide)] at hLo
              subst hLo
              exact ⟨127, 0, by decide, by decide, by decide, by decide, by omega, by decide⟩
            · have hb : 2 ^ 62 < Lo := by
                split at hLo <;> omega
              rw [decide_eq_true (show (2 ^ 64 - 2 * Lo) % 2 ^ 63 ≠ 0 by omega)]
              refine ⟨127, 2 ^ 128 - s2 * 2 ^ 64, by omega, by omega, by omega, by omega, by omega, (decide_eq_true (by omega)).symm⟩
          · obtain ⟨c1, c2⟩ := low_c h4 h3 h66
            rw [hLo] at c1 c2
            rw [decide_eq_true (show (2 ^ 64 - 2 * Lo) % 2 ^ 63 ≠ 0 by omega)]
            have hB : (2 : Nat) ^ 128 ≤ 2 ^ (D + 62) := Nat.pow_le_pow_right (by decide) (by omega)
            have e1' : (2 : Nat) ^ 63 * 2 ^ D * 2 ^ 64 = 2 ^ 65 * 2 ^ (D + 62) := by rw [← Nat.pow_add, ← Nat.pow_add, ← Nat.pow_add]; congr 1; omega
            refine ⟨D + 62, 2 ^ (D + 62) - s2 * 2 ^ 64, ?_, by omega, by omega, by omega, by omega, (decide_eq_true (by omega)).symm⟩
            rw [Nat.sub_mul, e1', show (2 ^ 64 - 2 * Lo) / 2 ^ 63 = 1 by omega, show 2 * (2 ^ 64 - 1) + 1 = 2 ^ 65 - 1 by decide]
            generalize (2 : Nat) ^ (D + 62) = B at *
            omega
    · have hnb : nb (s1 * 2 ^ 64 - Lo) = 128 := nb_uniq (n := 127) (by
        rw [show (2 : Nat) ^ 127 = 2 ^ 63 * 2 ^ 64 by decide]
        omega) (by
        rw [show (2 : Nat) ^ (127 + 1) = 2 ^ 64 * 2 ^ 64 by decide]
        omega)
      rw [hnb, show (128 - 128 : Nat) = 0 by decide, Nat.pow_zero, Nat.mul_one]
      refine ⟨e1, s1 - 1, 2 ^ 64 - Lo, ?_, by omega, by omega, by omega, ?_⟩
      · rw [show (s1 * 2 ^ 64 - Lo) / 2 ^ 64 = s1 - 1 by omega, show (s1 * 2 ^ 64 - Lo) % 2 ^ 64 = 2 ^ 64 - Lo by omega, show e1 - ((0 : Nat) : Int) = e1 by omega]
      · rw [decide_eq_true (show (2 ^ 64 - Lo) % 2 ^ 63 ≠ 0 by omega), show (2 ^ 64 - Lo) / 2 ^ 63 = 1 by omega]
        unfold sA sD sQ
        by_cases h70 : 70 < D
        · rw [if_pos h70, if_pos h70, if_pos h70]
          refine ⟨73, 2 ^ 73 - 2 ^ 64, by omega, by decide, by omega, by omega, by omega, (decide_eq_true (by decide)).symm⟩
        · rw [if_neg h70, if_neg h70, if_neg h70]
          have hB : (2 : Nat) ^ 128 ≤ 2 ^ (D + 63) := Nat.pow_le_pow_right (by decide) (by omega)
          have e1' : s1 * 2 ^ D * 2 ^ 64 = s1 * 2 ^ (D + 63) * 2 := by rw [Nat.mul_assoc, Nat.mul_assoc, ← Nat.pow_succ, ← Nat.pow_add]
          refine ⟨D + 63, 2 ^ (D + 63) - s2 * 2 ^ 64, ?_, by omega, by omega, by omega, by omega, (decide_eq_true (by omega)).symm⟩
          have e3 : (2 * (s1 - 1) + 1) * 2 ^ (D + 63) = s1 * 2 ^ (D + 63) * 2 - 2 ^ (D + 63) := by
            rw [show 2 * (s1 - 1) + 1 = 2 * s1 - 1 by omega, Nat.sub_mul, Nat.one_mul, Nat.mul_assoc, Nat.mul_comm 2]
          rw [Nat.sub_mul, e1', e3]
          have hC := Nat.mul_le_mul_right (2 ^ (D + 63)) (show 1 ≤ s1 by omega)
          generalize s1 * 2 ^ (D + 63) = Y at *
          generalize (2 : Nat) ^ (D + 63) = B at *
          omega
  · have hl := low_a (s := s2) hD
    have hN : sA s1 D = s1 * 2 ^ D ∧ sD s2 D = s2 := by
      unfold sA sD
      rw [if_neg (by omega), if_neg (by omega)]
      exact ⟨rfl, rfl⟩
    have hQ : sQ e1 D = e1 - D - 63 := by
      unfold sQ
      rw [if_neg (by omega)]
    have hle : s2 ≤ s1 * 2 ^ D := by
      rcases Nat.eq_zero_or_pos D with h | h
      · rw [h, Nat.pow_zero, Nat.mul_one]
        exact h0 h
      · have hB : (2 : Nat) ^ 1 ≤ 2 ^ D := Nat.pow_le_pow_right (by decide) (by omega)
        have hC := Nat.mul_le_mul_left s1 hB
        omega
    have e64 : s1 * 2 ^ 64 = s1 * 2 ^ D * 2 ^ (64 - D) := by rw [Nat.mul_assoc, ← Nat.pow_add]; congr 2; omega
    have hZ : s1 * 2 ^ 64 - (s2 / 2 ^ D * 2 ^ 64 + lowP s2 D) = (s1 * 2 ^ D - s2) * 2 ^ (64 - D) := by
      rw [hl, e64, Nat.sub_mul]
    rw [hN.1, hN.2, hQ]
    refine ⟨by rw [hl, e64]; exact Nat.mul_le_mul_right _ hle, hle, fun h => by rw [hZ, h, Nat.zero_mul], fun hne => ?_⟩
    have hZ1 : s1 * 2 ^ 64 - (s2 / 2 ^ D * 2 ^ 64 + lowP s2 D) < 2 ^ 128 := by
      rw [show (2 : Nat) ^ 128 = 2 ^ 64 * 2 ^ 64 by decide]
      omega
    rw [hZ] at hZ1 ⊢
    have hZ0 : (s1 * 2 ^ D - s2) * 2 ^ (64 - D) ≠ 0 := by
      intro h9
      have := pow_pos2 (64 - D)
      rcases Nat.mul_eq_zero.mp h9 with h8 | h8 <;> omega
    have hnb : 64 - D + 1 ≤ nb ((s1 * 2 ^ D - s2) * 2 ^ (64 - D)) := by
      rcases Nat.lt_or_ge (nb ((s1 * 2 ^ D - s2) * 2 ^ (64 - D))) (64 - D + 1) with h | h
      · have h8 := Nat.lt_of_lt_of_le (nb_lt ((s1 * 2 ^ D - s2) * 2 ^ (64 - D))) (Nat.pow_le_pow_right (n := 2) (by decide) (show nb ((s1 * 2 ^ D - s2) * 2 ^ (64 - D)) ≤ 64 - D by omega))
        have h7 := Nat.mul_le_mul_right (2 ^ (64 - D)) (show 1 ≤ s1 * 2 ^ D - s2 by omega)
        rw [Nat.one_mul] at h7
        omega
      · exact h
    obtain ⟨a1, a2, a3, a4⟩ := nm_hl hZ0 hZ1
    unfold nmX
    rw [if_neg hZ0]
    refine ⟨_, _, _, rfl, a1, a2, a3, ?_⟩
    have hc := can_hl (e1 - (128 - nb ((s1 * 2 ^ D - s2) * 2 ^ (64 - D)) : Nat)) a1 a2 a3
    have hs := can_scale hc (N := s1 * 2 ^ D - s2) (m := (64 - D) + (128 - nb ((s1 * 2 ^ D - s2) * 2 ^ (64 - D)))) (by rw [a4, Nat.mul_assoc, ← Nat.pow_add]) (by omega)
    generalize nb ((s1 * 2 ^ D - s2) * 2 ^ (64 - D)) = kk at *
    rw [show e1 - ((128 - kk : Nat) : Int) - 127 + ((64 - D + (128 - kk) : Nat) : Int) = e1 - D - 63 by omega] at hs
    exact hs
