/-! what comes out is a real of the stack -/
theorem vo_n : vOk vNan := ⟨Or.inr (Or.inr (Or.inr rfl)), fun h => absurd h (by decide), fun _ => ⟨rfl, rfl⟩, fun _ => rfl⟩
theorem vo_0 (b : Bool) : vOk (0, b, 0, 0) := ⟨Or.inl rfl, fun h => absurd h (show ¬ (0 : Int32) = 1 by decide), fun _ => ⟨rfl, rfl⟩, fun h => absurd h (show ¬ (0 : Int32) = 3 by decide)⟩
theorem vo_2 (b : Bool) : vOk (2, b, 0, 0) := ⟨Or.inr (Or.inr (Or.inl rfl)), fun h => absurd h (show ¬ (2 : Int32) = 1 by decide), fun _ => ⟨rfl, rfl⟩, fun h => absurd h (show ¬ (2 : Int32) = 3 by decide)⟩
theorem vo_r {w p X : Nat} {mb : Bool} {q : Int} (hX : X ≠ 0) (hp : pOk p) : vOk (rVal w mb X p 16383 q) := by
  rcases rVal_is (w := w) (mb := mb) (q := q) hX hp (show (1 : Int) ≤ 16383 ∧ (16383 : Int) ≤ 20000 by decide) with ⟨h1, h2, h3⟩ | ⟨h1, h2, h3⟩ | ⟨h1, h2, h3, h4⟩
  · exact ⟨Or.inl h1, fun h => absurd (h1.symm.trans h) (by decide), fun _ => ⟨h2, h3⟩, fun h => absurd (h1.symm.trans h) (by decide)⟩
  · exact ⟨Or.inr (Or.inr (Or.inl h1)), fun h => absurd (h1.symm.trans h) (by decide), fun _ => ⟨h2, h3⟩, fun h => absurd (h1.symm.trans h) (by decide)⟩
  · exact ⟨Or.inr (Or.inl h1), fun _ => ⟨h2, by omega, by omega⟩, fun h => absurd h1 h, fun h => absurd (h1.symm.trans h) (by decide)⟩
theorem vo_e {mb : Bool} {N : Nat} (hN : N < 2 ^ 200) : vOk (exV mb N) := by
  unfold exV
  by_cases h : N = 0
  · rw [if_pos h]
    exact vo_0 mb
  · rw [if_neg h]
    have hb := nb_bd hN
    refine ⟨Or.inr (Or.inl rfl), fun _ => ⟨?_, ?_, ?_⟩, fun h9 => absurd rfl h9, fun h9 => absurd h9 (show ¬ (1 : Int32) = 3 by decide)⟩
    · show 2 ^ 63 ≤ uN (lN (rSg N))
      rw [uN_lN (rSg_lt h)]
      exact rSg_ge h
    · show -17000 ≤ (iZ _).toInt
      rw [iZ_toInt (by omega) (by omega)]
      omega
    · show (iZ _).toInt ≤ 17000
      rw [iZ_toInt (by omega) (by omega)]
      omega
theorem vo_res {w p N : Nat} {mb : Bool} {q : Int} (hp : pOk p) : vOk (nRes w p mb N q).1 := by
  unfold nRes
  by_cases h : N = 0
  · rw [if_pos h]
    exact vo_0 _
  · rw [if_neg h]
    exact vo_r h hp
theorem vo_fs {w p : Nat} {x y : RV} {ex ey : Int} (hp : pOk p) : vOk (fsR w p x y ex ey).1 := by
  unfold fsR
  split
  · exact vo_res hp
  · split
    · exact vo_res hp
    · exact vo_res hp
theorem vo_one {w p : Nat} {x : RV} (hx : 2 ^ 63 ≤ rs x) (hp : pOk p) : vOk (oneR w p x).1 := vo_r (by omega) hp
theorem vo_sum {w p : Nat} {x y : RV} (hx : vOk x) (hy : vOk y) (hp : pOk p) : vOk (sumR w p x y).1 := by
  unfold sumR
  cases h3 : eit x y 3 with
  | true => exact vo_n
  | false =>
    rw [if_neg (show ¬ (false = true) by decide)]
    obtain ⟨a1, a2⟩ := eit_f h3
    cases h2 : eit x y 2 with
    | true =>
      rw [if_pos rfl]
      split
      · exact vo_n
      · exact vo_2 _
    | false =>
      rw [if_neg (show ¬ (false = true) by decide)]
      obtain ⟨b1, b2⟩ := eit_f h2
      by_cases hz : rk x = 0 ∧ rk y = 0
      · rw [if_pos hz]
        exact vo_0 _
      · rw [if_neg hz]
        cases h0 : eit x y 0 with
        | true =>
          rw [if_pos rfl]
          by_cases hx0 : rk x = 0
          · rw [if_pos hx0]
            have hy1 : rk y = 1 := by
              rcases hy.1 with h | h | h | h
              · exact absurd ⟨hx0, h⟩ hz
              · exact h
              · exact absurd h b2
              · exact absurd h a2
            exact vo_one (hy.2.1 hy1).1 hp
          · rw [if_neg hx0]
            have hx1 : rk x = 1 := by
              rcases hx.1 with h | h | h | h
              · exact absurd h hx0
              · exact h
              · exact absurd h b1
              · exact absurd h a1
            exact vo_one (hx.2.1 hx1).1 hp
        | false =>
          rw [if_neg (show ¬ (false = true) by decide)]
          split
          · exact vo_fs hp
          · exact vo_fs hp
theorem vo_mul {w p : Nat} {x y : RV} (hx : vOk x) (hy : vOk y) (hp : pOk p) : vOk (mulR w p x y).1 := by
  unfold mulR
  cases h3 : eit x y 3 with
  | true => exact vo_n
  | false =>
    rw [if_neg (show ¬ (false = true) by decide)]
    cases h2 : eit x y 2 with
    | true =>
      split
      · exact vo_n
      · exact vo_2 _
    | false =>
      rw [Bool.and_false, if_neg (show ¬ (false = true) by decide), if_neg (show ¬ (false = true) by decide)]
      cases h0 : eit x y 0 with
      | true => exact vo_0 _
      | false =>
        rw [if_neg (show ¬ (false = true) by decide)]
        obtain ⟨f1, f2⟩ := eit_fin hx hy h3 h2 h0
        have x1 := (hx.2.1 f1).1
        have y1 := (hy.2.1 f2).1
        refine vo_r (fun h9 => ?_) hp
        rcases Nat.mul_eq_zero.mp h9 with h8 | h8 <;> omega
theorem vo_div {w p : Nat} {x y : RV} (hx : vOk x) (hy : vOk y) (hp : pOk p) : vOk (divR w p x y).1 := by
  unfold divR
  cases h3 : eit x y 3 with
  | true => exact vo_n
  | false =>
    rw [if_neg (show ¬ (false = true) by decide)]
    obtain ⟨a1, a2⟩ := eit_f h3
    by_cases h1 : rk x = rk y ∧ rk x ≠ 1
    · rw [if_pos h1]
      exact vo_n
    · rw [if_neg h1]
      by_cases h2 : rk x = 2
      · rw [if_pos h2]
        exact vo_2 _
      · rw [if_neg h2]
        by_cases h4 : rk y = 2 ∨ rk x = 0
        · rw [if_pos h4]
          exact vo_0 _
        · rw [if_neg h4]
          by_cases h5 : rk y = 0
          · rw [if_pos h5]
            exact vo_2 _
          · rw [if_neg h5]
            have fx : rk x = 1 := by
              rcases hx.1 with h | h | h | h
              · exact absurd (Or.inr h) h4
              · exact h
              · exact absurd h h2
              · exact absurd h a1
            have fy : rk y = 1 := by
              rcases hy.1 with h | h | h | h
              · exact absurd h h5
              · exact h
              · exact absurd (Or.inl h) h4
              · exact absurd h a2
            exact vo_r (dvX_nb (hx.2.1 fx).1 (uN_lt2 _) (hy.2.1 fy).1).1 hp
theorem vo_root {w p : Nat} {x : RV} (hx : vOk x) (hp : pOk p) : vOk (rootR w p x).1 := by
  unfold rootR
  by_cases h1 : rk x = 3 ∨ rk x = 0 ∨ (rk x = 2 ∧ rn x = false)
  · rw [if_pos h1]
    exact hx
  · rw [if_neg h1]
    cases hn : rn x with
    | true => exact vo_n
    | false =>
      rw [if_neg (show ¬ (false = true) by decide)]
      have fx : rk x = 1 := by
        rcases hx.1 with h | h | h | h
        · exact absurd (Or.inr (Or.inl h)) h1
        · exact h
        · exact absurd (Or.inr (Or.inr ⟨h, hn⟩)) h1
        · exact absurd (Or.inl h) h1
      have x1 := (hx.2.1 fx).1
      refine vo_r (rtX_nb (fun h9 => ?_)).1 hp
      have := pow_pos2 (rtN (zr x))
      rcases Nat.mul_eq_zero.mp h9 with h8 | h8 <;> omega
theorem vo_int {w : Nat} {x : RV} (hx : vOk x) : vOk (intR w x).1 := by
  unfold intR
  by_cases h : rk x = 1 ∧ zr x < 63
  · rw [if_pos h]
    refine vo_e ?_
    have := whN_lt (w := w) (mb := rn x) (uN_lt2 x.2.2.2) h.2
    exact Nat.lt_of_le_of_lt this (by decide)
  · rw [if_neg h]
    exact hx
theorem vo_scl {w p : Nat} {x y : RV} (hx : vOk x) (hp : pOk p) : vOk (sclR w p x y).1 := by
  have hN : ∀ n, vOk (sclN w p n x y).1 := by
    intro n
    unfold sclN
    by_cases h : rk x = 1
    · rw [if_pos h]
      have := (hx.2.1 h).1
      exact vo_r (by omega) hp
    · rw [if_neg h]
      exact hx
  unfold sclR
  split
  · exact vo_n
  · split
    · exact hN _
    · split
      · exact hN _
      · exact vo_n
theorem vo_abs {x : RV} (hx : vOk x) : vOk (absR x) := ⟨hx.1, hx.2.1, hx.2.2.1, fun _ => rfl⟩
theorem vo_exE {x : RV} (hx : vOk x) (hk : rk x = 1) : vOk (exE x) := by
  obtain ⟨x1, x2, x3⟩ := hx.2.1 hk
  refine vo_e ?_
  have : (zr x).natAbs ≤ 17000 := by omega
  exact Nat.lt_of_le_of_lt this (by decide)
theorem vo_exS {x : RV} (hx : vOk x) (hk : rk x = 1) : vOk (exS x) := ⟨hx.1, fun h => ⟨(hx.2.1 h).1, (by decide : (-17000 : Int) ≤ (0 : Int32).toInt), (by decide : (0 : Int32).toInt ≤ 17000)⟩, fun h => absurd hk h, hx.2.2.2⟩
theorem vo_ld {fm : Nat} {z : Int64} : vOk (ldR fm z).1 := by
  have hR : ∀ fd fr : Nat, fOk fd fr → vOk (rdR fd fr (uN z)) := by
    intro fd fr hf
    have hfd : fd ≤ 11 ∧ fr ≤ 52 ∧ 1 ≤ fd := by rcases hf with ⟨rfl, rfl⟩ | ⟨rfl, rfl⟩ <;> decide
    unfold rdR
    split
    · exact vo_0 _
    · rename_i h0
      split
      · rename_i h1
        have hE : rdE fd fr (uN z) < 2 ^ fd := Nat.mod_lt _ (Nat.pow_pos (by decide))
        have hp : (2 : Nat) ^ fd ≤ 2 ^ 11 := Nat.pow_le_pow_right (by decide) hfd.1
        have hp2 : (2 : Nat) ^ (fd - 1) ≤ 2 ^ 10 := Nat.pow_le_pow_right (by decide) (by omega)
        have hpos := Nat.pow_pos (n := fd - 1) (show 0 < 2 by decide)
        have hF : uN z % 2 ^ fr < 2 ^ fr := Nat.mod_lt _ (Nat.pow_pos (by decide))
        have hP : 2 ^ fr * 2 ^ (63 - fr) = 2 ^ 63 := by rw [← Nat.pow_add]; congr 1; omega
        have hs1 : 2 ^ 63 ≤ (2 ^ fr + uN z % 2 ^ fr) * 2 ^ (63 - fr) := by
          rw [← hP]
          exact Nat.mul_le_mul_right _ (by omega)
        have hs2 : (2 ^ fr + uN z % 2 ^ fr) * 2 ^ (63 - fr) < 2 ^ 64 := by
          have e : (2 : Nat) ^ 64 = (2 ^ fr + 2 ^ fr) * 2 ^ (63 - fr) := by rw [Nat.add_mul, hP]
          rw [e]
          exact Nat.mul_lt_mul_of_pos_right (by omega) (Nat.pow_pos (by decide))
        refine ⟨Or.inr (Or.inl rfl), fun _ => ⟨?_, ?_, ?_⟩, fun h9 => absurd rfl h9, fun h9 => absurd h9 (show ¬ (1 : Int32) = 3 by decide)⟩
        · show 2 ^ 63 ≤ uN (lN _)
          rw [uN_lN hs2]
          exact hs1
        · show -17000 ≤ (nI _ - nI _).toInt
          rw [pk_sub_toInt (by omega) (by omega)]
          omega
        · show (nI _ - nI _).toInt ≤ 17000
          rw [pk_sub_toInt (by omega) (by omega)]
          omega
      · split
        · exact vo_2 _
        · exact vo_n
  unfold ldR
  split
  · exact vo_e (Nat.lt_of_lt_of_le (wM_lt z) (Nat.pow_le_pow_right (by decide) (by decide)))
  · split
    · exact hR 11 52 (Or.inl ⟨rfl, rfl⟩)
    · split
      · exact hR 8 23 (Or.inr ⟨rfl, rfl⟩)
      · unfold rdD
        split
        · exact vo_e (Nat.lt_of_lt_of_le (dV_lt _) (Nat.pow_le_pow_right (by decide) (by decide)))
        · exact vo_n
