section AD
variable {L : Nat} {xs : Nat → Int32} {d : Nat} {f : Nat → Int32} {g : Nat → Int64} {sg : Bool} {A : Nat → Option Nat} {W : Nat → RV} {x y v : XV} {Mc : Nat → Int64} {T : List zC}
set_option maxRecDepth 10000 in
/-- from the exact number on -/
theorem t_Ar_add {q j p w N : Nat} {qq : Int} {mb : Bool} (ht : f 4 = nI p) (hw : f 5 = nI w) (hw4 : w < 4) (hp : pOk p) (hr : xRep v mb N qq) (hN : N < 2 ^ 200) (hq : -90000 ≤ qq ∧ qq ≤ 90000) :
    zR L xs (d + 3) m_Ar_add 145 [(0, .ref 13), (1, .ref q), (2, .ref j), (3, .ref 10)] [] (sH f g sg A W v y Mc T) 0 (.inl (some (.int (rNt w mb N p 16383 qq)))) (sH f g sg A (fu W 10 (rVal w mb N p 16383 qq)) v y Mc T) 0 := by
  have h0 : (decide (v.2.2.1 = 0) && decide (v.2.2.2 = 0)) = false := by
    obtain ⟨E, hi, lo, rfl, a1, a2, a3, -⟩ := hr
    rw [decide_eq_false (show ¬ lN hi = 0 from fun h9 => by have := lN_z.mp h9; omega)]
    rfl
  refine zR_to 149 (st' := [.ref 14]) rfl ?_
  refine zR_v rfl rfl rfl rfl rfl ⟨rfl, Nat.le_of_ble_eq_true rfl, Nat.le_of_ble_eq_true rfl⟩ rfl (Nat.le_refl _) c_Ex_isZero rfl rfl ?_
  rw [h0]
  refine zR_to 186 (st' := [.ref 10, .ref 14, .ref 12]) rfl ?_
  refine zR_v rfl rfl rfl rfl rfl ⟨rfl, Nat.le_of_ble_eq_true rfl, Nat.le_of_ble_eq_true rfl⟩ rfl (Nat.le_refl _) (c_round_rep ht hw hw4 hp hr hN hq) rfl rfl ?_
  exact zR_e rfl rfl rfl rfl rfl rfl
set_option maxRecDepth 10000 in
theorem u_Ar_add {q j w : Nat} (hw : f 5 = nI w) (hw4 : w < 4) (h1 : v.2.2.1 = 0) (h2 : v.2.2.2 = 0) :
    zR L xs (d + 3) m_Ar_add 145 [(0, .ref 13), (1, .ref q), (2, .ref j), (3, .ref 10)] [] (sH f g sg A W v y Mc T) 0 (.inl (some (.int 0))) (sH f g sg A (fu W 10 (0, decide (w = 1), 0, 0)) v y Mc T) 0 := by
  refine zR_to 149 (st' := [.ref 14]) rfl ?_
  refine zR_v rfl rfl rfl rfl rfl ⟨rfl, Nat.le_of_ble_eq_true rfl, Nat.le_of_ble_eq_true rfl⟩ rfl (Nat.le_refl _) c_Ex_isZero rfl rfl ?_
  rw [decide_eq_true h1, decide_eq_true h2]
  have fin : ∀ b : Bool, zR L xs (d + 3) m_Ar_add 172 [(0, .ref 13), (1, .ref q), (2, .ref j), (3, .ref 10)] [.int (bI b), .ref 10] (sH f g sg A W v y Mc T) 0 (.inl (some (.int 0))) (sH f g sg A (fu W 10 (0, b, 0, 0)) v y Mc T) 0 := by
    intro b
    refine zR_v rfl rfl rfl rfl rfl ⟨rfl, Nat.le_of_ble_eq_true rfl, Nat.le_of_ble_eq_true rfl⟩ rfl (Nat.le_refl _) (c_Re_becomeZero (Or.inl ⟨by decide, by decide⟩)) rfl rfl ?_
    exact zR_to 176 rfl (zR_e rfl rfl rfl rfl rfl rfl)
  refine zR_to 164 (st' := [.int 1, .int (f 5), .ref 10]) rfl ?_
  rw [hw]
  refine zR_m 1 rfl ?_
  refine zR_if (fun h => ?_) (fun h => ?_)
  · rw [decide_eq_false (show ¬ w = 1 from fun h9 => h (by rw [h9]; rfl))]
    exact zR_to 172 rfl (fin false)
  · rw [decide_eq_true (show w = 1 from (nI_eq (b := 1) (by omega) (by decide)).mp (Decidable.of_not_not h))]
    exact zR_to 172 rfl (fin true)
set_option maxRecDepth 10000 in
set_option maxHeartbeats 4000000 in
theorem c_Ar_add {q j p w : Nat} (hq : RP q) (hj : RP j) (hq10 : q ≠ 10) (hj10 : j ≠ 10) (ht : f 4 = nI p) (hw : f 5 = nI w) (hw4 : w < 4) (hp : pOk p) (hx : vOk (W q)) (hy : vOk (W j)) : ∃ x', zE L xs (d + 4) m_Ar_add [.ref 13, .ref q, .ref j, .ref 10] (sH f g sg A W x y Mc T) (.inl (some (.int (sumR w p (W j) (W q)).2))) (sH f g sg A (fu W 10 (sumR w p (W j) (W q)).1) x' y Mc T) := by
  have h10 : RP 10 := Or.inl ⟨by decide, by decide⟩
  have q3 : ∀ {o : zO} {h9 : zH}, (eit (W j) (W q) 3 = true → zR L xs (d + 4) m_Ar_add 16 [(0, .ref 13), (1, .ref q), (2, .ref j), (3, .ref 10)] [] (sH f g sg A W x y Mc T) 0 o h9 0) → (eit (W j) (W q) 3 = false → zR L xs (d + 4) m_Ar_add 22 [(0, .ref 13), (1, .ref q), (2, .ref j), (3, .ref 10)] [] (sH f g sg A W x y Mc T) 0 o h9 0) → zE L xs (d + 4) m_Ar_add [.ref 13, .ref q, .ref j, .ref 10] (sH f g sg A W x y Mc T) o h9 := fun {o h9} hy hn => by
    refine ⟨0, Nat.zero_le _, ?_⟩
    refine zR_n 1 rfl ?_
    refine zW_g hq rfl rfl rfl rfl rfl ?_
    refine zR_n 2 rfl ?_
    refine zR_if (fun h => hy (by unfold eit; rw [decide_eq_true (show rk (W q) = 3 from h)]; simp)) (fun h => ?_)
    refine zR_n 1 rfl ?_
    refine zW_g hj rfl rfl rfl rfl rfl ?_
    refine zR_n 2 rfl ?_
    refine zR_if (fun h2 => hn (by unfold eit; rw [decide_eq_false (show ¬ rk (W q) = 3 from h), decide_eq_false (show ¬ rk (W j) = 3 from h2)]; rfl)) (fun h2 => hy (by unfold eit; rw [decide_eq_true (show rk (W j) = 3 from Decidable.of_not_not h2)]; rfl))
  have q2 : ∀ {o : zO} {h9 : zH}, (eit (W j) (W q) 2 = true → zR L xs (d + 4) m_Ar_add 38 [(0, .ref 13), (1, .ref q), (2, .ref j), (3, .ref 10)] [] (sH f g sg A W x y Mc T) 0 o h9 0) → (eit (W j) (W q) 2 = false → zR L xs (d + 4) m_Ar_add 46 [(0, .ref 13), (1, .ref q), (2, .ref j), (3, .ref 10)] [] (sH f g sg A W x y Mc T) 0 o h9 0) → zR L xs (d + 4) m_Ar_add 22 [(0, .ref 13), (1, .ref q), (2, .ref j), (3, .ref 10)] [] (sH f g sg A W x y Mc T) 0 o h9 0 := fun {o h9} hy hn => by
    refine zR_n 1 rfl ?_
    refine zW_g hq rfl rfl rfl rfl rfl ?_
    refine zR_n 2 rfl ?_
    refine zR_if (fun h => hy (by unfold eit; rw [decide_eq_true (show rk (W q) = 2 from h)]; simp)) (fun h => ?_)
    refine zR_n 1 rfl ?_
    refine zW_g hj rfl rfl rfl rfl rfl ?_
    refine zR_n 2 rfl ?_
    refine zR_if (fun h2 => hn (by unfold eit; rw [decide_eq_false (show ¬ rk (W q) = 2 from h), decide_eq_false (show ¬ rk (W j) = 2 from h2)]; rfl)) (fun h2 => hy (by unfold eit; rw [decide_eq_true (show rk (W j) = 2 from Decidable.of_not_not h2)]; rfl))
  have q0 : ∀ {o : zO} {h9 : zH}, (rk (W j) = 0 ∧ rk (W q) = 0 → zR L xs (d + 4) m_Ar_add 60 [(0, .ref 13), (1, .ref q), (2, .ref j), (3, .ref 10)] [] (sH f g sg A W x y Mc T) 0 o h9 0) → (¬ (rk (W j) = 0 ∧ rk (W q) = 0) → zR L xs (d + 4) m_Ar_add 100 [(0, .ref 13), (1, .ref q), (2, .ref j), (3, .ref 10)] [] (sH f g sg A W x y Mc T) 0 o h9 0) → zR L xs (d + 4) m_Ar_add 46 [(0, .ref 13), (1, .ref q), (2, .ref j), (3, .ref 10)] [] (sH f g sg A W x y Mc T) 0 o h9 0 := fun {o h9} hy hn => by
    refine zR_n 1 rfl ?_
    refine zW_g hq rfl rfl rfl rfl rfl ?_
    refine zR_n 1 rfl ?_
    refine zR_if (fun h => hn (fun h9 => h h9.2)) (fun h => ?_)
    refine zR_n 1 rfl ?_
    refine zW_g hj rfl rfl rfl rfl rfl ?_
    refine zR_n 1 rfl ?_
    refine zR_if (fun h2 => hn (fun h9 => h2 h9.1)) (fun h2 => hy ⟨Decidable.of_not_not h2, Decidable.of_not_not h⟩)
  unfold sumR
  cases h3 : eit (W j) (W q) 3 with
  | true =>
    rw [if_pos rfl]
    refine ⟨x, q3 (fun _ => ?_) (fun h => by rw [h3] at h; cases h)⟩
    refine zR_n 1 rfl ?_
    refine zR_v rfl rfl rfl rfl rfl ⟨rfl, Nat.le_of_ble_eq_true rfl, Nat.le_of_ble_eq_true rfl⟩ rfl (Nat.le_refl _) (c_Re_becomeNan h10) rfl rfl ?_
    exact zR_to 21 rfl (zR_e rfl rfl rfl rfl rfl rfl)
  | false =>
    rw [if_neg (show ¬ (false = true) by decide)]
    have go3 : ∀ {o : zO} {h9 : zH}, zR L xs (d + 4) m_Ar_add 22 [(0, .ref 13), (1, .ref q), (2, .ref j), (3, .ref 10)] [] (sH f g sg A W x y Mc T) 0 o h9 0 → zE L xs (d + 4) m_Ar_add [.ref 13, .ref q, .ref j, .ref 10] (sH f g sg A W x y Mc T) o h9 := fun hr => q3 (fun h => by rw [h3] at h; cases h) (fun _ => hr)
    cases h2 : eit (W j) (W q) 2 with
    | true =>
      rw [if_pos rfl]
      have hinf := c_Ar_addInfinite (L := L) (xs := xs) (d := d + 1) (f := f) (g := g) (sg := sg) (A := A) (W := W) (x := x) (y := y) (Mc := Mc) (T := T) hq hj hq10 hj10 hx hy h2
      have run : ∀ {o : Option Value} {h9 : zH}, zE L xs (d + 3) m_Ar_addInfinite [.ref 13, .ref q, .ref j, .ref 10] (sH f g sg A W x y Mc T) (.inl (some (.int 0))) h9 → zE L xs (d + 4) m_Ar_add [.ref 13, .ref q, .ref j, .ref 10] (sH f g sg A W x y Mc T) (.inl (some (.int 0))) h9 := fun {o h9} hz => by
        refine go3 (q2 (fun _ => ?_) (fun h => by rw [h2] at h; cases h))
        refine zR_n 4 rfl ?_
        refine zR_v rfl rfl rfl rfl rfl ⟨rfl, Nat.le_of_ble_eq_true rfl, Nat.le_of_ble_eq_true rfl⟩ rfl (Nat.le_refl _) hz rfl rfl ?_
        exact zR_e rfl rfl rfl rfl rfl rfl
      by_cases hb : rk (W j) = rk (W q) ∧ rn (W j) ≠ rn (W q)
      · rw [if_pos hb]
        rw [if_pos hb, if_pos hb] at hinf
        refine ⟨x, go3 (q2 (fun _ => ?_) (fun h => by rw [h2] at h; cases h))⟩
        refine zR_n 4 rfl ?_
        refine zR_v rfl rfl rfl rfl rfl ⟨rfl, Nat.le_of_ble_eq_true rfl, Nat.le_of_ble_eq_true rfl⟩ rfl (Nat.le_refl _) hinf rfl rfl ?_
        exact zR_e rfl rfl rfl rfl rfl rfl
      · rw [if_neg hb]
        rw [if_neg hb, if_neg hb] at hinf
        exact ⟨x, run (o := none) hinf⟩
    | false =>
      rw [if_neg (show ¬ (false = true) by decide)]
      have go2 : ∀ {o : zO} {h9 : zH}, zR L xs (d + 4) m_Ar_add 46 [(0, .ref 13), (1, .ref q), (2, .ref j), (3, .ref 10)] [] (sH f g sg A W x y Mc T) 0 o h9 0 → zE L xs (d + 4) m_Ar_add [.ref 13, .ref q, .ref j, .ref 10] (sH f g sg A W x y Mc T) o h9 := fun hr => go3 (q2 (fun h => by rw [h2] at h; cases h) (fun _ => hr))
      by_cases hz : rk (W j) = 0 ∧ rk (W q) = 0
      · rw [if_pos hz]
        have fin : ∀ b : Bool, zR L xs (d + 4) m_Ar_add 95 [(0, .ref 13), (1, .ref q), (2, .ref j), (3, .ref 10)] [.int (bI b), .ref 10] (sH f g sg A W x y Mc T) 0 (.inl (some (.int 0))) (sH f g sg A (fu W 10 (0, b, 0, 0)) x y Mc T) 0 := by
          intro b
          refine zR_v rfl rfl rfl rfl rfl ⟨rfl, Nat.le_of_ble_eq_true rfl, Nat.le_of_ble_eq_true rfl⟩ rfl (Nat.le_refl _) (c_Re_becomeZero h10) rfl rfl ?_
          exact zR_to 99 rfl (zR_e rfl rfl rfl rfl rfl rfl)
        refine ⟨x, go2 (q0 (fun _ => ?_) (fun h => absurd hz h))⟩
        refine zR_n 2 rfl ?_
        refine zW_g hq rfl rfl rfl rfl rfl ?_
        refine zR_n 1 rfl ?_
        refine zW_g hj rfl rfl rfl rfl rfl ?_
        refine zR_n 1 rfl ?_
        refine zR_if (fun h => ?_) (fun h => ?_)
        · rw [if_neg (show ¬ rn (W j) = rn (W q) from fun h9 => h (bI_eq.mpr h9.symm))]
          refine zR_to 87 (st' := [.int 1, .int (f 5), .ref 10]) rfl ?_
          rw [hw]
          refine zR_m 1 rfl ?_
          refine zR_if (fun h => ?_) (fun h => ?_)
          · rw [decide_eq_false (show ¬ w = 1 from fun h9 => h (by rw [h9]; rfl))]
            exact zR_to 95 rfl (fin false)
          · rw [decide_eq_true (show w = 1 from (nI_eq (b := 1) (by omega) (by decide)).mp (Decidable.of_not_not h))]
            exact zR_to 95 rfl (fin true)
        · have he : rn (W q) = rn (W j) := bI_eq.mp (Decidable.of_not_not h)
          rw [if_pos he.symm, ← he]
          refine zR_n 1 rfl ?_
          refine zW_g hq rfl rfl rfl rfl rfl ?_
          exact zR_to 95 rfl (fin _)
      · rw [if_neg hz]
        have go0 : ∀ {o : zO} {h9 : zH}, zR L xs (d + 4) m_Ar_add 100 [(0, .ref 13), (1, .ref q), (2, .ref j), (3, .ref 10)] [] (sH f g sg A W x y Mc T) 0 o h9 0 → zE L xs (d + 4) m_Ar_add [.ref 13, .ref q, .ref j, .ref 10] (sH f g sg A W x y Mc T) o h9 := fun hr => go2 (q0 (fun h => absurd h hz) (fun _ => hr))
        obtain ⟨a1, a2⟩ := eit_f h3
        obtain ⟨b1, b2⟩ := eit_f h2
        by_cases hj0 : rk (W j) = 0
        · have hq1 : rk (W q) = 1 := by
            rcases hx.1 with h | h | h | h
            · exact absurd ⟨hj0, h⟩ hz
            · exact h
            · exact absurd h b2
            · exact absurd h a2
          obtain ⟨x1, x2, x3⟩ := hx.2.1 hq1
          have hl : rs (W q) < 2 ^ 200 := Nat.lt_of_lt_of_le (uN_lt2 _) (Nat.pow_le_pow_right (by decide) (by decide))
          rw [if_pos (show eit (W j) (W q) 0 = true by unfold eit; rw [decide_eq_true hj0]; rfl), if_pos hj0]
          refine ⟨(rn (W q), re (W q), (W q).2.2.2, 0), go0 ?_⟩
          refine zR_n 1 rfl ?_
          refine zW_g hj rfl rfl rfl rfl rfl ?_
          refine zR_n 1 rfl ?_
          refine zR_if (fun h => absurd hj0 h) (fun _ => ?_)
          refine zR_to 112 (st' := [.ref q, .ref 14]) rfl ?_
          refine zR_v rfl rfl rfl rfl rfl ⟨rfl, Nat.le_of_ble_eq_true rfl, Nat.le_of_ble_eq_true rfl⟩ rfl (Nat.le_refl _) (c_Ex_copy14 hq) rfl rfl ?_
          refine zR_n 1 rfl ?_
          exact t_Ar_add (d := d + 1) ht hw hw4 hp (one_rep x1) hl (by omega)
        · by_cases hq0 : rk (W q) = 0
          · have hj1 : rk (W j) = 1 := by
              rcases hy.1 with h | h | h | h
              · exact absurd h hj0
              · exact h
              · exact absurd h b1
              · exact absurd h a1
            obtain ⟨x1, x2, x3⟩ := hy.2.1 hj1
            have hl : rs (W j) < 2 ^ 200 := Nat.lt_of_lt_of_le (uN_lt2 _) (Nat.pow_le_pow_right (by decide) (by decide))
            rw [if_pos (show eit (W j) (W q) 0 = true by unfold eit; rw [decide_eq_true hq0]; simp), if_neg hj0]
            refine ⟨(rn (W j), re (W j), (W j).2.2.2, 0), go0 ?_⟩
            refine zR_n 1 rfl ?_
            refine zW_g hj rfl rfl rfl rfl rfl ?_
            refine zR_n 1 rfl ?_
            refine zR_if (fun _ => ?_) (fun h => absurd (Decidable.of_not_not h) hj0)
            refine zR_n 1 rfl ?_
            refine zW_g hq rfl rfl rfl rfl rfl ?_
            refine zR_n 1 rfl ?_
            refine zR_if (fun h => absurd hq0 h) (fun _ => ?_)
            refine zR_to 130 (st' := [.ref j, .ref 14]) rfl ?_
            refine zR_v rfl rfl rfl rfl rfl ⟨rfl, Nat.le_of_ble_eq_true rfl, Nat.le_of_ble_eq_true rfl⟩ rfl (Nat.le_refl _) (c_Ex_copy14 hj) rfl rfl ?_
            refine zR_n 1 rfl ?_
            exact t_Ar_add (d := d + 1) ht hw hw4 hp (one_rep x1) hl (by omega)
          · have h0 : eit (W j) (W q) 0 = false := by
              unfold eit
              rw [decide_eq_false hj0, decide_eq_false hq0]
              rfl
            obtain ⟨fj, fq⟩ := eit_fin hy hx h3 h2 h0
            obtain ⟨x1, x2, x3⟩ := hx.2.1 fq
            obtain ⟨y1, y2, y3⟩ := hy.2.1 fj
            rw [h0, if_neg (show ¬ (false = true) by decide), sum_ls y1 x1]
            have hbs := c_Ex_becomeSum (L := L) (xs := xs) (d := d) (f := f) (g := g) (sg := sg) (A := A) (W := W) (x := x) (y := y) (Mc := Mc) (T := T) hq hj fq fj hx hy
            -- up to the exact sum
            have run : ∀ {o : zO} {h9 : zH}, zR L xs (d + 4) m_Ar_add 145 [(0, .ref 13), (1, .ref q), (2, .ref j), (3, .ref 10)] [] (sH f g sg A W (if zr (W q) < zr (W j) ∨ (zr (W q) = zr (W j) ∧ rs (W q) < rs (W j)) then cbX (W j) (W q) else cbX (W q) (W j)) y Mc T) 0 o h9 0 → zE L xs (d + 4) m_Ar_add [.ref 13, .ref q, .ref j, .ref 10] (sH f g sg A W x y Mc T) o h9 := fun {o h9} hr => by
              refine go0 ?_
              refine zR_n 1 rfl ?_
              refine zW_g hj rfl rfl rfl rfl rfl ?_
              refine zR_n 1 rfl ?_
              refine zR_if (fun _ => ?_) (fun h => absurd (Decidable.of_not_not h) hj0)
              refine zR_n 1 rfl ?_
              refine zW_g hq rfl rfl rfl rfl rfl ?_
              refine zR_n 1 rfl ?_
              refine zR_if (fun _ => ?_) (fun h => absurd (Decidable.of_not_not h) hq0)
              refine zR_to 142 (st' := [.ref j, .ref q, .ref 14]) rfl ?_
              exact zR_v rfl rfl rfl rfl rfl ⟨rfl, Nat.le_of_ble_eq_true rfl, Nat.le_of_ble_eq_true rfl⟩ rfl (Nat.le_refl _) hbs rfl rfl hr
            have sQ_b : ∀ (e : Int) (D : Nat), -17000 ≤ e → e ≤ 17000 → -90000 ≤ sQ e D ∧ sQ e D ≤ 90000 := by
              intro e D he1 he2
              unfold sQ
              split <;> omega
            by_cases hc : zr (W q) < zr (W j) ∨ (zr (W q) = zr (W j) ∧ rs (W q) < rs (W j))
            · rw [if_pos hc]
              rw [if_pos hc] at run
              rcases ls_rep (w := w) (p := p) y1 x1 (show zr (W q) < zr (W j) ∨ (zr (W q) = zr (W j) ∧ rs (W q) ≤ rs (W j)) by omega) with ⟨z1, z2, z3⟩ | ⟨N, n0, n1, n2, n3⟩
              · rw [z3]
                exact ⟨_, run (u_Ar_add (d := d + 1) hw hw4 z1 z2)⟩
              · rw [n3]
                exact ⟨_, run (t_Ar_add (d := d + 1) ht hw hw4 hp n2 (Nat.lt_of_lt_of_le n1 (Nat.pow_le_pow_right (by decide) (by decide))) (sQ_b _ _ y2 y3))⟩
            · rw [if_neg hc]
              rw [if_neg hc] at run
              rcases ls_rep (w := w) (p := p) x1 y1 (show zr (W j) < zr (W q) ∨ (zr (W j) = zr (W q) ∧ rs (W j) ≤ rs (W q)) by omega) with ⟨z1, z2, z3⟩ | ⟨N, n0, n1, n2, n3⟩
              · rw [z3]
                exact ⟨_, run (u_Ar_add (d := d + 1) hw hw4 z1 z2)⟩
              · rw [n3]
                exact ⟨_, run (t_Ar_add (d := d + 1) ht hw hw4 hp n2 (Nat.lt_of_lt_of_le n1 (Nat.pow_le_pow_right (by decide) (by decide))) (sQ_b _ _ x2 x3))⟩
end AD
