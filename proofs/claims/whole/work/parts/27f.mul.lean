/-! becomeProduct and multiply of the class -/
section PR
variable {L : Nat} {xs : Nat → Int32} {d : Nat} {f : Nat → Int32} {g : Nat → Int64} {sg : Bool} {A : Nat → Option Nat} {W : Nat → RV} {x y : XV} {Mc : Nat → Int64} {T : List zC}
set_option maxRecDepth 10000 in
theorem c_Ex_becomeProduct {q j : Nat} (hq : RP q) (hj : RP j) : zE L xs (d + 1) m_Ex_becomeProduct [.ref 14, .ref q, .ref j] (sH f g sg A W x y Mc T) (.inl none) (sH f g sg A W (nmX (decide (rn (W q) ≠ rn (W j))) (zr (W q) + zr (W j) + 1) (rs (W q) * rs (W j))) y Mc T) := by
  have hlt : rs (W q) * rs (W j) < 2 ^ 64 * 2 ^ 64 := Nat.mul_lt_mul'' (uN_lt2 _) (uN_lt2 _)
  have rest : ∀ mb : Bool, decide (rn (W q) ≠ rn (W j)) = mb → zR L xs (d + 1) m_Ex_becomeProduct 17 [(0, .ref 14), (1, .ref q), (2, .ref j)] [.int (bI mb), .ref 14] (sH f g sg A W x y Mc T) 0 (.inl none) (sH f g sg A W (nmX (decide (rn (W q) ≠ rn (W j))) (zr (W q) + zr (W j) + 1) (rs (W q) * rs (W j))) y Mc T) 0 := by
    intro mb hmb
    rw [hmb]
    refine zX_n rfl rfl rfl ?_
    refine zR_n 2 rfl ?_
    refine zW_g hq rfl rfl rfl rfl rfl ?_
    refine zR_n 1 rfl ?_
    refine zW_g hj rfl rfl rfl rfl rfl ?_
    refine zR_to 32 (st' := [.int (re (W q) + re (W j) + iZ 1), .ref 14]) rfl ?_
    rw [re_zr (W q), re_zr (W j), iZ_add, iZ_add]
    refine zR_to 37 (st' := [.ref q, .ref 14]) (h1 := sH f g sg A W (mb, iZ (zr (W q) + zr (W j) + 1), x.2.2) y Mc T) rfl ?_
    refine zW_g hq rfl rfl rfl rfl rfl ?_
    refine zR_n 1 rfl ?_
    refine zW_g hj rfl rfl rfl rfl rfl ?_
    rw [← lN_uN (W q).2.2.2, ← lN_uN (W j).2.2.2]
    refine zR_v rfl rfl rfl rfl rfl ⟨rfl, Nat.le_of_ble_eq_true rfl, Nat.le_of_ble_eq_true rfl⟩ rfl (Nat.le_refl _) (c_Ex_multiplyBits (uN_lt2 (W q).2.2.2) (uN_lt2 (W j).2.2.2)) rfl rfl ?_
    refine zR_n 1 rfl ?_
    refine zR_v rfl rfl rfl rfl rfl ⟨rfl, Nat.le_of_ble_eq_true rfl, Nat.le_of_ble_eq_true rfl⟩ rfl (Nat.le_refl _) (c_Ex_normalize (Nat.div_lt_of_lt_mul hlt) (Nat.mod_lt _ (by decide))) rfl rfl ?_
    rw [Nat.mul_comm (uN (W q).2.2.2 * uN (W j).2.2.2 / 2 ^ 64), Nat.div_add_mod]
    exact zR_e rfl rfl rfl rfl rfl rfl
  refine ⟨0, Nat.zero_le _, ?_⟩
  refine zR_n 2 rfl ?_
  refine zW_g hq rfl rfl rfl rfl rfl ?_
  refine zR_n 1 rfl ?_
  refine zW_g hj rfl rfl rfl rfl rfl ?_
  refine zR_n 1 rfl ?_
  refine zR_if (fun h => ?_) (fun h => ?_)
  · exact zR_n 1 rfl (rest false (decide_eq_false (fun h9 => h9 (bI_eq.mp h))))
  · exact zR_n 2 rfl (rest true (decide_eq_true (fun h9 => h (bI_eq.mpr h9))))
/-- the class's exact numbers rounded -/
theorem nm_round {Z N m p w : Nat} {mb : Bool} {E q G : Int} (h0 : Z ≠ 0) (h1 : Z < 2 ^ 128) (hp : 1 ≤ p) (hp2 : p ≤ 64) (hZ : Z = N * 2 ^ m) (hm : m + (128 - nb Z) ≤ 127) (hq : q = E - 127 + m) :
    rVal w mb (Z * 2 ^ (128 - nb Z)) p G (E - (128 - nb Z : Nat) - 127) = rVal w mb N p G q ∧ rNt w mb (Z * 2 ^ (128 - nb Z)) p G (E - (128 - nb Z : Nat) - 127) = rNt w mb N p G q := by
  obtain ⟨a1, a2, a3, a4⟩ := nm_hl h0 h1
  have hc := can_hl (E - (128 - nb Z : Nat)) a1 a2 a3
  have e9 : ∀ k : Nat, Z * 2 ^ k = N * 2 ^ (m + k) := fun k => by rw [hZ, Nat.mul_assoc, ← Nat.pow_add]
  have hs := can_scale hc (N := N) (m := m + (128 - nb Z)) (by rw [a4]; exact e9 _) hm
  rw [← a4]
  rw [show E - ((128 - nb Z : Nat) : Int) - 127 + ((m + (128 - nb Z) : Nat) : Int) = q by omega] at hs
  exact rv_hl a1 a2 a3 hp hp2 hs
set_option maxRecDepth 10000 in
set_option maxHeartbeats 4000000 in
theorem c_Ar_multiply {q j p w : Nat} (hq : RP q) (hj : RP j) (ht : f 4 = nI p) (hw : f 5 = nI w) (hw4 : w < 4) (hp : pOk p) (hx : vOk (W q)) (hy : vOk (W j)) : ∃ x', zE L xs (d + 3) m_Ar_multiply [.ref 13, .ref q, .ref j, .ref 10] (sH f g sg A W x y Mc T) (.inl (some (.int (mulR w p (W j) (W q)).2))) (sH f g sg A (fu W 10 (mulR w p (W j) (W q)).1) x' y Mc T) := by
  have hp1 : 1 ≤ p ∧ p ≤ 64 := by rcases hp with rfl | rfl | rfl <;> decide
  have h10 : RP 10 := Or.inl ⟨by decide, by decide⟩
  generalize hmb : decide (rn (W j) ≠ rn (W q)) = mb
  have hmb' : decide (rn (W q) ≠ rn (W j)) = mb := by
    rw [← hmb]
    apply decide_eq_decide.mpr
    exact ⟨fun h h9 => h h9.symm, fun h h9 => h h9.symm⟩
  have go : ∀ {o : zO} {h9 : zH}, zR L xs (d + 3) m_Ar_multiply 18 [(4, .int (bI mb)), (0, .ref 13), (1, .ref q), (2, .ref j), (3, .ref 10)] [] (sH f g sg A W x y Mc T) 0 o h9 0 → zE L xs (d + 3) m_Ar_multiply [.ref 13, .ref q, .ref j, .ref 10] (sH f g sg A W x y Mc T) o h9 := fun {o h9} hr => by
    refine ⟨0, Nat.zero_le _, ?_⟩
    refine zR_n 1 rfl ?_
    refine zW_g hq rfl rfl rfl rfl rfl ?_
    refine zR_n 1 rfl ?_
    refine zW_g hj rfl rfl rfl rfl rfl ?_
    refine zR_n 1 rfl ?_
    refine zR_if (fun h => ?_) (fun h => ?_)
    · rw [← hmb', decide_eq_false (show ¬ rn (W q) ≠ rn (W j) from fun h9 => h9 (bI_eq.mp h))] at hr
      exact zR_to 18 rfl hr
    · rw [← hmb', decide_eq_true (show rn (W q) ≠ rn (W j) from fun h9 => h (bI_eq.mpr h9))] at hr
      exact zR_to 18 rfl hr
  -- three questions
  have q3 : ∀ {o : zO} {h9 : zH}, (eit (W j) (W q) 3 = true → zR L xs (d + 3) m_Ar_multiply 34 [(4, .int (bI mb)), (0, .ref 13), (1, .ref q), (2, .ref j), (3, .ref 10)] [] (sH f g sg A W x y Mc T) 0 o h9 0) → (eit (W j) (W q) 3 = false → zR L xs (d + 3) m_Ar_multiply 40 [(4, .int (bI mb)), (0, .ref 13), (1, .ref q), (2, .ref j), (3, .ref 10)] [] (sH f g sg A W x y Mc T) 0 o h9 0) → zR L xs (d + 3) m_Ar_multiply 18 [(4, .int (bI mb)), (0, .ref 13), (1, .ref q), (2, .ref j), (3, .ref 10)] [] (sH f g sg A W x y Mc T) 0 o h9 0 := fun {o h9} hy hn => by
    refine zR_n 1 rfl ?_
    refine zW_g hq rfl rfl rfl rfl rfl ?_
    refine zR_n 2 rfl ?_
    refine zR_if (fun h => hy (by unfold eit; rw [decide_eq_true (show rk (W q) = 3 from h)]; simp)) (fun h => ?_)
    refine zR_n 1 rfl ?_
    refine zW_g hj rfl rfl rfl rfl rfl ?_
    refine zR_n 2 rfl ?_
    refine zR_if (fun h2 => hn (by unfold eit; rw [decide_eq_false (show ¬ rk (W q) = 3 from h), decide_eq_false (show ¬ rk (W j) = 3 from h2)]; rfl)) (fun h2 => hy (by unfold eit; rw [decide_eq_true (show rk (W j) = 3 from Decidable.of_not_not h2)]; rfl))
  have q2 : ∀ {o : zO} {h9 : zH}, (eit (W j) (W q) 2 = true → zR L xs (d + 3) m_Ar_multiply 56 [(4, .int (bI mb)), (0, .ref 13), (1, .ref q), (2, .ref j), (3, .ref 10)] [] (sH f g sg A W x y Mc T) 0 o h9 0) → (eit (W j) (W q) 2 = false → zR L xs (d + 3) m_Ar_multiply 83 [(4, .int (bI mb)), (0, .ref 13), (1, .ref q), (2, .ref j), (3, .ref 10)] [] (sH f g sg A W x y Mc T) 0 o h9 0) → zR L xs (d + 3) m_Ar_multiply 40 [(4, .int (bI mb)), (0, .ref 13), (1, .ref q), (2, .ref j), (3, .ref 10)] [] (sH f g sg A W x y Mc T) 0 o h9 0 := fun {o h9} hy hn => by
    refine zR_n 1 rfl ?_
    refine zW_g hq rfl rfl rfl rfl rfl ?_
    refine zR_n 2 rfl ?_
    refine zR_if (fun h => hy (by unfold eit; rw [decide_eq_true (show rk (W q) = 2 from h)]; simp)) (fun h => ?_)
    refine zR_n 1 rfl ?_
    refine zW_g hj rfl rfl rfl rfl rfl ?_
    refine zR_n 2 rfl ?_
    refine zR_if (fun h2 => hn (by unfold eit; rw [decide_eq_false (show ¬ rk (W q) = 2 from h), decide_eq_false (show ¬ rk (W j) = 2 from h2)]; rfl)) (fun h2 => hy (by unfold eit; rw [decide_eq_true (show rk (W j) = 2 from Decidable.of_not_not h2)]; rfl))
  unfold mulR
  rw [hmb]
  cases h3 : eit (W j) (W q) 3 with
  | true =>
    rw [if_pos rfl]
    refine ⟨x, go (q3 (fun _ => ?_) (fun h => by rw [h3] at h; cases h))⟩
    refine zR_n 1 rfl ?_
    refine zR_v rfl rfl rfl rfl rfl ⟨rfl, Nat.le_of_ble_eq_true rfl, Nat.le_of_ble_eq_true rfl⟩ rfl (Nat.le_refl _) (c_Re_becomeNan h10) rfl rfl ?_
    exact zR_to 39 rfl (zR_e rfl rfl rfl rfl rfl rfl)
  | false =>
    rw [if_neg (show ¬ (false = true) by decide)]
    have go3 : ∀ {o : zO} {h9 : zH}, zR L xs (d + 3) m_Ar_multiply 40 [(4, .int (bI mb)), (0, .ref 13), (1, .ref q), (2, .ref j), (3, .ref 10)] [] (sH f g sg A W x y Mc T) 0 o h9 0 → zE L xs (d + 3) m_Ar_multiply [.ref 13, .ref q, .ref j, .ref 10] (sH f g sg A W x y Mc T) o h9 := fun hr => go (q3 (fun h => by rw [h3] at h; cases h) (fun _ => hr))
    cases h2 : eit (W j) (W q) 2 with
    | true =>
      have z56 : ∀ {o : zO} {h9 : zH}, (eit (W j) (W q) 0 = true → zR L xs (d + 3) m_Ar_multiply 70 [(4, .int (bI mb)), (0, .ref 13), (1, .ref q), (2, .ref j), (3, .ref 10)] [] (sH f g sg A W x y Mc T) 0 o h9 0) → (eit (W j) (W q) 0 = false → zR L xs (d + 3) m_Ar_multiply 75 [(4, .int (bI mb)), (0, .ref 13), (1, .ref q), (2, .ref j), (3, .ref 10)] [] (sH f g sg A W x y Mc T) 0 o h9 0) → zR L xs (d + 3) m_Ar_multiply 56 [(4, .int (bI mb)), (0, .ref 13), (1, .ref q), (2, .ref j), (3, .ref 10)] [] (sH f g sg A W x y Mc T) 0 o h9 0 := fun {o h9} hy hn => by
        refine zR_n 1 rfl ?_
        refine zW_g hq rfl rfl rfl rfl rfl ?_
        refine zR_n 1 rfl ?_
        refine zR_if (fun h => hy (by unfold eit; rw [decide_eq_true (show rk (W q) = 0 from h)]; simp)) (fun h => ?_)
        refine zR_n 1 rfl ?_
        refine zW_g hj rfl rfl rfl rfl rfl ?_
        refine zR_n 1 rfl ?_
        refine zR_if (fun h2 => hn (by unfold eit; rw [decide_eq_false (show ¬ rk (W q) = 0 from h), decide_eq_false (show ¬ rk (W j) = 0 from h2)]; rfl)) (fun h2 => hy (by unfold eit; rw [decide_eq_true (show rk (W j) = 0 from Decidable.of_not_not h2)]; rfl))
      cases h0 : eit (W j) (W q) 0 with
      | true =>
        rw [Bool.true_and, if_pos rfl]
        refine ⟨x, go3 (q2 (fun _ => z56 (fun _ => ?_) (fun h => by rw [h0] at h; cases h)) (fun h => by rw [h2] at h; cases h))⟩
        refine zR_n 1 rfl ?_
        refine zR_i rfl rfl rfl rfl ⟨Nat.le_of_ble_eq_true rfl, Nat.le_of_ble_eq_true rfl, Nat.le_of_ble_eq_true rfl⟩ rfl (Nat.le_refl _) (v := some (.int 1)) (h1 := sH f g sg A (fu W 10 vNan) x y Mc T) ?_ rfl rfl ?_
        · refine ⟨0, Nat.zero_le _, ?_⟩
          refine zR_n 1 rfl ?_
          refine zR_v rfl rfl rfl rfl rfl ⟨rfl, Nat.le_of_ble_eq_true rfl, Nat.le_of_ble_eq_true rfl⟩ rfl (Nat.le_refl _) (c_Re_becomeNan h10) rfl rfl ?_
          exact zR_to 5 rfl (zR_e rfl rfl rfl rfl rfl rfl)
        · exact zR_e rfl rfl rfl rfl rfl rfl
      | false =>
        rw [Bool.false_and, if_neg (show ¬ (false = true) by decide), if_pos rfl]
        refine ⟨x, go3 (q2 (fun _ => z56 (fun h => by rw [h0] at h; cases h) (fun _ => ?_)) (fun h => by rw [h2] at h; cases h))⟩
        refine zR_to 78 (st' := [.int (bI mb), .ref 10]) rfl ?_
        refine zR_v rfl rfl rfl rfl rfl ⟨rfl, Nat.le_of_ble_eq_true rfl, Nat.le_of_ble_eq_true rfl⟩ rfl (Nat.le_refl _) (c_Re_becomeInfinite h10) rfl rfl ?_
        exact zR_to 82 rfl (zR_e rfl rfl rfl rfl rfl rfl)
    | false =>
      rw [Bool.and_false, if_neg (show ¬ (false = true) by decide), if_neg (show ¬ (false = true) by decide)]
      have z83 : ∀ {o : zO} {h9 : zH}, (eit (W j) (W q) 0 = true → zR L xs (d + 3) m_Ar_multiply 97 [(4, .int (bI mb)), (0, .ref 13), (1, .ref q), (2, .ref j), (3, .ref 10)] [] (sH f g sg A W x y Mc T) 0 o h9 0) → (eit (W j) (W q) 0 = false → zR L xs (d + 3) m_Ar_multiply 105 [(4, .int (bI mb)), (0, .ref 13), (1, .ref q), (2, .ref j), (3, .ref 10)] [] (sH f g sg A W x y Mc T) 0 o h9 0) → zR L xs (d + 3) m_Ar_multiply 83 [(4, .int (bI mb)), (0, .ref 13), (1, .ref q), (2, .ref j), (3, .ref 10)] [] (sH f g sg A W x y Mc T) 0 o h9 0 := fun {o h9} hy hn => by
        refine zR_n 1 rfl ?_
        refine zW_g hq rfl rfl rfl rfl rfl ?_
        refine zR_n 1 rfl ?_
        refine zR_if (fun h => hy (by unfold eit; rw [decide_eq_true (show rk (W q) = 0 from h)]; simp)) (fun h => ?_)
        refine zR_n 1 rfl ?_
        refine zW_g hj rfl rfl rfl rfl rfl ?_
        refine zR_n 1 rfl ?_
        refine zR_if (fun h2 => hn (by unfold eit; rw [decide_eq_false (show ¬ rk (W q) = 0 from h), decide_eq_false (show ¬ rk (W j) = 0 from h2)]; rfl)) (fun h2 => hy (by unfold eit; rw [decide_eq_true (show rk (W j) = 0 from Decidable.of_not_not h2)]; rfl))
      cases h0 : eit (W j) (W q) 0 with
      | true =>
        rw [if_pos rfl]
        refine ⟨x, go3 (q2 (fun h => by rw [h2] at h; cases h) (fun _ => z83 (fun _ => ?_) (fun h => by rw [h0] at h; cases h)))⟩
        refine zR_to 100 (st' := [.int (bI mb), .ref 10]) rfl ?_
        refine zR_v rfl rfl rfl rfl rfl ⟨rfl, Nat.le_of_ble_eq_true rfl, Nat.le_of_ble_eq_true rfl⟩ rfl (Nat.le_refl _) (c_Re_becomeZero h10) rfl rfl ?_
        exact zR_to 104 rfl (zR_e rfl rfl rfl rfl rfl rfl)
      | false =>
        rw [if_neg (show ¬ (false = true) by decide)]
        obtain ⟨fj, fq⟩ := eit_fin hy hx h3 h2 h0
        obtain ⟨x1, x2, x3⟩ := hx.2.1 fq
        obtain ⟨y1, y2, y3⟩ := hy.2.1 fj
        have hZ0 : rs (W q) * rs (W j) ≠ 0 := by
          intro h9
          rcases Nat.mul_eq_zero.mp h9 with h8 | h8 <;> omega
        have hZ1 : rs (W q) * rs (W j) < 2 ^ 128 := by
          rw [show (2 : Nat) ^ 128 = 2 ^ 64 * 2 ^ 64 by decide]
          exact Nat.mul_lt_mul'' (uN_lt2 _) (uN_lt2 _)
        have hZ2 : 2 ^ 126 ≤ rs (W q) * rs (W j) := by
          rw [show (2 : Nat) ^ 126 = 2 ^ 63 * 2 ^ 63 by decide]
          exact Nat.mul_le_mul x1 y1
        have hnb : 127 ≤ nb (rs (W q) * rs (W j)) := by
          rcases Nat.lt_or_ge (nb (rs (W q) * rs (W j))) 127 with h9 | h9
          · have := Nat.lt_of_lt_of_le (nb_lt (rs (W q) * rs (W j))) (Nat.pow_le_pow_right (n := 2) (by decide) (show nb (rs (W q) * rs (W j)) ≤ 126 by omega))
            omega
          · exact h9
        obtain ⟨a1, a2, a3, a4⟩ := nm_hl hZ0 hZ1
        obtain ⟨r1, r2⟩ := nm_round (w := w) (mb := mb) (p := p) (G := 16383) (N := rs (W j) * rs (W q)) (m := 0) (E := zr (W q) + zr (W j) + 1) (q := zr (W j) + zr (W q) - 126) hZ0 hZ1 hp1.1 hp1.2 (by rw [Nat.pow_zero, Nat.mul_one, Nat.mul_comm]) (by omega) (by omega)
        have hro := c_Ro_round (L := L) (xs := xs) (d := d) (f := f) (g := g) (sg := sg) (A := A) (W := W) (y := y) (Mc := Mc) (T := T) (p := p) (w := w) (mb := mb) (E := zr (W q) + zr (W j) + 1 - (128 - nb (rs (W q) * rs (W j)) : Nat)) ht hw hw4 hp (by omega) a1 a2 a3
        rw [a4, r1, r2] at hro
        have hnm : nmX mb (zr (W q) + zr (W j) + 1) (rs (W q) * rs (W j)) = (mb, iZ (zr (W q) + zr (W j) + 1 - (128 - nb (rs (W q) * rs (W j)) : Nat)), lN (rs (W q) * rs (W j) * 2 ^ (128 - nb (rs (W q) * rs (W j))) / 2 ^ 64), lN (rs (W q) * rs (W j) * 2 ^ (128 - nb (rs (W q) * rs (W j))) % 2 ^ 64)) := if_neg hZ0
        rw [← hnm] at hro
        refine ⟨nmX mb (zr (W q) + zr (W j) + 1) (rs (W q) * rs (W j)), go3 (q2 (fun h => by rw [h2] at h; cases h) (fun _ => z83 (fun h => by rw [h0] at h; cases h) (fun _ => ?_)))⟩
        refine zR_to 111 (st' := [.ref j, .ref q, .ref 14]) rfl ?_
        refine zR_v rfl rfl rfl rfl rfl ⟨rfl, Nat.le_of_ble_eq_true rfl, Nat.le_of_ble_eq_true rfl⟩ rfl (Nat.le_refl _) (c_Ex_becomeProduct hq hj) rfl rfl ?_
        rw [hmb']
        refine zR_to 123 (st' := [.ref 10, .ref 14, .ref 12]) rfl ?_
        refine zR_v rfl rfl rfl rfl rfl ⟨rfl, Nat.le_of_ble_eq_true rfl, Nat.le_of_ble_eq_true rfl⟩ rfl (Nat.le_refl _) hro rfl rfl ?_
        exact zR_e rfl rfl rfl rfl rfl rfl
end PR
