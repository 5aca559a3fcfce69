/-! add of the class -/
theorem can_bd {N k W : Nat} {q e : Int} {s : Bool} (h : Can N q e W s) (hN : N < 2 ^ k) : q ≤ e ∧ e < q + k := by
  obtain ⟨t, r, h1, h2, h3, h4, h5, h6⟩ := h
  obtain ⟨c1, c2⟩ := Can.top h1 h2 h3 h4
  have ht : t < k := by
    rcases Nat.lt_or_ge t k with h | h
    · exact h
    · have := Nat.pow_le_pow_right (n := 2) (by decide) h
      omega
  omega
theorem fs_eq {x y : RV} {ex ey : Int} (h : ey ≤ ex) : fsA x ex ey = sA (rs x) (ex - ey).toNat ∧ fsD y ex ey = sD (rs y) (ex - ey).toNat ∧ fsQ ex ey = sQ ex (ex - ey).toNat := by
  unfold fsA fsD fsQ sA sD sQ
  by_cases h70 : 70 < ex - ey
  · rw [if_pos h70, if_pos h70, if_pos h70, if_pos (show 70 < (ex - ey).toNat by omega), if_pos (show 70 < (ex - ey).toNat by omega), if_pos (show 70 < (ex - ey).toNat by omega), show (10 : Int) = ((10 : Nat) : Int) from rfl, shZ_pos]
    exact ⟨rfl, rfl, rfl⟩
  · rw [if_neg h70, if_neg h70, if_neg h70, if_neg (show ¬ 70 < (ex - ey).toNat by omega), if_neg (show ¬ 70 < (ex - ey).toNat by omega), if_neg (show ¬ 70 < (ex - ey).toNat by omega)]
    refine ⟨?_, rfl, by omega⟩
    have h9 := shZ_pos (rs x) (ex - ey).toNat
    rw [show (((ex - ey).toNat : Nat) : Int) = ex - ey by omega] at h9
    exact h9
/-- the sum of a larger and a smaller finite real -/
def lsR (w p : Nat) (x y : RV) : RV × Int32 := if rn x = rn y then nRes w p (rn x) (sA (rs x) (dst x y) + sD (rs y) (dst x y)) (sQ (zr x) (dst x y)) else nRes w p (rn x) (sA (rs x) (dst x y) - sD (rs y) (dst x y)) (sQ (zr x) (dst x y))
theorem fsR_ls {w p : Nat} {x y : RV} (h : zr y ≤ zr x) (hd : sD (rs y) (dst x y) ≤ sA (rs x) (dst x y)) : fsR w p x y (zr x) (zr y) = lsR w p x y := by
  obtain ⟨h1, h2, h3⟩ := fs_eq (x := x) (y := y) h
  unfold fsR lsR
  rw [h1, h2, h3]
  show (if rn x = rn y then _ else if sD (rs y) (dst x y) ≤ sA (rs x) (dst x y) then _ else _) = _
  rw [if_pos hd]
  rfl
theorem sA_0 (s : Nat) : sA s 0 = s := by
  unfold sA
  rw [if_neg (by decide), Nat.pow_zero, Nat.mul_one]
theorem sD_0 (s : Nat) : sD s 0 = s := by
  unfold sD
  rw [if_neg (by decide)]
/-- the reference's finite sum, ordered as the class orders -/
theorem sum_ls {w p : Nat} {x y : RV} (hx : 2 ^ 63 ≤ rs x) (hy : 2 ^ 63 ≤ rs y) : (if zr x < zr y then fsR w p y x (zr y) (zr x) else fsR w p x y (zr x) (zr y)) = if zr y < zr x ∨ (zr y = zr x ∧ rs y < rs x) then lsR w p x y else lsR w p y x := by
  have hxl : rs x < 2 ^ 64 := uN_lt2 _
  have hyl : rs y < 2 ^ 64 := uN_lt2 _
  by_cases h1 : zr x < zr y
  · rw [if_pos h1, if_neg (by omega)]
    obtain ⟨-, d1, -⟩ := sum_diff (D := dst y x) (e1 := zr y) (mb := rn y) hy hyl hx hxl (fun h9 => by unfold dst at h9; omega)
    exact fsR_ls (by omega) d1
  · rw [if_neg h1]
    by_cases h2 : zr y < zr x
    · rw [if_pos (Or.inl h2)]
      obtain ⟨-, d1, -⟩ := sum_diff (D := dst x y) (e1 := zr x) (mb := rn x) hx hxl hy hyl (fun h9 => by unfold dst at h9; omega)
      exact fsR_ls (by omega) d1
    · have he : zr y = zr x := by omega
      have hD1 : dst x y = 0 := by unfold dst; omega
      have hD2 : dst y x = 0 := by unfold dst; omega
      by_cases h3 : rs y < rs x
      · rw [if_pos (Or.inr ⟨he, h3⟩)]
        refine fsR_ls (by omega) ?_
        rw [hD1, sA_0, sD_0]
        omega
      · rw [if_neg (by omega)]
        obtain ⟨e1, e2, e3⟩ := fs_eq (x := x) (y := y) (ex := zr x) (ey := zr y) (by omega)
        unfold fsR lsR
        rw [e1, e2, e3, show (zr x - zr y).toNat = 0 by omega, hD2, sA_0, sD_0, sA_0, sD_0, he]
        by_cases hs : rn x = rn y
        · rw [if_pos hs, if_pos hs.symm, hs, Nat.add_comm]
        · rw [if_neg hs, if_neg (show ¬ rn y = rn x from fun h9 => hs h9.symm)]
          by_cases h4 : rs y ≤ rs x
          · rw [if_pos h4, show rs x - rs y = 0 by omega, show rs y - rs x = 0 by omega]
            unfold nRes
            rw [if_pos rfl, if_pos rfl]
          · rw [if_neg h4]
/-- what the class's exact sum stands for -/
theorem ls_rep {w p : Nat} {x y : RV} (hx : 2 ^ 63 ≤ rs x) (hy : 2 ^ 63 ≤ rs y) (hle : zr y < zr x ∨ (zr y = zr x ∧ rs y ≤ rs x)) :
    ((cbX x y).2.2.1 = 0 ∧ (cbX x y).2.2.2 = 0 ∧ lsR w p x y = ((0, decide (w = 1), 0, 0), 0)) ∨ ∃ N : Nat, N ≠ 0 ∧ N < 2 ^ 136 ∧ xRep (cbX x y) (rn x) N (sQ (zr x) (dst x y)) ∧ lsR w p x y = (rVal w (rn x) N p 16383 (sQ (zr x) (dst x y)), rNt w (rn x) N p 16383 (sQ (zr x) (dst x y))) := by
  have hxl : rs x < 2 ^ 64 := uN_lt2 _
  have hyl : rs y < 2 ^ 64 := uN_lt2 _
  have hsA : sA (rs x) (dst x y) < 2 ^ 135 := by
    unfold sA
    split
    · omega
    · rename_i h
      have h9 : (2 : Nat) ^ dst x y ≤ 2 ^ 70 := Nat.pow_le_pow_right (by decide) (by omega)
      have h8 := Nat.mul_le_mul_left (rs x) h9
      omega
  have hsA0 : 0 < sA (rs x) (dst x y) := by
    unfold sA
    have := pow_pos2 (dst x y)
    split
    · omega
    · exact Nat.mul_pos (by omega) this
  have hsD : sD (rs y) (dst x y) < 2 ^ 64 := by
    unfold sD
    split
    · decide
    · exact hyl
  unfold cbX lsR
  by_cases hs : rn x = rn y
  · rw [if_pos hs, if_pos hs]
    refine Or.inr ⟨_, by omega, by omega, sum_same hx hxl hy hyl, ?_⟩
    unfold nRes
    rw [if_neg (by omega)]
  · rw [if_neg hs, if_neg hs]
    obtain ⟨-, d1, d2, d3⟩ := sum_diff (D := dst x y) (e1 := zr x) (mb := rn x) hx hxl hy hyl (fun h9 => by unfold dst at h9; omega)
    by_cases h0 : sA (rs x) (dst x y) - sD (rs y) (dst x y) = 0
    · left
      rw [d2 h0, h0]
      unfold nmX nRes
      rw [if_pos rfl, if_pos rfl]
      exact ⟨rfl, rfl, rfl⟩
    · refine Or.inr ⟨_, h0, by omega, d3 h0, ?_⟩
      unfold nRes
      rw [if_neg h0]
theorem one_rep {v : RV} (h : 2 ^ 63 ≤ rs v) : xRep (rn v, re v, v.2.2.2, 0) (rn v) (rs v) (zr v - 63) := by
  refine ⟨zr v, rs v, 0, ?_, h, uN_lt2 _, by decide, ?_⟩
  · rw [← re_zr v, lN_uN]
    rfl
  · have h9 := can_scale (can_hl (zr v) h (uN_lt2 _) (show 0 < 2 ^ 64 by decide)) (N := rs v) (m := 64) (by rw [Nat.add_zero]) (by decide)
    rw [show zr v - 127 + ((64 : Nat) : Int) = zr v - 63 by omega] at h9
    exact h9
section AD
variable {L : Nat} {xs : Nat → Int32} {d : Nat} {f : Nat → Int32} {g : Nat → Int64} {sg : Bool} {A : Nat → Option Nat} {W : Nat → RV} {x y v : XV} {Mc : Nat → Int64} {T : List zC}
theorem c_round_rep {p w N : Nat} {q : Int} {mb : Bool} (ht : f 4 = nI p) (hw : f 5 = nI w) (hw4 : w < 4) (hp : pOk p) (hr : xRep v mb N q) (hN : N < 2 ^ 200) (hq : -90000 ≤ q ∧ q ≤ 90000) :
    zE L xs (d + 2) m_Ro_round [.ref 12, .ref 14, .ref 10] (sH f g sg A W v y Mc T) (.inl (some (.int (rNt w mb N p 16383 q)))) (sH f g sg A (fu W 10 (rVal w mb N p 16383 q)) v y Mc T) := by
  have hp1 : 1 ≤ p ∧ p ≤ 64 := by rcases hp with rfl | rfl | rfl <;> decide
  obtain ⟨E, hi, lo, rfl, a1, a2, a3, hc⟩ := hr
  obtain ⟨b1, b2⟩ := can_bd hc hN
  obtain ⟨r1, r2⟩ := rv_hl (w := w) (mb := mb) (g := 16383) a1 a2 a3 hp1.1 hp1.2 hc
  have h9 := c_Ro_round (L := L) (xs := xs) (d := d) (f := f) (g := g) (sg := sg) (A := A) (W := W) (y := y) (Mc := Mc) (T := T) (mb := mb) (E := E) ht hw hw4 hp (by omega) a1 a2 a3
  rw [r1, r2] at h9
  exact h9
set_option maxRecDepth 10000 in
theorem c_Ex_becomeSum {q j : Nat} (hq : RP q) (hj : RP j) (k1 : rk (W q) = 1) (k2 : rk (W j) = 1) (hx : vOk (W q)) (hy : vOk (W j)) : zE L xs (d + 3) m_Ex_becomeSum [.ref 14, .ref q, .ref j] (sH f g sg A W x y Mc T) (.inl none) (sH f g sg A W (if zr (W q) < zr (W j) ∨ (zr (W q) = zr (W j) ∧ rs (W q) < rs (W j)) then cbX (W j) (W q) else cbX (W q) (W j)) y Mc T) := by
  obtain ⟨x1, x2, x3⟩ := hx.2.1 k1
  obtain ⟨y1, y2, y3⟩ := hy.2.1 k2
  have hcm := cmM_fin (x := W q) (y := W j) (k1.trans k2.symm)
  refine ⟨0, Nat.zero_le _, ?_⟩
  refine zR_n 2 rfl ?_
  refine zR_i rfl rfl rfl rfl ⟨Nat.le_of_ble_eq_true rfl, Nat.le_of_ble_eq_true rfl, Nat.le_of_ble_eq_true rfl⟩ rfl (Nat.le_refl _) (c_SR_compareMagnitudes hq hj) rfl rfl ?_
  refine zR_m 1 rfl ?_
  refine zR_if (fun h => ?_) (fun h => ?_)
  · have h9 := hcm.mp h
    rw [if_pos h9]
    refine zR_n 3 rfl ?_
    refine zR_v rfl rfl rfl rfl rfl ⟨rfl, Nat.le_of_ble_eq_true rfl, Nat.le_of_ble_eq_true rfl⟩ rfl (Nat.le_refl _) (c_Ex_combine hj hq y1 x1 (by omega) (by omega) (by omega) (by omega)) rfl rfl ?_
    exact zR_e rfl rfl rfl rfl rfl rfl
  · have h9 : ¬ (zr (W q) < zr (W j) ∨ (zr (W q) = zr (W j) ∧ rs (W q) < rs (W j))) := fun h8 => h (hcm.mpr h8)
    rw [if_neg h9]
    refine zR_n 3 rfl ?_
    refine zR_v rfl rfl rfl rfl rfl ⟨rfl, Nat.le_of_ble_eq_true rfl, Nat.le_of_ble_eq_true rfl⟩ rfl (Nat.le_refl _) (c_Ex_combine hq hj x1 y1 (by omega) (by omega) (by omega) (by omega)) rfl rfl ?_
    exact zR_to 23 rfl (zR_e rfl rfl rfl rfl rfl rfl)
set_option maxRecDepth 10000 in
theorem c_Ar_makeInvalid : zE L xs (d + 1) m_Ar_makeInvalid [.ref 10] (sH f g sg A W x y Mc T) (.inl (some (.int 1))) (sH f g sg A (fu W 10 vNan) x y Mc T) := by
  refine ⟨0, Nat.zero_le _, ?_⟩
  refine zR_n 1 rfl ?_
  refine zR_v rfl rfl rfl rfl rfl ⟨rfl, Nat.le_of_ble_eq_true rfl, Nat.le_of_ble_eq_true rfl⟩ rfl (Nat.le_refl _) (c_Re_becomeNan (Or.inl ⟨by decide, by decide⟩)) rfl rfl ?_
  exact zR_to 5 rfl (zR_e rfl rfl rfl rfl rfl rfl)
set_option maxRecDepth 10000 in
theorem c_Ar_addInfinite {q j : Nat} (hq : RP q) (hj : RP j) (hq10 : q ≠ 10) (hj10 : j ≠ 10) (hx : vOk (W q)) (hy : vOk (W j)) (h2 : eit (W j) (W q) 2 = true) : zE L xs (d + 2) m_Ar_addInfinite [.ref 13, .ref q, .ref j, .ref 10] (sH f g sg A W x y Mc T) (.inl (some (.int (if rk (W j) = rk (W q) ∧ rn (W j) ≠ rn (W q) then 1 else 0)))) (sH f g sg A (fu W 10 (if rk (W j) = rk (W q) ∧ rn (W j) ≠ rn (W q) then vNan else (2, (if rk (W j) = 2 then rn (W j) else rn (W q)), 0, 0))) x y Mc T) := by
  have h10 : RP 10 := Or.inl ⟨by decide, by decide⟩
  have inf : ∀ v : RV, vOk v → rk v = 2 → v = (2, rn v, 0, 0) := by
    rintro ⟨k, n, e, s⟩ hv hk
    obtain ⟨e1, e2⟩ := hv.2.2.1 (by rw [hk]; decide)
    have hk' : k = 2 := hk
    have e1' : e = 0 := e1
    have e2' : s = 0 := e2
    rw [hk', e1', e2']
  have cp : ¬ (rk (W j) = rk (W q) ∧ rn (W j) ≠ rn (W q)) → zR L xs (d + 2) m_Ar_addInfinite 27 [(0, .ref 13), (1, .ref q), (2, .ref j), (3, .ref 10)] [] (sH f g sg A W x y Mc T) 0 (.inl (some (.int (if rk (W j) = rk (W q) ∧ rn (W j) ≠ rn (W q) then 1 else 0)))) (sH f g sg A (fu W 10 (if rk (W j) = rk (W q) ∧ rn (W j) ≠ rn (W q) then vNan else (2, (if rk (W j) = 2 then rn (W j) else rn (W q)), 0, 0))) x y Mc T) 0 := by
    intro hn
    rw [if_neg hn, if_neg hn]
    refine zR_n 2 rfl ?_
    refine zW_g hq rfl rfl rfl rfl rfl ?_
    refine zR_n 2 rfl ?_
    refine zR_if (fun h => ?_) (fun h => ?_)
    · have hj2 : rk (W j) = 2 := by
        unfold eit at h2
        rw [decide_eq_false (show ¬ rk (W q) = 2 from h), Bool.or_false] at h2
        exact of_decide_eq_true h2
      rw [if_pos hj2, ← inf (W j) hy hj2]
      refine zR_n 1 rfl ?_
      refine zR_v rfl rfl rfl rfl rfl ⟨rfl, Nat.le_of_ble_eq_true rfl, Nat.le_of_ble_eq_true rfl⟩ rfl (Nat.le_refl _) (c_Re_copy h10 hj hj10) rfl rfl ?_
      exact zR_to 45 rfl (zR_e rfl rfl rfl rfl rfl rfl)
    · have hq2 : rk (W q) = 2 := Decidable.of_not_not h
      have he : (if rk (W j) = 2 then rn (W j) else rn (W q)) = rn (W q) := by
        split
        · rename_i hj2
          rcases Decidable.em (rn (W j) = rn (W q)) with h9 | h9
          · exact h9
          · exact absurd ⟨hj2.trans hq2.symm, h9⟩ hn
        · rfl
      rw [he, ← inf (W q) hx hq2]
      refine zR_to 41 (st' := [.ref q, .ref 10]) rfl ?_
      refine zR_v rfl rfl rfl rfl rfl ⟨rfl, Nat.le_of_ble_eq_true rfl, Nat.le_of_ble_eq_true rfl⟩ rfl (Nat.le_refl _) (c_Re_copy h10 hq hq10) rfl rfl ?_
      exact zR_to 45 rfl (zR_e rfl rfl rfl rfl rfl rfl)
  refine ⟨0, Nat.zero_le _, ?_⟩
  refine zR_n 1 rfl ?_
  refine zW_g hq rfl rfl rfl rfl rfl ?_
  refine zR_n 1 rfl ?_
  refine zW_g hj rfl rfl rfl rfl rfl ?_
  refine zR_n 1 rfl ?_
  refine zR_if (fun h => cp (fun h9 => h h9.1.symm)) (fun h => ?_)
  refine zR_n 1 rfl ?_
  refine zW_g hq rfl rfl rfl rfl rfl ?_
  refine zR_n 1 rfl ?_
  refine zW_g hj rfl rfl rfl rfl rfl ?_
  refine zR_n 1 rfl ?_
  refine zR_if (fun h1 => cp (fun h9 => h9.2 (bI_eq.mp h1).symm)) (fun h1 => ?_)
  have hb : rk (W j) = rk (W q) ∧ rn (W j) ≠ rn (W q) := ⟨(Decidable.of_not_not h).symm, fun h9 => h1 (bI_eq.mpr h9.symm)⟩
  rw [if_pos hb, if_pos hb]
  refine zR_n 1 rfl ?_
  refine zR_i rfl rfl rfl rfl ⟨Nat.le_of_ble_eq_true rfl, Nat.le_of_ble_eq_true rfl, Nat.le_of_ble_eq_true rfl⟩ rfl (Nat.le_refl _) c_Ar_makeInvalid rfl rfl ?_
  exact zR_e rfl rfl rfl rfl rfl rfl
end AD
