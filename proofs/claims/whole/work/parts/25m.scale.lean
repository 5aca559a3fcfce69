/-! scaled -/
def scK (y : RV) : Nat := (63 - zr y).toNat
def scN (y : RV) : Nat := if rk y = 1 then rs y / 2 ^ scK y else 0
def scOk (y : RV) : Prop := rk y = 0 ∨ (rk y = 1 ∧ (0 ≤ zr y ∧ zr y < 16) ∧ rs y / 2 ^ scK y ≤ 40000 ∧ rs y / 2 ^ scK y * 2 ^ scK y = rs y)
def scQ (x y : RV) : Int := zr x - 63 + (if rn y then -(scN y : Int) else (scN y : Int))
section SC
variable {L : Nat} {xs : Nat → Int32} {d : Nat} {mi : ZM} {pc : Nat} {lv : zL} {st st' : List Value} {h h' : zH} {k k' : Nat} {o : zO} {pc' : Nat}
variable {C : Nat → zC} {u : zC} {a : Nat → Int32} {b : Nat → Int64} {M : Nat → Int64} {R : Nat → Nat} {V : Nat → RV}
theorem lN_eq64 {x y : Nat} (hx : x < 2 ^ 64) (hy : y < 2 ^ 64) : lN x = lN y ↔ x = y := by
  constructor
  · intro h
    have := congrArg (fun z : Int64 => z.toBitVec.toNat) h
    simp only [wb_tn hx, wb_tn hy] at this
    exact this
  · intro h
    rw [h]
theorem sc_n {s k : Nat} (hs : s < 2 ^ 64) (hk : k < 64) : ((lN s).toUInt64 >>> ((nI k).toInt64.toUInt64 &&& Int64.toUInt64 63)).toInt64.toInt32 = nI (s / 2 ^ k) := by
  rw [wb_shr hs hk, lN_i]
theorem sc_b {n k : Nat} (hn : n < 2 ^ 31) (hk : k < 64) : (nI n).toInt64 <<< ((nI k).toInt64 &&& 63) = lN (n * 2 ^ k) := by
  rw [nI_l hn, wb_shl n hk]
theorem sc_k {e : Int} (h1 : 0 ≤ e) (h2 : e < 16) : (iZ 63 - iZ e) = nI (63 - e).toNat := by
  rw [iZ_sub, ← iZ_nat]
  congr 1
  omega
set_option maxRecDepth 10000 in
/-- from the answer on whether the scale is good -/
theorem f_Mo_scaled {p w n : Nat} (hc : cOk a p w) (hx : vOk (V 8)) (hR : Rok R) (hn : n ≤ 40000) : ∃ R', Rok R' ∧ zR L xs (d + 5) m_Mo_scaled 137 [(1, .int (bI true)), (2, .int (nI n)), (0, .ref 20)] [] (mV C u a b V M R) 0 (.inl none)
    (mV C u (nt a (if rk (V 8) = 1 then rNt w (rn (V 8)) (rs (V 8)) p 16383 (zr (V 8) - 63 + (if rn (V 9) then -(n : Int) else (n : Int))) else 0)) b (fu V 10 (if rk (V 8) = 1 then rVal w (rn (V 8)) (rs (V 8)) p 16383 (zr (V 8) - 63 + (if rn (V 9) then -(n : Int) else (n : Int))) else V 8)) M R') 0 := by
  by_cases h8 : rk (V 8) = 1
  · rw [if_pos h8, if_pos h8]
    obtain ⟨x1, x2, x3⟩ := hx.2.1 h8
    have hX : rs (V 8) ≠ 0 := by omega
    have h64 := nb64 x1 (uN_lt2 _)
    refine ⟨_, rok_round (w := w) (mb := rn (V 8)) hX hc.2.2.1 (hR.fu (uN_rok _) : Rok (fu R 0 (rs (V 8)))), ?_⟩
    refine zR_to 156 (st' := [.int 1, .int (rk (V 8))]) rfl ?_
    rw [h8]
    refine zR_to 179 (st' := [.long (V 8).2.2.2, .int (nI 0), .ref 20]) rfl ?_
    refine zR_v rfl rfl rfl rfl rfl ⟨rfl, Nat.le_of_ble_eq_true rfl, Nat.le_of_ble_eq_true rfl⟩ rfl (Nat.le_refl _) (e_Mo_putU (r := 0) (by decide) hR) rfl rfl ?_
    refine zR_to 207 (st' := [.int (bI (rn (V 9))), .int (re (V 8) - iZ 63), .int (bI (rn (V 8))), .ref 20]) rfl ?_
    rw [re_zr (V 8), iZ_sub]
    have fin : ∀ z : Int, -40000 ≤ z ∧ z ≤ 40000 → zR L xs (d + 5) m_Mo_scaled 217 [(0, .ref 20)] [.int (iZ (zr (V 8) - 63 + z)), .int (bI (rn (V 8))), .ref 20] (mV C u a b V M (fu R 0 (rs (V 8)))) 0 (.inl none) (mV C u (nt a (rNt w (rn (V 8)) (rs (V 8)) p 16383 (zr (V 8) - 63 + z))) b (fu V 10 (rVal w (rn (V 8)) (rs (V 8)) p 16383 (zr (V 8) - 63 + z))) M (fu (fu (fu R 0 (rs (V 8))) 1 (rK1 w (rn (V 8)) (rs (V 8)) p)) 2 (rSg (rK1 w (rn (V 8)) (rs (V 8)) p)))) 0 := by
      intro z hz
      refine zR_v rfl rfl rfl rfl rfl ⟨rfl, Nat.le_of_ble_eq_true rfl, Nat.le_of_ble_eq_true rfl⟩ rfl (Nat.le_refl _) (e_Mo_result (X := rs (V 8)) hc (by omega) hX (by omega) (hR.fu (uN_rok _)) fu_s) rfl rfl ?_
      exact zR_e rfl rfl rfl rfl rfl rfl
    cases h9 : rn (V 9) with
    | true =>
      rw [if_pos rfl]
      refine zR_to 216 (st' := [.int (- nI n), .int (iZ (zr (V 8) - 63)), .int (bI (rn (V 8))), .ref 20]) rfl ?_
      rw [← iZ_nat, iZ_neg]
      refine zR_to 217 (st' := [.int (iZ (zr (V 8) - 63) + iZ (-(n : Int))), .int (bI (rn (V 8))), .ref 20]) rfl ?_
      rw [iZ_add]
      exact zR_w (fin _ (by omega)) rfl rfl ⟨rfl, trivial⟩
    | false =>
      rw [if_neg (by decide)]
      refine zR_to 216 (st' := [.int (nI n), .int (iZ (zr (V 8) - 63)), .int (bI (rn (V 8))), .ref 20]) rfl ?_
      rw [← iZ_nat]
      refine zR_to 217 (st' := [.int (iZ (zr (V 8) - 63) + iZ (n : Int)), .int (bI (rn (V 8))), .ref 20]) rfl ?_
      rw [iZ_add]
      exact zR_w (fin _ (by omega)) rfl rfl ⟨rfl, trivial⟩
  · rw [if_neg h8, if_neg h8, nt_0]
    refine ⟨R, hR, ?_⟩
    refine zR_to 156 (st' := [.int 1, .int (rk (V 8))]) rfl ?_
    refine zR_m 1 rfl ?_
    refine zR_if (fun h => absurd h h8) (fun _ => ?_)
    refine zR_to 164 (st' := [.int (nI 10), .int (nI 8), .ref 20]) rfl ?_
    refine zR_v rfl rfl rfl rfl rfl ⟨rfl, Nat.le_of_ble_eq_true rfl, Nat.le_of_ble_eq_true rfl⟩ rfl (Nat.le_refl _) (e_Mo_copy (f := 8) (t := 10) (by decide) (by decide)) rfl rfl ?_
    refine zR_to 220 rfl ?_
    exact zR_e rfl rfl rfl rfl rfl rfl
end SC
