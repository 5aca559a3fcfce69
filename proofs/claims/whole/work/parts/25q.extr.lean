/-! extract -/
def exE (v : RV) : RV := exV (decide (zr v < 0)) (zr v).natAbs
def exS (v : RV) : RV := (rk v, rn v, 0, v.2.2.2)
section EX
variable {L : Nat} {xs : Nat → Int32} {d : Nat} {mi : ZM} {pc : Nat} {lv : zL} {st st' : List Value} {h h' : zH} {k k' : Nat} {o : zO} {pc' : Nat}
variable {C : Nat → zC} {u : zC} {a : Nat → Int32} {b : Nat → Int64} {M : Nat → Int64} {R : Nat → Nat} {V : Nat → RV}
set_option maxRecDepth 10000 in
theorem e_Mo_extract0 {n : Nat} (hn : a 7 = nI n) (hn8 : n ≤ 8) (hbad : rk (V 8) ≠ 1 ∨ n = 8) : zE L xs (d + 2) m_Mo_extract [.ref 20] (mV C u a b V M R) (.inl (some (.int (if thB (fu a 5 1) then 0 else 1)))) (mV C u (thA (fu a 5 1)) b V M R) := by
  have rf : zR L xs (d + 2) m_Mo_extract 20 [(0, .ref 20)] [] (mV C u a b V M R) 0 (.inl (some (.int (if thB (fu a 5 1) then 0 else 1)))) (mV C u (thA (fu a 5 1)) b V M R) 0 := by
    refine zR_to 21 rfl ?_
    refine zR_v rfl rfl rfl rfl rfl ⟨rfl, Nat.le_of_ble_eq_true rfl, Nat.le_of_ble_eq_true rfl⟩ rfl (Nat.le_refl _) e_Mo_refuse rfl rfl ?_
    exact zR_e rfl rfl rfl rfl rfl rfl
  refine ⟨0, Nat.zero_le _, ?_⟩
  refine zR_to 8 (st' := [.int 1, .int (rk (V 8))]) rfl ?_
  refine zR_m 1 rfl ?_
  refine zR_if (fun _ => rf) (fun h => ?_)
  have h8 : n = 8 := by
    rcases hbad with h9 | h9
    · exact absurd h9 h
    · exact h9
  refine zR_to 17 (st' := [.int (nI 8), .int (a 7)]) rfl ?_
  rw [hn, h8]
  exact zR_to 20 rfl rf
theorem nat_l {e : Int} (h : -17000 ≤ e ∧ e ≤ 17000) : (if e < 0 then (- iZ e).toInt64 else (iZ e).toInt64) = lN e.natAbs := by
  split
  · rw [iZ_neg, show -e = (e.natAbs : Int) by omega, iZ_nat, nI_l (by omega)]
  · rw [show iZ e = nI e.natAbs from by rw [← iZ_nat]; congr 1; omega, nI_l (by omega)]
set_option maxRecDepth 10000 in
set_option maxHeartbeats 4000000 in
theorem e_Mo_extract1 {n : Nat} (hn : a 7 = nI n) (hn8 : n < 8) (hn1 : 1 ≤ n) (h8 : rk (V 8) = 1) (hx : vOk (V 8)) (hR : Rok R) : zEr L xs (d + 4) m_Mo_extract [.ref 20] (mV C u a b V M R) (.inl (some (.int 0))) C u (fu a 7 (nI (n + 1))) b (fu (fu (fu V 10 (exE (V 8))) (n - 1) (exE (V 8))) n (exS (V 8))) M := by
  obtain ⟨x1, x2, x3⟩ := hx.2.1 h8
  have hl : (zr (V 8)).natAbs < 2 ^ 64 := by omega
  have hR1 : Rok (fu R 0 (zr (V 8)).natAbs) := hR.fu (Nat.lt_of_lt_of_le hl (by rw [B2]; exact Nat.pow_le_pow_right (by decide) (by decide)))
  obtain ⟨R', hR', hex⟩ := e_Mo_exactly (L := L) (xs := xs) (d := d) (C := C) (u := u) (a := a) (b := b) (V := V) (M := M) (R := fu R 0 (zr (V 8)).natAbs) (N := (zr (V 8)).natAbs) (mb := decide (zr (V 8) < 0)) (by have := nb_bd hl; omega) hR1 fu_s
  refine ⟨R', hR', 0, Nat.zero_le _, ?_⟩
  have hn1' : nI n - 1 = nI (n - 1) := by
    obtain ⟨m, rfl⟩ : ∃ m, n = m + 1 := ⟨n - 1, by omega⟩
    exact nI_pred m
  -- from the call of exactly on
  have fin : zR L xs (d + 4) m_Mo_extract 60 [(1, .int (iZ (zr (V 8)))), (0, .ref 20)] [.int (bI (decide (zr (V 8) < 0))), .ref 20] (mV C u a b V M (fu R 0 (zr (V 8)).natAbs)) 0 (.inl (some (.int 0))) (mV C u (fu a 7 (nI (n + 1))) b (fu (fu (fu V 10 (exE (V 8))) (n - 1) (exE (V 8))) n (exS (V 8))) M R') 0 := by
    refine zR_v rfl rfl rfl rfl rfl ⟨rfl, Nat.le_of_ble_eq_true rfl, Nat.le_of_ble_eq_true rfl⟩ rfl (Nat.le_refl _) hex rfl rfl ?_
    refine zR_to 72 (st' := [.int (a 7 - 1), .int (nI 10), .ref 20]) rfl ?_
    rw [hn, hn1']
    refine zR_v rfl rfl rfl rfl rfl ⟨rfl, Nat.le_of_ble_eq_true rfl, Nat.le_of_ble_eq_true rfl⟩ rfl (Nat.le_refl _) (e_Mo_copy (f := 10) (t := n - 1) (by decide) (by omega)) rfl rfl ?_
    rw [fu_s]
    refine zR_to 82 (st' := [.int (a 7), .int (nI 8), .ref 20]) rfl ?_
    rw [hn]
    refine zR_v rfl rfl rfl rfl rfl ⟨rfl, Nat.le_of_ble_eq_true rfl, Nat.le_of_ble_eq_true rfl⟩ rfl (Nat.le_refl _) (e_Mo_copy (f := 8) (t := n) (by decide) (by omega)) rfl rfl ?_
    rw [fu_n (show (8 : Nat) ≠ n - 1 by omega), fu_n (show (8 : Nat) ≠ 10 by decide)]
    refine zR_to 94 (st' := [.int 0, .int (a 7), .ref 23]) rfl ?_
    rw [hn]
    refine zX_put (n := n) rfl rfl (by omega) rfl ?_
    have hW : ∀ W : Nat → RV, W n = V 8 → mH C u a b (fun i => (W i).1) (fun i => (W i).2.1) (fu (fun i => (W i).2.2.1) n 0) (fun i => (W i).2.2.2) M R' = mV C u a b (fu W n (exS (V 8))) M R' := by
      intro W hWn
      have h9 := mV_fu (C := C) (u := u) (a := a) (b := b) (V := W) (M := M) (R := R') (n := n) (k9 := (V 8).1) (b9 := (V 8).2.1) (e9 := 0) (s9 := (V 8).2.2.2)
      rw [fu_self (f := fun i => (W i).1) (k := n) (x := (V 8).1) (by show (W n).1 = _; rw [hWn]), fu_self (f := fun i => (W i).2.1) (k := n) (x := (V 8).2.1) (by show (W n).2.1 = _; rw [hWn]), fu_self (f := fun i => (W i).2.2.2) (k := n) (x := (V 8).2.2.2) (by show (W n).2.2.2 = _; rw [hWn])] at h9
      exact h9
    rw [hW (fu (fu (fu V 10 (exV (decide (zr (V 8) < 0)) (zr (V 8)).natAbs)) (n - 1) (exV (decide (zr (V 8) < 0)) (zr (V 8)).natAbs)) n (V 8)) fu_s, fu_fu]
    refine zR_to 102 (st' := [.int (a 7 + 1), .ref 20]) rfl ?_
    rw [hn, nI_1]
    refine zR_to 106 (h1 := mV C u (fu a 7 (nI (n + 1))) b (fu (fu (fu V 10 (exE (V 8))) (n - 1) (exE (V 8))) n (exS (V 8))) M R') rfl ?_
    exact zR_e rfl rfl rfl rfl rfl rfl
  refine zR_to 8 (st' := [.int 1, .int (rk (V 8))]) rfl ?_
  rw [h8]
  refine zR_to 17 (st' := [.int (nI 8), .int (a 7)]) rfl ?_
  rw [hn]
  refine zR_m 1 rfl ?_
  refine zR_if (fun _ => ?_) (fun h => absurd (fun h7 => absurd ((nI_eq (by omega) (by omega)).mp h7) (by omega)) h)
  refine zR_to 32 (st' := [.int (re (V 8))]) rfl ?_
  rw [re_zr (V 8)]
  have hll := nat_l (e := zr (V 8)) (by omega)
  refine zR_to 36 rfl ?_
  refine zR_m 1 rfl ?_
  refine zR_if (fun h => ?_) (fun h => ?_)
  · have h0 := (iZ_le (x := 0) (by omega) (by omega)).mp h
    rw [if_neg (show ¬ zr (V 8) < 0 by omega)] at hll
    rw [decide_eq_false (show ¬ zr (V 8) < 0 by omega)] at fin
    refine zR_to 47 (st' := [.long (iZ (zr (V 8))).toInt64, .int (nI 0), .ref 20]) rfl ?_
    rw [hll]
    refine zR_v rfl rfl rfl rfl rfl ⟨rfl, Nat.le_of_ble_eq_true rfl, Nat.le_of_ble_eq_true rfl⟩ rfl (Nat.le_refl _) (e_Mo_put (r := 0) (n := (zr (V 8)).natAbs) (by decide) hl hR) rfl rfl ?_
    refine zR_to 52 rfl ?_
    refine zR_m 1 rfl ?_
    refine zR_if (fun _ => ?_) (fun h9 => absurd h h9)
    refine zR_to 60 (st' := [.int (bI false), .ref 20]) rfl ?_
    exact zR_w fin rfl rfl ⟨rfl, rfl, trivial⟩
  · have h0 : zr (V 8) < 0 := by
      rcases Int.lt_or_le (zr (V 8)) 0 with h9 | h9
      · exact h9
      · exact absurd ((iZ_le (x := 0) (by omega) (by omega)).mpr h9) h
    rw [if_pos h0] at hll
    rw [decide_eq_true h0] at fin
    refine zR_to 47 (st' := [.long (- iZ (zr (V 8))).toInt64, .int (nI 0), .ref 20]) rfl ?_
    rw [hll]
    refine zR_v rfl rfl rfl rfl rfl ⟨rfl, Nat.le_of_ble_eq_true rfl, Nat.le_of_ble_eq_true rfl⟩ rfl (Nat.le_refl _) (e_Mo_put (r := 0) (n := (zr (V 8)).natAbs) (by decide) hl hR) rfl rfl ?_
    refine zR_to 52 rfl ?_
    refine zR_m 1 rfl ?_
    refine zR_if (fun h9 => absurd h9 h) (fun _ => ?_)
    refine zR_to 60 (st' := [.int (bI true), .ref 20]) rfl ?_
    exact zR_w fin rfl rfl ⟨rfl, rfl, trivial⟩
end EX
