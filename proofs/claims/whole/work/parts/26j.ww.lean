/-! writeWhole of the reference -/
def eD (N : Nat) : Nat → Nat
  | 0 => 0
  | t + 1 => eD N t + N / 10 ^ t % 10 * 2 ^ (4 * t)
theorem eD_lt (N : Nat) : ∀ t, eD N t < 2 ^ (4 * t)
  | 0 => by show 0 < 1; decide
  | t + 1 => by
    have h := eD_lt N t
    have h2 : N / 10 ^ t % 10 < 10 := Nat.mod_lt _ (by decide)
    have h3 : N / 10 ^ t % 10 * 2 ^ (4 * t) ≤ 9 * 2 ^ (4 * t) := Nat.mul_le_mul_right _ (by omega)
    show eD N t + N / 10 ^ t % 10 * 2 ^ (4 * t) < 2 ^ (4 * t + 4)
    rw [Nat.pow_add]
    omega
theorem eD_or {N t s : Nat} (hs : s < 2) (ht : t < 15) : lN (s * 2 ^ 60 + eD N t) ||| lN (N / 10 ^ t % 10 * 2 ^ (4 * t)) = lN (s * 2 ^ 60 + eD N (t + 1)) := by
  have h1 := eD_lt N t
  have h2 := eD_lt N (t + 1)
  have h3 : (2 : Nat) ^ (4 * (t + 1)) ≤ 2 ^ 60 := Nat.pow_le_pow_right (by decide) (by omega)
  have h4 : (2 : Nat) ^ (4 * t) ≤ 2 ^ 60 := Nat.pow_le_pow_right (by decide) (by omega)
  have e : eD N (t + 1) = eD N t + N / 10 ^ t % 10 * 2 ^ (4 * t) := rfl
  have h5 : s * 2 ^ 60 ≤ 2 ^ 60 := by omega
  rw [wb_or (by omega) (by omega)]
  congr 1
  have e1 : s * 2 ^ 60 + eD N t = s * 2 ^ 60 ||| eD N t := by
    rw [Nat.mul_comm s, Nat.two_pow_add_eq_or_of_lt (by omega)]
  have e2 : eD N t ||| N / 10 ^ t % 10 * 2 ^ (4 * t) = eD N (t + 1) := by
    rw [e, Nat.or_comm, Nat.mul_comm (N / 10 ^ t % 10), ← Nat.two_pow_add_eq_or_of_lt h1, Nat.add_comm]
  rw [e1, Nat.or_assoc, e2, Nat.mul_comm s, Nat.two_pow_add_eq_or_of_lt (by omega)]
def wwL (dec neg : Bool) : Nat := if dec then 999999999999999 else if neg then 2 ^ 63 else 2 ^ 63 - 1
def wwBig (v : RV) : Bool := decide (rk v = 2) || (decide (rk v = 3) || (decide (rk v = 1) && decide (70 < zr v)))
def wwN (w : Nat) (v : RV) : Nat := if rk v = 1 then whN w (rn v) (rs v) (zr v) else 0
def wwB (dec neg : Bool) (N : Nat) : Int64 := if dec then lN ((if neg then 1 else 0) * 2 ^ 60 + eD N 15) else if neg then - lN N else lN N
def wwR (w : Nat) (dec : Bool) (v : RV) : Int64 × Int32 := if wwBig v || decide (wwL dec (rn v) < wwN w v) then ((if dec then -1 else -9223372036854775808), 1)
  else (wwB dec (rn v) (wwN w v), if rk v = 1 ∧ whI (rs v) (zr v) = true then 16 else 0)
section WW
variable {L : Nat} {xs : Nat → Int32} {d : Nat} {C : Nat → zC} {u : zC} {a : Nat → Int32} {b : Nat → Int64} {M : Nat → Int64} {R : Nat → Nat} {V : Nat → RV}
set_option maxRecDepth 10000 in
theorem l_Mo_writeWhole {N s : Nat} (hN : N < 2 ^ 63) (hs : s < 2) : ∀ (c t : Nat), c + t = 15 → zR L xs d m_Mo_writeWhole 195 [(9, .int (nI (4 * t))), (7, .long (lN (s * 2 ^ 60 + eD N t))), (5, .long (lN (N / 10 ^ t)))] [] (mV C u a b V M R) 0 (.inl (some (.long (lN (s * 2 ^ 60 + eD N 15))))) (mV C u a b V M R) 0 := by
  intro c
  induction c with
  | zero =>
    intro t ht
    obtain rfl : t = 15 := by omega
    refine zR_to 232 rfl ?_
    exact zR_e rfl rfl rfl rfl rfl rfl
  | succ c ih =>
    intro t ht
    have hd : N / 10 ^ t < 2 ^ 63 := Nat.lt_of_le_of_lt (Nat.div_le_self _ _) hN
    refine zR_to 199 (st' := [.int (nI 60), .int (nI (4 * t))]) rfl ?_
    refine zR_m 1 rfl ?_
    refine zR_if (fun h => absurd h (nI_ge (a := 4 * t) (b := 60) (by omega) (by decide))) (fun _ => ?_)
    refine zR_to 210 (st' := [.long (lN (N / 10 ^ t) - lN (N / 10 ^ t) / lN 10 * lN 10), .long (lN (s * 2 ^ 60 + eD N t))]) rfl ?_
    rw [pk_lRem hd (by decide) (by decide)]
    refine zR_to 213 (st' := [.long (lN (N / 10 ^ t % 10) <<< ((nI (4 * t)).toInt64 &&& 63)), .long (lN (s * 2 ^ 60 + eD N t))]) rfl ?_
    rw [wb_shl _ (show 4 * t < 64 by omega)]
    refine zR_to 214 (st' := [.long (lN (s * 2 ^ 60 + eD N t) ||| lN (N / 10 ^ t % 10 * 2 ^ (4 * t)))]) rfl ?_
    rw [eD_or hs (by omega)]
    refine zR_to 222 (st' := [.long (lN (N / 10 ^ t) / lN 10)]) rfl ?_
    rw [pk_lDiv hd (by decide) (by decide), Nat.div_div_eq_div_mul, ← Nat.pow_succ]
    refine zR_to 195 rfl ?_
    refine zR_w (ih (t + 1) (by omega)) rfl rfl ⟨?_, rfl, rfl, trivial⟩
    rw [show nI (4 * (t + 1)) = nI (4 * t) + nI 4 from by rw [nI_add]; congr 1]
    rfl
set_option maxRecDepth 10000 in
/-- from the comparison on -/
theorem t_Mo_writeWhole {N : Nat} {dec big : Bool} {lim : Int64} (hN : N < 65536 ^ 32) (hl : lim = lN (wwL dec (rn (V 8)))) (hR : Rok R) (hR0 : R 0 = N) : ∃ R', Rok R' ∧ zR L xs (d + 4) m_Mo_writeWhole 104 [(0, .ref 20), (1, .int (bI dec)), (2, .int (bI big))] [.long lim] (mV C u a b V M R) 0
    (.inl (some (.long (if big || decide (wwL dec (rn (V 8)) < N) then (if dec then -1 else -9223372036854775808) else wwB dec (rn (V 8)) N)))) (mV C u (if big || decide (wwL dec (rn (V 8)) < N) then fu a 5 1 else a) b V M R') 0 := by
  have hL : wwL dec (rn (V 8)) ≤ 2 ^ 63 := by
    unfold wwL
    split
    · decide
    · split <;> decide
  have hR1 : Rok (fu R 1 (wwL dec (rn (V 8)))) := hR.fu (Nat.lt_of_lt_of_le (show wwL dec (rn (V 8)) < 2 ^ 64 by omega) (by rw [B2]; exact Nat.pow_le_pow_right (by decide) (by decide)))
  refine ⟨_, hR1, ?_⟩
  rw [hl]
  have bad : (big || decide (wwL dec (rn (V 8)) < N)) = true → zR L xs (d + 4) m_Mo_writeWhole 124 [(0, .ref 20), (1, .int (bI dec))] [] (mV C u a b V M (fu R 1 (wwL dec (rn (V 8))))) 0 (.inl (some (.long (if big || decide (wwL dec (rn (V 8)) < N) then (if dec then -1 else -9223372036854775808) else wwB dec (rn (V 8)) N)))) (mV C u (if big || decide (wwL dec (rn (V 8)) < N) then fu a 5 1 else a) b V M (fu R 1 (wwL dec (rn (V 8))))) 0 := by
    intro h
    rw [h]
    cases dec with
    | true =>
      refine zR_to 142 (st' := [.long (-1)]) (h1 := mV C u (fu a 5 1) b V M (fu R 1 (wwL true (rn (V 8))))) rfl ?_
      exact zR_e rfl rfl rfl rfl rfl rfl
    | false =>
      refine zR_to 142 (st' := [.long (-9223372036854775808)]) (h1 := mV C u (fu a 5 1) b V M (fu R 1 (wwL false (rn (V 8))))) rfl ?_
      exact zR_e rfl rfl rfl rfl rfl rfl
  refine zR_to 108 (st' := [.long (lN (wwL dec (rn (V 8)))), .int (nI 1), .ref 20]) rfl ?_
  refine zR_v rfl rfl rfl rfl rfl ⟨rfl, Nat.le_of_ble_eq_true rfl, Nat.le_of_ble_eq_true rfl⟩ rfl (Nat.le_refl _) (e_Mo_put (r := 1) (n := wwL dec (rn (V 8))) (by decide) (by omega) hR) rfl rfl ?_
  cases big with
  | true =>
    refine zR_to 124 rfl ?_
    exact zR_w (bad rfl) rfl rfl ⟨rfl, rfl, trivial⟩
  | false =>
    refine zR_to 118 (st' := [.int (nI 1), .int (nI 0), .ref 20]) rfl ?_
    refine zR_v rfl rfl rfl rfl rfl ⟨rfl, Nat.le_of_ble_eq_true rfl, Nat.le_of_ble_eq_true rfl⟩ rfl (Nat.le_refl _) (e_Mo_compareRows (p := 0) (q := 1) (by decide) (by decide) hR1) rfl rfl ?_
    rw [show fu R 1 (wwL dec (rn (V 8))) 0 = N from by rw [fu_n (by decide), hR0], fu_s]
    have hcz := cmpZ_rng N (wwL dec (rn (V 8)))
    refine zR_m 1 rfl ?_
    refine zR_if (fun h => ?_) (fun h => ?_)
    · have hle : N ≤ wwL dec (rn (V 8)) := cmpZ_le.mp ((iZ_le (y := 0) (by omega) (by omega)).mp h)
      have hc : (false || decide (wwL dec (rn (V 8)) < N)) = false := by
        rw [decide_eq_false (show ¬ wwL dec (rn (V 8)) < N by omega)]
        rfl
      rw [hc, if_neg (show ¬ (false = true) by decide), if_neg (show ¬ (false = true) by decide)]
      refine zR_to 145 (st' := [.int (nI 0), .ref 20]) rfl ?_
      refine zR_v rfl rfl rfl rfl rfl ⟨rfl, Nat.le_of_ble_eq_true rfl, Nat.le_of_ble_eq_true rfl⟩ rfl (Nat.le_refl _) (e_Mo_lowest (r := 0) (by decide)) rfl rfl ?_
      rw [show fu R 1 (wwL dec (rn (V 8))) 0 = N from by rw [fu_n (by decide), hR0], Nat.mod_eq_of_lt (show N < 2 ^ 64 by omega)]
      unfold wwB
      cases dec with
      | false =>
        refine zR_to 161 (st' := [.int (bI (rn (V 8)))]) rfl ?_
        cases hn : rn (V 8) with
        | true =>
          refine zR_to 172 (st' := [.long (- lN N)]) rfl ?_
          exact zR_e rfl rfl rfl rfl rfl rfl
        | false =>
          refine zR_to 172 (st' := [.long (lN N)]) rfl ?_
          exact zR_e rfl rfl rfl rfl rfl rfl
      | true =>
        have hle2 : N < 2 ^ 63 := by
          have : N ≤ 999999999999999 := hle
          omega
        refine zR_to 180 (st' := [.int (bI (rn (V 8)))]) rfl ?_
        cases hn : rn (V 8) with
        | true =>
          refine zR_to 195 rfl ?_
          exact zR_w (l_Mo_writeWhole (s := 1) hle2 (by decide) 15 0 rfl) rfl rfl ⟨rfl, rfl, by rw [Nat.pow_zero, Nat.div_one]; rfl, trivial⟩
        | false =>
          refine zR_to 195 rfl ?_
          exact zR_w (l_Mo_writeWhole (s := 0) hle2 (by decide) 15 0 rfl) rfl rfl ⟨rfl, rfl, by rw [Nat.pow_zero, Nat.div_one]; rfl, trivial⟩
    · refine zR_w (bad ?_) rfl rfl ⟨rfl, rfl, trivial⟩
      rw [decide_eq_true (show wwL dec (rn (V 8)) < N by
        rcases Nat.lt_or_ge (wwL dec (rn (V 8))) N with h9 | h9
        · exact h9
        · exact absurd ((iZ_le (y := 0) (by omega) (by omega)).mpr (cmpZ_le.mpr h9)) h)]
      rfl
end WW
