def costN (n : Nat) : Nat := if n < 2 then 8 else if n = 2 then 12 else if n < 5 then 20 else if n < 8 then 6 else 2
def rkS (v : RV) : Int := if rk v = 0 then 0 else if rk v = 1 then 1 else 2
def rankZ (v : RV) : Int := if rn v then - rkS v else rkS v
theorem rankZ_rng (v : RV) : -2 ≤ rankZ v ∧ rankZ v ≤ 2 := by
  unfold rankZ rkS
  repeat' split
  all_goals omega
def cmC (x y : RV) : Int := if zr x = zr y then cmpZ (rs x) (rs y) else zr x - zr y
def cmpR (x y : RV) : Int32 := if eit x y 3 then 3 else if rankZ x ≠ rankZ y then (if rankZ y < rankZ x then 0 else 1) else if rk x ≠ 1 then 2
  else if cmC x y = 0 then 2 else if decide (0 < cmC x y) ≠ rn x then 0 else 1
section CM
variable {L : Nat} {xs : Nat → Int32} {d : Nat} {mi : ZM} {pc : Nat} {lv : zL} {st st' : List Value} {h h' : zH} {k k' : Nat} {o : zO} {pc' : Nat}
variable {C : Nat → zC} {u : zC} {a : Nat → Int32} {b : Nat → Int64} {M : Nat → Int64} {R : Nat → Nat} {V : Nat → RV}
theorem e_Mo_cost {n : Nat} (hn : n < 16) : zE L xs d m_Mo_cost [.int (nI n)] h (.inl (some (.int (nI (costN n))))) h := by
  match n, hn with
  | 0, _ => exact zE_m (n := 20) rfl (Nat.le_refl _)
  | 1, _ => exact zE_m (n := 20) rfl (Nat.le_refl _)
  | 2, _ => exact zE_m (n := 20) rfl (Nat.le_refl _)
  | 3, _ => exact zE_m (n := 20) rfl (Nat.le_refl _)
  | 4, _ => exact zE_m (n := 20) rfl (Nat.le_refl _)
  | 5, _ => exact zE_m (n := 20) rfl (Nat.le_refl _)
  | 6, _ => exact zE_m (n := 20) rfl (Nat.le_refl _)
  | 7, _ => exact zE_m (n := 20) rfl (Nat.le_refl _)
  | 8, _ => exact zE_m (n := 20) rfl (Nat.le_refl _)
  | 9, _ => exact zE_m (n := 20) rfl (Nat.le_refl _)
  | 10, _ => exact zE_m (n := 20) rfl (Nat.le_refl _)
  | 11, _ => exact zE_m (n := 20) rfl (Nat.le_refl _)
  | 12, _ => exact zE_m (n := 20) rfl (Nat.le_refl _)
  | 13, _ => exact zE_m (n := 20) rfl (Nat.le_refl _)
  | 14, _ => exact zE_m (n := 20) rfl (Nat.le_refl _)
  | 15, _ => exact zE_m (n := 20) rfl (Nat.le_refl _)
  | (m + 16), h => omega
theorem e_Mo_out {x y : Int32} : zE L xs d m_Mo_out [.int x, .int y] h (.inl (some (.int (bI (decide (x < 0 ∨ y ≤ x)))))) h := by
  refine ⟨0, Nat.zero_le _, ?_⟩
  refine zR_m 2 rfl ?_
  refine zR_if (fun h1 => ?_) (fun h1 => ?_)
  · rw [decide_eq_true (Or.inl h1)]
    refine zR_to 14 rfl ?_
    exact zR_e rfl rfl rfl rfl rfl rfl
  · refine zR_to 6 rfl ?_
    refine zR_m 1 rfl ?_
    refine zR_if (fun h2 => ?_) (fun h2 => ?_)
    · rw [decide_eq_false (fun h9 => by
        rcases h9 with h9 | h9
        · exact h1 h9
        · exact absurd h2 (Int32.not_lt.mpr h9))]
      refine zR_to 14 rfl ?_
      exact zR_e rfl rfl rfl rfl rfl rfl
    · rw [decide_eq_true (Or.inr (Int32.not_lt.mp h2))]
      refine zR_to 14 rfl ?_
      exact zR_e rfl rfl rfl rfl rfl rfl
set_option maxRecDepth 10000 in
theorem e_Mo_rank {j : Nat} (hj : j < 11) : zE L xs d m_Mo_rank [.ref 20, .int (nI j)] (mV C u a b V M R) (.inl (some (.int (iZ (rankZ (V j)))))) (mV C u a b V M R) := by
  have fin : zR L xs d m_Mo_rank 29 [(2, .int (iZ (rkS (V j)))), (0, .ref 20), (1, .int (nI j))] [] (mV C u a b V M R) 0 (.inl (some (.int (iZ (rankZ (V j)))))) (mV C u a b V M R) 0 := by
    refine zR_to 34 rfl ?_
    refine zB_get rfl rfl hj rfl ?_
    unfold rankZ
    show zR _ _ _ _ _ _ [Value.int (bI (rn (V j)))] _ _ _ _ _
    cases hn : rn (V j) with
    | true =>
      refine zR_to 44 (st' := [.int (- iZ (rkS (V j)))]) rfl ?_
      rw [iZ_neg]
      exact zR_e rfl rfl rfl rfl rfl rfl
    | false =>
      refine zR_to 44 (st' := [.int (iZ (rkS (V j)))]) rfl ?_
      exact zR_e rfl rfl rfl rfl rfl rfl
  refine ⟨0, Nat.zero_le _, ?_⟩
  refine zR_to 5 rfl ?_
  refine zK_get rfl rfl hj rfl ?_
  refine zR_m 1 rfl ?_
  refine zR_if (fun h0 => ?_) (fun h0 => ?_)
  · refine zR_to 18 rfl ?_
    refine zK_get rfl rfl hj rfl ?_
    refine zR_m 2 rfl ?_
    refine zR_if (fun h1 => ?_) (fun h1 => ?_)
    · have e : rkS (V j) = 2 := by unfold rkS; rw [if_neg (show ¬ rk (V j) = 0 from h0), if_neg (show ¬ rk (V j) = 1 from h1)]
      rw [e] at fin
      refine zR_to 29 rfl ?_
      exact zR_w fin rfl rfl ⟨rfl, rfl, rfl, trivial⟩
    · have e : rkS (V j) = 1 := by unfold rkS; rw [if_neg (show ¬ rk (V j) = 0 from h0), if_pos (show rk (V j) = 1 from Decidable.of_not_not h1)]
      rw [e] at fin
      refine zR_to 29 rfl ?_
      exact zR_w fin rfl rfl ⟨rfl, rfl, rfl, trivial⟩
  · have e : rkS (V j) = 0 := by unfold rkS; rw [if_pos (show rk (V j) = 0 from Decidable.of_not_not h0)]
    rw [e] at fin
    refine zR_to 29 rfl ?_
    exact zR_w fin rfl rfl ⟨rfl, rfl, rfl, trivial⟩
set_option maxRecDepth 10000 in
set_option maxHeartbeats 4000000 in
theorem e_Mo_compared (hx : vOk (V 8)) (hy : vOk (V 9)) (hR : Rok R) : zEr L xs (d + 2) m_Mo_compared [.ref 20] (mV C u a b V M R) (.inl (some (.int (cmpR (V 8) (V 9))))) C u (if eit (V 8) (V 9) 3 then nt a 1 else a) b V M := by
  have go : ∀ {o9 : zO} {h9 : zH}, zR L xs (d + 2) m_Mo_compared 5 [(0, .ref 20)] [.int (bI (eit (V 8) (V 9) 3))] (mV C u a b V M R) 0 o9 h9 0 → zE L xs (d + 2) m_Mo_compared [.ref 20] (mV C u a b V M R) o9 h9 := fun {o9 h9} hr => by
    refine ⟨0, Nat.zero_le _, ?_⟩
    refine zR_to 2 rfl ?_
    exact zR_v rfl rfl rfl rfl rfl ⟨rfl, Nat.le_of_ble_eq_true rfl, Nat.le_of_ble_eq_true rfl⟩ rfl (Nat.le_refl _) e_Mo_either rfl rfl hr
  have r8 := rankZ_rng (V 8)
  have r9 := rankZ_rng (V 9)
  unfold cmpR
  cases h3 : eit (V 8) (V 9) 3 with
  | true =>
    rw [if_pos rfl, if_pos rfl]
    refine ⟨R, hR, go ?_⟩
    rw [h3]
    refine zR_to 19 (h1 := mV C u (nt a 1) b V M R) rfl ?_
    exact zR_e rfl rfl rfl rfl rfl rfl
  | false =>
    rw [if_neg (show ¬ (false = true) by decide), if_neg (show ¬ (false = true) by decide)]
    have go2 : ∀ {o9 : zO} {h9 : zH}, zR L xs (d + 2) m_Mo_compared 32 [(0, .ref 20)] [.int (iZ (rankZ (V 9))), .int (iZ (rankZ (V 8)))] (mV C u a b V M R) 0 o9 h9 0 → zE L xs (d + 2) m_Mo_compared [.ref 20] (mV C u a b V M R) o9 h9 := fun {o9 h9} hr => by
      refine go ?_
      rw [h3]
      refine zR_to 23 (st' := [.int (nI 8), .ref 20]) rfl ?_
      refine zR_v rfl rfl rfl rfl rfl ⟨rfl, Nat.le_of_ble_eq_true rfl, Nat.le_of_ble_eq_true rfl⟩ rfl (Nat.le_refl _) (e_Mo_rank (j := 8) (by decide)) rfl rfl ?_
      refine zR_to 29 (st' := [.int (nI 9), .ref 20, .int (iZ (rankZ (V 8)))]) rfl ?_
      exact zR_v rfl rfl rfl rfl rfl ⟨rfl, Nat.le_of_ble_eq_true rfl, Nat.le_of_ble_eq_true rfl⟩ rfl (Nat.le_refl _) (e_Mo_rank (j := 9) (by decide)) rfl rfl hr
    by_cases hrk : rankZ (V 8) = rankZ (V 9)
    · rw [if_neg (fun h9 => h9 hrk)]
      have go3 : ∀ {o9 : zO} {h9 : zH}, zR L xs (d + 2) m_Mo_compared 64 [(0, .ref 20)] [.int 1, .int (rk (V 8))] (mV C u a b V M R) 0 o9 h9 0 → zE L xs (d + 2) m_Mo_compared [.ref 20] (mV C u a b V M R) o9 h9 := fun {o9 h9} hr => by
        refine go2 ?_
        refine zR_m 1 rfl ?_
        refine zR_if (fun _ => zR_to 64 rfl hr) (fun h => absurd (by rw [hrk]) h)
      by_cases h81 : rk (V 8) = 1
      · rw [if_neg (fun h9 => h9 h81)]
        have h91 : rk (V 9) = 1 := by
          obtain ⟨a1, a2⟩ := eit_f h3
          unfold rankZ rkS at hrk
          rw [h81] at hrk
          rcases hy.1 with h | h | h | h
          · rw [h] at hrk
            exfalso
            revert hrk
            cases rn (V 8) <;> cases rn (V 9) <;> decide
          · exact h
          · rw [h] at hrk
            exfalso
            revert hrk
            cases rn (V 8) <;> cases rn (V 9) <;> decide
          · exact absurd h a2
        obtain ⟨x1, x2, x3⟩ := hx.2.1 h81
        obtain ⟨y1, y2, y3⟩ := hy.2.1 h91
        have hR1 : Rok (fu R 0 (rs (V 8))) := hR.fu (uN_rok _)
        have hR2 : Rok (fu (fu R 0 (rs (V 8))) 1 (rs (V 9))) := hR1.fu (uN_rok _)
        have hcr := cmpZ_rng (rs (V 8)) (rs (V 9))
        have hcm : -40000 ≤ cmC (V 8) (V 9) ∧ cmC (V 8) (V 9) ≤ 40000 := by
          unfold cmC
          split <;> omega
        refine ⟨fu (fu R 0 (rs (V 8))) 1 (rs (V 9)), hR2, go3 ?_⟩
        rw [h81]
        refine zR_to 78 (st' := [.long (V 8).2.2.2, .int (nI 0), .ref 20]) rfl ?_
        refine zR_v rfl rfl rfl rfl rfl ⟨rfl, Nat.le_of_ble_eq_true rfl, Nat.le_of_ble_eq_true rfl⟩ rfl (Nat.le_refl _) (e_Mo_putU (r := 0) (by decide) hR) rfl rfl ?_
        refine zR_to 90 (st' := [.long (V 9).2.2.2, .int (nI 1), .ref 20]) rfl ?_
        refine zR_v rfl rfl rfl rfl rfl ⟨rfl, Nat.le_of_ble_eq_true rfl, Nat.le_of_ble_eq_true rfl⟩ rfl (Nat.le_refl _) (e_Mo_putU (r := 1) (by decide) hR1) rfl rfl ?_
        -- the sign of the comparison
        have fin : zR L xs (d + 2) m_Mo_compared 134 [(0, .ref 20)] [.int (iZ (cmC (V 8) (V 9)))] (mV C u a b V M (fu (fu R 0 (rs (V 8))) 1 (rs (V 9)))) 0 (.inl (some (.int (if cmC (V 8) (V 9) = 0 then 2 else if decide (0 < cmC (V 8) (V 9)) ≠ rn (V 8) then 0 else 1)))) (mV C u a b V M (fu (fu R 0 (rs (V 8))) 1 (rs (V 9)))) 0 := by
          generalize cmC (V 8) (V 9) = c at *
          refine zR_m 3 rfl ?_
          refine zR_if (fun h => ?_) (fun h => ?_)
          · have hc0 : ¬ c = 0 := fun h9 => h (by rw [h9]; rfl)
            rw [if_neg hc0]
            refine zR_m 2 rfl ?_
            have tail : ∀ x : Bool, decide (0 < c) = x → ∀ z : zL, zR L xs (d + 2) m_Mo_compared 150 [(0, .ref 20)] [.int (bI x)] (mV C u a b V M (fu (fu R 0 (rs (V 8))) 1 (rs (V 9)))) 0 (.inl (some (.int (if decide (0 < c) ≠ rn (V 8) then 0 else 1)))) (mV C u a b V M (fu (fu R 0 (rs (V 8))) 1 (rs (V 9)))) 0 := by
              intro x hx9 _
              rw [hx9]
              refine zR_to 157 (st' := [.int (bI (rn (V 8))), .int (bI x)]) rfl ?_
              refine zR_m 1 rfl ?_
              refine zR_if (fun h5 => ?_) (fun h5 => ?_)
              · rw [if_neg (fun h9 => h9 (bI_eq.mp h5))]
                refine zR_to 165 rfl ?_
                exact zR_e rfl rfl rfl rfl rfl rfl
              · rw [if_pos (fun h9 => h5 (bI_eq.mpr h9))]
                refine zR_to 165 rfl ?_
                exact zR_e rfl rfl rfl rfl rfl rfl
            refine zR_if (fun h2 => ?_) (fun h2 => ?_)
            · have h6 := (iZ_le (y := 0) (by omega) (by omega)).mp h2
              refine zR_to 150 (st' := [.int (bI false)]) rfl ?_
              exact zR_w (tail false (decide_eq_false (by omega)) []) rfl rfl ⟨rfl, trivial⟩
            · have h6 : ¬ c ≤ 0 := fun h9 => h2 ((iZ_le (y := 0) (by omega) (by omega)).mpr h9)
              refine zR_to 150 (st' := [.int (bI true)]) rfl ?_
              exact zR_w (tail true (decide_eq_true (by omega)) []) rfl rfl ⟨rfl, trivial⟩
          · have hc0 : c = 0 := by
              rcases Decidable.em (c = 0) with h9 | h9
              · exact h9
              · exact absurd (fun h7 => h9 ((iZ_eq (y := 0) (by omega) (by omega)).mp h7)) h
            rw [if_pos hc0]
            refine zR_to 140 rfl ?_
            exact zR_e rfl rfl rfl rfl rfl rfl
        refine zR_to 107 (st' := [.int (re (V 9)), .int (re (V 8))]) rfl ?_
        refine zR_m 1 rfl ?_
        refine zR_if (fun h => ?_) (fun h => ?_)
        · have hz : zr (V 8) = zr (V 9) := congrArg Int32.toInt h
          have e : cmC (V 8) (V 9) = cmpZ (rs (V 8)) (rs (V 9)) := by unfold cmC; rw [if_pos hz]
          rw [e] at fin ⊢
          refine zR_to 131 rfl ?_
          refine zR_v rfl rfl rfl rfl rfl ⟨rfl, Nat.le_of_ble_eq_true rfl, Nat.le_of_ble_eq_true rfl⟩ rfl (Nat.le_refl _) (e_Mo_compareRows (p := 0) (q := 1) (by decide) (by decide) hR2) rfl rfl ?_
          rw [fu_s, fu_n (show (0 : Nat) ≠ 1 by decide), fu_s]
          exact fin
        · have hz : ¬ zr (V 8) = zr (V 9) := fun h9 => h (by
            show re (V 8) = re (V 9)
            rw [re_zr (V 8), re_zr (V 9), h9])
          have e : cmC (V 8) (V 9) = zr (V 8) - zr (V 9) := by unfold cmC; rw [if_neg hz]
          rw [e] at fin ⊢
          refine zR_to 125 (st' := [.int (re (V 8) - re (V 9))]) rfl ?_
          rw [re_zr (V 8), re_zr (V 9), iZ_sub]
          exact zR_to 134 rfl fin
      · rw [if_pos h81]
        refine ⟨R, hR, go3 ?_⟩
        refine zR_m 1 rfl ?_
        refine zR_if (fun h => absurd h h81) (fun _ => ?_)
        refine zR_to 68 rfl ?_
        exact zR_e rfl rfl rfl rfl rfl rfl
    · rw [if_pos hrk]
      refine ⟨R, hR, go2 ?_⟩
      refine zR_m 1 rfl ?_
      refine zR_if (fun h => absurd ((iZ_eq (by omega) (by omega)).mp h) hrk) (fun _ => ?_)
      refine zR_to 38 (st' := [.int (nI 8), .ref 20]) rfl ?_
      refine zR_v rfl rfl rfl rfl rfl ⟨rfl, Nat.le_of_ble_eq_true rfl, Nat.le_of_ble_eq_true rfl⟩ rfl (Nat.le_refl _) (e_Mo_rank (j := 8) (by decide)) rfl rfl ?_
      refine zR_to 44 (st' := [.int (nI 9), .ref 20, .int (iZ (rankZ (V 8)))]) rfl ?_
      refine zR_v rfl rfl rfl rfl rfl ⟨rfl, Nat.le_of_ble_eq_true rfl, Nat.le_of_ble_eq_true rfl⟩ rfl (Nat.le_refl _) (e_Mo_rank (j := 9) (by decide)) rfl rfl ?_
      refine zR_m 1 rfl ?_
      refine zR_if (fun h => ?_) (fun h => ?_)
      · have h1 := (iZ_le (by omega) (by omega)).mp h
        rw [if_neg (show ¬ rankZ (V 9) < rankZ (V 8) by omega)]
        refine zR_to 55 rfl ?_
        exact zR_e rfl rfl rfl rfl rfl rfl
      · have h1 : ¬ rankZ (V 8) ≤ rankZ (V 9) := fun h9 => h ((iZ_le (by omega) (by omega)).mpr h9)
        rw [if_pos (show rankZ (V 9) < rankZ (V 8) by omega)]
        refine zR_to 55 rfl ?_
        exact zR_e rfl rfl rfl rfl rfl rfl
end CM
