/-! readDecimal, load of the reference -/
def dG (n : Nat) : Nat → Bool
  | 0 => decide (n / 2 ^ 60 < 2)
  | t + 1 => dG n t && decide (n / 2 ^ (56 - 4 * t) % 16 < 10)
def dV (n : Nat) : Nat → Nat
  | 0 => 0
  | t + 1 => dV n t * 10 + n / 2 ^ (56 - 4 * t) % 16
theorem dV_le (n : Nat) : ∀ t, 9 * dV n t + 15 ≤ 15 * 10 ^ t
  | 0 => by show 9 * 0 + 15 ≤ 15 * 1; omega
  | t + 1 => by
    have h := dV_le n t
    have h2 : n / 2 ^ (56 - 4 * t) % 16 < 16 := Nat.mod_lt _ (by decide)
    show 9 * (dV n t * 10 + n / 2 ^ (56 - 4 * t) % 16) + 15 ≤ 15 * 10 ^ (t + 1)
    rw [Nat.pow_succ]
    omega
theorem dV_lt (n : Nat) : dV n 15 < 2 ^ 63 := by
  have h := dV_le n 15
  have e : (15 : Nat) * 10 ^ 15 < 9 * 2 ^ 63 := by decide
  omega
/-- (the real, the exceptions) -/
def rdD (n : Nat) : RV × Int32 := if dG n 15 then (exV (decide (n / 2 ^ 60 = 1)) (dV n 15), 0) else (vNan, 1)
section RD
variable {L : Nat} {xs : Nat → Int32} {d : Nat} {C : Nat → zC} {u : zC} {a : Nat → Int32} {b : Nat → Int64} {M : Nat → Int64} {R : Nat → Nat} {V : Nat → RV}
theorem dgt {n k : Nat} (hn : n < 2 ^ 64) (hk : k < 64) : ((lN n).toUInt64 >>> ((nI k).toInt64.toUInt64 &&& Int64.toUInt64 63)).toInt64 &&& lN 15 = lN (n / 2 ^ k % 16) := by
  rw [wb_shr hn hk, show (15 : Nat) = 2 ^ 4 - 1 from rfl, wb_mask (Nat.lt_of_le_of_lt (Nat.div_le_self _ _) hn) (by decide)]
set_option maxRecDepth 10000 in
theorem l_Mo_readDecimal {n : Nat} {o : zO} {h9 : zH} (hn : n < 2 ^ 64)
    (hr : ∀ z : Int32, zR L xs (d + 4) m_Mo_readDecimal 80 [(8, .int z), (6, .long (lN (dV n 15))), (5, .int (bI (dG n 15))), (3, .long (lN (n / 2 ^ 60))), (0, .ref 20)] [] (mV C u a b V M R) 0 o h9 0) :
    ∀ (c t : Nat), c + t = 15 → zR L xs (d + 4) m_Mo_readDecimal 27 [(8, .int (iZ (56 - 4 * (t : Int)))), (6, .long (lN (dV n t))), (5, .int (bI (dG n t))), (3, .long (lN (n / 2 ^ 60))), (0, .ref 20), (1, .long (lN n))] [] (mV C u a b V M R) 0 o h9 0 := by
  intro c
  induction c with
  | zero =>
    intro t ht
    obtain rfl : t = 15 := by omega
    refine zR_to 29 rfl ?_
    refine zR_m 1 rfl ?_
    refine zR_if (fun _ => ?_) (fun h => absurd (show iZ (56 - 4 * ((15 : Nat) : Int)) < 0 by decide) h)
    exact zR_w (hr _) rfl rfl ⟨rfl, rfl, rfl, rfl, rfl, trivial⟩
  | succ c ih =>
    intro t ht
    have e1 : (56 : Int) - 4 * (t : Int) = ((56 - 4 * t : Nat) : Int) := by omega
    have hd : n / 2 ^ (56 - 4 * t) % 16 < 16 := Nat.mod_lt _ (by decide)
    have nx : ∀ gg : Bool, dG n (t + 1) = gg → ∀ g0 : Int32, zR L xs (d + 4) m_Mo_readDecimal 63 [(5, .int (bI gg)), (9, .long (lN (n / 2 ^ (56 - 4 * t) % 16))), (8, .int (iZ (56 - 4 * (t : Int)))), (6, .long (lN (dV n t))), (3, .long (lN (n / 2 ^ 60))), (0, .ref 20), (1, .long (lN n))] [] (mV C u a b V M R) 0 o h9 0 := by
      intro gg hgg _
      have h := ih (t + 1) (by omega)
      rw [hgg] at h
      refine zR_to 72 (st' := [.long (lN (dV n t) * lN 10 + lN (n / 2 ^ (56 - 4 * t) % 16))]) rfl ?_
      rw [lN_mul, lN_add]
      refine zR_to 27 rfl ?_
      refine zR_w h rfl rfl ⟨?_, rfl, rfl, rfl, rfl, rfl, trivial⟩
      rw [show iZ (56 - 4 * ((t + 1 : Nat) : Int)) = iZ (56 - 4 * (t : Int)) + iZ (-4) from by rw [iZ_add]; congr 1; omega]
      rfl
    refine zR_to 29 rfl ?_
    refine zR_m 1 rfl ?_
    refine zR_if (fun h => ?_) (fun _ => ?_)
    · have := (iZ_lt (y := 0) (by omega) (by omega)).mp h
      omega
    refine zR_to 40 (st' := [.long (((lN n).toUInt64 >>> ((iZ (56 - 4 * (t : Int))).toInt64.toUInt64 &&& Int64.toUInt64 63)).toInt64 &&& lN 15)]) rfl ?_
    rw [show ((lN n).toUInt64 >>> ((iZ (56 - 4 * (t : Int))).toInt64.toUInt64 &&& Int64.toUInt64 63)).toInt64 &&& lN 15 = lN (n / 2 ^ (56 - 4 * t) % 16) from by rw [e1, iZ_nat]; exact dgt hn (by omega)]
    cases hg : dG n t with
    | false =>
      have hg1 : dG n (t + 1) = false := by
        show (dG n t && _) = false
        rw [hg]
        rfl
      refine zR_to 63 rfl ?_
      exact zR_w (nx false hg1 0) rfl rfl ⟨rfl, rfl, rfl, rfl, rfl, rfl, rfl, trivial⟩
    | true =>
      refine zR_to 53 (st' := [.int (lg_cmp (lN (n / 2 ^ (56 - 4 * t) % 16)) (lN 10))]) rfl ?_
      refine zR_m 1 rfl ?_
      refine zR_if (fun h => ?_) (fun h => ?_)
      · have hg1 : dG n (t + 1) = false := by
          show (dG n t && _) = false
          rw [hg, decide_eq_false (show ¬ n / 2 ^ (56 - 4 * t) % 16 < 10 from fun h8 => by
            have := (pk_lLE (a := 10) (by decide) (by omega)).mp ((lg_cmp_ge _ _).mp h)
            omega)]
          rfl
        refine zR_to 63 rfl ?_
        exact zR_w (nx false hg1 0) rfl rfl ⟨rfl, rfl, rfl, rfl, rfl, rfl, rfl, trivial⟩
      · have hg1 : dG n (t + 1) = true := by
          show (dG n t && _) = true
          rw [hg, decide_eq_true (show n / 2 ^ (56 - 4 * t) % 16 < 10 by
            rcases Nat.lt_or_ge (n / 2 ^ (56 - 4 * t) % 16) 10 with h8 | h8
            · exact h8
            · exact absurd ((lg_cmp_ge _ _).mpr ((pk_lLE (by decide) (by omega)).mpr h8)) h)]
          rfl
        refine zR_to 63 rfl ?_
        exact zR_w (nx true hg1 0) rfl rfl ⟨rfl, rfl, rfl, rfl, rfl, rfl, rfl, trivial⟩
set_option maxRecDepth 10000 in
theorem e_Mo_readDecimal {n : Nat} (hn : n < 2 ^ 64) (hR : Rok R) : zEr L xs (d + 4) m_Mo_readDecimal [.ref 20, .long (lN n)] (mV C u a b V M R) (.inl none) C u (nt a (rdD n).2) b (fu V 10 (rdD n).1) M := by
  have h63 := dV_lt n
  have h64 : dV n 15 < 2 ^ 64 := by omega
  have hR1 : Rok (fu R 0 (dV n 15)) := hR.fu (Nat.lt_of_lt_of_le h64 (by rw [B2]; exact Nat.pow_le_pow_right (by decide) (by decide)))
  have hsl : n / 2 ^ 60 < 2 ^ 63 := Nat.lt_of_lt_of_le (Nat.div_lt_of_lt_mul (by rw [← Nat.pow_add]; exact Nat.lt_of_lt_of_le hn (Nat.pow_le_pow_right (by decide) (by decide)))) (show 2 ^ 4 ≤ 2 ^ 63 by decide)
  obtain ⟨R', hR', hex⟩ := e_Mo_exactly (L := L) (xs := xs) (d := d) (C := C) (u := u) (a := a) (b := b) (V := V) (M := M) (R := fu R 0 (dV n 15)) (N := dV n 15) (mb := decide (n / 2 ^ 60 = 1)) (Nat.le_trans (nb_bd h64) (by decide)) hR1 fu_s
  have go : ∀ {h9 : zH}, (∀ z : Int32, zR L xs (d + 4) m_Mo_readDecimal 80 [(8, .int z), (6, .long (lN (dV n 15))), (5, .int (bI (dG n 15))), (3, .long (lN (n / 2 ^ 60))), (0, .ref 20)] [] (mV C u a b V M R) 0 (.inl none) h9 0) → zE L xs (d + 4) m_Mo_readDecimal [.ref 20, .long (lN n)] (mV C u a b V M R) (.inl none) h9 := fun {h9} hr => by
    have hl := l_Mo_readDecimal hn hr 15 0 rfl
    refine ⟨0, Nat.zero_le _, ?_⟩
    refine zR_to 4 (st' := [.long ((lN n).toUInt64 >>> ((nI 60).toInt64.toUInt64 &&& Int64.toUInt64 63)).toInt64]) rfl ?_
    rw [wb_shr hn (show 60 < 64 by decide)]
    refine zR_to 10 (st' := [.int (lg_cmp (lN (n / 2 ^ 60)) (lN 2))]) rfl ?_
    refine zR_m 1 rfl ?_
    refine zR_if (fun h => ?_) (fun h => ?_)
    · rw [show dG n 0 = false from decide_eq_false (fun h8 => by
        have := (pk_lLE (a := 2) (by decide) (by omega)).mp ((lg_cmp_ge _ _).mp h)
        omega)] at hl
      refine zR_to 27 rfl ?_
      exact zR_w hl rfl rfl ⟨rfl, rfl, rfl, rfl, rfl, rfl, trivial⟩
    · rw [show dG n 0 = true from decide_eq_true (by
        rcases Nat.lt_or_ge (n / 2 ^ 60) 2 with h8 | h8
        · exact h8
        · exact absurd ((lg_cmp_ge _ _).mpr ((pk_lLE (by decide) (by omega)).mpr h8)) h)] at hl
      refine zR_to 27 rfl ?_
      exact zR_w hl rfl rfl ⟨rfl, rfl, rfl, rfl, rfl, rfl, trivial⟩
  unfold rdD
  cases hg : dG n 15 with
  | false =>
    rw [if_neg (show ¬ (false = true) by decide)]
    refine ⟨fu R 0 (dV n 15), hR1, go (fun z => ?_)⟩
    rw [hg]
    refine zR_to 84 (st' := [.long (lN (dV n 15)), .int (nI 0), .ref 20]) rfl ?_
    refine zR_v rfl rfl rfl rfl rfl ⟨rfl, Nat.le_of_ble_eq_true rfl, Nat.le_of_ble_eq_true rfl⟩ rfl (Nat.le_refl _) (e_Mo_put (r := 0) (n := dV n 15) (by decide) h64 hR) rfl rfl ?_
    refine zR_to 111 rfl ?_
    refine zR_v rfl rfl rfl rfl rfl ⟨rfl, Nat.le_of_ble_eq_true rfl, Nat.le_of_ble_eq_true rfl⟩ rfl (Nat.le_refl _) e_Mo_invalid rfl rfl ?_
    exact zR_e rfl rfl rfl rfl rfl rfl
  | true =>
    rw [if_pos rfl, nt_0]
    refine ⟨R', hR', go (fun z => ?_)⟩
    rw [hg]
    refine zR_to 84 (st' := [.long (lN (dV n 15)), .int (nI 0), .ref 20]) rfl ?_
    refine zR_v rfl rfl rfl rfl rfl ⟨rfl, Nat.le_of_ble_eq_true rfl, Nat.le_of_ble_eq_true rfl⟩ rfl (Nat.le_refl _) (e_Mo_put (r := 0) (n := dV n 15) (by decide) h64 hR) rfl rfl ?_
    refine zR_to 96 (st' := [.int (lg_cmp (lN (n / 2 ^ 60)) (lN 1)), .ref 20]) rfl ?_
    refine zR_m 1 rfl ?_
    refine zR_if (fun h => ?_) (fun h => ?_)
    · rw [decide_eq_false (show ¬ n / 2 ^ 60 = 1 from fun h8 => h ((lg_cmp_eq _ _).mpr (by rw [h8])))] at hex ⊢
      refine zR_to 104 (st' := [.int (bI false), .ref 20]) rfl ?_
      refine zR_v rfl rfl rfl rfl rfl ⟨rfl, Nat.le_of_ble_eq_true rfl, Nat.le_of_ble_eq_true rfl⟩ rfl (Nat.le_refl _) hex rfl rfl ?_
      refine zR_to 114 rfl ?_
      exact zR_e rfl rfl rfl rfl rfl rfl
    · rw [decide_eq_true (show n / 2 ^ 60 = 1 from (pk_lEQ hsl (by decide)).mp ((lg_cmp_eq _ _).mp (Decidable.of_not_not h)))] at hex ⊢
      refine zR_to 104 (st' := [.int (bI true), .ref 20]) rfl ?_
      refine zR_v rfl rfl rfl rfl rfl ⟨rfl, Nat.le_of_ble_eq_true rfl, Nat.le_of_ble_eq_true rfl⟩ rfl (Nat.le_refl _) hex rfl rfl ?_
      refine zR_to 114 rfl ?_
      exact zR_e rfl rfl rfl rfl rfl rfl
end RD
