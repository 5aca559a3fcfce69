/-- the locals in another form, the known run first -/
theorem zR_w {L : Nat} {xs : Nat → Int32} {d : Nat} {mi : ZM} {pc : Nat} {lv lv' : zL} {st : List Value} {h h' : zH} {k k' : Nat} {o : zO} (hR : zR L xs d mi pc lv st h k o h' k') (hT : zThL mi = []) (hn : zNod lv = true) (hs : zSubL lv lv') : zR L xs d mi pc lv' st h k o h' k' := zR_lv lv (zTl_nil hT) hn hs hR
/-! shift -/
def shZ (X : Nat) (n : Int) : Nat := X * 2 ^ n.toNat / 2 ^ (-n).toNat
theorem shZ_pos (X : Nat) (m : Nat) : shZ X (m : Int) = X * 2 ^ m := by
  unfold shZ
  rw [show (m : Int).toNat = m by omega, show (-(m : Int)).toNat = 0 by omega, Nat.pow_zero, Nat.div_one]
theorem shZ_neg (X : Nat) (m : Nat) : shZ X (-(m : Int)) = X / 2 ^ m := by
  unfold shZ
  rw [show (-(m : Int)).toNat = 0 by omega, show (-(-(m : Int))).toNat = m by omega, Nat.pow_zero, Nat.mul_one]
theorem shZ_step (X : Nat) {n : Int} {k p : Nat} (hp : (p : Int) = k + n) : shZ (X % 2 ^ (k + 1)) n = shZ (X % 2 ^ k) n + (X / 2 ^ k % 2) * 2 ^ p ∧ shZ (X % 2 ^ k) n < 2 ^ p := by
  have e : X % 2 ^ (k + 1) = X % 2 ^ k + 2 ^ k * (X / 2 ^ k % 2) := by rw [Nat.pow_succ, Nat.mod_mul]
  have hl : X % 2 ^ k < 2 ^ k := Nat.mod_lt _ (Nat.pow_pos (by decide))
  rw [e]
  generalize X / 2 ^ k % 2 = c
  generalize X % 2 ^ k = A at hl ⊢
  rcases Int.le_total 0 n with h | h
  · obtain ⟨m, rfl⟩ := Int.eq_ofNat_of_zero_le h
    obtain rfl : p = k + m := by omega
    rw [shZ_pos, shZ_pos, Nat.add_mul, Nat.pow_add]
    constructor
    · rw [Nat.mul_comm (2 ^ k) c, Nat.mul_assoc]
    · exact Nat.mul_lt_mul_of_pos_right hl (Nat.pow_pos (by decide))
  · obtain ⟨m, hm⟩ := Int.eq_ofNat_of_zero_le (show 0 ≤ -n by omega)
    obtain rfl : n = -(m : Int) := by omega
    obtain rfl : k = p + m := by omega
    rw [shZ_neg, shZ_neg, Nat.pow_add]
    constructor
    · rw [Nat.mul_comm (2 ^ p), Nat.mul_assoc, Nat.add_mul_div_left _ _ (Nat.pow_pos (by decide)), Nat.mul_comm (2 ^ p)]
    · apply Nat.div_lt_of_lt_mul
      rw [Nat.mul_comm, ← Nat.pow_add]
      exact hl
section MO
variable {L : Nat} {xs : Nat → Int32} {d : Nat} {mi : ZM} {pc : Nat} {lv : zL} {st st' : List Value} {h' : zH} {k k' : Nat} {o : zO} {pc' : Nat}
variable {C : Nat → zC} {u : zC} {a : Nat → Int32} {b : Nat → Int64} {K : Nat → Int32} {B : Nat → Bool} {E : Nat → Int32} {S M : Nat → Int64} {R : Nat → Nat}
set_option maxRecDepth 10000 in
theorem l_Mo_shift {f t X : Nat} {n : Int} (hf : f < 5) (ht : t < 5) (hft : f ≠ t) (hX : (nb X : Int) + n ≤ 512) (hn : -512 ≤ n) (hX5 : nb X ≤ 512) : ∀ (c : Nat) {j p : Nat}, nb X ≤ j + c → (p : Int) = j + n → j ≤ 1024 → R f = X → R t = shZ (X % 2 ^ j) n →
    zR L xs (d + 1) m_Mo_shift 24 [(5, .int (nI j)), (4, .int (iZ ((nb X : Int) - 1))), (0, .ref 20), (1, .int (nI f)), (2, .int (nI t)), (3, .int (iZ n))] [] (mH C u a b K B E S M R) 0 (.inl none) (mH C u a b K B E S M (fu R t (shZ X n))) 0 := by
  intro c
  induction c generalizing R with
  | zero =>
    intro j p hc hp hj hF hT
    have h0 : X % 2 ^ j = X := Nat.mod_eq_of_lt (Nat.lt_of_lt_of_le (nb_lt X) (Nat.pow_le_pow_right (by decide) hc))
    rw [h0] at hT
    refine zR_m 3 rfl ?_
    refine zR_if (fun _ => ?_) (fun h => absurd ?_ h)
    · exact zR_e rfl rfl rfl rfl rfl (by rw [fu_self hT])
    · show iZ _ < nI j
      rw [← iZ_nat, iZ_lt (by omega) (by omega)]
      omega
  | succ c ih =>
    intro j p hc hp hj hF hT
    by_cases hjj : nb X ≤ j
    · have h0 : X % 2 ^ j = X := Nat.mod_eq_of_lt (Nat.lt_of_lt_of_le (nb_lt X) (Nat.pow_le_pow_right (by decide) hjj))
      rw [h0] at hT
      refine zR_m 3 rfl ?_
      refine zR_if (fun _ => ?_) (fun h => absurd ?_ h)
      · exact zR_e rfl rfl rfl rfl rfl (by rw [fu_self hT])
      · show iZ _ < nI j
        rw [← iZ_nat, iZ_lt (by omega) (by omega)]
        omega
    · obtain ⟨s1, s2⟩ := shZ_step X (k := j) hp
      refine zR_m 3 rfl ?_
      refine zR_if (fun h => absurd (show iZ _ < nI j from h) ?_) (fun _ => ?_)
      · rw [← iZ_nat, iZ_lt (by omega) (by omega)]
        omega
      refine zR_m 3 rfl ?_
      refine zR_v rfl rfl rfl rfl rfl ⟨rfl, Nat.le_of_ble_eq_true rfl, Nat.le_of_ble_eq_true rfl⟩ rfl (Nat.le_refl _) (e_Mo_bit (n := j) hf (by omega)) rfl rfl ?_
      rw [hF]
      by_cases hb : X / 2 ^ j % 2 = 0
      · rw [hb] at s1 ⊢
        refine zR_m 2 rfl ?_
        refine zR_m 2 (pc' := 24) (lv' := [(5, .int (nI (j + 1))), (4, .int (iZ ((nb X : Int) - 1))), (0, .ref 20), (1, .int (nI f)), (2, .int (nI t)), (3, .int (iZ n))]) (by rw [nI_succ j]; rfl) ?_
        exact ih (j := j + 1) (p := p + 1) (by omega) (by omega) (by omega) hF (by rw [s1, hT]; omega)
      · have h1 : X / 2 ^ j % 2 = 1 := by have := Nat.mod_lt (X / 2 ^ j) (show 2 > 0 by decide); omega
        rw [h1] at s1 ⊢
        refine zR_m 2 rfl ?_
        refine zR_m 5 rfl ?_
        rw [show nI j + iZ n = nI p from by rw [← iZ_nat, iZ_add, ← hp, iZ_nat]]
        refine zR_v rfl rfl rfl rfl rfl ⟨rfl, Nat.le_of_ble_eq_true rfl, Nat.le_of_ble_eq_true rfl⟩ rfl (Nat.le_refl _) (e_Mo_setBit (n := p) ht (by omega)) rfl rfl ?_
        refine zR_m 2 (pc' := 24) (lv' := [(5, .int (nI (j + 1))), (4, .int (iZ ((nb X : Int) - 1))), (0, .ref 20), (1, .int (nI f)), (2, .int (nI t)), (3, .int (iZ n))]) (by rw [nI_succ j]; rfl) ?_
        have h9 := ih (R := fu R t (R t ||| 2 ^ p)) (j := j + 1) (p := p + 1) (by omega) (by omega) (by omega) (by rw [fu_n hft]; exact hF) (by
          have e9 := Nat.two_pow_add_eq_or_of_lt s2 1
          rw [Nat.mul_one] at e9
          rw [fu_s, s1, hT, Nat.one_mul, Nat.or_comm, ← e9, Nat.add_comm])
        rw [fu_fu] at h9
        exact h9
set_option maxRecDepth 10000 in
theorem e_Mo_shift {f t : Nat} {n : Int} (hf : f < 5) (ht : t < 5) (hft : f ≠ t) (hR : Rok R) (hX : (nb (R f) : Int) + n ≤ 512) (hn : -512 ≤ n) : zE L xs (d + 2) m_Mo_shift [.ref 20, .int (nI f), .int (nI t), .int (iZ n)] (mH C u a b K B E S M R) (.inl none) (mH C u a b K B E S M (fu R t (shZ (R f) n))) := by
  have hX5 : nb (R f) ≤ 512 := nb_bd (by have := hR f; rw [B2] at this; exact this)
  refine ⟨0, Nat.zero_le _, ?_⟩
  refine zR_m 2 rfl ?_
  refine zR_v rfl rfl rfl rfl rfl ⟨rfl, Nat.le_of_ble_eq_true rfl, Nat.le_of_ble_eq_true rfl⟩ rfl (Nat.le_refl _) (e_Mo_blank ht hR) rfl rfl ?_
  refine zR_m 2 rfl ?_
  refine zR_v rfl rfl rfl rfl rfl ⟨rfl, Nat.le_of_ble_eq_true rfl, Nat.le_of_ble_eq_true rfl⟩ rfl (Nat.le_refl _) (e_Mo_top hf (hR.fu (Bp 32))) rfl rfl ?_
  rw [fu_n hft]
  refine zR_m 3 rfl ?_
  have fin : ∀ s : Nat, (0 : Int) ≤ s + n → s ≤ 512 → shZ (R f % 2 ^ s) n = 0 → zR L xs (d + 2) m_Mo_shift 24 [(5, .int (nI s)), (4, .int (iZ ((nb (R f) : Int) - 1))), (0, .ref 20), (1, .int (nI f)), (2, .int (nI t)), (3, .int (iZ n))] [] (mH C u a b K B E S M (fu R t 0)) 0 (.inl none) (mH C u a b K B E S M (fu R t (shZ (R f) n))) 0 := by
    intro s h1 h2 h3
    have h9 := l_Mo_shift (L := L) (xs := xs) (d := d + 1) (C := C) (u := u) (a := a) (b := b) (K := K) (B := B) (E := E) (S := S) (M := M) (R := fu R t 0) (X := R f) hf ht hft hX hn hX5 (nb (R f)) (j := s) (p := ((s : Int) + n).toNat) (by omega) (by omega) (by omega) (fu_n hft) (by rw [fu_s, h3])
    rw [fu_fu] at h9
    exact h9
  refine zR_if (fun h => ?_) (fun h => ?_)
  · have h0 : (0 : Int) ≤ n := (iZ_le (x := 0) (y := n) (by omega) (by omega)).mp h
    refine zR_m 2 (pc' := 24) (lv' := [(5, .int (nI 0)), (4, .int (iZ ((nb (R f) : Int) - 1))), (0, .ref 20), (1, .int (nI f)), (2, .int (nI t)), (3, .int (iZ n))]) rfl ?_
    refine fin 0 (by omega) (by omega) ?_
    rw [Nat.pow_zero, Nat.mod_one]
    unfold shZ
    rw [Nat.zero_mul, Nat.zero_div]
  · have h0 : n < 0 := by
      rcases Int.lt_or_le n 0 with h9 | h9
      · exact h9
      · exact absurd ((iZ_le (x := 0) (y := n) (by omega) (by omega)).mpr h9) h
    obtain ⟨m, hm⟩ := Int.eq_ofNat_of_zero_le (show 0 ≤ -n by omega)
    refine zR_m 4 (pc' := 24) (lv' := [(5, .int (- iZ n)), (4, .int (iZ ((nb (R f) : Int) - 1))), (0, .ref 20), (1, .int (nI f)), (2, .int (nI t)), (3, .int (iZ n))]) rfl ?_
    rw [iZ_neg, hm, iZ_nat]
    refine fin m (by omega) (by omega) ?_
    rw [show n = -(m : Int) by omega, shZ_neg]
    exact Nat.div_eq_of_lt (Nat.mod_lt _ (Nat.pow_pos (by decide)))
/-! comparing rows -/
def cmpZ (x y : Nat) : Int := if x = y then 0 else if y < x then 1 else -1
theorem cmpZ_step (x y k : Nat) : cmpZ (x % 65536 ^ (k + 1)) (y % 65536 ^ (k + 1)) = if dd x k = dd y k then cmpZ (x % 65536 ^ k) (y % 65536 ^ k) else if dd y k < dd x k then 1 else -1 := by
  have hx : x % 65536 ^ k < 65536 ^ k := Nat.mod_lt _ (Bp k)
  have hy : y % 65536 ^ k < 65536 ^ k := Nat.mod_lt _ (Bp k)
  rw [mod_split, mod_split]
  generalize x % 65536 ^ k = A at *
  generalize y % 65536 ^ k = D at *
  generalize dd x k = p at *
  generalize dd y k = q at *
  generalize 65536 ^ k = W at *
  unfold cmpZ
  by_cases h : p = q
  · rw [if_pos h, h]
    by_cases h2 : A = D
    · rw [if_pos (by omega), if_pos h2]
    · rw [if_neg (by omega), if_neg h2]
      by_cases h3 : D < A
      · rw [if_pos h3, if_pos (by omega)]
      · rw [if_neg h3, if_neg (by omega)]
  · rw [if_neg h]
    by_cases h3 : q < p
    · have : (q + 1) * W ≤ p * W := Nat.mul_le_mul_right _ h3
      rw [Nat.add_mul, Nat.one_mul] at this
      rw [if_pos h3, if_neg (by omega), if_pos (by omega)]
    · have : (p + 1) * W ≤ q * W := Nat.mul_le_mul_right _ (by omega)
      rw [Nat.add_mul, Nat.one_mul] at this
      rw [if_neg h3, if_neg (by omega), if_neg (by omega)]
set_option maxRecDepth 10000 in
theorem l_Mo_compareRows {p q : Nat} (hp : p < 5) (hq : q < 5) (hR : Rok R) : ∀ (t : Nat) {j : Nat}, t + j = 32 →
    zR L xs d m_Mo_compareRows 5 [(4, .int (nI j)), (3, .int (iZ (cmpZ (R p % 65536 ^ j) (R q % 65536 ^ j)))), (0, .ref 20), (1, .int (nI p)), (2, .int (nI q))] [] (mH C u a b K B E S M R) 0 (.inl (some (.int (iZ (cmpZ (R p) (R q)))))) (mH C u a b K B E S M R) 0 := by
  intro t
  induction t with
  | zero =>
    intro j ht
    obtain rfl : j = 32 := by omega
    rw [Nat.mod_eq_of_lt (hR p), Nat.mod_eq_of_lt (hR q)]
    refine zR_m 3 (pc' := 65) rfl ?_
    refine zR_m 1 rfl ?_
    exact zR_e rfl rfl rfl rfl rfl rfl
  | succ t ih =>
    intro j ht
    have h9 := ih (j := j + 1) (by omega)
    rw [cmpZ_step] at h9
    have d1 := dd_lt (R p) j
    have d2 := dd_lt (R q) j
    refine zR_m 3 rfl ?_
    refine zR_if (fun h => absurd h (nI_ge (a := j) (b := 32) (by omega) (by decide))) (fun _ => ?_)
    refine zR_m 7 rfl ?_
    refine zD_get (r := p) (j := j) rfl (ix p j) hp (by omega) rfl ?_
    refine zR_m 7 rfl ?_
    refine zD_get (r := q) (j := j) rfl (ix q j) hq (by omega) rfl ?_
    refine zR_m 1 (pc' := 37) rfl ?_
    rw [show nI (dd (R p) j) - nI (dd (R q) j) = iZ ((dd (R p) j : Int) - dd (R q) j) from by rw [← iZ_nat, ← iZ_nat, iZ_sub]]
    refine zR_m 3 rfl ?_
    refine zR_if (fun h => ?_) (fun h => ?_)
    · have h1 : ¬ (dd (R p) j : Int) - dd (R q) j = 0 := fun h8 => h (by rw [h8]; rfl)
      rw [if_neg (by omega)] at h9
      refine zR_m 2 rfl ?_
      refine zR_if (fun h2 => ?_) (fun h2 => ?_)
      · have h3 := (iZ_le (y := 0) (by omega) (by omega)).mp h2
        rw [if_neg (by omega)] at h9
        refine zR_m 4 (pc' := 5) rfl ?_
        refine zR_w h9 rfl rfl ⟨?_, rfl, rfl, rfl, rfl, trivial⟩
        rw [nI_succ j]
        rfl
      · have h3 : ¬ (dd (R p) j : Int) - dd (R q) j ≤ 0 := fun h8 => h2 ((iZ_le (y := 0) (by omega) (by omega)).mpr h8)
        rw [if_pos (by omega)] at h9
        refine zR_m 5 (pc' := 5) rfl ?_
        refine zR_w h9 rfl rfl ⟨?_, rfl, rfl, rfl, rfl, trivial⟩
        rw [nI_succ j]
        rfl
    · have h1 : (dd (R p) j : Int) - dd (R q) j = 0 := by
        rcases Decidable.em ((dd (R p) j : Int) - dd (R q) j = 0) with h8 | h8
        · exact h8
        · exact absurd (fun h7 => h8 ((iZ_eq (y := 0) (by omega) (by omega)).mp h7)) h
      rw [if_pos (by omega)] at h9
      refine zR_m 5 (pc' := 5) rfl ?_
      refine zR_w h9 rfl rfl ⟨?_, rfl, rfl, rfl, rfl, trivial⟩
      rw [nI_succ j]
      rfl
theorem e_Mo_compareRows {p q : Nat} (hp : p < 5) (hq : q < 5) (hR : Rok R) : zE L xs d m_Mo_compareRows [.ref 20, .int (nI p), .int (nI q)] (mH C u a b K B E S M R) (.inl (some (.int (iZ (cmpZ (R p) (R q)))))) (mH C u a b K B E S M R) := by
  refine ⟨0, Nat.zero_le _, ?_⟩
  refine zR_m 4 (pc' := 5) rfl ?_
  refine zR_w (l_Mo_compareRows hp hq hR 32 (j := 0) (by omega)) rfl rfl ⟨rfl, ?_, rfl, rfl, rfl, trivial⟩
  rw [Nat.pow_zero, Nat.mod_one, Nat.mod_one]
  rfl
/-! the lowest 64 bits -/
theorem lw_or {x y : Nat} (hy : y < 65536) (hx : x * 65536 + y < 2 ^ 64) : lN x <<< ((nI 16).toInt64 &&& 63) ||| (nI y).toInt64 = lN (x * 65536 + y) := by
  rw [wb_shl x (by decide), nI_l (by omega)]
  exact g_or (k := 16) rfl hy hx
theorem lw4 (x : Nat) : ((dd x 3 * 65536 + dd x 2) * 65536 + dd x 1) * 65536 + dd x 0 = x % 2 ^ 64 := by
  have e : x % 2 ^ 64 = x % 65536 ^ 4 := rfl
  rw [e, mod_split, mod_split, mod_split, mod_split, Nat.pow_zero, Nat.mod_one]
  omega
set_option maxRecDepth 10000 in
theorem e_Mo_lowest {r : Nat} (hr : r < 5) : zE L xs d m_Mo_lowest [.ref 20, .int (nI r)] (mH C u a b K B E S M R) (.inl (some (.long (lN (R r % 2 ^ 64))))) (mH C u a b K B E S M R) := by
  have d0 := dd_lt (R r) 0
  have d1 := dd_lt (R r) 1
  have d2 := dd_lt (R r) 2
  have d3 := dd_lt (R r) 3
  refine ⟨0, Nat.zero_le _, ?_⟩
  refine zR_m 4 (pc' := 5) (lv' := [(4, .int (nI 3)), (2, .long (lN 0)), (0, .ref 20), (1, .int (nI r))]) rfl ?_
  refine zR_m 12 (pc' := 25) rfl ?_
  refine zD_get (r := r) (j := 3) rfl (ix r 3) hr (by omega) rfl ?_
  refine zR_m 2 (pc' := 28) (st' := [.long (lN 0 <<< ((nI 16).toInt64 &&& 63) ||| (nI (dd (R r) 3)).toInt64)]) rfl ?_
  rw [lw_or d3 (by omega)]
  refine zR_m 15 (pc' := 25) rfl ?_
  refine zD_get (r := r) (j := 2) rfl (ix r 2) hr (by omega) rfl ?_
  refine zR_m 2 (pc' := 28) (st' := [.long (lN (0 * 65536 + dd (R r) 3) <<< ((nI 16).toInt64 &&& 63) ||| (nI (dd (R r) 2)).toInt64)]) rfl ?_
  rw [lw_or d2 (by omega)]
  refine zR_m 15 (pc' := 25) rfl ?_
  refine zD_get (r := r) (j := 1) rfl (ix r 1) hr (by omega) rfl ?_
  refine zR_m 2 (pc' := 28) (st' := [.long (lN ((0 * 65536 + dd (R r) 3) * 65536 + dd (R r) 2) <<< ((nI 16).toInt64 &&& 63) ||| (nI (dd (R r) 1)).toInt64)]) rfl ?_
  rw [lw_or d1 (by omega)]
  refine zR_m 15 (pc' := 25) rfl ?_
  refine zD_get (r := r) (j := 0) rfl (ix r 0) hr (by omega) rfl ?_
  refine zR_m 2 (pc' := 28) (st' := [.long (lN (((0 * 65536 + dd (R r) 3) * 65536 + dd (R r) 2) * 65536 + dd (R r) 1) <<< ((nI 16).toInt64 &&& 63) ||| (nI (dd (R r) 0)).toInt64)]) rfl ?_
  rw [lw_or d0 (by omega)]
  refine zR_m 6 (pc' := 36) rfl ?_
  refine zR_q rfl rfl rfl rfl rfl ?_ rfl
  rw [Nat.zero_mul, Nat.zero_add, lw4]
end MO
