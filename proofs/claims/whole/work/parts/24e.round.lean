theorem nb_shZ {X : Nat} (hX : X ≠ 0) {n : Int} (h : 1 ≤ (nb X : Int) + n) : (nb (shZ X n) : Int) = nb X + n := by
  have h1 := nb_lt X
  have h2 := nb_le hX
  rcases Int.le_total 0 n with h0 | h0
  · obtain ⟨m, rfl⟩ := Int.eq_ofNat_of_zero_le h0
    rw [shZ_pos]
    have hT : nb X ≠ 0 := by
      intro h9
      rw [h9] at h1
      exact hX (by simpa using h1)
    have e : nb (X * 2 ^ m) = nb X - 1 + m + 1 := by
      apply nb_uniq
      · rw [Nat.pow_add]
        exact Nat.mul_le_mul_right _ h2
      · rw [show nb X - 1 + m + 1 = nb X + m by omega, Nat.pow_add]
        exact Nat.mul_lt_mul_of_pos_right h1 (Nat.pow_pos (by decide))
    omega
  · obtain ⟨m, hm⟩ := Int.eq_ofNat_of_zero_le (show 0 ≤ -n by omega)
    obtain rfl : n = -(m : Int) := by omega
    rw [shZ_neg]
    have e : nb (X / 2 ^ m) = nb X - 1 - m + 1 := by
      apply nb_uniq
      · rw [Nat.le_div_iff_mul_le (Nat.pow_pos (by decide)), ← Nat.pow_add, show nb X - 1 - m + m = nb X - 1 by omega]
        exact h2
      · apply Nat.div_lt_of_lt_mul
        rw [← Nat.pow_add, show m + (nb X - 1 - m + 1) = nb X by omega]
        exact h1
    omega
def rK (X p : Nat) : Nat := shZ X (-((nb X : Int) - p))
def rHf (X p : Nat) : Bool := decide (p < nb X) && gH X (nb X - p)
def rRs (X p : Nat) : Bool := decide (p < nb X) && gB X (nb X - p)
def rUq (w : Nat) (mb : Bool) (X p : Nat) : Bool := rUp w mb (gO X (nb X - p)) (rHf X p) (rRs X p)
def rK1 (w : Nat) (mb : Bool) (X p : Nat) : Nat := rK X p + (if rUq w mb X p then 1 else 0)
def rEx (w : Nat) (mb : Bool) (X p : Nat) (q : Int) : Int := (nb X : Int) - 1 + q + (if rK1 w mb X p = 2 ^ p then 1 else 0)
def rSg (K1 : Nat) : Nat := shZ K1 (64 - (nb K1 : Int))
def rVal (w : Nat) (mb : Bool) (X p : Nat) (g q : Int) : RV := if g < rEx w mb X p q then (if rBelow w mb then (1, mb, iZ g, sgM p) else (2, mb, 0, 0)) else if rEx w mb X p q < 1 - g then (0, mb, 0, 0) else (1, mb, iZ (rEx w mb X p q), lN (rSg (rK1 w mb X p)))
def rNt (w : Nat) (mb : Bool) (X p : Nat) (g q : Int) : Int32 := if g < rEx w mb X p q then 20 else if rEx w mb X p q < 1 - g then 24 else if rHf X p || rRs X p then 16 else 0
theorem rK_nb {X p : Nat} (hX : X ≠ 0) (hp : 1 ≤ p) : nb (rK X p) = p := by
  unfold rK
  have := nb_shZ hX (n := -((nb X : Int) - p)) (by omega)
  omega
theorem rK_rng {X p : Nat} (hX : X ≠ 0) (hp : 1 ≤ p) : 2 ^ (p - 1) ≤ rK X p ∧ rK X p < 2 ^ p := by
  have h := rK_nb hX hp
  have h1 := nb_lt (rK X p)
  have h2 := nb_le (x := rK X p) (fun h9 => by rw [h9, nb_0] at h; omega)
  rw [h] at h1 h2
  exact ⟨h2, h1⟩
theorem rK1_nb {X p w : Nat} {mb : Bool} (hX : X ≠ 0) (hp : 1 ≤ p) : nb (rK1 w mb X p) = if rK1 w mb X p = 2 ^ p then p + 1 else p := by
  obtain ⟨h1, h2⟩ := rK_rng hX hp
  have hb : rK X p ≤ rK1 w mb X p ∧ rK1 w mb X p ≤ rK X p + 1 := by
    unfold rK1
    split <;> omega
  obtain ⟨m, rfl⟩ : ∃ m, p = m + 1 := ⟨p - 1, by omega⟩
  split
  · rename_i h
    rw [h]
    exact nb_uniq (Nat.le_refl _) (Nat.pow_lt_pow_right (by decide) (by omega))
  · rename_i h
    exact nb_uniq (n := m) (by rw [Nat.add_sub_cancel] at h1; omega) (by omega)
section RO
variable {L : Nat} {xs : Nat → Int32} {d : Nat} {mi : ZM} {pc : Nat} {lv : zL} {st st' : List Value} {h' : zH} {k k' : Nat} {o : zO} {pc' : Nat}
variable {C : Nat → zC} {u : zC} {a : Nat → Int32} {b : Nat → Int64} {M : Nat → Int64} {R : Nat → Nat} {V : Nat → RV}
set_option maxRecDepth 10000 in
/-- the end: from the storing of the real on -/
theorem f_Mo_round {p w s : Nat} {g e : Int} {mb : Bool} {z : zL} (hp : pOk p) (hw : a 2 = nI w) (hw4 : w < 4) (hg : 1 ≤ g ∧ g ≤ 20000) (he : -200000 ≤ e ∧ e ≤ 200000) (hR2 : R 2 = s) (hs : s < 2 ^ 64) :
    zR L xs (d + 2) m_Mo_round 104 [(7, .int (iZ e)), (0, .ref 20), (1, .int (bI mb)), (3, .int (nI p)), (4, .int (iZ g))] [] (mV C u a b V M R) 0 (.inl none) (mV C u (nt a (if g < e then 20 else if e < 1 - g then 24 else 0)) b (fu V 10 (if g < e then (if rBelow w mb then (1, mb, iZ g, sgM p) else (2, mb, 0, 0)) else if e < 1 - g then (0, mb, 0, 0) else (1, mb, iZ e, lN s))) M R) 0 := by
  refine zR_to 111 rfl ?_
  refine zK_put (n := 10) rfl rfl (by decide) rfl ?_
  refine zR_to 119 rfl ?_
  refine zB_put (n := 10) rfl rfl (by decide) rfl ?_
  refine zR_to 128 rfl ?_
  refine zX_put (n := 10) rfl rfl (by decide) rfl ?_
  refine zR_to 137 rfl ?_
  refine zR_v rfl rfl rfl rfl rfl ⟨rfl, Nat.le_of_ble_eq_true rfl, Nat.le_of_ble_eq_true rfl⟩ rfl (Nat.le_refl _) (e_Mo_lowest (r := 2) (by decide)) rfl rfl ?_
  rw [hR2, Nat.mod_eq_of_lt hs]
  refine zS_put (n := 10) rfl rfl (by decide) rfl ?_
  rw [mV_fu]
  refine zR_to 147 (st' := [.int (iZ 1 - iZ g), .int (iZ e)]) rfl ?_
  rw [iZ_sub]
  refine zR_m 1 rfl ?_
  refine zR_if (fun h => ?_) (fun h => ?_)
  · have h1 := (iZ_le (by omega) (by omega)).mp h
    rw [if_neg (show ¬ e < 1 - g by omega), if_neg (show ¬ e < 1 - g by omega)]
    refine zR_to 174 rfl ?_
    refine zR_m 1 rfl ?_
    refine zR_if (fun h2 => ?_) (fun h2 => ?_)
    · have h3 := (iZ_le (by omega) (by omega)).mp h2
      rw [if_neg (show ¬ g < e by omega), if_neg (show ¬ g < e by omega), nt_0]
      exact zR_e rfl rfl rfl rfl rfl rfl
    · have h3 : ¬ e ≤ g := fun h4 => h2 ((iZ_le (by omega) (by omega)).mpr h4)
      rw [if_pos (show g < e by omega), if_pos (show g < e by omega)]
      refine zR_to 182 rfl ?_
      refine zR_v rfl rfl rfl rfl rfl ⟨rfl, Nat.le_of_ble_eq_true rfl, Nat.le_of_ble_eq_true rfl⟩ rfl (Nat.le_refl _) (e_Mo_tooLarge hp hw hw4) rfl rfl ?_
      rw [fu_fu]
      exact zR_e rfl rfl rfl rfl rfl rfl
  · have h1 : ¬ 1 - g ≤ e := fun h4 => h ((iZ_le (by omega) (by omega)).mpr h4)
    rw [if_neg (show ¬ g < e by omega), if_pos (show e < 1 - g by omega), if_neg (show ¬ g < e by omega), if_pos (show e < 1 - g by omega)]
    refine zR_to 167 (st' := [.int (bI mb), .int 0, .ref 20]) (h1 := mV C u (nt (nt a 8) 16) b (fu V 10 (1, mb, iZ e, lN s)) M R) rfl ?_
    refine zR_v rfl rfl rfl rfl rfl ⟨rfl, Nat.le_of_ble_eq_true rfl, Nat.le_of_ble_eq_true rfl⟩ rfl (Nat.le_refl _) (e_Mo_special (mb := mb)) rfl rfl ?_
    rw [nt_nt, fu_fu]
    refine zR_to 174 rfl ?_
    refine zR_m 1 rfl ?_
    refine zR_if (fun h2 => ?_) (fun h2 => ?_)
    · exact zR_e rfl rfl rfl rfl rfl rfl
    · exact absurd ((iZ_le (by omega) (by omega)).mpr (show e ≤ g by omega)) h2
end RO
