theorem cmpZ_le {x y : Nat} : cmpZ x y ≤ 0 ↔ x ≤ y := by
  unfold cmpZ
  split
  · omega
  · split <;> omega
theorem cmpZ_0 {x y : Nat} : cmpZ x y = 0 ↔ x = y := by
  unfold cmpZ
  split
  · omega
  · split <;> omega
section RT
variable {L : Nat} {xs : Nat → Int32} {d : Nat} {mi : ZM} {pc : Nat} {lv : zL} {st st' : List Value} {h' : zH} {k k' : Nat} {o : zO} {pc' : Nat}
variable {C : Nat → zC} {u : zC} {a : Nat → Int32} {b : Nat → Int64} {M : Nat → Int64} {R : Nat → Nat} {V : Nat → RV}
theorem or_pow {Q k : Nat} (h : Q % 2 ^ (k + 1) = 0) : Q ||| 2 ^ k = Q + 2 ^ k := by
  have h1 : Q = 2 ^ (k + 1) * (Q / 2 ^ (k + 1)) := by
    have := Nat.mod_add_div Q (2 ^ (k + 1))
    omega
  have h2 : (2 : Nat) ^ k < 2 ^ (k + 1) := Nat.pow_lt_pow_right (by decide) (by omega)
  have h3 := Nat.two_pow_add_eq_or_of_lt h2 (Q / 2 ^ (k + 1))
  rw [← h1] at h3
  exact h3.symm
theorem e_Mo_sh0 {f t : Nat} (hf : f < 5) (ht : t < 5) (hft : f ≠ t) (hR : Rok R) : zE L xs (d + 2) m_Mo_shift [.ref 20, .int (nI f), .int (nI t), .int (iZ 0)] (mV C u a b V M R) (.inl none) (mV C u a b V M (fu R t (R f))) := by
  have hn := nb_bd (x := R f) (n := 512) (by have := hR f; rw [B2] at this; exact this)
  have h9 := e_Mo_shift (L := L) (xs := xs) (d := d) (C := C) (u := u) (a := a) (b := b) (K := fun i => (V i).1) (B := fun i => (V i).2.1) (E := fun i => (V i).2.2.1) (S := fun i => (V i).2.2.2) (M := M) (R := R) (f := f) (t := t) (n := 0) hf ht hft hR (by omega) (by omega)
  rw [sh0] at h9
  exact h9
set_option maxRecDepth 10000 in
set_option maxHeartbeats 4000000 in
theorem l_Mo_root {A : Nat} {z : Int32} {a9 : Nat → Int32} {V9 : Nat → RV}
    (kk : ∀ (R' : Nat → Nat) (Q : Nat), Rok R' → Q < 2 ^ 85 → R' 0 = Q → R' 4 = A → Q = sqN A → ∃ R'', Rok R'' ∧ zR L xs (d + 3) m_Mo_root 159 [(1, .int z), (0, .ref 20)] [] (mV C u a b V M R') 0 (.inl none) (mV C u a9 b V9 M R'') 0) :
    ∀ (t : Nat) {Q : Nat} {R : Nat → Nat}, t ≤ 85 → Q + 2 ^ t ≤ 2 ^ 85 → Q % 2 ^ t = 0 → sqB A t Q = sqN A → Rok R → R 0 = Q → R 4 = A → ∃ R'', Rok R'' ∧ zR L xs (d + 3) m_Mo_root 114 [(2, .int (iZ ((t : Int) - 1))), (1, .int z), (0, .ref 20)] [] (mV C u a b V M R) 0 (.inl none) (mV C u a9 b V9 M R'') 0 := by
  intro t
  induction t with
  | zero =>
    intro Q R ht hQ hm hs hR h0 h4
    obtain ⟨R'', q1, q2⟩ := kk R Q hR (by rw [Nat.pow_zero] at hQ; omega) h0 h4 hs
    refine ⟨R'', q1, ?_⟩
    refine zR_to 159 rfl ?_
    exact zR_w q2 rfl rfl ⟨rfl, rfl, trivial⟩
  | succ t ih =>
    intro Q R ht hQ hm hs hR h0 h4
    have hC : Q + 2 ^ t < 2 ^ 85 := by
      have : 0 < 2 ^ t := Nat.pow_pos (by decide)
      rw [Nat.pow_succ] at hQ
      omega
    have hCn : nb (Q + 2 ^ t) ≤ 85 := nb_bd hC
    have hCC : nb ((Q + 2 ^ t) * (Q + 2 ^ t)) ≤ 170 := mul_nb hCn hCn
    have hC5 : (Q + 2 ^ t) < 65536 ^ 32 := lt512 hCn (by decide)
    have hCC5 : (Q + 2 ^ t) * (Q + 2 ^ t) < 65536 ^ 32 := lt512 hCC (by decide)
    have hmt : Q % 2 ^ t = 0 ∧ (Q + 2 ^ t) % 2 ^ t = 0 := by
      have h1 : Q % 2 ^ t = 0 := Nat.mod_eq_zero_of_dvd (Nat.dvd_trans (Nat.pow_dvd_pow 2 (by omega)) (Nat.dvd_of_mod_eq_zero hm))
      exact ⟨h1, by rw [Nat.add_mod_right]; exact h1⟩
    have hQ5 : Q < 65536 ^ 32 := by rw [← h0]; exact hR 0
    have hR1 : Rok (fu R 1 Q) := hR.fu hQ5
    have hR2 : Rok (fu R 1 (Q + 2 ^ t)) := hR.fu hC5
    have hR3 : Rok (fu (fu R 1 (Q + 2 ^ t)) 2 ((Q + 2 ^ t) * (Q + 2 ^ t))) := hR2.fu hCC5
    have hcr := cmpZ_rng ((Q + 2 ^ t) * (Q + 2 ^ t)) A
    have hd : ∀ {h9 : zH}, zR L xs (d + 3) m_Mo_root 144 [(2, .int (nI t)), (1, .int z), (0, .ref 20)] [.int (iZ (cmpZ ((Q + 2 ^ t) * (Q + 2 ^ t)) A))] (mV C u a b V M (fu (fu R 1 (Q + 2 ^ t)) 2 ((Q + 2 ^ t) * (Q + 2 ^ t)))) 0 (.inl none) h9 0 → zR L xs (d + 3) m_Mo_root 114 [(2, .int (iZ (((t + 1 : Nat) : Int) - 1))), (1, .int z), (0, .ref 20)] [] (mV C u a b V M R) 0 (.inl none) h9 0 := fun {h9} hr => by
      rw [show (((t + 1 : Nat) : Int) - 1) = (t : Int) by omega, iZ_nat]
      refine zR_m 2 rfl ?_
      refine zR_if (fun h => absurd h (nI_pos (n := t) (by omega))) (fun _ => ?_)
      refine zR_to 122 (st' := [.int (iZ 0), .int (nI 1), .int (nI 0), .ref 20]) rfl ?_
      refine zR_v rfl rfl rfl rfl rfl ⟨rfl, Nat.le_of_ble_eq_true rfl, Nat.le_of_ble_eq_true rfl⟩ rfl (Nat.le_refl _) (e_Mo_sh0 (f := 0) (t := 1) (by decide) (by decide) (by decide) hR) rfl rfl ?_
      rw [h0]
      refine zR_to 128 (st' := [.int (nI t), .int (nI 1), .ref 20]) rfl ?_
      refine zR_v rfl rfl rfl rfl rfl ⟨rfl, Nat.le_of_ble_eq_true rfl, Nat.le_of_ble_eq_true rfl⟩ rfl (Nat.le_refl _) (e_Mo_setBit (r := 1) (n := t) (by decide) (by omega)) rfl rfl ?_
      rw [fu_s, fu_fu, or_pow hm]
      refine zR_to 135 (st' := [.int (nI 2), .int (nI 1), .int (nI 1), .ref 20]) rfl ?_
      refine zR_v rfl rfl rfl rfl rfl ⟨rfl, Nat.le_of_ble_eq_true rfl, Nat.le_of_ble_eq_true rfl⟩ rfl (Nat.le_refl _) (e_Mo_times (p := 1) (q := 1) (c := 2) (by decide) (by decide) (by decide) (by decide) (by decide) hR2 (by
        rw [fu_s, B2]
        exact Nat.lt_of_lt_of_le hC (Nat.pow_le_pow_right (by decide) (by decide)))) rfl rfl ?_
      rw [fu_s, Nat.mod_eq_of_lt hCC5]
      refine zR_to 141 rfl ?_
      refine zR_v rfl rfl rfl rfl rfl ⟨rfl, Nat.le_of_ble_eq_true rfl, Nat.le_of_ble_eq_true rfl⟩ rfl (Nat.le_refl _) (e_Mo_compareRows (p := 2) (q := 4) (by decide) (by decide) hR3) rfl rfl ?_
      rw [fu_s, fu_n (show (4 : Nat) ≠ 2 by decide), fu_n (show (4 : Nat) ≠ 1 by decide), h4]
      exact hr
    have tl9 : ∀ (Q1 : Nat) (Rb : Nat → Nat), Q1 + 2 ^ t ≤ 2 ^ 85 → Q1 % 2 ^ t = 0 → sqB A t Q1 = sqN A → Rok Rb → Rb 0 = Q1 → Rb 4 = A → ∃ R'', Rok R'' ∧ zR L xs (d + 3) m_Mo_root 153 [(2, .int (nI t)), (1, .int z), (0, .ref 20)] [] (mV C u a b V M Rb) 0 (.inl none) (mV C u a9 b V9 M R'') 0 := by
      intro Q1 Rb e1 e2 e3 e4 e5 e6
      obtain ⟨R'', q1, q2⟩ := ih (Q := Q1) (R := Rb) (by omega) e1 e2 e3 e4 e5 e6
      refine ⟨R'', q1, ?_⟩
      refine zR_to 114 rfl ?_
      refine zR_w q2 rfl rfl ⟨?_, rfl, rfl, trivial⟩
      show some (Value.int (nI t + iZ (-1))) = _
      rw [← iZ_nat, iZ_add]
      rfl
    by_cases hl : (Q + 2 ^ t) * (Q + 2 ^ t) ≤ A
    · have hs' : sqB A t (Q + 2 ^ t) = sqN A := by
        rw [← hs]
        conv => rhs; unfold sqB
        rw [if_pos hl]
      obtain ⟨R'', q1, q2⟩ := tl9 (Q + 2 ^ t) (fu (fu (fu R 1 (Q + 2 ^ t)) 2 ((Q + 2 ^ t) * (Q + 2 ^ t))) 0 (Q + 2 ^ t)) (by rw [Nat.add_assoc, ← Nat.mul_two, ← Nat.pow_succ]; exact hQ) hmt.2 hs' (hR3.fu hC5) fu_s (by rw [fu_n (by decide), fu_n (by decide), fu_n (by decide)]; exact h4)
      refine ⟨R'', q1, hd ?_⟩
      refine zR_m 1 rfl ?_
      refine zR_if (fun h => ?_) (fun _ => ?_)
      · have h1 := (iZ_lt (x := 0) (by omega) (by omega)).mp h
        have := cmpZ_le.mpr hl
        omega
      refine zR_to 150 (st' := [.int (nI t), .int (nI 0), .ref 20]) rfl ?_
      refine zR_v rfl rfl rfl rfl rfl ⟨rfl, Nat.le_of_ble_eq_true rfl, Nat.le_of_ble_eq_true rfl⟩ rfl (Nat.le_refl _) (e_Mo_setBit (r := 0) (n := t) (by decide) (by omega)) rfl rfl ?_
      rw [fu_n (show (0 : Nat) ≠ 2 by decide), fu_n (show (0 : Nat) ≠ 1 by decide), h0, or_pow hm]
      exact q2
    · have hs' : sqB A t Q = sqN A := by
        rw [← hs]
        conv => rhs; unfold sqB
        rw [if_neg hl]
      obtain ⟨R'', q1, q2⟩ := tl9 Q (fu (fu R 1 (Q + 2 ^ t)) 2 ((Q + 2 ^ t) * (Q + 2 ^ t))) (by rw [Nat.pow_succ] at hQ; omega) hmt.1 hs' hR3 (by rw [fu_n (by decide), fu_n (by decide)]; exact h0) (by rw [fu_n (by decide), fu_n (by decide)]; exact h4)
      refine ⟨R'', q1, hd ?_⟩
      refine zR_m 1 rfl ?_
      refine zR_if (fun _ => q2) (fun h => absurd ((iZ_lt (x := 0) (by omega) (by omega)).mpr (by
        rcases Int.lt_or_le 0 (cmpZ ((Q + 2 ^ t) * (Q + 2 ^ t)) A) with h9 | h9
        · exact h9
        · exact absurd (cmpZ_le.mp h9) hl)) h)
theorem iZ_and1 {v : Int} : iZ v &&& 1 = nI (v % 2).toNat := by
  rw [pk_and (iZ v) (m := 1) 1 rfl]
  congr 1
  show (BitVec.ofInt 32 v).toNat % 2 ^ 1 = _
  rw [BitVec.toNat_ofInt]
  omega
theorem iZ_half {m : Int} (h1 : -1000000 ≤ m) (h2 : m ≤ 1000000) : iZ (2 * m) / (2 : Int32) = iZ m := by
  have h := Int32.toInt_div (iZ (2 * m)) 2
  rw [iZ_toInt (by omega) (by omega), show (2 : Int32).toInt = 2 from rfl, Int.mul_tdiv_cancel_left m (by decide)] at h
  rw [iZ_of (iZ (2 * m) / 2), h]
  congr 1
  exact Int.bmod_eq_of_le (by show -(4294967296 / 2 : Int) ≤ m; omega) (by show m < (4294967296 + 1) / 2; omega)
end RT
