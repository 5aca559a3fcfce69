section QU
variable {L : Nat} {xs : Nat → Int32} {d : Nat} {mi : ZM} {pc : Nat} {lv : zL} {st st' : List Value} {h' : zH} {k k' : Nat} {o : zO} {pc' : Nat}
variable {C : Nat → zC} {u : zC} {a : Nat → Int32} {b : Nat → Int64} {M : Nat → Int64} {R : Nat → Nat} {V : Nat → RV}
set_option maxRecDepth 10000 in
set_option maxHeartbeats 4000000 in
theorem e_Mo_quotient {p w : Nat} (hc : cOk a p w) (hx : vOk (V 8)) (hy : vOk (V 9)) (hR : Rok R) : zEr L xs (d + 6) m_Mo_quotient [.ref 20] (mV C u a b V M R) (.inl none) C u (nt a (divR w p (V 8) (V 9)).2) b (fu V 10 (divR w p (V 8) (V 9)).1) M := by
  generalize hmb : decide (rn (V 8) ≠ rn (V 9)) = mb
  have go : ∀ {h9 : zH}, zR L xs (d + 6) m_Mo_quotient 28 [(1, .int (bI mb)), (0, .ref 20)] [.int (bI (eit (V 8) (V 9) 3))] (mV C u a b V M R) 0 (.inl none) h9 0 → zE L xs (d + 6) m_Mo_quotient [.ref 20] (mV C u a b V M R) (.inl none) h9 := fun {h9} hr => by
    have hr' : zR L xs (d + 6) m_Mo_quotient 23 [(1, .int (bI mb)), (0, .ref 20)] [] (mV C u a b V M R) 0 (.inl none) h9 0 := by
      refine zR_to 25 rfl ?_
      exact zR_v rfl rfl rfl rfl rfl ⟨rfl, Nat.le_of_ble_eq_true rfl, Nat.le_of_ble_eq_true rfl⟩ rfl (Nat.le_refl _) e_Mo_either rfl rfl hr
    refine ⟨0, Nat.zero_le _, ?_⟩
    refine zR_to 14 (st' := [.int (bI (rn (V 9))), .int (bI (rn (V 8)))]) rfl ?_
    refine zR_m 1 rfl ?_
    refine zR_if (fun h => ?_) (fun h => ?_)
    · have : mb = false := by rw [← hmb, decide_eq_false (fun h9 => h9 (bI_eq.mp h))]
      subst this
      refine zR_to 23 rfl ?_
      exact zR_w hr' rfl rfl ⟨rfl, rfl, trivial⟩
    · have : mb = true := by rw [← hmb, decide_eq_true (show rn (V 8) ≠ rn (V 9) from fun h9 => h (bI_eq.mpr h9))]
      subst this
      refine zR_to 23 rfl ?_
      exact zR_w hr' rfl rfl ⟨rfl, rfl, trivial⟩
  unfold divR
  rw [hmb]
  cases h3 : eit (V 8) (V 9) 3 with
  | true =>
    rw [if_pos rfl, nt_0]
    refine ⟨R, hR, go ?_⟩
    rw [h3]
    refine zR_to 34 (st' := [.int (bI false), .int 3, .ref 20]) rfl ?_
    refine zR_v rfl rfl rfl rfl rfl ⟨rfl, Nat.le_of_ble_eq_true rfl, Nat.le_of_ble_eq_true rfl⟩ rfl (Nat.le_refl _) e_Mo_special rfl rfl ?_
    refine zR_to 159 rfl ?_
    exact zR_e rfl rfl rfl rfl rfl rfl
  | false =>
    rw [if_neg (by decide)]
    have go1 : ∀ {h9 : zH}, zR L xs (d + 6) m_Mo_quotient 54 [(1, .int (bI mb)), (0, .ref 20)] [.int (rk (V 9)), .int (rk (V 8))] (mV C u a b V M R) 0 (.inl none) h9 0 → zE L xs (d + 6) m_Mo_quotient [.ref 20] (mV C u a b V M R) (.inl none) h9 := fun {h9} hr => by
      refine go ?_
      rw [h3]
      exact zR_to 54 rfl hr
    by_cases hb : rk (V 8) = rk (V 9) ∧ rk (V 8) ≠ 1
    · rw [if_pos hb]
      refine ⟨R, hR, go1 ?_⟩
      refine zR_m 1 rfl ?_
      refine zR_if (fun h => absurd hb.1 h) (fun _ => ?_)
      refine zR_to 65 (st' := [.int 1, .int (rk (V 8))]) rfl ?_
      refine zR_m 1 rfl ?_
      refine zR_if (fun h => absurd h hb.2) (fun _ => ?_)
      refine zR_to 69 rfl ?_
      refine zR_v rfl rfl rfl rfl rfl ⟨rfl, Nat.le_of_ble_eq_true rfl, Nat.le_of_ble_eq_true rfl⟩ rfl (Nat.le_refl _) e_Mo_invalid rfl rfl ?_
      refine zR_to 159 rfl ?_
      exact zR_e rfl rfl rfl rfl rfl rfl
    · rw [if_neg hb]
      have go2 : ∀ {h9 : zH}, zR L xs (d + 6) m_Mo_quotient 83 [(1, .int (bI mb)), (0, .ref 20)] [.int 2, .int (rk (V 8))] (mV C u a b V M R) 0 (.inl none) h9 0 → zE L xs (d + 6) m_Mo_quotient [.ref 20] (mV C u a b V M R) (.inl none) h9 := fun {h9} hr => by
        refine go1 ?_
        refine zR_m 1 rfl ?_
        refine zR_if (fun h => ?_) (fun h => ?_)
        · exact zR_to 83 rfl hr
        · refine zR_to 65 (st' := [.int 1, .int (rk (V 8))]) rfl ?_
          refine zR_m 1 rfl ?_
          refine zR_if (fun h5 => zR_to 83 rfl hr) (fun h5 => absurd ⟨Decidable.of_not_not h, h5⟩ hb)
      by_cases h82 : rk (V 8) = 2
      · rw [if_pos h82, nt_0]
        refine ⟨R, hR, go2 ?_⟩
        refine zR_m 1 rfl ?_
        refine zR_if (fun h => absurd h82 h) (fun _ => ?_)
        refine zR_to 89 rfl ?_
        refine zR_v rfl rfl rfl rfl rfl ⟨rfl, Nat.le_of_ble_eq_true rfl, Nat.le_of_ble_eq_true rfl⟩ rfl (Nat.le_refl _) e_Mo_special rfl rfl ?_
        refine zR_to 159 rfl ?_
        exact zR_e rfl rfl rfl rfl rfl rfl
      · rw [if_neg h82]
        have go3 : ∀ {h9 : zH}, zR L xs (d + 6) m_Mo_quotient 103 [(1, .int (bI mb)), (0, .ref 20)] [.int 2, .int (rk (V 9))] (mV C u a b V M R) 0 (.inl none) h9 0 → zE L xs (d + 6) m_Mo_quotient [.ref 20] (mV C u a b V M R) (.inl none) h9 := fun {h9} hr => by
          refine go2 ?_
          refine zR_m 1 rfl ?_
          refine zR_if (fun h => zR_to 103 rfl hr) (fun h => absurd (Decidable.of_not_not h) h82)
        by_cases hz : rk (V 9) = 2 ∨ rk (V 8) = 0
        · rw [if_pos hz, nt_0]
          refine ⟨R, hR, go3 ?_⟩
          have fin : zR L xs (d + 6) m_Mo_quotient 116 [(1, .int (bI mb)), (0, .ref 20)] [] (mV C u a b V M R) 0 (.inl none) (mV C u a b (fu V 10 (0, mb, 0, 0)) M R) 0 := by
            refine zR_to 119 rfl ?_
            refine zR_v rfl rfl rfl rfl rfl ⟨rfl, Nat.le_of_ble_eq_true rfl, Nat.le_of_ble_eq_true rfl⟩ rfl (Nat.le_refl _) e_Mo_special rfl rfl ?_
            refine zR_to 159 rfl ?_
            exact zR_e rfl rfl rfl rfl rfl rfl
          refine zR_m 1 rfl ?_
          refine zR_if (fun _ => fin) (fun h => ?_)
          refine zR_to 113 (st' := [.int (rk (V 8))]) rfl ?_
          refine zR_m 1 rfl ?_
          refine zR_if (fun h5 => ?_) (fun _ => fin)
          rcases hz with h6 | h6
          · exact absurd h6 h
          · exact absurd h6 h5
        · rw [if_neg hz]
          have go4 : ∀ {h9 : zH}, zR L xs (d + 6) m_Mo_quotient 132 [(1, .int (bI mb)), (0, .ref 20)] [.int (rk (V 9))] (mV C u a b V M R) 0 (.inl none) h9 0 → zE L xs (d + 6) m_Mo_quotient [.ref 20] (mV C u a b V M R) (.inl none) h9 := fun {h9} hr => by
            refine go3 ?_
            refine zR_m 1 rfl ?_
            refine zR_if (fun h => absurd (Or.inl h) hz) (fun _ => ?_)
            refine zR_to 113 (st' := [.int (rk (V 8))]) rfl ?_
            refine zR_m 1 rfl ?_
            refine zR_if (fun _ => zR_to 132 rfl hr) (fun h => absurd (Or.inr (Decidable.of_not_not h)) hz)
          by_cases h90 : rk (V 9) = 0
          · rw [if_pos h90]
            refine ⟨R, hR, go4 ?_⟩
            rw [h90]
            refine zR_to 148 (st' := [.int (bI mb), .int 2, .ref 20]) (h1 := mV C u (nt a 2) b V M R) rfl ?_
            refine zR_v rfl rfl rfl rfl rfl ⟨rfl, Nat.le_of_ble_eq_true rfl, Nat.le_of_ble_eq_true rfl⟩ rfl (Nat.le_refl _) e_Mo_special rfl rfl ?_
            refine zR_to 159 rfl ?_
            exact zR_e rfl rfl rfl rfl rfl rfl
          · rw [if_neg h90]
            obtain ⟨a1, a2⟩ := eit_f h3
            have f8 : rk (V 8) = 1 := by
              rcases hx.1 with h | h | h | h
              · exact absurd (Or.inr h) hz
              · exact h
              · exact absurd h h82
              · exact absurd h a1
            have f9 : rk (V 9) = 1 := by
              rcases hy.1 with h | h | h | h
              · exact absurd h h90
              · exact h
              · exact absurd (Or.inl h) hz
              · exact absurd h a2
            obtain ⟨R', hR', hgo⟩ := e_Mo_finiteQuotient (L := L) (xs := xs) (d := d) (C := C) (u := u) (a := a) (b := b) (V := V) (M := M) (R := R) (mb := mb) hc f8 f9 hx hy hR
            refine ⟨R', hR', go4 ?_⟩
            rw [f9]
            refine zR_to 156 rfl ?_
            refine zR_v rfl rfl rfl rfl rfl ⟨rfl, Nat.le_of_ble_eq_true rfl, Nat.le_of_ble_eq_true rfl⟩ rfl (Nat.le_refl _) hgo rfl rfl ?_
            exact zR_e rfl rfl rfl rfl rfl rfl
end QU
/-! the root -/
def sqB (A : Nat) : Nat → Nat → Nat
  | 0, Q => Q
  | k + 1, Q => if (Q + 2 ^ k) * (Q + 2 ^ k) ≤ A then sqB A k (Q + 2 ^ k) else sqB A k Q
def sqN (A : Nat) : Nat := sqB A 85 0
theorem sqB_lt {A : Nat} : ∀ (k Q : Nat), Q + 2 ^ k ≤ 2 ^ 85 → sqB A k Q < 2 ^ 85 ∧ Q ≤ sqB A k Q
  | 0, Q, h => by unfold sqB; rw [Nat.pow_zero] at h; omega
  | k + 1, Q, h => by
    unfold sqB
    rw [Nat.pow_succ] at h
    split
    · have := sqB_lt (A := A) k (Q + 2 ^ k) (by omega)
      have hp : 0 < 2 ^ k := Nat.pow_pos (by decide)
      omega
    · have hp : 0 < 2 ^ k := Nat.pow_pos (by decide)
      exact sqB_lt k Q (by omega)
theorem sqB_sq {A : Nat} : ∀ (k Q : Nat), Q * Q ≤ A → A < (Q + 2 ^ k) * (Q + 2 ^ k) → sqB A k Q * sqB A k Q ≤ A ∧ A < (sqB A k Q + 1) * (sqB A k Q + 1)
  | 0, Q, h1, h2 => by unfold sqB; exact ⟨h1, h2⟩
  | k + 1, Q, h1, h2 => by
    unfold sqB
    split
    · rename_i h
      exact sqB_sq k (Q + 2 ^ k) h (by rw [Nat.add_assoc, ← Nat.mul_two, ← Nat.pow_succ]; exact h2)
    · rename_i h
      exact sqB_sq k Q h1 (by omega)
def rtX (A : Nat) : Nat := 2 * sqN A + (if sqN A * sqN A = A then 0 else 1)
def rtN (e : Int) : Nat := if e % 2 = 1 then 100 else 101
def rootR (w p : Nat) (x : RV) : RV × Int32 := if rk x = 3 ∨ rk x = 0 ∨ (rk x = 2 ∧ rn x = false) then (x, 0)
  else if rn x then (vNan, 1)
  else (rVal w false (rtX (rs x * 2 ^ rtN (zr x))) p 16383 ((zr x - 63 - rtN (zr x)) / 2 - 1), rNt w false (rtX (rs x * 2 ^ rtN (zr x))) p 16383 ((zr x - 63 - rtN (zr x)) / 2 - 1))
