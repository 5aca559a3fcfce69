theorem lN_uN (x : Int64) : lN (uN x) = x := by
  obtain ⟨n, hn, rfl⟩ := wb_of x
  have : uN (lN n) = n := by
    show (lN n).toBitVec.toNat = n
    exact wb_tn hn
  rw [this]
/-- the control's precision and way of rounding -/
def cOk (a : Nat → Int32) (p w : Nat) : Prop := a 1 = nI p ∧ a 2 = nI w ∧ pOk p ∧ w < 4
abbrev rk (v : RV) : Int32 := v.1
abbrev rn (v : RV) : Bool := v.2.1
abbrev re (v : RV) : Int32 := v.2.2.1
abbrev rs (v : RV) : Nat := uN v.2.2.2
def vNan : RV := (3, false, 0, 0)
def eit (x y : RV) (kd : Int32) : Bool := decide (rk x = kd) || decide (rk y = kd)
section SU
variable {L : Nat} {xs : Nat → Int32} {d : Nat} {mi : ZM} {pc : Nat} {lv : zL} {st st' : List Value} {h' : zH} {k k' : Nat} {o : zO} {pc' : Nat}
variable {C : Nat → zC} {u : zC} {a : Nat → Int32} {b : Nat → Int64} {M : Nat → Int64} {R : Nat → Nat} {V : Nat → RV}
set_option maxRecDepth 10000 in
theorem e_Mo_either {kd : Int32} : zE L xs d m_Mo_either [.ref 20, .int kd] (mV C u a b V M R) (.inl (some (.int (bI (eit (V 8) (V 9) kd))))) (mV C u a b V M R) := by
  have fin : ∀ x : Bool, eit (V 8) (V 9) kd = x → zR L xs d m_Mo_either 27 [(0, .ref 20), (1, .int kd)] [.int (bI x)] (mV C u a b V M R) 0 (.inl (some (.int (bI (eit (V 8) (V 9) kd))))) (mV C u a b V M R) 0 := by
    intro x hx
    rw [hx]
    cases x <;> exact zR_e rfl rfl rfl rfl rfl rfl
  refine ⟨0, Nat.zero_le _, ?_⟩
  refine zR_to 6 rfl ?_
  refine zK_get (n := 8) rfl rfl (by decide) rfl ?_
  refine zR_to 8 rfl ?_
  refine zR_m 1 rfl ?_
  refine zR_if (fun h => ?_) (fun h => ?_)
  · refine zR_to 27 rfl (fin true ?_)
    unfold eit
    rw [decide_eq_true (show rk (V 8) = kd from h)]
    rfl
  · refine zR_to 17 rfl ?_
    refine zK_get (n := 9) rfl rfl (by decide) rfl ?_
    refine zR_to 19 rfl ?_
    refine zR_m 1 rfl ?_
    refine zR_if (fun h2 => ?_) (fun h2 => ?_)
    · refine zR_to 27 rfl (fin false ?_)
      unfold eit
      rw [decide_eq_false (show ¬ rk (V 8) = kd from h), decide_eq_false (show ¬ rk (V 9) = kd from h2)]
      rfl
    · refine zR_to 27 rfl (fin true ?_)
      unfold eit
      rw [decide_eq_false (show ¬ rk (V 8) = kd from h), decide_eq_true (show rk (V 9) = kd from Decidable.of_not_not h2)]
      rfl
set_option maxRecDepth 10000 in
theorem e_Mo_result {X p w : Nat} {q : Int} {mb : Bool} (hc : cOk a p w) (hq : -100000 ≤ q ∧ q ≤ 100000) (hX : X ≠ 0) (hX4 : nb X ≤ 400) (hR : Rok R) (hR0 : R 0 = X) :
    zE L xs (d + 4) m_Mo_result [.ref 20, .int (bI mb), .int (iZ q)] (mV C u a b V M R) (.inl none) (mV C u (nt a (rNt w mb X p 16383 q)) b (fu V 10 (rVal w mb X p 16383 q)) M (fu (fu R 1 (rK1 w mb X p)) 2 (rSg (rK1 w mb X p)))) := by
  obtain ⟨h1, h2, h3, h4⟩ := hc
  refine ⟨0, Nat.zero_le _, ?_⟩
  refine zR_to 10 (st' := [.int (iZ 16383), .int (a 1), .int (iZ q), .int (bI mb), .ref 20]) rfl ?_
  rw [h1]
  refine zR_v rfl rfl rfl rfl rfl ⟨rfl, Nat.le_of_ble_eq_true rfl, Nat.le_of_ble_eq_true rfl⟩ rfl (Nat.le_refl _) (e_Mo_round h3 h2 h4 (by decide) hq hX hX4 hR hR0) rfl rfl ?_
  exact zR_e rfl rfl rfl rfl rfl rfl
/-- some rows of digits, all within bounds -/
def zEr (L : Nat) (xs : Nat → Int32) (d : Nat) (m : ZM) (as : List Value) (h : zH) (o : zO) (C : Nat → zC) (u : zC) (a : Nat → Int32) (b : Nat → Int64) (V : Nat → RV) (M : Nat → Int64) : Prop := ∃ R', Rok R' ∧ zE L xs d m as h o (mV C u a b V M R')
theorem rok_round {X p w : Nat} {mb : Bool} (hX : X ≠ 0) (hp : pOk p) (hR : Rok R) : Rok (fu (fu R 1 (rK1 w mb X p)) 2 (rSg (rK1 w mb X p))) := by
  have hp1 : 1 ≤ p ∧ p ≤ 64 := by rcases hp with rfl | rfl | rfl <;> decide
  have h1 := rK1_nb (w := w) (mb := mb) hX hp1.1
  have hK0 : rK1 w mb X p ≠ 0 := by
    obtain ⟨h1, -⟩ := rK_rng hX hp1.1
    have := Nat.pow_pos (n := p - 1) (show 0 < 2 by decide)
    unfold rK1
    omega
  refine (hR.fu (lt512 (n := 65) ?_ (by decide))).fu (Nat.lt_of_lt_of_le (rSg_lt hK0) ?_)
  · split at h1 <;> omega
  · rw [B2]
    exact Nat.pow_le_pow_right (by decide) (by decide)
theorem r_Mo_result {X p w : Nat} {q : Int} {mb : Bool} (hc : cOk a p w) (hq : -100000 ≤ q ∧ q ≤ 100000) (hX : X ≠ 0) (hX4 : nb X ≤ 400) (hR : Rok R) (hR0 : R 0 = X) :
    zEr L xs (d + 4) m_Mo_result [.ref 20, .int (bI mb), .int (iZ q)] (mV C u a b V M R) (.inl none) C u (nt a (rNt w mb X p 16383 q)) b (fu V 10 (rVal w mb X p 16383 q)) M := ⟨_, rok_round hX hc.2.2.1 hR, e_Mo_result hc hq hX hX4 hR hR0⟩
/-- a finite real of the stack -/
def vFin (v : RV) : Prop := rk v = 1 ∧ (∃ e : Int, re v = iZ e ∧ -17000 ≤ e ∧ e ≤ 17000) ∧ 2 ^ 63 ≤ rs v
theorem uN_lt2 (x : Int64) : uN x < 2 ^ 64 := uN_lt x
theorem nb64 {x : Nat} (h1 : 2 ^ 63 ≤ x) (h2 : x < 2 ^ 64) : nb x = 64 := nb_uniq h1 h2
end SU
