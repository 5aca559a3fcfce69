/-! alter: the operations on one real -/
def absR (v : RV) : RV := (rk v, false, re v, v.2.2.2)
section AL
variable {L : Nat} {xs : Nat → Int32} {d : Nat} {mi : ZM} {pc : Nat} {lv : zL} {st st' : List Value} {h h' : zH} {k k' : Nat} {o : zO} {pc' : Nat}
variable {C : Nat → zC} {u : zC} {a : Nat → Int32} {b : Nat → Int64} {M : Nat → Int64} {R : Nat → Nat} {V : Nat → RV}
set_option maxRecDepth 10000 in
theorem hd_Mo_alter {x : Int32} {h9 : zH} (hr : zR L xs (d + 1) m_Mo_alter 8 [(0, .ref 20), (1, .int x)] [] (mV C u a b (fu V 10 (V 8)) M R) 0 (.inl none) h9 0) : zE L xs (d + 1) m_Mo_alter [.ref 20, .int x] (mV C u a b V M R) (.inl none) h9 := by
  refine ⟨0, Nat.zero_le _, ?_⟩
  refine zR_to 5 (st' := [.int (nI 10), .int (nI 8), .ref 20]) rfl ?_
  exact zR_v rfl rfl rfl rfl rfl ⟨rfl, Nat.le_of_ble_eq_true rfl, Nat.le_of_ble_eq_true rfl⟩ rfl (Nat.le_refl _) (e_Mo_copy (f := 8) (t := 10) (by decide) (by decide)) rfl rfl hr
set_option maxRecDepth 10000 in
theorem e_Mo_alter4 {p w : Nat} (hc : cOk a p w) (hx : vOk (V 8)) (hR : Rok R) : zEr L xs (d + 7) m_Mo_alter [.ref 20, .int (nI 4)] (mV C u a b V M R) (.inl none) C u (nt a (rootR w p (V 8)).2) b (fu V 10 (rootR w p (V 8)).1) M := by
  have e8 : fu V 10 (V 8) 8 = V 8 := fu_n (by decide)
  obtain ⟨R', hR', hgo⟩ := e_Mo_root (L := L) (xs := xs) (d := d) (C := C) (u := u) (a := a) (b := b) (V := fu V 10 (V 8)) (M := M) (R := R) hc (by rw [e8]; exact hx) hR
  rw [e8, fu_fu] at hgo
  refine ⟨R', hR', hd_Mo_alter ?_⟩
  refine zR_to 14 rfl ?_
  refine zR_v rfl rfl rfl rfl rfl ⟨rfl, Nat.le_of_ble_eq_true rfl, Nat.le_of_ble_eq_true rfl⟩ rfl (Nat.le_refl _) hgo rfl rfl ?_
  refine zR_to 89 rfl ?_
  exact zR_e rfl rfl rfl rfl rfl rfl
set_option maxRecDepth 10000 in
theorem e_Mo_alter5 {w : Nat} (hw : a 2 = nI w) (hw4 : w < 4) (hx : vOk (V 8)) (hR : Rok R) : zEr L xs (d + 7) m_Mo_alter [.ref 20, .int (nI 5)] (mV C u a b V M R) (.inl none) C u (nt a (intR w (V 8)).2) b (fu V 10 (intR w (V 8)).1) M := by
  have e8 : fu V 10 (V 8) 8 = V 8 := fu_n (by decide)
  obtain ⟨R', hR', hgo⟩ := e_Mo_integer (L := L) (xs := xs) (d := d + 2) (C := C) (u := u) (a := a) (b := b) (V := fu V 10 (V 8)) (M := M) (R := R) hw hw4 (by rw [e8]; exact hx) hR
  rw [e8, fu_fu] at hgo
  refine ⟨R', hR', hd_Mo_alter ?_⟩
  refine zR_to 23 rfl ?_
  refine zR_v rfl rfl rfl rfl rfl ⟨rfl, Nat.le_of_ble_eq_true rfl, Nat.le_of_ble_eq_true rfl⟩ rfl (Nat.le_refl _) hgo rfl rfl ?_
  refine zR_to 89 rfl ?_
  exact zR_e rfl rfl rfl rfl rfl rfl
set_option maxRecDepth 10000 in
theorem e_Mo_alter6 {p w : Nat} {r9 : RV × Int32} (hc : cOk a p w) (hx : vOk (V 8)) (hR : Rok R)
    (h3r : eit (V 8) (V 9) 3 = true → r9 = (vNan, 0)) (h0r : eit (V 8) (V 9) 3 = false → rk (V 9) = 0 → r9 = sclN w p 0 (V 8) (V 9)) (h1r : eit (V 8) (V 9) 3 = false → scFin (V 9) → r9 = sclN w p (rs (V 9) / 2 ^ scK (V 9)) (V 8) (V 9)) (hbr : eit (V 8) (V 9) 3 = false → rk (V 9) ≠ 0 → ¬ scFin (V 9) → r9 = (vNan, 1)) :
    zEr L xs (d + 7) m_Mo_alter [.ref 20, .int (nI 6)] (mV C u a b V M R) (.inl none) C u (nt a r9.2) b (fu V 10 r9.1) M := by
  have e8 : fu V 10 (V 8) 8 = V 8 := fu_n (by decide)
  have e9 : fu V 10 (V 8) 9 = V 9 := fu_n (by decide)
  obtain ⟨R', hR', hgo⟩ := e_Mo_scaled (L := L) (xs := xs) (d := d + 1) (C := C) (u := u) (a := a) (b := b) (V := fu V 10 (V 8)) (M := M) (R := R) (p := p) (w := w) (r9 := r9) hc (by rw [e8]; exact hx) hR (by rw [e8, e9]; exact h3r) (by rw [e8, e9]; exact h0r) (by rw [e8, e9]; exact h1r) (by rw [e8, e9]; exact hbr)
  rw [fu_fu] at hgo
  refine ⟨R', hR', hd_Mo_alter ?_⟩
  refine zR_to 33 rfl ?_
  refine zR_v rfl rfl rfl rfl rfl ⟨rfl, Nat.le_of_ble_eq_true rfl, Nat.le_of_ble_eq_true rfl⟩ rfl (Nat.le_refl _) hgo rfl rfl ?_
  refine zR_to 89 rfl ?_
  exact zR_e rfl rfl rfl rfl rfl rfl
/-- the sign of place 10 anew, while it holds what place 8 holds -/
theorem sg10 {x : Bool} : mH C u a b (fun i => (fu V 10 (V 8) i).1) (fu (fun i => (fu V 10 (V 8) i).2.1) 10 x) (fun i => (fu V 10 (V 8) i).2.2.1) (fun i => (fu V 10 (V 8) i).2.2.2) M R = mV C u a b (fu V 10 ((V 8).1, x, (V 8).2.2.1, (V 8).2.2.2)) M R := by
  have h9 := mV_fu (C := C) (u := u) (a := a) (b := b) (V := fu V 10 (V 8)) (M := M) (R := R) (n := 10) (k9 := (V 8).1) (b9 := x) (e9 := (V 8).2.2.1) (s9 := (V 8).2.2.2)
  rw [fu_self (f := fun i => (fu V 10 (V 8) i).1) (k := 10) (x := (V 8).1) rfl, fu_self (f := fun i => (fu V 10 (V 8) i).2.2.1) (k := 10) (x := (V 8).2.2.1) rfl, fu_self (f := fun i => (fu V 10 (V 8) i).2.2.2) (k := 10) (x := (V 8).2.2.2) rfl, fu_fu] at h9
  exact h9
set_option maxRecDepth 10000 in
theorem e_Mo_alter8 : zE L xs (d + 1) m_Mo_alter [.ref 20, .int (nI 8)] (mV C u a b V M R) (.inl none) (mV C u a b (fu V 10 (absR (V 8))) M R) := by
  refine hd_Mo_alter ?_
  refine zR_to 49 (st' := [.int (bI false), .int (nI 10), .ref 22]) rfl ?_
  refine zB_put (n := 10) rfl rfl (by decide) rfl ?_
  rw [sg10]
  refine zR_to 89 rfl ?_
  exact zR_e rfl rfl rfl rfl rfl rfl
set_option maxRecDepth 10000 in
theorem e_Mo_alter9 : zE L xs (d + 1) m_Mo_alter [.ref 20, .int (nI 9)] (mV C u a b V M R) (.inl none) (mV C u a b (fu V 10 (negR (V 8))) M R) := by
  have fin : ∀ x : Bool, (decide (rk (V 8) ≠ 3) && !rn (V 8)) = x → zR L xs (d + 1) m_Mo_alter 88 [(0, .ref 20), (1, .int (nI 9))] [.int (bI x), .int (nI 10), .ref 22] (mV C u a b (fu V 10 (V 8)) M R) 0 (.inl none) (mV C u a b (fu V 10 (negR (V 8))) M R) 0 := by
    intro x hx9
    refine zB_put (n := 10) rfl rfl (by decide) rfl ?_
    rw [sg10]
    unfold negR
    rw [hx9]
    exact zR_e rfl rfl rfl rfl rfl rfl
  refine hd_Mo_alter ?_
  refine zR_to 70 (st' := [.int 3, .int (rk (V 8)), .int (nI 10), .ref 22]) rfl ?_
  refine zR_m 1 rfl ?_
  refine zR_if (fun h => ?_) (fun h => ?_)
  · refine zR_to 88 rfl (fin false ?_)
    rw [decide_eq_false (show ¬ rk (V 8) ≠ 3 from fun h9 => h9 h)]
    rfl
  · refine zR_to 80 (st' := [.int (bI (rn (V 8))), .int (nI 10), .ref 22]) rfl ?_
    have h9 : (decide (rk (V 8) ≠ 3) && !rn (V 8)) = !rn (V 8) := by
      rw [decide_eq_true (show rk (V 8) ≠ 3 from h)]
      rfl
    cases hn : rn (V 8) with
    | true => exact zR_to 88 rfl (fin false (by rw [h9, hn]; rfl))
    | false => exact zR_to 88 rfl (fin true (by rw [h9, hn]; rfl))
end AL
