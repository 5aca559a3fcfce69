/-! reckon: the four operations on two reals -/
def negR (v : RV) : RV := (rk v, decide (rk v ≠ 3) && !rn v, re v, v.2.2.2)
theorem negR_ok {v : RV} (h : vOk v) : vOk (negR v) := by
  obtain ⟨h1, h2, h3, h4⟩ := h
  refine ⟨h1, h2, h3, fun h5 => ?_⟩
  show (decide (rk v ≠ 3) && !rn v) = false
  rw [decide_eq_false (fun h9 => h9 h5)]
  rfl
def reckR (w p op : Nat) (x y : RV) : RV × Int32 := if op = 0 then sumR w p x y else if op = 1 then sumR w p (negR x) y else if op = 2 then mulR w p x y else divR w p y x
section RC
variable {L : Nat} {xs : Nat → Int32} {d : Nat} {mi : ZM} {pc : Nat} {lv : zL} {st st' : List Value} {h h' : zH} {k k' : Nat} {o : zO} {pc' : Nat}
variable {C : Nat → zC} {u : zC} {a : Nat → Int32} {b : Nat → Int64} {M : Nat → Int64} {R : Nat → Nat} {V : Nat → RV}
set_option maxRecDepth 10000 in
theorem e_Mo_reckon0 {p w : Nat} (hc : cOk a p w) (hx : vOk (V 8)) (hy : vOk (V 9)) (hR : Rok R) : ∃ R' V', Rok R' ∧ V' 10 = (sumR w p (V 8) (V 9)).1 ∧ (∀ i, i < 8 → V' i = V i) ∧ zE L xs (d + 7) m_Mo_reckon [.ref 20, .int (nI 0)] (mV C u a b V M R) (.inl none) (mV C u (nt a (sumR w p (V 8) (V 9)).2) b V' M R') := by
  obtain ⟨R', hR', hgo⟩ := e_Mo_sum (L := L) (xs := xs) (d := d) (C := C) (u := u) (a := a) (b := b) (V := V) (M := M) (R := R) hc hx hy hR
  refine ⟨R', fu V 10 (sumR w p (V 8) (V 9)).1, hR', fu_s, fun i hi => fu_n (by omega), 0, Nat.zero_le _, ?_⟩
  refine zR_to 44 rfl ?_
  refine zR_v rfl rfl rfl rfl rfl ⟨rfl, Nat.le_of_ble_eq_true rfl, Nat.le_of_ble_eq_true rfl⟩ rfl (Nat.le_refl _) hgo rfl rfl ?_
  refine zR_to 61 rfl ?_
  exact zR_e rfl rfl rfl rfl rfl rfl
set_option maxRecDepth 10000 in
theorem e_Mo_reckon1 {p w : Nat} (hc : cOk a p w) (hx : vOk (V 8)) (hy : vOk (V 9)) (hR : Rok R) : ∃ R' V', Rok R' ∧ V' 10 = (sumR w p (negR (V 8)) (V 9)).1 ∧ (∀ i, i < 8 → V' i = V i) ∧ zE L xs (d + 7) m_Mo_reckon [.ref 20, .int (nI 1)] (mV C u a b V M R) (.inl none) (mV C u (nt a (sumR w p (negR (V 8)) (V 9)).2) b V' M R') := by
  obtain ⟨R', hR', hgo⟩ := e_Mo_sum (L := L) (xs := xs) (d := d) (C := C) (u := u) (a := a) (b := b) (V := fu V 8 (negR (V 8))) (M := M) (R := R) hc (by rw [fu_s]; exact negR_ok hx) (by rw [fu_n (by decide)]; exact hy) hR
  rw [fu_s, fu_n (show (9 : Nat) ≠ 8 by decide)] at hgo
  refine ⟨R', fu (fu V 8 (negR (V 8))) 10 (sumR w p (negR (V 8)) (V 9)).1, hR', fu_s, fun i hi => by rw [fu_n (by omega), fu_n (by omega)], 0, Nat.zero_le _, ?_⟩
  have fin : ∀ x : Bool, (decide (rk (V 8) ≠ 3) && !rn (V 8)) = x → zR L xs (d + 7) m_Mo_reckon 37 [(0, .ref 20), (1, .int (nI 1))] [.int (bI x), .int (nI 8), .ref 22] (mV C u a b V M R) 0 (.inl none) (mV C u (nt a (sumR w p (negR (V 8)) (V 9)).2) b (fu (fu V 8 (negR (V 8))) 10 (sumR w p (negR (V 8)) (V 9)).1) M R') 0 := by
    intro x hx9
    refine zB_put rfl rfl (by decide) rfl ?_
    have e : mH C u a b (fun i => (V i).1) (fu (fun i => (V i).2.1) 8 x) (fun i => (V i).2.2.1) (fun i => (V i).2.2.2) M R = mV C u a b (fu V 8 (negR (V 8))) M R := by
      have h9 := mV_fu (C := C) (u := u) (a := a) (b := b) (V := V) (M := M) (R := R) (n := 8) (k9 := (V 8).1) (b9 := x) (e9 := (V 8).2.2.1) (s9 := (V 8).2.2.2)
      rw [fu_self (f := fun i => (V i).1) rfl, fu_self (f := fun i => (V i).2.2.1) rfl, fu_self (f := fun i => (V i).2.2.2) rfl] at h9
      rw [h9]
      unfold negR
      rw [hx9]
    rw [e]
    refine zR_to 44 rfl ?_
    refine zR_v rfl rfl rfl rfl rfl ⟨rfl, Nat.le_of_ble_eq_true rfl, Nat.le_of_ble_eq_true rfl⟩ rfl (Nat.le_refl _) hgo rfl rfl ?_
    refine zR_to 61 rfl ?_
    exact zR_e rfl rfl rfl rfl rfl rfl
  refine zR_to 19 (st' := [.int 3, .int (rk (V 8)), .int (nI 8), .ref 22]) rfl ?_
  refine zR_m 1 rfl ?_
  refine zR_if (fun h => ?_) (fun h => ?_)
  · refine zR_to 37 rfl (fin false ?_)
    rw [decide_eq_false (show ¬ rk (V 8) ≠ 3 from fun h9 => h9 h)]
    rfl
  · refine zR_to 29 (st' := [.int (bI (rn (V 8))), .int (nI 8), .ref 22]) rfl ?_
    have h9 : (decide (rk (V 8) ≠ 3) && !rn (V 8)) = !rn (V 8) := by
      rw [decide_eq_true (show rk (V 8) ≠ 3 from h)]
      rfl
    cases hn : rn (V 8) with
    | true => exact zR_to 37 rfl (fin false (by rw [h9, hn]; rfl))
    | false => exact zR_to 37 rfl (fin true (by rw [h9, hn]; rfl))
set_option maxRecDepth 10000 in
theorem e_Mo_reckon2 {p w : Nat} (hc : cOk a p w) (hx : vOk (V 8)) (hy : vOk (V 9)) (hR : Rok R) : ∃ R' V', Rok R' ∧ V' 10 = (mulR w p (V 8) (V 9)).1 ∧ (∀ i, i < 8 → V' i = V i) ∧ zE L xs (d + 7) m_Mo_reckon [.ref 20, .int (nI 2)] (mV C u a b V M R) (.inl none) (mV C u (nt a (mulR w p (V 8) (V 9)).2) b V' M R') := by
  obtain ⟨R', hR', hgo⟩ := e_Mo_product (L := L) (xs := xs) (d := d) (C := C) (u := u) (a := a) (b := b) (V := V) (M := M) (R := R) hc hx hy hR
  refine ⟨R', fu V 10 (mulR w p (V 8) (V 9)).1, hR', fu_s, fun i hi => fu_n (by omega), 0, Nat.zero_le _, ?_⟩
  refine zR_to 53 rfl ?_
  refine zR_v rfl rfl rfl rfl rfl ⟨rfl, Nat.le_of_ble_eq_true rfl, Nat.le_of_ble_eq_true rfl⟩ rfl (Nat.le_refl _) hgo rfl rfl ?_
  refine zR_to 61 rfl ?_
  exact zR_e rfl rfl rfl rfl rfl rfl
set_option maxRecDepth 10000 in
theorem e_Mo_reckon3 {p w : Nat} (hc : cOk a p w) (hx : vOk (V 8)) (hy : vOk (V 9)) (hR : Rok R) : ∃ R' V', Rok R' ∧ V' 10 = (divR w p (V 9) (V 8)).1 ∧ (∀ i, i < 8 → V' i = V i) ∧ zE L xs (d + 7) m_Mo_reckon [.ref 20, .int (nI 3)] (mV C u a b V M R) (.inl none) (mV C u (nt a (divR w p (V 9) (V 8)).2) b V' M R') := by
  have e8 : fu (fu (fu V 10 (V 8)) 8 (V 9)) 9 (V 8) 8 = V 9 := by rw [fu_n (by decide), fu_s]
  obtain ⟨R', hR', hgo⟩ := e_Mo_quotient (L := L) (xs := xs) (d := d) (C := C) (u := u) (a := a) (b := b) (V := fu (fu (fu V 10 (V 8)) 8 (V 9)) 9 (V 8)) (M := M) (R := R) hc (by rw [e8]; exact hy) (by rw [fu_s]; exact hx) hR
  rw [e8, fu_s] at hgo
  refine ⟨R', fu (fu (fu (fu V 10 (V 8)) 8 (V 9)) 9 (V 8)) 10 (divR w p (V 9) (V 8)).1, hR', fu_s, fun i hi => by rw [fu_n (by omega), fu_n (by omega), fu_n (by omega), fu_n (by omega)], 0, Nat.zero_le _, ?_⟩
  refine zR_to 67 (st' := [.int (nI 10), .int (nI 8), .ref 20]) rfl ?_
  refine zR_v rfl rfl rfl rfl rfl ⟨rfl, Nat.le_of_ble_eq_true rfl, Nat.le_of_ble_eq_true rfl⟩ rfl (Nat.le_refl _) (e_Mo_copy (f := 8) (t := 10) (by decide) (by decide)) rfl rfl ?_
  refine zR_to 75 (st' := [.int (nI 8), .int (nI 9), .ref 20]) rfl ?_
  refine zR_v rfl rfl rfl rfl rfl ⟨rfl, Nat.le_of_ble_eq_true rfl, Nat.le_of_ble_eq_true rfl⟩ rfl (Nat.le_refl _) (e_Mo_copy (f := 9) (t := 8) (by decide) (by decide)) rfl rfl ?_
  rw [fu_n (show (9 : Nat) ≠ 10 by decide)]
  refine zR_to 83 (st' := [.int (nI 9), .int (nI 10), .ref 20]) rfl ?_
  refine zR_v rfl rfl rfl rfl rfl ⟨rfl, Nat.le_of_ble_eq_true rfl, Nat.le_of_ble_eq_true rfl⟩ rfl (Nat.le_refl _) (e_Mo_copy (f := 10) (t := 9) (by decide) (by decide)) rfl rfl ?_
  rw [fu_n (show (10 : Nat) ≠ 8 by decide), fu_s]
  refine zR_to 87 rfl ?_
  refine zR_v rfl rfl rfl rfl rfl ⟨rfl, Nat.le_of_ble_eq_true rfl, Nat.le_of_ble_eq_true rfl⟩ rfl (Nat.le_refl _) hgo rfl rfl ?_
  exact zR_e rfl rfl rfl rfl rfl rfl
end RC
