section MV
variable {L : Nat} {xs : Nat → Int32} {d : Nat} {mi : ZM} {pc : Nat} {lv : zL} {st st' : List Value} {h h' : zH} {k k' : Nat} {o : zO} {pc' : Nat}
variable {C : Nat → zC} {u : zC} {a : Nat → Int32} {b : Nat → Int64} {M : Nat → Int64} {R : Nat → Nat} {V : Nat → RV}
/-- the ints after a comparison's exceptions -/
def cm1 (a : Nat → Int32) (x y : RV) : Nat → Int32 := if eit x y 3 then nt a 1 else a
set_option maxRecDepth 10000 in
theorem e_Mo_move13 {z : Int32} (hx : vOk (V 8)) (hy : vOk (V 9)) (hR : Rok R) : zEr L xs (d + 3) m_Mo_move [.ref 20, .int (nI 13), .int z] (mV C u a b V M R) (.inl (some (.int (if thB (cm1 a (V 8) (V 9)) then 0 else cm1 a (V 8) (V 9) 5)))) C u (if thB (cm1 a (V 8) (V 9)) then thA (cm1 a (V 8) (V 9)) else fu (thA (cm1 a (V 8) (V 9))) 6 (cmpR (V 8) (V 9))) b V M := by
  obtain ⟨R', hR', hcm⟩ := e_Mo_compared (L := L) (xs := xs) (d := d) (C := C) (u := u) (a := a) (b := b) (V := V) (M := M) (R := R) hx hy hR
  rw [show (if eit (V 8) (V 9) 3 then nt a 1 else a) = cm1 a (V 8) (V 9) from rfl] at hcm
  generalize cmpR (V 8) (V 9) = r at *
  generalize cm1 a (V 8) (V 9) = a1 at *
  refine ⟨R', hR', 0, Nat.zero_le _, ?_⟩
  refine zR_to 61 rfl ?_
  refine zR_v rfl rfl rfl rfl rfl ⟨rfl, Nat.le_of_ble_eq_true rfl, Nat.le_of_ble_eq_true rfl⟩ rfl (Nat.le_refl _) hcm rfl rfl ?_
  refine zR_to 66 rfl ?_
  refine zR_v rfl rfl rfl rfl rfl ⟨rfl, Nat.le_of_ble_eq_true rfl, Nat.le_of_ble_eq_true rfl⟩ rfl (Nat.le_refl _) e_Mo_throwing rfl rfl ?_
  cases ht : thB a1 with
  | true =>
    refine zR_to 73 rfl ?_
    exact zR_e rfl rfl rfl rfl rfl rfl
  | false =>
    refine zR_to 101 (st' := [.int (a1 5)]) (h1 := mV C u (fu (thA a1) 6 r) b V M R') rfl ?_
    exact zR_e rfl rfl rfl rfl rfl rfl
end MV
