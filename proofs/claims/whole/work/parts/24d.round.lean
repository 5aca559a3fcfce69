section RO
variable {L : Nat} {xs : Nat → Int32} {d : Nat} {mi : ZM} {pc : Nat} {lv : zL} {st st' : List Value} {h' : zH} {k k' : Nat} {o : zO} {pc' : Nat}
variable {C : Nat → zC} {u : zC} {a : Nat → Int32} {b : Nat → Int64} {M : Nat → Int64} {R : Nat → Nat} {V : Nat → RV}
theorem nt_nt (x y : Int32) : nt (nt a x) y = nt a (x ||| y) := by
  unfold nt
  rw [fu_fu, fu_s, Int32.or_assoc]
theorem nt_0 : nt a 0 = a := by
  unfold nt
  rw [Int32.or_zero]
  exact fu_self rfl
theorem nt_2 {x : Int32} : nt a x 2 = a 2 := rfl
/-- the greatest significand -/
def sgM (p : Nat) : Int64 := lN (2 ^ 64 - 2 ^ (64 - p))
def pOk (p : Nat) : Prop := p = 24 ∨ p = 53 ∨ p = 64
set_option maxRecDepth 10000 in
theorem e_Mo_tooLarge {p w : Nat} {g : Int32} {mb : Bool} (hp : pOk p) (hw : a 2 = nI w) (hw4 : w < 4) : zE L xs (d + 1) m_Mo_tooLarge [.ref 20, .int (bI mb), .int (nI p), .int g] (mV C u a b V M R) (.inl none) (mV C u (nt a 20) b (fu V 10 (if rBelow w mb then (1, mb, g, sgM p) else (2, mb, 0, 0))) M R) := by
  have ha : a = fu a 2 (nI w) := (fu_self hw).symm
  have hnt : nt a 20 = nt (nt a 4) 16 := (nt_nt 4 16).symm
  rw [hnt, ha]
  clear ha hw hnt
  have fin0 : ∀ (mb : Bool) (w : Nat), zR L xs (d + 1) m_Mo_tooLarge 58 [(4, .int (bI false)), (0, .ref 20), (1, .int (bI mb)), (2, .int (nI p)), (3, .int g)] [] (mV C u (nt (nt (fu a 2 (nI w)) 4) 16) b (fu V 10 (2, mb, 0, 0)) M R) 0 (.inl none) (mV C u (nt (nt (fu a 2 (nI w)) 4) 16) b (fu V 10 (2, mb, 0, 0)) M R) 0 := fun mb w => by
    refine zR_m 2 (pc' := 63) rfl ?_
    exact zR_e rfl rfl rfl rfl rfl rfl
  have fin1 : ∀ (mb : Bool) (w : Nat), zR L xs (d + 1) m_Mo_tooLarge 58 [(4, .int (bI true)), (0, .ref 20), (1, .int (bI mb)), (2, .int (nI p)), (3, .int g)] [] (mV C u (nt (nt (fu a 2 (nI w)) 4) 16) b (fu V 10 (2, mb, 0, 0)) M R) 0 (.inl none) (mV C u (nt (nt (fu a 2 (nI w)) 4) 16) b (fu V 10 (1, mb, g, sgM p)) M R) 0 := fun mb w => by
    refine zR_m 6 (pc' := 71) rfl ?_
    refine zK_put (n := 10) rfl rfl (by decide) rfl ?_
    refine zR_m 4 (pc' := 79) rfl ?_
    refine zX_put (n := 10) rfl rfl (by decide) rfl ?_
    refine zR_m 8 (pc' := 94) (st' := [.long ((-1 : Int64) <<< (((64 : Int32) - nI p).toInt64 &&& 63)), .int (nI 10), .ref 24]) rfl ?_
    refine zS_put (n := 10) rfl rfl (by decide) rfl ?_
    refine zR_e rfl rfl rfl rfl rfl ?_
    have hs : (-1 : Int64) <<< (((64 : Int32) - nI p).toInt64 &&& 63) = sgM p := by
      rcases hp with rfl | rfl | rfl <;> decide +kernel
    rw [hs]
    have h9 := mV_fu (C := C) (u := u) (a := nt (nt (fu a 2 (nI w)) 4) 16) (b := b) (V := fu V 10 (2, mb, 0, 0)) (M := M) (R := R) (n := 10) (k9 := 1) (b9 := mb) (e9 := g) (s9 := sgM p)
    rw [fu_fu] at h9
    rw [← h9]
    congr 1
    exact (fu_self rfl).symm
  refine ⟨0, Nat.zero_le _, ?_⟩
  match w, hw4 with
  | 0, _ =>
    cases mb with
    | false =>
      refine zR_to 55 (h1 := mV C u (nt (nt (fu a 2 (nI 0)) 4) 16) b V M R) rfl ?_
      refine zR_v rfl rfl rfl rfl rfl ⟨rfl, Nat.le_of_ble_eq_true rfl, Nat.le_of_ble_eq_true rfl⟩ rfl (Nat.le_refl _) (e_Mo_special (mb := false)) rfl rfl ?_
      exact zR_w (fin0 false 0) rfl rfl ⟨rfl, rfl, rfl, rfl, rfl, trivial⟩
    | true =>
      refine zR_to 55 (h1 := mV C u (nt (nt (fu a 2 (nI 0)) 4) 16) b V M R) rfl ?_
      refine zR_v rfl rfl rfl rfl rfl ⟨rfl, Nat.le_of_ble_eq_true rfl, Nat.le_of_ble_eq_true rfl⟩ rfl (Nat.le_refl _) (e_Mo_special (mb := true)) rfl rfl ?_
      exact zR_w (fin0 true 0) rfl rfl ⟨rfl, rfl, rfl, rfl, rfl, trivial⟩
  | 1, _ =>
    cases mb with
    | false =>
      refine zR_to 55 (h1 := mV C u (nt (nt (fu a 2 (nI 1)) 4) 16) b V M R) rfl ?_
      refine zR_v rfl rfl rfl rfl rfl ⟨rfl, Nat.le_of_ble_eq_true rfl, Nat.le_of_ble_eq_true rfl⟩ rfl (Nat.le_refl _) (e_Mo_special (mb := false)) rfl rfl ?_
      exact zR_w (fin1 false 1) rfl rfl ⟨rfl, rfl, rfl, rfl, rfl, trivial⟩
    | true =>
      refine zR_to 55 (h1 := mV C u (nt (nt (fu a 2 (nI 1)) 4) 16) b V M R) rfl ?_
      refine zR_v rfl rfl rfl rfl rfl ⟨rfl, Nat.le_of_ble_eq_true rfl, Nat.le_of_ble_eq_true rfl⟩ rfl (Nat.le_refl _) (e_Mo_special (mb := true)) rfl rfl ?_
      exact zR_w (fin0 true 1) rfl rfl ⟨rfl, rfl, rfl, rfl, rfl, trivial⟩
  | 2, _ =>
    cases mb with
    | false =>
      refine zR_to 55 (h1 := mV C u (nt (nt (fu a 2 (nI 2)) 4) 16) b V M R) rfl ?_
      refine zR_v rfl rfl rfl rfl rfl ⟨rfl, Nat.le_of_ble_eq_true rfl, Nat.le_of_ble_eq_true rfl⟩ rfl (Nat.le_refl _) (e_Mo_special (mb := false)) rfl rfl ?_
      exact zR_w (fin0 false 2) rfl rfl ⟨rfl, rfl, rfl, rfl, rfl, trivial⟩
    | true =>
      refine zR_to 55 (h1 := mV C u (nt (nt (fu a 2 (nI 2)) 4) 16) b V M R) rfl ?_
      refine zR_v rfl rfl rfl rfl rfl ⟨rfl, Nat.le_of_ble_eq_true rfl, Nat.le_of_ble_eq_true rfl⟩ rfl (Nat.le_refl _) (e_Mo_special (mb := true)) rfl rfl ?_
      exact zR_w (fin1 true 2) rfl rfl ⟨rfl, rfl, rfl, rfl, rfl, trivial⟩
  | 3, _ =>
    cases mb with
    | false =>
      refine zR_to 55 (h1 := mV C u (nt (nt (fu a 2 (nI 3)) 4) 16) b V M R) rfl ?_
      refine zR_v rfl rfl rfl rfl rfl ⟨rfl, Nat.le_of_ble_eq_true rfl, Nat.le_of_ble_eq_true rfl⟩ rfl (Nat.le_refl _) (e_Mo_special (mb := false)) rfl rfl ?_
      exact zR_w (fin1 false 3) rfl rfl ⟨rfl, rfl, rfl, rfl, rfl, trivial⟩
    | true =>
      refine zR_to 55 (h1 := mV C u (nt (nt (fu a 2 (nI 3)) 4) 16) b V M R) rfl ?_
      refine zR_v rfl rfl rfl rfl rfl ⟨rfl, Nat.le_of_ble_eq_true rfl, Nat.le_of_ble_eq_true rfl⟩ rfl (Nat.le_refl _) (e_Mo_special (mb := true)) rfl rfl ?_
      exact zR_w (fin1 true 3) rfl rfl ⟨rfl, rfl, rfl, rfl, rfl, trivial⟩
  | (m + 4), h => omega
end RO
