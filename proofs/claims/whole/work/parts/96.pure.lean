/-! the start, and the whole claim -/
def f0 : Nat → Int32 := fun k => match k with | 1 => 31 | 4 => 64 | _ => 0
def a0 : Nat → Int32 := fun k => match k with | 1 => 64 | 3 => 31 | 14 => -1 | _ => 0
def v0 : RV := (0, false, 0, 0)
theorem dg_00 : dg (fun _ => 0) = fun _ => 0 := by
  funext i
  unfold dg dd
  rw [Nat.zero_div]
  rfl
theorem zH0_eq : zH0 = mV (sC f0 (fun _ => 0) false zStk (fun _ => v0) (false, 0, 0, 0) (false, 0, 0, 0) (fun _ => 0)) (uO (fun _ => 0)) a0 (fun _ => 0) (fun _ => v0) (fun _ => 0) (fun _ => 0) := by
  unfold mV mH
  rw [dg_00]
  rfl
theorem stk_0 : stk zStk (fun i => i + 2) := by
  refine ⟨fun i hi => ?_, fun i k _ _ h => ?_⟩
  · obtain rfl | rfl | rfl | rfl | rfl | rfl | rfl | rfl : i = 0 ∨ i = 1 ∨ i = 2 ∨ i = 3 ∨ i = 4 ∨ i = 5 ∨ i = 6 ∨ i = 7 := by omega
    all_goals exact ⟨rfl, by decide, by decide⟩
  · have : i + 2 = k + 2 := h
    omega
theorem Rel_0 : Rel (sC f0 (fun _ => 0) false zStk (fun _ => v0) (false, 0, 0, 0) (false, 0, 0, 0) (fun _ => 0)) a0 (fun _ => 0) (fun _ => v0) (fun _ => 0) (fun _ => 0) (1020 * 0) :=
  ⟨0, 64, 0, 0, 0, ⟨f0, fun _ => 0, false, zStk, fun _ => v0, _, _, fun _ => 0, fun i => i + 2, rfl, rfl, rfl, rfl, rfl, rfl, rfl, rfl, rfl, stk_0, fun i hi => absurd hi (by omega), Or.inl ⟨rfl, rfl⟩, fun _ _ => rfl⟩, by decide, Or.inr (Or.inr rfl), by decide, rfl, rfl, rfl, rfl, by decide, rfl, by decide, fun i hi => absurd hi (by omega), fun _ => Bp 32⟩
theorem zPure_holds : zPure := by
  intro L xs hL
  have h := loop (xs := xs) hL 513 0 0 _ (fun _ => 0) _ _ _ _ _ (by omega) (by omega) (Nat.le_refl _) Rel_0
  rw [zH0_eq]
  exact h
