/-! conditionOf of the class -/
def crR (x y : RV) : Int32 := if rk x = 0 ∧ rk y = 0 then 0 else if rn x ≠ rn y then (if rn x then -1 else 1) else if rn x then cmM y x else cmM x y
def cdR (z : Int32) : Int32 := if z = 0 then 2 else if z ≤ 0 then 1 else 0
theorem cmM_0 {x y : RV} (hk : rk x = rk y) : cmM x y = 0 ↔ zr x = zr y ∧ rs x = rs y := by
  have hx := iZ_rng (re x)
  have hy := iZ_rng (re y)
  have he : re x = re y ↔ zr x = zr y := by
    rw [re_zr x, re_zr y]
    exact iZ_eq hx hy
  have hs : x.2.2.2 = y.2.2.2 ↔ rs x = rs y := ⟨fun h => by show uN _ = uN _; rw [h], fun h => uN_inj h⟩
  unfold cmM
  rw [if_pos hk]
  by_cases h1 : re x = re y
  · rw [if_pos h1]
    by_cases h2 : x.2.2.2 = y.2.2.2
    · rw [if_pos h2]
      exact ⟨fun _ => ⟨he.mp h1, hs.mp h2⟩, fun _ => rfl⟩
    · rw [if_neg h2]
      constructor
      · intro h9
        split at h9 <;> exact absurd h9 (by decide)
      · intro h9
        exact absurd (hs.mpr h9.2) h2
  · rw [if_neg h1]
    constructor
    · intro h9
      split at h9 <;> exact absurd h9 (by decide)
    · intro h9
      exact absurd (he.mpr h9.1) h1
theorem cmM_v (x y : RV) : cmM x y = 0 ∨ cmM x y = -1 ∨ cmM x y = 1 := by
  unfold cmM
  repeat' split
  all_goals first | exact Or.inl rfl | exact Or.inr (Or.inl rfl) | exact Or.inr (Or.inr rfl)
theorem cd_fin {x y : RV} (hk : rk x = rk y) : cdR (cmM x y) = if cmC x y = 0 then 2 else if 0 < cmC x y then 0 else 1 := by
  have h0 := cmM_0 hk
  have hn := cmM_fin hk
  have c0 : cmC x y = 0 ↔ zr x = zr y ∧ rs x = rs y := by
    unfold cmC
    split
    · rename_i h
      rw [cmpZ_0]
      exact ⟨fun h9 => ⟨h, h9⟩, fun h9 => h9.2⟩
    · rename_i h
      omega
  have cn : cmC x y < 0 ↔ zr x < zr y ∨ (zr x = zr y ∧ rs x < rs y) := by
    unfold cmC
    split
    · rename_i h
      unfold cmpZ
      split
      · omega
      · split <;> omega
    · omega
  unfold cdR
  rcases cmM_v x y with h | h | h
  · rw [if_pos h, if_pos (c0.mpr (h0.mp h))]
  · rw [h]
    have h1 := cn.mpr (hn.mp (by rw [h]; decide))
    rw [if_neg (by decide), if_pos (by decide), if_neg (by omega), if_neg (by omega)]
  · rw [h]
    have h1 : ¬ cmC x y = 0 := fun h9 => by
      have := h0.mpr (c0.mp h9)
      rw [h] at this
      exact absurd this (by decide)
    have h2 : ¬ cmC x y < 0 := fun h9 => by
      have := hn.mpr (cn.mp h9)
      rw [h] at this
      exact absurd this (by decide)
    rw [if_neg (by decide), if_neg (by decide), if_neg h1, if_pos (by omega)]
theorem cmC_sym (x y : RV) : cmC y x = - cmC x y := by
  unfold cmC
  by_cases h : zr x = zr y
  · rw [if_pos h, if_pos h.symm]
    unfold cmpZ
    by_cases h1 : rs x = rs y
    · rw [if_pos h1, if_pos h1.symm]
      rfl
    · rw [if_neg h1, if_neg (fun h9 => h1 h9.symm)]
      by_cases h2 : rs y < rs x
      · rw [if_pos h2, if_neg (by omega)]
      · rw [if_neg h2, if_pos (by omega)]
        rfl
  · rw [if_neg h, if_neg (fun h9 => h h9.symm)]
    omega
theorem cmp_link {x y : RV} (hx : vOk x) (hy : vOk y) (h3 : eit x y 3 = false) : cdR (crR x y) = cmpR x y := by
  obtain ⟨n1, n2⟩ := eit_f h3
  by_cases hf : rk x = 1 ∧ rk y = 1
  · have hk : rk x = rk y := hf.1.trans hf.2.symm
    have hr : ∀ b b' : Bool, rn x = b → rn y = b' → cdR (crR x y) = cmpR x y := by
      intro b b' hb hb'
      have r1 : rkS x = 1 := by
        unfold rkS
        rw [if_neg (by rw [hf.1]; decide), if_pos hf.1]
      have r2 : rkS y = 1 := by
        unfold rkS
        rw [if_neg (by rw [hf.2]; decide), if_pos hf.2]
      unfold cmpR crR rankZ
      rw [h3, if_neg (show ¬ (false = true) by decide), if_neg (show ¬ (rk x = 0 ∧ rk y = 0) from fun h9 => by rw [hf.1] at h9; exact absurd h9.1 (by decide)), r1, r2, hb, hb', if_neg (show ¬ rk x ≠ 1 from fun h9 => h9 hf.1)]
      cases b with
      | true =>
        cases b' with
        | true =>
          rw [if_neg (by decide), if_pos rfl, if_neg (by decide), cd_fin hk.symm, cmC_sym x y]
          generalize cmC x y = z
          by_cases h0 : z = 0
          · rw [if_pos (by omega), if_pos h0]
          · rw [if_neg (by omega), if_neg h0]
            by_cases h1 : 0 < z
            · rw [if_neg (by omega), decide_eq_true h1, if_neg (by decide)]
            · rw [if_pos (by omega), decide_eq_false h1, if_pos (by decide)]
        | false => rfl
      | false =>
        cases b' with
        | true => rfl
        | false =>
          rw [if_neg (by decide), if_neg (by decide), if_neg (by decide), cd_fin hk]
          generalize cmC x y = z
          by_cases h0 : z = 0
          · rw [if_pos h0, if_pos h0]
          · rw [if_neg h0, if_neg h0]
            by_cases h1 : 0 < z
            · rw [if_pos h1, decide_eq_true h1, if_pos (by decide)]
            · rw [if_neg h1, decide_eq_false h1, if_neg (by decide)]
    exact hr _ _ rfl rfl
  · obtain ⟨k, n, e, s⟩ := x
    obtain ⟨k', n', e', s'⟩ := y
    have a1 : k = 0 ∨ k = 1 ∨ k = 2 := by
      rcases hx.1 with h | h | h | h
      · exact Or.inl h
      · exact Or.inr (Or.inl h)
      · exact Or.inr (Or.inr h)
      · exact absurd h n1
    have a2 : k' = 0 ∨ k' = 1 ∨ k' = 2 := by
      rcases hy.1 with h | h | h | h
      · exact Or.inl h
      · exact Or.inr (Or.inl h)
      · exact Or.inr (Or.inr h)
      · exact absurd h n2
    rcases a1 with rfl | rfl | rfl
    · rcases a2 with rfl | rfl | rfl
      · cases n <;> cases n' <;> rfl
      · cases n <;> cases n' <;> rfl
      · cases n <;> cases n' <;> rfl
    · rcases a2 with rfl | rfl | rfl
      · cases n <;> cases n' <;> rfl
      · exact absurd ⟨rfl, rfl⟩ hf
      · cases n <;> cases n' <;> rfl
    · obtain ⟨b1, b2⟩ := hx.2.2.1 (show (2 : Int32) ≠ 1 by decide)
      have b1' : e = 0 := b1
      have b2' : s = 0 := b2
      subst b1'
      subst b2'
      rcases a2 with rfl | rfl | rfl
      · cases n <;> cases n' <;> rfl
      · cases n <;> cases n' <;> rfl
      · obtain ⟨c1, c2⟩ := hy.2.2.1 (show (2 : Int32) ≠ 1 by decide)
        have c1' : e' = 0 := c1
        have c2' : s' = 0 := c2
        subst c1'
        subst c2'
        cases n <;> cases n' <;> rfl
section CO
variable {L : Nat} {xs : Nat → Int32} {d : Nat} {f : Nat → Int32} {g : Nat → Int64} {sg : Bool} {A : Nat → Option Nat} {W : Nat → RV} {x y v : XV} {Mc : Nat → Int64} {T : List zC}
set_option maxRecDepth 10000 in
theorem c_SR_compareReals {q j : Nat} (hq : RP q) (hj : RP j) : zE L xs (d + 2) m_SR_compareReals [.ref q, .ref j] (sH f g sg A W x y Mc T) (.inl (some (.int (crR (W q) (W j))))) (sH f g sg A W x y Mc T) := by
  unfold crR
  have m16 : ¬ (rk (W q) = 0 ∧ rk (W j) = 0) → zR L xs (d + 2) m_SR_compareReals 16 [(0, .ref q), (1, .ref j)] [] (sH f g sg A W x y Mc T) 0 (.inl (some (.int (if rk (W q) = 0 ∧ rk (W j) = 0 then 0 else if rn (W q) ≠ rn (W j) then (if rn (W q) then -1 else 1) else if rn (W q) then cmM (W j) (W q) else cmM (W q) (W j))))) (sH f g sg A W x y Mc T) 0 := by
    intro hz
    rw [if_neg hz]
    refine zR_n 1 rfl ?_
    refine zW_g hq rfl rfl rfl rfl rfl ?_
    refine zR_n 1 rfl ?_
    refine zW_g hj rfl rfl rfl rfl rfl ?_
    refine zR_n 1 rfl ?_
    refine zR_if (fun h => ?_) (fun h => ?_)
    · rw [if_neg (show ¬ rn (W q) ≠ rn (W j) from fun h9 => h9 (bI_eq.mp h))]
      refine zR_n 1 rfl ?_
      refine zW_g hq rfl rfl rfl rfl rfl ?_
      show zR _ _ _ _ _ _ [Value.int (bI (rn (W q)))] _ _ _ _ _
      cases hn : rn (W q) with
      | true =>
        refine zR_n 3 rfl ?_
        refine zR_i rfl rfl rfl rfl ⟨Nat.le_of_ble_eq_true rfl, Nat.le_of_ble_eq_true rfl, Nat.le_of_ble_eq_true rfl⟩ rfl (Nat.le_refl _) (c_SR_compareMagnitudes hj hq) rfl rfl ?_
        exact zR_to 60 rfl (zR_e rfl rfl rfl rfl rfl rfl)
      | false =>
        refine zR_n 3 rfl ?_
        refine zR_i rfl rfl rfl rfl ⟨Nat.le_of_ble_eq_true rfl, Nat.le_of_ble_eq_true rfl, Nat.le_of_ble_eq_true rfl⟩ rfl (Nat.le_refl _) (c_SR_compareMagnitudes hq hj) rfl rfl ?_
        exact zR_to 60 rfl (zR_e rfl rfl rfl rfl rfl rfl)
    · rw [if_pos (show rn (W q) ≠ rn (W j) from fun h9 => h (bI_eq.mpr h9))]
      refine zR_n 1 rfl ?_
      refine zW_g hq rfl rfl rfl rfl rfl ?_
      show zR _ _ _ _ _ _ [Value.int (bI (rn (W q)))] _ _ _ _ _
      cases hn : rn (W q) with
      | true => exact zR_to 39 rfl (zR_e rfl rfl rfl rfl rfl rfl)
      | false => exact zR_to 39 rfl (zR_e rfl rfl rfl rfl rfl rfl)
  refine ⟨0, Nat.zero_le _, ?_⟩
  refine zR_n 1 rfl ?_
  refine zW_g hq rfl rfl rfl rfl rfl ?_
  refine zR_n 1 rfl ?_
  refine zR_if (fun h => m16 (fun h9 => h h9.1)) (fun h => ?_)
  refine zR_n 1 rfl ?_
  refine zW_g hj rfl rfl rfl rfl rfl ?_
  refine zR_n 1 rfl ?_
  refine zR_if (fun h1 => m16 (fun h9 => h1 h9.2)) (fun h1 => ?_)
  rw [if_pos (show rk (W q) = 0 ∧ rk (W j) = 0 from ⟨Decidable.of_not_not h, Decidable.of_not_not h1⟩)]
  exact zR_to 15 rfl (zR_e rfl rfl rfl rfl rfl rfl)
set_option maxRecDepth 10000 in
theorem c_SR_conditionOf {q j : Nat} (hq : RP q) (hj : RP j) (hx : vOk (W q)) (hy : vOk (W j)) : zE L xs (d + 3) m_SR_conditionOf [.ref q, .ref j] (sH f g sg A W x y Mc T) (.inl (some (.int (cmpR (W q) (W j))))) (sH f g sg A W x y Mc T) := by
  have q3 : ∀ {o : zO} {h9 : zH}, (eit (W q) (W j) 3 = true → zR L xs (d + 3) m_SR_conditionOf 16 [(0, .ref q), (1, .ref j)] [] (sH f g sg A W x y Mc T) 0 o h9 0) → (eit (W q) (W j) 3 = false → zR L xs (d + 3) m_SR_conditionOf 18 [(0, .ref q), (1, .ref j)] [] (sH f g sg A W x y Mc T) 0 o h9 0) → zE L xs (d + 3) m_SR_conditionOf [.ref q, .ref j] (sH f g sg A W x y Mc T) o h9 := fun {o h9} hy hn => by
    refine ⟨0, Nat.zero_le _, ?_⟩
    refine zR_n 1 rfl ?_
    refine zW_g hq rfl rfl rfl rfl rfl ?_
    refine zR_n 2 rfl ?_
    refine zR_if (fun h => hy (by unfold eit; rw [decide_eq_true (show rk (W q) = 3 from h)]; rfl)) (fun h => ?_)
    refine zR_n 1 rfl ?_
    refine zW_g hj rfl rfl rfl rfl rfl ?_
    refine zR_n 2 rfl ?_
    refine zR_if (fun h2 => hn (by unfold eit; rw [decide_eq_false (show ¬ rk (W q) = 3 from h), decide_eq_false (show ¬ rk (W j) = 3 from h2)]; rfl)) (fun h2 => hy (by unfold eit; rw [decide_eq_true (show rk (W j) = 3 from Decidable.of_not_not h2)]; simp))
  refine q3 (fun h3 => ?_) (fun h3 => ?_)
  · unfold cmpR
    rw [h3, if_pos rfl]
    exact zR_to 17 rfl (zR_e rfl rfl rfl rfl rfl rfl)
  · rw [← cmp_link hx hy h3]
    refine zR_n 2 rfl ?_
    refine zR_i rfl rfl rfl rfl ⟨Nat.le_of_ble_eq_true rfl, Nat.le_of_ble_eq_true rfl, Nat.le_of_ble_eq_true rfl⟩ rfl (Nat.le_refl _) (c_SR_compareReals hq hj) rfl rfl ?_
    unfold cdR
    refine zR_n 2 rfl ?_
    refine zR_n 1 rfl ?_
    refine zR_if (fun h => ?_) (fun h => ?_)
    · rw [if_neg (show ¬ crR (W q) (W j) = 0 from h)]
      refine zR_n 1 rfl ?_
      refine zR_n 1 rfl ?_
      refine zR_if (fun h2 => ?_) (fun h2 => ?_)
      · rw [if_pos (show crR (W q) (W j) ≤ 0 from h2)]
        exact zR_to 39 rfl (zR_e rfl rfl rfl rfl rfl rfl)
      · rw [if_neg (show ¬ crR (W q) (W j) ≤ 0 from h2)]
        exact zR_to 39 rfl (zR_e rfl rfl rfl rfl rfl rfl)
    · rw [if_pos (show crR (W q) (W j) = 0 from Decidable.of_not_not h)]
      exact zR_to 29 rfl (zR_e rfl rfl rfl rfl rfl rfl)
end CO
