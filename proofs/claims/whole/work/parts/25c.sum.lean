/-! sum and product of the reference, as functions of the two reals -/
def zr (v : RV) : Int := (re v).toInt
theorem re_zr (v : RV) : re v = iZ (zr v) := iZ_of _
/-- a real as the stack holds it -/
def vOk (v : RV) : Prop := (rk v = 0 ∨ rk v = 1 ∨ rk v = 2 ∨ rk v = 3) ∧ (rk v = 1 → 2 ^ 63 ≤ rs v ∧ -17000 ≤ zr v ∧ zr v ≤ 17000) ∧ (rk v ≠ 1 → re v = 0 ∧ v.2.2.2 = 0) ∧ (rk v = 3 → rn v = false)
def oneR (w p : Nat) (v : RV) : RV × Int32 := (rVal w (rn v) (rs v) p 16383 (zr v - 63), rNt w (rn v) (rs v) p 16383 (zr v - 63))
def sumR (w p : Nat) (x y : RV) : RV × Int32 := if eit x y 3 then (vNan, 0)
  else if eit x y 2 then (if rk x = rk y ∧ rn x ≠ rn y then (vNan, 1) else ((2, (if rk x = 2 then rn x else rn y), 0, 0), 0))
  else if rk x = 0 ∧ rk y = 0 then ((0, (if rn x = rn y then rn x else decide (w = 1)), 0, 0), 0)
  else if eit x y 0 then oneR w p (if rk x = 0 then y else x)
  else if zr x < zr y then fsR w p y x (zr y) (zr x) else fsR w p x y (zr x) (zr y)
def mulR (w p : Nat) (x y : RV) : RV × Int32 := if eit x y 3 then (vNan, 0)
  else if eit x y 0 && eit x y 2 then (vNan, 1)
  else if eit x y 2 then ((2, decide (rn x ≠ rn y), 0, 0), 0)
  else if eit x y 0 then ((0, decide (rn x ≠ rn y), 0, 0), 0)
  else (rVal w (decide (rn x ≠ rn y)) (rs x * rs y) p 16383 (zr x + zr y - 126), rNt w (decide (rn x ≠ rn y)) (rs x * rs y) p 16383 (zr x + zr y - 126))
section SU
variable {L : Nat} {xs : Nat → Int32} {d : Nat} {mi : ZM} {pc : Nat} {lv : zL} {st st' : List Value} {h' : zH} {k k' : Nat} {o : zO} {pc' : Nat}
variable {C : Nat → zC} {u : zC} {a : Nat → Int32} {b : Nat → Int64} {M : Nat → Int64} {R : Nat → Nat} {V : Nat → RV}
theorem eit_f {x y : RV} {kd : Int32} (h : eit x y kd = false) : rk x ≠ kd ∧ rk y ≠ kd := by
  unfold eit at h
  rw [Bool.or_eq_false_iff] at h
  exact ⟨of_decide_eq_false h.1, of_decide_eq_false h.2⟩
theorem eit_fin {x y : RV} (hx : vOk x) (hy : vOk y) (h3 : eit x y 3 = false) (h2 : eit x y 2 = false) (h0 : eit x y 0 = false) : rk x = 1 ∧ rk y = 1 := by
  obtain ⟨a1, a2⟩ := eit_f h3
  obtain ⟨b1, b2⟩ := eit_f h2
  obtain ⟨c1, c2⟩ := eit_f h0
  constructor
  · rcases hx.1 with h | h | h | h
    · exact absurd h c1
    · exact h
    · exact absurd h b1
    · exact absurd h a1
  · rcases hy.1 with h | h | h | h
    · exact absurd h c2
    · exact h
    · exact absurd h b2
    · exact absurd h a2
set_option maxRecDepth 10000 in
/-- one real, rounded: the common end of sum and scaled -/
theorem t_Mo_sum {kk p w : Nat} (hk : kk < 11) (hc : cOk a p w) (hf : rk (V kk) = 1) (hv : vOk (V kk)) (hR : Rok R) : ∃ R', Rok R' ∧ zR L xs (d + 5) m_Mo_sum 206 [(1, .int (nI kk)), (0, .ref 20)] [] (mV C u a b V M R) 0 (.inl none) (mV C u (nt a (oneR w p (V kk)).2) b (fu V 10 (oneR w p (V kk)).1) M R') 0 := by
  obtain ⟨h1, h2, h3⟩ := hv.2.1 hf
  have hX : rs (V kk) ≠ 0 := by omega
  have h64 := nb64 h1 (uN_lt2 _)
  refine ⟨_, rok_round (w := w) (mb := rn (V kk)) hX hc.2.2.1 (hR.fu (uN_rok _) : Rok (fu R 0 (rs (V kk)))), ?_⟩
  refine zR_to 213 rfl ?_
  refine zS_get rfl rfl hk rfl ?_
  refine zR_v rfl rfl rfl rfl rfl ⟨rfl, Nat.le_of_ble_eq_true rfl, Nat.le_of_ble_eq_true rfl⟩ rfl (Nat.le_refl _) (e_Mo_putU (r := 0) (by decide) hR) rfl rfl ?_
  refine zR_to 223 rfl ?_
  refine zB_get rfl rfl hk rfl ?_
  refine zR_to 229 rfl ?_
  refine zX_get rfl rfl hk rfl ?_
  refine zR_to 233 (st' := [.int (re (V kk) - iZ 63), .int (bI (rn (V kk))), .ref 20]) rfl ?_
  rw [re_zr, iZ_sub]
  refine zR_v rfl rfl rfl rfl rfl ⟨rfl, Nat.le_of_ble_eq_true rfl, Nat.le_of_ble_eq_true rfl⟩ rfl (Nat.le_refl _) (e_Mo_result (X := rs (V kk)) hc (by omega) hX (by omega) (hR.fu (uN_rok _)) fu_s) rfl rfl ?_
  refine zR_to 291 rfl ?_
  exact zR_e rfl rfl rfl rfl rfl rfl
set_option maxRecDepth 10000 in
set_option maxHeartbeats 4000000 in
theorem e_Mo_sum {p w : Nat} (hc : cOk a p w) (hx : vOk (V 8)) (hy : vOk (V 9)) (hR : Rok R) : zEr L xs (d + 6) m_Mo_sum [.ref 20] (mV C u a b V M R) (.inl none) C u (nt a (sumR w p (V 8) (V 9)).2) b (fu V 10 (sumR w p (V 8) (V 9)).1) M := by
  -- the run's head
  have go : ∀ {h9 : zH}, zR L xs (d + 6) m_Mo_sum 5 [(0, .ref 20)] [.int (bI (eit (V 8) (V 9) 3))] (mV C u a b V M R) 0 (.inl none) h9 0 → zE L xs (d + 6) m_Mo_sum [.ref 20] (mV C u a b V M R) (.inl none) h9 := fun hr => by
    refine ⟨0, Nat.zero_le _, ?_⟩
    refine zR_to 2 rfl ?_
    exact zR_v rfl rfl rfl rfl rfl ⟨rfl, Nat.le_of_ble_eq_true rfl, Nat.le_of_ble_eq_true rfl⟩ rfl (Nat.le_refl _) e_Mo_either rfl rfl hr
  unfold sumR
  cases h3 : eit (V 8) (V 9) 3 with
  | true =>
    rw [if_pos rfl, nt_0]
    refine ⟨R, hR, go ?_⟩
    rw [h3]
    refine zR_to 11 (st' := [.int (bI false), .int 3, .ref 20]) rfl ?_
    refine zR_v rfl rfl rfl rfl rfl ⟨rfl, Nat.le_of_ble_eq_true rfl, Nat.le_of_ble_eq_true rfl⟩ rfl (Nat.le_refl _) e_Mo_special rfl rfl ?_
    refine zR_to 291 rfl ?_
    exact zR_e rfl rfl rfl rfl rfl rfl
  | false =>
    rw [if_neg (by decide)]
    -- the second question
    have go2 : ∀ {h9 : zH}, zR L xs (d + 6) m_Mo_sum 22 [(0, .ref 20)] [.int (bI (eit (V 8) (V 9) 2))] (mV C u a b V M R) 0 (.inl none) h9 0 → zE L xs (d + 6) m_Mo_sum [.ref 20] (mV C u a b V M R) (.inl none) h9 := fun hr => by
      refine go ?_
      rw [h3]
      refine zR_to 19 rfl ?_
      exact zR_v rfl rfl rfl rfl rfl ⟨rfl, Nat.le_of_ble_eq_true rfl, Nat.le_of_ble_eq_true rfl⟩ rfl (Nat.le_refl _) e_Mo_either rfl rfl hr
    clear go
    cases h2 : eit (V 8) (V 9) 2 with
    | true =>
      rw [if_pos rfl]
      -- infinite, and no fault
      have inf : ¬ (rk (V 8) = rk (V 9) ∧ rn (V 8) ≠ rn (V 9)) → ∀ z : Int32, zR L xs (d + 6) m_Mo_sum 76 [(1, .int z), (0, .ref 20)] [] (mV C u a b V M R) 0 (.inl none) (mV C u a b (fu V 10 (2, (if rk (V 8) = 2 then rn (V 8) else rn (V 9)), 0, 0)) M R) 0 := by
        intro _ z
        refine zR_to 86 (st' := [.int 2, .int (rk (V 8)), .int 2, .ref 20]) rfl ?_
        refine zR_m 1 rfl ?_
        refine zR_if (fun h => ?_) (fun h => ?_)
        · rw [if_neg (show ¬ rk (V 8) = 2 from h)]
          refine zR_to 106 (st' := [.int (bI (rn (V 9))), .int 2, .ref 20]) rfl ?_
          refine zR_v rfl rfl rfl rfl rfl ⟨rfl, Nat.le_of_ble_eq_true rfl, Nat.le_of_ble_eq_true rfl⟩ rfl (Nat.le_refl _) e_Mo_special rfl rfl ?_
          refine zR_to 291 rfl ?_
          exact zR_e rfl rfl rfl rfl rfl rfl
        · rw [if_pos (show rk (V 8) = 2 from Decidable.of_not_not h)]
          refine zR_to 106 (st' := [.int (bI (rn (V 8))), .int 2, .ref 20]) rfl ?_
          refine zR_v rfl rfl rfl rfl rfl ⟨rfl, Nat.le_of_ble_eq_true rfl, Nat.le_of_ble_eq_true rfl⟩ rfl (Nat.le_refl _) e_Mo_special rfl rfl ?_
          refine zR_to 291 rfl ?_
          exact zR_e rfl rfl rfl rfl rfl rfl
      by_cases hb : rk (V 8) = rk (V 9) ∧ rn (V 8) ≠ rn (V 9)
      · rw [if_pos hb]
        refine ⟨R, hR, go2 ?_⟩
        rw [h2]
        refine zR_to 39 (st' := [.int (rk (V 9)), .int (rk (V 8))]) rfl ?_
        refine zR_m 1 rfl ?_
        refine zR_if (fun h => absurd hb.1 h) (fun _ => ?_)
        refine zR_to 66 (st' := [.int (bI (rn (V 9))), .int (bI (rn (V 8)))]) rfl ?_
        refine zR_m 1 rfl ?_
        refine zR_if (fun h => absurd (bI_eq.mp h) hb.2) (fun _ => ?_)
        refine zR_to 70 rfl ?_
        refine zR_v rfl rfl rfl rfl rfl ⟨rfl, Nat.le_of_ble_eq_true rfl, Nat.le_of_ble_eq_true rfl⟩ rfl (Nat.le_refl _) e_Mo_invalid rfl rfl ?_
        refine zR_to 291 rfl ?_
        exact zR_e rfl rfl rfl rfl rfl rfl
      · rw [if_neg hb, nt_0]
        refine ⟨R, hR, go2 ?_⟩
        rw [h2]
        refine zR_to 39 (st' := [.int (rk (V 9)), .int (rk (V 8))]) rfl ?_
        refine zR_m 1 rfl ?_
        refine zR_if (fun h => ?_) (fun h => ?_)
        · refine zR_to 76 rfl ?_
          exact zR_w (inf hb 0) rfl rfl ⟨rfl, rfl, trivial⟩
        · refine zR_to 66 (st' := [.int (bI (rn (V 9))), .int (bI (rn (V 8)))]) rfl ?_
          refine zR_m 1 rfl ?_
          refine zR_if (fun h4 => ?_) (fun h4 => absurd ⟨Decidable.of_not_not h, fun h5 => h4 (bI_eq.mpr h5)⟩ hb)
          refine zR_to 76 rfl ?_
          exact zR_w (inf hb 1) rfl rfl ⟨rfl, rfl, trivial⟩
    | false =>
      rw [if_neg (by decide)]
      have go3 : ∀ {h9 : zH}, zR L xs (d + 6) m_Mo_sum 119 [(0, .ref 20)] [.int (rk (V 8))] (mV C u a b V M R) 0 (.inl none) h9 0 → zE L xs (d + 6) m_Mo_sum [.ref 20] (mV C u a b V M R) (.inl none) h9 := fun hr => by
        refine go2 ?_
        rw [h2]
        exact zR_to 119 rfl hr
      clear go2
      by_cases hz : rk (V 8) = 0 ∧ rk (V 9) = 0
      · rw [if_pos hz, nt_0]
        refine ⟨R, hR, go3 ?_⟩
        rw [hz.1]
        refine zR_to 129 (st' := [.int (rk (V 9))]) rfl ?_
        rw [hz.2]
        have fin : ∀ x : Bool, zR L xs (d + 6) m_Mo_sum 174 [(0, .ref 20)] [.int (bI x), .int 0, .ref 20] (mV C u a b V M R) 0 (.inl none) (mV C u a b (fu V 10 (0, x, 0, 0)) M R) 0 := by
          intro x
          refine zR_v rfl rfl rfl rfl rfl ⟨rfl, Nat.le_of_ble_eq_true rfl, Nat.le_of_ble_eq_true rfl⟩ rfl (Nat.le_refl _) e_Mo_special rfl rfl ?_
          refine zR_to 291 rfl ?_
          exact zR_e rfl rfl rfl rfl rfl rfl
        refine zR_to 148 (st' := [.int (bI (rn (V 9))), .int (bI (rn (V 8))), .int 0, .ref 20]) rfl ?_
        refine zR_m 1 rfl ?_
        refine zR_if (fun h => ?_) (fun h => ?_)
        · rw [if_neg (fun h5 => h (bI_eq.mpr h5))]
          refine zR_to 166 (st' := [.int 1, .int (a 2), .int 0, .ref 20]) rfl ?_
          rw [hc.2.1]
          refine zR_m 1 rfl ?_
          have hw := hc.2.2.2
          refine zR_if (fun h6 => ?_) (fun h6 => ?_)
          · rw [decide_eq_false (fun h9 => h6 (by rw [h9]; rfl))]
            exact zR_to 174 rfl (fin false)
          · have h1 : w = 1 := by
              rcases Decidable.em (w = 1) with h9 | h9
              · exact h9
              · exact absurd (fun h8 => h9 ((nI_eq (by omega) (by omega)).mp h8)) h6
            rw [decide_eq_true h1]
            exact zR_to 174 rfl (fin true)
        · rw [if_pos (bI_eq.mp (Decidable.of_not_not h))]
          exact zR_to 174 rfl (fin _)
      · rw [if_neg hz]
        have go4 : ∀ {h9 : zH}, zR L xs (d + 6) m_Mo_sum 185 [(0, .ref 20)] [.int (bI (eit (V 8) (V 9) 0))] (mV C u a b V M R) 0 (.inl none) h9 0 → zE L xs (d + 6) m_Mo_sum [.ref 20] (mV C u a b V M R) (.inl none) h9 := fun {h9} hr => by
          refine go3 ?_
          have hr' : zR L xs (d + 6) m_Mo_sum 180 [(0, .ref 20)] [] (mV C u a b V M R) 0 (.inl none) h9 0 := by
            refine zR_to 182 rfl ?_
            exact zR_v rfl rfl rfl rfl rfl ⟨rfl, Nat.le_of_ble_eq_true rfl, Nat.le_of_ble_eq_true rfl⟩ rfl (Nat.le_refl _) e_Mo_either rfl rfl hr
          refine zR_m 1 rfl ?_
          refine zR_if (fun h => ?_) (fun h => ?_)
          · exact hr'
          · refine zR_to 129 (st' := [.int (rk (V 9))]) rfl ?_
            refine zR_m 1 rfl ?_
            refine zR_if (fun h5 => hr') (fun h5 => absurd ⟨Decidable.of_not_not h, Decidable.of_not_not h5⟩ hz)
        clear go3
        cases h0 : eit (V 8) (V 9) 0 with
        | true =>
          rw [if_pos rfl]
          by_cases hk : rk (V 8) = 0
          · rw [if_pos hk]
            have hf : rk (V 9) = 1 := by
              obtain ⟨-, a2⟩ := eit_f h3
              obtain ⟨-, b2⟩ := eit_f h2
              rcases hy.1 with h | h | h | h
              · exact absurd ⟨hk, h⟩ hz
              · exact h
              · exact absurd h b2
              · exact absurd h a2
            obtain ⟨R', hR', hgo⟩ := t_Mo_sum (L := L) (xs := xs) (d := d + 1) (C := C) (u := u) (a := a) (b := b) (V := V) (M := M) (R := R) (kk := 9) (by decide) hc hf hy hR
            refine ⟨R', hR', go4 ?_⟩
            rw [h0]
            refine zR_to 195 (st' := [.int (rk (V 8))]) rfl ?_
            rw [hk]
            refine zR_to 206 rfl ?_
            exact zR_w hgo rfl rfl ⟨rfl, rfl, trivial⟩
          · rw [if_neg hk]
            have hf : rk (V 8) = 1 := by
              obtain ⟨a2, -⟩ := eit_f h3
              obtain ⟨b2, -⟩ := eit_f h2
              rcases hx.1 with h | h | h | h
              · exact absurd h hk
              · exact h
              · exact absurd h b2
              · exact absurd h a2
            obtain ⟨R', hR', hgo⟩ := t_Mo_sum (L := L) (xs := xs) (d := d + 1) (C := C) (u := u) (a := a) (b := b) (V := V) (M := M) (R := R) (kk := 8) (by decide) hc hf hx hR
            refine ⟨R', hR', go4 ?_⟩
            rw [h0]
            refine zR_to 195 (st' := [.int (rk (V 8))]) rfl ?_
            rw [hf]
            refine zR_to 206 rfl ?_
            exact zR_w hgo rfl rfl ⟨rfl, rfl, trivial⟩
        | false =>
          rw [if_neg (by decide)]
          obtain ⟨f8, f9⟩ := eit_fin hx hy h3 h2 h0
          obtain ⟨x1, x2, x3⟩ := hx.2.1 f8
          obtain ⟨y1, y2, y3⟩ := hy.2.1 f9
          by_cases hl : zr (V 8) < zr (V 9)
          · rw [if_pos hl]
            obtain ⟨R', hR', hgo⟩ := e_Mo_finiteSum (L := L) (xs := xs) (d := d) (C := C) (u := u) (a := a) (b := b) (V := V) (M := M) (R := R) (i := 9) (j := 8) (by decide) (by decide) hc (re_zr _) (re_zr _) y1 (by omega) (by omega) hR
            refine ⟨R', hR', go4 ?_⟩
            rw [h0]
            refine zR_to 254 (st' := [.int (re (V 9)), .int (re (V 8)), .ref 20]) rfl ?_
            refine zR_m 1 rfl ?_
            have hlt : re (V 8) < re (V 9) := by rw [re_zr (V 8), re_zr (V 9), iZ_lt (by omega) (by omega)]; exact hl
            refine zR_if (fun h => absurd hlt (Int32.not_lt.mpr h)) (fun _ => ?_)
            refine zR_to 278 (st' := [.int (re (V 9)), .int (re (V 8)), .int (nI 9), .ref 20]) rfl ?_
            refine zR_m 1 rfl ?_
            refine zR_if (fun h => absurd hlt (Int32.not_lt.mpr h)) (fun _ => ?_)
            refine zR_to 288 rfl ?_
            refine zR_v rfl rfl rfl rfl rfl ⟨rfl, Nat.le_of_ble_eq_true rfl, Nat.le_of_ble_eq_true rfl⟩ rfl (Nat.le_refl _) hgo rfl rfl ?_
            exact zR_e rfl rfl rfl rfl rfl rfl
          · rw [if_neg hl]
            obtain ⟨R', hR', hgo⟩ := e_Mo_finiteSum (L := L) (xs := xs) (d := d) (C := C) (u := u) (a := a) (b := b) (V := V) (M := M) (R := R) (i := 8) (j := 9) (by decide) (by decide) hc (re_zr _) (re_zr _) x1 (by omega) (by omega) hR
            refine ⟨R', hR', go4 ?_⟩
            rw [h0]
            refine zR_to 254 (st' := [.int (re (V 9)), .int (re (V 8)), .ref 20]) rfl ?_
            refine zR_m 1 rfl ?_
            have hlt : re (V 9) ≤ re (V 8) := by rw [re_zr (V 8), re_zr (V 9), iZ_le (by omega) (by omega)]; omega
            refine zR_if (fun _ => ?_) (fun h => absurd hlt h)
            refine zR_to 278 (st' := [.int (re (V 9)), .int (re (V 8)), .int (nI 8), .ref 20]) rfl ?_
            refine zR_m 1 rfl ?_
            refine zR_if (fun _ => ?_) (fun h => absurd hlt h)
            refine zR_to 288 rfl ?_
            refine zR_v rfl rfl rfl rfl rfl ⟨rfl, Nat.le_of_ble_eq_true rfl, Nat.le_of_ble_eq_true rfl⟩ rfl (Nat.le_refl _) hgo rfl rfl ?_
            exact zR_e rfl rfl rfl rfl rfl rfl
end SU
