section WW
variable {L : Nat} {xs : Nat → Int32} {d : Nat} {C : Nat → zC} {u : zC} {a : Nat → Int32} {b : Nat → Int64} {M : Nat → Int64} {R : Nat → Nat} {V : Nat → RV}
theorem fu5 {x : Int32} (h5 : a 5 = 0) : fu (nt a x) 5 1 = nt a 1 := by
  show fu (fu a 5 (a 5 ||| x)) 5 1 = fu a 5 (a 5 ||| 1)
  rw [fu_fu, h5]
  rfl
set_option maxRecDepth 10000 in
theorem e_Mo_writeWhole {w : Nat} {dec : Bool} (h5 : a 5 = 0) (hw : a 2 = nI w) (hw4 : w < 4) (hx : vOk (V 8)) (hR : Rok R) : ∃ R', Rok R' ∧ zE L xs (d + 4) m_Mo_writeWhole [.ref 20, .int (bI dec)] (mV C u a b V M R) (.inl (some (.long (wwR w dec (V 8)).1))) (mV C u (nt a (wwR w dec (V 8)).2) b V M R') := by
  have hR0 : Rok (fu R 0 0) := hR.fu (Bp 32)
  -- from the limit on
  have lim : ∀ {a1 : Nat → Int32} {R1 : Nat → Nat} {big : Bool} {o : zO} {h9 : zH}, (∀ lm : Int64, lm = lN (wwL dec (rn (V 8))) → zR L xs (d + 4) m_Mo_writeWhole 104 [(0, .ref 20), (1, .int (bI dec)), (2, .int (bI big))] [.long lm] (mV C u a1 b V M R1) 0 o h9 0) → zR L xs (d + 4) m_Mo_writeWhole 75 [(0, .ref 20), (1, .int (bI dec)), (2, .int (bI big))] [] (mV C u a1 b V M R1) 0 o h9 0 := fun {a1 R1 big o h9} hr => by
    cases dec with
    | true => exact zR_to 104 rfl (hr _ (by show (_ : Int64) = lN 999999999999999; decide +kernel))
    | false =>
      refine zR_to 92 (st' := [.int (bI (rn (V 8)))]) rfl ?_
      cases hn : rn (V 8) with
      | true => exact zR_to 104 rfl (hr _ (by rw [hn]; show (_ : Int64) = lN (2 ^ 63); decide +kernel))
      | false => exact zR_to 104 rfl (hr _ (by rw [hn]; show (_ : Int64) = lN (2 ^ 63 - 1); decide +kernel))
  -- up to the answer on whether it is too large
  have go : ∀ {o : zO} {h9 : zH}, zR L xs (d + 4) m_Mo_writeWhole 56 [(2, .int (bI (wwBig (V 8)))), (0, .ref 20), (1, .int (bI dec))] [] (mV C u a b V M (fu R 0 0)) 0 o h9 0 → zE L xs (d + 4) m_Mo_writeWhole [.ref 20, .int (bI dec)] (mV C u a b V M R) o h9 := fun {o h9} hr => by
    have y : wwBig (V 8) = true → zR L xs (d + 4) m_Mo_writeWhole 50 [(0, .ref 20), (1, .int (bI dec))] [] (mV C u a b V M (fu R 0 0)) 0 o h9 0 := fun hb => by
      rw [hb] at hr
      exact zR_to 56 rfl hr
    have nn : wwBig (V 8) = false → zR L xs (d + 4) m_Mo_writeWhole 54 [(0, .ref 20), (1, .int (bI dec))] [] (mV C u a b V M (fu R 0 0)) 0 o h9 0 := fun hb => by
      rw [hb] at hr
      exact zR_to 56 rfl hr
    refine ⟨0, Nat.zero_le _, ?_⟩
    refine zR_to 2 (st' := [.int (nI 0), .ref 20]) rfl ?_
    refine zR_v rfl rfl rfl rfl rfl ⟨rfl, Nat.le_of_ble_eq_true rfl, Nat.le_of_ble_eq_true rfl⟩ rfl (Nat.le_refl _) (e_Mo_blank (r := 0) (by decide) hR) rfl rfl ?_
    refine zR_to 13 (st' := [.int 2, .int (rk (V 8))]) rfl ?_
    refine zR_m 1 rfl ?_
    refine zR_if (fun h => y (by unfold wwBig; rw [decide_eq_true (show rk (V 8) = 2 from h)]; rfl)) (fun h2 => ?_)
    refine zR_to 24 (st' := [.int 3, .int (rk (V 8))]) rfl ?_
    refine zR_m 1 rfl ?_
    refine zR_if (fun h => y (by unfold wwBig; rw [decide_eq_true (show rk (V 8) = 3 from h)]; simp)) (fun h3 => ?_)
    refine zR_to 35 (st' := [.int 1, .int (rk (V 8))]) rfl ?_
    refine zR_m 1 rfl ?_
    have hzr := iZ_rng (re (V 8))
    have ezr : zr (V 8) = (re (V 8)).toInt := rfl
    refine zR_if (fun h => nn (by unfold wwBig; rw [decide_eq_false (show ¬ rk (V 8) = 2 from h2), decide_eq_false (show ¬ rk (V 8) = 3 from h3), decide_eq_false (show ¬ rk (V 8) = 1 from h)]; rfl)) (fun h1 => ?_)
    refine zR_to 47 (st' := [.int (iZ 70), .int (re (V 8))]) rfl ?_
    rw [re_zr (V 8)]
    refine zR_m 1 rfl ?_
    refine zR_if (fun h => nn ?_) (fun h => y ?_)
    · have := (iZ_le (by omega) (by omega)).mp h
      unfold wwBig
      rw [decide_eq_false (show ¬ rk (V 8) = 2 from h2), decide_eq_false (show ¬ rk (V 8) = 3 from h3), decide_eq_false (show ¬ 70 < zr (V 8) by omega)]
      simp
    · unfold wwBig
      rw [decide_eq_true (show rk (V 8) = 1 from Decidable.of_not_not h1), decide_eq_true (show 70 < zr (V 8) by
        rcases Int.lt_or_le 70 (zr (V 8)) with h9 | h9
        · exact h9
        · exact absurd ((iZ_le (by omega) (by omega)).mpr h9) h)]
      simp
  cases hb : wwBig (V 8) with
  | true =>
    obtain ⟨R', hR', ht⟩ := t_Mo_writeWhole (L := L) (xs := xs) (d := d) (C := C) (u := u) (a := a) (b := b) (V := V) (M := M) (R := fu R 0 0) (N := 0) (dec := dec) (big := true) (Bp 32) rfl hR0 fu_s
    have er : wwR w dec (V 8) = ((if dec then -1 else -9223372036854775808), 1) := by
      unfold wwR
      rw [hb]
      rfl
    rw [er]
    refine ⟨R', hR', go ?_⟩
    rw [hb]
    refine zR_to 75 rfl ?_
    refine zR_w (lim (big := true) (fun lm hlm => ?_)) rfl rfl ⟨rfl, rfl, rfl, trivial⟩
    rw [hlm]
    rw [show (if (true || decide (wwL dec (rn (V 8)) < 0)) = true then fu a 5 1 else a) = nt a 1 from by rw [← fu5 (x := 0) h5, nt_0]; rfl] at ht
    exact ht
  | false =>
    by_cases h1 : rk (V 8) = 1
    · have hz : zr (V 8) ≤ 70 := by
        rcases Int.lt_or_le 70 (zr (V 8)) with h9 | h9
        · unfold wwBig at hb
          rw [decide_eq_true h1, decide_eq_true h9] at hb
          simp at hb
        · exact h9
      obtain ⟨R1, hR1, c0, hwh⟩ := e_Mo_whole (L := L) (xs := xs) (d := d) (C := C) (u := u) (a := a) (b := b) (V := V) (M := M) (R := fu R 0 0) (w := w) hw hw4 ⟨(hx.2.1 h1).2.1, hz⟩ hR0
      obtain ⟨R', hR', ht⟩ := t_Mo_writeWhole (L := L) (xs := xs) (d := d) (C := C) (u := u) (a := nt a (if whI (rs (V 8)) (zr (V 8)) then 16 else 0)) (b := b) (V := V) (M := M) (R := R1) (N := wwN w (V 8)) (dec := dec) (big := false) (by
        unfold wwN
        rw [if_pos h1, ← c0]
        exact hR1 0) rfl hR1 (by
        unfold wwN
        rw [if_pos h1, ← c0])
      have er : wwR w dec (V 8) = if decide (wwL dec (rn (V 8)) < wwN w (V 8)) then ((if dec then -1 else -9223372036854775808), 1) else (wwB dec (rn (V 8)) (wwN w (V 8)), if whI (rs (V 8)) (zr (V 8)) = true then 16 else 0) := by
        unfold wwR
        rw [hb]
        simp only [Bool.false_or, h1, true_and]
      rw [er]
      refine ⟨R', hR', go ?_⟩
      rw [hb]
      refine zR_to 68 (st' := [.int 1, .int (rk (V 8))]) rfl ?_
      rw [h1]
      refine zR_to 72 rfl ?_
      refine zR_v rfl rfl rfl rfl rfl ⟨rfl, Nat.le_of_ble_eq_true rfl, Nat.le_of_ble_eq_true rfl⟩ rfl (Nat.le_refl _) hwh rfl rfl ?_
      refine zR_w (lim (big := false) (fun lm hlm => ?_)) rfl rfl ⟨rfl, rfl, rfl, trivial⟩
      rw [hlm]
      rw [fu5 h5] at ht
      generalize wwN w (V 8) = N at *
      generalize (if whI (rs (V 8)) (zr (V 8)) = true then (16 : Int32) else 0) = x16 at *
      cases hlt : decide (wwL dec (rn (V 8)) < N) with
      | true =>
        rw [hlt] at ht
        exact ht
      | false =>
        rw [hlt] at ht
        exact ht
    · obtain ⟨R', hR', ht⟩ := t_Mo_writeWhole (L := L) (xs := xs) (d := d) (C := C) (u := u) (a := a) (b := b) (V := V) (M := M) (R := fu R 0 0) (N := 0) (dec := dec) (big := false) (Bp 32) rfl hR0 fu_s
      have er : wwR w dec (V 8) = (wwB dec (rn (V 8)) 0, 0) := by
        unfold wwR
        rw [hb, show wwN w (V 8) = 0 from if_neg h1, decide_eq_false (show ¬ wwL dec (rn (V 8)) < 0 by omega), if_neg (show ¬ (rk (V 8) = 1 ∧ whI (rs (V 8)) (zr (V 8)) = true) from fun h9 => h1 h9.1)]
        rfl
      rw [er]
      refine ⟨R', hR', go ?_⟩
      rw [hb]
      refine zR_to 68 (st' := [.int 1, .int (rk (V 8))]) rfl ?_
      refine zR_m 1 rfl ?_
      refine zR_if (fun _ => ?_) (fun h9 => absurd h1 h9)
      refine zR_w (lim (big := false) (fun lm hlm => ?_)) rfl rfl ⟨rfl, rfl, rfl, trivial⟩
      rw [hlm, nt_0]
      rw [decide_eq_false (show ¬ wwL dec (rn (V 8)) < 0 by omega)] at ht
      exact ht
end WW
/-! store of the reference -/
def stR (w fm : Nat) (v : RV) : Int64 × Int32 := if fm = 1 then wrR w 11 52 v else if fm = 2 then wrR w 8 23 v else wwR w (decide (fm = 3)) v
theorem stR_0 (w : Nat) (v : RV) : stR w 0 v = wwR w false v := by
  unfold stR
  rw [if_neg (by decide), if_neg (by decide), decide_eq_false (by decide)]
theorem stR_1 (w : Nat) (v : RV) : stR w 1 v = wrR w 11 52 v := by
  unfold stR
  rw [if_pos rfl]
theorem stR_2 (w : Nat) (v : RV) : stR w 2 v = wrR w 8 23 v := by
  unfold stR
  rw [if_neg (by decide), if_pos rfl]
theorem stR_3 (w : Nat) (v : RV) : stR w 3 v = wwR w true v := by
  unfold stR
  rw [if_neg (by decide), if_neg (by decide), decide_eq_true rfl]
/-- what store ends in, with bits under way -/
def MoSt (L : Nat) (xs : Nat → Int32) (d : Nat) (C : Nat → zC) (u : zC) (a : Nat → Int32) (b : Nat → Int64) (V : Nat → RV) (M : Nat → Int64) (R : Nat → Nat) (B n : Nat) (y x e : Int32) (bits : Int64) : Prop := ∃ a' b' V' R', Rok R' ∧
  a' 0 = (if thr (a 3) e then 2 else 0) ∧ a' 1 = a 1 ∧ a' 2 = a 2 ∧ a' 3 = a 3 ∧ a' 4 = a 4 ||| e ∧ a' 6 = a 6 ∧ a' 7 = (if thr (a 3) e then nI n else nI (n - 1)) ∧ a' 13 = nI 10 ∧ a' 14 = (if thr (a 3) e then beA a B 10 14 else y) ∧ b' 15 = (if thr (a 3) e then b 15 else bits) ∧ b' 16 = goB b B 16 ∧ (∀ i, i < 8 → V' i = V i) ∧
  zE L xs (d + 6) m_Mo_store [.ref 20, .int y, .int x] (mV C u a b V M R) (.inl (some (.int (if thr (a 3) e then 0 else e)))) (mV C u a' b' V' (goM (fu a 0 0) b M B B) R')
section ST
variable {L : Nat} {xs : Nat → Int32} {d : Nat} {C : Nat → zC} {u : zC} {a : Nat → Int32} {b : Nat → Int64} {M : Nat → Int64} {R : Nat → Nat} {V : Nat → RV} {n B p w : Nat}
set_option maxRecDepth 10000 in
theorem e_Mo_store0 {y x : Int32} (hb : outB y (nI 8) = true ∨ outB x (nI 4) = true) : zE L xs (d + 1) m_Mo_store [.ref 20, .int y, .int x] (mV C u a b V M R) (.inl (some (.int 0))) (mV C u (fu a 0 1) b V M R) := by
  have bad : zR L xs (d + 1) m_Mo_store 18 [(0, .ref 20), (1, .int y), (2, .int x)] [.ref 20] (mV C u a b V M R) 0 (.inl (some (.int 0))) (mV C u (fu a 0 1) b V M R) 0 := by
    refine zR_to 34 (st' := [.int 0]) (h1 := mV C u (fu a 0 1) b V M R) rfl ?_
    exact zR_e rfl rfl rfl rfl rfl rfl
  refine ⟨0, Nat.zero_le _, ?_⟩
  refine zR_to 4 (st' := [.int (nI 8), .int y, .ref 20]) rfl ?_
  refine zR_i rfl rfl rfl rfl ⟨Nat.le_of_ble_eq_true rfl, Nat.le_of_ble_eq_true rfl, Nat.le_of_ble_eq_true rfl⟩ rfl (Nat.le_refl _) (e_Mo_out (x := y) (y := nI 8)) rfl rfl ?_
  rw [show decide (y < 0 ∨ nI 8 ≤ y) = outB y (nI 8) from rfl]
  cases h1 : outB y (nI 8) with
  | true => exact zR_to 18 rfl bad
  | false =>
    refine zR_to 12 (st' := [.int (nI 4), .int x, .ref 20]) rfl ?_
    refine zR_i rfl rfl rfl rfl ⟨Nat.le_of_ble_eq_true rfl, Nat.le_of_ble_eq_true rfl, Nat.le_of_ble_eq_true rfl⟩ rfl (Nat.le_refl _) (e_Mo_out (x := x) (y := nI 4)) rfl rfl ?_
    have h2 : outB x (nI 4) = true := by
      rcases hb with h9 | h9
      · rw [h1] at h9
        cases h9
      · exact h9
    rw [show decide (x < 0 ∨ nI 4 ≤ x) = true from h2]
    exact zR_to 18 rfl bad
set_option maxRecDepth 10000 in
theorem h_Mo_store {j fm : Nat} {o : zO} {h9 : zH} (hj : j < 8) (hfm : fm < 4) (hB : a 13 = nI B) (hB2 : B ≤ 1000) (hce : ∀ c, a 14 = c → ¬ c < 0 → ∃ j : Nat, j < 8 ∧ c = nI j)
    (hr : zR L xs (d + 2) m_Mo_store 45 [(0, .ref 20), (1, .int (nI j)), (2, .int (nI fm))] [.int (a 7)] (mV C u (beA a B 10) (goB b B) V (goM (fu a 0 0) b M B B) R) 0 o h9 0) : zE L xs (d + 2) m_Mo_store [.ref 20, .int (nI j), .int (nI fm)] (mV C u a b V M R) o h9 := by
  refine ⟨0, Nat.zero_le _, ?_⟩
  refine zR_to 4 (st' := [.int (nI 8), .int (nI j), .ref 20]) rfl ?_
  refine zR_i rfl rfl rfl rfl ⟨Nat.le_of_ble_eq_true rfl, Nat.le_of_ble_eq_true rfl, Nat.le_of_ble_eq_true rfl⟩ rfl (Nat.le_refl _) (e_Mo_out (x := nI j) (y := nI 8)) rfl rfl ?_
  rw [show decide (nI j < 0 ∨ nI 8 ≤ nI j) = false from out8 hj]
  refine zR_to 12 (st' := [.int (nI 4), .int (nI fm), .ref 20]) rfl ?_
  refine zR_i rfl rfl rfl rfl ⟨Nat.le_of_ble_eq_true rfl, Nat.le_of_ble_eq_true rfl, Nat.le_of_ble_eq_true rfl⟩ rfl (Nat.le_refl _) (e_Mo_out (x := nI fm) (y := nI 4)) rfl rfl ?_
  rw [show decide (nI fm < 0 ∨ nI 4 ≤ nI fm) = false from out4 hfm]
  refine zR_to 38 (st' := [.int (nI 10), .ref 20]) (h1 := mV C u (fu a 0 0) b V M R) rfl ?_
  refine zR_v rfl rfl rfl rfl rfl ⟨rfl, Nat.le_of_ble_eq_true rfl, Nat.le_of_ble_eq_true rfl⟩ rfl (Nat.le_refl _) (e_Mo_begin (a := fu a 0 0) (B := B) (t := 10) hB hB2 hce) rfl rfl ?_
  refine zR_to 45 (st' := [.int (beA a B 10 7)]) rfl ?_
  rw [beA_at (show (7 : Nat) ≠ 0 by decide) (by decide) (by decide) (by decide)]
  exact hr
set_option maxRecDepth 10000 in
theorem l_stn {j fm : Nat} (hI : MoI a V R n B p w) (hj : j < 8) (hfm : fm < 4) (h0 : n = 0) : ∃ a' V' R', Rok R' ∧ oPost (beA a B 10) V 1 n n V (a 6) a' V' ∧ zE L xs (d + 6) m_Mo_store [.ref 20, .int (nI j), .int (nI fm)] (mV C u a b V M R) (.inl (some (.int (if thr (a 3) 1 then 0 else 1)))) (mV C u a' (goB b B) V' (goM (fu a 0 0) b M B B) R') := by
  obtain ⟨hB, hB2, hce, hn, hn8, hc, hv, hR⟩ := hI
  have e7 : beA a B 10 7 = nI n := (beA_at (by decide) (by decide) (by decide) (by decide)).trans hn
  have e6 : beA a B 10 6 = a 6 := beA_at (by decide) (by decide) (by decide) (by decide)
  have e3 : beA a B 10 3 = a 3 := beA_at (by decide) (by decide) (by decide) (by decide)
  refine ⟨_, V, R, hR, e6 ▸ oP_no e7 (fun _ _ => rfl), ?_⟩
  refine h_Mo_store (d := d + 4) hj hfm hB hB2 hce ?_
  rw [hn, h0]
  refine zR_to 49 rfl ?_
  refine zR_v rfl rfl rfl rfl rfl ⟨rfl, Nat.le_of_ble_eq_true rfl, Nat.le_of_ble_eq_true rfl⟩ rfl (Nat.le_refl _) e_Mo_refuse rfl rfl ?_
  exact zR_q rfl rfl rfl rfl rfl (by rw [thB_1, e3]) rfl
set_option maxRecDepth 10000 in
set_option maxHeartbeats 4000000 in
theorem l_st {j fm : Nat} (hI : MoI a V R n B p w) (hj : j < 8) (hfm : fm < 4) (h1 : 1 ≤ n) : MoSt L xs d C u a b V M R B n (nI j) (nI fm) (stR w fm (V (n - 1))).2 (stR w fm (V (n - 1))).1 := by
  obtain ⟨hB, hB2, hce, hn, hn8, hc, hv, hR⟩ := hI
  have e7 : beA a B 10 7 = nI n := (beA_at (by decide) (by decide) (by decide) (by decide)).trans hn
  have e8 : fu V 8 (V (n - 1)) 8 = V (n - 1) := rfl
  have hA : ∀ i, i ≠ 0 → i ≠ 5 → i ≠ 13 → i ≠ 14 → beA a B 10 i = a i := fun i h1 h2 h3 h4 => beA_at h1 h2 h3 h4
  have hw2 : beA a B 10 2 = nI w := (beA_c hc).2.1
  have h13 : beA a B 10 13 = nI 10 := beA_13
  -- from the bits on
  have fin : ∀ (r : Int64 × Int32) (R' : Nat → Nat) (V' : Nat → RV), Rok R' → (∀ i, i < 8 → V' i = V i) → (∀ {h9 : zH} {o : zO}, zR L xs (d + 6) m_Mo_store 111 [(0, .ref 20), (1, .int (nI j)), (2, .int (nI fm))] [.long r.1] (mV C u (nt (beA a B 10) r.2) (goB b B) V' (goM (fu a 0 0) b M B B) R') 0 o h9 0 → zR L xs (d + 6) m_Mo_store 65 [(0, .ref 20), (1, .int (nI j)), (2, .int (nI fm))] [] (mV C u (beA a B 10) (goB b B) (fu V 8 (V (n - 1))) (goM (fu a 0 0) b M B B) R) 0 o h9 0) →
      MoSt L xs d C u a b V M R B n (nI j) (nI fm) r.2 r.1 := by
    intro r R' V' hR' hV' hgo
    have hth : thB (nt (beA a B 10) r.2) = thr (a 3) r.2 := by rw [thB_nt beA_5, hA 3 (by decide) (by decide) (by decide) (by decide)]
    have h04 : thA (nt (beA a B 10) r.2) 4 = a 4 ||| r.2 := by
      show beA a B 10 4 ||| (beA a B 10 5 ||| r.2) = _
      rw [beA_5, i0or, hA 4 (by decide) (by decide) (by decide) (by decide)]
    have h05 : nt (beA a B 10) r.2 5 = r.2 := by
      show beA a B 10 5 ||| r.2 = _
      rw [beA_5, i0or]
    have hh : ∀ {o : zO} {h9 : zH}, zR L xs (d + 6) m_Mo_store 116 [(3, .long r.1), (0, .ref 20), (1, .int (nI j)), (2, .int (nI fm))] [.int (bI (thr (a 3) r.2))] (mV C u (thA (nt (beA a B 10) r.2)) (goB b B) V' (goM (fu a 0 0) b M B B) R') 0 o h9 0 → zE L xs (d + 6) m_Mo_store [.ref 20, .int (nI j), .int (nI fm)] (mV C u a b V M R) o h9 := fun {o h9} hr => by
      refine h_Mo_store (d := d + 4) hj hfm hB hB2 hce ?_
      rw [hn]
      refine zR_m 1 rfl ?_
      refine zR_if (fun _ => ?_) (fun h => absurd (Decidable.of_not_not h) (nI_ne0 (by omega) (by omega)))
      refine zR_to 62 (st' := [.int (nI 8), .int (beA a B 10 7 - 1), .ref 20]) rfl ?_
      rw [e7, nI_m1' h1]
      refine zR_v rfl rfl rfl rfl rfl ⟨rfl, Nat.le_of_ble_eq_true rfl, Nat.le_of_ble_eq_true rfl⟩ rfl (Nat.le_refl _) (e_Mo_copy (f := n - 1) (t := 8) (by omega) (by decide)) rfl rfl ?_
      refine hgo ?_
      refine zR_to 113 rfl ?_
      refine zR_v rfl rfl rfl rfl rfl ⟨rfl, Nat.le_of_ble_eq_true rfl, Nat.le_of_ble_eq_true rfl⟩ rfl (Nat.le_refl _) e_Mo_throwing rfl rfl ?_
      rw [hth]
      exact hr
    have h00 : thA (nt (beA a B 10) r.2) 0 = if thr (a 3) r.2 then 2 else 0 := by
      show (if thB (nt (beA a B 10) r.2) then (2 : Int32) else 0) = _
      rw [hth]
    unfold MoSt
    cases ht : thr (a 3) r.2 with
    | true =>
      rw [ht] at hh h00
      simp only [if_true]
      refine ⟨thA (nt (beA a B 10) r.2), goB b B, V', R', hR', h00, hA 1 (by decide) (by decide) (by decide) (by decide), hA 2 (by decide) (by decide) (by decide) (by decide), hA 3 (by decide) (by decide) (by decide) (by decide), h04, hA 6 (by decide) (by decide) (by decide) (by decide), e7, h13, rfl, rfl, rfl, hV', hh ?_⟩
      refine zR_to 120 rfl ?_
      exact zR_e rfl rfl rfl rfl rfl rfl
    | false =>
      rw [ht] at hh h00
      simp only [Bool.false_eq_true, if_false]
      refine ⟨fu (fu (thA (nt (beA a B 10) r.2)) 7 (nI (n - 1))) 14 (nI j), fu (goB b B) 15 r.1, V', R', hR', h00, hA 1 (by decide) (by decide) (by decide) (by decide), hA 2 (by decide) (by decide) (by decide) (by decide), hA 3 (by decide) (by decide) (by decide) (by decide), h04, hA 6 (by decide) (by decide) (by decide) (by decide), rfl, h13, rfl, rfl, rfl, hV', hh ?_⟩
      refine zR_to 128 (st' := [.int (beA a B 10 7 - 1), .ref 20]) rfl ?_
      rw [e7, nI_m1' h1]
      refine zR_to 145 (st' := [.int (nt (beA a B 10) r.2 5)]) (h1 := mV C u (fu (fu (thA (nt (beA a B 10) r.2)) 7 (nI (n - 1))) 14 (nI j)) (fu (goB b B) 15 r.1) V' (goM (fu a 0 0) b M B B) R') rfl ?_
      rw [h05]
      exact zR_e rfl rfl rfl rfl rfl rfl
  obtain rfl | rfl | rfl | rfl : fm = 0 ∨ fm = 1 ∨ fm = 2 ∨ fm = 3 := by omega
  · obtain ⟨R', hR', hz⟩ := e_Mo_writeWhole (L := L) (xs := xs) (d := d + 1) (C := C) (u := u) (a := beA a B 10) (b := goB b B) (V := fu V 8 (V (n - 1))) (M := goM (fu a 0 0) b M B B) (R := R) (w := w) (dec := false) beA_5 hw2 hc.2.2.2 (by rw [e8]; exact hv _ (by omega)) hR
    rw [e8] at hz
    rw [stR_0]
    generalize wwR w false (V (n - 1)) = r9 at hz ⊢
    refine fin r9 R' (fu V 8 (V (n - 1))) hR' (fun i hi => fu_n (by omega)) (fun {h9 o} hr => ?_)
    refine zR_to 108 (st' := [.int (bI false), .ref 20]) rfl ?_
    refine zR_v rfl rfl rfl rfl rfl ⟨rfl, Nat.le_of_ble_eq_true rfl, Nat.le_of_ble_eq_true rfl⟩ rfl (Nat.le_refl _) hz rfl rfl ?_
    exact hr
  · obtain ⟨R', V', hR', hV', hz⟩ := e_Mo_writeReal (L := L) (xs := xs) (d := d + 1) (C := C) (u := u) (a := beA a B 10) (b := goB b B) (V := fu V 8 (V (n - 1))) (M := goM (fu a 0 0) b M B B) (R := R) (w := w) (fd := 11) (fr := 52) (Or.inl ⟨rfl, rfl⟩) hw2 hc.2.2.2 (by rw [e8]; exact hv _ (by omega)) hR
    rw [e8] at hz
    rw [stR_1]
    generalize wrR w 11 52 (V (n - 1)) = r9 at hz ⊢
    refine fin r9 R' V' hR' (fun i hi => by rw [hV' i hi, fu_n (by omega)]) (fun {h9 o} hr => ?_)
    refine zR_to 75 (st' := [.int (nI 52), .int (nI 11), .ref 20]) rfl ?_
    refine zR_v rfl rfl rfl rfl rfl ⟨rfl, Nat.le_of_ble_eq_true rfl, Nat.le_of_ble_eq_true rfl⟩ rfl (Nat.le_refl _) hz rfl rfl ?_
    exact zR_to 111 rfl hr
  · obtain ⟨R', V', hR', hV', hz⟩ := e_Mo_writeReal (L := L) (xs := xs) (d := d + 1) (C := C) (u := u) (a := beA a B 10) (b := goB b B) (V := fu V 8 (V (n - 1))) (M := goM (fu a 0 0) b M B B) (R := R) (w := w) (fd := 8) (fr := 23) (Or.inr ⟨rfl, rfl⟩) hw2 hc.2.2.2 (by rw [e8]; exact hv _ (by omega)) hR
    rw [e8] at hz
    rw [stR_2]
    generalize wrR w 8 23 (V (n - 1)) = r9 at hz ⊢
    refine fin r9 R' V' hR' (fun i hi => by rw [hV' i hi, fu_n (by omega)]) (fun {h9 o} hr => ?_)
    refine zR_to 91 (st' := [.int (nI 23), .int (nI 8), .ref 20]) rfl ?_
    refine zR_v rfl rfl rfl rfl rfl ⟨rfl, Nat.le_of_ble_eq_true rfl, Nat.le_of_ble_eq_true rfl⟩ rfl (Nat.le_refl _) hz rfl rfl ?_
    exact zR_to 111 rfl hr
  · obtain ⟨R', hR', hz⟩ := e_Mo_writeWhole (L := L) (xs := xs) (d := d + 1) (C := C) (u := u) (a := beA a B 10) (b := goB b B) (V := fu V 8 (V (n - 1))) (M := goM (fu a 0 0) b M B B) (R := R) (w := w) (dec := true) beA_5 hw2 hc.2.2.2 (by rw [e8]; exact hv _ (by omega)) hR
    rw [e8] at hz
    rw [stR_3]
    generalize wwR w true (V (n - 1)) = r9 at hz ⊢
    refine fin r9 R' (fu V 8 (V (n - 1))) hR' (fun i hi => fu_n (by omega)) (fun {h9 o} hr => ?_)
    refine zR_to 108 (st' := [.int (bI true), .ref 20]) rfl ?_
    refine zR_v rfl rfl rfl rfl rfl ⟨rfl, Nat.le_of_ble_eq_true rfl, Nat.le_of_ble_eq_true rfl⟩ rfl (Nat.le_refl _) hz rfl rfl ?_
    exact hr
end ST
