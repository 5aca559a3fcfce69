/-! load of the reference -/
def ldR (fm : Nat) (z : Int64) : RV × Int32 := if fm = 0 then (rdW z, 0) else if fm = 1 then (rdR 11 52 (uN z), 0) else if fm = 2 then (rdR 8 23 (uN z), 0) else rdD (uN z)
def MoLd (L : Nat) (xs : Nat → Int32) (d : Nat) (C : Nat → zC) (u : zC) (a : Nat → Int32) (b : Nat → Int64) (V : Nat → RV) (M : Nat → Int64) (R : Nat → Nat) (B n : Nat) (y x e : Int32) (n' : Nat) (v' : Nat → RV) : Prop := ∃ a' V' R', Rok R' ∧ oPost (beA a B 4) V e n n' v' (a 6) a' V' ∧ zE L xs (d + 6) m_Mo_load [.ref 20, .int y, .int x] (mV C u a b V M R) (.inl (some (.int (if thr (a 3) e then 0 else e)))) (mV C u a' (goB b B) V' (goM (fu a 0 0) b M B B) R')
section LD
variable {L : Nat} {xs : Nat → Int32} {d : Nat} {C : Nat → zC} {u : zC} {a : Nat → Int32} {b : Nat → Int64} {M : Nat → Int64} {R : Nat → Nat} {V : Nat → RV} {n B p w : Nat}
set_option maxRecDepth 10000 in
theorem e_Mo_load0 {y x : Int32} (hb : outB y (nI 8) = true ∨ outB x (nI 4) = true) : zE L xs (d + 1) m_Mo_load [.ref 20, .int y, .int x] (mV C u a b V M R) (.inl (some (.int 0))) (mV C u (fu a 0 1) b V M R) := by
  have bad : zR L xs (d + 1) m_Mo_load 18 [(0, .ref 20), (1, .int y), (2, .int x)] [.ref 20] (mV C u a b V M R) 0 (.inl (some (.int 0))) (mV C u (fu a 0 1) b V M R) 0 := by
    refine zR_to 34 (st' := [.int 0]) (h1 := mV C u (fu a 0 1) b V M R) rfl ?_
    exact zR_e rfl rfl rfl rfl rfl rfl
  refine ⟨0, Nat.zero_le _, ?_⟩
  refine zR_to 4 (st' := [.int (nI 8), .int y, .ref 20]) rfl ?_
  refine zR_i rfl rfl rfl rfl ⟨Nat.le_of_ble_eq_true rfl, Nat.le_of_ble_eq_true rfl, Nat.le_of_ble_eq_true rfl⟩ rfl (Nat.le_refl _) (e_Mo_out (x := y) (y := nI 8)) rfl rfl ?_
  rw [show decide (y < 0 ∨ nI 8 ≤ y) = outB y (nI 8) from rfl]
  cases h1 : outB y (nI 8) with
  | true => exact zR_to 18 rfl bad
  | false =>
    refine zR_to 12 (st' := [.int (nI 4), .int x, .ref 20]) rfl ?_
    refine zR_i rfl rfl rfl rfl ⟨Nat.le_of_ble_eq_true rfl, Nat.le_of_ble_eq_true rfl, Nat.le_of_ble_eq_true rfl⟩ rfl (Nat.le_refl _) (e_Mo_out (x := x) (y := nI 4)) rfl rfl ?_
    have h2 : outB x (nI 4) = true := by
      rcases hb with h9 | h9
      · rw [h1] at h9
        cases h9
      · exact h9
    rw [show decide (x < 0 ∨ nI 4 ≤ x) = true from h2]
    exact zR_to 18 rfl bad
theorem out4 {j : Nat} (hj : j < 4) : outB (nI j) (nI 4) = false := decide_eq_false (fun h9 => by
  rcases h9 with h9 | h9
  · exact nI_pos (n := j) (by omega) h9
  · exact nI_ge (a := j) (b := 4) hj (by decide) h9)
set_option maxRecDepth 10000 in
theorem h_Mo_load {j fm : Nat} {o : zO} {h9 : zH} (hj : j < 8) (hfm : fm < 4) (hB : a 13 = nI B) (hB2 : B ≤ 1000) (hce : ∀ c, a 14 = c → ¬ c < 0 → ∃ j : Nat, j < 8 ∧ c = nI j)
    (hr : zR L xs (d + 2) m_Mo_load 46 [(0, .ref 20), (1, .int (nI j)), (2, .int (nI fm))] [.int (nI 8), .int (a 7)] (mV C u (beA a B 4) (goB b B) V (goM (fu a 0 0) b M B B) R) 0 o h9 0) : zE L xs (d + 2) m_Mo_load [.ref 20, .int (nI j), .int (nI fm)] (mV C u a b V M R) o h9 := by
  refine ⟨0, Nat.zero_le _, ?_⟩
  refine zR_to 4 (st' := [.int (nI 8), .int (nI j), .ref 20]) rfl ?_
  refine zR_i rfl rfl rfl rfl ⟨Nat.le_of_ble_eq_true rfl, Nat.le_of_ble_eq_true rfl, Nat.le_of_ble_eq_true rfl⟩ rfl (Nat.le_refl _) (e_Mo_out (x := nI j) (y := nI 8)) rfl rfl ?_
  rw [show decide (nI j < 0 ∨ nI 8 ≤ nI j) = false from out8 hj]
  refine zR_to 12 (st' := [.int (nI 4), .int (nI fm), .ref 20]) rfl ?_
  refine zR_i rfl rfl rfl rfl ⟨Nat.le_of_ble_eq_true rfl, Nat.le_of_ble_eq_true rfl, Nat.le_of_ble_eq_true rfl⟩ rfl (Nat.le_refl _) (e_Mo_out (x := nI fm) (y := nI 4)) rfl rfl ?_
  rw [show decide (nI fm < 0 ∨ nI 4 ≤ nI fm) = false from out4 hfm]
  refine zR_to 37 (st' := [.int (nI 4), .ref 20]) (h1 := mV C u (fu a 0 0) b V M R) rfl ?_
  refine zR_v rfl rfl rfl rfl rfl ⟨rfl, Nat.le_of_ble_eq_true rfl, Nat.le_of_ble_eq_true rfl⟩ rfl (Nat.le_refl _) (e_Mo_begin (a := fu a 0 0) (B := B) (t := 4) hB hB2 hce) rfl rfl ?_
  refine zR_to 46 (st' := [.int (nI 8), .int (beA a B 4 7)]) rfl ?_
  rw [beA_at (show (7 : Nat) ≠ 0 by decide) (by decide) (by decide) (by decide)]
  exact hr
set_option maxRecDepth 10000 in
theorem l_ldn {j fm : Nat} (hI : MoI a V R n B p w) (hj : j < 8) (hfm : fm < 4) (h8 : n = 8) : MoLd L xs d C u a b V M R B n (nI j) (nI fm) 1 n V := by
  obtain ⟨hB, hB2, hce, hn, hn8, hc, hv, hR⟩ := hI
  have e7 : beA a B 4 7 = nI n := (beA_at (by decide) (by decide) (by decide) (by decide)).trans hn
  have e6 : beA a B 4 6 = a 6 := beA_at (by decide) (by decide) (by decide) (by decide)
  have e3 : beA a B 4 3 = a 3 := beA_at (by decide) (by decide) (by decide) (by decide)
  refine ⟨_, V, R, hR, e6 ▸ oP_no e7 (fun _ _ => rfl), ?_⟩
  refine h_Mo_load (d := d + 4) hj hfm hB hB2 hce ?_
  rw [hn, h8]
  refine zR_to 50 rfl ?_
  refine zR_v rfl rfl rfl rfl rfl ⟨rfl, Nat.le_of_ble_eq_true rfl, Nat.le_of_ble_eq_true rfl⟩ rfl (Nat.le_refl _) e_Mo_refuse rfl rfl ?_
  exact zR_q rfl rfl rfl rfl rfl (by rw [thB_1, e3]) rfl
set_option maxRecDepth 10000 in
set_option maxHeartbeats 4000000 in
theorem l_ld {j fm : Nat} (hI : MoI a V R n B p w) (hj : j < 8) (hfm : fm < 4) (h8 : n < 8) : MoLd L xs d C u a b V M R B n (nI j) (nI fm) (ldR fm (goM (fu a 0 0) b M B B j)).2 (n + 1) (fu V n (ldR fm (goM (fu a 0 0) b M B B j)).1) := by
  obtain ⟨hB, hB2, hce, hn, hn8, hc, hv, hR⟩ := hI
  have e7 : beA a B 4 7 = nI n := (beA_at (by decide) (by decide) (by decide) (by decide)).trans hn
  have e6 : beA a B 4 6 = a 6 := beA_at (by decide) (by decide) (by decide) (by decide)
  have e3 : beA a B 4 3 = a 3 := beA_at (by decide) (by decide) (by decide) (by decide)
  -- from the reading's end on
  have fin : ∀ (r : RV × Int32) (R' : Nat → Nat), Rok R' → (∀ {h9 : zH} {o : zO}, zR L xs (d + 6) m_Mo_load 121 [(0, .ref 20)] [] (mV C u (nt (beA a B 4) r.2) (goB b B) (fu V 10 r.1) (goM (fu a 0 0) b M B B) R') 0 o h9 0 → zR L xs (d + 6) m_Mo_load 54 [(0, .ref 20), (1, .int (nI j)), (2, .int (nI fm))] [] (mV C u (beA a B 4) (goB b B) V (goM (fu a 0 0) b M B B) R) 0 o h9 0) →
      MoLd L xs d C u a b V M R B n (nI j) (nI fm) r.2 (n + 1) (fu V n r.1) := by
    intro r R' hR' hgo
    have hP := oP_ch (a := beA a B 4) (V := V) (n := n) (g := 0) (x := r.2) (V' := fu V 10 r.1) beA_5 e7 (by omega) (fun i hi => fu_n (by omega)) fu_s
    rw [e6] at hP
    refine ⟨_, _, R', hR', hP, ?_⟩
    refine h_Mo_load (d := d + 4) hj hfm hB hB2 hce ?_
    rw [hn]
    refine zR_m 1 rfl ?_
    refine zR_if (fun _ => hgo ?_) (fun h => absurd (fun h9 => by have := (nI_eq (by omega) (by omega)).mp h9; omega) h)
    refine zR_to 123 (st' := [.int (nI 0), .ref 20]) rfl ?_
    refine zR_v rfl rfl rfl rfl rfl ⟨rfl, Nat.le_of_ble_eq_true rfl, Nat.le_of_ble_eq_true rfl⟩ rfl (Nat.le_refl _) (e_Mo_change (n := n) (g := 0) e7 hn8 (by omega)) rfl rfl ?_
    exact zR_q rfl rfl rfl rfl rfl (by rw [chO_ch beA_5 (by omega), e3]) rfl
  generalize hz : goM (fu a 0 0) b M B B j = z at *
  obtain rfl | rfl | rfl | rfl : fm = 0 ∨ fm = 1 ∨ fm = 2 ∨ fm = 3 := by omega
  · obtain ⟨R', hR', hz1⟩ := e_Mo_readWhole (L := L) (xs := xs) (d := d + 1) (C := C) (u := u) (a := beA a B 4) (b := goB b B) (V := V) (M := goM (fu a 0 0) b M B B) (R := R) (z := z) hR
    refine fin (rdW z, 0) R' hR' (fun {h9 o} hr => ?_)
    rw [nt_0] at hr
    refine zR_to 64 (st' := [.int (nI j), .ref 25, .ref 20]) rfl ?_
    refine zM_get (n := j) rfl rfl hj rfl ?_
    rw [hz]
    refine zR_v rfl rfl rfl rfl rfl ⟨rfl, Nat.le_of_ble_eq_true rfl, Nat.le_of_ble_eq_true rfl⟩ rfl (Nat.le_refl _) hz1 rfl rfl ?_
    refine zR_to 121 rfl ?_
    exact zR_w hr rfl rfl ⟨rfl, trivial⟩
  · have hz1 := e_Mo_readReal (L := L) (xs := xs) (d := d + 4) (C := C) (u := u) (a := beA a B 4) (b := goB b B) (V := V) (M := goM (fu a 0 0) b M B B) (R := R) (fd := 11) (fr := 52) (n := uN z) (Or.inl ⟨rfl, rfl⟩) (uN_lt2 z)
    refine fin (rdR 11 52 (uN z), 0) R hR (fun {h9 o} hr => ?_)
    rw [nt_0] at hr
    refine zR_to 79 (st' := [.int (nI j), .ref 25, .ref 20]) rfl ?_
    refine zM_get (n := j) rfl rfl hj rfl ?_
    rw [hz, ← lN_uN z]
    refine zR_to 84 (st' := [.int (nI 52), .int (nI 11), .long (lN (uN z)), .ref 20]) rfl ?_
    refine zR_v rfl rfl rfl rfl rfl ⟨rfl, Nat.le_of_ble_eq_true rfl, Nat.le_of_ble_eq_true rfl⟩ rfl (Nat.le_refl _) hz1 rfl rfl ?_
    refine zR_to 121 rfl ?_
    exact zR_w hr rfl rfl ⟨rfl, trivial⟩
  · have hz1 := e_Mo_readReal (L := L) (xs := xs) (d := d + 4) (C := C) (u := u) (a := beA a B 4) (b := goB b B) (V := V) (M := goM (fu a 0 0) b M B B) (R := R) (fd := 8) (fr := 23) (n := uN z) (Or.inr ⟨rfl, rfl⟩) (uN_lt2 z)
    refine fin (rdR 8 23 (uN z), 0) R hR (fun {h9 o} hr => ?_)
    rw [nt_0] at hr
    refine zR_to 98 (st' := [.int (nI j), .ref 25, .ref 20]) rfl ?_
    refine zM_get (n := j) rfl rfl hj rfl ?_
    rw [hz, ← lN_uN z]
    refine zR_to 103 (st' := [.int (nI 23), .int (nI 8), .long (lN (uN z)), .ref 20]) rfl ?_
    refine zR_v rfl rfl rfl rfl rfl ⟨rfl, Nat.le_of_ble_eq_true rfl, Nat.le_of_ble_eq_true rfl⟩ rfl (Nat.le_refl _) hz1 rfl rfl ?_
    refine zR_to 121 rfl ?_
    exact zR_w hr rfl rfl ⟨rfl, trivial⟩
  · obtain ⟨R', hR', hz1⟩ := e_Mo_readDecimal (L := L) (xs := xs) (d := d + 1) (C := C) (u := u) (a := beA a B 4) (b := goB b B) (V := V) (M := goM (fu a 0 0) b M B B) (R := R) (n := uN z) (uN_lt2 z) hR
    refine fin (rdD (uN z)) R' hR' (fun {h9 o} hr => ?_)
    refine zR_to 117 (st' := [.int (nI j), .ref 25, .ref 20]) rfl ?_
    refine zM_get (n := j) rfl rfl hj rfl ?_
    rw [hz, ← lN_uN z, lN_uN z]
    rw [lN_uN z] at hz1
    refine zR_v rfl rfl rfl rfl rfl ⟨rfl, Nat.le_of_ble_eq_true rfl, Nat.le_of_ble_eq_true rfl⟩ rfl (Nat.le_refl _) hz1 rfl rfl ?_
    refine zR_to 121 rfl ?_
    exact zR_w hr rfl rfl ⟨rfl, trivial⟩
end LD
