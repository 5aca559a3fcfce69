section OR
variable {L : Nat} {xs : Nat → Int32} {d : Nat} {C : Nat → zC} {u : zC} {a : Nat → Int32} {b : Nat → Int64} {M : Nat → Int64} {R : Nat → Nat} {V V1 : Nat → RV} {n B p w : Nat} {x : Int32}
theorem out8 {j : Nat} (hj : j < 8) : outB (nI j) (nI 8) = false := decide_eq_false (fun h9 => by
  rcases h9 with h9 | h9
  · exact nI_pos (n := j) (by omega) h9
  · exact nI_ge (a := j) (b := 8) hj (by decide) h9)
set_option maxRecDepth 10000 in
theorem o_10 {j : Nat} (hI : MoI a V R n B p w) (hj : j < n) : MoOp L xs d C u a b V M R B n 2 (nI 10) (nI j) 0 n (fu (fu V (n - 1) (V (n - 1 - j))) (n - 1 - j) (V (n - 1))) (a 6) := by
  obtain ⟨hB, hB2, hce, hn, hn8, hc, hv, hR⟩ := hI
  have e8 : fu V 8 (V (n - 1)) 8 = V (n - 1) := rfl
  have e7 : beA a B 2 7 = nI n := (beA_at (by decide) (by decide) (by decide) (by decide)).trans hn
  have e6 : beA a B 2 6 = a 6 := beA_at (by decide) (by decide) (by decide) (by decide)
  have h := e_Mo_move10 (L := L) (xs := xs) (d := d + 6) (C := C) (u := u) (a := beA a B 2) (b := goB b B) (V := fu V 8 (V (n - 1))) (M := goM (fu a 0 0) b M B B) (R := R) e7 hn8 hj
  rw [e8, beA_5] at h
  refine o_Mo_mov (op := 10) (V1 := fu V 8 (V (n - 1))) (by decide) (by decide) (fun _ => out8 (by omega)) hB hB2 hce (fun hr => zR_to 120 (st' := [.int (nI j + 1)]) rfl (by rw [nI_1]; exact zR_to 122 rfl (q_Mo_one (l := j + 1) (pl := plc 10) e7 (by omega) hj hn8 hr))) ⟨beA a B 2, fu (fu (fu V 8 (V (n - 1))) (n - 1) (fu V 8 (V (n - 1)) (n - 1 - j))) (n - 1 - j) (V (n - 1)), R, hR, ?_, by rw [thr_0]; exact h⟩
  rw [← e6]
  refine oP_0 beA_0 (fu_self e7).symm (fun i hi => ?_)
  by_cases hi1 : i = n - 1 - j
  · subst hi1
    rw [fu_s, fu_s]
  · rw [fu_n hi1, fu_n hi1]
    by_cases hi2 : i = n - 1
    · subst hi2
      rw [fu_s, fu_s, fu_n (by omega)]
    · rw [fu_n hi2, fu_n hi2, fu_n (by omega)]
set_option maxRecDepth 10000 in
theorem o_11 {j : Nat} (hI : MoI a V R n B p w) (hj : j < n) (hl : n < 8) : MoOp L xs d C u a b V M R B n 2 (nI 11) (nI j) 0 (n + 1) (fu V n (V (n - 1 - j))) (a 6) := by
  obtain ⟨hB, hB2, hce, hn, hn8, hc, hv, hR⟩ := hI
  have e7 : beA a B 2 7 = nI n := (beA_at (by decide) (by decide) (by decide) (by decide)).trans hn
  have e6 : beA a B 2 6 = a 6 := beA_at (by decide) (by decide) (by decide) (by decide)
  have h := e_Mo_move11 (L := L) (xs := xs) (d := d + 5) (C := C) (u := u) (a := beA a B 2) (b := goB b B) (V := fu V 8 (V (n - 1))) (M := goM (fu a 0 0) b M B B) (R := R) e7 hn8 hj
  rw [← nt_0 (a := beA a B 2), chO_ch beA_5 (by omega), thr_0] at h
  refine o_Mo_mov (op := 11) (V1 := fu V 8 (V (n - 1))) (by decide) (by decide) (fun _ => out8 (by omega)) hB hB2 hce (fun hr => zR_to 120 (st' := [.int (nI j + 1)]) rfl (by rw [nI_1]; exact zR_to 122 rfl (q_Mo_one (l := j + 1) (pl := plc 11) e7 (by omega) hj hn8 hr))) ⟨chA (nt (beA a B 2) 0) n 0, chV (nt (beA a B 2) 0) (fu (fu V 8 (V (n - 1))) 10 (fu V 8 (V (n - 1)) (n - 1 - j))) n 0, R, hR, ?_, by rw [thr_0, ← nt_0 (a := beA a B (costN 11))]; exact h⟩
  rw [← e6]
  exact oP_ch (g := 0) beA_5 e7 (by omega) (fun i hi => by rw [fu_n (by omega), fu_n (by omega)]) (by rw [fu_s, fu_n (by omega)])
set_option maxRecDepth 10000 in
theorem o_11n {j : Nat} (hI : MoI a V R n B p w) (hj : j < n) (h8 : n = 8) : MoOp L xs d C u a b V M R B n 2 (nI 11) (nI j) 1 n V (a 6) := by
  obtain ⟨hB, hB2, hce, hn, hn8, hc, hv, hR⟩ := hI
  have e7 : beA a B 2 7 = nI n := (beA_at (by decide) (by decide) (by decide) (by decide)).trans hn
  have e6 : beA a B 2 6 = a 6 := beA_at (by decide) (by decide) (by decide) (by decide)
  have e3 : beA a B 2 3 = a 3 := beA_at (by decide) (by decide) (by decide) (by decide)
  have h := e_Mo_move11 (L := L) (xs := xs) (d := d + 5) (C := C) (u := u) (a := beA a B 2) (b := goB b B) (V := fu V 8 (V (n - 1))) (M := goM (fu a 0 0) b M B B) (R := R) e7 hn8 hj
  rw [chO_fl h8, e3] at h
  refine o_Mo_mov (op := 11) (V1 := fu V 8 (V (n - 1))) (by decide) (by decide) (fun _ => out8 (by omega)) hB hB2 hce (fun hr => zR_to 120 (st' := [.int (nI j + 1)]) rfl (by rw [nI_1]; exact zR_to 122 rfl (q_Mo_one (l := j + 1) (pl := plc 11) e7 (by omega) hj hn8 hr))) ⟨chA (beA a B 2) n 0, chV (beA a B 2) (fu (fu V 8 (V (n - 1))) 10 (fu V 8 (V (n - 1)) (n - 1 - j))) n 0, R, hR, ?_, h⟩
  rw [← e6]
  exact oP_fl h8 e7 (fun i hi => by rw [fu_n (by omega), fu_n (by omega)])
set_option maxRecDepth 10000 in
theorem o_12 (hI : MoI a V R n B p w) (h1 : 1 ≤ n) : MoOp L xs d C u a b V M R B n 2 (nI 12) x 0 (n - 1) V (a 6) := by
  obtain ⟨hB, hB2, hce, hn, hn8, hc, hv, hR⟩ := hI
  have e7 : beA a B 2 7 = nI n := (beA_at (by decide) (by decide) (by decide) (by decide)).trans hn
  have e6 : beA a B 2 6 = a 6 := beA_at (by decide) (by decide) (by decide) (by decide)
  have h := e_Mo_move12 (L := L) (xs := xs) (d := d + 7) (C := C) (u := u) (a := beA a B 2) (b := goB b B) (V := fu V 8 (V (n - 1))) (M := goM (fu a 0 0) b M B B) (R := R) (x := x) e7 h1
  rw [beA_5] at h
  refine o_Mo_mov (op := 12) (V1 := fu V 8 (V (n - 1))) (by decide) (by decide) (fun h => absurd h (by decide)) hB hB2 hce (fun hr => zR_to 122 rfl (q_Mo_one (l := 1) (pl := plc 12) e7 (Nat.le_refl _) h1 hn8 hr)) ⟨fu (beA a B 2) 7 (nI (n - 1)), fu V 8 (V (n - 1)), R, hR, ?_, by rw [thr_0]; exact h⟩
  rw [← e6]
  exact oP_0 beA_0 rfl (fun i hi => fu_n (by omega))
set_option maxRecDepth 10000 in
theorem o_13 (hI : MoI a V R n B p w) (h2 : 2 ≤ n) : MoOp L xs d C u a b V M R B n 2 (nI 13) x (if eit (V (n - 1)) (V (n - 2)) 3 then 1 else 0) n V (cmpR (V (n - 1)) (V (n - 2))) := by
  obtain ⟨hB, hB2, hce, hn, hn8, hc, hv, hR⟩ := hI
  have e8 : fu (fu V 8 (V (n - 1))) 9 (V (n - 2)) 8 = V (n - 1) := rfl
  have e9 : fu (fu V 8 (V (n - 1))) 9 (V (n - 2)) 9 = V (n - 2) := rfl
  have e7 : beA a B 2 7 = nI n := (beA_at (by decide) (by decide) (by decide) (by decide)).trans hn
  have e3 : beA a B 2 3 = a 3 := beA_at (by decide) (by decide) (by decide) (by decide)
  obtain ⟨R', hR', h⟩ := e_Mo_move13 (L := L) (xs := xs) (d := d + 4) (C := C) (u := u) (a := beA a B 2) (b := goB b B) (V := fu (fu V 8 (V (n - 1))) 9 (V (n - 2))) (M := goM (fu a 0 0) b M B B) (R := R) (z := x) (by rw [e8]; exact hv _ (by omega)) (by rw [e9]; exact hv _ (by omega)) hR
  rw [e8, e9, show cm1 (beA a B 2) (V (n - 1)) (V (n - 2)) = nt (beA a B 2) (if eit (V (n - 1)) (V (n - 2)) 3 then 1 else 0) from by
    unfold cm1
    split
    · rfl
    · rw [nt_0]] at h
  generalize (if eit (V (n - 1)) (V (n - 2)) 3 then (1 : Int32) else 0) = e at *
  generalize cmpR (V (n - 1)) (V (n - 2)) = cc at *
  rw [thB_nt beA_5, e3, show nt (beA a B 2) e 5 = beA a B 2 5 ||| e from rfl, beA_5, i0or] at h
  refine o_Mo_mov (op := 13) (V1 := fu (fu V 8 (V (n - 1))) 9 (V (n - 2))) (by decide) (by decide) (fun h => absurd h (by decide)) hB hB2 hce (fun hr => zR_to 122 rfl (q_Mo_two (pl := plc 13) e7 h2 hn8 hr)) ⟨_, _, R', hR', ?_, h⟩
  unfold oPost
  rw [show beA a B (costN 13) 3 = a 3 from e3]
  have ht : thB (nt (beA a B 2) e) = thr (a 3) e := by rw [thB_nt beA_5, e3]
  have h4 : thA (nt (beA a B 2) e) 4 = beA a B 2 4 ||| e := by
    show beA a B 2 4 ||| (beA a B 2 5 ||| e) = _
    rw [beA_5, i0or]
  have h0 : thA (nt (beA a B 2) e) 0 = if thr (a 3) e then 2 else 0 := by
    show (if thB (nt (beA a B 2) e) then (2 : Int32) else 0) = _
    rw [ht]
  cases hth : thr (a 3) e with
  | true =>
    rw [hth] at h0
    simp only [if_true] at h0 ⊢
    refine ⟨h0, rfl, rfl, e3, h4, rfl, e7, rfl, rfl, fun i hi => by rw [fu_n (by omega), fu_n (by omega)]⟩
  | false =>
    rw [hth] at h0
    simp only [Bool.false_eq_true, if_false] at h0 ⊢
    refine ⟨h0, rfl, rfl, e3, h4, rfl, e7, rfl, rfl, fun i hi => by rw [fu_n (by omega), fu_n (by omega)]⟩
set_option maxRecDepth 10000 in
theorem o_14 {c : Nat} (hcc : c = 0 ∨ c = 1) (hI : MoI a V R n B p w) (hl : n < 8) : MoOp L xs d C u a b V M R B n 2 (nI (15 - c)) x 0 (n + 1) (fu V n (exV false c)) (a 6) := by
  obtain ⟨hB, hB2, hce, hn, hn8, hc, hv, hR⟩ := hI
  have e7 : beA a B 2 7 = nI n := (beA_at (by decide) (by decide) (by decide) (by decide)).trans hn
  have e6 : beA a B 2 6 = a 6 := beA_at (by decide) (by decide) (by decide) (by decide)
  obtain ⟨R', hR', h⟩ := e_Mo_move14 (L := L) (xs := xs) (d := d + 3) (C := C) (u := u) (a := beA a B 2) (b := goB b B) (V := V) (M := goM (fu a 0 0) b M B B) (R := R) (x := x) hcc e7 hn8 hR
  rw [← nt_0 (a := beA a B 2), chO_ch beA_5 (by omega), thr_0] at h
  have hcost : costN (15 - c) = 2 := by rcases hcc with rfl | rfl <;> rfl
  have key := o_Mo_mov (L := L) (xs := xs) (d := d) (C := C) (u := u) (a := a) (b := b) (M := M) (R := R) (V := V) (x := x) (B := B) (n := n) (e := 0) (n' := n + 1) (v' := fu V n (exV false c)) (cd' := a 6) (op := 15 - c) (V1 := V) (by omega) (by omega) (fun h => absurd (of_decide_eq_true h) (by omega)) hB hB2 hce (fun hr => by
    rcases hcc with rfl | rfl
    · exact zR_to 122 rfl (q_Mo_non (pl := plc 15) e7 hn8 hr)
    · exact zR_to 122 rfl (q_Mo_non (pl := plc 14) e7 hn8 hr)) ⟨chA (nt (beA a B 2) 0) n 0, chV (nt (beA a B 2) 0) (fu V 10 (exV false c)) n 0, R', hR', by
      rw [hcost, ← e6]
      exact oP_ch (g := 0) beA_5 e7 (by omega) (fun i hi => fu_n (by omega)) fu_s, by
      rw [nt_0] at h
      rw [thr_0, hcost, nt_0]
      exact h⟩
  rw [hcost] at key
  exact key
set_option maxRecDepth 10000 in
theorem o_14n {c : Nat} (hcc : c = 0 ∨ c = 1) (hI : MoI a V R n B p w) (h8 : n = 8) : MoOp L xs d C u a b V M R B n 2 (nI (15 - c)) x 1 n V (a 6) := by
  obtain ⟨hB, hB2, hce, hn, hn8, hc, hv, hR⟩ := hI
  have e7 : beA a B 2 7 = nI n := (beA_at (by decide) (by decide) (by decide) (by decide)).trans hn
  have e6 : beA a B 2 6 = a 6 := beA_at (by decide) (by decide) (by decide) (by decide)
  have e3 : beA a B 2 3 = a 3 := beA_at (by decide) (by decide) (by decide) (by decide)
  obtain ⟨R', hR', h⟩ := e_Mo_move14 (L := L) (xs := xs) (d := d + 3) (C := C) (u := u) (a := beA a B 2) (b := goB b B) (V := V) (M := goM (fu a 0 0) b M B B) (R := R) (x := x) hcc e7 hn8 hR
  rw [chO_fl h8, e3] at h
  have hcost : costN (15 - c) = 2 := by rcases hcc with rfl | rfl <;> rfl
  have key := o_Mo_mov (L := L) (xs := xs) (d := d) (C := C) (u := u) (a := a) (b := b) (M := M) (R := R) (V := V) (x := x) (B := B) (n := n) (e := 1) (n' := n) (v' := V) (cd' := a 6) (op := 15 - c) (V1 := V) (by omega) (by omega) (fun h => absurd (of_decide_eq_true h) (by omega)) hB hB2 hce (fun hr => by
    rcases hcc with rfl | rfl
    · exact zR_to 122 rfl (q_Mo_non (pl := plc 15) e7 hn8 hr)
    · exact zR_to 122 rfl (q_Mo_non (pl := plc 14) e7 hn8 hr)) ⟨chA (beA a B 2) n 0, chV (beA a B 2) (fu V 10 (exV false c)) n 0, R', hR', by
      rw [hcost, ← e6]
      exact oP_fl h8 e7 (fun i hi => fu_n (by omega)), by
      rw [hcost]
      exact h⟩
  rw [hcost] at key
  exact key
end OR
