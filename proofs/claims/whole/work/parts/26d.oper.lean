/-! each operation of the reference -/
def MoI (a : Nat → Int32) (V : Nat → RV) (R : Nat → Nat) (n B p w : Nat) : Prop := a 13 = nI B ∧ B ≤ 1000 ∧ (∀ c, a 14 = c → ¬ c < 0 → ∃ j : Nat, j < 8 ∧ c = nI j) ∧ a 7 = nI n ∧ n ≤ 8 ∧ cOk a p w ∧ (∀ i, i < n → vOk (V i)) ∧ Rok R
def lstN (op j : Nat) : Nat := if op < 4 ∨ op = 6 ∨ op = 13 then 2 else if op = 10 ∨ op = 11 then j + 1 else if op < 14 then 1 else 0
def sclR (w p : Nat) (x y : RV) : RV × Int32 := if eit x y 3 then (vNan, 0) else if rk y = 0 then sclN w p 0 x y else if rk y = 1 ∧ (0 ≤ zr y ∧ zr y < 16) ∧ rs y / 2 ^ scK y ≤ 40000 ∧ rs y / 2 ^ scK y * 2 ^ scK y = rs y then sclN w p (rs y / 2 ^ scK y) x y else (vNan, 1)
theorem thr_0 {m : Int32} : thr m 0 = false := by
  unfold thr
  refine decide_eq_false (fun h => h ?_)
  apply Int32.toBitVec_inj.mp
  simp
theorem ior0 (x : Int32) : x ||| (0 : Int32) = x := by
  apply Int32.toBitVec_inj.mp
  simp
theorem beA_0 {a : Nat → Int32} {B t : Nat} : beA a B t 0 = 0 := by
  unfold beA
  rw [fu_n (by decide), fu_n (by decide), goA_at (by decide) (by decide), fu_s]
theorem beA_c {a : Nat → Int32} {B t p w : Nat} (h : cOk a p w) : cOk (beA a B t) p w := ⟨(beA_at (by decide) (by decide) (by decide) (by decide)).trans h.1, (beA_at (by decide) (by decide) (by decide) (by decide)).trans h.2.1, h.2.2⟩
section OR
variable {L : Nat} {xs : Nat → Int32} {d : Nat} {C : Nat → zC} {u : zC} {a : Nat → Int32} {b : Nat → Int64} {M : Nat → Int64} {R : Nat → Nat} {V V1 : Nat → RV} {n B p w : Nat} {x : Int32}
/-- no exception, and the ints as they are, but the depth -/
theorem oP_0 {A a' : Nat → Int32} {V' v' : Nat → RV} {n n' : Nat} (h0 : A 0 = 0) (ha : a' = fu A 7 (nI n')) (hV : ∀ i, i < 8 → V' i = v' i) : oPost A V 0 n n' v' (A 6) a' V' := by
  subst ha
  unfold oPost
  rw [thr_0]
  refine ⟨h0, rfl, rfl, rfl, (ior0 _).symm, rfl, rfl, rfl, rfl, hV⟩
set_option maxRecDepth 10000 in
set_option maxHeartbeats 4000000 in
theorem o_few {op j : Nat} (hI : MoI a V R n B p w) (hop : op < 16) (hx : plc op = true → x = nI j ∧ j < 8) (hf : n < lstN op j) : MoOp L xs d C u a b V M R B n (costN op) (nI op) x 1 n V (a 6) := by
  obtain ⟨hB, hB2, hce, hn, hn8, hc, hv, hR⟩ := hI
  have hpl : plc op = true → outB x (nI 8) = false := fun h => by
    obtain ⟨rfl, hj⟩ := hx h
    exact decide_eq_false (fun h9 => by
      rcases h9 with h9 | h9
      · exact nI_pos (n := j) (by omega) h9
      · exact nI_ge (a := j) (b := 8) hj (by decide) h9)
  obtain rfl | rfl | rfl | rfl | rfl | rfl | rfl | rfl | rfl | rfl | rfl | rfl | rfl | rfl | rfl | rfl : op = 0 ∨ op = 1 ∨ op = 2 ∨ op = 3 ∨ op = 4 ∨ op = 5 ∨ op = 6 ∨ op = 7 ∨ op = 8 ∨ op = 9 ∨ op = 10 ∨ op = 11 ∨ op = 12 ∨ op = 13 ∨ op = 14 ∨ op = 15 := by omega
  · exact o_Mo_few (l := 2) (tw := true) hop hpl hB hB2 hce hn hf (by decide) hR (fun hr => zR_to 122 rfl hr)
  · exact o_Mo_few (l := 2) (tw := true) hop hpl hB hB2 hce hn hf (by decide) hR (fun hr => zR_to 122 rfl hr)
  · exact o_Mo_few (l := 2) (tw := true) hop hpl hB hB2 hce hn hf (by decide) hR (fun hr => zR_to 122 rfl hr)
  · exact o_Mo_few (l := 2) (tw := true) hop hpl hB hB2 hce hn hf (by decide) hR (fun hr => zR_to 122 rfl hr)
  · exact o_Mo_few (l := 1) (tw := false) hop hpl hB hB2 hce hn hf (by decide) hR (fun hr => zR_to 122 rfl hr)
  · exact o_Mo_few (l := 1) (tw := false) hop hpl hB hB2 hce hn hf (by decide) hR (fun hr => zR_to 122 rfl hr)
  · exact o_Mo_few (l := 2) (tw := true) hop hpl hB hB2 hce hn hf (by decide) hR (fun hr => zR_to 122 rfl hr)
  · exact o_Mo_few (l := 1) (tw := false) hop hpl hB hB2 hce hn hf (by decide) hR (fun hr => zR_to 122 rfl hr)
  · exact o_Mo_few (l := 1) (tw := false) hop hpl hB hB2 hce hn hf (by decide) hR (fun hr => zR_to 122 rfl hr)
  · exact o_Mo_few (l := 1) (tw := false) hop hpl hB hB2 hce hn hf (by decide) hR (fun hr => zR_to 122 rfl hr)
  · obtain ⟨rfl, hj⟩ := hx rfl
    exact o_Mo_few (l := j + 1) (tw := false) hop hpl hB hB2 hce hn hf (by omega) hR (fun hr => zR_to 120 (st' := [.int (nI j + 1)]) rfl (by rw [nI_1]; exact zR_to 122 rfl hr))
  · obtain ⟨rfl, hj⟩ := hx rfl
    exact o_Mo_few (l := j + 1) (tw := false) hop hpl hB hB2 hce hn hf (by omega) hR (fun hr => zR_to 120 (st' := [.int (nI j + 1)]) rfl (by rw [nI_1]; exact zR_to 122 rfl hr))
  · exact o_Mo_few (l := 1) (tw := false) hop hpl hB hB2 hce hn hf (by decide) hR (fun hr => zR_to 122 rfl hr)
  · exact o_Mo_few (l := 2) (tw := true) hop hpl hB hB2 hce hn hf (by decide) hR (fun hr => zR_to 122 rfl hr)
  · exact absurd (show n < 0 from hf) (by omega)
  · exact absurd (show n < 0 from hf) (by omega)
theorem o_0 (hI : MoI a V R n B p w) (h2 : 2 ≤ n) : MoOp L xs d C u a b V M R B n 8 (nI 0) x (sumR w p (V (n - 1)) (V (n - 2))).2 (n - 1) (fu V (n - 2) (sumR w p (V (n - 1)) (V (n - 2))).1) (a 6) := by
  obtain ⟨hB, hB2, hce, hn, hn8, hc, hv, hR⟩ := hI
  have e8 : fu (fu V 8 (V (n - 1))) 9 (V (n - 2)) 8 = V (n - 1) := rfl
  have e9 : fu (fu V 8 (V (n - 1))) 9 (V (n - 2)) 9 = V (n - 2) := rfl
  have h := e_Mo_reckon0 (L := L) (xs := xs) (d := d) (C := C) (u := u) (a := beA a B 8) (b := goB b B) (V := fu (fu V 8 (V (n - 1))) 9 (V (n - 2))) (M := goM (fu a 0 0) b M B B) (R := R) (beA_c hc) (by rw [e8]; exact hv _ (by omega)) (by rw [e9]; exact hv _ (by omega)) hR
  rw [e8, e9] at h
  exact o_Mo_reck (op := 0) (by decide) hB hB2 hce hn hn8 h2 h
theorem o_1 (hI : MoI a V R n B p w) (h2 : 2 ≤ n) : MoOp L xs d C u a b V M R B n 8 (nI 1) x (sumR w p (negR (V (n - 1))) (V (n - 2))).2 (n - 1) (fu V (n - 2) (sumR w p (negR (V (n - 1))) (V (n - 2))).1) (a 6) := by
  obtain ⟨hB, hB2, hce, hn, hn8, hc, hv, hR⟩ := hI
  have e8 : fu (fu V 8 (V (n - 1))) 9 (V (n - 2)) 8 = V (n - 1) := rfl
  have e9 : fu (fu V 8 (V (n - 1))) 9 (V (n - 2)) 9 = V (n - 2) := rfl
  have h := e_Mo_reckon1 (L := L) (xs := xs) (d := d) (C := C) (u := u) (a := beA a B 8) (b := goB b B) (V := fu (fu V 8 (V (n - 1))) 9 (V (n - 2))) (M := goM (fu a 0 0) b M B B) (R := R) (beA_c hc) (by rw [e8]; exact hv _ (by omega)) (by rw [e9]; exact hv _ (by omega)) hR
  rw [e8, e9] at h
  exact o_Mo_reck (op := 1) (by decide) hB hB2 hce hn hn8 h2 h
theorem o_2 (hI : MoI a V R n B p w) (h2 : 2 ≤ n) : MoOp L xs d C u a b V M R B n 12 (nI 2) x (mulR w p (V (n - 1)) (V (n - 2))).2 (n - 1) (fu V (n - 2) (mulR w p (V (n - 1)) (V (n - 2))).1) (a 6) := by
  obtain ⟨hB, hB2, hce, hn, hn8, hc, hv, hR⟩ := hI
  have e8 : fu (fu V 8 (V (n - 1))) 9 (V (n - 2)) 8 = V (n - 1) := rfl
  have e9 : fu (fu V 8 (V (n - 1))) 9 (V (n - 2)) 9 = V (n - 2) := rfl
  have h := e_Mo_reckon2 (L := L) (xs := xs) (d := d) (C := C) (u := u) (a := beA a B 12) (b := goB b B) (V := fu (fu V 8 (V (n - 1))) 9 (V (n - 2))) (M := goM (fu a 0 0) b M B B) (R := R) (beA_c hc) (by rw [e8]; exact hv _ (by omega)) (by rw [e9]; exact hv _ (by omega)) hR
  rw [e8, e9] at h
  exact o_Mo_reck (op := 2) (by decide) hB hB2 hce hn hn8 h2 h
theorem o_3 (hI : MoI a V R n B p w) (h2 : 2 ≤ n) : MoOp L xs d C u a b V M R B n 20 (nI 3) x (divR w p (V (n - 2)) (V (n - 1))).2 (n - 1) (fu V (n - 2) (divR w p (V (n - 2)) (V (n - 1))).1) (a 6) := by
  obtain ⟨hB, hB2, hce, hn, hn8, hc, hv, hR⟩ := hI
  have e8 : fu (fu V 8 (V (n - 1))) 9 (V (n - 2)) 8 = V (n - 1) := rfl
  have e9 : fu (fu V 8 (V (n - 1))) 9 (V (n - 2)) 9 = V (n - 2) := rfl
  have h := e_Mo_reckon3 (L := L) (xs := xs) (d := d) (C := C) (u := u) (a := beA a B 20) (b := goB b B) (V := fu (fu V 8 (V (n - 1))) 9 (V (n - 2))) (M := goM (fu a 0 0) b M B B) (R := R) (beA_c hc) (by rw [e8]; exact hv _ (by omega)) (by rw [e9]; exact hv _ (by omega)) hR
  rw [e8, e9] at h
  exact o_Mo_reck (op := 3) (by decide) hB hB2 hce hn hn8 h2 h
set_option maxRecDepth 10000 in
theorem o_4 (hI : MoI a V R n B p w) (h1 : 1 ≤ n) : MoOp L xs d C u a b V M R B n 20 (nI 4) x (rootR w p (V (n - 1))).2 n (fu V (n - 1) (rootR w p (V (n - 1))).1) (a 6) := by
  obtain ⟨hB, hB2, hce, hn, hn8, hc, hv, hR⟩ := hI
  have e8 : fu V 8 (V (n - 1)) 8 = V (n - 1) := rfl
  have e7 : beA a B 20 7 = nI n := (beA_at (by decide) (by decide) (by decide) (by decide)).trans hn
  have h := e_Mo_alter4 (L := L) (xs := xs) (d := d) (C := C) (u := u) (a := beA a B 20) (b := goB b B) (V := fu V 8 (V (n - 1))) (M := goM (fu a 0 0) b M B B) (R := R) (beA_c hc) (by rw [e8]; exact hv _ (by omega)) hR
  rw [e8] at h
  exact o_Mo_alt (op := 4) (Or.inl rfl) hB hB2 hce hn hn8 h1 (fun i hi => fu_n (by omega)) (fun hr => zR_to 122 rfl (q_Mo_one (l := 1) (pl := plc 4) e7 (Nat.le_refl _) h1 hn8 hr)) h
set_option maxRecDepth 10000 in
theorem o_5 (hI : MoI a V R n B p w) (h1 : 1 ≤ n) : MoOp L xs d C u a b V M R B n 6 (nI 5) x (intR w (V (n - 1))).2 n (fu V (n - 1) (intR w (V (n - 1))).1) (a 6) := by
  obtain ⟨hB, hB2, hce, hn, hn8, hc, hv, hR⟩ := hI
  have e8 : fu V 8 (V (n - 1)) 8 = V (n - 1) := rfl
  have e7 : beA a B 6 7 = nI n := (beA_at (by decide) (by decide) (by decide) (by decide)).trans hn
  have h := e_Mo_alter5 (L := L) (xs := xs) (d := d) (C := C) (u := u) (a := beA a B 6) (b := goB b B) (V := fu V 8 (V (n - 1))) (M := goM (fu a 0 0) b M B B) (R := R) (w := w) (beA_c hc).2.1 hc.2.2.2 (by rw [e8]; exact hv _ (by omega)) hR
  rw [e8] at h
  exact o_Mo_alt (op := 5) (Or.inr (Or.inl rfl)) hB hB2 hce hn hn8 h1 (fun i hi => fu_n (by omega)) (fun hr => zR_to 122 rfl (q_Mo_one (l := 1) (pl := plc 5) e7 (Nat.le_refl _) h1 hn8 hr)) h
set_option maxRecDepth 10000 in
theorem o_6 (hI : MoI a V R n B p w) (h2 : 2 ≤ n) : MoOp L xs d C u a b V M R B n 6 (nI 6) x (sclR w p (V (n - 1)) (V (n - 2))).2 n (fu V (n - 1) (sclR w p (V (n - 1)) (V (n - 2))).1) (a 6) := by
  obtain ⟨hB, hB2, hce, hn, hn8, hc, hv, hR⟩ := hI
  have e8 : fu (fu V 8 (V (n - 1))) 9 (V (n - 2)) 8 = V (n - 1) := rfl
  have e9 : fu (fu V 8 (V (n - 1))) 9 (V (n - 2)) 9 = V (n - 2) := rfl
  have e7 : beA a B 6 7 = nI n := (beA_at (by decide) (by decide) (by decide) (by decide)).trans hn
  have h := e_Mo_alter6 (L := L) (xs := xs) (d := d) (C := C) (u := u) (a := beA a B 6) (b := goB b B) (V := fu (fu V 8 (V (n - 1))) 9 (V (n - 2))) (M := goM (fu a 0 0) b M B B) (R := R) (r9 := sclR w p (V (n - 1)) (V (n - 2))) (beA_c hc) (by rw [e8]; exact hv _ (by omega)) hR
    (fun h => by rw [e8, e9] at h; unfold sclR; rw [if_pos h]) (fun h h0 => by rw [e8, e9] at h; rw [e9] at h0; unfold sclR; rw [h, if_neg (show ¬ (false = true) by decide), if_pos h0]; rfl)
    (fun h h0 => by rw [e8, e9] at h; rw [e9] at h0; unfold scFin at h0; unfold sclR; rw [h, if_neg (show ¬ (false = true) by decide), if_neg (fun h9 => absurd (h9.symm.trans h0.1) (by decide)), if_pos h0]; rfl)
    (fun h h0 h3 => by rw [e8, e9] at h; rw [e9] at h0 h3; unfold scFin at h3; unfold sclR; rw [h, if_neg (show ¬ (false = true) by decide), if_neg h0, if_neg h3])
  exact o_Mo_alt (op := 6) (Or.inr (Or.inr (Or.inl rfl))) hB hB2 hce hn hn8 (by omega) (fun i hi => by rw [fu_n (by omega), fu_n (by omega)]) (fun hr => zR_to 122 rfl (q_Mo_two (pl := plc 6) e7 h2 hn8 hr)) h
set_option maxRecDepth 10000 in
theorem o_7 (hI : MoI a V R n B p w) (h1 : 1 ≤ n) (hok : rk (V (n - 1)) = 1) (hl : n < 8) : MoOp L xs d C u a b V M R B n 6 (nI 7) x 0 (n + 1) (fu (fu V (n - 1) (exE (V (n - 1)))) n (exS (V (n - 1)))) (a 6) := by
  obtain ⟨hB, hB2, hce, hn, hn8, hc, hv, hR⟩ := hI
  have e8 : fu V 8 (V (n - 1)) 8 = V (n - 1) := rfl
  have e7 : beA a B 6 7 = nI n := (beA_at (by decide) (by decide) (by decide) (by decide)).trans hn
  have e6 : beA a B 6 6 = a 6 := beA_at (by decide) (by decide) (by decide) (by decide)
  obtain ⟨R', hR', h⟩ := e_Mo_extract1 (L := L) (xs := xs) (d := d + 3) (C := C) (u := u) (a := beA a B 6) (b := goB b B) (V := fu V 8 (V (n - 1))) (M := goM (fu a 0 0) b M B B) (R := R) e7 hl h1 (by rw [e8]; exact hok) (by rw [e8]; exact hv _ (by omega)) hR
  rw [e8] at h
  refine o_Mo_ext hB hB2 hce hn hn8 h1 ⟨fu (beA a B 6) 7 (nI (n + 1)), fu (fu (fu (fu V 8 (V (n - 1))) 10 (exE (V (n - 1)))) (n - 1) (exE (V (n - 1)))) n (exS (V (n - 1))), R', hR', ?_, by rw [thr_0]; exact h⟩
  · rw [← e6]
    refine oP_0 beA_0 rfl (fun i hi => ?_)
    by_cases hi1 : i = n
    · subst hi1
      rw [fu_s, fu_s]
    · rw [fu_n hi1, fu_n hi1]
      by_cases hi2 : i = n - 1
      · subst hi2
        rw [fu_s, fu_s]
      · rw [fu_n hi2, fu_n hi2, fu_n (by omega), fu_n (by omega)]
set_option maxRecDepth 10000 in
theorem o_7n (hI : MoI a V R n B p w) (h1 : 1 ≤ n) (hbad : rk (V (n - 1)) ≠ 1 ∨ n = 8) : MoOp L xs d C u a b V M R B n 6 (nI 7) x 1 n V (a 6) := by
  obtain ⟨hB, hB2, hce, hn, hn8, hc, hv, hR⟩ := hI
  have e8 : fu V 8 (V (n - 1)) 8 = V (n - 1) := rfl
  have e7 : beA a B 6 7 = nI n := (beA_at (by decide) (by decide) (by decide) (by decide)).trans hn
  have e6 : beA a B 6 6 = a 6 := beA_at (by decide) (by decide) (by decide) (by decide)
  have e3 : beA a B 6 3 = a 3 := beA_at (by decide) (by decide) (by decide) (by decide)
  have h := e_Mo_extract0 (L := L) (xs := xs) (d := d + 5) (C := C) (u := u) (a := beA a B 6) (b := goB b B) (V := fu V 8 (V (n - 1))) (M := goM (fu a 0 0) b M B B) (R := R) e7 hn8 (by rw [e8]; exact hbad)
  rw [thB_1, e3] at h
  refine o_Mo_ext hB hB2 hce hn hn8 h1 ⟨_, _, R, hR, e6 ▸ oP_no e7 (fun i hi => fu_n (by omega)), h⟩
set_option maxRecDepth 10000 in
theorem o_8 (hI : MoI a V R n B p w) (h1 : 1 ≤ n) : MoOp L xs d C u a b V M R B n 2 (nI 8) x 0 n (fu V (n - 1) (absR (V (n - 1)))) (a 6) := by
  obtain ⟨hB, hB2, hce, hn, hn8, hc, hv, hR⟩ := hI
  have e8 : fu V 8 (V (n - 1)) 8 = V (n - 1) := rfl
  have e7 : beA a B 2 7 = nI n := (beA_at (by decide) (by decide) (by decide) (by decide)).trans hn
  have h := e_Mo_alter8 (L := L) (xs := xs) (d := d + 6) (C := C) (u := u) (a := beA a B 2) (b := goB b B) (V := fu V 8 (V (n - 1))) (M := goM (fu a 0 0) b M B B) (R := R)
  rw [e8] at h
  exact o_Mo_alt (op := 8) (r := (absR (V (n - 1)), 0)) (Or.inr (Or.inr (Or.inr (Or.inl rfl)))) hB hB2 hce hn hn8 h1 (fun i hi => fu_n (by omega)) (fun hr => zR_to 122 rfl (q_Mo_one (l := 1) (pl := plc 8) e7 (Nat.le_refl _) h1 hn8 hr)) ⟨R, hR, by rw [nt_0]; exact h⟩
set_option maxRecDepth 10000 in
theorem o_9 (hI : MoI a V R n B p w) (h1 : 1 ≤ n) : MoOp L xs d C u a b V M R B n 2 (nI 9) x 0 n (fu V (n - 1) (negR (V (n - 1)))) (a 6) := by
  obtain ⟨hB, hB2, hce, hn, hn8, hc, hv, hR⟩ := hI
  have e8 : fu V 8 (V (n - 1)) 8 = V (n - 1) := rfl
  have e7 : beA a B 2 7 = nI n := (beA_at (by decide) (by decide) (by decide) (by decide)).trans hn
  have h := e_Mo_alter9 (L := L) (xs := xs) (d := d + 6) (C := C) (u := u) (a := beA a B 2) (b := goB b B) (V := fu V 8 (V (n - 1))) (M := goM (fu a 0 0) b M B B) (R := R)
  rw [e8] at h
  exact o_Mo_alt (op := 9) (r := (negR (V (n - 1)), 0)) (Or.inr (Or.inr (Or.inr (Or.inr rfl)))) hB hB2 hce hn hn8 h1 (fun i hi => fu_n (by omega)) (fun hr => zR_to 122 rfl (q_Mo_one (l := 1) (pl := plc 9) e7 (Nat.le_refl _) h1 hn8 hr)) ⟨R, hR, by rw [nt_0]; exact h⟩
end OR
