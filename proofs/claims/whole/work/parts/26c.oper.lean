theorem goA_at {a : Nat → Int32} {B n i : Nat} (h1 : i ≠ 13) (h2 : i ≠ 14) : goA a B n i = a i := by
  unfold goA
  split
  · rfl
  · split
    · rw [fu_n h2, fu_n h1]
    · rw [fu_n h1]
theorem beA_at {a : Nat → Int32} {B t i : Nat} (h0 : i ≠ 0) (h5 : i ≠ 5) (h1 : i ≠ 13) (h2 : i ≠ 14) : beA a B t i = a i := by
  unfold beA
  rw [fu_n h5, fu_n h1, goA_at h1 h2, fu_n h0]
theorem beA_5 {a : Nat → Int32} {B t : Nat} : beA a B t 5 = 0 := fu_s
theorem beA_13 {a : Nat → Int32} {B t : Nat} : beA a B t 13 = nI t := by
  unfold beA
  rw [fu_n (by decide), fu_s]
/-- what operate of the reference ends in -/
def MoOp (L : Nat) (xs : Nat → Int32) (d : Nat) (C : Nat → zC) (u : zC) (a : Nat → Int32) (b : Nat → Int64) (V : Nat → RV) (M : Nat → Int64) (R : Nat → Nat) (B n t : Nat) (y x e : Int32) (n' : Nat) (v' : Nat → RV) (cd' : Int32) : Prop := ∃ a' V' R', Rok R' ∧ oPost (beA a B t) V e n n' v' cd' a' V' ∧ zE L xs (d + 8) m_Mo_operate [.ref 20, .int y, .int x] (mV C u a b V M R) (.inl (some (.int (if thr (a 3) e then 0 else e)))) (mV C u a' (goB b B) V' (goM (fu a 0 0) b M B B) R')
section OQ
variable {L : Nat} {xs : Nat → Int32} {d : Nat} {C : Nat → zC} {u : zC} {a : Nat → Int32} {b : Nat → Int64} {M : Nat → Int64} {R : Nat → Nat} {V V1 : Nat → RV}
set_option maxRecDepth 10000 in
theorem o_Mo_few {op n l B : Nat} {x : Int32} {tw : Bool} (hop : op < 16) (hx : plc op = true → outB x (nI 8) = false) (hB : a 13 = nI B) (hB2 : B ≤ 1000) (hce : ∀ c, a 14 = c → ¬ c < 0 → ∃ j : Nat, j < 8 ∧ c = nI j) (hn : a 7 = nI n) (hl : n < l) (hl9 : l ≤ 9) (hR : Rok R)
    (hpre : ∀ {o : zO} {h9 : zH}, zR L xs (d + 8) m_Mo_operate 122 [(5, .int (nI l)), (4, .int (bI tw)), (3, .int (bI (plc op))), (0, .ref 20), (1, .int (nI op)), (2, .int x)] [] (mV C u (beA a B (costN op)) (goB b B) V (goM (fu a 0 0) b M B B) R) 0 o h9 0 → zR L xs (d + 8) m_Mo_operate 66 [(3, .int (bI (plc op))), (0, .ref 20), (1, .int (nI op)), (2, .int x)] [] (mV C u (beA a B (costN op)) (goB b B) V (goM (fu a 0 0) b M B B) R) 0 o h9 0) :
    MoOp L xs d C u a b V M R B n (costN op) (nI op) x 1 n V (a 6) := by
  have e7 : beA a B (costN op) 7 = nI n := (beA_at (by decide) (by decide) (by decide) (by decide)).trans hn
  have e6 : beA a B (costN op) 6 = a 6 := beA_at (by decide) (by decide) (by decide) (by decide)
  have e3 : beA a B (costN op) 3 = a 3 := beA_at (by decide) (by decide) (by decide) (by decide)
  refine ⟨_, V, R, hR, e6 ▸ oP_no e7 (fun _ _ => rfl), ?_⟩
  refine h_Mo_operate (d := d + 6) hop hx hB hB2 hce (hpre ?_)
  have h9 := q_Mo_few (L := L) (xs := xs) (d := d + 6) (C := C) (u := u) (a := beA a B (costN op)) (b := goB b B) (V := V) (M := goM (fu a 0 0) b M B B) (R := R) (tw := tw) (pl := plc op) (y := nI op) (x := x) e7 hl hl9
  rw [e3] at h9
  exact h9
set_option maxRecDepth 10000 in
theorem o_Mo_reck {op n B : Nat} {x : Int32} {r : RV × Int32} (hop : op < 4) (hB : a 13 = nI B) (hB2 : B ≤ 1000) (hce : ∀ c, a 14 = c → ¬ c < 0 → ∃ j : Nat, j < 8 ∧ c = nI j) (hn : a 7 = nI n) (hn8 : n ≤ 8) (h2 : 2 ≤ n)
    (hrec : ∃ R' V', Rok R' ∧ V' 10 = r.1 ∧ (∀ i, i < 8 → V' i = fu (fu V 8 (V (n - 1))) 9 (V (n - 2)) i) ∧ zE L xs (d + 7) m_Mo_reckon [.ref 20, .int (nI op)] (mV C u (beA a B (costN op)) (goB b B) (fu (fu V 8 (V (n - 1))) 9 (V (n - 2))) (goM (fu a 0 0) b M B B) R) (.inl none) (mV C u (nt (beA a B (costN op)) r.2) (goB b B) V' (goM (fu a 0 0) b M B B) R')) :
    MoOp L xs d C u a b V M R B n (costN op) (nI op) x r.2 (n - 1) (fu V (n - 2) r.1) (a 6) := by
  obtain ⟨R', V', hR', h10, hV, hz⟩ := hrec
  have e7 : beA a B (costN op) 7 = nI n := (beA_at (by decide) (by decide) (by decide) (by decide)).trans hn
  have e6 : beA a B (costN op) 6 = a 6 := beA_at (by decide) (by decide) (by decide) (by decide)
  have e3 : beA a B (costN op) 3 = a 3 := beA_at (by decide) (by decide) (by decide) (by decide)
  have hP := oP_ch (a := beA a B (costN op)) (V := V) (n := n) (g := 2) (x := r.2) (V' := V') beA_5 e7 (by omega) (fun i hi => by rw [hV i hi, fu_n (by omega), fu_n (by omega)]) h10
  rw [show n - 2 + 1 = n - 1 by omega, e6] at hP
  refine ⟨_, _, R', hR', hP, ?_⟩
  refine h_Mo_operate (d := d + 6) (by omega) (fun h => absurd (of_decide_eq_true h) (by omega)) hB hB2 hce ?_
  have tail : zR L xs (d + 8) m_Mo_operate 170 [(0, .ref 20), (1, .int (nI op)), (2, .int x)] [] (mV C u (beA a B (costN op)) (goB b B) (fu (fu V 8 (V (n - 1))) 9 (V (n - 2))) (goM (fu a 0 0) b M B B) R) 0 (.inl (some (.int (if thr (a 3) r.2 then 0 else r.2)))) (mV C u (chA (nt (beA a B (costN op)) r.2) n 2) (goB b B) (chV (nt (beA a B (costN op)) r.2) V' n 2) (goM (fu a 0 0) b M B B) R') 0 := by
    refine zR_to 172 (st' := [.int (nI 4), .int (nI op)]) rfl ?_
    refine zR_m 1 rfl ?_
    refine zR_if (fun h => absurd h (nI_ge (a := op) (b := 4) hop (by decide))) (fun _ => ?_)
    refine zR_to 177 (st' := [.int (nI op), .ref 20]) rfl ?_
    refine zR_v rfl rfl rfl rfl rfl ⟨rfl, Nat.le_of_ble_eq_true rfl, Nat.le_of_ble_eq_true rfl⟩ rfl (Nat.le_refl _) hz rfl rfl ?_
    refine zR_to 182 (st' := [.int (nI 2), .ref 20]) rfl ?_
    refine zR_v rfl rfl rfl rfl rfl ⟨rfl, Nat.le_of_ble_eq_true rfl, Nat.le_of_ble_eq_true rfl⟩ rfl (Nat.le_refl _) (e_Mo_change (n := n) (g := 2) e7 hn8 h2) rfl rfl ?_
    exact zR_q rfl rfl rfl rfl rfl (by rw [chO_ch beA_5 (by omega), e3]) rfl
  have hq := q_Mo_two (L := L) (xs := xs) (d := d + 7) (pl := plc op) e7 h2 hn8 tail
  obtain rfl | rfl | rfl | rfl : op = 0 ∨ op = 1 ∨ op = 2 ∨ op = 3 := by omega
  · exact zR_to 122 rfl hq
  · exact zR_to 122 rfl hq
  · exact zR_to 122 rfl hq
  · exact zR_to 122 rfl hq
set_option maxRecDepth 10000 in
theorem o_Mo_alt {op n B : Nat} {x : Int32} {r : RV × Int32} (hop : op = 4 ∨ op = 5 ∨ op = 6 ∨ op = 8 ∨ op = 9) (hB : a 13 = nI B) (hB2 : B ≤ 1000) (hce : ∀ c, a 14 = c → ¬ c < 0 → ∃ j : Nat, j < 8 ∧ c = nI j) (hn : a 7 = nI n) (hn8 : n ≤ 8) (h1 : 1 ≤ n) (hV : ∀ i, i < 8 → V1 i = V i)
    (hpre : ∀ {o : zO} {h9 : zH}, zR L xs (d + 8) m_Mo_operate 170 [(0, .ref 20), (1, .int (nI op)), (2, .int x)] [] (mV C u (beA a B (costN op)) (goB b B) V1 (goM (fu a 0 0) b M B B) R) 0 o h9 0 → zR L xs (d + 8) m_Mo_operate 66 [(3, .int (bI (plc op))), (0, .ref 20), (1, .int (nI op)), (2, .int x)] [] (mV C u (beA a B (costN op)) (goB b B) V (goM (fu a 0 0) b M B B) R) 0 o h9 0)
    (hal : ∃ R', Rok R' ∧ zE L xs (d + 7) m_Mo_alter [.ref 20, .int (nI op)] (mV C u (beA a B (costN op)) (goB b B) V1 (goM (fu a 0 0) b M B B) R) (.inl none) (mV C u (nt (beA a B (costN op)) r.2) (goB b B) (fu V1 10 r.1) (goM (fu a 0 0) b M B B) R')) :
    MoOp L xs d C u a b V M R B n (costN op) (nI op) x r.2 n (fu V (n - 1) r.1) (a 6) := by
  obtain ⟨R', hR', hz⟩ := hal
  have e7 : beA a B (costN op) 7 = nI n := (beA_at (by decide) (by decide) (by decide) (by decide)).trans hn
  have e6 : beA a B (costN op) 6 = a 6 := beA_at (by decide) (by decide) (by decide) (by decide)
  have e3 : beA a B (costN op) 3 = a 3 := beA_at (by decide) (by decide) (by decide) (by decide)
  have hP := oP_ch (a := beA a B (costN op)) (V := V) (n := n) (g := 1) (x := r.2) (V' := fu V1 10 r.1) beA_5 e7 (by omega) (fun i hi => by rw [fu_n (by omega), hV i hi]) fu_s
  rw [show n - 1 + 1 = n by omega, e6] at hP
  refine ⟨_, _, R', hR', hP, ?_⟩
  refine h_Mo_operate (d := d + 6) (by omega) (fun h => absurd (of_decide_eq_true h) (by omega)) hB hB2 hce (hpre ?_)
  have fin : zR L xs (d + 8) m_Mo_operate 210 [(0, .ref 20), (1, .int (nI op)), (2, .int x)] [] (mV C u (beA a B (costN op)) (goB b B) V1 (goM (fu a 0 0) b M B B) R) 0 (.inl (some (.int (if thr (a 3) r.2 then 0 else r.2)))) (mV C u (chA (nt (beA a B (costN op)) r.2) n 1) (goB b B) (chV (nt (beA a B (costN op)) r.2) (fu V1 10 r.1) n 1) (goM (fu a 0 0) b M B B) R') 0 := by
    refine zR_to 212 (st' := [.int (nI op), .ref 20]) rfl ?_
    refine zR_v rfl rfl rfl rfl rfl ⟨rfl, Nat.le_of_ble_eq_true rfl, Nat.le_of_ble_eq_true rfl⟩ rfl (Nat.le_refl _) hz rfl rfl ?_
    refine zR_to 217 (st' := [.int (nI 1), .ref 20]) rfl ?_
    refine zR_v rfl rfl rfl rfl rfl ⟨rfl, Nat.le_of_ble_eq_true rfl, Nat.le_of_ble_eq_true rfl⟩ rfl (Nat.le_refl _) (e_Mo_change (n := n) (g := 1) e7 hn8 h1) rfl rfl ?_
    exact zR_q rfl rfl rfl rfl rfl (by rw [chO_ch beA_5 (by omega), e3]) rfl
  rcases hop with rfl | rfl | rfl | rfl | rfl
  · exact zR_to 210 rfl fin
  · exact zR_to 210 rfl fin
  · exact zR_to 210 rfl fin
  · exact zR_to 210 rfl fin
  · exact zR_to 210 rfl fin
set_option maxRecDepth 10000 in
theorem o_Mo_ext {n B : Nat} {x e cd' : Int32} {n' : Nat} {v' : Nat → RV} (hB : a 13 = nI B) (hB2 : B ≤ 1000) (hce : ∀ c, a 14 = c → ¬ c < 0 → ∃ j : Nat, j < 8 ∧ c = nI j) (hn : a 7 = nI n) (hn8 : n ≤ 8) (h1 : 1 ≤ n)
    (hex : ∃ a' V' R', Rok R' ∧ oPost (beA a B 6) V e n n' v' cd' a' V' ∧ zE L xs (d + 7) m_Mo_extract [.ref 20] (mV C u (beA a B 6) (goB b B) (fu V 8 (V (n - 1))) (goM (fu a 0 0) b M B B) R) (.inl (some (.int (if thr (a 3) e then 0 else e)))) (mV C u a' (goB b B) V' (goM (fu a 0 0) b M B B) R')) :
    MoOp L xs d C u a b V M R B n 6 (nI 7) x e n' v' cd' := by
  obtain ⟨a', V', R', hR', hP, hz⟩ := hex
  have e7 : beA a B 6 7 = nI n := (beA_at (by decide) (by decide) (by decide) (by decide)).trans hn
  refine ⟨a', V', R', hR', hP, ?_⟩
  refine h_Mo_operate (d := d + 6) (op := 7) (by omega) (fun h => absurd (of_decide_eq_true h) (by omega)) hB hB2 hce ?_
  refine zR_to 122 rfl (q_Mo_one (l := 1) (pl := plc 7) e7 (Nat.le_refl _) h1 hn8 ?_)
  refine zR_to 206 rfl ?_
  refine zR_v rfl rfl rfl rfl rfl ⟨rfl, Nat.le_of_ble_eq_true rfl, Nat.le_of_ble_eq_true rfl⟩ rfl (Nat.le_refl _) hz rfl rfl ?_
  exact zR_e rfl rfl rfl rfl rfl rfl
set_option maxRecDepth 10000 in
theorem o_Mo_mov {op n B : Nat} {x e cd' : Int32} {n' : Nat} {v' : Nat → RV} (hop : op < 16) (hop2 : 10 ≤ op) (hx : plc op = true → outB x (nI 8) = false) (hB : a 13 = nI B) (hB2 : B ≤ 1000) (hce : ∀ c, a 14 = c → ¬ c < 0 → ∃ j : Nat, j < 8 ∧ c = nI j)
    (hpre : ∀ {o : zO} {h9 : zH}, zR L xs (d + 8) m_Mo_operate 170 [(0, .ref 20), (1, .int (nI op)), (2, .int x)] [] (mV C u (beA a B (costN op)) (goB b B) V1 (goM (fu a 0 0) b M B B) R) 0 o h9 0 → zR L xs (d + 8) m_Mo_operate 66 [(3, .int (bI (plc op))), (0, .ref 20), (1, .int (nI op)), (2, .int x)] [] (mV C u (beA a B (costN op)) (goB b B) V (goM (fu a 0 0) b M B B) R) 0 o h9 0)
    (hmv : ∃ a' V' R', Rok R' ∧ oPost (beA a B (costN op)) V e n n' v' cd' a' V' ∧ zE L xs (d + 7) m_Mo_move [.ref 20, .int (nI op), .int x] (mV C u (beA a B (costN op)) (goB b B) V1 (goM (fu a 0 0) b M B B) R) (.inl (some (.int (if thr (a 3) e then 0 else e)))) (mV C u a' (goB b B) V' (goM (fu a 0 0) b M B B) R')) :
    MoOp L xs d C u a b V M R B n (costN op) (nI op) x e n' v' cd' := by
  obtain ⟨a', V', R', hR', hP, hz⟩ := hmv
  refine ⟨a', V', R', hR', hP, ?_⟩
  refine h_Mo_operate (d := d + 6) hop hx hB hB2 hce (hpre ?_)
  refine zR_to 172 (st' := [.int (nI 4), .int (nI op)]) rfl ?_
  refine zR_m 1 rfl ?_
  refine zR_if (fun _ => ?_) (fun h => absurd ((nI_leI (a := 4) (b := op) (by omega) (by omega)).mpr (by omega)) h)
  refine zR_to 189 (st' := [.int (nI 9), .int (nI op)]) rfl ?_
  refine zR_m 1 rfl ?_
  refine zR_if (fun h => absurd ((nI_leI (a := op) (b := 9) (by omega) (by omega)).mp h) (by omega)) (fun _ => ?_)
  refine zR_to 195 (st' := [.int x, .int (nI op), .ref 20]) rfl ?_
  refine zR_v rfl rfl rfl rfl rfl ⟨rfl, Nat.le_of_ble_eq_true rfl, Nat.le_of_ble_eq_true rfl⟩ rfl (Nat.le_refl _) hz rfl rfl ?_
  exact zR_e rfl rfl rfl rfl rfl rfl
end OQ
