/-! each operation of the class -/
section SO
variable {L : Nat} {xs : Nat → Int32} {d : Nat} {T : List zC} {C : Nat → zC} {n p w : Nat} {mk fl cd : Int32} {v : Nat → RV} {t fA : Nat} {c : Int32} {cm : Int64} {Mm : Nat → Int64} {z : Int32}
theorem fu_st {A : Nat → Option Nat} {W : Nat → RV} {S : Nat → Nat} {i0 m : Nat} {r : RV} (hS : stk A S) (hi : i0 < 8) (hm : m ≤ 8) (hW : ∀ i, i < m → i ≠ i0 → W (S i) = v i) : ∀ i, i < m → fu W (S i0) r (S i) = fu v i0 r i := by
  intro i hi2
  by_cases h : i = i0
  · subst h
    rw [fu_s, fu_s]
  · rw [fu_n h, fu_n (fun h9 => h (hS.2 _ _ (by omega) hi h9))]
    exact hW i hi2 h
def sI (C : Nat → zC) (n p w : Nat) (mk fl cd : Int32) (v : Nat → RV) (t fA : Nat) (c : Int32) (cm : Int64) (Mm : Nat → Int64) : Prop := cS C n p w mk fl cd v t fA c cm Mm ∧ n ≤ 8 ∧ t < 2 ^ 61 ∧ fA < 2 ^ 61 ∧ fA - t < 2 ^ 31 ∧ pOk p ∧ w < 4 ∧ ∀ i, i < n → vOk (v i)
theorem s_a {op : Nat} {r : RV × Int32} (hop : op < 4) (hI : sI C n p w mk fl cd v t fA c cm Mm) (h2 : 2 ≤ n)
    (hw : ∀ (f : Nat → Int32) (g : Nat → Int64) (A : Nat → Option Nat) (W : Nat → RV) (x y : XV) (Mc : Nat → Int64) (S : Nat → Nat), stk A S → f 0 = nI n → f 4 = nI p → f 5 = nI w → W (S (n - 1)) = v (n - 1) → W (S (n - 2)) = v (n - 2) → ∃ W' x', (∀ q, q ≠ 10 → q ≠ 11 → W' q = W q) ∧ W' 10 = r.1 ∧ zE L xs (d + 6) m_SR_workOut [.ref 0, .int (nI op)] (sH f g false A W x y Mc T) (.inl (some (.int r.2))) (sH f g false A W' x' y Mc T)) :
    SRop L xs d T C n p w mk fl cd v t fA c cm Mm (costN op) (nI op) z r.2 (n - 1) (fu v (n - 2) r.1) cd := by
  obtain ⟨hC, hn8, h1, h3, h4, hp, hw4, hv⟩ := hI
  refine sr_ok (j := 0) (PW := fun u => u = r.1) (cdf := fun u => u) hC hn8 h1 h3 h4 (by omega) (fun h => absurd (of_decide_eq_true h) (by omega)) ?_ ?_ (fun h => by omega) (fun f g A W x y Mc S hS f0 f4 f5 hW => hw f g A W x y Mc S hS f0 f4 f5 (hW _ (by omega)) (hW _ (by omega))) (fun f g A W x y Mc S hS f0 hW h10 => ?_)
  · unfold lstN
    rw [if_pos (Or.inl hop)]
    exact h2
  · rw [show psh op = false from decide_eq_false (by omega)]
    rfl
  · refine ⟨_, A, _, x, S, hS, fu_s, rfl, rfl, rfl, rfl, rfl, ?_, y_a (d := d + 5) hop hS f0 h2 hn8⟩
    rw [h10]
    exact fu_st hS (by omega) (by omega) (fun i hi _ => hW i (by omega))
theorem s_0 (hI : sI C n p w mk fl cd v t fA c cm Mm) (h2 : 2 ≤ n) : SRop L xs d T C n p w mk fl cd v t fA c cm Mm 8 (nI 0) z (sumR w p (v (n - 1)) (v (n - 2))).2 (n - 1) (fu v (n - 2) (sumR w p (v (n - 1)) (v (n - 2))).1) cd := by
  refine s_a (op := 0) (by decide) hI h2 (fun f g A W x y Mc S hS f0 f4 f5 e1 e2 => ?_)
  obtain ⟨hC, hn8, h1, h3, h4, hp, hw4, hv⟩ := hI
  have h := w_0 (L := L) (xs := xs) (d := d + 1) (f := f) (g := g) (sg := false) (A := A) (W := W) (x := x) (y := y) (Mc := Mc) (T := T) hS f0 h2 hn8 f4 f5 hw4 hp (by rw [e1]; exact hv _ (by omega)) (by rw [e2]; exact hv _ (by omega))
  rw [e1, e2] at h
  exact h
theorem s_1 (hI : sI C n p w mk fl cd v t fA c cm Mm) (h2 : 2 ≤ n) : SRop L xs d T C n p w mk fl cd v t fA c cm Mm 8 (nI 1) z (sumR w p (negR (v (n - 1))) (v (n - 2))).2 (n - 1) (fu v (n - 2) (sumR w p (negR (v (n - 1))) (v (n - 2))).1) cd := by
  refine s_a (op := 1) (by decide) hI h2 (fun f g A W x y Mc S hS f0 f4 f5 e1 e2 => ?_)
  obtain ⟨hC, hn8, h1, h3, h4, hp, hw4, hv⟩ := hI
  have h := w_1 (L := L) (xs := xs) (d := d + 1) (f := f) (g := g) (sg := false) (A := A) (W := W) (x := x) (y := y) (Mc := Mc) (T := T) hS f0 h2 hn8 f4 f5 hw4 hp (by rw [e1]; exact hv _ (by omega)) (by rw [e2]; exact hv _ (by omega))
  rw [e1, e2] at h
  exact h
theorem s_2 (hI : sI C n p w mk fl cd v t fA c cm Mm) (h2 : 2 ≤ n) : SRop L xs d T C n p w mk fl cd v t fA c cm Mm 12 (nI 2) z (mulR w p (v (n - 1)) (v (n - 2))).2 (n - 1) (fu v (n - 2) (mulR w p (v (n - 1)) (v (n - 2))).1) cd := by
  refine s_a (op := 2) (by decide) hI h2 (fun f g A W x y Mc S hS f0 f4 f5 e1 e2 => ?_)
  obtain ⟨hC, hn8, h1, h3, h4, hp, hw4, hv⟩ := hI
  have h := w_2 (L := L) (xs := xs) (d := d + 1) (f := f) (g := g) (sg := false) (A := A) (W := W) (x := x) (y := y) (Mc := Mc) (T := T) hS f0 h2 hn8 f4 f5 hw4 hp (by rw [e1]; exact hv _ (by omega)) (by rw [e2]; exact hv _ (by omega))
  rw [e1, e2] at h
  exact h
theorem s_3 (hI : sI C n p w mk fl cd v t fA c cm Mm) (h2 : 2 ≤ n) : SRop L xs d T C n p w mk fl cd v t fA c cm Mm 20 (nI 3) z (divR w p (v (n - 2)) (v (n - 1))).2 (n - 1) (fu v (n - 2) (divR w p (v (n - 2)) (v (n - 1))).1) cd := by
  refine s_a (op := 3) (by decide) hI h2 (fun f g A W x y Mc S hS f0 f4 f5 e1 e2 => ?_)
  obtain ⟨hC, hn8, h1, h3, h4, hp, hw4, hv⟩ := hI
  have h := w_3 (L := L) (xs := xs) (d := d + 1) (f := f) (g := g) (sg := false) (A := A) (W := W) (x := x) (y := y) (Mc := Mc) (T := T) hS f0 h2 hn8 f4 f5 hw4 hp (by rw [e1]; exact hv _ (by omega)) (by rw [e2]; exact hv _ (by omega))
  rw [e1, e2] at h
  exact h
theorem s_b {op : Nat} {r : RV × Int32} (hop : op = 4 ∨ op = 5 ∨ op = 6) (hI : sI C n p w mk fl cd v t fA c cm Mm) (h1' : 1 ≤ n) (h6 : op = 6 → 2 ≤ n)
    (hw : ∀ (f : Nat → Int32) (g : Nat → Int64) (A : Nat → Option Nat) (W : Nat → RV) (x y : XV) (Mc : Nat → Int64) (S : Nat → Nat), stk A S → f 0 = nI n → f 4 = nI p → f 5 = nI w → (∀ i, i < n → W (S i) = v i) → ∃ W' x', (∀ q, q ≠ 10 → q ≠ 11 → W' q = W q) ∧ W' 10 = r.1 ∧ zE L xs (d + 6) m_SR_workOut [.ref 0, .int (nI op)] (sH f g false A W x y Mc T) (.inl (some (.int r.2))) (sH f g false A W' x' y Mc T)) :
    SRop L xs d T C n p w mk fl cd v t fA c cm Mm (costN op) (nI op) z r.2 n (fu v (n - 1) r.1) cd := by
  obtain ⟨hC, hn8, h1, h3, h4, hp, hw4, hv⟩ := hI
  refine sr_ok (j := 0) (PW := fun u => u = r.1) (cdf := fun u => u) hC hn8 h1 h3 h4 (by omega) (fun h => absurd (of_decide_eq_true h) (by omega)) ?_ ?_ (fun h => by omega) (fun f g A W x y Mc S hS f0 f4 f5 hW => hw f g A W x y Mc S hS f0 f4 f5 hW) (fun f g A W x y Mc S hS f0 hW h10 => ?_)
  · rcases hop with rfl | rfl | rfl
    · exact h1'
    · exact h1'
    · exact h6 rfl
  · rw [show psh op = false from decide_eq_false (by omega)]
    rfl
  · refine ⟨_, A, _, x, S, hS, f0, rfl, rfl, rfl, rfl, rfl, ?_, y_b (d := d + 5) hop hS f0 h1' hn8⟩
    rw [h10]
    exact fu_st hS (by omega) (by omega) (fun i hi _ => hW i (by omega))
theorem s_4 (hI : sI C n p w mk fl cd v t fA c cm Mm) (h1 : 1 ≤ n) : SRop L xs d T C n p w mk fl cd v t fA c cm Mm 20 (nI 4) z (rootR w p (v (n - 1))).2 n (fu v (n - 1) (rootR w p (v (n - 1))).1) cd := by
  refine s_b (op := 4) (Or.inl rfl) hI h1 (fun h => by omega) (fun f g A W x y Mc S hS f0 f4 f5 hW => ?_)
  obtain ⟨hC, hn8, h1', h3, h4, hp, hw4, hv⟩ := hI
  have h := w_4 (L := L) (xs := xs) (d := d + 1) (f := f) (g := g) (sg := false) (A := A) (W := W) (x := x) (y := y) (Mc := Mc) (T := T) hS f0 h1 hn8 f4 f5 hw4 hp (by rw [hW _ (by omega)]; exact hv _ (by omega))
  rw [hW (n - 1) (by omega)] at h
  exact h
theorem s_5 (hI : sI C n p w mk fl cd v t fA c cm Mm) (h1 : 1 ≤ n) : SRop L xs d T C n p w mk fl cd v t fA c cm Mm 6 (nI 5) z (intR w (v (n - 1))).2 n (fu v (n - 1) (intR w (v (n - 1))).1) cd := by
  refine s_b (op := 5) (Or.inr (Or.inl rfl)) hI h1 (fun h => by omega) (fun f g A W x y Mc S hS f0 f4 f5 hW => ?_)
  obtain ⟨hC, hn8, h1', h3, h4, hp, hw4, hv⟩ := hI
  have h := w_5 (L := L) (xs := xs) (d := d + 1) (f := f) (g := g) (sg := false) (A := A) (W := W) (x := x) (y := y) (Mc := Mc) (T := T) hS f0 h1 hn8 f5 hw4 (by rw [hW _ (by omega)]; exact hv _ (by omega))
  rw [hW (n - 1) (by omega)] at h
  exact h
theorem s_6 (hI : sI C n p w mk fl cd v t fA c cm Mm) (h2 : 2 ≤ n) : SRop L xs d T C n p w mk fl cd v t fA c cm Mm 6 (nI 6) z (sclR w p (v (n - 1)) (v (n - 2))).2 n (fu v (n - 1) (sclR w p (v (n - 1)) (v (n - 2))).1) cd := by
  refine s_b (op := 6) (Or.inr (Or.inr rfl)) hI (by omega) (fun _ => h2) (fun f g A W x y Mc S hS f0 f4 f5 hW => ?_)
  obtain ⟨hC, hn8, h1', h3, h4, hp, hw4, hv⟩ := hI
  have h := w_6 (L := L) (xs := xs) (d := d + 1) (f := f) (g := g) (sg := false) (A := A) (W := W) (x := x) (y := y) (Mc := Mc) (T := T) hS f0 h2 hn8 f4 f5 hw4 hp (by rw [hW _ (by omega)]; exact hv _ (by omega)) (by rw [hW _ (by omega)]; exact hv _ (by omega))
  rw [hW (n - 1) (by omega), hW (n - 2) (by omega)] at h
  exact h
/-- an operation without work beforehand -/
theorem s_d {op j n' : Nat} {v' : Nat → RV} (hop : op < 16) (h7 : 7 ≤ op) (h13 : op ≠ 13) (hI : sI C n p w mk fl cd v t fA c cm Mm) (hz : plc op = true → z = nI j ∧ j < 8) (hl : lstN op j ≤ n) (hps : (!psh op || decide (n < 8)) = true) (hk : op = 7 → rk (v (n - 1)) = 1)
    (hcarry : ∀ (f : Nat → Int32) (g : Nat → Int64) (A : Nat → Option Nat) (W : Nat → RV) (x y : XV) (Mc : Nat → Int64) (S : Nat → Nat), stk A S → f 0 = nI n → (∀ i, i < n → W (S i) = v i) → ∃ f2 A2 W2 x2 S2, stk A2 S2 ∧ f2 0 = nI n' ∧ f2 1 = f 1 ∧ f2 2 = f 2 ∧ f2 3 = f 3 ∧ f2 4 = f 4 ∧ f2 5 = f 5 ∧ (∀ i, i < n' → W2 (S2 i) = v' i) ∧ zE L xs (d + 6) m_SR_carryOut [.ref 0, .int (nI op), .int z] (sH f g false A W x y Mc T) (.inl none) (sH f2 g false A2 W2 x2 y Mc T)) :
    SRop L xs d T C n p w mk fl cd v t fA c cm Mm (costN op) (nI op) z 0 n' v' cd := by
  obtain ⟨hC, hn8, h1, h3, h4, hp, hw4, hv⟩ := hI
  exact sr_ok (j := j) (PW := fun _ => True) (cdf := fun u => u) hC hn8 h1 h3 h4 hop hz hl hps hk (fun f g A W x y Mc S hS f0 f4 f5 hW => ⟨W, x, fun _ _ _ => rfl, trivial, w_d (d := d + 1) hop h7 h13⟩) (fun f g A W x y Mc S hS f0 hW _ => hcarry f g A W x y Mc S hS f0 hW)
theorem s_7 (hI : sI C n p w mk fl cd v t fA c cm Mm) (h1 : 1 ≤ n) (hok : rk (v (n - 1)) = 1) (hl : n < 8) : SRop L xs d T C n p w mk fl cd v t fA c cm Mm 6 (nI 7) z 0 (n + 1) (fu (fu v (n - 1) (exE (v (n - 1)))) n (exS (v (n - 1)))) cd := by
  have hv := hI.2.2.2.2.2.2.2
  refine s_d (op := 7) (j := 0) (by decide) (by decide) (by decide) hI (fun h => absurd h (by decide)) h1 (by rw [decide_eq_true hl]; simp) (fun _ => hok) (fun f g A W x y Mc S hS f0 hW => ?_)
  have e1 := hW (n - 1) (by omega)
  obtain ⟨q0, q1, q2, q3⟩ := stk_R hS (show n - 1 < 8 by omega)
  have hy := y_7 (L := L) (xs := xs) (d := d + 3) (f := f) (g := g) (sg := false) (A := A) (W := W) (x := x) (y := y) (Mc := Mc) (T := T) (z := z) hS f0 h1 hl (by rw [e1]; exact hv _ (by omega)) (by rw [e1]; exact hok)
  rw [e1] at hy
  refine ⟨_, A, _, x, S, hS, fu_s, rfl, rfl, rfl, rfl, rfl, ?_, hy⟩
  refine fu_st hS hl (by omega) (fun i hi hne => ?_)
  exact fu_st (m := n) hS (show n - 1 < 8 by omega) (by omega) (fun k hk _ => by
    obtain ⟨-, r1, -, -⟩ := stk_R hS (show k < 8 by omega)
    rw [fu_n r1]
    exact hW k hk) i (by omega)
theorem s_8 (hI : sI C n p w mk fl cd v t fA c cm Mm) (h1 : 1 ≤ n) : SRop L xs d T C n p w mk fl cd v t fA c cm Mm 2 (nI 8) z 0 n (fu v (n - 1) (absR (v (n - 1)))) cd := by
  have hn8 := hI.2.1
  refine s_d (op := 8) (j := 0) (by decide) (by decide) (by decide) hI (fun h => absurd h (by decide)) h1 rfl (fun h => absurd h (by decide)) (fun f g A W x y Mc S hS f0 hW => ?_)
  have hy := y_8 (L := L) (xs := xs) (d := d + 5) (f := f) (g := g) (sg := false) (A := A) (W := W) (x := x) (y := y) (Mc := Mc) (T := T) (z := z) hS f0 h1 hn8
  rw [hW (n - 1) (by omega)] at hy
  exact ⟨_, A, _, x, S, hS, f0, rfl, rfl, rfl, rfl, rfl, fu_st hS (by omega) (by omega) (fun i hi _ => hW i hi), hy⟩
theorem s_9 (hI : sI C n p w mk fl cd v t fA c cm Mm) (h1 : 1 ≤ n) : SRop L xs d T C n p w mk fl cd v t fA c cm Mm 2 (nI 9) z 0 n (fu v (n - 1) (negR (v (n - 1)))) cd := by
  have hn8 := hI.2.1
  refine s_d (op := 9) (j := 0) (by decide) (by decide) (by decide) hI (fun h => absurd h (by decide)) h1 rfl (fun h => absurd h (by decide)) (fun f g A W x y Mc S hS f0 hW => ?_)
  have hy := y_9 (L := L) (xs := xs) (d := d + 5) (f := f) (g := g) (sg := false) (A := A) (W := W) (x := x) (y := y) (Mc := Mc) (T := T) (z := z) hS f0 h1 hn8
  rw [hW (n - 1) (by omega)] at hy
  exact ⟨_, A, _, x, S, hS, f0, rfl, rfl, rfl, rfl, rfl, fu_st hS (by omega) (by omega) (fun i hi _ => hW i hi), hy⟩
theorem s_10 {j : Nat} (hI : sI C n p w mk fl cd v t fA c cm Mm) (hj : j < n) : SRop L xs d T C n p w mk fl cd v t fA c cm Mm 2 (nI 10) (nI j) 0 n (fu (fu v (n - 1) (v (n - 1 - j))) (n - 1 - j) (v (n - 1))) cd := by
  have hn8 := hI.2.1
  refine s_d (op := 10) (j := j) (by decide) (by decide) (by decide) hI (fun _ => ⟨rfl, by omega⟩) hj rfl (fun h => absurd h (by decide)) (fun f g A W x y Mc S hS f0 hW => ?_)
  refine ⟨_, _, W, x, swp S (n - 1 - j) (n - 1), stk_sw hS (by omega) (by omega), f0, rfl, rfl, rfl, rfl, rfl, fun i hi => ?_, y_10 (d := d + 5) hS f0 hj hn8⟩
  unfold swp
  by_cases h1 : i = n - 1
  · subst h1
    rw [fu_s, hW _ (by omega)]
    by_cases h2 : n - 1 = n - 1 - j
    · rw [← h2, fu_s]
    · rw [fu_n h2, fu_s]
  · rw [fu_n h1]
    by_cases h2 : i = n - 1 - j
    · subst h2
      rw [fu_s, fu_s, hW _ (by omega)]
    · rw [fu_n h2, fu_n h2, fu_n h1]
      exact hW i hi
theorem s_11 {j : Nat} (hI : sI C n p w mk fl cd v t fA c cm Mm) (hj : j < n) (hl : n < 8) : SRop L xs d T C n p w mk fl cd v t fA c cm Mm 2 (nI 11) (nI j) 0 (n + 1) (fu v n (v (n - 1 - j))) cd := by
  refine s_d (op := 11) (j := j) (by decide) (by decide) (by decide) hI (fun _ => ⟨rfl, by omega⟩) hj (by rw [decide_eq_true hl]; simp) (fun h => absurd h (by decide)) (fun f g A W x y Mc S hS f0 hW => ?_)
  have hy := y_11 (L := L) (xs := xs) (d := d + 4) (f := f) (g := g) (sg := false) (A := A) (W := W) (x := x) (y := y) (Mc := Mc) (T := T) hS f0 hj hl
  rw [hW (n - 1 - j) (by omega)] at hy
  exact ⟨_, A, _, x, S, hS, fu_s, rfl, rfl, rfl, rfl, rfl, fu_st hS hl (by omega) (fun i hi hne => hW i (by omega)), hy⟩
theorem s_12 (hI : sI C n p w mk fl cd v t fA c cm Mm) (h1 : 1 ≤ n) : SRop L xs d T C n p w mk fl cd v t fA c cm Mm 2 (nI 12) z 0 (n - 1) v cd := by
  refine s_d (op := 12) (j := 0) (by decide) (by decide) (by decide) hI (fun h => absurd h (by decide)) h1 rfl (fun h => absurd h (by decide)) (fun f g A W x y Mc S hS f0 hW => ?_)
  exact ⟨_, A, W, x, S, hS, fu_s, rfl, rfl, rfl, rfl, rfl, fun i hi => hW i (by omega), y_12 (d := d + 5) f0 h1⟩
theorem s_13 (hI : sI C n p w mk fl cd v t fA c cm Mm) (h2 : 2 ≤ n) : SRop L xs d T C n p w mk fl cd v t fA c cm Mm 2 (nI 13) z (if eit (v (n - 1)) (v (n - 2)) 3 then 1 else 0) n v (cmpR (v (n - 1)) (v (n - 2))) := by
  obtain ⟨hC, hn8, h1, h3, h4, hp, hw4, hv⟩ := hI
  refine sr_ok (op := 13) (j := 0) (PW := fun _ => True) (cdf := fun _ => cmpR (v (n - 1)) (v (n - 2))) hC hn8 h1 h3 h4 (by decide) (fun h => absurd h (by decide)) h2 rfl (fun h => absurd h (by decide)) (fun f g A W x y Mc S hS f0 f4 f5 hW => ⟨W, x, fun _ _ _ => rfl, trivial, ?_⟩) (fun f g A W x y Mc S hS f0 hW _ => ?_)
  · have h := w_13 (L := L) (xs := xs) (d := d + 1) (f := f) (g := g) (sg := false) (A := A) (W := W) (x := x) (y := y) (Mc := Mc) (T := T) hS f0 h2 hn8
    rw [hW (n - 1) (by omega), hW (n - 2) (by omega)] at h
    exact h
  · have h := y_13 (L := L) (xs := xs) (d := d + 2) (f := f) (g := g) (sg := false) (A := A) (W := W) (x := x) (y := y) (Mc := Mc) (T := T) (z := z) hS f0 h2 hn8 (by rw [hW _ (by omega)]; exact hv _ (by omega)) (by rw [hW _ (by omega)]; exact hv _ (by omega))
    rw [hW (n - 1) (by omega), hW (n - 2) (by omega)] at h
    exact ⟨fu f 3 (cmpR (v (n - 1)) (v (n - 2))), A, W, x, S, hS, f0, rfl, rfl, rfl, rfl, rfl, hW, h⟩
theorem s_14 {cc : Nat} (hcc : cc = 0 ∨ cc = 1) (hI : sI C n p w mk fl cd v t fA c cm Mm) (hl : n < 8) : SRop L xs d T C n p w mk fl cd v t fA c cm Mm 2 (nI (15 - cc)) z 0 (n + 1) (fu v n (exV false cc)) cd := by
  rcases hcc with rfl | rfl
  · refine s_d (op := 15) (j := 0) (by decide) (by decide) (by decide) hI (fun h => absurd h (by decide)) (Nat.zero_le _) (by rw [decide_eq_true hl]; simp) (fun h => absurd h (by decide)) (fun f g A W x y Mc S hS f0 hW => ?_)
    refine ⟨_, A, _, x, S, hS, fu_s, rfl, rfl, rfl, rfl, rfl, ?_, y_15 (d := d + 4) hS f0 hl⟩
    refine fu_st hS hl (by omega) (fun i hi hne => ?_)
    obtain ⟨-, r1, -, -⟩ := stk_R hS (show i < 8 by omega)
    rw [fu_n r1]
    exact hW i (by omega)
  · refine s_d (op := 14) (j := 0) (by decide) (by decide) (by decide) hI (fun h => absurd h (by decide)) (Nat.zero_le _) (by rw [decide_eq_true hl]; simp) (fun h => absurd h (by decide)) (fun f g A W x y Mc S hS f0 hW => ?_)
    refine ⟨_, A, _, x, S, hS, fu_s, rfl, rfl, rfl, rfl, rfl, ?_, y_14 (d := d + 4) hS f0 hl⟩
    refine fu_st hS hl (by omega) (fun i hi hne => ?_)
    obtain ⟨-, r1, -, -⟩ := stk_R hS (show i < 8 by omega)
    rw [fu_n r1]
    exact hW i (by omega)
end SO
