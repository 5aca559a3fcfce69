/-! the plain methods of the class -/
section PM
variable {L : Nat} {xs : Nat → Int32} {d : Nat} {h : zH} {T : List zC} {C : Nat → zC} {n p w : Nat} {mk fl cd : Int32} {v : Nat → RV} {t fA : Nat} {c : Int32} {cm : Int64} {Mm : Nat → Int64} {z yy : Int32}
theorem le31 {z : Int32} : (31 : Int32) < z ↔ nI 32 ≤ z := by
  rw [Int32.lt_iff_toInt_lt, Int32.le_iff_toInt_le]
  show (31 : Int) < _ ↔ (32 : Int) ≤ _
  omega
theorem le1k {z : Int32} : (1000 : Int32) < z ↔ nI 1001 ≤ z := by
  rw [Int32.lt_iff_toInt_lt, Int32.le_iff_toInt_le]
  show (1000 : Int) < _ ↔ (1001 : Int) ≤ _
  omega
set_option maxRecDepth 10000 in
theorem c_SR_control0 {P r m : Int32} (hb : ctB P r m = true) : zE L xs (d + 6) m_SR_control [.ref 0, .int P, .int r, .int m] h (.inr 1) h := by
  have t18 : zR L xs (d + 6) m_SR_control 18 [(0, .ref 0), (1, .int P), (2, .int r), (3, .int m)] [] h 0 (.inr 1) h 1 := zR_t rfl rfl rfl rfl rfl rfl ⟨Nat.le_refl _, rfl, by omega⟩
  have t37 : zR L xs (d + 6) m_SR_control 37 [(0, .ref 0), (1, .int P), (2, .int r), (3, .int m)] [] h 0 (.inr 1) h 1 := zR_t rfl rfl rfl rfl rfl rfl ⟨Nat.le_refl _, rfl, by omega⟩
  have t57 : zR L xs (d + 6) m_SR_control 57 [(0, .ref 0), (1, .int P), (2, .int r), (3, .int m)] [] h 0 (.inr 1) h 1 := zR_t rfl rfl rfl rfl rfl rfl ⟨Nat.le_refl _, rfl, by omega⟩
  have m28 : (P = 24 ∨ P = 53 ∨ P = 64) → zR L xs (d + 6) m_SR_control 28 [(0, .ref 0), (1, .int P), (2, .int r), (3, .int m)] [] h 0 (.inr 1) h 1 := fun hP => by
    refine zR_n 1 rfl ?_
    refine zR_n 1 rfl ?_
    refine zR_if (fun _ => t37) (fun h1 => ?_)
    refine zR_to 34 (st' := [.int 3, .int r]) rfl ?_
    refine zR_m 1 rfl ?_
    refine zR_if (fun h2 => ?_) (fun _ => t37)
    refine zR_n 1 rfl ?_
    refine zR_n 1 rfl ?_
    refine zR_if (fun _ => t57) (fun h3 => ?_)
    refine zR_to 54 (st' := [.int 31, .int m]) rfl ?_
    refine zR_m 1 rfl ?_
    refine zR_if (fun h4 => ?_) (fun _ => t57)
    exfalso
    unfold ctB at hb
    rw [show outB r (nI 4) = false from decide_eq_false (fun h9 => h9.elim h1 (fun h8 => absurd (le3.mpr h8) (Int32.not_lt.mpr h2))), show outB m (nI 32) = false from decide_eq_false (fun h9 => h9.elim h3 (fun h8 => absurd (le31.mpr h8) (Int32.not_lt.mpr h4)))] at hb
    rcases hP with rfl | rfl | rfl
    · exact absurd hb (by decide)
    · exact absurd hb (by decide)
    · exact absurd hb (by decide)
  refine ⟨1, Nat.le_refl _, ?_⟩
  refine zR_to 3 (st' := [.int 24, .int P]) rfl ?_
  refine zR_m 1 rfl ?_
  refine zR_if (fun h1 => m28 (Or.inl h1)) (fun _ => ?_)
  refine zR_to 9 (st' := [.int 53, .int P]) rfl ?_
  refine zR_m 1 rfl ?_
  refine zR_if (fun h1 => m28 (Or.inr (Or.inl h1))) (fun _ => ?_)
  refine zR_to 15 (st' := [.int 64, .int P]) rfl ?_
  refine zR_m 1 rfl ?_
  exact zR_if (fun h1 => m28 (Or.inr (Or.inr h1))) (fun _ => t18)
theorem ctB_f {P r m : Int32} (hb : ctB P r m = false) : ∃ p1 w1, pOk p1 ∧ w1 < 4 ∧ P = nI p1 ∧ r = nI w1 ∧ ¬ m < 0 ∧ m ≤ 31 := by
  unfold ctB at hb
  obtain ⟨h1, h2⟩ := Bool.or_eq_false_iff.mp hb
  obtain ⟨h3, h4⟩ := Bool.or_eq_false_iff.mp h2
  obtain ⟨w1, h5, rfl⟩ := outB_f (by decide) h3
  have h6 := of_decide_eq_false h4
  have h7 : P = 24 ∨ P = 53 ∨ P = 64 := by
    by_cases e1 : P = 24
    · exact Or.inl e1
    · by_cases e2 : P = 53
      · exact Or.inr (Or.inl e2)
      · by_cases e3 : P = 64
        · exact Or.inr (Or.inr e3)
        · rw [decide_eq_true (show P ≠ 24 from e1), decide_eq_true (show P ≠ 53 from e2), decide_eq_true (show P ≠ 64 from e3)] at h1
          exact absurd h1 (by decide)
  have h8 : ¬ m < 0 := fun h9 => h6 (Or.inl h9)
  have h9 : m ≤ 31 := Int32.not_lt.mp (fun h9 => h6 (Or.inr (le31.mp h9)))
  rcases h7 with rfl | rfl | rfl
  · exact ⟨24, w1, Or.inl rfl, h5, rfl, rfl, h8, h9⟩
  · exact ⟨53, w1, Or.inr (Or.inl rfl), h5, rfl, rfl, h8, h9⟩
  · exact ⟨64, w1, Or.inr (Or.inr rfl), h5, rfl, rfl, h8, h9⟩
set_option maxRecDepth 10000 in
theorem c_SR_control1 {m : Int32} {p1 w1 : Nat} (hC : cS C n p w mk fl cd v t fA c cm Mm) (hp : pOk p1) (hw : w1 < 4) (hm : ¬ m < 0) (hm2 : m ≤ 31) : ∃ C', cS C' n p1 w1 m fl cd v t fA c cm Mm ∧ zE L xs d m_SR_control [.ref 0, .int (nI p1), .int (nI w1), .int m] (cH C T) (.inl none) (cH C' T) := by
  obtain ⟨f, g, sg, A, W, x, y, Mc, S, rfl, f0, f1, f2, f3, f4, f5, g1, g2, hS, hW, hst, hM⟩ := hC
  refine ⟨sC (fu (fu (fu f 4 (nI p1)) 5 (nI w1)) 1 m) g sg A W x y Mc, ⟨_, g, sg, A, W, x, y, Mc, S, rfl, f0, rfl, f2, f3, rfl, rfl, g1, g2, hS, hW, hst, hM⟩, 0, Nat.zero_le _, ?_⟩
  have m28 : zR L xs d m_SR_control 28 [(0, .ref 0), (1, .int (nI p1)), (2, .int (nI w1)), (3, .int m)] [] (sH f g sg A W x y Mc T) 0 (.inl none) (sH (fu (fu (fu f 4 (nI p1)) 5 (nI w1)) 1 m) g sg A W x y Mc T) 0 := by
    refine zR_n 1 rfl ?_
    refine zR_n 1 rfl ?_
    refine zR_if (fun h => absurd h (nI_pos (by omega))) (fun _ => ?_)
    refine zR_to 34 (st' := [.int (nI 3), .int (nI w1)]) rfl ?_
    refine zR_m 1 rfl ?_
    refine zR_if (fun _ => ?_) (fun h => absurd ((nI_leI (by omega) (by decide)).mpr (by omega)) h)
    refine zR_n 1 rfl ?_
    refine zR_n 1 rfl ?_
    refine zR_if (fun h => absurd h hm) (fun _ => ?_)
    refine zR_to 54 (st' := [.int 31, .int m]) rfl ?_
    refine zR_m 1 rfl ?_
    refine zR_if (fun _ => ?_) (fun h => absurd hm2 h)
    refine zR_to 88 (h1 := sH (fu (fu (fu f 4 (nI p1)) 5 (nI w1)) 1 m) g sg A W x y Mc T) rfl ?_
    exact zR_e rfl rfl rfl rfl rfl rfl
  rcases hp with rfl | rfl | rfl
  · exact zR_to 28 rfl m28
  · exact zR_to 28 rfl m28
  · exact zR_to 28 rfl m28
set_option maxRecDepth 10000 in
theorem c_SR_write0 {l : Int64} (hb : outB z (nI 8) = true) : zE L xs (d + 6) m_SR_write [.ref 0, .int z, .long l] h (.inr 1) h := by
  refine ⟨1, Nat.le_refl _, ?_⟩
  refine zR_n 1 rfl ?_
  refine zR_i rfl rfl rfl rfl ⟨Nat.le_of_ble_eq_true rfl, Nat.le_of_ble_eq_true rfl, Nat.le_of_ble_eq_true rfl⟩ rfl (Nat.le_of_ble_eq_true rfl) (c_SR_isCell (z := z)) rfl rfl ?_
  rw [hb]
  refine zR_n 1 rfl ?_
  exact zR_t rfl rfl rfl rfl rfl rfl ⟨Nat.le_refl _, rfl, by omega⟩
set_option maxRecDepth 10000 in
theorem c_SR_write1 {l : Int64} {j : Nat} (hC : cS C n p w mk fl cd v t fA c cm Mm) (hj : j < 8) : ∃ C', cS C' n p w mk fl cd v t fA c cm (fu Mm j l) ∧ zE L xs (d + 1) m_SR_write [.ref 0, .int (nI j), .long l] (cH C T) (.inl none) (cH C' T) := by
  obtain ⟨f, g, sg, A, W, x, y, Mc, S, rfl, f0, f1, f2, f3, f4, f5, g1, g2, hS, hW, hst, hM⟩ := hC
  refine ⟨sC f g sg A W x y (fu Mc j l), ⟨f, g, sg, A, W, x, y, _, S, rfl, f0, f1, f2, f3, f4, f5, g1, g2, hS, hW, hst, fun k hk => ?_⟩, 0, Nat.zero_le _, ?_⟩
  · unfold fu
    split
    · rfl
    · exact hM k hk
  · refine zR_n 1 rfl ?_
    refine zR_i rfl rfl rfl rfl ⟨Nat.le_of_ble_eq_true rfl, Nat.le_of_ble_eq_true rfl, Nat.le_of_ble_eq_true rfl⟩ rfl (Nat.le_of_ble_eq_true rfl) (c_SR_isCell (z := nI j)) rfl rfl ?_
    rw [out8 hj]
    refine zR_to 26 (st' := [.long l, .int (nI j), .ref 19]) rfl ?_
    refine zR_ls (q := 19) (N := 8) (f := Mc) rfl rfl (in_nI hj (by decide)) rfl ?_
    rw [nI_clamp (by omega)]
    exact zR_e rfl rfl rfl rfl rfl rfl
set_option maxRecDepth 10000 in
theorem c_SR_memory0 (hb : outB z (nI 8) = true) : zE L xs (d + 6) m_SR_memory [.ref 0, .int z] h (.inr 1) h := by
  refine ⟨1, Nat.le_refl _, ?_⟩
  refine zR_n 1 rfl ?_
  refine zR_i rfl rfl rfl rfl ⟨Nat.le_of_ble_eq_true rfl, Nat.le_of_ble_eq_true rfl, Nat.le_of_ble_eq_true rfl⟩ rfl (Nat.le_of_ble_eq_true rfl) (c_SR_isCell (z := z)) rfl rfl ?_
  rw [hb]
  refine zR_n 1 rfl ?_
  exact zR_t rfl rfl rfl rfl rfl rfl ⟨Nat.le_refl _, rfl, by omega⟩
set_option maxRecDepth 10000 in
theorem c_SR_memory1 {j : Nat} (hC : cS C n p w mk fl cd v t fA c cm Mm) (hj : j < 8) : zE L xs (d + 1) m_SR_memory [.ref 0, .int (nI j)] (cH C T) (.inl (some (.long (Mm j)))) (cH C T) := by
  obtain ⟨f, g, sg, A, W, x, y, Mc, S, rfl, f0, f1, f2, f3, f4, f5, g1, g2, hS, hW, hst, hM⟩ := hC
  refine ⟨0, Nat.zero_le _, ?_⟩
  refine zR_n 1 rfl ?_
  refine zR_i rfl rfl rfl rfl ⟨Nat.le_of_ble_eq_true rfl, Nat.le_of_ble_eq_true rfl, Nat.le_of_ble_eq_true rfl⟩ rfl (Nat.le_of_ble_eq_true rfl) (c_SR_isCell (z := nI j)) rfl rfl ?_
  rw [out8 hj]
  refine zR_to 25 (st' := [.int (nI j), .ref 19]) rfl ?_
  refine zR_la (q := 19) (N := 8) (f := Mc) (v := Mm j) rfl rfl (in_nI hj (by decide)) (by rw [nI_clamp (by omega)]; exact hM j hj) rfl ?_
  exact zR_e rfl rfl rfl rfl rfl rfl
set_option maxRecDepth 10000 in
theorem c_SR_pass0 (hb : outB z (nI 1001) = true) : zE L xs (d + 6) m_SR_pass [.ref 0, .int z] h (.inr 1) h := by
  have t11 : zR L xs (d + 6) m_SR_pass 11 [(0, .ref 0), (1, .int z)] [] h 0 (.inr 1) h 1 := zR_t rfl rfl rfl rfl rfl rfl ⟨Nat.le_refl _, rfl, by omega⟩
  refine ⟨1, Nat.le_refl _, ?_⟩
  refine zR_n 1 rfl ?_
  refine zR_n 1 rfl ?_
  refine zR_if (fun _ => t11) (fun h1 => ?_)
  refine zR_to 8 (st' := [.int 1000, .int z]) rfl ?_
  refine zR_m 1 rfl ?_
  refine zR_if (fun h2 => ?_) (fun _ => t11)
  rcases of_decide_eq_true hb with h9 | h9
  · exact absurd h9 h1
  · exact absurd (le1k.mpr h9) (Int32.not_lt.mpr h2)
/-- the state when k ticks have gone by -/
theorem cS_go {f : Nat → Int32} {g : Nat → Int64} {sg : Bool} {Mc : Nat → Int64} {k : Nat} (hst : (sg = false ∧ c = -1) ∨ (sg = true ∧ t < fA ∧ ∃ j, j < 8 ∧ c = nI j ∧ f 6 = nI j ∧ g 3 = cm)) (hM : ∀ k, k < 8 → Mc k = Mm k) :
    (((sg && !decide (fA ≤ t + k)) = false ∧ (if fA ≤ t + k then -1 else c) = -1) ∨ ((sg && !decide (fA ≤ t + k)) = true ∧ t + k < fA ∧ ∃ j, j < 8 ∧ (if fA ≤ t + k then -1 else c) = nI j ∧ f 6 = nI j ∧ fu g 1 (lN (t + k)) 3 = cm)) ∧ ∀ i, i < 8 → mFl (sg && decide (fA ≤ t + k)) Mc c.toNatClampNeg (g 3) i = (if fA ≤ t + k then flM c cm Mm else Mm) i := by
  have hfl := (cS_fl (g := g) hst hM).2
  by_cases h : fA ≤ t + k
  · rw [decide_eq_true h, if_pos h, if_pos h, Bool.not_true, Bool.and_false, Bool.and_true]
    exact ⟨Or.inl ⟨rfl, rfl⟩, hfl⟩
  · rw [decide_eq_false h, if_neg h, if_neg h, Bool.not_false, Bool.and_true, Bool.and_false]
    refine ⟨?_, hM⟩
    rcases hst with ⟨h1, h2⟩ | ⟨h1, h2, j, h3, h4, h5, h6⟩
    · exact Or.inl ⟨h1, h2⟩
    · exact Or.inr ⟨h1, by omega, j, h3, h4, h5, h6⟩
set_option maxRecDepth 10000 in
theorem c_SR_pass1 {k : Nat} (hC : cS C n p w mk fl cd v t fA c cm Mm) (hk : k < 1001) (h1 : t < 2 ^ 61) (h2 : fA < 2 ^ 61) : ∃ C', cS C' n p w mk fl cd v (t + k) fA (if fA ≤ t + k then -1 else c) cm (if fA ≤ t + k then flM c cm Mm else Mm) ∧ zE L xs (d + 1) m_SR_pass [.ref 0, .int (nI k)] (cH C T) (.inl none) (cH C' T) := by
  obtain ⟨f, g, sg, A, W, x, y, Mc, S, rfl, f0, f1, f2, f3, f4, f5, g1, g2, hS, hW, hst, hM⟩ := hC
  obtain ⟨hj1, -⟩ := cS_fl (g := g) hst hM
  obtain ⟨q1, q2⟩ := cS_go (g := g) (k := k) hst hM
  refine ⟨sC f (fu g 1 (lN (t + k))) (sg && !decide (fA ≤ t + k)) A W x y (mFl (sg && decide (fA ≤ t + k)) Mc c.toNatClampNeg (g 3)), ⟨_, _, _, _, _, _, _, _, S, rfl, f0, f1, f2, f3, f4, f5, fu_s, g2, hS, hW, q1, q2⟩, 0, Nat.zero_le _, ?_⟩
  refine zR_n 1 rfl ?_
  refine zR_n 1 rfl ?_
  refine zR_if (fun h => absurd h (nI_pos (by omega))) (fun _ => ?_)
  refine zR_to 8 (st' := [.int (nI 1000), .int (nI k)]) rfl ?_
  refine zR_m 1 rfl ?_
  refine zR_if (fun _ => ?_) (fun h => absurd ((nI_leI (by omega) (by decide)).mpr (by omega)) h)
  refine zR_to 27 (st' := [.long (nI k).toInt64, .ref 18]) rfl ?_
  rw [nI_l (by omega)]
  refine zR_v rfl rfl rfl rfl rfl ⟨rfl, Nat.le_of_ble_eq_true rfl, Nat.le_of_ble_eq_true rfl⟩ rfl (Nat.le_of_ble_eq_true rfl) (c_Me_goOn (k := k) g1 g2 (by omega) (by omega) hj1) rfl rfl ?_
  exact zR_e rfl rfl rfl rfl rfl rfl
set_option maxRecDepth 10000 in
theorem c_SR_await (hC : cS C n p w mk fl cd v t fA c cm Mm) (h1 : t < 2 ^ 61) (h2 : fA < 2 ^ 61) (h3 : fA - t < 2 ^ 31) : ∃ C', cS C' n p w mk fl cd v (t + (fA - t)) fA (-1) cm (flM c cm Mm) ∧ zE L xs (d + 2) m_SR_await [.ref 0] (cH C T) (.inl (some (.int (nI (fA - t))))) (cH C' T) := by
  obtain ⟨f, g, sg, A, W, x, y, Mc, S, rfl, f0, f1, f2, f3, f4, f5, g1, g2, hS, hW, hst, hM⟩ := hC
  obtain ⟨hj1, hfl⟩ := cS_fl (g := g) hst hM
  refine ⟨sC f (fu g 1 (lN (t + (fA - t)))) false A W x y (mFl sg Mc c.toNatClampNeg (g 3)), ⟨_, _, _, _, _, _, _, _, S, rfl, f0, f1, f2, f3, f4, f5, fu_s, g2, hS, hW, Or.inl ⟨rfl, rfl⟩, hfl⟩, 0, Nat.zero_le _, ?_⟩
  refine zR_to 4 (st' := [.ref 18]) rfl ?_
  refine zR_v rfl rfl rfl rfl rfl ⟨rfl, Nat.le_of_ble_eq_true rfl, Nat.le_of_ble_eq_true rfl⟩ rfl (Nat.le_of_ble_eq_true rfl) (c_Me_waitUntilFree g1 g2 h1 h2 h3 hj1) rfl rfl ?_
  exact zR_e rfl rfl rfl rfl rfl rfl
theorem c_SR_time (hC : cS C n p w mk fl cd v t fA c cm Mm) : zE L xs d m_SR_time [.ref 0] (cH C T) (.inl (some (.long (lN t)))) (cH C T) := by
  obtain ⟨f, g, sg, A, W, x, y, Mc, S, rfl, f0, f1, f2, f3, f4, f5, g1, g2, hS, hW, hst, hM⟩ := hC
  rw [← g1]
  exact zE_m (n := 10) rfl (Nat.le_refl _)
theorem c_SR_flags (hC : cS C n p w mk fl cd v t fA c cm Mm) : zE L xs d m_SR_flags [.ref 0] (cH C T) (.inl (some (.int fl))) (cH C T) := by
  obtain ⟨f, g, sg, A, W, x, y, Mc, S, rfl, f0, f1, f2, f3, f4, f5, g1, g2, hS, hW, hst, hM⟩ := hC
  rw [← f2]
  exact zE_m (n := 10) rfl (Nat.le_refl _)
theorem c_SR_condition (hC : cS C n p w mk fl cd v t fA c cm Mm) : zE L xs d m_SR_condition [.ref 0] (cH C T) (.inl (some (.int cd))) (cH C T) := by
  obtain ⟨f, g, sg, A, W, x, y, Mc, S, rfl, f0, f1, f2, f3, f4, f5, g1, g2, hS, hW, hst, hM⟩ := hC
  rw [← f3]
  exact zE_m (n := 10) rfl (Nat.le_refl _)
theorem c_SR_depth (hC : cS C n p w mk fl cd v t fA c cm Mm) : zE L xs d m_SR_depth [.ref 0] (cH C T) (.inl (some (.int (nI n)))) (cH C T) := by
  obtain ⟨f, g, sg, A, W, x, y, Mc, S, rfl, f0, f1, f2, f3, f4, f5, g1, g2, hS, hW, hst, hM⟩ := hC
  rw [← f0]
  exact zE_m (n := 10) rfl (Nat.le_refl _)
theorem c_SR_clear (hC : cS C n p w mk fl cd v t fA c cm Mm) : ∃ C', cS C' n p w mk 0 cd v t fA c cm Mm ∧ zE L xs d m_SR_clear [.ref 0] (cH C T) (.inl none) (cH C' T) := by
  obtain ⟨f, g, sg, A, W, x, y, Mc, S, rfl, f0, f1, f2, f3, f4, f5, g1, g2, hS, hW, hst, hM⟩ := hC
  exact ⟨sC (fu f 2 0) g sg A W x y Mc, ⟨_, _, _, _, _, _, _, _, S, rfl, f0, f1, rfl, f3, f4, f5, g1, g2, hS, hW, hst, hM⟩, zE_m (n := 10) rfl (Nat.le_refl _)⟩
set_option maxRecDepth 10000 in
theorem c_SR_kind0 (hC : cS C n p w mk fl cd v t fA c cm Mm) (hb : outB z (nI n) = true) : zE L xs (d + 6) m_SR_kind [.ref 0, .int z] (cH C T) (.inr 1) (cH C T) := by
  obtain ⟨f, g, sg, A, W, x, y, Mc, S, rfl, f0, f1, f2, f3, f4, f5, g1, g2, hS, hW, hst, hM⟩ := hC
  refine ⟨1, Nat.le_refl _, ?_⟩
  refine zR_n 2 rfl ?_
  refine zR_v rfl rfl rfl rfl rfl ⟨rfl, Nat.le_of_ble_eq_true rfl, Nat.le_of_ble_eq_true rfl⟩ rfl (Nat.le_of_ble_eq_true rfl) (c_SR_isOnStack f0) rfl rfl ?_
  rw [hb]
  refine zR_n 1 rfl ?_
  exact zR_t rfl rfl rfl rfl rfl rfl ⟨Nat.le_refl _, rfl, by omega⟩
set_option maxRecDepth 10000 in
theorem c_SR_exponent0 (hC : cS C n p w mk fl cd v t fA c cm Mm) (hb : outB z (nI n) = true) : zE L xs (d + 6) m_SR_exponent [.ref 0, .int z] (cH C T) (.inr 1) (cH C T) := by
  obtain ⟨f, g, sg, A, W, x, y, Mc, S, rfl, f0, f1, f2, f3, f4, f5, g1, g2, hS, hW, hst, hM⟩ := hC
  refine ⟨1, Nat.le_refl _, ?_⟩
  refine zR_n 2 rfl ?_
  refine zR_v rfl rfl rfl rfl rfl ⟨rfl, Nat.le_of_ble_eq_true rfl, Nat.le_of_ble_eq_true rfl⟩ rfl (Nat.le_of_ble_eq_true rfl) (c_SR_isOnStack f0) rfl rfl ?_
  rw [hb]
  refine zR_n 1 rfl ?_
  exact zR_t rfl rfl rfl rfl rfl rfl ⟨Nat.le_refl _, rfl, by omega⟩
set_option maxRecDepth 10000 in
theorem c_SR_significand0 (hC : cS C n p w mk fl cd v t fA c cm Mm) (hb : outB z (nI n) = true) : zE L xs (d + 6) m_SR_significand [.ref 0, .int z] (cH C T) (.inr 1) (cH C T) := by
  obtain ⟨f, g, sg, A, W, x, y, Mc, S, rfl, f0, f1, f2, f3, f4, f5, g1, g2, hS, hW, hst, hM⟩ := hC
  refine ⟨1, Nat.le_refl _, ?_⟩
  refine zR_n 2 rfl ?_
  refine zR_v rfl rfl rfl rfl rfl ⟨rfl, Nat.le_of_ble_eq_true rfl, Nat.le_of_ble_eq_true rfl⟩ rfl (Nat.le_of_ble_eq_true rfl) (c_SR_isOnStack f0) rfl rfl ?_
  rw [hb]
  refine zR_n 1 rfl ?_
  exact zR_t rfl rfl rfl rfl rfl rfl ⟨Nat.le_refl _, rfl, by omega⟩
theorem outn {j : Nat} (hj : j < n) (hn : n ≤ 8) : outB (nI j) (nI n) = false := decide_eq_false (fun h9 => by
  rcases h9 with h9 | h9
  · exact nI_pos (n := j) (by omega) h9
  · exact nI_ge (a := j) (b := n) hj (by omega) h9)
set_option maxRecDepth 10000 in
theorem c_SR_exponent1 {j : Nat} (hC : cS C n p w mk fl cd v t fA c cm Mm) (hj : j < n) (hn8 : n ≤ 8) : zE L xs (d + 1) m_SR_exponent [.ref 0, .int (nI j)] (cH C T) (.inl (some (.int (re (v (n - 1 - j)))))) (cH C T) := by
  obtain ⟨f, g, sg, A, W, x, y, Mc, S, rfl, f0, f1, f2, f3, f4, f5, g1, g2, hS, hW, hst, hM⟩ := hC
  refine ⟨0, Nat.zero_le _, ?_⟩
  refine zR_n 2 rfl ?_
  refine zR_v rfl rfl rfl rfl rfl ⟨rfl, Nat.le_of_ble_eq_true rfl, Nat.le_of_ble_eq_true rfl⟩ rfl (Nat.le_of_ble_eq_true rfl) (c_SR_isOnStack f0) rfl rfl ?_
  rw [outn hj hn8]
  refine zR_n 3 rfl ?_
  refine z_st (k := j) (s := S (n - 1 - j)) hS f0 hj hn8 rfl rfl rfl (Nat.le_of_ble_eq_true rfl) (Nat.zero_le _) rfl ?_
  refine zW_g (v0 := v (n - 1 - j)) (stk_R hS (show n - 1 - j < 8 by omega)).1 rfl rfl (hW _ (by omega)) rfl rfl ?_
  exact zR_e rfl rfl rfl rfl rfl rfl
set_option maxRecDepth 10000 in
theorem c_SR_significand1 {j : Nat} (hC : cS C n p w mk fl cd v t fA c cm Mm) (hj : j < n) (hn8 : n ≤ 8) : zE L xs (d + 1) m_SR_significand [.ref 0, .int (nI j)] (cH C T) (.inl (some (.long (v (n - 1 - j)).2.2.2))) (cH C T) := by
  obtain ⟨f, g, sg, A, W, x, y, Mc, S, rfl, f0, f1, f2, f3, f4, f5, g1, g2, hS, hW, hst, hM⟩ := hC
  refine ⟨0, Nat.zero_le _, ?_⟩
  refine zR_n 2 rfl ?_
  refine zR_v rfl rfl rfl rfl rfl ⟨rfl, Nat.le_of_ble_eq_true rfl, Nat.le_of_ble_eq_true rfl⟩ rfl (Nat.le_of_ble_eq_true rfl) (c_SR_isOnStack f0) rfl rfl ?_
  rw [outn hj hn8]
  refine zR_n 3 rfl ?_
  refine z_st (k := j) (s := S (n - 1 - j)) hS f0 hj hn8 rfl rfl rfl (Nat.le_of_ble_eq_true rfl) (Nat.zero_le _) rfl ?_
  refine zW_g (v0 := v (n - 1 - j)) (stk_R hS (show n - 1 - j < 8 by omega)).1 rfl rfl (hW _ (by omega)) rfl rfl ?_
  exact zR_e rfl rfl rfl rfl rfl rfl
set_option maxRecDepth 10000 in
theorem c_SR_kind1 {j : Nat} (hC : cS C n p w mk fl cd v t fA c cm Mm) (hj : j < n) (hn8 : n ≤ 8) : zE L xs (d + 1) m_SR_kind [.ref 0, .int (nI j)] (cH C T) (.inl (some (.int (rk (v (n - 1 - j)) + (if rn (v (n - 1 - j)) then 4 else 0))))) (cH C T) := by
  obtain ⟨f, g, sg, A, W, x, y, Mc, S, rfl, f0, f1, f2, f3, f4, f5, g1, g2, hS, hW, hst, hM⟩ := hC
  have q0 := (stk_R hS (show n - 1 - j < 8 by omega)).1
  have e1 := hW (n - 1 - j) (by omega)
  refine ⟨0, Nat.zero_le _, ?_⟩
  refine zR_n 2 rfl ?_
  refine zR_v rfl rfl rfl rfl rfl ⟨rfl, Nat.le_of_ble_eq_true rfl, Nat.le_of_ble_eq_true rfl⟩ rfl (Nat.le_of_ble_eq_true rfl) (c_SR_isOnStack f0) rfl rfl ?_
  rw [outn hj hn8]
  refine zR_n 3 rfl ?_
  refine z_st (k := j) (s := S (n - 1 - j)) hS f0 hj hn8 rfl rfl rfl (Nat.le_of_ble_eq_true rfl) (Nat.zero_le _) rfl ?_
  refine zR_n 2 rfl ?_
  generalize v (n - 1 - j) = v9 at *
  refine zW_g (v0 := v9) q0 rfl rfl e1 rfl rfl ?_
  cases hn9 : v9.2.1 with
  | true =>
    refine zR_n 2 rfl ?_
    refine zW_g (v0 := v9) q0 rfl rfl e1 rfl rfl ?_
    refine zR_to 44 rfl ?_
    rw [if_pos (show rn v9 = true from hn9)]
    exact zR_e rfl rfl rfl rfl rfl rfl
  | false =>
    refine zR_n 2 rfl ?_
    refine zW_g (v0 := v9) q0 rfl rfl e1 rfl rfl ?_
    rw [if_neg (show ¬ rn v9 = true from by rw [show rn v9 = false from hn9]; decide), Int32.add_zero]
    exact zR_e rfl rfl rfl rfl rfl rfl
end PM
