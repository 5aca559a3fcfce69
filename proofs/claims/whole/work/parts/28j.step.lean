/-! each case of the law, over the relation -/
def Nx (L : Nat) (xs : Nat → Int32) (i k T0 : Nat) : Prop := ∀ C' o' a' b' V' M' R' k', k' ≤ k + 1 → Rel C' a' b' V' M' R' (T0 + 1020) → ∃ h9 k9, zR L xs 11 m_law 795 (lw i) [] (mV C' (uO o') a' b' V' M' R') k' (.inl (some (.int 1))) h9 k9
def Cs (L : Nat) (xs : Nat → Int32) (i k pc : Nat) (C : Nat → zC) (o : Nat → Int64) (a : Nat → Int32) (b : Nat → Int64) (V : Nat → RV) (M : Nat → Int64) (R : Nat → Nat) : Prop := ∃ h9 k9, zR L xs 11 m_law pc (lw i) [] (mV C (uO o) a b V M R) k (.inl (some (.int 1))) h9 k9
section ST
variable {L : Nat} {xs : Nat → Int32} {i k : Nat} {C C' : Nat → zC} {o : Nat → Int64} {a : Nat → Int32} {b : Nat → Int64} {V : Nat → RV} {M : Nat → Int64} {R : Nat → Nat} {T0 n p w t fA : Nat}
theorem t_0 (hN : RelN C a b V M R T0 n p w t fA) (hL : L ≤ 2048) (hi : i + 4 ≤ L) (hk : k < 600) (nx : Nx L xs i k T0) : Cs L xs i k 116 C o a b V M R := by
  have hs := cS_is hN.1
  cases hb : ctB (xs (i + 1)) (xs (i + 2)) (xs (i + 3)) with
  | true =>
    obtain ⟨h9, k9, hR⟩ := nx C o (fu a 0 1) b V M R (k + 1) (Nat.le_refl _) (Rel_bad hN)
    have h2 := e_Mo_control (L := L) (xs := xs) (d := 9) (C := C) (u := uO o) (a := a) (b := b) (V := V) (M := M) (R := R) (p := xs (i + 1)) (r := xs (i + 2)) (m := xs (i + 3))
    rw [hb] at h2
    exact ⟨h9, k9, lc_0 hL (by omega) hk (la_ct_t (d := 9) hs (c_SR_control0 (d := 3) hb)) h2 rfl hR⟩
  | false =>
    obtain ⟨p1, w1, q1, q2, q3, q4, q5, q6⟩ := ctB_f hb
    obtain ⟨C', hC', hz⟩ := c_SR_control1 (L := L) (xs := xs) (d := 9) (T := mT (uO o) a b V M R) hN.1 q1 q2 q5 q6
    rw [mT_eq, mT_eq] at hz
    have h2 := e_Mo_control (L := L) (xs := xs) (d := 9) (C := C') (u := uO o) (a := a) (b := b) (V := V) (M := M) (R := R) (p := xs (i + 1)) (r := xs (i + 2)) (m := xs (i + 3))
    rw [hb] at h2
    obtain ⟨h1, z2, h3, h4, h5, h6, h7, h8, z9, h10, h11, h12, h13⟩ := hN
    obtain ⟨h9, k9, hR⟩ := nx C' o (fu (fu (fu (fu a 0 0) 1 (xs (i + 1))) 2 (xs (i + 2))) 3 (xs (i + 3))) b V M R (k + 1) (Nat.le_refl _) ⟨n, p1, w1, t, fA, hC', z2, q1, q2, q3, q4, h7, h8, z9, h10, by omega, h12, h13⟩
    refine ⟨h9, k9, lc_0 hL (by omega) hk (la_ct (d := 9) hs ?_) h2 rfl hR⟩
    rw [q3, q4]
    exact hz
theorem t_123 {mla mmo : ZM} {y x : Int32} {pc : Nat} (nx : Nx L xs i k T0) (hJ : Jt mla mmo L xs C o a b V M R T0 y x)
    (hc : ∀ {C' o' a' b' V' M' R' ka be h9 k9}, zE L xs 10 mla [.ref 0, .int y, .int x, .ref 27] (mV C (uO o) a b V M R) (.inl (some (.int ka))) (mV C' (uO o') a b V M R) → zE L xs 10 mmo [.ref 20, .int y, .int x] (mV C' (uO o') a b V M R) (.inl (some (.int be))) (mV C' (uO o') a' b' V' M' R') → a' 0 = ka → (ka = 0 → o' 0 = be.toInt64) → zR L xs 11 m_law 795 (lw i) [] (mV C' (uO o') a' b' V' M' R') (k + 1) (.inl (some (.int 1))) h9 k9 → zR L xs 11 m_law pc (lw i) [] (mV C (uO o) a b V M R) k (.inl (some (.int 1))) h9 k9) : Cs L xs i k pc C o a b V M R := by
  obtain ⟨C', o', a', b', V', M', R', ka, be, h1, h2, h3, h4, h5⟩ := hJ
  obtain ⟨h9, k9, hR⟩ := nx C' o' a' b' V' M' R' (k + 1) (Nat.le_refl _) h5
  exact ⟨h9, k9, hc h1 h2 h3 h4 hR⟩
theorem t_1 (hN : RelN C a b V M R T0 n p w t fA) (hT : T0 < 2 ^ 60) (hL : L ≤ 2048) (hi : i + 4 ≤ L) (hk : k < 600) (nx : Nx L xs i k T0) : Cs L xs i k 176 C o a b V M R :=
  t_123 nx (J_operate (y := xs (i + 1)) (x := xs (i + 2)) hN hT) (fun h1 h2 h3 h4 hR => lc_1 hL (by omega) hk h1 h2 h3 h4 hR)
theorem t_2 (hN : RelN C a b V M R T0 n p w t fA) (hT : T0 < 2 ^ 60) (hL : L ≤ 2048) (hi : i + 4 ≤ L) (hk : k < 600) (nx : Nx L xs i k T0) : Cs L xs i k 244 C o a b V M R :=
  t_123 nx (J_load (y := xs (i + 1)) (x := xs (i + 2)) hN hT) (fun h1 h2 h3 h4 hR => lc_2 hL (by omega) hk h1 h2 h3 h4 hR)
theorem t_3 (hN : RelN C a b V M R T0 n p w t fA) (hT : T0 < 2 ^ 60) (hL : L ≤ 2048) (hi : i + 4 ≤ L) (hk : k < 600) (nx : Nx L xs i k T0) : Cs L xs i k 312 C o a b V M R :=
  t_123 nx (J_store (y := xs (i + 1)) (x := xs (i + 2)) hN hT) (fun h1 h2 h3 h4 hR => lc_3 hL (by omega) hk h1 h2 h3 h4 hR)
theorem t_4 (hN : RelN C a b V M R T0 n p w t fA) (hL : L ≤ 2048) (hi : i + 4 ≤ L) (hk : k < 600) (nx : Nx L xs i k T0) : Cs L xs i k 380 C o a b V M R := by
  have hs := cS_is hN.1
  have hlc := @lc_4 L xs i k
  generalize wl (xs (i + 2)) (xs (i + 3)) = l at hlc
  generalize xs (i + 1) = z at hlc
  cases hb : outB z (nI 8) with
  | true =>
    obtain ⟨h9, k9, hR⟩ := nx C o (fu a 0 1) b V M R (k + 1) (Nat.le_refl _) (Rel_bad hN)
    have h2 := e_Mo_write (L := L) (xs := xs) (d := 9) (C := C) (u := uO o) (a := a) (b := b) (V := V) (M := M) (R := R) (x := z) (v := l)
    rw [hb] at h2
    exact ⟨h9, k9, hlc hL (by omega) hk (la_wr_t (d := 9) hs (c_SR_write0 (d := 3) hb)) h2 rfl hR⟩
  | false =>
    obtain ⟨j, hj, rfl⟩ := outB_f (by decide) hb
    obtain ⟨C', hC', hz⟩ := c_SR_write1 (L := L) (xs := xs) (d := 8) (T := mT (uO o) a b V M R) (l := l) hN.1 hj
    rw [mT_eq, mT_eq] at hz
    have h2 := e_Mo_write (L := L) (xs := xs) (d := 9) (C := C') (u := uO o) (a := a) (b := b) (V := V) (M := M) (R := R) (x := nI j) (v := l)
    rw [hb, nI_clamp (by omega)] at h2
    obtain ⟨h1, z2, h3, h4, h5, h6, h7, h8, z9, h10, h11, h12, h13⟩ := hN
    obtain ⟨h9, k9, hR⟩ := nx C' o (fu a 0 0) b V (fu M j l) R (k + 1) (Nat.le_refl _) ⟨n, p, w, t, fA, hC', z2, h3, h4, h5, h6, h7, h8, z9, h10, by omega, h12, h13⟩
    exact ⟨h9, k9, hlc hL (by omega) hk (la_wr (d := 9) hs hz) h2 rfl hR⟩
theorem t_5 (hN : RelN C a b V M R T0 n p w t fA) (hL : L ≤ 2048) (hi : i + 4 ≤ L) (hk : k < 600) (nx : Nx L xs i k T0) : Cs L xs i k 460 C o a b V M R := by
  have hs := cS_is hN.1
  have hlc := @lc_5 L xs i k
  generalize xs (i + 1) = z at hlc
  have h2 : ∀ u, zE L xs 10 m_Mo_memory [.ref 20, .int z] (mV C u a b V M R) _ _ := fun u => e_Mo_memory (d := 9)
  cases hb : outB z (nI 8) with
  | true =>
    obtain ⟨h9, k9, hR⟩ := nx C o (fu a 0 1) b V M R (k + 1) (Nat.le_refl _) (Rel_bad hN)
    rw [hb] at h2
    exact ⟨h9, k9, hlc hL (by omega) hk (la_me_t (d := 9) hs (c_SR_memory0 (d := 3) hb)) (h2 _) rfl (fun h => absurd h (by decide)) hR⟩
  | false =>
    obtain ⟨j, hj, rfl⟩ := outB_f (by decide) hb
    rw [hb, nI_clamp (by omega)] at h2
    obtain ⟨h9, k9, hR⟩ := nx C (fu o 0 (M j)) (fu a 0 0) b V M R (k + 1) (Nat.le_refl _) (Rel_bad hN)
    exact ⟨h9, k9, hlc hL (by omega) hk (la_me (d := 9) hs (c_SR_memory1 (d := 8) (T := mT (uO o) a b V M R) hN.1 hj)) (h2 _) rfl (fun _ => rfl) hR⟩
theorem t_13 (hN : RelN C a b V M R T0 n p w t fA) (hL : L ≤ 2048) (hi : i + 4 ≤ L) (hk : k < 600) (nx : Nx L xs i k T0) : Cs L xs i k 628 C o a b V M R := by
  have hs := cS_is hN.1
  have hn8 := hN.2.1
  have hlc := @lc_13 L xs i k
  generalize xs (i + 1) = z at hlc
  have h2 : ∀ u, zE L xs 10 m_Mo_kind [.ref 20, .int z] (mV C u a b V M R) _ _ := fun u => e_Mo_kind (d := 9) hN.2.2.2.2.2.2.1 hn8
  cases hb : outB z (nI n) with
  | true =>
    obtain ⟨h9, k9, hR⟩ := nx C o (fu a 0 1) b V M R (k + 1) (Nat.le_refl _) (Rel_bad hN)
    rw [hb] at h2
    exact ⟨h9, k9, hlc hL (by omega) hk (la_ki_t (d := 9) hs (c_SR_kind0 (d := 3) (T := mT (uO o) a b V M R) hN.1 hb)) (h2 _) rfl (fun h => absurd h (by decide)) hR⟩
  | false =>
    obtain ⟨j, hj, rfl⟩ := outB_f (by omega) hb
    rw [hb, nI_clamp (by omega)] at h2
    obtain ⟨h9, k9, hR⟩ := nx C (fu o 0 (rk (V (n - 1 - j)) + (if rn (V (n - 1 - j)) then 4 else 0)).toInt64) (fu a 0 0) b V M R (k + 1) (Nat.le_refl _) (Rel_bad hN)
    exact ⟨h9, k9, hlc hL (by omega) hk (la_ki (d := 9) hs (c_SR_kind1 (d := 8) (T := mT (uO o) a b V M R) hN.1 hj hn8)) (h2 _) rfl (fun _ => rfl) hR⟩
theorem t_14 (hN : RelN C a b V M R T0 n p w t fA) (hL : L ≤ 2048) (hi : i + 4 ≤ L) (hk : k < 600) (nx : Nx L xs i k T0) : Cs L xs i k 684 C o a b V M R := by
  have hs := cS_is hN.1
  have hn8 := hN.2.1
  have hlc := @lc_14 L xs i k
  generalize xs (i + 1) = z at hlc
  have h2 : ∀ u, zE L xs 10 m_Mo_exponent [.ref 20, .int z] (mV C u a b V M R) _ _ := fun u => e_Mo_exponent (d := 9) hN.2.2.2.2.2.2.1 hn8
  cases hb : outB z (nI n) with
  | true =>
    obtain ⟨h9, k9, hR⟩ := nx C o (fu a 0 1) b V M R (k + 1) (Nat.le_refl _) (Rel_bad hN)
    rw [hb] at h2
    exact ⟨h9, k9, hlc hL (by omega) hk (la_ex_t (d := 9) hs (c_SR_exponent0 (d := 3) (T := mT (uO o) a b V M R) hN.1 hb)) (h2 _) rfl (fun h => absurd h (by decide)) hR⟩
  | false =>
    obtain ⟨j, hj, rfl⟩ := outB_f (by omega) hb
    rw [hb, nI_clamp (by omega)] at h2
    obtain ⟨h9, k9, hR⟩ := nx C (fu o 0 (re (V (n - 1 - j))).toInt64) (fu a 0 0) b V M R (k + 1) (Nat.le_refl _) (Rel_bad hN)
    exact ⟨h9, k9, hlc hL (by omega) hk (la_ex (d := 9) hs (c_SR_exponent1 (d := 8) (T := mT (uO o) a b V M R) hN.1 hj hn8)) (h2 _) rfl (fun _ => rfl) hR⟩
theorem t_15 (hN : RelN C a b V M R T0 n p w t fA) (hL : L ≤ 2048) (hi : i + 4 ≤ L) (hk : k < 600) (nx : Nx L xs i k T0) : Cs L xs i k 740 C o a b V M R := by
  have hs := cS_is hN.1
  have hn8 := hN.2.1
  have hlc := @lc_15 L xs i k
  generalize xs (i + 1) = z at hlc
  have h2 : ∀ u, zE L xs 10 m_Mo_significand [.ref 20, .int z] (mV C u a b V M R) _ _ := fun u => e_Mo_significand (d := 9) hN.2.2.2.2.2.2.1 hn8
  cases hb : outB z (nI n) with
  | true =>
    obtain ⟨h9, k9, hR⟩ := nx C o (fu a 0 1) b V M R (k + 1) (Nat.le_refl _) (Rel_bad hN)
    rw [hb] at h2
    exact ⟨h9, k9, hlc hL (by omega) hk (la_sg_t (d := 9) hs (c_SR_significand0 (d := 3) (T := mT (uO o) a b V M R) hN.1 hb)) (h2 _) rfl (fun h => absurd h (by decide)) hR⟩
  | false =>
    obtain ⟨j, hj, rfl⟩ := outB_f (by omega) hb
    rw [hb, nI_clamp (by omega)] at h2
    obtain ⟨h9, k9, hR⟩ := nx C (fu o 0 (V (n - 1 - j)).2.2.2) (fu a 0 0) b V M R (k + 1) (Nat.le_refl _) (Rel_bad hN)
    exact ⟨h9, k9, hlc hL (by omega) hk (la_sg (d := 9) hs (c_SR_significand1 (d := 8) (T := mT (uO o) a b V M R) hN.1 hj hn8)) (h2 _) rfl (fun _ => rfl) hR⟩
theorem relGo {m : Nat} (hN : RelN C a b V M R T0 n p w t fA) (hm : m ≤ 1000) (hC' : cS C' n p w (a 3) (a 4) (a 6) V (t + m) fA (if fA ≤ t + m then -1 else a 14) (b 15) (if fA ≤ t + m then flM (a 14) (b 15) M else M)) : Rel C' (goA (fu a 0 0) (fA - t) m) (goB b m) V (goM (fu a 0 0) b M (fA - t) m) R (T0 + 1020) := by
  have hcc := cS_c hN.1
  obtain ⟨h1, h2, h3, h4, h5, h6, h7, h8, h9, h10, h11, h12, h13⟩ := hN
  have g0 : ∀ q, q ≠ 13 → q ≠ 14 → goA (fu a 0 0) (fA - t) m q = fu a 0 0 q := by
    intro q hq1 hq2
    unfold goA
    split
    · rfl
    · split
      · rw [fu_n hq2, fu_n hq1]
      · rw [fu_n hq1]
  have g14 : goA (fu a 0 0) (fA - t) m 14 = if fA ≤ t + m then -1 else a 14 := by
    unfold goA
    rw [show fu a 0 0 14 = a 14 from rfl]
    by_cases hB : fA - t = 0
    · rw [if_pos hB, if_pos (show fA ≤ t + m by omega)]
      rcases hcc with h | ⟨h, -⟩
      · exact h
      · omega
    · rw [if_neg hB]
      by_cases hB2 : fA ≤ t + m
      · rw [if_pos hB2]
        rcases hcc with h | ⟨-, j, hj, h⟩
        · rw [if_neg (fun h9 : _ ∧ (0 : Int32) ≤ a 14 => absurd h9.2 (by rw [h]; decide))]
          exact h
        · rw [if_pos ⟨by omega, by rw [h]; exact nI_pos' (by omega)⟩]
          rfl
      · rw [if_neg hB2, if_neg (fun h9 => by omega)]
        rfl
  have g13 : goA (fu a 0 0) (fA - t) m 13 = nI (fA - (t + m)) := by
    unfold goA
    rw [show fu a 0 0 14 = a 14 from rfl]
    by_cases hB : fA - t = 0
    · rw [if_pos hB, show fA - (t + m) = fA - t by omega]
      exact h8
    · rw [if_neg hB]
      by_cases hB2 : fA - t ≤ m ∧ 0 ≤ a 14
      · rw [if_pos hB2, show fA - (t + m) = 0 by omega]
        rfl
      · rw [if_neg hB2, show fA - (t + m) = fA - t - m by omega]
        rfl
  have gM : goM (fu a 0 0) b M (fA - t) m = if fA ≤ t + m then flM (a 14) (b 15) M else M := by
    unfold goM flM
    rw [show fu a 0 0 14 = a 14 from rfl]
    rcases hcc with h | ⟨h0, j, hj, h⟩
    · rw [if_neg (fun h9 => absurd h9.2.2 (by rw [h]; decide)), if_neg (show ¬ (0 : Int32) ≤ a 14 by rw [h]; decide)]
      split <;> rfl
    · have h3 : (0 : Int32) ≤ a 14 := by
        rw [h]
        exact nI_pos' (by omega)
      rw [if_pos h3]
      by_cases hB2 : fA ≤ t + m
      · rw [if_pos hB2, if_pos ⟨by omega, by omega, h3⟩]
      · rw [if_neg hB2, if_neg (fun h9 => by omega)]
  refine ⟨n, p, w, t + m, fA, ?_, h2, h3, h4, (g0 1 (by decide) (by decide)).trans h5, (g0 2 (by decide) (by decide)).trans h6, (g0 7 (by decide) (by decide)).trans h7, g13, by omega, ?_, by omega, h12, h13⟩
  · rw [g0 3 (by decide) (by decide), g0 4 (by decide) (by decide), g0 6 (by decide) (by decide), g14, gM]
    exact hC'
  · show b 16 + lN m = _
    rw [h10, lN_add]
theorem t_6 (hN : RelN C a b V M R T0 n p w t fA) (hT : T0 < 2 ^ 60) (hL : L ≤ 2048) (hi : i + 4 ≤ L) (hk : k < 600) (nx : Nx L xs i k T0) : Cs L xs i k 515 C o a b V M R := by
  have hs := cS_is hN.1
  have hI := hN.sI hT
  have hce := hN.ce
  have hlc := @lc_6 L xs i k
  generalize xs (i + 1) = z at hlc
  cases hb : outB z (nI 1001) with
  | true =>
    obtain ⟨h9, k9, hR⟩ := nx C o (fu a 0 1) b V M R (k + 1) (Nat.le_refl _) (Rel_bad hN)
    exact ⟨h9, k9, hlc hL (by omega) hk (la_pa_t (d := 9) hs (c_SR_pass0 (d := 3) hb)) (e_Mo_pass0 (d := 9) hb) rfl hR⟩
  | false =>
    obtain ⟨m, hm, rfl⟩ := outB_f (by decide) hb
    obtain ⟨C', hC', hz⟩ := c_SR_pass1 (L := L) (xs := xs) (d := 8) (T := mT (uO o) a b V M R) hN.1 hm hI.2.2.1 hI.2.2.2.1
    rw [mT_eq, mT_eq] at hz
    obtain ⟨h9, k9, hR⟩ := nx C' o _ _ V _ R (k + 1) (Nat.le_refl _) (relGo hN (by omega) hC')
    have h8 := hN.2.2.2.2.2.2.2.1
    have h99 := hN.2.2.2.2.2.2.2.2.1
    refine ⟨h9, k9, hlc hL (by omega) hk (la_pa (d := 9) hs hz) (e_Mo_pass1 (d := 9) hm h8 (by omega) hce) ?_ hR⟩
    unfold goA
    split
    · rfl
    · split <;> rfl
theorem t_7 (hN : RelN C a b V M R T0 n p w t fA) (hT : T0 < 2 ^ 60) (hk : k < 600) (nx : Nx L xs i k T0) : Cs L xs i k 551 C o a b V M R := by
  have hs := cS_is hN.1
  have hI := hN.sI hT
  obtain ⟨C', hC', hz⟩ := c_SR_await (L := L) (xs := xs) (d := 8) (T := mT (uO o) a b V M R) hN.1 hI.2.2.1 hI.2.2.2.1 hI.2.2.2.2.1
  rw [mT_eq, mT_eq] at hz
  have h8 := hN.2.2.2.2.2.2.2.1
  have h99 := hN.2.2.2.2.2.2.2.2.1
  have hle : fA ≤ t + (fA - t) := by omega
  obtain ⟨h9, k9, hR⟩ := nx C' o _ _ V _ R k (by omega) (relGo hN (m := fA - t) (by omega) (by rw [if_pos hle, if_pos hle]; exact hC'))
  exact ⟨h9, k9, lc_7 hs (by omega) hz (e_Mo_await (d := 9) h8 (by omega) hN.ce) hR⟩
theorem t_8 (hN : RelN C a b V M R T0 n p w t fA) (hk : k < 600) (nx : Nx L xs i k T0) : Cs L xs i k 564 C o a b V M R := by
  obtain ⟨h9, k9, hR⟩ := nx C o (fu a 0 0) b V M R k (by omega) (Rel_bad hN)
  have hz := c_SR_time (L := L) (xs := xs) (d := 10) (T := mT (uO o) a b V M R) hN.1
  rw [← hN.2.2.2.2.2.2.2.2.2.1] at hz
  exact ⟨h9, k9, lc_8 (cS_is hN.1) (by omega) hz (e_Mo_time (d := 10)) hR⟩
theorem t_9 (hN : RelN C a b V M R T0 n p w t fA) (hk : k < 600) (nx : Nx L xs i k T0) : Cs L xs i k 578 C o a b V M R := by
  obtain ⟨h9, k9, hR⟩ := nx C o (fu a 0 0) b V M R k (by omega) (Rel_bad hN)
  have hz := c_SR_flags (L := L) (xs := xs) (d := 10) (T := mT (uO o) a b V M R) hN.1
  exact ⟨h9, k9, lc_9 (cS_is hN.1) (by omega) hz (e_Mo_flags (d := 10)) hR⟩
theorem t_11 (hN : RelN C a b V M R T0 n p w t fA) (hk : k < 600) (nx : Nx L xs i k T0) : Cs L xs i k 602 C o a b V M R := by
  obtain ⟨h9, k9, hR⟩ := nx C o (fu a 0 0) b V M R k (by omega) (Rel_bad hN)
  have hz := c_SR_condition (L := L) (xs := xs) (d := 10) (T := mT (uO o) a b V M R) hN.1
  exact ⟨h9, k9, lc_11 (cS_is hN.1) (by omega) hz (e_Mo_condition (d := 10)) hR⟩
theorem t_12 (hN : RelN C a b V M R T0 n p w t fA) (hk : k < 600) (nx : Nx L xs i k T0) : Cs L xs i k 615 C o a b V M R := by
  obtain ⟨h9, k9, hR⟩ := nx C o (fu a 0 0) b V M R k (by omega) (Rel_bad hN)
  have hz := c_SR_depth (L := L) (xs := xs) (d := 10) (T := mT (uO o) a b V M R) hN.1
  rw [← hN.2.2.2.2.2.2.1] at hz
  exact ⟨h9, k9, lc_12 (cS_is hN.1) (by omega) hz (e_Mo_depth (d := 10)) hR⟩
theorem t_10 (hN : RelN C a b V M R T0 n p w t fA) (hk : k < 600) (nx : Nx L xs i k T0) : Cs L xs i k 591 C o a b V M R := by
  obtain ⟨C', hC', hz⟩ := c_SR_clear (L := L) (xs := xs) (d := 10) (T := mT (uO o) a b V M R) hN.1
  rw [mT_eq, mT_eq] at hz
  have hs := cS_is hN.1
  obtain ⟨h1, z2, h3, h4, h5, h6, h7, h8, z9, h10, h11, h12, h13⟩ := hN
  obtain ⟨h9, k9, hR⟩ := nx C' o (fu (fu a 0 0) 4 0) b V M R k (by omega) ⟨n, p, w, t, fA, hC', z2, h3, h4, h5, h6, h7, h8, z9, h10, by omega, h12, h13⟩
  exact ⟨h9, k9, lc_10 hs (by omega) hz (e_Mo_clear (d := 10)) hR⟩
end ST
