/-! load and store on both sides -/
section JL
variable {L : Nat} {xs : Nat → Int32} {C : Nat → zC} {o : Nat → Int64} {a : Nat → Int32} {b : Nat → Int64} {V : Nat → RV} {M : Nat → Int64} {R : Nat → Nat} {T0 n p w t fA : Nat}
theorem j_ld {n' : Nat} {y x e : Int32} {v' : Nat → RV} (hN : RelN C a b V M R T0 n p w t fA) (h1 : ∀ T, SRld L xs 2 T C n p w (a 3) (a 4) (a 6) V t fA (a 14) (b 15) M y x e n' v') (h2 : ∀ C u, MoLd L xs 4 C u a b V M R (fA - t) n y x e n' v') (hn' : n' ≤ 8) (hv' : ∀ i, i < n' → vOk (v' i)) : Jt m_La_load m_Mo_load L xs C o a b V M R T0 y x := by
  obtain ⟨C', hC', hz⟩ := h1 (mT (uO o) a b V M R)
  rw [mT_eq, mT_eq] at hz
  have hi := cS_is hN.1
  have e3 : beA a (fA - t) 4 3 = a 3 := beA_at (by decide) (by decide) (by decide) (by decide)
  have e4 : beA a (fA - t) 4 4 = a 4 := beA_at (by decide) (by decide) (by decide) (by decide)
  have e6 : beA a (fA - t) 4 6 = a 6 := beA_at (by decide) (by decide) (by decide) (by decide)
  have hg := hN.goM
  have hv := hN.2.2.2.2.2.2.2.2.2.2.2.1
  have fin : ∀ (o' : Nat → Int64) (ka be : Int32), (ka = if thr (a 3) e then 2 else 0) → (be = if thr (a 3) e then 0 else e) → (ka = 0 → o' 0 = be.toInt64) → zE L xs 10 m_La_load [.ref 0, .int y, .int x, .ref 27] (mV C (uO o) a b V M R) (.inl (some (.int ka))) (mV C' (uO o') a b V M R) → Jt m_La_load m_Mo_load L xs C o a b V M R T0 y x := by
    intro o' ka be hka hbe ho hla
    obtain ⟨a', V', R', hR', hP, hm⟩ := h2 C' (uO o')
    obtain ⟨p0, p1, p2, p3, p4, p6, p7, p13, p14, pV⟩ := hP
    rw [e3] at p0 p6 p7 pV p3
    rw [← hbe] at hm
    refine ⟨C', o', a', goB b (fA - t), V', goM (fu a 0 0) b M (fA - t) (fA - t), R', ka, be, hla, hm, p0.trans hka.symm, ho, ?_⟩
    refine mkRel hN hC' (by cases thr (a 3) e with | true => exact hN.2.1 | false => exact hn') (fun i hi => ?_) (by decide) (p1.trans (beA_at (by decide) (by decide) (by decide) (by decide))) (p2.trans (beA_at (by decide) (by decide) (by decide) (by decide))) p3 (by rw [p4, e4]) (by rw [p6, e6]; split <;> rfl) ?_ (p13.trans beA_13) (p14.trans hN.be14) rfl rfl (fun i hi => ?_) (fun k hk => by rw [hg]) hR'
    · cases hth : thr (a 3) e with
      | true =>
        rw [hth] at hi
        exact hv i hi
      | false =>
        rw [hth] at hi
        exact hv' i hi
    · rw [p7]
      split <;> rfl
    · rw [pV i (by
        cases hth : thr (a 3) e with
        | true =>
          rw [hth] at hi
          exact Nat.lt_of_lt_of_le hi hN.2.1
        | false =>
          rw [hth] at hi
          exact Nat.lt_of_lt_of_le hi hn')]
      split <;> rfl
  cases hth : thr (a 3) e with
  | true =>
    rw [hth] at hz
    exact fin o 2 0 (by rw [hth]; rfl) (by rw [hth]; rfl) (fun h => absurd h (by decide)) (la_ld_t (d := 9) (Or.inr rfl) hi hz)
  | false =>
    rw [hth] at hz
    exact fin (fu o 0 e.toInt64) 0 e (by rw [hth]; rfl) (by rw [hth]; rfl) (fun _ => rfl) (la_ld (d := 9) hi hz)
theorem J_load {y x : Int32} (hN : RelN C a b V M R T0 n p w t fA) (hT : T0 < 2 ^ 60) : Jt m_La_load m_Mo_load L xs C o a b V M R T0 y x := by
  have hi := cS_is hN.1
  have hI := hN.sI hT
  have hJ := hN.moI
  obtain ⟨hC, hn8, ht1, ht2, ht3, hp, hw4, hv⟩ := hN.sI hT
  by_cases hb : outB y (nI 8) = true ∨ outB x (nI 4) = true
  · exact ⟨C, o, fu a 0 1, b, V, M, R, 1, 0, la_ld_t (d := 9) (q := 1) (Or.inl rfl) hi (c_SR_load0 (d := 3) hb), e_Mo_load0 (d := 9) hb, rfl, fun h => absurd h (by decide), Rel_bad hN⟩
  · have hb1 : outB y (nI 8) = false := by
      cases h : outB y (nI 8) with
      | true => exact absurd (Or.inl h) hb
      | false => rfl
    have hb2 : outB x (nI 4) = false := by
      cases h : outB x (nI 4) with
      | true => exact absurd (Or.inr h) hb
      | false => rfl
    obtain ⟨j, hj, rfl⟩ := outB_f (by decide) hb1
    obtain ⟨fm, hfm, rfl⟩ := outB_f (by decide) hb2
    rcases Nat.lt_or_ge n 8 with h3 | h3
    · refine j_ld hN (fun T => s_ld hI hj hfm h3) (fun C u => ?_) (by omega) (vo_fu (fun i hi hne => hv i (by omega)) vo_ld)
      have h9 := l_ld (L := L) (xs := xs) (d := 4) (C := C) (u := u) (b := b) (M := M) hJ hj hfm h3
      rw [hN.goM] at h9
      exact h9
    · exact j_ld hN (fun T => s_ldn hI hj hfm (by omega)) (fun C u => l_ldn hJ hj hfm (by omega)) hn8 hv
theorem j_st {n' : Nat} {y x e c' : Int32} {cm' : Int64} (hN : RelN C a b V M R T0 n p w t fA) (h1 : ∀ T, SRst L xs 2 T C n p w (a 3) (a 4) (a 6) V t fA (a 14) (b 15) M y x e n' c' cm') (hn' : n' ≤ n)
    (h2 : ∀ C u, ∃ a' b' V' R', Rok R' ∧ a' 0 = (if thr (a 3) e then 2 else 0) ∧ a' 1 = a 1 ∧ a' 2 = a 2 ∧ a' 3 = a 3 ∧ a' 4 = a 4 ||| e ∧ a' 6 = a 6 ∧ a' 7 = (if thr (a 3) e then nI n else nI n') ∧ a' 13 = nI 10 ∧ a' 14 = (if thr (a 3) e then -1 else c') ∧ b' 15 = (if thr (a 3) e then b 15 else cm') ∧ b' 16 = goB b (fA - t) 16 ∧ (∀ i, i < 8 → V' i = V i) ∧
      zE L xs 10 m_Mo_store [.ref 20, .int y, .int x] (mV C u a b V M R) (.inl (some (.int (if thr (a 3) e then 0 else e)))) (mV C u a' b' V' (goM (fu a 0 0) b M (fA - t) (fA - t)) R')) : Jt m_La_store m_Mo_store L xs C o a b V M R T0 y x := by
  obtain ⟨C', hC', hz⟩ := h1 (mT (uO o) a b V M R)
  rw [mT_eq, mT_eq] at hz
  have hi := cS_is hN.1
  have hg := hN.goM
  have hv := hN.2.2.2.2.2.2.2.2.2.2.2.1
  have hn8 := hN.2.1
  have hle : (if thr (a 3) e = true then n else n') ≤ n := by
    cases thr (a 3) e with
    | true => exact Nat.le_refl n
    | false => exact hn'
  have fin : ∀ (o' : Nat → Int64) (ka be : Int32), (ka = if thr (a 3) e then 2 else 0) → (be = if thr (a 3) e then 0 else e) → (ka = 0 → o' 0 = be.toInt64) → zE L xs 10 m_La_store [.ref 0, .int y, .int x, .ref 27] (mV C (uO o) a b V M R) (.inl (some (.int ka))) (mV C' (uO o') a b V M R) → Jt m_La_store m_Mo_store L xs C o a b V M R T0 y x := by
    intro o' ka be hka hbe ho hla
    obtain ⟨a', b', V', R', hR', p0, p1, p2, p3, p4, p6, p7, p13, p14, q15, q16, pV, hm⟩ := h2 C' (uO o')
    rw [← hbe] at hm
    refine ⟨C', o', a', b', V', goM (fu a 0 0) b M (fA - t) (fA - t), R', ka, be, hla, hm, p0.trans hka.symm, ho, ?_⟩
    refine mkRel hN hC' (Nat.le_trans hle hn8) (fun i hi => hv i (by omega)) (by decide) p1 p2 p3 p4 p6 ?_ p13 p14 q15 q16 (fun i hi => pV i (by omega)) (fun k hk => by rw [hg]) hR'
    rw [p7]
    split <;> rfl
  cases hth : thr (a 3) e with
  | true =>
    rw [hth] at hz
    exact fin o 2 0 (by rw [hth]; rfl) (by rw [hth]; rfl) (fun h => absurd h (by decide)) (la_st_t (d := 9) (Or.inr rfl) hi hz)
  | false =>
    rw [hth] at hz
    exact fin (fu o 0 e.toInt64) 0 e (by rw [hth]; rfl) (by rw [hth]; rfl) (fun _ => rfl) (la_st (d := 9) hi hz)
theorem J_store {y x : Int32} (hN : RelN C a b V M R T0 n p w t fA) (hT : T0 < 2 ^ 60) : Jt m_La_store m_Mo_store L xs C o a b V M R T0 y x := by
  have hi := cS_is hN.1
  have hI := hN.sI hT
  have hJ := hN.moI
  obtain ⟨hC, hn8, ht1, ht2, ht3, hp, hw4, hv⟩ := hN.sI hT
  by_cases hb : outB y (nI 8) = true ∨ outB x (nI 4) = true
  · exact ⟨C, o, fu a 0 1, b, V, M, R, 1, 0, la_st_t (d := 9) (q := 1) (Or.inl rfl) hi (c_SR_store0 (d := 3) hb), e_Mo_store0 (d := 9) hb, rfl, fun h => absurd h (by decide), Rel_bad hN⟩
  · have hb1 : outB y (nI 8) = false := by
      cases h : outB y (nI 8) with
      | true => exact absurd (Or.inl h) hb
      | false => rfl
    have hb2 : outB x (nI 4) = false := by
      cases h : outB x (nI 4) with
      | true => exact absurd (Or.inr h) hb
      | false => rfl
    obtain ⟨j, hj, rfl⟩ := outB_f (by decide) hb1
    obtain ⟨fm, hfm, rfl⟩ := outB_f (by decide) hb2
    rcases Nat.lt_or_ge n 1 with h3 | h3
    · refine j_st hN (fun T => s_stn hI hj hfm (by omega)) (Nat.le_refl _) (fun C u => ?_)
      obtain ⟨a', V', R', hR', ⟨p0, p1, p2, p3, p4, p6, p7, p13, p14, pV⟩, hm⟩ := l_stn (L := L) (xs := xs) (d := 4) (C := C) (u := u) (b := b) (M := M) hJ hj hfm (by omega)
      have e3 : beA a (fA - t) 10 3 = a 3 := beA_at (by decide) (by decide) (by decide) (by decide)
      have e4 : beA a (fA - t) 10 4 = a 4 := beA_at (by decide) (by decide) (by decide) (by decide)
      have e6 : beA a (fA - t) 10 6 = a 6 := beA_at (by decide) (by decide) (by decide) (by decide)
      rw [e3] at p0 p6 p7 pV p3
      refine ⟨a', goB b (fA - t), V', R', hR', p0, p1.trans (beA_at (by decide) (by decide) (by decide) (by decide)), p2.trans (beA_at (by decide) (by decide) (by decide) (by decide)), p3, by rw [p4, e4], by rw [p6, e6]; split <;> rfl, p7, p13.trans beA_13, ?_, ?_, rfl, fun i hi => ?_, hm⟩
      · rw [p14, hN.be14]
        split <;> rfl
      · split <;> rfl
      · rw [pV i hi]
        split <;> rfl
    · refine j_st hN (fun T => s_st hI hj hfm h3) (Nat.sub_le _ _) (fun C u => ?_)
      obtain ⟨a', b', V', R', hR', p0, p1, p2, p3, p4, p6, p7, p13, p14, q15, q16, pV, hm⟩ := l_st (L := L) (xs := xs) (d := 4) (C := C) (u := u) (b := b) (M := M) hJ hj hfm h3
      rw [hN.be14] at p14
      exact ⟨a', b', V', R', hR', p0, p1, p2, p3, p4, p6, p7, p13, p14, q15, q16, pV, hm⟩
end JL
