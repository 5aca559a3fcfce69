/-! the class's state, and operate over it -/
def flM (c : Int32) (cm : Int64) (Mm : Nat → Int64) : Nat → Int64 := if 0 ≤ c then fu Mm c.toNatClampNeg cm else Mm
def cS (C : Nat → zC) (n p w : Nat) (mk fl cd : Int32) (v : Nat → RV) (t fA : Nat) (c : Int32) (cm : Int64) (Mm : Nat → Int64) : Prop :=
  ∃ (f : Nat → Int32) (g : Nat → Int64) (sg : Bool) (A : Nat → Option Nat) (W : Nat → RV) (x y : XV) (Mc : Nat → Int64) (S : Nat → Nat), C = sC f g sg A W x y Mc ∧ f 0 = nI n ∧ f 1 = mk ∧ f 2 = fl ∧ f 3 = cd ∧ f 4 = nI p ∧ f 5 = nI w ∧ g 1 = lN t ∧ g 2 = lN fA ∧ stk A S ∧ (∀ i, i < n → W (S i) = v i) ∧ ((sg = false ∧ c = -1) ∨ (sg = true ∧ t < fA ∧ ∃ j, j < 8 ∧ c = nI j ∧ f 6 = nI j ∧ g 3 = cm)) ∧ (∀ k, k < 8 → Mc k = Mm k)
theorem cS_fl {f : Nat → Int32} {g : Nat → Int64} {sg : Bool} {Mc Mm : Nat → Int64} {t fA : Nat} {c : Int32} {cm : Int64} (h : (sg = false ∧ c = -1) ∨ (sg = true ∧ t < fA ∧ ∃ j, j < 8 ∧ c = nI j ∧ f 6 = nI j ∧ g 3 = cm)) (hM : ∀ k, k < 8 → Mc k = Mm k) : (sg = true → f 6 = nI c.toNatClampNeg ∧ c.toNatClampNeg < 8) ∧ ∀ k, k < 8 → mFl sg Mc c.toNatClampNeg (g 3) k = flM c cm Mm k := by
  rcases h with ⟨rfl, rfl⟩ | ⟨rfl, h1, j, h2, rfl, h3, h4⟩
  · exact ⟨fun h => absurd h (by decide), fun k hk => hM k hk⟩
  · rw [nI_clamp (by omega)]
    refine ⟨fun _ => ⟨h3, h2⟩, fun k hk => ?_⟩
    unfold mFl flM
    rw [if_pos rfl, if_pos (nI_pos' (by omega)), nI_clamp (by omega), h4]
    unfold fu
    split
    · rfl
    · exact hM k hk
/-- what operate of the class ends in -/
def SRop (L : Nat) (xs : Nat → Int32) (d : Nat) (T : List zC) (C : Nat → zC) (n p w : Nat) (mk fl cd : Int32) (v : Nat → RV) (t fA : Nat) (c : Int32) (cm : Int64) (Mm : Nat → Int64) (cost : Nat) (yy z e : Int32) (n' : Nat) (v' : Nat → RV) (cd' : Int32) : Prop :=
  ∃ C', cS C' (if thr mk e then n else n') p w mk (fl ||| e) (if thr mk e then cd else cd') (if thr mk e then v else v') (t + (fA - t)) (t + (fA - t) + cost) (-1) cm (flM c cm Mm) ∧ zE L xs (d + 7) m_SR_operate [.ref 0, .int yy, .int z] (cH C T) (if thr mk e then .inr 2 else .inl (some (.int e))) (cH C' T)
section SK
variable {L : Nat} {xs : Nat → Int32} {d : Nat} {T : List zC} {C : Nat → zC} {n p w : Nat} {mk fl cd : Int32} {v : Nat → RV} {t fA : Nat} {c : Int32} {cm : Int64} {Mm : Nat → Int64}
set_option maxRecDepth 10000 in
theorem sr_no {op j : Nat} {z : Int32} (hC : cS C n p w mk fl cd v t fA c cm Mm) (hn8 : n ≤ 8) (h1 : t < 2 ^ 61) (h2 : fA < 2 ^ 61) (h3 : fA - t < 2 ^ 31) (hop : op < 16) (hz : plc op = true → z = nI j ∧ j < 8) (hps : psb op (lstN op j) n (v (n - 1)) = false ∨ n < lstN op j) : SRop L xs d T C n p w mk fl cd v t fA c cm Mm (costN op) (nI op) z 1 n v cd := by
  obtain ⟨f, g, sg, A, W, x, y, Mc, S, rfl, f0, f1, f2, f3, f4, f5, g1, g2, hS, hW, hst, hM⟩ := hC
  obtain ⟨hj, hfl⟩ := cS_fl (g := g) hst hM
  have hzo : plc op = true → outB z (nI 8) = false := fun h => by
    obtain ⟨rfl, h9⟩ := hz h
    exact out8 h9
  have hb : psb op (lstN op j) n (W (S (n - 1))) = false := by
    rcases Nat.lt_or_ge n (lstN op j) with h | h
    · unfold psb
      rw [decide_eq_false (show ¬ lstN op j ≤ n by omega)]
      rfl
    · rcases hps with h9 | h9
      · rcases Nat.eq_zero_or_pos n with h0 | h0
        · subst h0
          unfold psb at h9 ⊢
          have hl0 : lstN op j = 0 := by omega
          have hop7 : op ≠ 7 := fun h8 => by rw [h8] at hl0; exact absurd hl0 (show ¬ (1 : Nat) = 0 by decide)
          rw [decide_eq_true hop7] at h9 ⊢
          simp only [Bool.true_or, Bool.and_true] at h9 ⊢
          exact h9
        · rw [hW (n - 1) (by omega)]
          exact h9
      · omega
  have cs : ∀ n1, n1 = n → cS (sC (fu f 2 (f 2 ||| 1)) (fu (fu g 1 (lN (t + (fA - t)))) 2 (lN (t + (fA - t) + costN op))) false A W x y (mFl sg Mc c.toNatClampNeg (g 3))) n1 p w mk (fl ||| 1) cd v (t + (fA - t)) (t + (fA - t) + costN op) (-1) cm (flM c cm Mm) := by
    rintro n1 rfl
    exact ⟨_, _, _, _, _, _, _, _, S, rfl, f0, f1, by rw [← f2]; rfl, f3, f4, f5, rfl, rfl, hS, hW, Or.inl ⟨rfl, rfl⟩, hfl⟩
  have hd : ∀ {o : zO} {h9 : zH} {k9 : Nat}, k9 ≤ 1 → zR L xs (d + 7) m_SR_operate 70 [(0, .ref 0), (1, .int (nI op)), (2, .int z)] [.int 1, .ref 0] (sH f (fu (fu g 1 (lN (t + (fA - t)))) 2 (lN (t + (fA - t) + costN op))) false A W x y (mFl sg Mc c.toNatClampNeg (g 3)) T) 0 o h9 k9 → zE L xs (d + 7) m_SR_operate [.ref 0, .int (nI op), .int z] (sH f g sg A W x y Mc T) o h9 := fun {o h9 k9} hk hr => by
    refine k_head (d := d + 4) hop hzo g1 g2 h1 h2 h3 hj hk ?_
    generalize fu (fu g 1 (lN (t + (fA - t)))) 2 (lN (t + (fA - t) + costN op)) = gg at *
    generalize mFl sg Mc c.toNatClampNeg (g 3) = MM at *
    refine zR_n 3 rfl ?_
    refine zR_v rfl rfl rfl rfl rfl ⟨rfl, Nat.le_of_ble_eq_true rfl, Nat.le_of_ble_eq_true rfl⟩ rfl (Nat.le_of_ble_eq_true rfl) (c_SR_isPossible hS hop f0 hn8 hz) rfl rfl ?_
    rw [hb]
    exact zR_n 3 rfl hr
  unfold SRop
  cases hth : thr mk 1 with
  | true =>
    refine ⟨_, cs n rfl, hd (k9 := 1) (Nat.le_refl _) ?_⟩
    exact zR_ct rfl rfl rfl rfl (Nat.le_refl _) (c_SR_raise1 (d := d) (by rw [f1]; exact hth)) rfl
  | false =>
    refine ⟨_, cs n rfl, hd (k9 := 1) (Nat.le_refl _) ?_⟩
    refine zR_v rfl rfl rfl rfl rfl ⟨rfl, Nat.le_of_ble_eq_true rfl, Nat.le_of_ble_eq_true rfl⟩ rfl (Nat.le_of_ble_eq_true rfl) (c_SR_raise0 (by rw [f1]; exact hth)) rfl rfl ?_
    exact zR_e rfl rfl rfl rfl rfl rfl
set_option maxRecDepth 10000 in
theorem sr_ok {op j n' : Nat} {z e : Int32} {v' : Nat → RV} {PW : RV → Prop} {cdf : Int32 → Int32} (hC : cS C n p w mk fl cd v t fA c cm Mm) (hn8 : n ≤ 8) (h1 : t < 2 ^ 61) (h2 : fA < 2 ^ 61) (h3 : fA - t < 2 ^ 31) (hop : op < 16) (hz : plc op = true → z = nI j ∧ j < 8) (hl : lstN op j ≤ n) (hps : (!psh op || decide (n < 8)) = true) (h7 : op = 7 → rk (v (n - 1)) = 1)
    (hwork : ∀ (f : Nat → Int32) (g : Nat → Int64) (A : Nat → Option Nat) (W : Nat → RV) (x y : XV) (Mc : Nat → Int64) (S : Nat → Nat), stk A S → f 0 = nI n → f 4 = nI p → f 5 = nI w → (∀ i, i < n → W (S i) = v i) → ∃ W' x', (∀ q, q ≠ 10 → q ≠ 11 → W' q = W q) ∧ PW (W' 10) ∧ zE L xs (d + 6) m_SR_workOut [.ref 0, .int (nI op)] (sH f g false A W x y Mc T) (.inl (some (.int e))) (sH f g false A W' x' y Mc T))
    (hcarry : ∀ (f : Nat → Int32) (g : Nat → Int64) (A : Nat → Option Nat) (W : Nat → RV) (x y : XV) (Mc : Nat → Int64) (S : Nat → Nat), stk A S → f 0 = nI n → (∀ i, i < n → W (S i) = v i) → PW (W 10) → ∃ f2 A2 W2 x2 S2, stk A2 S2 ∧ f2 0 = nI n' ∧ f2 1 = f 1 ∧ f2 2 = f 2 ∧ f2 3 = cdf (f 3) ∧ f2 4 = f 4 ∧ f2 5 = f 5 ∧ (∀ i, i < n' → W2 (S2 i) = v' i) ∧ zE L xs (d + 6) m_SR_carryOut [.ref 0, .int (nI op), .int z] (sH f g false A W x y Mc T) (.inl none) (sH f2 g false A2 W2 x2 y Mc T)) :
    SRop L xs d T C n p w mk fl cd v t fA c cm Mm (costN op) (nI op) z e n' v' (cdf cd) := by
  obtain ⟨f, g, sg, A, W, x, y, Mc, S, rfl, f0, f1, f2, f3, f4, f5, g1, g2, hS, hW, hst, hM⟩ := hC
  obtain ⟨hj, hfl⟩ := cS_fl (g := g) hst hM
  have hzo : plc op = true → outB z (nI 8) = false := fun h => by
    obtain ⟨rfl, h9⟩ := hz h
    exact out8 h9
  have hb : psb op (lstN op j) n (W (S (n - 1))) = true := by
    unfold psb
    rw [decide_eq_true hl, hps]
    by_cases h9 : op = 7
    · have hn1 : 1 ≤ n := by
        rw [h9] at hl
        exact hl
      rw [hW (n - 1) (by omega), decide_eq_true (h7 h9)]
      simp
    · rw [decide_eq_true h9]
      rfl
  obtain ⟨W', x', w1, w2, w3⟩ := hwork f (fu (fu g 1 (lN (t + (fA - t)))) 2 (lN (t + (fA - t) + costN op))) A W x y (mFl sg Mc c.toNatClampNeg (g 3)) S hS f0 f4 f5 hW
  have hW' : ∀ i, i < n → W' (S i) = v i := fun i hi => by
    obtain ⟨-, r1, r2, -⟩ := stk_R hS (show i < 8 by omega)
    rw [w1 _ r1 r2]
    exact hW i hi
  have hd : ∀ {o : zO} {h9 : zH} {k9 : Nat}, k9 ≤ 1 → zR L xs (d + 7) m_SR_operate 80 [(0, .ref 0), (1, .int (nI op)), (2, .int z)] [.int e, .ref 0] (sH f (fu (fu g 1 (lN (t + (fA - t)))) 2 (lN (t + (fA - t) + costN op))) false A W' x' y (mFl sg Mc c.toNatClampNeg (g 3)) T) 0 o h9 k9 → zE L xs (d + 7) m_SR_operate [.ref 0, .int (nI op), .int z] (sH f g sg A W x y Mc T) o h9 := fun {o h9 k9} hk hr => by
    refine k_head (d := d + 4) hop hzo g1 g2 h1 h2 h3 hj hk ?_
    generalize fu (fu g 1 (lN (t + (fA - t)))) 2 (lN (t + (fA - t) + costN op)) = gg at *
    generalize mFl sg Mc c.toNatClampNeg (g 3) = MM at *
    refine zR_n 3 rfl ?_
    refine zR_v rfl rfl rfl rfl rfl ⟨rfl, Nat.le_of_ble_eq_true rfl, Nat.le_of_ble_eq_true rfl⟩ rfl (Nat.le_of_ble_eq_true rfl) (c_SR_isPossible hS hop f0 hn8 hz) rfl rfl ?_
    rw [hb]
    refine zR_n 4 rfl ?_
    exact zR_v rfl rfl rfl rfl rfl ⟨rfl, Nat.le_of_ble_eq_true rfl, Nat.le_of_ble_eq_true rfl⟩ rfl (Nat.le_of_ble_eq_true rfl) w3 rfl rfl hr
  unfold SRop
  cases hth : thr mk e with
  | true =>
    refine ⟨sC (fu f 2 (f 2 ||| e)) (fu (fu g 1 (lN (t + (fA - t)))) 2 (lN (t + (fA - t) + costN op))) false A W' x' y (mFl sg Mc c.toNatClampNeg (g 3)), ⟨_, _, _, _, _, _, _, _, S, rfl, f0, f1, by rw [← f2]; rfl, f3, f4, f5, rfl, rfl, hS, hW', Or.inl ⟨rfl, rfl⟩, hfl⟩, hd (k9 := 1) (Nat.le_refl _) ?_⟩
    exact zR_ct rfl rfl rfl rfl (Nat.le_refl _) (c_SR_raise1 (d := d) (by rw [f1]; exact hth)) rfl
  | false =>
    obtain ⟨ff, A2, W2, x2, S2, s1, s2, s3, s4, s5, s6, s7, s8, s9⟩ := hcarry (fu f 2 (f 2 ||| e)) (fu (fu g 1 (lN (t + (fA - t)))) 2 (lN (t + (fA - t) + costN op))) A W' x' y (mFl sg Mc c.toNatClampNeg (g 3)) S hS f0 hW' w2
    refine ⟨sC ff (fu (fu g 1 (lN (t + (fA - t)))) 2 (lN (t + (fA - t) + costN op))) false A2 W2 x2 y (mFl sg Mc c.toNatClampNeg (g 3)), ⟨_, _, _, _, _, _, _, _, S2, rfl, s2, s3.trans f1, by rw [s4, ← f2]; rfl, by rw [s5, ← f3]; rfl, s6.trans f4, s7.trans f5, rfl, rfl, s1, s8, Or.inl ⟨rfl, rfl⟩, hfl⟩, hd (k9 := 1) (Nat.le_refl _) ?_⟩
    refine zR_v rfl rfl rfl rfl rfl ⟨rfl, Nat.le_of_ble_eq_true rfl, Nat.le_of_ble_eq_true rfl⟩ rfl (Nat.le_of_ble_eq_true rfl) (c_SR_raise0 (by rw [f1]; exact hth)) rfl rfl ?_
    refine zR_n 4 rfl ?_
    refine zR_v rfl rfl rfl rfl rfl ⟨rfl, Nat.le_of_ble_eq_true rfl, Nat.le_of_ble_eq_true rfl⟩ rfl (Nat.le_of_ble_eq_true rfl) s9 rfl rfl ?_
    exact zR_to 91 rfl (zR_e rfl rfl rfl rfl rfl rfl)
end SK
