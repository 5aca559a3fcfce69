/-! the relation between the class and the reference -/
def RelN (C : Nat → zC) (a : Nat → Int32) (b : Nat → Int64) (V : Nat → RV) (M : Nat → Int64) (R : Nat → Nat) (T0 n p w t fA : Nat) : Prop :=
  cS C n p w (a 3) (a 4) (a 6) V t fA (a 14) (b 15) M ∧ n ≤ 8 ∧ pOk p ∧ w < 4 ∧ a 1 = nI p ∧ a 2 = nI w ∧ a 7 = nI n ∧ a 13 = nI (fA - t) ∧ fA - t ≤ 20 ∧ b 16 = lN t ∧ t ≤ T0 ∧ (∀ i, i < n → vOk (V i)) ∧ Rok R
def Rel (C : Nat → zC) (a : Nat → Int32) (b : Nat → Int64) (V : Nat → RV) (M : Nat → Int64) (R : Nat → Nat) (T0 : Nat) : Prop := ∃ n p w t fA, RelN C a b V M R T0 n p w t fA
def mT (u : zC) (a : Nat → Int32) (b : Nat → Int64) (V : Nat → RV) (M : Nat → Int64) (R : Nat → Nat) : List zC := (mV (fun _ => u) u a b V M R).drop 20
theorem mT_eq {C : Nat → zC} {u : zC} {a : Nat → Int32} {b : Nat → Int64} {V : Nat → RV} {M : Nat → Int64} {R : Nat → Nat} : cH C (mT u a b V M R) = mV C u a b V M R := rfl
section RE
variable {L : Nat} {xs : Nat → Int32} {C C' : Nat → zC} {o : Nat → Int64} {a a' : Nat → Int32} {b b' : Nat → Int64} {V V' : Nat → RV} {M M' : Nat → Int64} {R R' : Nat → Nat} {T0 n p w t fA : Nat}
theorem cS_cg {mk fl cd : Int32} {v v' : Nat → RV} {c : Int32} {cm : Int64} {Mm Mm' : Nat → Int64} (h : cS C n p w mk fl cd v t fA c cm Mm) (hv : ∀ i, i < n → v' i = v i) (hM : ∀ k, k < 8 → Mm' k = Mm k) : cS C n p w mk fl cd v' t fA c cm Mm' := by
  obtain ⟨f, g, sg, A, W, x, y, Mc, S, h1, f0, f1, f2, f3, f4, f5, g1, g2, hS, hW, hst, hM1⟩ := h
  exact ⟨f, g, sg, A, W, x, y, Mc, S, h1, f0, f1, f2, f3, f4, f5, g1, g2, hS, fun i hi => by rw [hW i hi, hv i hi], hst, fun k hk => by rw [hM1 k hk, hM k hk]⟩
theorem cS_c {mk fl cd : Int32} {v : Nat → RV} {c : Int32} {cm : Int64} {Mm : Nat → Int64} (h : cS C n p w mk fl cd v t fA c cm Mm) : c = -1 ∨ (t < fA ∧ ∃ j, j < 8 ∧ c = nI j) := by
  obtain ⟨f, g, sg, A, W, x, y, Mc, S, h1, f0, f1, f2, f3, f4, f5, g1, g2, hS, hW, hst, hM1⟩ := h
  rcases hst with ⟨-, h⟩ | ⟨-, h, j, hj, hc, -⟩
  · exact Or.inl h
  · exact Or.inr ⟨h, j, hj, hc⟩
theorem RelN.sI (h : RelN C a b V M R T0 n p w t fA) (hT : T0 < 2 ^ 60) : sI C n p w (a 3) (a 4) (a 6) V t fA (a 14) (b 15) M := by
  obtain ⟨h1, h2, h3, h4, h5, h6, h7, h8, h9, h10, h11, h12, h13⟩ := h
  exact ⟨h1, h2, by omega, by omega, by omega, h3, h4, h12⟩
theorem RelN.ce (h : RelN C a b V M R T0 n p w t fA) : ∀ c, a 14 = c → ¬ c < 0 → ∃ j : Nat, j < 8 ∧ c = nI j := by
  intro c hc hn
  rcases cS_c h.1 with h1 | ⟨-, j, h1, h2⟩
  · rw [← hc, h1] at hn
    exact absurd (by decide) hn
  · exact ⟨j, h1, hc.symm.trans h2⟩
theorem RelN.moI (h : RelN C a b V M R T0 n p w t fA) : MoI a V R n (fA - t) p w := by
  have hce := h.ce
  obtain ⟨h1, h2, h3, h4, h5, h6, h7, h8, h9, h10, h11, h12, h13⟩ := h
  exact ⟨h8, by omega, hce, h7, h2, ⟨h5, h6, h3, h4⟩, h12, h13⟩
theorem RelN.goM (h : RelN C a b V M R T0 n p w t fA) : goM (fu a 0 0) b M (fA - t) (fA - t) = flM (a 14) (b 15) M := by
  show (if fA - t ≠ 0 ∧ fA - t ≤ fA - t ∧ 0 ≤ a 14 then fu M (a 14).toNatClampNeg (b 15) else M) = if 0 ≤ a 14 then fu M (a 14).toNatClampNeg (b 15) else M
  rcases cS_c h.1 with h1 | ⟨h0, j, h1, h2⟩
  · rw [h1, if_neg (fun h9 => absurd h9.2.2 (by decide)), if_neg (by decide)]
  · have h3 : (0 : Int32) ≤ a 14 := by
      rw [h2]
      exact nI_pos' (by omega)
    rw [if_pos ⟨by omega, Nat.le_refl _, h3⟩, if_pos h3]
theorem RelN.be14 (h : RelN C a b V M R T0 n p w t fA) {tt : Nat} : beA a (fA - t) tt 14 = -1 := by
  show goA (fu a 0 0) (fA - t) (fA - t) 14 = -1
  unfold goA
  rw [show fu a 0 0 14 = a 14 from rfl]
  rcases cS_c h.1 with h1 | ⟨h0, j, h1, h2⟩
  · split
    · exact h1
    · rw [if_neg (fun h9 : _ ∧ (0 : Int32) ≤ a 14 => absurd h9.2 (by rw [h1]; decide))]
      exact h1
  · have h3 : (0 : Int32) ≤ a 14 := by
      rw [h2]
      exact nI_pos' (by omega)
    rw [if_neg (by omega), if_pos ⟨Nat.le_refl _, h3⟩]
    rfl
theorem mkRel {n1 cost : Nat} {fl1 cd1 c1 : Int32} {v1 : Nat → RV} {cm1 : Int64} {M1 : Nat → Int64} (hN : RelN C a b V M R T0 n p w t fA) (hC' : cS C' n1 p w (a 3) fl1 cd1 v1 (t + (fA - t)) (t + (fA - t) + cost) c1 cm1 M1) (hn1 : n1 ≤ 8) (hv1 : ∀ i, i < n1 → vOk (v1 i)) (hcost : cost ≤ 20) (e1 : a' 1 = a 1) (e2 : a' 2 = a 2) (e3 : a' 3 = a 3) (e4 : a' 4 = fl1) (e6 : a' 6 = cd1) (e7 : a' 7 = nI n1) (e13 : a' 13 = nI cost) (e14 : a' 14 = c1) (hb15 : b' 15 = cm1) (hb16 : b' 16 = b 16 + lN (fA - t)) (hV : ∀ i, i < n1 → V' i = v1 i) (hM : ∀ k, k < 8 → M' k = M1 k) (hR' : Rok R') : Rel C' a' b' V' M' R' (T0 + 1020) := by
  obtain ⟨h1, h2, h3, h4, h5, h6, h7, h8, h9, h10, h11, h12, h13⟩ := hN
  refine ⟨n1, p, w, t + (fA - t), t + (fA - t) + cost, ?_, hn1, h3, h4, e1.trans h5, e2.trans h6, e7, ?_, by omega, ?_, by omega, fun i hi => by rw [hV i hi]; exact hv1 i hi, hR'⟩
  · rw [e3, e4, e6, e14, hb15]
    exact cS_cg hC' hV hM
  · rw [e13]
    congr 1
    omega
  · rw [hb16, h10, lN_add]
def Jt (mla mmo : ZM) (L : Nat) (xs : Nat → Int32) (C : Nat → zC) (o : Nat → Int64) (a : Nat → Int32) (b : Nat → Int64) (V : Nat → RV) (M : Nat → Int64) (R : Nat → Nat) (T0 : Nat) (y x : Int32) : Prop := ∃ C' o' a' b' V' M' R' ka be, zE L xs 10 mla [.ref 0, .int y, .int x, .ref 27] (mV C (uO o) a b V M R) (.inl (some (.int ka))) (mV C' (uO o') a b V M R) ∧ zE L xs 10 mmo [.ref 20, .int y, .int x] (mV C' (uO o') a b V M R) (.inl (some (.int be))) (mV C' (uO o') a' b' V' M' R') ∧ a' 0 = ka ∧ (ka = 0 → o' 0 = be.toInt64) ∧ Rel C' a' b' V' M' R' (T0 + 1020)
theorem Rel_bad (h : RelN C a b V M R T0 n p w t fA) {z : Int32} : Rel C (fu a 0 z) b V M R (T0 + 1020) := by
  obtain ⟨h1, h2, h3, h4, h5, h6, h7, h8, h9, h10, h11, h12, h13⟩ := h
  exact ⟨n, p, w, t, fA, h1, h2, h3, h4, h5, h6, h7, h8, h9, h10, by omega, h12, h13⟩
theorem j_op {n' cost : Nat} {y x e cd' : Int32} {v' : Nat → RV} (hN : RelN C a b V M R T0 n p w t fA) (h1 : ∀ T, SRop L xs 2 T C n p w (a 3) (a 4) (a 6) V t fA (a 14) (b 15) M cost y x e n' v' cd') (h2 : ∀ C u, MoOp L xs 2 C u a b V M R (fA - t) n cost y x e n' v' cd') (hn' : n' ≤ 8) (hv' : ∀ i, i < n' → vOk (v' i)) (hc : cost ≤ 20) : Jt m_La_operate m_Mo_operate L xs C o a b V M R T0 y x := by
  obtain ⟨C', hC', hz⟩ := h1 (mT (uO o) a b V M R)
  rw [mT_eq, mT_eq] at hz
  have hi := cS_is hN.1
  have e3 : beA a (fA - t) cost 3 = a 3 := beA_at (by decide) (by decide) (by decide) (by decide)
  have e4 : beA a (fA - t) cost 4 = a 4 := beA_at (by decide) (by decide) (by decide) (by decide)
  have e6 : beA a (fA - t) cost 6 = a 6 := beA_at (by decide) (by decide) (by decide) (by decide)
  have hg := hN.goM
  have hv := hN.2.2.2.2.2.2.2.2.2.2.2.1
  have fin : ∀ (o' : Nat → Int64) (ka be : Int32), (ka = if thr (a 3) e then 2 else 0) → (be = if thr (a 3) e then 0 else e) → (ka = 0 → o' 0 = be.toInt64) → zE L xs 10 m_La_operate [.ref 0, .int y, .int x, .ref 27] (mV C (uO o) a b V M R) (.inl (some (.int ka))) (mV C' (uO o') a b V M R) → Jt m_La_operate m_Mo_operate L xs C o a b V M R T0 y x := by
    intro o' ka be hka hbe ho hla
    obtain ⟨a', V', R', hR', hP, hm⟩ := h2 C' (uO o')
    obtain ⟨p0, p1, p2, p3, p4, p6, p7, p13, p14, pV⟩ := hP
    rw [e3] at p0 p6 p7 pV p3
    rw [← hbe] at hm
    refine ⟨C', o', a', goB b (fA - t), V', goM (fu a 0 0) b M (fA - t) (fA - t), R', ka, be, hla, hm, p0.trans hka.symm, ho, ?_⟩
    refine mkRel hN hC' (by cases thr (a 3) e with | true => exact hN.2.1 | false => exact hn') (fun i hi => ?_) hc (p1.trans (beA_at (by decide) (by decide) (by decide) (by decide))) (p2.trans (beA_at (by decide) (by decide) (by decide) (by decide))) p3 (by rw [p4, e4]) (by rw [p6, e6]) ?_ (p13.trans beA_13) (p14.trans hN.be14) rfl rfl (fun i hi => ?_) (fun k hk => by rw [hg]) hR'
    · cases hth : thr (a 3) e with
      | true =>
        rw [hth] at hi
        exact hv i hi
      | false =>
        rw [hth] at hi
        exact hv' i hi
    · rw [p7]
      split <;> rfl
    · rw [pV i (by
        cases hth : thr (a 3) e with
        | true =>
          rw [hth] at hi
          exact Nat.lt_of_lt_of_le hi hN.2.1
        | false =>
          rw [hth] at hi
          exact Nat.lt_of_lt_of_le hi hn')]
      split <;> rfl
  cases hth : thr (a 3) e with
  | true =>
    rw [hth] at hz
    exact fin o 2 0 (by rw [hth]; rfl) (by rw [hth]; rfl) (fun h => absurd h (by decide)) (la_op_t (d := 9) (Or.inr rfl) hi hz)
  | false =>
    rw [hth] at hz
    exact fin (fu o 0 e.toInt64) 0 e (by rw [hth]; rfl) (by rw [hth]; rfl) (fun _ => rfl) (la_op (d := 9) hi hz)
end RE
