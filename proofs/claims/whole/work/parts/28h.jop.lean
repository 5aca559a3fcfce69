/-! operate on both sides -/
section JO
variable {L : Nat} {xs : Nat → Int32} {C : Nat → zC} {o : Nat → Int64} {a : Nat → Int32} {b : Nat → Int64} {V : Nat → RV} {M : Nat → Int64} {R : Nat → Nat} {T0 n p w t fA : Nat}
theorem vo_fu {m k : Nat} {r : RV} (h : ∀ i, i < m → i ≠ k → vOk (V i)) (hr : vOk r) : ∀ i, i < m → vOk (fu V k r i) := by
  intro i hi
  by_cases h1 : i = k
  · subst h1
    rw [fu_s]
    exact hr
  · rw [fu_n h1]
    exact h i hi h1
theorem J_operate {y x : Int32} (hN : RelN C a b V M R T0 n p w t fA) (hT : T0 < 2 ^ 60) : Jt m_La_operate m_Mo_operate L xs C o a b V M R T0 y x := by
  have hi := cS_is hN.1
  have hI := hN.sI hT
  have hJ := hN.moI
  obtain ⟨hC, hn8, ht1, ht2, ht3, hp, hw4, hv⟩ := hN.sI hT
  by_cases hb : outB y (nI 16) = true ∨ ((y = nI 10 ∨ y = nI 11) ∧ outB x (nI 8) = true)
  · refine ⟨C, o, fu a 0 1, b, V, M, R, 1, 0, la_op_t (d := 9) (q := 1) (Or.inl rfl) hi ?_, e_Mo_operate0 (d := 8) hb, rfl, fun h => absurd h (by decide), Rel_bad hN⟩
    obtain ⟨f, g, sg, A, W, x9, y9, Mc, rfl⟩ := hi
    exact k_bad (d := 3) (T := mT (uO o) a b V M R) hb
  · have hb1 : outB y (nI 16) = false := by
      cases h : outB y (nI 16) with
      | true => exact absurd (Or.inl h) hb
      | false => rfl
    obtain ⟨op, hop, rfl⟩ := outB_f (by decide) hb1
    have hz : ∃ j, plc op = true → x = nI j ∧ j < 8 := by
      by_cases hpl : plc op = true
      · have h1 : outB x (nI 8) = false := by
          cases h : outB x (nI 8) with
          | true => exact absurd (Or.inr ⟨(of_decide_eq_true hpl).elim (fun h9 => Or.inl (by rw [h9])) (fun h9 => Or.inr (by rw [h9])), h⟩) hb
          | false => rfl
        obtain ⟨j, hj, rfl⟩ := outB_f (by decide) h1
        exact ⟨j, fun _ => ⟨rfl, hj⟩⟩
      · exact ⟨0, fun h => absurd h hpl⟩
    obtain ⟨j, hz⟩ := hz
    have hco := (costN_le op).1
    have no : (psb op (lstN op j) n (V (n - 1)) = false ∨ n < lstN op j) → (∀ C u, MoOp L xs 2 C u a b V M R (fA - t) n (costN op) (nI op) x 1 n V (a 6)) → Jt m_La_operate m_Mo_operate L xs C o a b V M R T0 (nI op) x := fun h1 h2 =>
      j_op hN (fun T => sr_no hC hn8 ht1 ht2 ht3 hop hz h1) h2 hn8 hv hco
    have few : n < lstN op j → Jt m_La_operate m_Mo_operate L xs C o a b V M R T0 (nI op) x := fun h =>
      no (Or.inr h) (fun C u => o_few hJ hop hz h)
    obtain rfl | rfl | rfl | rfl | rfl | rfl | rfl | rfl | rfl | rfl | rfl | rfl | rfl | rfl | rfl | rfl : op = 0 ∨ op = 1 ∨ op = 2 ∨ op = 3 ∨ op = 4 ∨ op = 5 ∨ op = 6 ∨ op = 7 ∨ op = 8 ∨ op = 9 ∨ op = 10 ∨ op = 11 ∨ op = 12 ∨ op = 13 ∨ op = 14 ∨ op = 15 := by omega
    · rcases Nat.lt_or_ge n 2 with h2 | h2
      · exact few h2
      · exact j_op hN (fun T => s_0 hI h2) (fun C u => o_0 hJ h2) (by omega) (vo_fu (fun i hi _ => hv i (by omega)) (vo_sum (hv _ (by omega)) (hv _ (by omega)) hp)) (by decide)
    · rcases Nat.lt_or_ge n 2 with h2 | h2
      · exact few h2
      · exact j_op hN (fun T => s_1 hI h2) (fun C u => o_1 hJ h2) (by omega) (vo_fu (fun i hi _ => hv i (by omega)) (vo_sum (negR_ok (hv _ (by omega))) (hv _ (by omega)) hp)) (by decide)
    · rcases Nat.lt_or_ge n 2 with h2 | h2
      · exact few h2
      · exact j_op hN (fun T => s_2 hI h2) (fun C u => o_2 hJ h2) (by omega) (vo_fu (fun i hi _ => hv i (by omega)) (vo_mul (hv _ (by omega)) (hv _ (by omega)) hp)) (by decide)
    · rcases Nat.lt_or_ge n 2 with h2 | h2
      · exact few h2
      · exact j_op hN (fun T => s_3 hI h2) (fun C u => o_3 hJ h2) (by omega) (vo_fu (fun i hi _ => hv i (by omega)) (vo_div (hv _ (by omega)) (hv _ (by omega)) hp)) (by decide)
    · rcases Nat.lt_or_ge n 1 with h2 | h2
      · exact few h2
      · exact j_op hN (fun T => s_4 hI h2) (fun C u => o_4 hJ h2) hn8 (vo_fu (fun i hi _ => hv i hi) (vo_root (hv _ (by omega)) hp)) (by decide)
    · rcases Nat.lt_or_ge n 1 with h2 | h2
      · exact few h2
      · exact j_op hN (fun T => s_5 hI h2) (fun C u => o_5 hJ h2) hn8 (vo_fu (fun i hi _ => hv i hi) (vo_int (hv _ (by omega)))) (by decide)
    · rcases Nat.lt_or_ge n 2 with h2 | h2
      · exact few h2
      · exact j_op hN (fun T => s_6 hI h2) (fun C u => o_6 hJ h2) hn8 (vo_fu (fun i hi _ => hv i hi) (vo_scl (hv _ (by omega)) hp)) (by decide)
    · rcases Nat.lt_or_ge n 1 with h2 | h2
      · exact few h2
      · by_cases h3 : rk (V (n - 1)) = 1 ∧ n < 8
        · refine j_op hN (fun T => s_7 hI h2 h3.1 h3.2) (fun C u => o_7 hJ h2 h3.1 h3.2) (by omega) (vo_fu (fun i hi hne => ?_) (vo_exS (hv _ (by omega)) h3.1)) (by decide)
          exact vo_fu (m := n) (fun k hk _ => hv k hk) (vo_exE (hv _ (by omega)) h3.1) i (by omega)
        · refine no (Or.inl ?_) (fun C u => o_7n hJ h2 (by
            by_cases h4 : rk (V (n - 1)) = 1
            · exact Or.inr (by
                rcases Nat.lt_or_ge n 8 with h5 | h5
                · exact absurd ⟨h4, h5⟩ h3
                · omega)
            · exact Or.inl h4))
          unfold psb
          by_cases h4 : rk (V (n - 1)) = 1
          · rw [decide_eq_false (show ¬ n < 8 from fun h5 => h3 ⟨h4, h5⟩), show psh 7 = true from rfl]
            simp
          · rw [decide_eq_false h4]
            simp
    · rcases Nat.lt_or_ge n 1 with h2 | h2
      · exact few h2
      · exact j_op hN (fun T => s_8 hI h2) (fun C u => o_8 hJ h2) hn8 (vo_fu (fun i hi _ => hv i hi) (vo_abs (hv _ (by omega)))) (by decide)
    · rcases Nat.lt_or_ge n 1 with h2 | h2
      · exact few h2
      · exact j_op hN (fun T => s_9 hI h2) (fun C u => o_9 hJ h2) hn8 (vo_fu (fun i hi _ => hv i hi) (negR_ok (hv _ (by omega)))) (by decide)
    · obtain ⟨rfl, hj⟩ := hz rfl
      rcases Nat.lt_or_ge n (j + 1) with h2 | h2
      · exact few h2
      · exact j_op hN (fun T => s_10 hI h2) (fun C u => o_10 hJ h2) hn8 (vo_fu (fun i hi _ => vo_fu (m := n) (fun k hk _ => hv k hk) (hv _ (by omega)) i hi) (hv _ (by omega))) (by decide)
    · obtain ⟨rfl, hj⟩ := hz rfl
      rcases Nat.lt_or_ge n (j + 1) with h2 | h2
      · exact few h2
      · rcases Nat.lt_or_ge n 8 with h3 | h3
        · exact j_op hN (fun T => s_11 hI h2 h3) (fun C u => o_11 hJ h2 h3) (by omega) (vo_fu (fun i hi hne => hv i (by omega)) (hv _ (by omega))) (by decide)
        · refine no (Or.inl ?_) (fun C u => o_11n hJ h2 (by omega))
          unfold psb
          rw [decide_eq_false (show ¬ n < 8 by omega), show psh 11 = true from rfl]
          simp
    · rcases Nat.lt_or_ge n 1 with h2 | h2
      · exact few h2
      · exact j_op hN (fun T => s_12 hI h2) (fun C u => o_12 hJ h2) (by omega) (fun i hi => hv i (by omega)) (by decide)
    · rcases Nat.lt_or_ge n 2 with h2 | h2
      · exact few h2
      · exact j_op hN (fun T => s_13 hI h2) (fun C u => o_13 hJ h2) hn8 hv (by decide)
    · rcases Nat.lt_or_ge n 8 with h3 | h3
      · exact j_op hN (fun T => s_14 (cc := 1) (Or.inr rfl) hI h3) (fun C u => o_14 (c := 1) (Or.inr rfl) hJ h3) (by omega) (vo_fu (fun i hi hne => hv i (by omega)) (vo_e (by decide))) (by decide)
      · refine no (Or.inl ?_) (fun C u => o_14n (c := 1) (Or.inr rfl) hJ (by omega))
        unfold psb
        rw [decide_eq_false (show ¬ n < 8 by omega), show psh 14 = true from rfl]
        simp
    · rcases Nat.lt_or_ge n 8 with h3 | h3
      · exact j_op hN (fun T => s_14 (cc := 0) (Or.inl rfl) hI h3) (fun C u => o_14 (c := 0) (Or.inl rfl) hJ h3) (by omega) (vo_fu (fun i hi hne => hv i (by omega)) (vo_e (by decide))) (by decide)
      · refine no (Or.inl ?_) (fun C u => o_14n (c := 0) (Or.inl rfl) hJ (by omega))
        unfold psb
        rw [decide_eq_false (show ¬ n < 8 by omega), show psh 15 = true from rfl]
        simp
end JO
