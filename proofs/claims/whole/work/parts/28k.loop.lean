/-! one turn of the loop, and the loop -/
section LO
variable {L : Nat} {xs : Nat → Int32}
theorem step {i k T0 : Nat} {C : Nat → zC} {o : Nat → Int64} {a : Nat → Int32} {b : Nat → Int64} {V : Nat → RV} {M : Nat → Int64} {R : Nat → Nat} (hN : Rel C a b V M R T0) (hT : T0 < 2 ^ 60) (hL : L ≤ 2048) (hi : i + 4 ≤ L) (hk : k < 600) (nx : Nx L xs i k T0) : Cs L xs i k 23 C o a b V M R := by
  obtain ⟨n, p, w, t, fA, hN⟩ := hN
  have go : ∀ c pc, (xs i).toBitVec.toNat % 16 = c → zst m_law 1 39 (lw i) [.int (nI c)] = some (pc, lw i, []) → Cs L xs i k pc C o a b V M R → Cs L xs i k 23 C o a b V M R := by
    rintro c pc hc hf ⟨h9, k9, hR⟩
    exact ⟨h9, k9, lh_go hL hi (by rw [hc]; exact zR_n 1 hf hR)⟩
  have hlt := Nat.mod_lt (xs i).toBitVec.toNat (show 0 < 16 by decide)
  obtain h | h | h | h | h | h | h | h | h | h | h | h | h | h | h | h : (xs i).toBitVec.toNat % 16 = 0 ∨ (xs i).toBitVec.toNat % 16 = 1 ∨ (xs i).toBitVec.toNat % 16 = 2 ∨ (xs i).toBitVec.toNat % 16 = 3 ∨ (xs i).toBitVec.toNat % 16 = 4 ∨ (xs i).toBitVec.toNat % 16 = 5 ∨ (xs i).toBitVec.toNat % 16 = 6 ∨ (xs i).toBitVec.toNat % 16 = 7 ∨ (xs i).toBitVec.toNat % 16 = 8 ∨ (xs i).toBitVec.toNat % 16 = 9 ∨ (xs i).toBitVec.toNat % 16 = 10 ∨ (xs i).toBitVec.toNat % 16 = 11 ∨ (xs i).toBitVec.toNat % 16 = 12 ∨ (xs i).toBitVec.toNat % 16 = 13 ∨ (xs i).toBitVec.toNat % 16 = 14 ∨ (xs i).toBitVec.toNat % 16 = 15 := by omega
  · exact go 0 116 h rfl (t_0 hN hL hi hk nx)
  · exact go 1 176 h rfl (t_1 hN hT hL hi hk nx)
  · exact go 2 244 h rfl (t_2 hN hT hL hi hk nx)
  · exact go 3 312 h rfl (t_3 hN hT hL hi hk nx)
  · exact go 4 380 h rfl (t_4 hN hL hi hk nx)
  · exact go 5 460 h rfl (t_5 hN hL hi hk nx)
  · exact go 6 515 h rfl (t_6 hN hT hL hi hk nx)
  · exact go 7 551 h rfl (t_7 hN hT hk nx)
  · exact go 8 564 h rfl (t_8 hN hk nx)
  · exact go 9 578 h rfl (t_9 hN hk nx)
  · exact go 10 591 h rfl (t_10 hN hk nx)
  · exact go 11 602 h rfl (t_11 hN hk nx)
  · exact go 12 615 h rfl (t_12 hN hk nx)
  · exact go 13 628 h rfl (t_13 hN hL hi hk nx)
  · exact go 14 684 h rfl (t_14 hN hL hi hk nx)
  · exact go 15 740 h rfl (t_15 hN hL hi hk nx)
theorem loop (hL : L ≤ 2048) : ∀ (m q k : Nat) (C : Nat → zC) (o : Nat → Int64) (a : Nat → Int32) (b : Nat → Int64) (V : Nat → RV) (M : Nat → Int64) (R : Nat → Nat), L < 4 * q + 4 + 4 * m → 4 * q ≤ 2048 → k ≤ q → Rel C a b V M R (1020 * q) → Cs L xs (4 * q) k 23 C o a b V M R
  | 0, q, k, C, o, a, b, V, M, R, h1, h2, h3, h4 => ⟨_, _, lh_end hL (by omega) h2⟩
  | m + 1, q, k, C, o, a, b, V, M, R, h1, h2, h3, h4 => by
    rcases Nat.lt_or_ge L (4 * q + 4) with h | h
    · exact ⟨_, _, lh_end hL h h2⟩
    · refine step h4 (by omega) hL h (by omega) (fun C' o' a' b' V' M' R' k' hk' hR' => ?_)
      obtain ⟨h9, k9, hR⟩ := loop hL m (q + 1) k' C' o' a' b' V' M' R' (by omega) (by omega) (by omega) hR'
      exact ⟨h9, k9, lh_next h2 hR⟩
end LO
