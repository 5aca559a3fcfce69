/-! the case write -/
def wl (p q : Int32) : Int64 := (p.toInt64 <<< (((Int8.ofInt 32).toInt32).toInt64 &&& 63)) ||| (q.toInt64 &&& 4294967295)
section LW
variable {L : Nat} {xs : Nat → Int32} {i k k9 : Nat} {C C' : Nat → zC} {o o' : Nat → Int64} {a a' : Nat → Int32} {b b' : Nat → Int64} {V V' : Nat → RV} {M M' : Nat → Int64} {R R' : Nat → Nat} {ou : zO} {h9 : zH} {ka be : Int32} {bl : Int64}
set_option maxRecDepth 10000 in
theorem lc_4 (hL : L ≤ 2048) (hi : i + 3 < L) (hk : k < 600) (h1 : zE L xs 10 m_La_write [.ref 0, .int (xs (i + 1)), .long (wl (xs (i + 2)) (xs (i + 3)))] (mV C (uO o) a b V M R) (.inl (some (.int ka))) (mV C' (uO o') a b V M R)) (h2 : zE L xs 10 m_Mo_write [.ref 20, .int (xs (i + 1)), .long (wl (xs (i + 2)) (xs (i + 3)))] (mV C' (uO o') a b V M R) (.inl none) (mV C' (uO o') a' b' V' M' R')) (hka : a' 0 = ka) (hR : zR L xs 11 m_law 795 (lw i) [] (mV C' (uO o') a' b' V' M' R') (k + 1) ou h9 k9) : zR L xs 11 m_law 380 (lw i) [] (mV C (uO o) a b V M R) k ou h9 k9 := by
  refine zR_n 1 rfl ?_
  refine xr 1 hL (by omega) rfl rfl ?_
  refine xr 2 hL (by omega) rfl rfl ?_
  refine zR_n 3 rfl ?_
  refine xr 3 hL (by omega) rfl rfl ?_
  refine zR_to 409 (st' := [.long (wl (xs (i + 2)) (xs (i + 3))), .int (xs (i + 1)), .ref 0]) rfl ?_
  refine zR_i rfl rfl rfl rfl ⟨Nat.le_of_ble_eq_true rfl, Nat.le_of_ble_eq_true rfl, Nat.le_of_ble_eq_true rfl⟩ rfl hk h1 rfl rfl ?_
  refine zR_n 2 rfl ?_
  refine xr 1 hL (by omega) rfl rfl ?_
  refine xr 2 hL (by omega) rfl rfl ?_
  refine zR_n 3 rfl ?_
  refine xr 3 hL (by omega) rfl rfl ?_
  refine zR_to 443 (st' := [.long (wl (xs (i + 2)) (xs (i + 3))), .int (xs (i + 1)), .ref 20]) rfl ?_
  refine zR_v rfl rfl rfl rfl rfl ⟨rfl, Nat.le_of_ble_eq_true rfl, Nat.le_of_ble_eq_true rfl⟩ rfl hk h2 rfl rfl ?_
  refine zR_n 1 rfl ?_
  refine zR_v rfl rfl rfl rfl rfl ⟨rfl, Nat.le_of_ble_eq_true rfl, Nat.le_of_ble_eq_true rfl⟩ rfl hk e_Mo_thrown rfl rfl ?_
  refine zR_n 1 rfl ?_
  refine zR_m 1 rfl ?_
  refine zR_if (fun _ => ?_) (fun h => absurd hka h)
  refine zR_n 1 rfl ?_
  exact zR_w hR rfl rfl ⟨rfl, rfl, rfl, rfl, rfl, trivial⟩
/-! the loop's head -/
set_option maxRecDepth 10000 in
theorem lh_end (hL : L ≤ 2048) (hi : L < i + 4) (hi2 : i ≤ 2048) : zR L xs 11 m_law 23 (lw i) [] (mV C (uO o) a b V M R) k (.inl (some (.int 1))) (mV C (uO o) a b V M R) k := by
  refine zR_to 29 (st' := [.int (nI L - nI 4), .int (nI i)]) rfl ?_
  refine zR_m 1 rfl ?_
  refine zR_if (fun _ => ?_) (fun h => absurd ?_ h)
  · exact zR_n 1 rfl (zR_e rfl rfl rfl rfl rfl rfl)
  · show nI L - nI 4 < nI i
    rw [Int32.lt_iff_toInt_lt, nI_toInt (by omega)]
    rw [show nI L - nI 4 = iZ ((L : Int) - 4) from by rw [← iZ_sub]; rfl, iZ_toInt (by omega) (by omega)]
    omega
set_option maxRecDepth 10000 in
theorem lh_go (hL : L ≤ 2048) (hi : i + 4 ≤ L) (hR : zR L xs 11 m_law 39 (lw i) [.int (nI ((xs i).toBitVec.toNat % 16))] (mV C (uO o) a b V M R) k ou h9 k9) : zR L xs 11 m_law 23 (lw i) [] (mV C (uO o) a b V M R) k ou h9 k9 := by
  refine zR_to 29 (st' := [.int (nI L - nI 4), .int (nI i)]) rfl ?_
  refine zR_m 1 rfl ?_
  refine zR_if (fun h => absurd h ?_) (fun _ => ?_)
  · show ¬ nI L - nI 4 < nI i
    rw [Int32.lt_iff_toInt_lt, nI_toInt (n := i) (by omega), pk_sub (by omega), nI_toInt (by omega)]
    omega
  · refine zR_n 2 rfl ?_
    refine zR_xa (q := 1000) (N := L) (f := xs) (v := xs i) rfl rfl (in_nI (by omega) (by omega)) (by rw [nI_clamp (by omega)]) rfl ?_
    refine zR_to 38 (st' := [.int (nI 15), .int (xs i)]) rfl ?_
    refine zR_to 39 (st' := [.int (xs i &&& nI 15)]) rfl ?_
    rw [pk_and (xs i) 4 (by decide +kernel)]
    exact hR
set_option maxRecDepth 10000 in
theorem lh_next (hi : i ≤ 2048) (hR : zR L xs 11 m_law 23 (lw (i + 4)) [] (mV C (uO o) a b V M R) k ou h9 k9) : zR L xs 11 m_law 795 (lw i) [] (mV C (uO o) a b V M R) k ou h9 k9 := by
  refine zR_n 2 rfl ?_
  refine zR_w hR rfl rfl ⟨?_, rfl, rfl, rfl, rfl, trivial⟩
  show some (Value.int (nI i + nI 4)) = _
  rw [nI_add]
end LW
