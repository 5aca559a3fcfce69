/-! the law's cases: both sides answer the same, and the loop goes on at 795 -/
abbrev lw (i : Nat) : zL := [(4, .int (nI i)), (3, .ref 27), (2, .ref 20), (1, .ref 0), (0, .ref 1000)]
section LC
variable {L : Nat} {xs : Nat → Int32} {i k k9 : Nat} {C C' : Nat → zC} {o o' : Nat → Int64} {a a' : Nat → Int32} {b b' : Nat → Int64} {V V' : Nat → RV} {M M' : Nat → Int64} {R R' : Nat → Nat} {ou : zO} {h9 : zH} {ka be : Int32} {bl : Int64}
theorem xr {d pc pc' k' : Nat} {lv : zL} {r : List Value} {h h' : zH} (e : Nat) (hL : L ≤ 2048) (hi : i + e < L) (hf : zst m_law 4 pc lv r = some (pc', lv, .int (nI i + nI e) :: .ref 1000 :: r)) (hfa : zfetch m_law pc' = some (.iaload, 1)) (hR : zR L xs d m_law (pc' + 1) lv (.int (xs (i + e)) :: r) h k ou h' k') : zR L xs d m_law pc lv r h k ou h' k' := by
  refine zR_n 4 hf ?_
  rw [nI_add]
  exact zR_xa (q := 1000) (N := L) (f := xs) (v := xs (i + e)) hfa rfl (in_nI hi (by omega)) (by rw [nI_clamp (by omega)]) rfl hR

set_option maxRecDepth 10000 in
theorem lc_0 (hL : L ≤ 2048) (hi : i + 3 < L) (hk : k < 600) (h1 : zE L xs 10 m_La_control [.ref 0, .int (xs (i + 1)), .int (xs (i + 2)), .int (xs (i + 3))] (mV C (uO o) a b V M R) (.inl (some (.int ka))) (mV C' (uO o') a b V M R)) (h2 : zE L xs 10 m_Mo_control [.ref 20, .int (xs (i + 1)), .int (xs (i + 2)), .int (xs (i + 3))] (mV C' (uO o') a b V M R) (.inl none) (mV C' (uO o') a' b' V' M' R')) (hka : a' 0 = ka) (hR : zR L xs 11 m_law 795 (lw i) [] (mV C' (uO o') a' b' V' M' R') (k + 1) ou h9 k9) : zR L xs 11 m_law 116 (lw i) [] (mV C (uO o) a b V M R) k ou h9 k9 := by
  refine zR_n 1 rfl ?_
  refine xr 1 hL (by omega) rfl rfl ?_
  refine xr 2 hL (by omega) rfl rfl ?_
  refine xr 3 hL (by omega) rfl rfl ?_
  refine zR_i rfl rfl rfl rfl ⟨Nat.le_of_ble_eq_true rfl, Nat.le_of_ble_eq_true rfl, Nat.le_of_ble_eq_true rfl⟩ rfl hk h1 rfl rfl ?_
  refine zR_n 2 rfl ?_
  refine xr 1 hL (by omega) rfl rfl ?_
  refine xr 2 hL (by omega) rfl rfl ?_
  refine xr 3 hL (by omega) rfl rfl ?_
  refine zR_v rfl rfl rfl rfl rfl ⟨rfl, Nat.le_of_ble_eq_true rfl, Nat.le_of_ble_eq_true rfl⟩ rfl hk h2 rfl rfl ?_
  refine zR_n 1 rfl ?_
  refine zR_v rfl rfl rfl rfl rfl ⟨rfl, Nat.le_of_ble_eq_true rfl, Nat.le_of_ble_eq_true rfl⟩ rfl hk e_Mo_thrown rfl rfl ?_
  refine zR_n 1 rfl ?_
  refine zR_m 1 rfl ?_
  refine zR_if (fun _ => ?_) (fun h => absurd hka h)
  refine zR_n 1 rfl ?_
  exact zR_w hR rfl rfl ⟨rfl, rfl, rfl, rfl, rfl, trivial⟩
set_option maxRecDepth 10000 in
theorem lc_6 (hL : L ≤ 2048) (hi : i + 1 < L) (hk : k < 600) (h1 : zE L xs 10 m_La_pass [.ref 0, .int (xs (i + 1))] (mV C (uO o) a b V M R) (.inl (some (.int ka))) (mV C' (uO o') a b V M R)) (h2 : zE L xs 10 m_Mo_pass [.ref 20, .int (xs (i + 1))] (mV C' (uO o') a b V M R) (.inl none) (mV C' (uO o') a' b' V' M' R')) (hka : a' 0 = ka) (hR : zR L xs 11 m_law 795 (lw i) [] (mV C' (uO o') a' b' V' M' R') (k + 1) ou h9 k9) : zR L xs 11 m_law 515 (lw i) [] (mV C (uO o) a b V M R) k ou h9 k9 := by
  refine zR_n 1 rfl ?_
  refine xr 1 hL (by omega) rfl rfl ?_
  refine zR_i rfl rfl rfl rfl ⟨Nat.le_of_ble_eq_true rfl, Nat.le_of_ble_eq_true rfl, Nat.le_of_ble_eq_true rfl⟩ rfl hk h1 rfl rfl ?_
  refine zR_n 2 rfl ?_
  refine xr 1 hL (by omega) rfl rfl ?_
  refine zR_v rfl rfl rfl rfl rfl ⟨rfl, Nat.le_of_ble_eq_true rfl, Nat.le_of_ble_eq_true rfl⟩ rfl hk h2 rfl rfl ?_
  refine zR_n 1 rfl ?_
  refine zR_v rfl rfl rfl rfl rfl ⟨rfl, Nat.le_of_ble_eq_true rfl, Nat.le_of_ble_eq_true rfl⟩ rfl hk e_Mo_thrown rfl rfl ?_
  refine zR_n 1 rfl ?_
  refine zR_m 1 rfl ?_
  refine zR_if (fun _ => ?_) (fun h => absurd hka h)
  refine zR_n 1 rfl ?_
  exact zR_w hR rfl rfl ⟨rfl, rfl, rfl, rfl, rfl, trivial⟩
set_option maxRecDepth 10000 in
theorem lc_1 (hL : L ≤ 2048) (hi : i + 2 < L) (hk : k < 600) (h1 : zE L xs 10 m_La_operate [.ref 0, .int (xs (i + 1)), .int (xs (i + 2)), .ref 27] (mV C (uO o) a b V M R) (.inl (some (.int ka))) (mV C' (uO o') a b V M R)) (h2 : zE L xs 10 m_Mo_operate [.ref 20, .int (xs (i + 1)), .int (xs (i + 2))] (mV C' (uO o') a b V M R) (.inl (some (.int be))) (mV C' (uO o') a' b' V' M' R')) (hka : a' 0 = ka) (ho : ka = 0 → o' 0 = be.toInt64) (hR : zR L xs 11 m_law 795 (lw i) [] (mV C' (uO o') a' b' V' M' R') (k + 1) ou h9 k9) : zR L xs 11 m_law 176 (lw i) [] (mV C (uO o) a b V M R) k ou h9 k9 := by
  refine zR_n 1 rfl ?_
  refine xr 1 hL (by omega) rfl rfl ?_
  refine xr 2 hL (by omega) rfl rfl ?_
  refine zR_n 1 rfl ?_
  refine zR_i rfl rfl rfl rfl ⟨Nat.le_of_ble_eq_true rfl, Nat.le_of_ble_eq_true rfl, Nat.le_of_ble_eq_true rfl⟩ rfl hk h1 rfl rfl ?_
  refine zR_n 2 rfl ?_
  refine xr 1 hL (by omega) rfl rfl ?_
  refine xr 2 hL (by omega) rfl rfl ?_
  refine zR_v rfl rfl rfl rfl rfl ⟨rfl, Nat.le_of_ble_eq_true rfl, Nat.le_of_ble_eq_true rfl⟩ rfl hk h2 rfl rfl ?_
  refine zR_n 1 rfl ?_
  refine zR_n 1 rfl ?_
  refine zR_v rfl rfl rfl rfl rfl ⟨rfl, Nat.le_of_ble_eq_true rfl, Nat.le_of_ble_eq_true rfl⟩ rfl hk e_Mo_thrown rfl rfl ?_
  refine zR_n 1 rfl ?_
  refine zR_m 1 rfl ?_
  refine zR_if (fun _ => ?_) (fun h => absurd hka h)
  refine zR_n 1 rfl ?_
  refine zR_m 1 rfl ?_
  refine zR_if (fun _ => ?_) (fun h => ?_)
  · refine zR_n 1 rfl ?_
    exact zR_w hR rfl rfl ⟨rfl, rfl, rfl, rfl, rfl, trivial⟩
  · refine zR_n 2 rfl ?_
    refine zR_la (q := 27) (N := 1) (f := o') (v := be.toInt64) rfl rfl (by decide) (ho (Decidable.of_not_not h)) rfl ?_
    refine zR_n 3 rfl ?_
    refine zR_m 1 rfl ?_
    refine zR_if (fun _ => ?_) (fun h8 => absurd ((lg_cmp_eq _ _).mpr rfl) h8)
    refine zR_n 1 rfl ?_
    exact zR_w hR rfl rfl ⟨rfl, rfl, rfl, rfl, rfl, trivial⟩
set_option maxRecDepth 10000 in
theorem lc_2 (hL : L ≤ 2048) (hi : i + 2 < L) (hk : k < 600) (h1 : zE L xs 10 m_La_load [.ref 0, .int (xs (i + 1)), .int (xs (i + 2)), .ref 27] (mV C (uO o) a b V M R) (.inl (some (.int ka))) (mV C' (uO o') a b V M R)) (h2 : zE L xs 10 m_Mo_load [.ref 20, .int (xs (i + 1)), .int (xs (i + 2))] (mV C' (uO o') a b V M R) (.inl (some (.int be))) (mV C' (uO o') a' b' V' M' R')) (hka : a' 0 = ka) (ho : ka = 0 → o' 0 = be.toInt64) (hR : zR L xs 11 m_law 795 (lw i) [] (mV C' (uO o') a' b' V' M' R') (k + 1) ou h9 k9) : zR L xs 11 m_law 244 (lw i) [] (mV C (uO o) a b V M R) k ou h9 k9 := by
  refine zR_n 1 rfl ?_
  refine xr 1 hL (by omega) rfl rfl ?_
  refine xr 2 hL (by omega) rfl rfl ?_
  refine zR_n 1 rfl ?_
  refine zR_i rfl rfl rfl rfl ⟨Nat.le_of_ble_eq_true rfl, Nat.le_of_ble_eq_true rfl, Nat.le_of_ble_eq_true rfl⟩ rfl hk h1 rfl rfl ?_
  refine zR_n 2 rfl ?_
  refine xr 1 hL (by omega) rfl rfl ?_
  refine xr 2 hL (by omega) rfl rfl ?_
  refine zR_v rfl rfl rfl rfl rfl ⟨rfl, Nat.le_of_ble_eq_true rfl, Nat.le_of_ble_eq_true rfl⟩ rfl hk h2 rfl rfl ?_
  refine zR_n 1 rfl ?_
  refine zR_n 1 rfl ?_
  refine zR_v rfl rfl rfl rfl rfl ⟨rfl, Nat.le_of_ble_eq_true rfl, Nat.le_of_ble_eq_true rfl⟩ rfl hk e_Mo_thrown rfl rfl ?_
  refine zR_n 1 rfl ?_
  refine zR_m 1 rfl ?_
  refine zR_if (fun _ => ?_) (fun h => absurd hka h)
  refine zR_n 1 rfl ?_
  refine zR_m 1 rfl ?_
  refine zR_if (fun _ => ?_) (fun h => ?_)
  · refine zR_n 1 rfl ?_
    exact zR_w hR rfl rfl ⟨rfl, rfl, rfl, rfl, rfl, trivial⟩
  · refine zR_n 2 rfl ?_
    refine zR_la (q := 27) (N := 1) (f := o') (v := be.toInt64) rfl rfl (by decide) (ho (Decidable.of_not_not h)) rfl ?_
    refine zR_n 3 rfl ?_
    refine zR_m 1 rfl ?_
    refine zR_if (fun _ => ?_) (fun h8 => absurd ((lg_cmp_eq _ _).mpr rfl) h8)
    refine zR_n 1 rfl ?_
    exact zR_w hR rfl rfl ⟨rfl, rfl, rfl, rfl, rfl, trivial⟩
set_option maxRecDepth 10000 in
theorem lc_3 (hL : L ≤ 2048) (hi : i + 2 < L) (hk : k < 600) (h1 : zE L xs 10 m_La_store [.ref 0, .int (xs (i + 1)), .int (xs (i + 2)), .ref 27] (mV C (uO o) a b V M R) (.inl (some (.int ka))) (mV C' (uO o') a b V M R)) (h2 : zE L xs 10 m_Mo_store [.ref 20, .int (xs (i + 1)), .int (xs (i + 2))] (mV C' (uO o') a b V M R) (.inl (some (.int be))) (mV C' (uO o') a' b' V' M' R')) (hka : a' 0 = ka) (ho : ka = 0 → o' 0 = be.toInt64) (hR : zR L xs 11 m_law 795 (lw i) [] (mV C' (uO o') a' b' V' M' R') (k + 1) ou h9 k9) : zR L xs 11 m_law 312 (lw i) [] (mV C (uO o) a b V M R) k ou h9 k9 := by
  refine zR_n 1 rfl ?_
  refine xr 1 hL (by omega) rfl rfl ?_
  refine xr 2 hL (by omega) rfl rfl ?_
  refine zR_n 1 rfl ?_
  refine zR_i rfl rfl rfl rfl ⟨Nat.le_of_ble_eq_true rfl, Nat.le_of_ble_eq_true rfl, Nat.le_of_ble_eq_true rfl⟩ rfl hk h1 rfl rfl ?_
  refine zR_n 2 rfl ?_
  refine xr 1 hL (by omega) rfl rfl ?_
  refine xr 2 hL (by omega) rfl rfl ?_
  refine zR_v rfl rfl rfl rfl rfl ⟨rfl, Nat.le_of_ble_eq_true rfl, Nat.le_of_ble_eq_true rfl⟩ rfl hk h2 rfl rfl ?_
  refine zR_n 1 rfl ?_
  refine zR_n 1 rfl ?_
  refine zR_v rfl rfl rfl rfl rfl ⟨rfl, Nat.le_of_ble_eq_true rfl, Nat.le_of_ble_eq_true rfl⟩ rfl hk e_Mo_thrown rfl rfl ?_
  refine zR_n 1 rfl ?_
  refine zR_m 1 rfl ?_
  refine zR_if (fun _ => ?_) (fun h => absurd hka h)
  refine zR_n 1 rfl ?_
  refine zR_m 1 rfl ?_
  refine zR_if (fun _ => ?_) (fun h => ?_)
  · refine zR_n 1 rfl ?_
    exact zR_w hR rfl rfl ⟨rfl, rfl, rfl, rfl, rfl, trivial⟩
  · refine zR_n 2 rfl ?_
    refine zR_la (q := 27) (N := 1) (f := o') (v := be.toInt64) rfl rfl (by decide) (ho (Decidable.of_not_not h)) rfl ?_
    refine zR_n 3 rfl ?_
    refine zR_m 1 rfl ?_
    refine zR_if (fun _ => ?_) (fun h8 => absurd ((lg_cmp_eq _ _).mpr rfl) h8)
    refine zR_n 1 rfl ?_
    exact zR_w hR rfl rfl ⟨rfl, rfl, rfl, rfl, rfl, trivial⟩
set_option maxRecDepth 10000 in
theorem lc_5 (hL : L ≤ 2048) (hi : i + 1 < L) (hk : k < 600) (h1 : zE L xs 10 m_La_memory [.ref 0, .int (xs (i + 1)), .ref 27] (mV C (uO o) a b V M R) (.inl (some (.int ka))) (mV C' (uO o') a b V M R)) (h2 : zE L xs 10 m_Mo_memory [.ref 20, .int (xs (i + 1))] (mV C' (uO o') a b V M R) (.inl (some (.long bl))) (mV C' (uO o') a' b' V' M' R')) (hka : a' 0 = ka) (ho : ka = 0 → o' 0 = bl) (hR : zR L xs 11 m_law 795 (lw i) [] (mV C' (uO o') a' b' V' M' R') (k + 1) ou h9 k9) : zR L xs 11 m_law 460 (lw i) [] (mV C (uO o) a b V M R) k ou h9 k9 := by
  refine zR_n 1 rfl ?_
  refine xr 1 hL (by omega) rfl rfl ?_
  refine zR_n 1 rfl ?_
  refine zR_i rfl rfl rfl rfl ⟨Nat.le_of_ble_eq_true rfl, Nat.le_of_ble_eq_true rfl, Nat.le_of_ble_eq_true rfl⟩ rfl hk h1 rfl rfl ?_
  refine zR_n 2 rfl ?_
  refine xr 1 hL (by omega) rfl rfl ?_
  refine zR_v rfl rfl rfl rfl rfl ⟨rfl, Nat.le_of_ble_eq_true rfl, Nat.le_of_ble_eq_true rfl⟩ rfl hk h2 rfl rfl ?_
  refine zR_n 1 rfl ?_
  refine zR_n 1 rfl ?_
  refine zR_v rfl rfl rfl rfl rfl ⟨rfl, Nat.le_of_ble_eq_true rfl, Nat.le_of_ble_eq_true rfl⟩ rfl hk e_Mo_thrown rfl rfl ?_
  refine zR_n 1 rfl ?_
  refine zR_m 1 rfl ?_
  refine zR_if (fun _ => ?_) (fun h => absurd hka h)
  refine zR_n 1 rfl ?_
  refine zR_m 1 rfl ?_
  refine zR_if (fun _ => ?_) (fun h => ?_)
  · refine zR_n 1 rfl ?_
    exact zR_w hR rfl rfl ⟨rfl, rfl, rfl, rfl, rfl, trivial⟩
  · refine zR_n 2 rfl ?_
    refine zR_la (q := 27) (N := 1) (f := o') (v := bl) rfl rfl (by decide) (ho (Decidable.of_not_not h)) rfl ?_
    refine zR_n 2 rfl ?_
    refine zR_m 1 rfl ?_
    refine zR_if (fun _ => ?_) (fun h8 => absurd ((lg_cmp_eq _ _).mpr rfl) h8)
    refine zR_n 1 rfl ?_
    exact zR_w hR rfl rfl ⟨rfl, rfl, rfl, rfl, rfl, trivial⟩
set_option maxRecDepth 10000 in
theorem lc_13 (hL : L ≤ 2048) (hi : i + 1 < L) (hk : k < 600) (h1 : zE L xs 10 m_La_kind [.ref 0, .int (xs (i + 1)), .ref 27] (mV C (uO o) a b V M R) (.inl (some (.int ka))) (mV C' (uO o') a b V M R)) (h2 : zE L xs 10 m_Mo_kind [.ref 20, .int (xs (i + 1))] (mV C' (uO o') a b V M R) (.inl (some (.int be))) (mV C' (uO o') a' b' V' M' R')) (hka : a' 0 = ka) (ho : ka = 0 → o' 0 = be.toInt64) (hR : zR L xs 11 m_law 795 (lw i) [] (mV C' (uO o') a' b' V' M' R') (k + 1) ou h9 k9) : zR L xs 11 m_law 628 (lw i) [] (mV C (uO o) a b V M R) k ou h9 k9 := by
  refine zR_n 1 rfl ?_
  refine xr 1 hL (by omega) rfl rfl ?_
  refine zR_n 1 rfl ?_
  refine zR_i rfl rfl rfl rfl ⟨Nat.le_of_ble_eq_true rfl, Nat.le_of_ble_eq_true rfl, Nat.le_of_ble_eq_true rfl⟩ rfl hk h1 rfl rfl ?_
  refine zR_n 2 rfl ?_
  refine xr 1 hL (by omega) rfl rfl ?_
  refine zR_v rfl rfl rfl rfl rfl ⟨rfl, Nat.le_of_ble_eq_true rfl, Nat.le_of_ble_eq_true rfl⟩ rfl hk h2 rfl rfl ?_
  refine zR_n 1 rfl ?_
  refine zR_n 1 rfl ?_
  refine zR_v rfl rfl rfl rfl rfl ⟨rfl, Nat.le_of_ble_eq_true rfl, Nat.le_of_ble_eq_true rfl⟩ rfl hk e_Mo_thrown rfl rfl ?_
  refine zR_n 1 rfl ?_
  refine zR_m 1 rfl ?_
  refine zR_if (fun _ => ?_) (fun h => absurd hka h)
  refine zR_n 1 rfl ?_
  refine zR_m 1 rfl ?_
  refine zR_if (fun _ => ?_) (fun h => ?_)
  · refine zR_n 1 rfl ?_
    exact zR_w hR rfl rfl ⟨rfl, rfl, rfl, rfl, rfl, trivial⟩
  · refine zR_n 2 rfl ?_
    refine zR_la (q := 27) (N := 1) (f := o') (v := be.toInt64) rfl rfl (by decide) (ho (Decidable.of_not_not h)) rfl ?_
    refine zR_n 3 rfl ?_
    refine zR_m 1 rfl ?_
    refine zR_if (fun _ => ?_) (fun h8 => absurd ((lg_cmp_eq _ _).mpr rfl) h8)
    refine zR_n 1 rfl ?_
    exact zR_w hR rfl rfl ⟨rfl, rfl, rfl, rfl, rfl, trivial⟩
set_option maxRecDepth 10000 in
theorem lc_14 (hL : L ≤ 2048) (hi : i + 1 < L) (hk : k < 600) (h1 : zE L xs 10 m_La_exponent [.ref 0, .int (xs (i + 1)), .ref 27] (mV C (uO o) a b V M R) (.inl (some (.int ka))) (mV C' (uO o') a b V M R)) (h2 : zE L xs 10 m_Mo_exponent [.ref 20, .int (xs (i + 1))] (mV C' (uO o') a b V M R) (.inl (some (.int be))) (mV C' (uO o') a' b' V' M' R')) (hka : a' 0 = ka) (ho : ka = 0 → o' 0 = be.toInt64) (hR : zR L xs 11 m_law 795 (lw i) [] (mV C' (uO o') a' b' V' M' R') (k + 1) ou h9 k9) : zR L xs 11 m_law 684 (lw i) [] (mV C (uO o) a b V M R) k ou h9 k9 := by
  refine zR_n 1 rfl ?_
  refine xr 1 hL (by omega) rfl rfl ?_
  refine zR_n 1 rfl ?_
  refine zR_i rfl rfl rfl rfl ⟨Nat.le_of_ble_eq_true rfl, Nat.le_of_ble_eq_true rfl, Nat.le_of_ble_eq_true rfl⟩ rfl hk h1 rfl rfl ?_
  refine zR_n 2 rfl ?_
  refine xr 1 hL (by omega) rfl rfl ?_
  refine zR_v rfl rfl rfl rfl rfl ⟨rfl, Nat.le_of_ble_eq_true rfl, Nat.le_of_ble_eq_true rfl⟩ rfl hk h2 rfl rfl ?_
  refine zR_n 1 rfl ?_
  refine zR_n 1 rfl ?_
  refine zR_v rfl rfl rfl rfl rfl ⟨rfl, Nat.le_of_ble_eq_true rfl, Nat.le_of_ble_eq_true rfl⟩ rfl hk e_Mo_thrown rfl rfl ?_
  refine zR_n 1 rfl ?_
  refine zR_m 1 rfl ?_
  refine zR_if (fun _ => ?_) (fun h => absurd hka h)
  refine zR_n 1 rfl ?_
  refine zR_m 1 rfl ?_
  refine zR_if (fun _ => ?_) (fun h => ?_)
  · refine zR_n 1 rfl ?_
    exact zR_w hR rfl rfl ⟨rfl, rfl, rfl, rfl, rfl, trivial⟩
  · refine zR_n 2 rfl ?_
    refine zR_la (q := 27) (N := 1) (f := o') (v := be.toInt64) rfl rfl (by decide) (ho (Decidable.of_not_not h)) rfl ?_
    refine zR_n 3 rfl ?_
    refine zR_m 1 rfl ?_
    refine zR_if (fun _ => ?_) (fun h8 => absurd ((lg_cmp_eq _ _).mpr rfl) h8)
    refine zR_n 1 rfl ?_
    exact zR_w hR rfl rfl ⟨rfl, rfl, rfl, rfl, rfl, trivial⟩
set_option maxRecDepth 10000 in
theorem lc_15 (hL : L ≤ 2048) (hi : i + 1 < L) (hk : k < 600) (h1 : zE L xs 10 m_La_significand [.ref 0, .int (xs (i + 1)), .ref 27] (mV C (uO o) a b V M R) (.inl (some (.int ka))) (mV C' (uO o') a b V M R)) (h2 : zE L xs 10 m_Mo_significand [.ref 20, .int (xs (i + 1))] (mV C' (uO o') a b V M R) (.inl (some (.long bl))) (mV C' (uO o') a' b' V' M' R')) (hka : a' 0 = ka) (ho : ka = 0 → o' 0 = bl) (hR : zR L xs 11 m_law 795 (lw i) [] (mV C' (uO o') a' b' V' M' R') (k + 1) ou h9 k9) : zR L xs 11 m_law 740 (lw i) [] (mV C (uO o) a b V M R) k ou h9 k9 := by
  refine zR_n 1 rfl ?_
  refine xr 1 hL (by omega) rfl rfl ?_
  refine zR_n 1 rfl ?_
  refine zR_i rfl rfl rfl rfl ⟨Nat.le_of_ble_eq_true rfl, Nat.le_of_ble_eq_true rfl, Nat.le_of_ble_eq_true rfl⟩ rfl hk h1 rfl rfl ?_
  refine zR_n 2 rfl ?_
  refine xr 1 hL (by omega) rfl rfl ?_
  refine zR_v rfl rfl rfl rfl rfl ⟨rfl, Nat.le_of_ble_eq_true rfl, Nat.le_of_ble_eq_true rfl⟩ rfl hk h2 rfl rfl ?_
  refine zR_n 1 rfl ?_
  refine zR_n 1 rfl ?_
  refine zR_v rfl rfl rfl rfl rfl ⟨rfl, Nat.le_of_ble_eq_true rfl, Nat.le_of_ble_eq_true rfl⟩ rfl hk e_Mo_thrown rfl rfl ?_
  refine zR_n 1 rfl ?_
  refine zR_m 1 rfl ?_
  refine zR_if (fun _ => ?_) (fun h => absurd hka h)
  refine zR_n 1 rfl ?_
  refine zR_m 1 rfl ?_
  refine zR_if (fun _ => ?_) (fun h => ?_)
  · refine zR_n 1 rfl ?_
    exact zR_w hR rfl rfl ⟨rfl, rfl, rfl, rfl, rfl, trivial⟩
  · refine zR_n 2 rfl ?_
    refine zR_la (q := 27) (N := 1) (f := o') (v := bl) rfl rfl (by decide) (ho (Decidable.of_not_not h)) rfl ?_
    refine zR_n 2 rfl ?_
    refine zR_m 1 rfl ?_
    refine zR_if (fun _ => ?_) (fun h8 => absurd ((lg_cmp_eq _ _).mpr rfl) h8)
    refine zR_n 1 rfl ?_
    exact zR_w hR rfl rfl ⟨rfl, rfl, rfl, rfl, rfl, trivial⟩
set_option maxRecDepth 10000 in
theorem lc_7 (hC : isS C) (hk : k ≤ 600) (h1 : zE L xs 10 m_SR_await [.ref 0] (mV C (uO o) a b V M R) (.inl (some (.int be))) (mV C' (uO o) a b V M R)) (h2 : zE L xs 10 m_Mo_await [.ref 20] (mV C' (uO o) a b V M R) (.inl (some (.int be))) (mV C' (uO o) a' b' V' M' R')) (hR : zR L xs 11 m_law 795 (lw i) [] (mV C' (uO o) a' b' V' M' R') k ou h9 k9) : zR L xs 11 m_law 551 (lw i) [] (mV C (uO o) a b V M R) k ou h9 k9 := by
  obtain ⟨f, g, sg, A, W, x9, y9, Mc, rfl⟩ := hC
  refine zR_n 1 rfl ?_
  refine zR_v rfl rfl rfl rfl rfl ⟨rfl, Nat.le_of_ble_eq_true rfl, Nat.le_of_ble_eq_true rfl⟩ rfl hk h1 rfl rfl ?_
  refine zR_n 1 rfl ?_
  refine zR_v rfl rfl rfl rfl rfl ⟨rfl, Nat.le_of_ble_eq_true rfl, Nat.le_of_ble_eq_true rfl⟩ rfl hk h2 rfl rfl ?_
  refine zR_m 1 rfl ?_
  exact zR_if (fun _ => hR) (fun h => absurd rfl h)
set_option maxRecDepth 10000 in
theorem lc_8 (hC : isS C) (hk : k ≤ 600) (h1 : zE L xs 10 m_SR_time [.ref 0] (mV C (uO o) a b V M R) (.inl (some (.long bl))) (mV C' (uO o) a b V M R)) (h2 : zE L xs 10 m_Mo_time [.ref 20] (mV C' (uO o) a b V M R) (.inl (some (.long bl))) (mV C' (uO o) a' b' V' M' R')) (hR : zR L xs 11 m_law 795 (lw i) [] (mV C' (uO o) a' b' V' M' R') k ou h9 k9) : zR L xs 11 m_law 564 (lw i) [] (mV C (uO o) a b V M R) k ou h9 k9 := by
  obtain ⟨f, g, sg, A, W, x9, y9, Mc, rfl⟩ := hC
  refine zR_n 1 rfl ?_
  refine zR_v rfl rfl rfl rfl rfl ⟨rfl, Nat.le_of_ble_eq_true rfl, Nat.le_of_ble_eq_true rfl⟩ rfl hk h1 rfl rfl ?_
  refine zR_n 1 rfl ?_
  refine zR_v rfl rfl rfl rfl rfl ⟨rfl, Nat.le_of_ble_eq_true rfl, Nat.le_of_ble_eq_true rfl⟩ rfl hk h2 rfl rfl ?_
  refine zR_n 1 rfl ?_
  refine zR_m 1 rfl ?_
  exact zR_if (fun _ => hR) (fun h => absurd ((lg_cmp_eq _ _).mpr rfl) h)
set_option maxRecDepth 10000 in
theorem lc_9 (hC : isS C) (hk : k ≤ 600) (h1 : zE L xs 10 m_SR_flags [.ref 0] (mV C (uO o) a b V M R) (.inl (some (.int be))) (mV C' (uO o) a b V M R)) (h2 : zE L xs 10 m_Mo_flags [.ref 20] (mV C' (uO o) a b V M R) (.inl (some (.int be))) (mV C' (uO o) a' b' V' M' R')) (hR : zR L xs 11 m_law 795 (lw i) [] (mV C' (uO o) a' b' V' M' R') k ou h9 k9) : zR L xs 11 m_law 578 (lw i) [] (mV C (uO o) a b V M R) k ou h9 k9 := by
  obtain ⟨f, g, sg, A, W, x9, y9, Mc, rfl⟩ := hC
  refine zR_n 1 rfl ?_
  refine zR_v rfl rfl rfl rfl rfl ⟨rfl, Nat.le_of_ble_eq_true rfl, Nat.le_of_ble_eq_true rfl⟩ rfl hk h1 rfl rfl ?_
  refine zR_n 1 rfl ?_
  refine zR_v rfl rfl rfl rfl rfl ⟨rfl, Nat.le_of_ble_eq_true rfl, Nat.le_of_ble_eq_true rfl⟩ rfl hk h2 rfl rfl ?_
  refine zR_m 1 rfl ?_
  exact zR_if (fun _ => hR) (fun h => absurd rfl h)
set_option maxRecDepth 10000 in
theorem lc_11 (hC : isS C) (hk : k ≤ 600) (h1 : zE L xs 10 m_SR_condition [.ref 0] (mV C (uO o) a b V M R) (.inl (some (.int be))) (mV C' (uO o) a b V M R)) (h2 : zE L xs 10 m_Mo_condition [.ref 20] (mV C' (uO o) a b V M R) (.inl (some (.int be))) (mV C' (uO o) a' b' V' M' R')) (hR : zR L xs 11 m_law 795 (lw i) [] (mV C' (uO o) a' b' V' M' R') k ou h9 k9) : zR L xs 11 m_law 602 (lw i) [] (mV C (uO o) a b V M R) k ou h9 k9 := by
  obtain ⟨f, g, sg, A, W, x9, y9, Mc, rfl⟩ := hC
  refine zR_n 1 rfl ?_
  refine zR_v rfl rfl rfl rfl rfl ⟨rfl, Nat.le_of_ble_eq_true rfl, Nat.le_of_ble_eq_true rfl⟩ rfl hk h1 rfl rfl ?_
  refine zR_n 1 rfl ?_
  refine zR_v rfl rfl rfl rfl rfl ⟨rfl, Nat.le_of_ble_eq_true rfl, Nat.le_of_ble_eq_true rfl⟩ rfl hk h2 rfl rfl ?_
  refine zR_m 1 rfl ?_
  exact zR_if (fun _ => hR) (fun h => absurd rfl h)
set_option maxRecDepth 10000 in
theorem lc_12 (hC : isS C) (hk : k ≤ 600) (h1 : zE L xs 10 m_SR_depth [.ref 0] (mV C (uO o) a b V M R) (.inl (some (.int be))) (mV C' (uO o) a b V M R)) (h2 : zE L xs 10 m_Mo_depth [.ref 20] (mV C' (uO o) a b V M R) (.inl (some (.int be))) (mV C' (uO o) a' b' V' M' R')) (hR : zR L xs 11 m_law 795 (lw i) [] (mV C' (uO o) a' b' V' M' R') k ou h9 k9) : zR L xs 11 m_law 615 (lw i) [] (mV C (uO o) a b V M R) k ou h9 k9 := by
  obtain ⟨f, g, sg, A, W, x9, y9, Mc, rfl⟩ := hC
  refine zR_n 1 rfl ?_
  refine zR_v rfl rfl rfl rfl rfl ⟨rfl, Nat.le_of_ble_eq_true rfl, Nat.le_of_ble_eq_true rfl⟩ rfl hk h1 rfl rfl ?_
  refine zR_n 1 rfl ?_
  refine zR_v rfl rfl rfl rfl rfl ⟨rfl, Nat.le_of_ble_eq_true rfl, Nat.le_of_ble_eq_true rfl⟩ rfl hk h2 rfl rfl ?_
  refine zR_m 1 rfl ?_
  exact zR_if (fun _ => hR) (fun h => absurd rfl h)
set_option maxRecDepth 10000 in
theorem lc_10 (hC : isS C) (hk : k ≤ 600) (h1 : zE L xs 10 m_SR_clear [.ref 0] (mV C (uO o) a b V M R) (.inl none) (mV C' (uO o) a b V M R)) (h2 : zE L xs 10 m_Mo_clear [.ref 20] (mV C' (uO o) a b V M R) (.inl none) (mV C' (uO o) a' b' V' M' R')) (hR : zR L xs 11 m_law 795 (lw i) [] (mV C' (uO o) a' b' V' M' R') k ou h9 k9) : zR L xs 11 m_law 591 (lw i) [] (mV C (uO o) a b V M R) k ou h9 k9 := by
  obtain ⟨f, g, sg, A, W, x9, y9, Mc, rfl⟩ := hC
  refine zR_n 1 rfl ?_
  refine zR_v rfl rfl rfl rfl rfl ⟨rfl, Nat.le_of_ble_eq_true rfl, Nat.le_of_ble_eq_true rfl⟩ rfl hk h1 rfl rfl ?_
  refine zR_n 1 rfl ?_
  refine zR_v rfl rfl rfl rfl rfl ⟨rfl, Nat.le_of_ble_eq_true rfl, Nat.le_of_ble_eq_true rfl⟩ rfl hk h2 rfl rfl ?_
  exact zR_n 1 rfl hR
end LC
