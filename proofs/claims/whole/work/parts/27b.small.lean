/-! small methods of the class -/
/-- compareMagnitudes -/
def cmM (x y : RV) : Int32 := if rk x = rk y then (if re x = re y then (if x.2.2.2 = y.2.2.2 then 0 else if rs x < rs y then -1 else 1) else if re x < re y then -1 else 1) else if rk x < rk y then -1 else 1
section SB
variable {L : Nat} {xs : Nat → Int32} {d : Nat} {mi : ZM} {pc : Nat} {lv : zL} {st st' r : List Value} {h h' : zH} {k k' : Nat} {o : zO} {pc' : Nat}
variable {f : Nat → Int32} {g : Nat → Int64} {sg : Bool} {A : Nat → Option Nat} {W : Nat → RV} {x y : XV} {Mc : Nat → Int64} {T : List zC}
set_option maxRecDepth 10000 in
theorem c_SR_isBelow {u v : Int64} : zE L xs d m_SR_isBelow [.long u, .long v] h (.inl (some (.int (bI (decide (uN u < uN v)))))) h := by
  refine ⟨0, Nat.zero_le _, ?_⟩
  refine zR_to 11 (st' := [.int (lg_cmp (u ^^^ (-9223372036854775808)) (v ^^^ (-9223372036854775808)))]) rfl ?_
  refine zR_m 1 rfl ?_
  refine zR_if (fun h => ?_) (fun h => ?_)
  · have h9 := (uN_le v u).mp ((lg_cmp_ge _ _).mp h)
    rw [decide_eq_false (show ¬ uN u < uN v by omega)]
    refine zR_to 19 (st' := [.int 0]) rfl ?_
    exact zR_e rfl rfl rfl rfl rfl rfl
  · have h9 : uN u < uN v := by
      rcases Nat.lt_or_ge (uN u) (uN v) with h9 | h9
      · exact h9
      · exact absurd ((lg_cmp_ge _ _).mpr ((uN_le v u).mpr h9)) h
    rw [decide_eq_true h9]
    refine zR_to 19 (st' := [.int 1]) rfl ?_
    exact zR_e rfl rfl rfl rfl rfl rfl
set_option maxRecDepth 10000 in
theorem c_SR_compareMagnitudes {q j : Nat} (hq : RP q) (hj : RP j) : zE L xs (d + 1) m_SR_compareMagnitudes [.ref q, .ref j] (sH f g sg A W x y Mc T) (.inl (some (.int (cmM (W q) (W j))))) (sH f g sg A W x y Mc T) := by
  unfold cmM
  refine ⟨0, Nat.zero_le _, ?_⟩
  refine zR_n 1 rfl ?_
  refine zW_g hq rfl rfl rfl rfl rfl ?_
  refine zR_n 1 rfl ?_
  refine zW_g hj rfl rfl rfl rfl rfl ?_
  refine zR_n 1 rfl ?_
  refine zR_if (fun hk => ?_) (fun hk => ?_)
  · rw [if_pos (show rk (W q) = rk (W j) from hk)]
    refine zR_n 1 rfl ?_
    refine zW_g hq rfl rfl rfl rfl rfl ?_
    refine zR_n 1 rfl ?_
    refine zW_g hj rfl rfl rfl rfl rfl ?_
    refine zR_n 1 rfl ?_
    refine zR_if (fun he => ?_) (fun he => ?_)
    · rw [if_pos (show re (W q) = re (W j) from he)]
      refine zR_n 1 rfl ?_
      refine zW_g hq rfl rfl rfl rfl rfl ?_
      refine zR_n 1 rfl ?_
      refine zW_g hj rfl rfl rfl rfl rfl ?_
      refine zR_n 2 rfl ?_
      refine zR_if (fun hs => ?_) (fun hs => ?_)
      · rw [if_neg (show ¬ (W q).2.2.2 = (W j).2.2.2 from fun h9 => hs ((lg_cmp_eq _ _).mpr h9))]
        refine zR_n 1 rfl ?_
        refine zW_g hq rfl rfl rfl rfl rfl ?_
        refine zR_n 1 rfl ?_
        refine zW_g hj rfl rfl rfl rfl rfl ?_
        refine zR_i rfl rfl rfl rfl ⟨Nat.le_of_ble_eq_true rfl, Nat.le_of_ble_eq_true rfl, Nat.le_of_ble_eq_true rfl⟩ rfl (Nat.le_refl _) (c_SR_isBelow (u := (W q).2.2.2) (v := (W j).2.2.2)) rfl rfl ?_
        by_cases hb : rs (W q) < rs (W j)
        · rw [if_pos hb, decide_eq_true (show uN (W q).2.2.2 < uN (W j).2.2.2 from hb)]
          refine zR_to 89 (st' := [.int (-1)]) rfl ?_
          exact zR_e rfl rfl rfl rfl rfl rfl
        · rw [if_neg hb, decide_eq_false (show ¬ uN (W q).2.2.2 < uN (W j).2.2.2 from hb)]
          refine zR_to 89 (st' := [.int 1]) rfl ?_
          exact zR_e rfl rfl rfl rfl rfl rfl
      · rw [if_pos (show (W q).2.2.2 = (W j).2.2.2 from (lg_cmp_eq _ _).mp (Decidable.of_not_not hs))]
        refine zR_to 69 (st' := [.int 0]) rfl ?_
        exact zR_e rfl rfl rfl rfl rfl rfl
    · rw [if_neg (show ¬ re (W q) = re (W j) from he)]
      refine zR_n 1 rfl ?_
      refine zW_g hq rfl rfl rfl rfl rfl ?_
      refine zR_n 1 rfl ?_
      refine zW_g hj rfl rfl rfl rfl rfl ?_
      refine zR_n 1 rfl ?_
      refine zR_if (fun hl => ?_) (fun hl => ?_)
      · rw [if_neg (show ¬ re (W q) < re (W j) from Int32.not_lt.mpr hl)]
        refine zR_to 55 (st' := [.int 1]) rfl ?_
        exact zR_e rfl rfl rfl rfl rfl rfl
      · rw [if_pos (show re (W q) < re (W j) from Int32.not_le.mp hl)]
        refine zR_to 55 (st' := [.int (-1)]) rfl ?_
        exact zR_e rfl rfl rfl rfl rfl rfl
  · rw [if_neg (show ¬ rk (W q) = rk (W j) from hk)]
    refine zR_n 1 rfl ?_
    refine zW_g hq rfl rfl rfl rfl rfl ?_
    refine zR_n 1 rfl ?_
    refine zW_g hj rfl rfl rfl rfl rfl ?_
    refine zR_n 1 rfl ?_
    refine zR_if (fun hl => ?_) (fun hl => ?_)
    · rw [if_neg (show ¬ rk (W q) < rk (W j) from Int32.not_lt.mpr hl)]
      refine zR_to 27 (st' := [.int 1]) rfl ?_
      exact zR_e rfl rfl rfl rfl rfl rfl
    · rw [if_pos (show rk (W q) < rk (W j) from Int32.not_le.mp hl)]
      refine zR_to 27 (st' := [.int (-1)]) rfl ?_
      exact zR_e rfl rfl rfl rfl rfl rfl
theorem sH_5 {w : Int32} (hw : f 5 = w) : sH f g sg A W x y Mc T = sH (fu f 5 w) g sg A W x y Mc T := by rw [fu_self hw]
set_option maxRecDepth 10000 in
set_option maxHeartbeats 4000000 in
theorem c_Ro_goesAway {w : Nat} {neg odd half rest : Bool} (hw : f 5 = nI w) (hw4 : w < 4) : zE L xs d m_Ro_goesAway [.ref 12, .int (bI neg), .int (bI odd), .int (bI half), .int (bI rest)] (sH f g sg A W x y Mc T) (.inl (some (.int (bI (rUp w neg odd half rest))))) (sH f g sg A W x y Mc T) := by
  rw [sH_5 hw]
  obtain rfl | rfl | rfl | rfl : w = 0 ∨ w = 1 ∨ w = 2 ∨ w = 3 := by omega
  · cases odd <;> cases half <;> cases rest <;> exact zE_m (n := 40) rfl (Nat.le_refl _)
  · cases neg <;> cases half <;> cases rest <;> exact zE_m (n := 40) rfl (Nat.le_refl _)
  · cases neg <;> cases half <;> cases rest <;> exact zE_m (n := 40) rfl (Nat.le_refl _)
  · cases neg <;> exact zE_m (n := 40) rfl (Nat.le_refl _)
set_option maxRecDepth 10000 in
theorem c_Ro_staysBelowInfinite {w : Nat} {neg : Bool} (hw : f 5 = nI w) (hw4 : w < 4) : zE L xs d m_Ro_staysBelowInfinite [.ref 12, .int (bI neg)] (sH f g sg A W x y Mc T) (.inl (some (.int (bI (rBelow w neg))))) (sH f g sg A W x y Mc T) := by
  rw [sH_5 hw]
  obtain rfl | rfl | rfl | rfl : w = 0 ∨ w = 1 ∨ w = 2 ∨ w = 3 := by omega
  · cases neg <;> exact zE_m (n := 40) rfl (Nat.le_refl _)
  · cases neg <;> exact zE_m (n := 40) rfl (Nat.le_refl _)
  · cases neg <;> exact zE_m (n := 40) rfl (Nat.le_refl _)
  · cases neg <;> exact zE_m (n := 40) rfl (Nat.le_refl _)
/-- the sign of an exact number written -/
theorem zX_n {n : Nat} {b : Bool} (hf : zfetch mi pc = some (.putfield n, 3)) (hx : zFld (zCno mi) n = some (2, 0)) (hp : pc + 3 = pc') (hR : zR L xs d mi pc' lv r (sH f g sg A W (b, x.2) y Mc T) k o h' k') : zR L xs d mi pc lv (.int (bI b) :: .ref 14 :: r) (sH f g sg A W x y Mc T) k o h' k' :=
  zR_p (q := 14) (fs := [.int (bI x.1), .int x.2.1, .long x.2.2.1, .long x.2.2.2]) (fs' := [.int (bI b), .int x.2.1, .long x.2.2.1, .long x.2.2.2]) hf hx rfl (Nat.le_of_ble_eq_true rfl) (bI_put _ _ _ rfl rfl) rfl hp hR
theorem zY_n {n : Nat} {b : Bool} (hf : zfetch mi pc = some (.putfield n, 3)) (hx : zFld (zCno mi) n = some (2, 0)) (hp : pc + 3 = pc') (hR : zR L xs d mi pc' lv r (sH f g sg A W x (b, y.2) Mc T) k o h' k') : zR L xs d mi pc lv (.int (bI b) :: .ref 16 :: r) (sH f g sg A W x y Mc T) k o h' k' :=
  zR_p (q := 16) (fs := [.int (bI y.1), .int y.2.1, .long y.2.2.1, .long y.2.2.2]) (fs' := [.int (bI b), .int y.2.1, .long y.2.2.1, .long y.2.2.2]) hf hx rfl (Nat.le_of_ble_eq_true rfl) (bI_put _ _ _ rfl rfl) rfl hp hR
set_option maxRecDepth 10000 in
theorem c_Ex_copy14 {q : Nat} (hq : RP q) : zE L xs d m_Ex_copy [.ref 14, .ref q] (sH f g sg A W x y Mc T) (.inl none) (sH f g sg A W (rn (W q), re (W q), (W q).2.2.2, 0) y Mc T) := by
  refine ⟨0, Nat.zero_le _, ?_⟩
  refine zR_n 2 rfl ?_
  refine zW_g hq rfl rfl rfl rfl rfl ?_
  refine zX_n rfl rfl rfl ?_
  refine zR_n 2 rfl ?_
  refine zW_g hq rfl rfl rfl rfl rfl ?_
  refine zR_to 18 (h1 := sH f g sg A W (rn (W q), re (W q), x.2.2) y Mc T) rfl ?_
  refine zW_g hq rfl rfl rfl rfl rfl ?_
  refine zR_to 29 (h1 := sH f g sg A W (rn (W q), re (W q), (W q).2.2.2, 0) y Mc T) rfl ?_
  exact zR_e rfl rfl rfl rfl rfl rfl
set_option maxRecDepth 10000 in
theorem c_Ex_copy16 {q : Nat} (hq : RP q) : zE L xs d m_Ex_copy [.ref 16, .ref q] (sH f g sg A W x y Mc T) (.inl none) (sH f g sg A W x (rn (W q), re (W q), (W q).2.2.2, 0) Mc T) := by
  refine ⟨0, Nat.zero_le _, ?_⟩
  refine zR_n 2 rfl ?_
  refine zW_g hq rfl rfl rfl rfl rfl ?_
  refine zY_n rfl rfl rfl ?_
  refine zR_n 2 rfl ?_
  refine zW_g hq rfl rfl rfl rfl rfl ?_
  refine zR_to 18 (h1 := sH f g sg A W x (rn (W q), re (W q), y.2.2) Mc T) rfl ?_
  refine zW_g hq rfl rfl rfl rfl rfl ?_
  refine zR_to 29 (h1 := sH f g sg A W x (rn (W q), re (W q), (W q).2.2.2, 0) Mc T) rfl ?_
  exact zR_e rfl rfl rfl rfl rfl rfl
set_option maxRecDepth 10000 in
theorem c_Ex_isZero : zE L xs d m_Ex_isZero [.ref 14] (sH f g sg A W x y Mc T) (.inl (some (.int (bI (decide (x.2.2.1 = 0) && decide (x.2.2.2 = 0)))))) (sH f g sg A W x y Mc T) := by
  refine ⟨0, Nat.zero_le _, ?_⟩
  refine zR_to 6 (st' := [.int (lg_cmp x.2.2.1 0)]) rfl ?_
  refine zR_m 1 rfl ?_
  refine zR_if (fun h => ?_) (fun h => ?_)
  · rw [decide_eq_false (show ¬ x.2.2.1 = 0 from fun h9 => h ((lg_cmp_eq _ _).mpr h9))]
    refine zR_to 23 (st' := [.int 0]) rfl ?_
    exact zR_e rfl rfl rfl rfl rfl rfl
  · rw [decide_eq_true (show x.2.2.1 = 0 from (lg_cmp_eq _ _).mp (Decidable.of_not_not h))]
    refine zR_to 15 (st' := [.int (lg_cmp x.2.2.2 0)]) rfl ?_
    refine zR_m 1 rfl ?_
    refine zR_if (fun h => ?_) (fun h => ?_)
    · rw [decide_eq_false (show ¬ x.2.2.2 = 0 from fun h9 => h ((lg_cmp_eq _ _).mpr h9))]
      refine zR_to 23 (st' := [.int 0]) rfl ?_
      exact zR_e rfl rfl rfl rfl rfl rfl
    · rw [decide_eq_true (show x.2.2.2 = 0 from (lg_cmp_eq _ _).mp (Decidable.of_not_not h))]
      refine zR_to 23 (st' := [.int 1]) rfl ?_
      exact zR_e rfl rfl rfl rfl rfl rfl
end SB
