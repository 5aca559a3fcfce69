/-! memory of the class, small questions -/
section ME
variable {L : Nat} {xs : Nat → Int32} {d : Nat} {h : zH} {f : Nat → Int32} {g : Nat → Int64} {sg : Bool} {A : Nat → Option Nat} {W : Nat → RV} {x y v : XV} {Mc : Nat → Int64} {T : List zC}
theorem lL62 {a b : Nat} (ha : a < 2 ^ 62) (hb : b < 2 ^ 62) : lN a ≤ lN b ↔ a ≤ b := pk_lLE (by omega) (by omega)
theorem lT62 {a b : Nat} (ha : a < 2 ^ 62) (hb : b < 2 ^ 62) : lN a < lN b ↔ a < b := pk_lLT (by omega) (by omega)
set_option maxRecDepth 10000 in
theorem m_flush {j : Nat} {lv : zL} (hj : f 6 = nI j) (hj8 : j < 8) : zR L xs d m_Me_goOn 29 [(0, .ref 18)] [] (sH f g true A W x y Mc T) 0 (.inl none) (sH f g false A W x y (fu Mc j (g 3)) T) 0 := by
  refine zR_to 41 (st' := [.long (g 3), .int (f 6), .ref 19]) rfl ?_
  rw [hj]
  refine zR_ls (q := 19) (N := 8) (f := Mc) rfl rfl (in_nI hj8 (by decide)) rfl ?_
  rw [nI_clamp (by omega)]
  refine zR_to 47 (h1 := sH f g false A W x y (fu Mc j (g 3)) T) rfl ?_
  exact zR_e rfl rfl rfl rfl rfl rfl
/-- the cells when all is there -/
def mFl (sg : Bool) (Mc : Nat → Int64) (j : Nat) (z : Int64) : Nat → Int64 := if sg then fu Mc j z else Mc
set_option maxRecDepth 10000 in
theorem c_Me_goOn {t fA k j : Nat} (ht : g 1 = lN t) (hf : g 2 = lN fA) (h1 : t + k < 2 ^ 62) (h2 : fA < 2 ^ 62) (hj : sg = true → f 6 = nI j ∧ j < 8) : zE L xs d m_Me_goOn [.ref 18, .long (lN k)] (sH f g sg A W x y Mc T) (.inl none) (sH f (fu g 1 (lN (t + k))) (sg && !decide (fA ≤ t + k)) A W x y (mFl (sg && decide (fA ≤ t + k)) Mc j (g 3)) T) := by
  refine ⟨0, Nat.zero_le _, ?_⟩
  refine zR_to 7 (st' := [.long (g 1 + lN k), .ref 18]) rfl ?_
  rw [ht, lN_add]
  refine zR_to 14 (st' := [.int (bI sg)]) (h1 := sH f (fu g 1 (lN (t + k))) sg A W x y Mc T) rfl ?_
  cases sg with
  | false =>
    refine zR_to 47 rfl ?_
    exact zR_e rfl rfl rfl rfl rfl rfl
  | true =>
    obtain ⟨j1, j2⟩ := hj rfl
    refine zR_to 25 (st' := [.long (g 2), .long (lN (t + k))]) rfl ?_
    rw [hf]
    refine zR_to 26 (st' := [.int (lg_cmp (lN (t + k)) (lN fA))]) rfl ?_
    refine zR_m 1 rfl ?_
    refine zR_if (fun h9 => ?_) (fun h9 => ?_)
    · have h8 := (lT62 h1 h2).mp ((lg_cmp_lt _ _).mp h9)
      rw [decide_eq_false (show ¬ fA ≤ t + k by omega)]
      exact zR_e rfl rfl rfl rfl rfl rfl
    · have h8 : fA ≤ t + k := by
        rcases Nat.lt_or_ge (t + k) fA with h7 | h7
        · exact absurd ((lg_cmp_lt _ _).mpr ((lT62 h1 h2).mpr h7)) h9
        · exact h7
      rw [decide_eq_true h8]
      have h7 := m_flush (L := L) (xs := xs) (d := d) (f := f) (g := fu g 1 (lN (t + k))) (A := A) (W := W) (x := x) (y := y) (Mc := Mc) (T := T) (lv := []) j1 j2
      exact zR_w h7 rfl rfl ⟨rfl, trivial⟩
set_option maxRecDepth 10000 in
theorem c_Me_waitUntilFree {t fA j : Nat} (ht : g 1 = lN t) (hf : g 2 = lN fA) (h1 : t < 2 ^ 61) (h2 : fA < 2 ^ 61) (h3 : fA - t < 2 ^ 31) (hj : sg = true → f 6 = nI j ∧ j < 8) : zE L xs (d + 1) m_Me_waitUntilFree [.ref 18] (sH f g sg A W x y Mc T) (.inl (some (.int (nI (fA - t))))) (sH f (fu g 1 (lN (t + (fA - t)))) false A W x y (mFl sg Mc j (g 3)) T) := by
  have hgo := c_Me_goOn (L := L) (xs := xs) (d := d) (f := f) (g := g) (sg := sg) (A := A) (W := W) (x := x) (y := y) (Mc := Mc) (T := T) (k := fA - t) ht hf (by omega) (by omega) hj
  rw [decide_eq_true (show fA ≤ t + (fA - t) by omega), Bool.not_true, Bool.and_false, Bool.and_true] at hgo
  have fin : zR L xs (d + 1) m_Me_waitUntilFree 26 [(0, .ref 18)] [.int (nI (fA - t))] (sH f g sg A W x y Mc T) 0 (.inl (some (.int (nI (fA - t))))) (sH f (fu g 1 (lN (t + (fA - t)))) false A W x y (mFl sg Mc j (g 3)) T) 0 := by
    refine zR_to 30 (st' := [.long (nI (fA - t)).toInt64, .ref 18]) rfl ?_
    rw [nI_l h3]
    refine zR_v rfl rfl rfl rfl rfl ⟨rfl, Nat.le_of_ble_eq_true rfl, Nat.le_of_ble_eq_true rfl⟩ rfl (Nat.le_refl _) hgo rfl rfl ?_
    exact zR_to 34 rfl (zR_e rfl rfl rfl rfl rfl rfl)
  refine ⟨0, Nat.zero_le _, ?_⟩
  refine zR_to 8 (st' := [.long (g 1), .long (g 2)]) rfl ?_
  rw [ht, hf]
  refine zR_to 9 (st' := [.int (lg_cmp (lN fA) (lN t))]) rfl ?_
  refine zR_m 1 rfl ?_
  refine zR_if (fun h9 => ?_) (fun h9 => ?_)
  · have h8 := (lL62 (by omega) (by omega)).mp ((lg_cmp_le _ _).mp h9)
    rw [show fA - t = 0 by omega] at fin ⊢
    exact zR_n 1 rfl fin
  · have h8 : t < fA := by
      rcases Nat.lt_or_ge t fA with h7 | h7
      · exact h7
      · exact absurd ((lg_cmp_le _ _).mpr ((lL62 (by omega) (by omega)).mpr h7)) h9
    refine zR_to 20 (st' := [.long (g 1), .long (g 2)]) rfl ?_
    rw [ht, hf]
    refine zR_to 21 (st' := [.long (lN fA - lN t)]) rfl ?_
    rw [lN_sub (by omega)]
    refine zR_to 22 (st' := [.int (lN (fA - t)).toInt32]) rfl ?_
    rw [lN_i]
    exact zR_n 1 rfl fin
set_option maxRecDepth 10000 in
theorem c_Me_occupy {t fA j n : Nat} (ht : g 1 = lN t) (hf : g 2 = lN fA) (h1 : t < 2 ^ 61) (h2 : fA < 2 ^ 61) (h3 : fA - t < 2 ^ 31) (hn : n < 2 ^ 31) (hj : sg = true → f 6 = nI j ∧ j < 8) : zE L xs (d + 2) m_Me_occupy [.ref 18, .int (nI n)] (sH f g sg A W x y Mc T) (.inl none) (sH f (fu (fu g 1 (lN (t + (fA - t)))) 2 (lN (t + (fA - t) + n))) false A W x y (mFl sg Mc j (g 3)) T) := by
  refine ⟨0, Nat.zero_le _, ?_⟩
  refine zR_n 1 rfl ?_
  refine zR_v rfl rfl rfl rfl rfl ⟨rfl, Nat.le_of_ble_eq_true rfl, Nat.le_of_ble_eq_true rfl⟩ rfl (Nat.le_refl _) (c_Me_waitUntilFree ht hf h1 h2 h3 hj) rfl rfl ?_
  generalize hg1 : fu g 1 (lN (t + (fA - t))) = g1
  generalize mFl sg Mc j (g 3) = M1
  refine zR_to 12 (st' := [.long (nI n).toInt64, .long (g1 1), .ref 18]) rfl ?_
  rw [nI_l hn, show g1 1 = lN (t + (fA - t)) from by rw [← hg1]; rfl]
  refine zR_to 13 (st' := [.long (lN (t + (fA - t)) + lN n), .ref 18]) rfl ?_
  rw [lN_add]
  generalize lN (t + (fA - t) + n) = v9
  refine zR_to 16 (h1 := sH f (fu g1 2 v9) false A W x y M1 T) rfl ?_
  exact zR_e rfl rfl rfl rfl rfl rfl
set_option maxRecDepth 10000 in
theorem c_Me_storeWhenFree {c : Int32} {z : Int64} : zE L xs d m_Me_storeWhenFree [.ref 18, .int c, .long z] (sH f g sg A W x y Mc T) (.inl none) (sH (fu f 6 c) (fu g 3 z) true A W x y Mc T) := by
  refine ⟨0, Nat.zero_le _, ?_⟩
  refine zR_to 15 (h1 := sH (fu f 6 c) (fu g 3 z) true A W x y Mc T) rfl ?_
  exact zR_e rfl rfl rfl rfl rfl rfl
set_option maxRecDepth 10000 in
theorem c_SR_isCell {z : Int32} : zE L xs d m_SR_isCell [.int z] h (.inl (some (.int (bI (!outB z (nI 8)))))) h := by
  refine ⟨0, Nat.zero_le _, ?_⟩
  refine zR_n 1 rfl ?_
  refine zR_n 1 rfl ?_
  refine zR_if (fun h1 => ?_) (fun h1 => ?_)
  · rw [show outB z (nI 8) = true from decide_eq_true (Or.inl h1)]
    exact zR_to 15 rfl (zR_e rfl rfl rfl rfl rfl rfl)
  · refine zR_n 2 rfl ?_
    refine zR_n 1 rfl ?_
    refine zR_if (fun h2 => ?_) (fun h2 => ?_)
    · rw [show outB z (nI 8) = true from decide_eq_true (Or.inr h2)]
      exact zR_to 15 rfl (zR_e rfl rfl rfl rfl rfl rfl)
    · rw [show outB z (nI 8) = false from decide_eq_false (fun h9 => h9.elim h1 h2)]
      exact zR_to 15 rfl (zR_e rfl rfl rfl rfl rfl rfl)
theorem le3 {z : Int32} : (3 : Int32) < z ↔ nI 4 ≤ z := by
  rw [Int32.lt_iff_toInt_lt, Int32.le_iff_toInt_le]
  show (3 : Int) < _ ↔ (4 : Int) ≤ _
  omega
set_option maxRecDepth 10000 in
theorem c_SR_isForm {z : Int32} : zE L xs d m_SR_isForm [.int z] h (.inl (some (.int (bI (!outB z (nI 4)))))) h := by
  refine ⟨0, Nat.zero_le _, ?_⟩
  refine zR_n 1 rfl ?_
  refine zR_n 1 rfl ?_
  refine zR_if (fun h1 => ?_) (fun h1 => ?_)
  · rw [show outB z (nI 4) = true from decide_eq_true (Or.inl h1)]
    exact zR_to 14 rfl (zR_e rfl rfl rfl rfl rfl rfl)
  · refine zR_n 2 rfl ?_
    refine zR_n 1 rfl ?_
    refine zR_if (fun h2 => ?_) (fun h2 => ?_)
    · rw [show outB z (nI 4) = true from decide_eq_true (Or.inr (le3.mp h2))]
      exact zR_to 14 rfl (zR_e rfl rfl rfl rfl rfl rfl)
    · rw [show outB z (nI 4) = false from decide_eq_false (fun h9 => h9.elim h1 (fun h8 => h2 (le3.mpr h8)))]
      exact zR_to 14 rfl (zR_e rfl rfl rfl rfl rfl rfl)
set_option maxRecDepth 10000 in
theorem c_SR_isOnStack {z : Int32} {n : Nat} (hn : f 0 = nI n) : zE L xs d m_SR_isOnStack [.ref 0, .int z] (sH f g sg A W x y Mc T) (.inl (some (.int (bI (!outB z (nI n)))))) (sH f g sg A W x y Mc T) := by
  refine ⟨0, Nat.zero_le _, ?_⟩
  refine zR_n 1 rfl ?_
  refine zR_n 1 rfl ?_
  refine zR_if (fun h1 => ?_) (fun h1 => ?_)
  · rw [show outB z (nI n) = true from decide_eq_true (Or.inl h1)]
    exact zR_to 17 rfl (zR_e rfl rfl rfl rfl rfl rfl)
  · refine zR_to 9 (st' := [.int (f 0), .int z]) rfl ?_
    rw [hn]
    refine zR_m 1 rfl ?_
    refine zR_if (fun h2 => ?_) (fun h2 => ?_)
    · rw [show outB z (nI n) = true from decide_eq_true (Or.inr h2)]
      exact zR_to 17 rfl (zR_e rfl rfl rfl rfl rfl rfl)
    · rw [show outB z (nI n) = false from decide_eq_false (fun h9 => h9.elim h1 h2)]
      exact zR_to 17 rfl (zR_e rfl rfl rfl rfl rfl rfl)
set_option maxRecDepth 10000 in
theorem c_SR_st {n k s : Nat} (hn : f 0 = nI n) (hk : k < n) (hn8 : n ≤ 8) (hA : A (n - 1 - k) = some s) : zE L xs d m_SR_st [.ref 0, .int (nI k)] (sH f g sg A W x y Mc T) (.inl (some (.ref s))) (sH f g sg A W x y Mc T) := by
  refine ⟨0, Nat.zero_le _, ?_⟩
  refine zR_to 12 (st' := [.int (f 0 - 1 - nI k), .ref 1]) rfl ?_
  rw [hn, nI_m1' (by omega), pk_sub (show k ≤ n - 1 by omega)]
  refine zR_aa (q := 1) (N := 8) (f := A) rfl rfl (in_nI (show n - 1 - k < 8 by omega) (by decide)) (by rw [nI_clamp (by omega)]; exact hA) rfl ?_
  exact zR_e rfl rfl rfl rfl rfl rfl
set_option maxRecDepth 10000 in
theorem c_SR_push {n j s : Nat} (hn : f 0 = nI n) (hn8 : n < 8) (hA : A n = some s) (hs : RP s) (hj : RP j) (hne : j ≠ s) : zE L xs (d + 1) m_SR_push [.ref 0, .ref j] (sH f g sg A W x y Mc T) (.inl none) (sH (fu f 0 (nI (n + 1))) g sg A (fu W s (W j)) x y Mc T) := by
  refine ⟨0, Nat.zero_le _, ?_⟩
  refine zR_to 8 (st' := [.int (f 0), .ref 1]) rfl ?_
  rw [hn]
  refine zR_aa (q := 1) (N := 8) (f := A) rfl rfl (in_nI hn8 (by decide)) (by rw [nI_clamp (by omega)]; exact hA) rfl ?_
  refine zR_n 1 rfl ?_
  refine zR_v rfl rfl rfl rfl (sR_get hs) ⟨rfl, Nat.le_of_ble_eq_true rfl, Nat.le_of_ble_eq_true rfl⟩ rfl (Nat.le_refl _) (c_Re_copy hs hj hne) rfl rfl ?_
  generalize fu W s (W j) = W1
  refine zR_to 20 (st' := [.int (f 0 + 1), .ref 0]) rfl ?_
  rw [hn, nI_1]
  generalize nI (n + 1) = v9
  refine zR_to 23 (h1 := sH (fu f 0 v9) g sg A W1 x y Mc T) rfl ?_
  exact zR_e rfl rfl rfl rfl rfl rfl
set_option maxRecDepth 10000 in
theorem c_SR_raise0 {e : Int32} (h9 : thr (f 1) e = false) : zE L xs d m_SR_raise [.ref 0, .int e] (sH f g sg A W x y Mc T) (.inl (some (.int e))) (sH (fu f 2 (f 2 ||| e)) g sg A W x y Mc T) := by
  have h8 := of_decide_eq_false h9
  refine ⟨0, Nat.zero_le _, ?_⟩
  refine zR_to 18 (st' := [.int (e &&& (f 1 ^^^ (-1)))]) (h1 := sH (fu f 2 (f 2 ||| e)) g sg A W x y Mc T) rfl ?_
  refine zR_m 1 rfl ?_
  refine zR_if (fun _ => ?_) (fun h7 => absurd h7 h8)
  exact zR_to 32 rfl (zR_e rfl rfl rfl rfl rfl rfl)
set_option maxRecDepth 10000 in
theorem c_SR_raise1 {e : Int32} (h9 : thr (f 1) e = true) : zE L xs (d + 6) m_SR_raise [.ref 0, .int e] (sH f g sg A W x y Mc T) (.inr 2) (sH (fu f 2 (f 2 ||| e)) g sg A W x y Mc T) := by
  have h8 := of_decide_eq_true h9
  refine ⟨1, Nat.le_refl _, ?_⟩
  refine zR_to 18 (st' := [.int (e &&& (f 1 ^^^ (-1)))]) (h1 := sH (fu f 2 (f 2 ||| e)) g sg A W x y Mc T) rfl ?_
  refine zR_m 1 rfl ?_
  refine zR_if (fun h7 => absurd h7 h8) (fun _ => ?_)
  exact zR_t rfl rfl rfl rfl rfl rfl ⟨Nat.le_refl _, rfl, by omega⟩
end ME
