/-! normalize, multiplyBits, becomeProduct of the class -/
/-- the number Z * 2^(E - 127), of at most 128 bits, with its top bit at the top -/
def nmX (mb : Bool) (E : Int) (Z : Nat) : XV := if Z = 0 then (mb, iZ (E - 64), 0, 0) else (mb, iZ (E - (128 - nb Z : Nat)), lN (Z * 2 ^ (128 - nb Z) / 2 ^ 64), lN (Z * 2 ^ (128 - nb Z) % 2 ^ 64))
/-- what lies in hi, lo after the shift -/
theorem nm_hl {Z : Nat} (h0 : Z ≠ 0) (h1 : Z < 2 ^ 128) : 2 ^ 63 ≤ Z * 2 ^ (128 - nb Z) / 2 ^ 64 ∧ Z * 2 ^ (128 - nb Z) / 2 ^ 64 < 2 ^ 64 ∧ Z * 2 ^ (128 - nb Z) % 2 ^ 64 < 2 ^ 64 ∧ Z * 2 ^ (128 - nb Z) / 2 ^ 64 * 2 ^ 64 + Z * 2 ^ (128 - nb Z) % 2 ^ 64 = Z * 2 ^ (128 - nb Z) := by
  have hb := nb_bd h1
  have hb1 : 1 ≤ nb Z := by
    rcases Nat.eq_zero_or_pos (nb Z) with h9 | h9
    · have := nb_lt Z
      rw [h9] at this
      omega
    · exact h9
  have h2 := nb_le h0
  have h3 := nb_lt Z
  have e1 : 2 ^ (nb Z - 1) * 2 ^ (128 - nb Z) = 2 ^ 127 := by rw [← Nat.pow_add]; congr 1; omega
  have e2 : 2 ^ nb Z * 2 ^ (128 - nb Z) = 2 ^ 128 := by rw [← Nat.pow_add]; congr 1; omega
  have h4 : 2 ^ 127 ≤ Z * 2 ^ (128 - nb Z) := by rw [← e1]; exact Nat.mul_le_mul_right _ h2
  have h5 : Z * 2 ^ (128 - nb Z) < 2 ^ 128 := by rw [← e2]; exact Nat.mul_lt_mul_of_pos_right h3 (pow_pos2 _)
  generalize Z * 2 ^ (128 - nb Z) = Y at *
  rw [show (2 : Nat) ^ 127 = 2 ^ 63 * 2 ^ 64 by decide] at h4
  rw [show (2 : Nat) ^ 128 = 2 ^ 64 * 2 ^ 64 by decide] at h5
  refine ⟨?_, ?_, ?_, ?_⟩ <;> omega
theorem nb_2 {Z : Nat} (h : Z ≠ 0) : nb (Z * 2) = nb Z + 1 := by
  have h1 := nb_le h
  have h2 := nb_lt Z
  have hb1 : 1 ≤ nb Z := by
    rcases Nat.eq_zero_or_pos (nb Z) with h9 | h9
    · rw [h9] at h2
      omega
    · exact h9
  refine nb_uniq ?_ ?_
  · rw [show nb Z = (nb Z - 1) + 1 by omega, Nat.pow_succ]
    omega
  · rw [Nat.pow_succ]
    omega
/-- an exact number times a power of two -/
theorem can_scale {X N m W : Nat} {E : Int} {s : Bool} (h : Can X (E - 127) E W s) (hX : X = N * 2 ^ m) (hm : m ≤ 127) : Can N (E - 127 + m) E W s := by
  obtain ⟨t, r, h1, h2, h3, h4, h5, h6⟩ := h
  obtain rfl : t = 127 := by omega
  have hd : 2 ^ m ∣ r := by
    have d1 : 2 ^ m ∣ W * 2 ^ 127 + r := ⟨N * 2 ^ 64, by rw [← h1, hX, Nat.mul_comm (2 ^ m), Nat.mul_right_comm]⟩
    have d2 : 2 ^ m ∣ W * 2 ^ 127 := Nat.dvd_trans (Nat.pow_dvd_pow 2 hm) (Nat.dvd_mul_left _ _)
    exact (Nat.dvd_add_right d2).mp d1
  obtain ⟨r', rfl⟩ := hd
  have hp := pow_pos2 m
  have e1 : (2 : Nat) ^ 127 = 2 ^ m * 2 ^ (127 - m) := by rw [← Nat.pow_add]; congr 1; omega
  refine ⟨127 - m, r', ?_, ?_, h3, h4, by omega, ?_⟩
  · have h9 : 2 ^ m * (N * 2 ^ 64) = 2 ^ m * (W * 2 ^ (127 - m) + r') := by
      rw [Nat.mul_add, Nat.mul_left_comm (2 ^ m) W, ← e1, ← h1, hX, Nat.mul_comm (2 ^ m), Nat.mul_right_comm]
    exact Nat.eq_of_mul_eq_mul_left hp h9
  · rw [e1] at h2
    exact Nat.lt_of_mul_lt_mul_left h2
  · rw [h6]
    apply decide_eq_decide.mpr
    constructor
    · intro h9 h8
      exact h9 (by rw [h8, Nat.mul_zero])
    · intro h9 h8
      rcases Nat.mul_eq_zero.mp h8 with h7 | h7
      · omega
      · exact h9 h7
section NM
variable {L : Nat} {xs : Nat → Int32} {d : Nat} {f : Nat → Int32} {g : Nat → Int64} {sg : Bool} {A : Nat → Option Nat} {W : Nat → RV} {x y : XV} {Mc : Nat → Int64} {T : List zC}
set_option maxRecDepth 10000 in
theorem l_Ex_normalize {mb : Bool} : ∀ (s : Nat) {j hi lo : Nat} {E : Int}, s + j ≤ 63 → 0 < hi → hi < 2 ^ 64 → lo < 2 ^ 64 → 128 - nb (hi * 2 ^ 64 + lo) = s →
    zR L xs d m_Ex_normalize 35 [(1, .int (nI j)), (0, .ref 14)] [] (sH f g sg A W (mb, iZ E, lN hi, lN lo) y Mc T) 0 (.inl none) (sH f g sg A W (mb, iZ (E - s), lN ((hi * 2 ^ 64 + lo) * 2 ^ s / 2 ^ 64), lN ((hi * 2 ^ 64 + lo) * 2 ^ s % 2 ^ 64)) y Mc T) 0 := by
  intro s
  induction s with
  | zero =>
    intro j hi lo E hj h0 h1 h2 hs
    have hb := nb_bd (x := hi * 2 ^ 64 + lo) (n := 128) (by rw [show (2 : Nat) ^ 128 = 2 ^ 64 * 2 ^ 64 by decide]; omega)
    have h3 := nb_le (x := hi * 2 ^ 64 + lo) (by omega)
    rw [show nb (hi * 2 ^ 64 + lo) = 128 by omega] at h3
    have h63 : 2 ^ 63 ≤ hi := by
      rw [show (2 : Nat) ^ (128 - 1) = 2 ^ 63 * 2 ^ 64 by decide] at h3
      omega
    have fin : zR L xs d m_Ex_normalize 94 [(1, .int (nI j)), (0, .ref 14)] [] (sH f g sg A W (mb, iZ E, lN hi, lN lo) y Mc T) 0 (.inl none) (sH f g sg A W (mb, iZ (E - (0 : Nat)), lN ((hi * 2 ^ 64 + lo) * 2 ^ 0 / 2 ^ 64), lN ((hi * 2 ^ 64 + lo) * 2 ^ 0 % 2 ^ 64)) y Mc T) 0 := by
      refine zR_e rfl rfl rfl rfl rfl ?_
      rw [Nat.pow_zero, Nat.mul_one, show (hi * 2 ^ 64 + lo) / 2 ^ 64 = hi by omega, show (hi * 2 ^ 64 + lo) % 2 ^ 64 = lo by omega, show E - ((0 : Nat) : Int) = E by omega]
    refine zR_to 38 (st' := [.int (nI 63), .int (nI j)]) rfl ?_
    refine zR_m 1 rfl ?_
    refine zR_if (fun _ => fin) (fun _ => ?_)
    refine zR_to 47 (st' := [.int (lg_cmp (lN hi) 0)]) rfl ?_
    refine zR_m 1 rfl ?_
    refine zR_if (fun _ => fin) (fun h9 => absurd ((lg_cmp_le _ _).mpr (by
      rcases lg_tri (lN hi) 0 with h8 | h8 | h8
      · exact Int64.le_of_lt h8
      · rw [h8]; exact Int64.le_refl _
      · exact absurd ((lN_neg h1).mp (Int64.le_of_lt h8)) (by omega))) h9)
  | succ s ih =>
    intro j hi lo E hj h0 h1 h2 hs
    have h63 : hi < 2 ^ 63 := by
      rcases Nat.lt_or_ge hi (2 ^ 63) with h9 | h9
      · exact h9
      · have := x128 h9 h1 h2
        omega
    have hZ : (hi * 2 + lo / 2 ^ 63) * 2 ^ 64 + lo * 2 % 2 ^ 64 = (hi * 2 ^ 64 + lo) * 2 := by omega
    have hnb2 := nb_2 (Z := hi * 2 ^ 64 + lo) (by omega)
    have h9 := ih (j := j + 1) (hi := hi * 2 + lo / 2 ^ 63) (lo := lo * 2 % 2 ^ 64) (E := E - 1) (by omega) (by omega) (by omega) (by omega) (by rw [hZ, hnb2]; omega)
    rw [hZ, Nat.mul_assoc, ← Nat.pow_succ', show E - 1 - (s : Int) = E - ((s + 1 : Nat) : Int) by omega] at h9
    refine zR_to 38 (st' := [.int (nI 63), .int (nI j)]) rfl ?_
    refine zR_m 1 rfl ?_
    refine zR_if (fun h8 => absurd h8 (nI_ge (a := j) (b := 63) (by omega) (by decide))) (fun _ => ?_)
    refine zR_to 47 (st' := [.int (lg_cmp (lN hi) 0)]) rfl ?_
    refine zR_m 1 rfl ?_
    refine zR_if (fun h8 => ?_) (fun _ => ?_)
    · have h7 := (lg_cmp_le _ _).mp h8
      have h6 := (pk_lLE h63 (show 0 < 2 ^ 63 by decide)).mp h7
      omega
    refine zR_to 57 (st' := [.long (lN hi <<< ((nI 1).toInt64 &&& 63)), .ref 14]) rfl ?_
    rw [wb_shl _ (show 1 < 64 by decide), Nat.pow_one]
    refine zR_to 64 (st' := [.long ((lN lo).toUInt64 >>> ((nI 63).toInt64.toUInt64 &&& Int64.toUInt64 63)).toInt64, .long (lN (hi * 2)), .ref 14]) rfl ?_
    rw [wb_shr h2 (show 63 < 64 by decide)]
    refine zR_to 65 (st' := [.long (lN (hi * 2) ||| lN (lo / 2 ^ 63)), .ref 14]) rfl ?_
    rw [g_or (k := 1) (p := 2) rfl (by omega) (by omega)]
    refine zR_to 75 (st' := [.long (lN lo <<< ((nI 1).toInt64 &&& 63)), .ref 14]) (h1 := sH f g sg A W (mb, iZ E, lN (hi * 2 + lo / 2 ^ 63), lN lo) y Mc T) rfl ?_
    rw [wb_shl _ (show 1 < 64 by decide), Nat.pow_one, wb_mod (lo * 2)]
    refine zR_to 85 (st' := [.int (iZ E - iZ 1), .ref 14]) (h1 := sH f g sg A W (mb, iZ E, lN (hi * 2 + lo / 2 ^ 63), lN (lo * 2 % 2 ^ 64)) y Mc T) rfl ?_
    rw [iZ_sub]
    refine zR_to 35 (h1 := sH f g sg A W (mb, iZ (E - 1), lN (hi * 2 + lo / 2 ^ 63), lN (lo * 2 % 2 ^ 64)) y Mc T) rfl ?_
    refine zR_w h9 rfl rfl ⟨?_, rfl, trivial⟩
    rw [← nI_1]
    rfl
set_option maxRecDepth 10000 in
theorem c_Ex_normalize {mb : Bool} {hi lo : Nat} {E : Int} (h1 : hi < 2 ^ 64) (h2 : lo < 2 ^ 64) : zE L xs d m_Ex_normalize [.ref 14] (sH f g sg A W (mb, iZ E, lN hi, lN lo) y Mc T) (.inl none) (sH f g sg A W (nmX mb E (hi * 2 ^ 64 + lo)) y Mc T) := by
  have hlo : ∀ {E : Int} {hi lo : Nat}, 0 < hi → hi < 2 ^ 64 → lo < 2 ^ 64 → zR L xs d m_Ex_normalize 33 [(0, .ref 14)] [] (sH f g sg A W (mb, iZ E, lN hi, lN lo) y Mc T) 0 (.inl none) (sH f g sg A W (nmX mb E (hi * 2 ^ 64 + lo)) y Mc T) 0 := by
    intro E hi lo h0 h1 h2
    have h9 := l_Ex_normalize (L := L) (xs := xs) (d := d) (f := f) (g := g) (sg := sg) (A := A) (W := W) (y := y) (Mc := Mc) (T := T) (mb := mb) (E := E) (128 - nb (hi * 2 ^ 64 + lo)) (j := 0) (by
      have h3 := nb_le (x := hi * 2 ^ 64 + lo) (by omega)
      rcases Nat.lt_or_ge 64 (nb (hi * 2 ^ 64 + lo)) with h8 | h8
      · omega
      · have := Nat.lt_of_lt_of_le (nb_lt (hi * 2 ^ 64 + lo)) (Nat.pow_le_pow_right (n := 2) (by decide) h8)
        omega) h0 h1 h2 rfl
    unfold nmX
    rw [if_neg (show ¬ hi * 2 ^ 64 + lo = 0 by omega)]
    refine zR_to 35 rfl ?_
    exact h9
  refine ⟨0, Nat.zero_le _, ?_⟩
  refine zR_to 6 (st' := [.int (lg_cmp (lN hi) 0)]) rfl ?_
  refine zR_m 1 rfl ?_
  refine zR_if (fun h9 => ?_) (fun h9 => ?_)
  · refine hlo ?_ h1 h2
    rcases Nat.eq_zero_or_pos hi with h8 | h8
    · exact absurd ((lg_cmp_eq _ _).mpr (by rw [h8]; rfl)) h9
    · exact h8
  · have h0 : hi = 0 := by
      have h8 := lN_z.mp ((lg_cmp_eq _ _).mp (Decidable.of_not_not h9))
      omega
    subst h0
    refine zR_to 30 (st' := [.int (iZ E - iZ 64), .ref 14]) (h1 := sH f g sg A W (mb, iZ E, lN lo, lN 0) y Mc T) rfl ?_
    rw [iZ_sub]
    refine zR_to 33 (h1 := sH f g sg A W (mb, iZ (E - 64), lN lo, lN 0) y Mc T) rfl ?_
    rw [Nat.zero_mul, Nat.zero_add]
    rcases Nat.eq_zero_or_pos lo with h8 | h8
    · subst h8
      refine zR_to 47 (st' := [.int (lg_cmp (lN 0) 0)]) rfl ?_
      refine zR_to 94 rfl ?_
      exact zR_e rfl rfl rfl rfl rfl rfl
    · have h7 := hlo (E := E - 64) (hi := lo) (lo := 0) h8 h2 (by decide)
      have e : nmX mb (E - 64) (lo * 2 ^ 64 + 0) = nmX mb E lo := by
        unfold nmX
        have hb := nb_bd h2
        have hn : nb (lo * 2 ^ 64) = nb lo + 64 := by
          have h6 := nb_shZ (X := lo) (by omega) (n := ((64 : Nat) : Int)) (by omega)
          rw [shZ_pos] at h6
          omega
        rw [Nat.add_zero, if_neg (show ¬ lo * 2 ^ 64 = 0 by omega), if_neg (show ¬ lo = 0 by omega), hn, Nat.mul_assoc, ← Nat.pow_add, show 64 + (128 - (nb lo + 64)) = 128 - nb lo by omega, show E - 64 - ((128 - (nb lo + 64) : Nat) : Int) = E - ((128 - nb lo : Nat) : Int) by omega]
      rw [e] at h7
      exact h7
theorem mul_hi {a b : Nat} : a / 2 ^ 32 * (b / 2 ^ 32) + (a / 2 ^ 32 * (b % 2 ^ 32) + a % 2 ^ 32 * (b % 2 ^ 32) / 2 ^ 32) / 2 ^ 32 + (a % 2 ^ 32 * (b / 2 ^ 32) + (a / 2 ^ 32 * (b % 2 ^ 32) + a % 2 ^ 32 * (b % 2 ^ 32) / 2 ^ 32) % 2 ^ 32) / 2 ^ 32 = a * b / 2 ^ 64 := by
  have ea : a = a / 2 ^ 32 * 2 ^ 32 + a % 2 ^ 32 := by omega
  have eb : b = b / 2 ^ 32 * 2 ^ 32 + b % 2 ^ 32 := by omega
  generalize a / 2 ^ 32 = aH at *
  generalize a % 2 ^ 32 = aL at *
  generalize b / 2 ^ 32 = bH at *
  generalize b % 2 ^ 32 = bL at *
  subst ea
  subst eb
  have e1 : aH * 2 ^ 32 * (bH * 2 ^ 32) = aH * bH * (2 ^ 32 * 2 ^ 32) := Nat.mul_mul_mul_comm _ _ _ _
  have e2 : aH * 2 ^ 32 * bL = aH * bL * 2 ^ 32 := Nat.mul_right_comm _ _ _
  have e3 : aL * (bH * 2 ^ 32) = aL * bH * 2 ^ 32 := (Nat.mul_assoc _ _ _).symm
  rw [Nat.add_mul, Nat.mul_add, Nat.mul_add, e1, e2, e3]
  generalize aH * bH = p1
  generalize aH * bL = p2
  generalize aL * bH = p3
  generalize aL * bL = p4
  rw [show (2 : Nat) ^ 32 * 2 ^ 32 = 2 ^ 64 by decide]
  omega
theorem mul_lt32 {u v : Nat} (hu : u < 2 ^ 32) (hv : v < 2 ^ 32) : u * v ≤ (2 ^ 32 - 1) * (2 ^ 32 - 1) := Nat.mul_le_mul (by omega) (by omega)
set_option maxRecDepth 10000 in
set_option maxHeartbeats 4000000 in
theorem c_Ex_multiplyBits {a b : Nat} {mb : Bool} {e : Int32} {u v : Int64} (ha : a < 2 ^ 64) (hb : b < 2 ^ 64) : zE L xs d m_Ex_multiplyBits [.ref 14, .long (lN a), .long (lN b)] (sH f g sg A W (mb, e, u, v) y Mc T) (.inl none) (sH f g sg A W (mb, e, lN (a * b / 2 ^ 64), lN (a * b % 2 ^ 64)) y Mc T) := by
  have h32 : (2 : Nat) ^ 32 = 4294967296 := by decide
  have hmask : ∀ n : Nat, n < 2 ^ 64 → lN n &&& (4294967295 : Int64) = lN (n % 2 ^ 32) := fun n hn => wb_mask (k := 32) hn (by decide)
  have haL : a % 2 ^ 32 < 2 ^ 32 := Nat.mod_lt _ (by decide)
  have hbL : b % 2 ^ 32 < 2 ^ 32 := Nat.mod_lt _ (by decide)
  have haH : a / 2 ^ 32 < 2 ^ 32 := by omega
  have hbH : b / 2 ^ 32 < 2 ^ 32 := by omega
  have m1 := mul_lt32 haH hbL
  have m2 := mul_lt32 haL hbL
  have m3 := mul_lt32 haL hbH
  have hmid : a / 2 ^ 32 * (b % 2 ^ 32) + a % 2 ^ 32 * (b % 2 ^ 32) / 2 ^ 32 < 2 ^ 64 := by
    generalize a / 2 ^ 32 * (b % 2 ^ 32) = p1 at *
    generalize a % 2 ^ 32 * (b % 2 ^ 32) = p2 at *
    omega
  have hcr : a % 2 ^ 32 * (b / 2 ^ 32) + (a / 2 ^ 32 * (b % 2 ^ 32) + a % 2 ^ 32 * (b % 2 ^ 32) / 2 ^ 32) % 2 ^ 32 < 2 ^ 64 := by
    have h9 : (a / 2 ^ 32 * (b % 2 ^ 32) + a % 2 ^ 32 * (b % 2 ^ 32) / 2 ^ 32) % 2 ^ 32 < 2 ^ 32 := Nat.mod_lt _ (by decide)
    generalize (a / 2 ^ 32 * (b % 2 ^ 32) + a % 2 ^ 32 * (b % 2 ^ 32) / 2 ^ 32) % 2 ^ 32 = p1 at *
    generalize a % 2 ^ 32 * (b / 2 ^ 32) = p2 at *
    omega
  have hp2 : a % 2 ^ 32 * (b % 2 ^ 32) < 2 ^ 64 := by
    generalize a % 2 ^ 32 * (b % 2 ^ 32) = p2 at *
    omega
  refine ⟨0, Nat.zero_le _, ?_⟩
  refine zR_to 4 (st' := [.long ((lN a).toUInt64 >>> ((nI 32).toInt64.toUInt64 &&& Int64.toUInt64 63)).toInt64]) rfl ?_
  rw [wb_shr ha (show 32 < 64 by decide)]
  refine zR_to 11 (st' := [.long (lN a &&& (4294967295 : Int64))]) rfl ?_
  rw [hmask a ha]
  refine zR_to 17 (st' := [.long ((lN b).toUInt64 >>> ((nI 32).toInt64.toUInt64 &&& Int64.toUInt64 63)).toInt64]) rfl ?_
  rw [wb_shr hb (show 32 < 64 by decide)]
  refine zR_to 24 (st' := [.long (lN b &&& (4294967295 : Int64))]) rfl ?_
  rw [hmask b hb]
  refine zR_to 36 (st' := [.long (lN (a % 2 ^ 32) * lN (b % 2 ^ 32)), .long (lN (a / 2 ^ 32) * lN (b % 2 ^ 32))]) rfl ?_
  rw [lN_mul, lN_mul]
  refine zR_to 39 (st' := [.long ((lN (a % 2 ^ 32 * (b % 2 ^ 32))).toUInt64 >>> ((nI 32).toInt64.toUInt64 &&& Int64.toUInt64 63)).toInt64, .long (lN (a / 2 ^ 32 * (b % 2 ^ 32)))]) rfl ?_
  rw [wb_shr hp2 (show 32 < 64 by decide)]
  refine zR_to 40 (st' := [.long (lN (a / 2 ^ 32 * (b % 2 ^ 32)) + lN (a % 2 ^ 32 * (b % 2 ^ 32) / 2 ^ 32))]) rfl ?_
  rw [lN_add]
  generalize hmd : a / 2 ^ 32 * (b % 2 ^ 32) + a % 2 ^ 32 * (b % 2 ^ 32) / 2 ^ 32 = md at *
  refine zR_to 53 (st' := [.long (lN md &&& (4294967295 : Int64)), .long (lN (a % 2 ^ 32) * lN (b / 2 ^ 32))]) rfl ?_
  rw [hmask md hmid, lN_mul]
  refine zR_to 54 (st' := [.long (lN (a % 2 ^ 32 * (b / 2 ^ 32)) + lN (md % 2 ^ 32))]) rfl ?_
  rw [lN_add]
  generalize hcc : a % 2 ^ 32 * (b / 2 ^ 32) + md % 2 ^ 32 = cc at *
  refine zR_to 67 (st' := [.long ((lN md).toUInt64 >>> ((nI 32).toInt64.toUInt64 &&& Int64.toUInt64 63)).toInt64, .long (lN (a / 2 ^ 32) * lN (b / 2 ^ 32)), .ref 14]) rfl ?_
  rw [wb_shr hmid (show 32 < 64 by decide), lN_mul]
  refine zR_to 73 (st' := [.long ((lN cc).toUInt64 >>> ((nI 32).toInt64.toUInt64 &&& Int64.toUInt64 63)).toInt64, .long (lN (a / 2 ^ 32 * (b / 2 ^ 32)) + lN (md / 2 ^ 32)), .ref 14]) rfl ?_
  rw [wb_shr hcr (show 32 < 64 by decide), lN_add]
  refine zR_to 74 (st' := [.long (lN (a / 2 ^ 32 * (b / 2 ^ 32) + md / 2 ^ 32) + lN (cc / 2 ^ 32)), .ref 14]) rfl ?_
  rw [lN_add, ← hcc, ← hmd, mul_hi]
  refine zR_to 81 (st' := [.long (lN a * lN b), .ref 14]) (h1 := sH f g sg A W (mb, e, lN (a * b / 2 ^ 64), v) y Mc T) rfl ?_
  rw [lN_mul, wb_mod (a * b)]
  refine zR_to 84 (h1 := sH f g sg A W (mb, e, lN (a * b / 2 ^ 64), lN (a * b % 2 ^ 64)) y Mc T) rfl ?_
  exact zR_e rfl rfl rfl rfl rfl rfl
end NM
