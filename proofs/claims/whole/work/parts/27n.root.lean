section RO
variable {L : Nat} {xs : Nat → Int32} {d : Nat} {f : Nat → Int32} {g : Nat → Int64} {sg : Bool} {A : Nat → Option Nat} {W : Nat → RV} {x y v : XV} {Mc : Nat → Int64} {T : List zC}
theorem fR_s (v : RV) : (fR v)[3]? = some (.long (lN (rs v))) := by
  show some (Value.long v.2.2.2) = some (.long (lN (uN v.2.2.2)))
  rw [lN_uN]
theorem fR_e (v : RV) : (fR v)[2]? = some (.int (iZ (zr v))) := by
  show some (Value.int (re v)) = some (.int (iZ (zr v)))
  rw [re_zr v]
theorem bw_a {k rh rl lw : Nat} (hb : lw < rl) (hml : rl < 2 ^ 64) : k * 2 ^ 64 + (lw + 2 ^ 64 - rl) = rh * 2 ^ 64 + 2 ^ 64 + k * 2 ^ 64 + lw - (rh * 2 ^ 64 + rl) := by omega
theorem bw_b {k rh rl lw : Nat} (hb : rl ≤ lw) : k * 2 ^ 64 + (lw - rl) = rh * 2 ^ 64 + k * 2 ^ 64 + lw - (rh * 2 ^ 64 + rl) := by omega
theorem bw1 {up lw rh rl rr : Nat} (hdm : rh * 2 ^ 64 + rl = rr) (h : rr ≤ up * 2 ^ 64 + lw) (hb : lw < rl) (hml : rl < 2 ^ 64) : rh + 1 ≤ up ∧ (up - rh - 1) * 2 ^ 64 + (lw + 2 ^ 64 - rl) = up * 2 ^ 64 + lw - rr := by
  have h1 : rh + 1 ≤ up := by omega
  obtain ⟨k, rfl⟩ := Nat.exists_eq_add_of_le h1
  refine ⟨h1, ?_⟩
  clear h h1
  rw [show rh + 1 + k - rh - 1 = k by omega, ← hdm, Nat.add_mul, Nat.add_mul, Nat.one_mul]
  exact bw_a hb hml
theorem bw0 {up lw rh rl rr : Nat} (hdm : rh * 2 ^ 64 + rl = rr) (h : rr ≤ up * 2 ^ 64 + lw) (hb : rl ≤ lw) (hl : lw < 2 ^ 64) : rh ≤ up ∧ (up - rh - 0) * 2 ^ 64 + (lw - rl) = up * 2 ^ 64 + lw - rr := by
  have h1 : rh ≤ up := by omega
  obtain ⟨k, rfl⟩ := Nat.exists_eq_add_of_le h1
  refine ⟨h1, ?_⟩
  clear h h1
  rw [show rh + k - rh - 0 = k by omega, ← hdm, Nat.add_mul]
  exact bw_b hb
theorem b01 {b : Nat} (h : b ≤ 1) : b * 2 ^ 63 + 0 < 2 ^ 64 ∧ b * 2 ^ 63 + 1 < 2 ^ 64 := by
  obtain rfl | rfl : b = 0 ∨ b = 1 := by omega
  · decide
  · decide
theorem iZ_shr1 {v : Int} (h1 : -2147483648 ≤ v) (h2 : v < 2147483648) : iZ v >>> ((1 : Int32) &&& 31) = iZ (v / 2) := by
  have h := pk_shr (iZ v) ((1 : Int32) &&& 31) 1 rfl
  rw [iZ_toInt h1 h2, Int.shiftRight_eq_div_pow] at h
  rw [iZ_of (iZ v >>> ((1 : Int32) &&& 31)), h]
  rfl
set_option maxRecDepth 10000 in
theorem c_Ex_isAbove {up lw hi lo : Nat} {mb : Bool} {e : Int32} (h1 : up < 2 ^ 64) (h2 : lw < 2 ^ 64) (h3 : hi < 2 ^ 64) (h4 : lo < 2 ^ 64) : zE L xs (d + 1) m_Ex_isAbove [.ref 14, .long (lN up), .long (lN lw)] (sH f g sg A W (mb, e, lN hi, lN lo) y Mc T) (.inl (some (.int (bI (decide (up * 2 ^ 64 + lw < hi * 2 ^ 64 + lo)))))) (sH f g sg A W (mb, e, lN hi, lN lo) y Mc T) := by
  have fin : ∀ b : Bool, decide (up * 2 ^ 64 + lw < hi * 2 ^ 64 + lo) = b → zR L xs (d + 1) m_Ex_isAbove 28 [(0, .ref 14), (1, .long (lN up)), (3, .long (lN lw))] [.int (bI b)] (sH f g sg A W (mb, e, lN hi, lN lo) y Mc T) 0 (.inl (some (.int (bI (decide (up * 2 ^ 64 + lw < hi * 2 ^ 64 + lo)))))) (sH f g sg A W (mb, e, lN hi, lN lo) y Mc T) 0 := by
    intro b hb
    rw [hb]
    cases b <;> exact zR_e rfl rfl rfl rfl rfl rfl
  refine ⟨0, Nat.zero_le _, ?_⟩
  refine zR_to 6 (st' := [.int (lg_cmp (lN hi) (lN up))]) rfl ?_
  refine zR_m 1 rfl ?_
  refine zR_if (fun h => ?_) (fun h => ?_)
  · have hne : hi ≠ up := fun h9 => h ((lg_cmp_eq _ _).mpr (by rw [h9]))
    refine zR_to 25 (st' := [.long (lN hi), .long (lN up)]) rfl ?_
    refine zR_i rfl rfl rfl rfl ⟨Nat.le_of_ble_eq_true rfl, Nat.le_of_ble_eq_true rfl, Nat.le_of_ble_eq_true rfl⟩ rfl (Nat.le_refl _) (c_SR_isBelow (u := lN up) (v := lN hi)) rfl rfl ?_
    rw [uN_lN h1, uN_lN h3]
    refine fin _ ?_
    apply decide_eq_decide.mpr
    omega
  · have he : hi = up := (lN_eq64 h3 h1).mp ((lg_cmp_eq _ _).mp (Decidable.of_not_not h))
    refine zR_to 14 (st' := [.long (lN lo), .long (lN lw)]) rfl ?_
    refine zR_i rfl rfl rfl rfl ⟨Nat.le_of_ble_eq_true rfl, Nat.le_of_ble_eq_true rfl, Nat.le_of_ble_eq_true rfl⟩ rfl (Nat.le_refl _) (c_SR_isBelow (u := lN lw) (v := lN lo)) rfl rfl ?_
    rw [uN_lN h2, uN_lN h4]
    refine zR_n 1 rfl ?_
    refine fin _ ?_
    apply decide_eq_decide.mpr
    omega
set_option maxRecDepth 10000 in
theorem l_Ex_becomeRoot {up lw q : Nat} {mb : Bool} {e : Int32} {o : zO} {h9 : zH} (h1 : up < 2 ^ 64) (h2 : lw < 2 ^ 64) : ∀ (n : Nat) {Q : Nat} {u v : Int64}, n ≤ 64 → Q % 2 ^ n = 0 → Q + 2 ^ n ≤ 2 ^ 64 →
    (∀ (u v : Int64) (i : Int32), zR L xs (d + 2) m_Ex_becomeRoot 99 [(9, .int i), (7, .long (lN (sqB (up * 2 ^ 64 + lw) n Q))), (5, .long (lN lw)), (3, .long (lN up)), (0, .ref 14), (1, .ref q)] [] (sH f g sg A W (mb, e, u, v) y Mc T) 0 o h9 0) →
    zR L xs (d + 2) m_Ex_becomeRoot 57 [(9, .int (iZ ((n : Int) - 1))), (7, .long (lN Q)), (5, .long (lN lw)), (3, .long (lN up)), (0, .ref 14), (1, .ref q)] [] (sH f g sg A W (mb, e, u, v) y Mc T) 0 o h9 0 := by
  intro n
  induction n with
  | zero =>
    intro Q u v hn hQ hQ2 hr
    refine zR_to 59 (st' := [.int (iZ (((0 : Nat) : Int) - 1))]) rfl ?_
    refine zR_m 1 rfl ?_
    refine zR_if (fun _ => ?_) (fun h => absurd (show iZ (((0 : Nat) : Int) - 1) < 0 by decide) h)
    exact hr _ _ _
  | succ n ih =>
    intro Q u v hn hQ hQ2 hr
    have hp := pow_pos2 n
    have hp2 : (2 : Nat) ^ (n + 1) = 2 ^ n * 2 := Nat.pow_succ 2 n
    have hQn : Q % 2 ^ n = 0 := by
      have h8 : (Q % 2 ^ (n + 1)) % 2 ^ n = Q % 2 ^ n := Nat.mod_mod_of_dvd _ ⟨2, by rw [Nat.pow_succ]⟩
      rw [hQ] at h8
      rw [← h8]
      exact Nat.zero_mod _
    have hc : Q + 2 ^ n < 2 ^ 64 := by omega
    have hor : lN Q ||| lN (2 ^ n) = lN (Q + 2 ^ n) := by
      rw [wb_or (by omega) (by omega), or_pow hQ]
    have hcc : (Q + 2 ^ n) * (Q + 2 ^ n) < 2 ^ 64 * 2 ^ 64 := Nat.mul_lt_mul'' hc hc
    refine zR_to 59 (st' := [.int (iZ (((n + 1 : Nat) : Int) - 1))]) rfl ?_
    rw [show ((n + 1 : Nat) : Int) - 1 = (n : Int) by omega, iZ_nat]
    refine zR_m 1 rfl ?_
    refine zR_if (fun h => absurd h (nI_pos (by omega))) (fun _ => ?_)
    refine zR_to 68 (st' := [.long (lN 1 <<< ((nI n).toInt64 &&& 63)), .long (lN Q)]) rfl ?_
    rw [wb_shl 1 (show n < 64 by omega), Nat.one_mul]
    refine zR_to 69 (st' := [.long (lN Q ||| lN (2 ^ n))]) rfl ?_
    rw [hor]
    refine zR_to 76 (st' := [.long (lN (Q + 2 ^ n)), .long (lN (Q + 2 ^ n)), .ref 14]) rfl ?_
    refine zR_v rfl rfl rfl rfl rfl ⟨rfl, Nat.le_of_ble_eq_true rfl, Nat.le_of_ble_eq_true rfl⟩ rfl (Nat.le_refl _) (c_Ex_multiplyBits hc hc) rfl rfl ?_
    refine zR_to 83 (st' := [.long (lN lw), .long (lN up), .ref 14]) rfl ?_
    refine zR_v rfl rfl rfl rfl rfl ⟨rfl, Nat.le_of_ble_eq_true rfl, Nat.le_of_ble_eq_true rfl⟩ rfl (Nat.le_refl _) (c_Ex_isAbove h1 h2 (Nat.div_lt_of_lt_mul hcc) (Nat.mod_lt _ (by decide))) rfl rfl ?_
    rw [Nat.div_add_mod']
    have e1 : iZ ((n : Int) - 1) = nI n + iZ (-1) := by
      rw [← iZ_nat, iZ_add]
      rfl
    by_cases hle : (Q + 2 ^ n) * (Q + 2 ^ n) ≤ up * 2 ^ 64 + lw
    · have hs : sqB (up * 2 ^ 64 + lw) (n + 1) Q = sqB (up * 2 ^ 64 + lw) n (Q + 2 ^ n) := if_pos hle
      rw [hs] at hr
      rw [decide_eq_false (show ¬ up * 2 ^ 64 + lw < (Q + 2 ^ n) * (Q + 2 ^ n) by omega)]
      refine zR_to 57 rfl ?_
      have h7 := ih (Q := Q + 2 ^ n) (u := lN ((Q + 2 ^ n) * (Q + 2 ^ n) / 2 ^ 64)) (v := lN ((Q + 2 ^ n) * (Q + 2 ^ n) % 2 ^ 64)) (by omega) (by rw [Nat.add_mod_right]; exact hQn) (by omega) hr
      rw [e1] at h7
      exact zR_w h7 rfl rfl ⟨rfl, rfl, rfl, rfl, rfl, rfl, trivial⟩
    · have hs : sqB (up * 2 ^ 64 + lw) (n + 1) Q = sqB (up * 2 ^ 64 + lw) n Q := if_neg hle
      rw [hs] at hr
      rw [decide_eq_true (show up * 2 ^ 64 + lw < (Q + 2 ^ n) * (Q + 2 ^ n) by omega)]
      refine zR_to 57 rfl ?_
      have h7 := ih (Q := Q) (u := lN ((Q + 2 ^ n) * (Q + 2 ^ n) / 2 ^ 64)) (v := lN ((Q + 2 ^ n) * (Q + 2 ^ n) % 2 ^ 64)) (by omega) hQn (by omega) hr
      rw [e1] at h7
      exact zR_w h7 rfl rfl ⟨rfl, rfl, rfl, rfl, rfl, rfl, trivial⟩
set_option maxRecDepth 10000 in
set_option maxHeartbeats 4000000 in
theorem c_Ex_becomeRoot {q : Nat} (hq : RP q) (x1 : 2 ^ 63 ≤ rs (W q)) : zE L xs (d + 2) m_Ex_becomeRoot [.ref 14, .ref q] (sH f g sg A W x y Mc T) (.inl none) (sH f g sg A W (roX (W q)) y Mc T) := by
  have xl : rs (W q) < 2 ^ 64 := uN_lt2 _
  obtain ⟨b1, b2⟩ := rtA_b x1
  obtain ⟨r1, r2⟩ := rtR_b b1 b2
  obtain ⟨s1, s2⟩ := rtR_sq b2
  have hzr : -2147483648 ≤ zr (W q) ∧ zr (W q) < 2147483648 := iZ_rng (re (W q))
  have hTP : (-9223372036854775808 : Int64) = lN (1 * 2 ^ 63) := by decide +kernel
  unfold roX
  -- from the two halves of the radicand on
  have run : ∀ (up lw : Nat) (od : Int32), up < 2 ^ 64 → lw < 2 ^ 64 → up * 2 ^ 64 + lw = rtA (W q) → zR L xs (d + 2) m_Ex_becomeRoot 50 [(5, .long (lN lw)), (3, .long (lN up)), (0, .ref 14), (1, .ref q)] [] (sH f g sg A W x y Mc T) 0 (.inl none) (sH f g sg A W (false, iZ (zr (W q) / 2), lN (rtR (rtA (W q))), lN (rtLo (rtA (W q)))) y Mc T) 0 := by
    intro up lw _ hu hl hA
    -- the end
    have fin : ∀ (u v : Int64) (i : Int32), zR L xs (d + 2) m_Ex_becomeRoot 99 [(9, .int i), (7, .long (lN (sqB (up * 2 ^ 64 + lw) 64 0))), (5, .long (lN lw)), (3, .long (lN up)), (0, .ref 14), (1, .ref q)] [] (sH f g sg A W (x.1, x.2.1, u, v) y Mc T) 0 (.inl none) (sH f g sg A W (false, iZ (zr (W q) / 2), lN (rtR (rtA (W q))), lN (rtLo (rtA (W q)))) y Mc T) 0 := by
      intro u v i
      rw [hA, show sqB (rtA (W q)) 64 0 = rtR (rtA (W q)) from rfl]
      have hlq : rtLo (rtA (W q)) = (if rtR (rtA (W q)) < rtA (W q) - rtR (rtA (W q)) * rtR (rtA (W q)) then 1 else 0) * 2 ^ 63 + (if rtA (W q) - rtR (rtA (W q)) * rtR (rtA (W q)) = 0 then 0 else 1) := rfl
      generalize rtR (rtA (W q)) = r at *
      generalize rtLo (rtA (W q)) = rlo at *
      rw [← hA] at s1 s2 hlq
      have hrr : r * r < 2 ^ 64 * 2 ^ 64 := Nat.mul_lt_mul'' r2 r2
      have e2 : (r + 1) * (r + 1) = r * r + 2 * r + 1 := by rw [Nat.add_mul, Nat.mul_add, Nat.one_mul, Nat.mul_one]; omega
      rw [e2] at s2
      have hdm := Nat.div_add_mod' (r * r) (2 ^ 64)
      have hml : r * r % 2 ^ 64 < 2 ^ 64 := Nat.mod_lt _ (by decide)
      have hdl : r * r / 2 ^ 64 < 2 ^ 64 := Nat.div_lt_of_lt_mul hrr
      refine zR_to 104 (st' := [.long (lN r), .long (lN r), .ref 14]) rfl ?_
      refine zR_v rfl rfl rfl rfl rfl ⟨rfl, Nat.le_of_ble_eq_true rfl, Nat.le_of_ble_eq_true rfl⟩ rfl (Nat.le_refl _) (c_Ex_multiplyBits r2 r2) rfl rfl ?_
      generalize r * r / 2 ^ 64 = rh at *
      generalize r * r % 2 ^ 64 = rl at *
      generalize r * r = rr at *
      -- the rest in two halves
      have key : ∀ (lh ll : Nat), ll < 2 ^ 64 → lh * 2 ^ 64 + ll = up * 2 ^ 64 + lw - rr → zR L xs (d + 2) m_Ex_becomeRoot 143 [(11, .long (lN lh)), (9, .long (lN ll)), (7, .long (lN r)), (0, .ref 14), (1, .ref q)] [] (sH f g sg A W (x.1, x.2.1, lN rh, lN rl) y Mc T) 0 (.inl none) (sH f g sg A W (false, iZ (zr (W q) / 2), lN r, lN rlo) y Mc T) 0 := by
        intro lh ll hll hlft
        have hlh : lh < 2 := by omega
        rw [← hlft] at hlq
        -- with the half bit
        have tl : ∀ b : Nat, b ≤ 1 → (if r < lh * 2 ^ 64 + ll then 1 else 0) = b → ∀ bb : Bool, b = (if bb then 1 else 0) → zR L xs (d + 2) m_Ex_becomeRoot 167 [(13, .int (bI bb)), (11, .long (lN lh)), (9, .long (lN ll)), (7, .long (lN r)), (0, .ref 14), (1, .ref q)] [] (sH f g sg A W (x.1, x.2.1, lN rh, lN rl) y Mc T) 0 (.inl none) (sH f g sg A W (false, iZ (zr (W q) / 2), lN r, lN rlo) y Mc T) 0 := by
          intro b hb1 hb bb hbb
          rw [hb] at hlq
          have hg : b * 2 ^ 63 + 0 < 2 ^ 64 ∧ b * 2 ^ 63 + 1 < 2 ^ 64 := b01 hb1
          refine zR_to 169 (st' := [.int (bI false), .ref 14]) rfl ?_
          refine zX_n rfl rfl rfl ?_
          refine zR_n 2 rfl ?_
          refine zW_g hq rfl rfl rfl rfl rfl ?_
          refine zR_to 179 (st' := [.int (re (W q) >>> ((1 : Int32) &&& 31)), .ref 14]) rfl ?_
          rw [re_zr (W q), iZ_shr1 hzr.1 hzr.2]
          refine zX_e rfl rfl rfl ?_
          refine zR_n 2 rfl ?_
          refine zX_h rfl rfl rfl ?_
          have e9 : zR L xs (d + 2) m_Ex_becomeRoot 201 [(13, .int (bI bb)), (11, .long (lN lh)), (9, .long (lN ll)), (7, .long (lN r)), (0, .ref 14), (1, .ref q)] [.long (lN (b * 2 ^ 63)), .ref 14] (sH f g sg A W (false, iZ (zr (W q) / 2), lN r, lN rl) y Mc T) 0 (.inl none) (sH f g sg A W (false, iZ (zr (W q) / 2), lN r, lN rlo) y Mc T) 0 := by
            refine zR_to 206 (st' := [.long (lN lh ||| lN ll), .long (lN (b * 2 ^ 63)), .ref 14]) rfl ?_
            rw [wb_or (by omega) hll]
            have hz : lh ||| ll = 0 ↔ lh * 2 ^ 64 + ll = 0 := by
              rw [Nat.or_eq_zero_iff]
              omega
            have hol : lh ||| ll < 2 ^ 64 := Nat.or_lt_two_pow (by omega) hll
            refine zR_to 208 (st' := [.int (lg_cmp (lN (lh ||| ll)) 0), .long (lN (b * 2 ^ 63)), .ref 14]) rfl ?_
            refine zR_m 1 rfl ?_
            refine zR_if (fun h8 => ?_) (fun h8 => ?_)
            · have h7 := lN_z.mp ((lg_cmp_eq _ _).mp h8)
              rw [Nat.mod_eq_of_lt hol] at h7
              rw [if_pos (hz.mp h7)] at hlq
              refine zR_to 218 (st' := [.long (lN (b * 2 ^ 63) ||| lN 0), .ref 14]) rfl ?_
              rw [g_or (k := 63) rfl (by decide) hg.1, ← hlq]
              refine zX_l rfl rfl rfl ?_
              exact zR_e rfl rfl rfl rfl rfl rfl
            · rw [if_neg (fun h7 => h8 ((lg_cmp_eq _ _).mpr (by rw [hz.mpr h7]; rfl)))] at hlq
              refine zR_to 218 (st' := [.long (lN (b * 2 ^ 63) ||| lN 1), .ref 14]) rfl ?_
              rw [g_or (k := 63) rfl (by decide) hg.2, ← hlq]
              refine zX_l rfl rfl rfl ?_
              exact zR_e rfl rfl rfl rfl rfl rfl
          cases bb with
          | true =>
            rw [show b = 1 from hbb] at e9
            refine zR_to 197 (st' := [.long (-9223372036854775808), .ref 14]) rfl ?_
            rw [hTP]
            refine zR_n 1 rfl ?_
            exact e9
          | false =>
            rw [show b = 0 from hbb, Nat.zero_mul] at e9
            refine zR_to 201 rfl ?_
            exact e9
        refine zR_to 147 (st' := [.int (lg_cmp (lN lh) 0)]) rfl ?_
        refine zR_m 1 rfl ?_
        refine zR_if (fun h8 => ?_) (fun h8 => ?_)
        · have h7 : lh ≠ 0 := fun h7 => h8 ((lg_cmp_eq _ _).mpr (by rw [h7]; rfl))
          refine zR_to 167 rfl ?_
          exact zR_w (tl 1 (by decide) (if_pos (by omega)) true rfl) rfl rfl ⟨rfl, rfl, rfl, rfl, rfl, rfl, trivial⟩
        · have h7 : lh = 0 := by
            have := lN_z.mp ((lg_cmp_eq _ _).mp (Decidable.of_not_not h8))
            omega
          refine zR_to 154 (st' := [.long (lN ll), .long (lN r)]) rfl ?_
          refine zR_i rfl rfl rfl rfl ⟨Nat.le_of_ble_eq_true rfl, Nat.le_of_ble_eq_true rfl, Nat.le_of_ble_eq_true rfl⟩ rfl (Nat.le_refl _) (c_SR_isBelow (u := lN r) (v := lN ll)) rfl rfl ?_
          rw [uN_lN r2, uN_lN hll]
          by_cases hc : r < ll
          · rw [decide_eq_true hc]
            refine zR_to 167 rfl ?_
            exact zR_w (tl 1 (by decide) (if_pos (by omega)) true rfl) rfl rfl ⟨rfl, rfl, rfl, rfl, rfl, rfl, trivial⟩
          · rw [decide_eq_false hc]
            refine zR_to 167 rfl ?_
            exact zR_w (tl 0 (by decide) (if_neg (by omega)) false rfl) rfl rfl ⟨rfl, rfl, rfl, rfl, rfl, rfl, trivial⟩
      refine zR_to 114 (st' := [.long (lN lw - lN rl)]) rfl ?_
      by_cases hb : lw < rl
      · -- a borrow
        obtain ⟨bw, bw'⟩ := bw1 hdm s1 hb hml
        have e3 : lN lw - lN rl = lN (lw + 2 ^ 64 - rl) := by
          rw [show lN lw = lN (lw + 2 ^ 64) from by rw [wb_mod (lw + 2 ^ 64), Nat.add_mod_right, Nat.mod_eq_of_lt hl], lN_sub (by omega)]
        rw [e3]
        refine zR_to 122 (st' := [.long (lN up - lN rh)]) rfl ?_
        rw [lN_sub (by omega)]
        refine zR_to 128 (st' := [.long (lN rl), .long (lN lw), .long (lN (up - rh))]) rfl ?_
        refine zR_i rfl rfl rfl rfl ⟨Nat.le_of_ble_eq_true rfl, Nat.le_of_ble_eq_true rfl, Nat.le_of_ble_eq_true rfl⟩ rfl (Nat.le_refl _) (c_SR_isBelow (u := lN lw) (v := lN rl)) rfl rfl ?_
        rw [uN_lN hl, uN_lN hml, decide_eq_true hb]
        refine zR_to 141 (st' := [.long (lN (up - rh) - lN 1)]) rfl ?_
        rw [lN_sub (by omega)]
        refine zR_to 143 rfl ?_
        exact zR_w (key (up - rh - 1) (lw + 2 ^ 64 - rl) (by omega) bw') rfl rfl ⟨rfl, rfl, rfl, rfl, rfl, trivial⟩
      · obtain ⟨bw, bw'⟩ := bw0 hdm s1 (by omega) hl
        rw [lN_sub (by omega)]
        refine zR_to 122 (st' := [.long (lN up - lN rh)]) rfl ?_
        rw [lN_sub (by omega)]
        refine zR_to 128 (st' := [.long (lN rl), .long (lN lw), .long (lN (up - rh))]) rfl ?_
        refine zR_i rfl rfl rfl rfl ⟨Nat.le_of_ble_eq_true rfl, Nat.le_of_ble_eq_true rfl, Nat.le_of_ble_eq_true rfl⟩ rfl (Nat.le_refl _) (c_SR_isBelow (u := lN lw) (v := lN rl)) rfl rfl ?_
        rw [uN_lN hl, uN_lN hml, decide_eq_false hb]
        refine zR_to 141 (st' := [.long (lN (up - rh) - lN 0)]) rfl ?_
        rw [lN_sub (by omega)]
        refine zR_to 143 rfl ?_
        exact zR_w (key (up - rh - 0) (lw - rl) (by omega) bw') rfl rfl ⟨rfl, rfl, rfl, rfl, rfl, trivial⟩
    have h9 := l_Ex_becomeRoot (L := L) (xs := xs) (d := d) (f := f) (g := g) (sg := sg) (A := A) (W := W) (y := y) (Mc := Mc) (T := T) (q := q) (mb := x.1) (e := x.2.1) hu hl 64 (Q := 0) (u := x.2.2.1) (v := x.2.2.2) (by decide) (by decide) (by decide) fin
    refine zR_to 57 rfl ?_
    exact zR_w h9 rfl rfl ⟨rfl, rfl, rfl, rfl, rfl, rfl, trivial⟩
  refine ⟨0, Nat.zero_le _, ?_⟩
  refine zR_n 1 rfl ?_
  refine zW_g hq rfl rfl rfl rfl rfl ?_
  refine zR_to 6 (st' := [.int (re (W q) &&& 1)]) rfl ?_
  rw [re_zr (W q), iZ_and1]
  refine zR_m 1 rfl ?_
  have hm2 : zr (W q) % 2 = 0 ∨ zr (W q) % 2 = 1 := by omega
  refine zR_if (fun h => ?_) (fun h => ?_)
  · have ho : ¬ zr (W q) % 2 = 1 := fun h9 => by
      rw [h9] at h
      exact absurd h (by decide)
    have hA : rtA (W q) = rs (W q) * 2 ^ 63 := if_neg ho
    refine zR_to 27 rfl ?_
    refine zW_g hq rfl rfl rfl (fR_s _) rfl ?_
    refine zR_to 32 (st' := [.long ((lN (rs (W q))).toUInt64 >>> ((nI 1).toInt64.toUInt64 &&& Int64.toUInt64 63)).toInt64]) rfl ?_
    rw [wb_shr (uN_lt2 _) (show 1 < 64 by decide), Nat.pow_one]
    refine zR_to 42 rfl ?_
    refine zW_g hq rfl rfl rfl (fR_s _) rfl ?_
    refine zR_to 48 (st' := [.long (lN (rs (W q)) <<< ((nI 63).toInt64 &&& 63))]) rfl ?_
    rw [wb_shl _ (show 63 < 64 by decide), wb_mod (rs (W q) * 2 ^ 63)]
    refine zR_to 50 rfl ?_
    exact zR_w (run (rs (W q) / 2) (rs (W q) * 2 ^ 63 % 2 ^ 64) 0 (by omega) (by omega) (by rw [hA]; omega)) rfl rfl ⟨rfl, rfl, rfl, rfl, trivial⟩
  · have ho : zr (W q) % 2 = 1 := by
      rcases hm2 with h9 | h9
      · rw [h9] at h
        exact absurd (show nI (0 : Int).toNat = 0 from rfl) h
      · exact h9
    have hA : rtA (W q) = rs (W q) * 2 ^ 64 := if_pos ho
    refine zR_to 20 rfl ?_
    refine zW_g hq rfl rfl rfl (fR_s _) rfl ?_
    refine zR_to 50 rfl ?_
    exact zR_w (run (rs (W q)) 0 0 xl (by decide) (by rw [hA]; omega)) rfl rfl ⟨rfl, rfl, rfl, rfl, trivial⟩
set_option maxRecDepth 10000 in
theorem c_Ar_root {q p w : Nat} (hq : RP q) (hq10 : q ≠ 10) (ht : f 4 = nI p) (hw : f 5 = nI w) (hw4 : w < 4) (hp : pOk p) (hx : vOk (W q)) : ∃ x', zE L xs (d + 3) m_Ar_root [.ref 13, .ref q, .ref 10] (sH f g sg A W x y Mc T) (.inl (some (.int (rootR w p (W q)).2))) (sH f g sg A (fu W 10 (rootR w p (W q)).1) x' y Mc T) := by
  have h10 : RP 10 := Or.inl ⟨by decide, by decide⟩
  have cp : ∀ (pc : Nat) , True := fun _ => trivial
  have cp1 : zR L xs (d + 3) m_Ar_root 15 [(0, .ref 13), (1, .ref q), (2, .ref 10)] [] (sH f g sg A W x y Mc T) 0 (.inl (some (.int 0))) (sH f g sg A (fu W 10 (W q)) x y Mc T) 0 := by
    refine zR_n 2 rfl ?_
    refine zR_v rfl rfl rfl rfl rfl ⟨rfl, Nat.le_of_ble_eq_true rfl, Nat.le_of_ble_eq_true rfl⟩ rfl (Nat.le_refl _) (c_Re_copy h10 hq hq10) rfl rfl ?_
    exact zR_to 21 rfl (zR_e rfl rfl rfl rfl rfl rfl)
  unfold rootR
  by_cases h0 : rk (W q) = 0
  · rw [if_pos (Or.inr (Or.inl h0))]
    refine ⟨x, 0, Nat.zero_le _, ?_⟩
    refine zR_n 1 rfl ?_
    refine zW_g hq rfl rfl rfl rfl rfl ?_
    refine zR_n 1 rfl ?_
    exact zR_if (fun _ => cp1) (fun h => absurd h0 h)
  · have go : ∀ {o : zO} {h9 : zH}, zR L xs (d + 3) m_Ar_root 7 [(0, .ref 13), (1, .ref q), (2, .ref 10)] [] (sH f g sg A W x y Mc T) 0 o h9 0 → zE L xs (d + 3) m_Ar_root [.ref 13, .ref q, .ref 10] (sH f g sg A W x y Mc T) o h9 := fun {o h9} hr => by
      refine ⟨0, Nat.zero_le _, ?_⟩
      refine zR_n 1 rfl ?_
      refine zW_g hq rfl rfl rfl rfl rfl ?_
      refine zR_n 1 rfl ?_
      exact zR_if (fun h => absurd h h0) (fun _ => hr)
    by_cases h3 : rk (W q) = 3
    · rw [if_pos (Or.inl h3)]
      refine ⟨x, go ?_⟩
      refine zR_n 1 rfl ?_
      refine zW_g hq rfl rfl rfl rfl rfl ?_
      refine zR_n 2 rfl ?_
      exact zR_if (fun h => absurd h3 h) (fun _ => cp1)
    · have go2 : ∀ {o : zO} {h9 : zH}, zR L xs (d + 3) m_Ar_root 26 [(0, .ref 13), (1, .ref q), (2, .ref 10)] [.int (bI (rn (W q)))] (sH f g sg A W x y Mc T) 0 o h9 0 → zE L xs (d + 3) m_Ar_root [.ref 13, .ref q, .ref 10] (sH f g sg A W x y Mc T) o h9 := fun {o h9} hr => by
        refine go ?_
        refine zR_n 1 rfl ?_
        refine zW_g hq rfl rfl rfl rfl rfl ?_
        refine zR_n 2 rfl ?_
        refine zR_if (fun _ => ?_) (fun h => absurd (Decidable.of_not_not h) h3)
        refine zR_n 1 rfl ?_
        exact zW_g hq rfl rfl rfl rfl rfl hr
      cases hn : rn (W q) with
      | true =>
        rw [if_neg (show ¬ (rk (W q) = 3 ∨ rk (W q) = 0 ∨ (rk (W q) = 2 ∧ true = false)) from fun h => by
          rcases h with h | h | h
          · exact h3 h
          · exact h0 h
          · cases h.2), if_pos rfl]
        refine ⟨x, go2 ?_⟩
        rw [hn]
        refine zR_n 2 rfl ?_
        refine zR_i rfl rfl rfl rfl ⟨Nat.le_of_ble_eq_true rfl, Nat.le_of_ble_eq_true rfl, Nat.le_of_ble_eq_true rfl⟩ rfl (Nat.le_refl _) c_Ar_makeInvalid rfl rfl ?_
        exact zR_e rfl rfl rfl rfl rfl rfl
      | false =>
        by_cases h2 : rk (W q) = 2
        · rw [if_pos (Or.inr (Or.inr ⟨h2, rfl⟩))]
          refine ⟨x, go2 ?_⟩
          rw [hn]
          refine zR_n 2 rfl ?_
          refine zW_g hq rfl rfl rfl rfl rfl ?_
          refine zR_n 2 rfl ?_
          refine zR_if (fun h => absurd h2 h) (fun _ => ?_)
          refine zR_n 2 rfl ?_
          refine zR_v rfl rfl rfl rfl rfl ⟨rfl, Nat.le_of_ble_eq_true rfl, Nat.le_of_ble_eq_true rfl⟩ rfl (Nat.le_refl _) (c_Re_copy h10 hq hq10) rfl rfl ?_
          exact zR_to 48 rfl (zR_e rfl rfl rfl rfl rfl rfl)
        · rw [if_neg (show ¬ (rk (W q) = 3 ∨ rk (W q) = 0 ∨ (rk (W q) = 2 ∧ false = false)) from fun h => by
            rcases h with h | h | h
            · exact h3 h
            · exact h0 h
            · exact h2 h.1), if_neg (show ¬ (false = true) by decide)]
          have h1 : rk (W q) = 1 := by
            rcases hx.1 with h | h | h | h
            · exact absurd h h0
            · exact h
            · exact absurd h h2
            · exact absurd h h3
          obtain ⟨x1, x2, x3⟩ := hx.2.1 h1
          obtain ⟨-, hnb⟩ := rtX_nb (A := rs (W q) * 2 ^ rtN (zr (W q))) (by
            have := pow_pos2 (rtN (zr (W q)))
            intro h9
            rcases Nat.mul_eq_zero.mp h9 with h8 | h8 <;> omega)
          have hN : rtN (zr (W q)) ≤ 101 ∧ 100 ≤ rtN (zr (W q)) := by
            unfold rtN
            split <;> omega
          refine ⟨roX (W q), go2 ?_⟩
          rw [hn]
          refine zR_n 2 rfl ?_
          refine zW_g hq rfl rfl rfl rfl rfl ?_
          refine zR_n 2 rfl ?_
          refine zR_if (fun _ => ?_) (fun h => absurd (Decidable.of_not_not h) h2)
          refine zR_to 54 (st' := [.ref q, .ref 14]) rfl ?_
          refine zR_v rfl rfl rfl rfl rfl ⟨rfl, Nat.le_of_ble_eq_true rfl, Nat.le_of_ble_eq_true rfl⟩ rfl (Nat.le_refl _) (c_Ex_becomeRoot hq x1) rfl rfl ?_
          refine zR_to 66 (st' := [.ref 10, .ref 14, .ref 12]) rfl ?_
          refine zR_v rfl rfl rfl rfl rfl ⟨rfl, Nat.le_of_ble_eq_true rfl, Nat.le_of_ble_eq_true rfl⟩ rfl (Nat.le_refl _) (c_round_rep ht hw hw4 hp (root_rep x1) (Nat.lt_of_lt_of_le (nb_lt _) (Nat.pow_le_pow_right (by decide) (by omega))) (by omega)) rfl rfl ?_
          exact zR_e rfl rfl rfl rfl rfl rfl
end RO
