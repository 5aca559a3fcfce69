/-! roundTo, round of the class -/
def XP (e : Nat) (x y v : XV) : Prop := (e = 14 ∧ v = x) ∨ (e = 16 ∧ v = y)
def fX (v : XV) : List Value := [.int (bI v.1), .int v.2.1, .long v.2.2.1, .long v.2.2.2]
theorem lN_neg {n : Nat} (h : n < 2 ^ 64) : 0 ≤ lN n ↔ n < 2 ^ 63 := by
  rw [Int64.le_iff_toInt_le, lN_ti h]
  show (0 : Int) ≤ _ ↔ _
  split <;> omega
theorem lN_z {n : Nat} : lN n = 0 ↔ n % 2 ^ 64 = 0 := by
  rw [wb_mod n, show (0 : Int64) = lN 0 from rfl, lN_eq64 (Nat.mod_lt _ (by decide)) (by decide)]
theorem lN_mn {m : Nat} (h : m ≤ 2 ^ 64) : - lN m = lN (2 ^ 64 - m) := by
  have h1 : lN (2 ^ 64 - m) = lN (2 ^ 64) - lN m := (lN_sub h).symm
  rw [h1, show lN (2 ^ 64) = 0 from by decide +kernel, Int64.zero_sub]
theorem and_hi {a k : Nat} (ha : a < 2 ^ 64) (hk : k < 64) : a &&& (2 ^ 64 - 2 ^ k) = a / 2 ^ k * 2 ^ k := by
  apply Nat.eq_of_testBit_eq
  intro i
  have hp := Nat.pow_pos (n := k) (show 0 < 2 by decide)
  have hlt : 2 ^ k < 2 ^ 64 := Nat.pow_lt_pow_right (by decide) hk
  rw [Nat.testBit_and, show 2 ^ 64 - 2 ^ k = 2 ^ 64 - ((2 ^ k - 1) + 1) by omega, Nat.testBit_two_pow_sub_succ (by omega), Nat.testBit_two_pow_sub_one, ← Nat.shiftLeft_eq, Nat.testBit_shiftLeft, Nat.testBit_div_two_pow]
  by_cases hi : k ≤ i
  · rw [decide_eq_true (show i ≥ k from hi), decide_eq_false (show ¬ i < k by omega), show i - k + k = i by omega]
    by_cases h6 : i < 64
    · rw [decide_eq_true h6]
      simp
    · rw [decide_eq_false h6, Nat.testBit_lt_two_pow (Nat.lt_of_lt_of_le ha (Nat.pow_le_pow_right (by decide) (by omega)))]
      simp
  · rw [decide_eq_false (show ¬ i ≥ k from hi), decide_eq_true (show i < k by omega)]
    simp
theorem and_bit {K k : Nat} : K * 2 ^ k &&& 2 ^ k = K % 2 * 2 ^ k := by
  have h := Nat.shiftLeft_and_distrib (a := K) (b := 1) (i := k)
  rw [Nat.and_one_is_mod, Nat.shiftLeft_eq, Nat.shiftLeft_eq, Nat.shiftLeft_eq, Nat.one_mul] at h
  exact h.symm
section RT
variable {L : Nat} {xs : Nat → Int32} {d : Nat} {mi : ZM} {pc : Nat} {lv : zL} {st st' r : List Value} {h h' : zH} {k k' : Nat} {o : zO} {pc' : Nat}
variable {f : Nat → Int32} {g : Nat → Int64} {sg : Bool} {A : Nat → Option Nat} {W : Nat → RV} {x y v : XV} {Mc : Nat → Int64} {T : List zC}
theorem zV_g {n j e : Nat} {w : Value} (he : XP e x y v) (hf : zfetch mi pc = some (.getfield n, 3)) (hx : zFld (zCno mi) n = some (2, j)) (hv : (fX v)[j]? = some w) (hp : pc + 3 = pc') (hR : zR L xs d mi pc' lv (w :: r) (sH f g sg A W x y Mc T) k o h' k') : zR L xs d mi pc lv (.ref e :: r) (sH f g sg A W x y Mc T) k o h' k' := by
  rcases he with ⟨rfl, rfl⟩ | ⟨rfl, rfl⟩
  · exact zR_g (fs := fX v) hf hx rfl hv hp hR
  · exact zR_g (fs := fX v) hf hx rfl hv hp hR
set_option maxRecDepth 10000 in
/-- from the comparison of the power on -/
theorem t_Ro_roundTo {e t p w S : Nat} {E G : Int} {half rest : Bool} (he : XP e x y v) (ht : RP t) (hw : f 5 = nI w) (hw4 : w < 4) (hp : pOk p) (hG : 1 ≤ G ∧ G ≤ 20000) (hE : -200000 ≤ E ∧ E ≤ 200000) :
    zR L xs (d + 1) m_Ro_roundTo 142 [(14, .int (iZ E)), (12, .long (lN S)), (11, .int (bI rest)), (10, .int (bI half)), (6, .long (lN (2 ^ (64 - p)))), (0, .ref 12), (1, .ref e), (3, .int (iZ (1 - G))), (4, .int (iZ G)), (5, .ref t)] [] (sH f g sg A W x y Mc T) 0
      (.inl (some (.int (if G < E then 20 else if E < 1 - G then 24 else if half || rest then 16 else 0)))) (sH f g sg A (fu W t (if G < E then (if rBelow w v.1 then (1, v.1, iZ G, sgM p) else (2, v.1, 0, 0)) else if E < 1 - G then (0, v.1, 0, 0) else (1, v.1, iZ E, lN S))) x y Mc T) 0 := by
  refine zR_to 146 (st' := [.int (iZ G), .int (iZ E)]) rfl ?_
  refine zR_m 1 rfl ?_
  refine zR_if (fun h => ?_) (fun h => ?_)
  · have h0 : ¬ G < E := by
      have := (iZ_le (by omega) (by omega)).mp h
      omega
    rw [if_neg h0, if_neg h0]
    refine zR_to 192 (st' := [.int (iZ (1 - G)), .int (iZ E)]) rfl ?_
    refine zR_m 1 rfl ?_
    refine zR_if (fun h2 => ?_) (fun h2 => ?_)
    · have h1 : ¬ E < 1 - G := by
        have := (iZ_le (by omega) (by omega)).mp h2
        omega
      rw [if_neg h1, if_neg h1]
      refine zR_to 210 (st' := [.ref e, .ref t]) rfl ?_
      refine zV_g he rfl rfl rfl rfl ?_
      refine zR_to 217 (st' := [.long (lN S), .int (iZ E), .int (bI v.1), .ref t]) rfl ?_
      refine zR_v rfl rfl rfl rfl (sR_get ht) ⟨rfl, Nat.le_of_ble_eq_true rfl, Nat.le_of_ble_eq_true rfl⟩ rfl (Nat.le_refl _) (c_Re_becomeFinite ht) rfl rfl ?_
      cases half <;> cases rest <;> exact zR_to 236 rfl (zR_e rfl rfl rfl rfl rfl rfl)
    · have h1 : E < 1 - G := by
        rcases Int.lt_or_le E (1 - G) with h9 | h9
        · exact h9
        · exact absurd ((iZ_le (by omega) (by omega)).mpr h9) h2
      rw [if_pos h1, if_pos h1]
      refine zR_to 198 (st' := [.ref e, .ref t]) rfl ?_
      refine zV_g he rfl rfl rfl rfl ?_
      refine zR_v rfl rfl rfl rfl (sR_get ht) ⟨rfl, Nat.le_of_ble_eq_true rfl, Nat.le_of_ble_eq_true rfl⟩ rfl (Nat.le_refl _) (c_Re_becomeZero ht) rfl rfl ?_
      exact zR_to 206 rfl (zR_e rfl rfl rfl rfl rfl rfl)
  · have h0 : G < E := by
      rcases Int.lt_or_le G E with h9 | h9
      · exact h9
      · exact absurd ((iZ_le (by omega) (by omega)).mpr h9) h
    rw [if_pos h0, if_pos h0]
    refine zR_to 151 (st' := [.ref e, .ref 12]) rfl ?_
    refine zV_g he rfl rfl rfl rfl ?_
    refine zR_v rfl rfl rfl rfl rfl ⟨rfl, Nat.le_of_ble_eq_true rfl, Nat.le_of_ble_eq_true rfl⟩ rfl (Nat.le_refl _) (c_Ro_staysBelowInfinite hw hw4) rfl rfl ?_
    cases hb : rBelow w v.1 with
    | true =>
      rw [if_pos rfl]
      refine zR_to 163 (st' := [.ref e, .ref t]) rfl ?_
      refine zV_g he rfl rfl rfl rfl ?_
      refine zR_to 171 (st' := [.long (- lN (2 ^ (64 - p))), .int (iZ G), .int (bI v.1), .ref t]) rfl ?_
      rw [lN_mn (Nat.pow_le_pow_right (by decide) (by omega))]
      refine zR_v rfl rfl rfl rfl (sR_get ht) ⟨rfl, Nat.le_of_ble_eq_true rfl, Nat.le_of_ble_eq_true rfl⟩ rfl (Nat.le_refl _) (c_Re_becomeFinite ht) rfl rfl ?_
      exact zR_to 188 rfl (zR_e rfl rfl rfl rfl rfl rfl)
    | false =>
      rw [if_neg (show ¬ (false = true) by decide)]
      refine zR_to 180 (st' := [.ref e, .ref t]) rfl ?_
      refine zV_g he rfl rfl rfl rfl ?_
      refine zR_v rfl rfl rfl rfl (sR_get ht) ⟨rfl, Nat.le_of_ble_eq_true rfl, Nat.le_of_ble_eq_true rfl⟩ rfl (Nat.le_refl _) (c_Re_becomeInfinite ht) rfl rfl ?_
      exact zR_to 188 rfl (zR_e rfl rfl rfl rfl rfl rfl)
theorem if01 (c : Prop) [Decidable c] : (0 : Int) ≤ (if c then 1 else 0) ∧ (if c then (1 : Int) else 0) ≤ 1 := by
  split <;> decide
theorem zz1 (E z : Int) : ((128 : Nat) : Int) - 1 + (E - 127) + z = E + z := by omega
theorem zz2 {E z : Int} (h1 : -100000 ≤ E ∧ E ≤ 100000) (h2 : 0 ≤ z ∧ z ≤ 1) : -200000 ≤ E + z ∧ E + z ≤ 200000 := by omega
theorem rSg_top {p : Nat} (h : p ≤ 63) : rSg (2 ^ p) = 2 ^ 63 := by
  unfold rSg
  rw [nb_uniq (n := p) (Nat.le_refl _) (Nat.pow_lt_pow_right (by decide) (by omega)), show (64 : Int) - ((p + 1 : Nat) : Int) = ((63 - p : Nat) : Int) by omega, shZ_pos, ← Nat.pow_add]
  congr 1
  omega
theorem rSg_p {K p : Nat} (h : nb K = p) (hp : p ≤ 64) : rSg K = K * 2 ^ (64 - p) := by
  unfold rSg
  rw [h, show (64 : Int) - (p : Int) = ((64 - p : Nat) : Int) by omega, shZ_pos]
set_option maxRecDepth 10000 in
set_option maxHeartbeats 4000000 in
theorem c_Ro_roundTo {e t p w hi lo : Nat} {E G : Int} {mb : Bool} (he : XP e x y (mb, iZ E, lN hi, lN lo)) (ht : RP t) (hw : f 5 = nI w) (hw4 : w < 4) (hp : pOk p) (hG : 1 ≤ G ∧ G ≤ 20000) (hE : -100000 ≤ E ∧ E ≤ 100000) (h1 : 2 ^ 63 ≤ hi) (h2 : hi < 2 ^ 64) (h3 : lo < 2 ^ 64) :
    zE L xs (d + 1) m_Ro_roundTo [.ref 12, .ref e, .int (nI p), .int (iZ (1 - G)), .int (iZ G), .ref t] (sH f g sg A W x y Mc T) (.inl (some (.int (rNt w mb (hi * 2 ^ 64 + lo) p G (E - 127))))) (sH f g sg A (fu W t (rVal w mb (hi * 2 ^ 64 + lo) p G (E - 127))) x y Mc T) := by
  have hp1 : 1 ≤ p ∧ p ≤ 64 := by rcases hp with rfl | rfl | rfl <;> decide
  obtain ⟨n1, n2, n3, n4⟩ := rt_n hp h1 h2 h3
  have hX : hi * 2 ^ 64 + lo ≠ 0 := by omega
  have hnb := x128 h1 h2 h3
  have hk : 64 - p < 64 := by omega
  have hpk : (2 : Nat) ^ p * 2 ^ (64 - p) = 2 ^ 64 := by rw [← Nat.pow_add]; congr 1; omega
  have hrt : rtL p hi lo < 2 ^ 64 := by
    unfold rtL
    split
    · exact h3
    · exact Nat.mod_lt _ (by decide)
  obtain ⟨kr1, kr2⟩ := rK_rng hX hp1.1
  have hKn := rK1_nb (w := w) (mb := mb) hX hp1.1
  have hU : rUq w mb (hi * 2 ^ 64 + lo) p = rUp w mb (decide (hi / 2 ^ (64 - p) % 2 = 1)) (rHf (hi * 2 ^ 64 + lo) p) (rRs (hi * 2 ^ 64 + lo) p) := by
    unfold rUq
    rw [hnb, n4]
  have hEx : rEx w mb (hi * 2 ^ 64 + lo) p (E - 127) = E + (if rK1 w mb (hi * 2 ^ 64 + lo) p = 2 ^ p then 1 else 0) := by
    unfold rEx
    rw [hnb]
    exact zz1 _ _
  rw [n1] at kr1 kr2
  generalize hhalf : rHf (hi * 2 ^ 64 + lo) p = half at *
  generalize hrest : rRs (hi * 2 ^ 64 + lo) p = rest at *
  -- the end, with the number rounded
  have fin : ∀ (S : Nat) (E1 : Int), rEx w mb (hi * 2 ^ 64 + lo) p (E - 127) = E1 → rSg (rK1 w mb (hi * 2 ^ 64 + lo) p) = S → zR L xs (d + 1) m_Ro_roundTo 142 [(14, .int (iZ E1)), (12, .long (lN S)), (11, .int (bI rest)), (10, .int (bI half)), (6, .long (lN (2 ^ (64 - p)))), (0, .ref 12), (1, .ref e), (3, .int (iZ (1 - G))), (4, .int (iZ G)), (5, .ref t)] [] (sH f g sg A W x y Mc T) 0 (.inl (some (.int (rNt w mb (hi * 2 ^ 64 + lo) p G (E - 127))))) (sH f g sg A (fu W t (rVal w mb (hi * 2 ^ 64 + lo) p G (E - 127))) x y Mc T) 0 := by
    intro S E1 hE1 hS
    have hb1 : -200000 ≤ E1 ∧ E1 ≤ 200000 := by
      rw [← hE1, hEx]
      exact zz2 hE (if01 _)
    have h9 := t_Ro_roundTo (L := L) (xs := xs) (d := d) (f := f) (g := g) (sg := sg) (A := A) (W := W) (Mc := Mc) (T := T) (p := p) (S := S) (E := E1) (G := G) (half := half) (rest := rest) he ht hw hw4 hp hG hb1
    unfold rVal rNt
    rw [hE1, hS, hhalf, hrest]
    exact h9
  -- from goesAway's answer on
  have mid : zR L xs (d + 1) m_Ro_roundTo 117 [(14, .int (iZ E)), (12, .long (lN (hi / 2 ^ (64 - p) * 2 ^ (64 - p)))), (11, .int (bI rest)), (10, .int (bI half)), (6, .long (lN (2 ^ (64 - p)))), (0, .ref 12), (1, .ref e), (3, .int (iZ (1 - G))), (4, .int (iZ G)), (5, .ref t)] [.int (bI (rUq w mb (hi * 2 ^ 64 + lo) p))] (sH f g sg A W x y Mc T) 0 (.inl (some (.int (rNt w mb (hi * 2 ^ 64 + lo) p G (E - 127))))) (sH f g sg A (fu W t (rVal w mb (hi * 2 ^ 64 + lo) p G (E - 127))) x y Mc T) 0 := by
    cases hu : rUq w mb (hi * 2 ^ 64 + lo) p with
    | false =>
      have hK1 : rK1 w mb (hi * 2 ^ 64 + lo) p = hi / 2 ^ (64 - p) := by
        unfold rK1
        rw [n1, hu]
        rfl
      rw [hK1, if_neg (show ¬ hi / 2 ^ (64 - p) = 2 ^ p by omega)] at hKn hEx
      refine zR_to 142 rfl ?_
      exact fin _ _ (by rw [hEx, Int.add_zero]) (by rw [hK1, rSg_p hKn hp1.2])
    | true =>
      have hK1 : rK1 w mb (hi * 2 ^ 64 + lo) p = hi / 2 ^ (64 - p) + 1 := by
        unfold rK1
        rw [n1, hu]
        rfl
      rw [hK1] at hKn hEx
      refine zR_to 125 (st' := [.long (lN (hi / 2 ^ (64 - p) * 2 ^ (64 - p)) + lN (2 ^ (64 - p)))]) rfl ?_
      rw [lN_add, show hi / 2 ^ (64 - p) * 2 ^ (64 - p) + 2 ^ (64 - p) = (hi / 2 ^ (64 - p) + 1) * 2 ^ (64 - p) by rw [Nat.add_mul, Nat.one_mul]]
      refine zR_to 131 (st' := [.int (lg_cmp (lN ((hi / 2 ^ (64 - p) + 1) * 2 ^ (64 - p))) 0)]) rfl ?_
      refine zR_m 1 rfl ?_
      by_cases hc : hi / 2 ^ (64 - p) + 1 = 2 ^ p
      · rw [if_pos hc] at hKn hEx
        refine zR_if (fun h9 => absurd ((lg_cmp_eq _ _).mpr (by rw [hc, hpk]; decide +kernel)) h9) (fun _ => ?_)
        refine zR_to 142 rfl ?_
        refine zR_w (fin (2 ^ 63) (E + 1) hEx ?_) rfl rfl ⟨?_, rfl, rfl, rfl, rfl, rfl, rfl, rfl, rfl, rfl, trivial⟩
        · rw [hK1, hc]
          rcases Nat.lt_or_ge p 64 with h9 | h9
          · exact rSg_top (by omega)
          · obtain rfl : p = 64 := by omega
            decide +kernel
        · rw [← iZ_add]
          rfl
      · rw [if_neg hc] at hKn hEx
        refine zR_if (fun _ => ?_) (fun h9 => ?_)
        · refine zR_w (fin _ _ (by rw [hEx, Int.add_zero]) (by rw [hK1, rSg_p hKn hp1.2])) rfl rfl ⟨rfl, rfl, rfl, rfl, rfl, rfl, rfl, rfl, rfl, rfl, trivial⟩
        · have h8 := lN_z.mp ((lg_cmp_eq _ _).mp (Decidable.of_not_not h9))
          have h7 : (hi / 2 ^ (64 - p) + 1) * 2 ^ (64 - p) < 2 ^ 64 := by
            rw [← hpk]
            exact Nat.mul_lt_mul_of_pos_right (by omega) (Nat.pow_pos (by decide))
          rw [Nat.mod_eq_of_lt h7] at h8
          have := Nat.pow_pos (n := 64 - p) (show 0 < 2 by decide)
          rcases Nat.mul_eq_zero.mp h8 with h6 | h6 <;> omega
  -- from half and rest on
  have m74 : zR L xs (d + 1) m_Ro_roundTo 74 [(11, .int (bI rest)), (10, .int (bI half)), (6, .long (lN (2 ^ (64 - p)))), (0, .ref 12), (1, .ref e), (3, .int (iZ (1 - G))), (4, .int (iZ G)), (5, .ref t)] [] (sH f g sg A W x y Mc T) 0 (.inl (some (.int (rNt w mb (hi * 2 ^ 64 + lo) p G (E - 127))))) (sH f g sg A (fu W t (rVal w mb (hi * 2 ^ 64 + lo) p G (E - 127))) x y Mc T) 0 := by
    refine zR_to 75 rfl ?_
    refine zV_g he rfl rfl rfl rfl ?_
    refine zR_to 82 (st' := [.long (lN hi &&& - lN (2 ^ (64 - p)))]) rfl ?_
    rw [lN_mn (Nat.pow_le_pow_right (by decide) (by omega)), wb_and h2 (by have := Nat.pow_pos (n := 64 - p) (show 0 < 2 by decide); omega), and_hi h2 hk]
    refine zR_to 85 rfl ?_
    refine zV_g he rfl rfl rfl rfl ?_
    refine zR_to 92 rfl ?_
    refine zV_g he rfl rfl rfl rfl ?_
    refine zR_to 100 (st' := [.long (lN (hi / 2 ^ (64 - p) * 2 ^ (64 - p)) &&& lN (2 ^ (64 - p))), .int (bI mb), .ref 12]) rfl ?_
    have hKk : hi / 2 ^ (64 - p) * 2 ^ (64 - p) < 2 ^ 64 := Nat.lt_of_le_of_lt (Nat.div_mul_le_self _ _) h2
    rw [wb_and hKk (Nat.pow_lt_pow_right (by decide) hk), and_bit]
    refine zR_to 102 (st' := [.int (lg_cmp (lN (hi / 2 ^ (64 - p) % 2 * 2 ^ (64 - p))) 0), .int (bI mb), .ref 12]) rfl ?_
    have call : ∀ od : Bool, decide (hi / 2 ^ (64 - p) % 2 = 1) = od → ∀ l9 : Int32, zR L xs (d + 1) m_Ro_roundTo 110 [(14, .int (iZ E)), (12, .long (lN (hi / 2 ^ (64 - p) * 2 ^ (64 - p)))), (11, .int (bI rest)), (10, .int (bI half)), (6, .long (lN (2 ^ (64 - p)))), (0, .ref 12), (1, .ref e), (3, .int (iZ (1 - G))), (4, .int (iZ G)), (5, .ref t)] [.int (bI od), .int (bI mb), .ref 12] (sH f g sg A W x y Mc T) 0 (.inl (some (.int (rNt w mb (hi * 2 ^ 64 + lo) p G (E - 127))))) (sH f g sg A (fu W t (rVal w mb (hi * 2 ^ 64 + lo) p G (E - 127))) x y Mc T) 0 := by
      intro od hod _
      refine zR_to 114 (st' := [.int (bI rest), .int (bI half), .int (bI od), .int (bI mb), .ref 12]) rfl ?_
      refine zR_v rfl rfl rfl rfl rfl ⟨rfl, Nat.le_of_ble_eq_true rfl, Nat.le_of_ble_eq_true rfl⟩ rfl (Nat.le_refl _) (c_Ro_goesAway hw hw4) rfl rfl ?_
      rw [hod] at hU
      rw [← hU]
      exact mid
    refine zR_m 1 rfl ?_
    refine zR_if (fun h9 => ?_) (fun h9 => ?_)
    · refine zR_to 110 rfl ?_
      refine call false (decide_eq_false (fun h8 => ?_)) 0
      have h7 := lN_z.mp ((lg_cmp_eq _ _).mp h9)
      rw [h8, Nat.one_mul, Nat.mod_eq_of_lt (Nat.pow_lt_pow_right (by decide) hk)] at h7
      have := Nat.pow_pos (n := 64 - p) (show 0 < 2 by decide)
      omega
    · refine zR_to 110 rfl ?_
      refine call true (decide_eq_true ?_) 0
      rcases Nat.mod_two_eq_zero_or_one (hi / 2 ^ (64 - p)) with h8 | h8
      · exact absurd ((lg_cmp_eq _ _).mpr (by rw [h8, Nat.zero_mul]; rfl)) h9
      · exact h8
  -- from what is lost on
  have m29 : zR L xs (d + 1) m_Ro_roundTo 27 [(6, .long (lN (2 ^ (64 - p)))), (0, .ref 12), (1, .ref e), (2, .int (nI p)), (3, .int (iZ (1 - G))), (4, .int (iZ G)), (5, .ref t)] [.long (lN (rtL p hi lo))] (sH f g sg A W x y Mc T) 0 (.inl (some (.int (rNt w mb (hi * 2 ^ 64 + lo) p G (E - 127))))) (sH f g sg A (fu W t (rVal w mb (hi * 2 ^ 64 + lo) p G (E - 127))) x y Mc T) 0 := by
    have rst : zR L xs (d + 1) m_Ro_roundTo 43 [(10, .int (bI half)), (8, .long (lN (rtL p hi lo))), (6, .long (lN (2 ^ (64 - p)))), (0, .ref 12), (1, .ref e), (2, .int (nI p)), (3, .int (iZ (1 - G))), (4, .int (iZ G)), (5, .ref t)] [] (sH f g sg A W x y Mc T) 0 (.inl (some (.int (rNt w mb (hi * 2 ^ 64 + lo) p G (E - 127))))) (sH f g sg A (fu W t (rVal w mb (hi * 2 ^ 64 + lo) p G (E - 127))) x y Mc T) 0 := by
      have y67 : rest = true → zR L xs (d + 1) m_Ro_roundTo 67 [(10, .int (bI half)), (8, .long (lN (rtL p hi lo))), (6, .long (lN (2 ^ (64 - p)))), (0, .ref 12), (1, .ref e), (2, .int (nI p)), (3, .int (iZ (1 - G))), (4, .int (iZ G)), (5, .ref t)] [] (sH f g sg A W x y Mc T) 0 (.inl (some (.int (rNt w mb (hi * 2 ^ 64 + lo) p G (E - 127))))) (sH f g sg A (fu W t (rVal w mb (hi * 2 ^ 64 + lo) p G (E - 127))) x y Mc T) 0 := fun hy => by
        rw [hy] at m74
        refine zR_to 74 rfl ?_
        exact zR_w m74 rfl rfl ⟨rfl, rfl, rfl, rfl, rfl, rfl, rfl, rfl, trivial⟩
      have y71 : rest = false → zR L xs (d + 1) m_Ro_roundTo 71 [(10, .int (bI half)), (8, .long (lN (rtL p hi lo))), (6, .long (lN (2 ^ (64 - p)))), (0, .ref 12), (1, .ref e), (2, .int (nI p)), (3, .int (iZ (1 - G))), (4, .int (iZ G)), (5, .ref t)] [] (sH f g sg A W x y Mc T) 0 (.inl (some (.int (rNt w mb (hi * 2 ^ 64 + lo) p G (E - 127))))) (sH f g sg A (fu W t (rVal w mb (hi * 2 ^ 64 + lo) p G (E - 127))) x y Mc T) 0 := fun hy => by
        rw [hy] at m74
        refine zR_to 74 rfl ?_
        exact zR_w m74 rfl rfl ⟨rfl, rfl, rfl, rfl, rfl, rfl, rfl, rfl, trivial⟩
      refine zR_to 47 (st' := [.long (lN (rtL p hi lo) <<< ((nI 1).toInt64 &&& 63))]) rfl ?_
      rw [wb_shl _ (show 1 < 64 by decide), Nat.pow_one]
      refine zR_to 49 (st' := [.int (lg_cmp (lN (rtL p hi lo * 2)) 0)]) rfl ?_
      refine zR_m 1 rfl ?_
      refine zR_if (fun h9 => y67 ?_) (fun h9 => ?_)
      · rw [n3, decide_eq_true (show rtL p hi lo * 2 % 2 ^ 64 ≠ 0 from fun h8 => h9 ((lg_cmp_eq _ _).mpr (lN_z.mpr h8)))]
        rfl
      · rw [decide_eq_false (show ¬ rtL p hi lo * 2 % 2 ^ 64 ≠ 0 from fun h8 => h8 (lN_z.mp ((lg_cmp_eq _ _).mp (Decidable.of_not_not h9)))), Bool.false_or] at n3
        refine zR_to 55 (st' := [.int (nI 64), .int (nI p)]) rfl ?_
        refine zR_m 1 rfl ?_
        refine zR_if (fun h8 => y71 ?_) (fun h8 => ?_)
        · rw [n3, decide_eq_false (show ¬ p < 64 by have := (nI_leI (by omega) (by omega)).mp h8; omega)]
          rfl
        · have hlt : p < 64 := by
            rcases Nat.lt_or_ge p 64 with h7 | h7
            · exact h7
            · exact absurd ((nI_leI (by omega) (by omega)).mpr h7) h8
          rw [decide_eq_true hlt, Bool.true_and] at n3
          refine zR_to 59 rfl ?_
          refine zV_g he rfl rfl rfl rfl ?_
          refine zR_to 64 (st' := [.int (lg_cmp (lN lo) 0)]) rfl ?_
          refine zR_m 1 rfl ?_
          refine zR_if (fun h7 => y71 ?_) (fun h7 => y67 ?_)
          · rw [n3, decide_eq_false (show ¬ lo ≠ 0 from fun h6 => h6 (by have := lN_z.mp ((lg_cmp_eq _ _).mp h7); omega))]
          · rw [n3, decide_eq_true (show lo ≠ 0 from fun h6 => h7 ((lg_cmp_eq _ _).mpr (by rw [h6]; rfl)))]
    refine zR_to 33 (st' := [.int (lg_cmp (lN (rtL p hi lo)) 0)]) rfl ?_
    refine zR_m 1 rfl ?_
    refine zR_if (fun h9 => ?_) (fun h9 => ?_)
    · rw [show half = false from by
        rw [n2]
        exact decide_eq_false (fun h8 => by have := (lN_neg hrt).mp ((lg_cmp_ge _ _).mp h9); omega)] at rst
      refine zR_to 43 rfl ?_
      exact zR_w rst rfl rfl ⟨rfl, rfl, rfl, rfl, rfl, rfl, rfl, rfl, rfl, trivial⟩
    · rw [show half = true from by
        rw [n2]
        exact decide_eq_true (by
          rcases Nat.lt_or_ge (rtL p hi lo) (2 ^ 63) with h8 | h8
          · exact absurd ((lg_cmp_ge _ _).mpr ((lN_neg hrt).mpr h8)) h9
          · exact h8)] at rst
      refine zR_to 43 rfl ?_
      exact zR_w rst rfl rfl ⟨rfl, rfl, rfl, rfl, rfl, rfl, rfl, rfl, rfl, trivial⟩
  refine ⟨0, Nat.zero_le _, ?_⟩
  refine zR_to 5 (st' := [.int (nI 64 - nI p), .long (lN 1)]) rfl ?_
  rw [pk_sub hp1.2]
  refine zR_to 6 (st' := [.long (lN 1 <<< ((nI (64 - p)).toInt64 &&& 63))]) rfl ?_
  rw [wb_shl 1 hk, Nat.one_mul]
  refine zR_to 11 (st' := [.int (nI 64), .int (nI p)]) rfl ?_
  refine zR_m 1 rfl ?_
  refine zR_if (fun h9 => ?_) (fun h9 => ?_)
  · have hne : p ≠ 64 := fun h8 => h9 (by rw [h8])
    refine zR_to 22 rfl ?_
    refine zV_g he rfl rfl rfl rfl ?_
    refine zR_to 27 (st' := [.long (lN hi <<< ((nI p).toInt64 &&& 63))]) rfl ?_
    rw [wb_shl _ (show p < 64 by omega), wb_mod (hi * 2 ^ p)]
    rw [show rtL p hi lo = hi * 2 ^ p % 2 ^ 64 from if_neg hne] at m29
    exact m29
  · have heq : p = 64 := (nI_eq (by omega) (by omega)).mp (Decidable.of_not_not h9)
    refine zR_to 15 rfl ?_
    refine zV_g he rfl rfl rfl rfl ?_
    rw [show rtL p hi lo = lo from if_pos heq] at m29
    exact zR_to 27 rfl m29
set_option maxRecDepth 10000 in
theorem c_Ro_round {p w hi lo : Nat} {E : Int} {mb : Bool} (ht : f 4 = nI p) (hw : f 5 = nI w) (hw4 : w < 4) (hp : pOk p) (hE : -100000 ≤ E ∧ E ≤ 100000) (h1 : 2 ^ 63 ≤ hi) (h2 : hi < 2 ^ 64) (h3 : lo < 2 ^ 64) :
    zE L xs (d + 2) m_Ro_round [.ref 12, .ref 14, .ref 10] (sH f g sg A W (mb, iZ E, lN hi, lN lo) y Mc T) (.inl (some (.int (rNt w mb (hi * 2 ^ 64 + lo) p 16383 (E - 127))))) (sH f g sg A (fu W 10 (rVal w mb (hi * 2 ^ 64 + lo) p 16383 (E - 127))) (mb, iZ E, lN hi, lN lo) y Mc T) := by
  refine ⟨0, Nat.zero_le _, ?_⟩
  refine zR_to 13 (st' := [.ref 10, .int (iZ 16383), .int (iZ (1 - 16383)), .int (f 4), .ref 14, .ref 12]) rfl ?_
  rw [ht]
  refine zR_v rfl rfl rfl rfl rfl ⟨rfl, Nat.le_of_ble_eq_true rfl, Nat.le_of_ble_eq_true rfl⟩ rfl (Nat.le_refl _) (c_Ro_roundTo (e := 14) (Or.inl ⟨rfl, rfl⟩) (Or.inl ⟨by decide, by decide⟩) hw hw4 hp (by decide) hE h1 h2 h3) rfl rfl ?_
  exact zR_e rfl rfl rfl rfl rfl rfl
end RT
