section MO
variable {L : Nat} {xs : Nat → Int32} {d : Nat} {mi : ZM} {pc : Nat} {lv : zL} {st st' : List Value} {h' : zH} {k k' : Nat} {o : zO} {pc' : Nat}
variable {C : Nat → zC} {u : zC} {a : Nat → Int32} {b : Nat → Int64} {K : Nat → Int32} {B : Nat → Bool} {E : Nat → Int32} {S M : Nat → Int64} {R : Nat → Nat}
theorem put_dig {n j : Nat} (hn : n < 2 ^ 64) (hj : j < 4) : (((lN n).toUInt64 >>> (((16 : Int32) * nI j).toInt64.toUInt64 &&& Int64.toUInt64 63)).toInt64 &&& 65535).toInt32 = nI (dd n j) := by
  rw [show (16 : Int32) * nI j = nI (16 * j) from by rw [← pk_mul]; rfl, wb_shr hn (by omega), show (65535 : Int64) = lN (2 ^ 16 - 1) from rfl, wb_mask (Nat.lt_of_le_of_lt (Nat.div_le_self _ _) hn) (by decide), lN_i]
  unfold dd
  rw [B2]
set_option maxRecDepth 10000 in
theorem l_Mo_put {r n : Nat} (hr : r < 5) (hn : n < 2 ^ 64) : ∀ (t : Nat) {j : Nat}, t + j = 4 → R r = n % 65536 ^ j → zR L xs d m_Mo_put 8 [(4, .int (nI j)), (0, .ref 20), (1, .int (nI r)), (2, .long (lN n))] [] (mH C u a b K B E S M R) 0 (.inl none) (mH C u a b K B E S M (fu R r n)) 0 := by
  intro t
  induction t generalizing R with
  | zero =>
    intro j ht hR
    obtain rfl : j = 4 := by omega
    rw [Nat.mod_eq_of_lt (show n < 65536 ^ 4 from hn)] at hR
    refine zR_m 3 (pc' := 44) rfl ?_
    exact zR_e rfl rfl rfl rfl rfl (by rw [fu_self hR])
  | succ t ih =>
    intro j ht hR
    refine zR_m 3 rfl ?_
    refine zR_if (fun h => absurd h (nI_ge (a := j) (b := 4) (by omega) (by decide))) (fun _ => ?_)
    refine zR_m 15 rfl ?_
    refine zD_put (y := n % 65536 ^ (j + 1)) rfl (ix r j) hr (by omega) (put_dig (j := j) hn (by omega)) (fun i hi => ?_) rfl ?_
    · by_cases h2 : i = j
      · rw [if_pos h2, h2, dd_low _ (by omega)]
      · rw [if_neg h2, hR]
        by_cases h : i < j
        · rw [dd_low _ (by omega), dd_low _ h]
        · rw [dd_low0 _ (by omega), dd_low0 _ (by omega)]
    · refine zR_m 2 (pc' := 8) (lv' := [(4, .int (nI (j + 1))), (0, .ref 20), (1, .int (nI r)), (2, .long (lN n))]) (by rw [nI_succ]; rfl) ?_
      have h9 := ih (R := fu R r (n % 65536 ^ (j + 1))) (j := j + 1) (by omega) fu_s
      rw [fu_fu] at h9
      exact h9
theorem e_Mo_put {r n : Nat} (hr : r < 5) (hn : n < 2 ^ 64) (hR : Rok R) : zE L xs (d + 1) m_Mo_put [.ref 20, .int (nI r), .long (lN n)] (mH C u a b K B E S M R) (.inl none) (mH C u a b K B E S M (fu R r n)) := by
  refine ⟨0, Nat.zero_le _, ?_⟩
  refine zR_m 2 rfl ?_
  refine zR_v rfl rfl rfl rfl rfl ⟨rfl, Nat.le_of_ble_eq_true rfl, Nat.le_of_ble_eq_true rfl⟩ rfl (Nat.le_refl _) (e_Mo_blank hr hR) rfl rfl ?_
  refine zR_m 2 (pc' := 8) (lv' := [(4, .int (nI 0)), (0, .ref 20), (1, .int (nI r)), (2, .long (lN n))]) rfl ?_
  have h9 := l_Mo_put (L := L) (xs := xs) (d := d + 1) (C := C) (u := u) (a := a) (b := b) (K := K) (B := B) (E := E) (S := S) (M := M) (R := fu R r 0) hr hn 4 (j := 0) (by omega) (by rw [fu_s]; simp [Nat.mod_one])
  rw [fu_fu] at h9
  exact h9
theorem dv16 {n : Nat} (h : n < 2 ^ 31) : nI n / (16 : Int32) = nI (n / 16) := pk_div (d := 16) h (by decide) (by decide)
theorem rm16 {n : Nat} (h : n < 2 ^ 31) : nI n - nI n / (16 : Int32) * (16 : Int32) = nI (n % 16) := pk_rem (d := 16) h (by decide) (by decide)
theorem bit_val {x n : Nat} : dd x (n / 16) / 2 ^ (n % 16) % 2 = x / 2 ^ n % 2 := by
  have h := dd_testBit x (n / 16) (n % 16) (Nat.mod_lt _ (by decide))
  rw [show 16 * (n / 16) + n % 16 = n by omega, Nat.testBit_eq_decide_div_mod_eq, Nat.testBit_eq_decide_div_mod_eq, decide_eq_decide] at h
  have h1 := Nat.mod_lt (dd x (n / 16) / 2 ^ (n % 16)) (show 2 > 0 by decide)
  have h2 := Nat.mod_lt (x / 2 ^ n) (show 2 > 0 by decide)
  omega
theorem sl32 : ∀ n, n < 32 → ((nI n &&& 31).toBitVec.smod 32).toNat = n := by decide +kernel
theorem bit_sh {x n : Nat} (hn : n < 512) : nI (dd x (n / 16)) >>> ((nI n - nI n / (16 : Int32) * (16 : Int32)) &&& 31) &&& 1 = nI (x / 2 ^ n % 2) := by
  have h1 := dd_lt x (n / 16)
  rw [rm16 (by omega), pk_shrN (by omega) _ (n % 16) (sl32 _ (by omega)), pk_andN (Nat.lt_of_le_of_lt (Nat.div_le_self _ _) (by omega)) 1 rfl]
  exact congrArg nI bit_val
/-- a return, value and heap in another form -/
theorem zR_q {v v' : Option Value} {i : Instr} {nn : Nat} {h : zH} (hf : zfetch mi pc = some (i, nn)) (hn1 : z1 pc i lv st = none) (hn2 : z2 L xs (zCno mi) i st h = none) (hc : zcall (zCno mi) i st h = none) (hr : zret3 mi i st = some v) (hv : v = v') (hh : h = h') : zR L xs d mi pc lv st h k (.inl v') h' k := by
  subst hv
  exact zR_e hf hn1 hn2 hc hr hh
set_option maxRecDepth 10000 in
theorem e_Mo_bit {r n : Nat} (hr : r < 5) (hn : n < 512) : zE L xs d m_Mo_bit [.ref 20, .int (nI r), .int (nI n)] (mH C u a b K B E S M R) (.inl (some (.int (nI (R r / 2 ^ n % 2))))) (mH C u a b K B E S M R) := by
  refine ⟨0, Nat.zero_le _, ?_⟩
  refine zR_m 2 rfl ?_
  refine zR_if (fun _ => ?_) (fun h => absurd (nI_pos' (n := n) (by omega)) h)
  refine zR_m 9 rfl ?_
  refine zD_get (r := r) (j := n / 16) rfl ?_ hr (by omega) rfl ?_
  · exact (congrArg (fun z => (32 : Int32) * nI r + z) (dv16 (n := n) (by omega))).trans (ix r (n / 16))
  · refine zR_m 6 rfl ?_
    exact zR_q rfl rfl rfl rfl rfl (congrArg (fun z => some (Value.int z)) (bit_sh hn)) rfl
/-- below the row's first bit stands 0 -/
theorem e_Mo_bitn {r : Nat} {x : Int32} (hx : x < 0) : zE L xs d m_Mo_bit [.ref 20, .int (nI r), .int x] (mH C u a b K B E S M R) (.inl (some (.int 0))) (mH C u a b K B E S M R) := by
  refine ⟨0, Nat.zero_le _, ?_⟩
  refine zR_m 2 rfl ?_
  refine zR_if (fun h => absurd hx (Int32.not_lt.mpr h)) (fun _ => ?_)
  refine zR_m 2 rfl ?_
  exact zR_e rfl rfl rfl rfl rfl rfl
theorem sb_or {x n : Nat} (hn : n < 512) : nI (dd x (n / 16)) ||| ((1 : Int32) <<< ((nI n - nI n / (16 : Int32) * (16 : Int32)) &&& 31)) = nI (dd x (n / 16) ||| 2 ^ (n % 16)) := by
  have h2 : 1 * 2 ^ (n % 16) < 2 ^ 32 := by rw [Nat.one_mul]; exact Nat.pow_lt_pow_right (by decide) (by omega)
  rw [rm16 (by omega), show (1 : Int32) = nI 1 from rfl, pk_shlN _ (n % 16) (sl32 _ (by omega)) h2, Nat.one_mul]
  apply Int32.toBitVec_inj.1
  show BitVec.ofNat 32 _ ||| BitVec.ofNat 32 _ = BitVec.ofNat 32 _
  apply BitVec.eq_of_getLsbD_eq
  intro i hi
  simp [hi]
theorem sb_dd {x n : Nat} (i : Nat) : dd (x ||| 2 ^ n) i = if i = n / 16 then dd x (n / 16) ||| 2 ^ (n % 16) else dd x i := by
  apply Nat.eq_of_testBit_eq
  intro j
  by_cases hj : j < 16
  · rw [dd_testBit _ _ _ hj, Nat.testBit_or, Nat.testBit_two_pow]
    by_cases h : i = n / 16
    · rw [if_pos h, Nat.testBit_or, dd_testBit _ _ _ hj, Nat.testBit_two_pow, h]
      congr 1
      rw [decide_eq_decide]
      omega
    · rw [if_neg h, dd_testBit _ _ _ hj, decide_eq_false (by omega), Bool.or_false]
  · have h0 : ∀ y, y < 65536 → y.testBit j = false := fun y hy => Nat.testBit_lt_two_pow (Nat.lt_of_lt_of_le hy (show (2 : Nat) ^ 16 ≤ 2 ^ j from Nat.pow_le_pow_right (by decide) (by omega)))
    rw [h0 _ (dd_lt _ _)]
    by_cases h : i = n / 16
    · rw [if_pos h, Nat.testBit_or, h0 _ (dd_lt _ _), Nat.testBit_two_pow, decide_eq_false (by omega)]
      rfl
    · rw [if_neg h, h0 _ (dd_lt _ _)]
set_option maxRecDepth 10000 in
theorem e_Mo_setBit {r n : Nat} (hr : r < 5) (hn : n < 512) : zE L xs d m_Mo_setBit [.ref 20, .int (nI r), .int (nI n)] (mH C u a b K B E S M R) (.inl none) (mH C u a b K B E S M (fu R r (R r ||| 2 ^ n))) := by
  have hi : (32 : Int32) * nI r + nI n / 16 = nI (32 * r + n / 16) := (congrArg (fun z => (32 : Int32) * nI r + z) (dv16 (n := n) (by omega))).trans (ix r (n / 16))
  refine ⟨0, Nat.zero_le _, ?_⟩
  refine zR_m 18 rfl ?_
  refine zD_get (r := r) (j := n / 16) rfl hi hr (by omega) rfl ?_
  refine zR_m 6 rfl ?_
  refine zD_put (r := r) (j := n / 16) rfl hi hr (by omega) (sb_or hn) (fun i _ => sb_dd i) rfl ?_
  exact zR_e rfl rfl rfl rfl rfl rfl
/-! the highest bit -/
theorem bit0_lt {x n : Nat} (h : x < 2 ^ (n + 1)) (hb : x / 2 ^ n % 2 = 0) : x < 2 ^ n := by
  have h1 : x / 2 ^ n < 2 := Nat.div_lt_of_lt_mul (by rw [Nat.pow_succ] at h; exact h)
  have h2 : x / 2 ^ n = 0 := by generalize x / 2 ^ n = t at *; omega
  exact (Nat.div_eq_zero_iff_lt (Nat.pow_pos (by decide))).mp h2
theorem bit1_le {x n : Nat} (hb : x / 2 ^ n % 2 ≠ 0) : 2 ^ n ≤ x := by
  rcases Nat.lt_or_ge x (2 ^ n) with h | h
  · rw [Nat.div_eq_of_lt h] at hb
    exact absurd rfl hb
  · exact h
/-- the number of bits -/
def nb : Nat → Nat := fun x => if x = 0 then 0 else x.log2 + 1
theorem nb_lt (x : Nat) : x < 2 ^ nb x := by
  unfold nb
  split
  · rename_i h; rw [h]; decide
  · exact Nat.lt_log2_self
theorem nb_le {x : Nat} (h : x ≠ 0) : 2 ^ (nb x - 1) ≤ x := by
  unfold nb
  rw [if_neg h]
  exact Nat.log2_self_le h
theorem nb_uniq {x n : Nat} (h1 : 2 ^ n ≤ x) (h2 : x < 2 ^ (n + 1)) : nb x = n + 1 := by
  have hx : x ≠ 0 := by have := Nat.pow_pos (n := n) (show 0 < 2 by decide); omega
  have h3 := nb_lt x
  have h4 := nb_le hx
  rcases Nat.lt_trichotomy (nb x) (n + 1) with h | h | h
  · have := Nat.pow_le_pow_right (n := 2) (by decide) (show nb x ≤ n by omega)
    omega
  · exact h
  · have := Nat.pow_le_pow_right (n := 2) (by decide) (show n + 1 ≤ nb x - 1 by omega)
    omega
theorem nb_0 : nb 0 = 0 := rfl
theorem nb_bd {x n : Nat} (h : x < 2 ^ n) : nb x ≤ n := by
  by_cases hx : x = 0
  · rw [hx, nb_0]; omega
  · rcases Nat.lt_or_ge n (nb x) with h1 | h1
    · have := Nat.pow_le_pow_right (n := 2) (by decide) (show n ≤ nb x - 1 by omega)
      have := nb_le hx
      omega
    · exact h1
set_option maxRecDepth 10000 in
theorem l_Mo_top {r : Nat} (hr : r < 5) : ∀ (n : Nat), n ≤ 512 → R r < 2 ^ n → zR L xs (d + 1) m_Mo_top 4 [(2, .int (iZ ((n : Int) - 1))), (0, .ref 20), (1, .int (nI r))] [] (mH C u a b K B E S M R) 0 (.inl (some (.int (iZ ((nb (R r) : Int) - 1))))) (mH C u a b K B E S M R) 0 := by
  intro n
  induction n with
  | zero =>
    intro hn hR
    have h0 : R r = 0 := by simpa using hR
    rw [h0]
    refine zR_m 2 (pc' := 23) rfl ?_
    refine zR_m 1 rfl ?_
    exact zR_e rfl rfl rfl rfl rfl rfl
  | succ n ih =>
    intro hn hR
    rw [show (((n + 1 : Nat) : Int) - 1) = (n : Int) by omega, iZ_nat]
    refine zR_m 2 rfl ?_
    refine zR_if (fun h => absurd h (nI_pos (n := n) (by omega))) (fun _ => ?_)
    refine zR_m 3 rfl ?_
    refine zR_v rfl rfl rfl rfl rfl ⟨rfl, Nat.le_of_ble_eq_true rfl, Nat.le_of_ble_eq_true rfl⟩ rfl (Nat.le_refl _) (e_Mo_bit (n := n) hr (by omega)) rfl rfl ?_
    refine zR_m 1 rfl ?_
    by_cases hb : R r / 2 ^ n % 2 = 0
    · rw [hb]
      refine zR_m 2 (pc' := 4) (lv' := [(2, .int (nI n + iZ (-1))), (0, .ref 20), (1, .int (nI r))]) rfl ?_
      rw [← iZ_nat, iZ_add]
      exact ih (by omega) (bit0_lt hR hb)
    · have h1 : R r / 2 ^ n % 2 = 1 := by have := Nat.mod_lt (R r / 2 ^ n) (show 2 > 0 by decide); omega
      rw [h1]
      refine zR_m 1 rfl ?_
      refine zR_q rfl rfl rfl rfl rfl ?_ rfl
      rw [nb_uniq (bit1_le hb) hR, ← iZ_nat, show (((n + 1 : Nat) : Int) - 1) = (n : Int) by omega]
theorem e_Mo_top {r : Nat} (hr : r < 5) (hR : Rok R) : zE L xs (d + 1) m_Mo_top [.ref 20, .int (nI r)] (mH C u a b K B E S M R) (.inl (some (.int (iZ ((nb (R r) : Int) - 1))))) (mH C u a b K B E S M R) := by
  refine ⟨0, Nat.zero_le _, ?_⟩
  refine zR_m 2 (pc' := 4) (lv' := [(2, .int (iZ (((512 : Nat) : Int) - 1))), (0, .ref 20), (1, .int (nI r))]) rfl ?_
  exact l_Mo_top hr 512 (Nat.le_refl _) (by have := hR r; rw [B2] at this; exact this)
end MO
