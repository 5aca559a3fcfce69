/-! adding and subtracting rows -/
theorem iZ_and16 {v : Int} : iZ v &&& 65535 = nI (v % 65536).toNat := by
  rw [pk_and (iZ v) (m := 65535) 16 rfl]
  congr 1
  show (BitVec.ofInt 32 v).toNat % 2 ^ 16 = _
  rw [BitVec.toNat_ofInt]
  omega
theorem iZ_shr16 {v : Int} (h1 : -2147483648 ≤ v) (h2 : v < 2147483648) : iZ v >>> ((16 : Int32) &&& 31) = iZ (v / 65536) := by
  have h := pk_shr (iZ v) ((16 : Int32) &&& 31) 16 rfl
  rw [iZ_toInt h1 h2, Int.shiftRight_eq_div_pow] at h
  rw [iZ_of (iZ v >>> ((16 : Int32) &&& 31)), h]
  rfl
theorem dd_div (x k i : Nat) : dd (x / 65536 ^ k) i = dd x (k + i) := by
  unfold dd
  rw [Nat.div_div_eq_div_mul, ← Nat.pow_add]
theorem dd_0 {v : Nat} (h : v < 65536) : dd v 0 = v := by
  unfold dd
  rw [Nat.pow_zero, Nat.div_one, Nat.mod_eq_of_lt h]
/-- the digits below k are of y, those from k on of x -/
def mix (k y x : Nat) : Nat := y + x / 65536 ^ k * 65536 ^ k
theorem dd_mix {k y x : Nat} (hy : y < 65536 ^ k) (j : Nat) : dd (mix k y x) j = if j < k then dd y j else dd x j := by
  unfold mix
  rw [dd_join hy]
  split
  · rfl
  · rw [dd_div]; congr 1; omega
theorem mix_lt {k y x : Nat} (hk : k ≤ 32) (hy : y < 65536 ^ k) (hx : x < 65536 ^ 32) : mix k y x < 65536 ^ 32 := by
  unfold mix
  have e : 65536 ^ 32 = 65536 ^ (32 - k) * 65536 ^ k := by rw [← Nat.pow_add]; congr 1; omega
  have h1 : x / 65536 ^ k < 65536 ^ (32 - k) := Nat.div_lt_of_lt_mul (by rw [Nat.mul_comm, ← e]; exact hx)
  have h2 : (x / 65536 ^ k + 1) * 65536 ^ k ≤ 65536 ^ (32 - k) * 65536 ^ k := Nat.mul_le_mul_right _ h1
  rw [Nat.add_mul, Nat.one_mul] at h2
  rw [e]
  omega
/-- one more digit -/
theorem mix_dd {k y x v : Nat} (hy : y < 65536 ^ k) (hv : v < 65536) (i : Nat) : dd (mix (k + 1) (y + v * 65536 ^ k) x) i = if i = k then v else dd (mix k y x) i := by
  have h1 : y + v * 65536 ^ k < 65536 ^ (k + 1) := by
    have : (v + 1) * 65536 ^ k ≤ 65536 * 65536 ^ k := Nat.mul_le_mul_right _ hv
    rw [Nat.add_mul, Nat.one_mul] at this
    rw [Nat.pow_succ, Nat.mul_comm (65536 ^ k)]
    omega
  rw [dd_mix h1, dd_mix hy]
  by_cases h : i = k
  · rw [if_pos h, if_pos (by omega), dd_join hy, if_neg (by omega), h, Nat.sub_self, dd_0 hv]
  · rw [if_neg h]
    by_cases h2 : i < k
    · rw [if_pos (by omega), if_pos h2, dd_join hy, if_pos h2]
    · rw [if_neg (by omega), if_neg h2]
/-- what stands below digit k -/
def adT (s : Int) (x y k : Nat) : Int := (x % 65536 ^ k : Nat) + s * (y % 65536 ^ k : Nat)
def adL (s : Int) (x y k : Nat) : Nat := (adT s x y k % (65536 ^ k : Nat)).toNat
def adC (s : Int) (x y k : Nat) : Int := adT s x y k / (65536 ^ k : Nat)
theorem adL_lt (s : Int) (x y k : Nat) : adL s x y k < 65536 ^ k := by
  have := Bp k
  have h1 := Int.emod_lt_of_pos (adT s x y k) (b := (65536 ^ k : Nat)) (by omega)
  have h2 := Int.emod_nonneg (adT s x y k) (b := (65536 ^ k : Nat)) (by omega)
  unfold adL
  omega
theorem adC_rng {s : Int} (hs : s = 1 ∨ s = -1) (x y k : Nat) : -1 ≤ adC s x y k ∧ adC s x y k ≤ 1 := by
  have hp := Bp k
  have h1 : x % 65536 ^ k < 65536 ^ k := Nat.mod_lt _ hp
  have h2 : y % 65536 ^ k < 65536 ^ k := Nat.mod_lt _ hp
  unfold adC adT
  generalize x % 65536 ^ k = p at *
  generalize y % 65536 ^ k = q at *
  generalize 65536 ^ k = w at *
  constructor
  · rw [Int.le_ediv_iff_mul_le (by omega)]
    rcases hs with rfl | rfl <;> omega
  · have : ((p : Int) + s * q) / (w : Int) < 2 := by
      rw [Int.ediv_lt_iff_lt_mul (by omega)]
      rcases hs with rfl | rfl <;> omega
    omega
theorem ad1 {T v : Int} {l w : Nat} (hl : l < w) (e : T = (l : Int) + v * (w : Int)) : (T % ((w * 65536 : Nat) : Int)).toNat = l + (v % 65536).toNat * w ∧ T / ((w * 65536 : Nat) : Int) = v / 65536 := by
  have hv1 := Int.emod_nonneg v (b := 65536) (by decide)
  have hv2 := Int.emod_lt_of_pos v (b := 65536) (by decide)
  have hv3 := Int.emod_add_mul_ediv v 65536
  obtain ⟨r, hr⟩ := Int.eq_ofNat_of_zero_le hv1
  rw [hr] at hv2 hv3 ⊢
  generalize v / 65536 = m at *
  have e4 : T = ((l + r * w : Nat) : Int) + m * ((w * 65536 : Nat) : Int) := by
    rw [e, ← hv3, Int.natCast_add, Int.natCast_mul, Int.natCast_mul, Int.add_mul, Int.mul_comm 65536 m, Int.mul_assoc, Int.mul_comm 65536 (w : Int)]
    exact (Int.add_assoc _ _ _).symm
  have hlt : l + r * w < w * 65536 := by
    have : (r + 1) * w ≤ 65536 * w := Nat.mul_le_mul_right _ (by omega)
    rw [Nat.add_mul, Nat.one_mul] at this
    omega
  rw [e4]
  generalize w * 65536 = W at *
  have hy : ((r : Int)).toNat = r := rfl
  rw [hy]
  generalize l + r * w = y at *
  constructor
  · rw [Int.add_mul_emod_self_right, Int.emod_eq_of_lt (by omega) (by omega)]
    rfl
  · rw [Int.add_mul_ediv_right _ _ (by omega), Int.ediv_eq_zero_of_lt (by omega) (by omega)]
    omega
theorem ad2 {A D p q w : Nat} {s : Int} : ((A + p * w : Nat) : Int) + s * ((D + q * w : Nat) : Int) = ((A : Int) + s * (D : Int)) + ((p : Int) + s * (q : Int)) * (w : Int) := by
  rw [Int.natCast_add, Int.natCast_add, Int.natCast_mul, Int.natCast_mul, Int.mul_add, Int.add_mul, Int.mul_assoc]
  generalize s * ((q : Int) * (w : Int)) = x
  generalize (p : Int) * (w : Int) = y
  omega
theorem ad_step (s : Int) (x y k : Nat) : adL s x y (k + 1) = adL s x y k + (((dd x k : Int) + s * dd y k + adC s x y k) % 65536).toNat * 65536 ^ k ∧ adC s x y (k + 1) = ((dd x k : Int) + s * dd y k + adC s x y k) / 65536 := by
  have hp := Bp k
  have hl := adL_lt s x y k
  have e2 : adT s x y k = (adL s x y k : Int) + adC s x y k * (65536 ^ k : Nat) := by
    have h1 := Int.emod_nonneg (adT s x y k) (b := (65536 ^ k : Nat)) (by omega)
    have h2 := Int.emod_add_mul_ediv (adT s x y k) (65536 ^ k : Nat)
    unfold adL adC
    rw [Int.mul_comm] at h2
    omega
  have e3 : adT s x y (k + 1) = (adL s x y k : Int) + ((dd x k : Int) + s * dd y k + adC s x y k) * (65536 ^ k : Nat) := by
    have e : adT s x y (k + 1) = adT s x y k + ((dd x k : Int) + s * dd y k) * (65536 ^ k : Nat) := by
      unfold adT
      rw [mod_split, mod_split]
      exact ad2
    rw [e, e2, Int.add_mul ((dd x k : Int) + s * dd y k)]
    generalize ((dd x k : Int) + s * dd y k) * (65536 ^ k : Nat) = z1
    generalize adC s x y k * (65536 ^ k : Nat) = z2
    omega
  have h9 := ad1 hl e3
  rw [← Nat.pow_succ] at h9
  exact h9
section MO
variable {L : Nat} {xs : Nat → Int32} {d : Nat} {mi : ZM} {pc : Nat} {lv : zL} {st st' : List Value} {h' : zH} {k k' : Nat} {o : zO} {pc' : Nat}
variable {C : Nat → zC} {u : zC} {a : Nat → Int32} {b : Nat → Int64} {K : Nat → Int32} {B : Nat → Bool} {E : Nat → Int32} {S M : Nat → Int64} {R : Nat → Nat}
set_option maxRecDepth 10000 in
theorem l_Mo_add {p q X Y : Nat} {s : Int} (hs : s = 1 ∨ s = -1) (hp : p < 5) (hq : q < 5) (hpq : q ≠ p) (hX : X < 65536 ^ 32) : ∀ (t : Nat) {j : Nat}, t + j = 32 → R p = mix j (adL s X Y j) X → R q = Y →
    zR L xs d m_Mo_add 6 [(5, .int (nI j)), (4, .int (iZ (adC s X Y j))), (0, .ref 20), (1, .int (nI p)), (2, .int (nI q)), (3, .int (iZ s))] [] (mH C u a b K B E S M R) 0 (.inl none) (mH C u a b K B E S M (fu R p (adL s X Y 32))) 0 := by
  intro t
  induction t generalizing R with
  | zero =>
    intro j ht h1 h2
    obtain rfl : j = 32 := by omega
    unfold mix at h1
    rw [Nat.div_eq_of_lt hX, Nat.zero_mul, Nat.add_zero] at h1
    refine zR_m 3 (pc' := 75) rfl ?_
    exact zR_e rfl rfl rfl rfl rfl (by rw [fu_self h1])
  | succ t ih =>
    intro j ht h1 h2
    have hl := adL_lt s X Y j
    obtain ⟨s1, s2⟩ := ad_step s X Y j
    have hc := adC_rng hs X Y j
    have d1 := dd_lt X j
    have d2 := dd_lt Y j
    refine zR_m 3 rfl ?_
    refine zR_if (fun h => absurd h (nI_ge (a := j) (b := 32) (by omega) (by decide))) (fun _ => ?_)
    refine zR_m 7 (pc' := 24) rfl ?_
    refine zD_get (r := p) (j := j) rfl (ix p j) hp (by omega) rfl ?_
    refine zR_m 8 (pc' := 37) rfl ?_
    refine zD_get (r := q) (j := j) rfl (ix q j) hq (by omega) rfl ?_
    rw [h1, dd_mix hl, if_neg (Nat.lt_irrefl _), h2]
    refine zR_m 4 (pc' := 43) (st' := [.int (nI (dd X j) + iZ s * nI (dd Y j) + iZ (adC s X Y j))]) rfl ?_
    rw [show nI (dd X j) + iZ s * nI (dd Y j) + iZ (adC s X Y j) = iZ ((dd X j : Int) + s * dd Y j + adC s X Y j) from by rw [← iZ_nat, ← iZ_nat, iZ_mul, iZ_add, iZ_add]]
    have hv : -200000 ≤ (dd X j : Int) + s * dd Y j + adC s X Y j ∧ (dd X j : Int) + s * dd Y j + adC s X Y j ≤ 200000 := by
      rcases hs with rfl | rfl <;> omega
    generalize (dd X j : Int) + s * dd Y j + adC s X Y j = v at *
    refine zR_m 11 (pc' := 61) rfl ?_
    refine zD_put (r := p) (j := j) (v := (v % 65536).toNat) (y := mix (j + 1) (adL s X Y (j + 1)) X) rfl (ix p j) hp (by omega) iZ_and16 (fun i hi => ?_) rfl ?_
    · rw [s1, mix_dd hl (by omega), h1]
    · refine zR_m 3 (pc' := 67) (st' := [.int (iZ v >>> ((16 : Int32) &&& 31))]) rfl ?_
      rw [iZ_shr16 (by omega) (by omega), ← s2]
      refine zR_m 3 (pc' := 6) rfl ?_
      have h9 := ih (R := fu R p (mix (j + 1) (adL s X Y (j + 1)) X)) (j := j + 1) (by omega) fu_s (by rw [fu_n hpq]; exact h2)
      rw [fu_fu] at h9
      refine zR_w h9 rfl rfl ⟨?_, rfl, rfl, rfl, rfl, rfl, trivial⟩
      rw [nI_succ j]
      rfl
theorem e_Mo_add {p q : Nat} {s : Int} (hs : s = 1 ∨ s = -1) (hp : p < 5) (hq : q < 5) (hpq : q ≠ p) (hR : Rok R) : zE L xs d m_Mo_add [.ref 20, .int (nI p), .int (nI q), .int (iZ s)] (mH C u a b K B E S M R) (.inl none) (mH C u a b K B E S M (fu R p (adL s (R p) (R q) 32))) := by
  refine ⟨0, Nat.zero_le _, ?_⟩
  refine zR_m 4 (pc' := 6) rfl ?_
  refine zR_w (l_Mo_add (X := R p) (Y := R q) hs hp hq hpq (hR p) 32 (j := 0) (by omega) ?_ rfl) rfl rfl ⟨rfl, ?_, rfl, rfl, rfl, rfl, trivial⟩
  · unfold mix adL adT
    simp [Nat.mod_one]
  · show some (Value.int 0) = _
    unfold adC adT
    simp [Nat.mod_one]
    rfl
theorem adL_add {x y : Nat} (h : x + y < 65536 ^ 32) : adL 1 x y 32 = x + y := by
  unfold adL adT
  rw [Nat.mod_eq_of_lt (show x < 65536 ^ 32 by omega), Nat.mod_eq_of_lt (show y < 65536 ^ 32 by omega)]
  generalize 65536 ^ 32 = W at *
  rw [Int.emod_eq_of_lt (by omega) (by omega)]
  omega
theorem adL_sub {x y : Nat} (hx : x < 65536 ^ 32) (h : y ≤ x) : adL (-1) x y 32 = x - y := by
  unfold adL adT
  rw [Nat.mod_eq_of_lt hx, Nat.mod_eq_of_lt (show y < 65536 ^ 32 by omega)]
  generalize 65536 ^ 32 = W at *
  rw [Int.emod_eq_of_lt (by omega) (by omega)]
  omega
end MO
