/-! the product of two rows -/
def tmS (D x y i j : Nat) : Nat := D % 65536 ^ (i + j) + dd x i * (y % 65536 ^ j) * 65536 ^ i
theorem tm_step (D x y i j : Nat) : tmS D x y i (j + 1) = tmS D x y i j + (dd D (i + j) + dd x i * dd y j) * 65536 ^ (i + j) := by
  unfold tmS
  rw [← Nat.add_assoc i j 1, mod_split, mod_split, Nat.mul_add, Nat.add_mul, Nat.add_mul, Nat.pow_add]
  have e : dd x i * (dd y j * 65536 ^ j) * 65536 ^ i = dd x i * dd y j * (65536 ^ i * 65536 ^ j) := by
    rw [← Nat.mul_assoc, Nat.mul_assoc, Nat.mul_comm (65536 ^ j)]
  rw [e]
  omega
theorem tm1 {T v l w : Nat} (hw : 0 < w) (e : T = l + v * w) (hl : l < w) : T % (w * 65536) = l + v % 65536 * w ∧ T / (w * 65536) = v / 65536 := by
  have h1 : v % 65536 + 65536 * (v / 65536) = v := Nat.mod_add_div v 65536
  have h2 := Nat.mod_lt v (show 65536 > 0 by decide)
  have e4 : T = (l + v % 65536 * w) + v / 65536 * (w * 65536) := by
    have : v * w = v % 65536 * w + v / 65536 * (w * 65536) := by
      conv => lhs; rw [← h1]
      rw [Nat.add_mul, Nat.mul_comm 65536, Nat.mul_assoc, Nat.mul_comm 65536 w]
    omega
  have hlt : l + v % 65536 * w < w * 65536 := by
    have : (v % 65536 + 1) * w ≤ 65536 * w := Nat.mul_le_mul_right _ h2
    rw [Nat.add_mul, Nat.one_mul] at this
    omega
  have hW : 0 < w * 65536 := by omega
  rw [e4]
  generalize w * 65536 = W at *
  exact ⟨by rw [Nat.add_mul_mod_self_right, Nat.mod_eq_of_lt hlt], by rw [Nat.add_mul_div_right _ _ hW, Nat.div_eq_of_lt hlt, Nat.zero_add]⟩
theorem tm_next (D x y i j : Nat) : let v := dd x i * dd y j + dd D (i + j) + tmS D x y i j / 65536 ^ (i + j)
    tmS D x y i (j + 1) % 65536 ^ (i + j + 1) = tmS D x y i j % 65536 ^ (i + j) + v % 65536 * 65536 ^ (i + j) ∧ tmS D x y i (j + 1) / 65536 ^ (i + j + 1) = v / 65536 := by
  intro v
  have hw := Bp (i + j)
  have e : tmS D x y i (j + 1) = tmS D x y i j % 65536 ^ (i + j) + v * 65536 ^ (i + j) := by
    rw [tm_step]
    have h1 := Nat.mod_add_div (tmS D x y i j) (65536 ^ (i + j))
    show _ = _ + (dd x i * dd y j + dd D (i + j) + tmS D x y i j / 65536 ^ (i + j)) * _
    rw [Nat.add_mul (dd x i * dd y j + dd D (i + j)), Nat.add_comm (dd x i * dd y j)]
    rw [Nat.mul_comm] at h1
    omega
  have h9 := tm1 hw e (Nat.mod_lt _ hw)
  rw [← Nat.pow_succ] at h9
  exact h9
theorem tm_c (D x y i : Nat) : ∀ j, tmS D x y i j / 65536 ^ (i + j) < 65536 := by
  intro j
  induction j with
  | zero =>
    unfold tmS
    rw [Nat.pow_zero, Nat.mod_one, Nat.mul_zero, Nat.zero_mul, Nat.add_zero, Nat.add_zero, Nat.div_eq_of_lt (Nat.mod_lt _ (Bp i))]
    decide
  | succ j ih =>
    have h := (tm_next D x y i j).2
    rw [← Nat.add_assoc, h]
    have d1 := dd_lt x i
    have d2 := dd_lt y j
    have d3 := dd_lt D (i + j)
    have : dd x i * dd y j ≤ 65535 * 65535 := Nat.mul_le_mul (by omega) (by omega)
    omega
theorem tm_end {D x y i : Nat} (hD : D = (x % 65536 ^ i) * y % 65536 ^ 32) (hi : i ≤ 32) : tmS D x y i (32 - i) % 65536 ^ 32 = (x % 65536 ^ (i + 1)) * y % 65536 ^ 32 := by
  unfold tmS
  rw [show i + (32 - i) = 32 by omega, hD, Nat.mod_mod, mod_split x i, Nat.add_mul]
  have e : dd x i * (y % 65536 ^ (32 - i)) * 65536 ^ i % 65536 ^ 32 = dd x i * 65536 ^ i * y % 65536 ^ 32 := by
    have e1 : 65536 ^ 32 = 65536 ^ (32 - i) * 65536 ^ i := by rw [← Nat.pow_add]; congr 1; omega
    have e2 : y = y % 65536 ^ (32 - i) + 65536 ^ (32 - i) * (y / 65536 ^ (32 - i)) := (Nat.mod_add_div _ _).symm
    have e3 : dd x i * 65536 ^ i * y = dd x i * (y % 65536 ^ (32 - i)) * 65536 ^ i + dd x i * (y / 65536 ^ (32 - i)) * 65536 ^ 32 := by
      rw [e1]
      conv => lhs; rw [e2]
      generalize y % 65536 ^ (32 - i) = m
      generalize y / 65536 ^ (32 - i) = q
      generalize 65536 ^ (32 - i) = w
      generalize 65536 ^ i = z
      generalize dd x i = t
      rw [Nat.mul_add]
      congr 1
      · rw [Nat.mul_assoc, Nat.mul_assoc, Nat.mul_comm z]
      · rw [Nat.mul_assoc, Nat.mul_assoc]
        congr 1
        rw [Nat.mul_comm w q, ← Nat.mul_assoc, Nat.mul_comm z q, Nat.mul_assoc, Nat.mul_comm z w]
    rw [e3, Nat.add_mul_mod_self_right]
  rw [Nat.add_mod, Nat.mod_mod, e, ← Nat.add_mod]
section MO
variable {L : Nat} {xs : Nat → Int32} {d : Nat} {mi : ZM} {pc : Nat} {lv : zL} {st st' : List Value} {h' : zH} {k k' : Nat} {o : zO} {pc' : Nat}
variable {C : Nat → zC} {u : zC} {a : Nat → Int32} {b : Nat → Int64} {K : Nat → Int32} {B : Nat → Bool} {E : Nat → Int32} {S M : Nat → Int64} {R : Nat → Nat}
theorem tm_v {x y z c : Nat} (hx : x < 65536) (hy : y < 65536) (hz : z < 65536) : (nI x).toInt64 * (nI y).toInt64 + (nI z).toInt64 + lN c = lN (x * y + z + c) := by
  rw [nI_l (by omega), nI_l (by omega), nI_l (by omega), lN_mul, lN_add, lN_add]
theorem tm_and {v : Nat} (h : v < 2 ^ 64) : (lN v &&& 65535).toInt32 = nI (v % 65536) := by
  rw [show (65535 : Int64) = lN (65536 - 1) from rfl, g_mask (s := 16) rfl (by decide) h, lN_i]
theorem ix3 (r i j : Nat) : (32 : Int32) * nI r + nI i + nI j = nI (32 * r + (i + j)) := by
  rw [ix, nI_add, Nat.add_assoc]
theorem ij_lt {i j : Nat} (h : i + j < 32) : ¬ (nI 32 ≤ nI j + nI i) := by
  rw [nI_add]
  exact nI_ge (by omega) (by decide)
set_option maxRecDepth 10000 in
/-- the inner loop -/
theorem l_Mo_times {p q c i X Y D : Nat} (hp : p < 5) (hq : q < 5) (hc : c < 5) (hpc : p ≠ c) (hqc : q ≠ c) (hi : i < 16) {R9 : Nat → Nat} {h9 : zH}
    (kk : ∀ R' : Nat → Nat, R' c = tmS D X Y i (32 - i) % 65536 ^ 32 → (∀ r, r ≠ c → R' r = R9 r) → zR L xs d m_Mo_times 115 [(4, .int (nI i)), (0, .ref 20), (1, .int (nI p)), (2, .int (nI q)), (3, .int (nI c))] [] (mH C u a b K B E S M R') 0 (.inl none) h9 0) (hD : D < 65536 ^ 32) (hX : R9 p = X) (hY : R9 q = Y) :
    ∀ (t : Nat) {j : Nat}, t + (i + j) = 32 → R c = mix (i + j) (tmS D X Y i j % 65536 ^ (i + j)) D → (∀ r, r ≠ c → R r = R9 r) →
    zR L xs d m_Mo_times 21 [(7, .int (nI j)), (5, .long (lN (tmS D X Y i j / 65536 ^ (i + j)))), (4, .int (nI i)), (0, .ref 20), (1, .int (nI p)), (2, .int (nI q)), (3, .int (nI c))] [] (mH C u a b K B E S M R) 0 (.inl none) h9 0 := by
  intro t
  induction t generalizing R with
  | zero =>
    intro j ht h1 h2
    obtain rfl : j = 32 - i := by omega
    rw [show i + (32 - i) = 32 by omega] at h1 ⊢
    unfold mix at h1
    rw [Nat.div_eq_of_lt hD, Nat.zero_mul, Nat.add_zero] at h1
    refine zR_m 5 (pc' := _) rfl ?_
    refine zR_if (fun _ => ?_) (fun h => absurd ?_ h)
    · refine zR_w (kk R h1 h2) rfl rfl ⟨rfl, rfl, rfl, rfl, rfl, trivial⟩
    · show nI 32 ≤ nI (32 - i) + nI i
      rw [nI_add]
      exact nI_le (by omega) (by omega)
  | succ t ih =>
    intro j ht h1 h2
    have hl : tmS D X Y i j % 65536 ^ (i + j) < 65536 ^ (i + j) := Nat.mod_lt _ (Bp _)
    obtain ⟨s1, s2⟩ := tm_next D X Y i j
    have hcy := tm_c D X Y i j
    have d1 := dd_lt X i
    have d2 := dd_lt Y j
    have d3 := dd_lt D (i + j)
    have hm : dd X i * dd Y j ≤ 65535 * 65535 := Nat.mul_le_mul (by omega) (by omega)
    refine zR_m 5 rfl ?_
    refine zR_if (fun h => absurd h (ij_lt (by omega))) (fun _ => ?_)
    refine zR_m 7 (pc' := 42) rfl ?_
    refine zD_get (r := p) (j := i) rfl (ix p i) hp (by omega) rfl ?_
    refine zR_m 8 (pc' := 55) rfl ?_
    refine zD_get (r := q) (j := j) rfl (ix q j) hq (by omega) rfl ?_
    refine zR_m 11 (pc' := 72) rfl ?_
    refine zD_get (r := c) (j := i + j) rfl (ix3 c i j) hc (by omega) rfl ?_
    rw [h2 p hpc, h2 q hqc, hX, hY, h1, dd_mix hl, if_neg (Nat.lt_irrefl _)]
    refine zR_m 4 (pc' := 78) (st' := [.long ((nI (dd X i)).toInt64 * (nI (dd Y j)).toInt64 + (nI (dd D (i + j))).toInt64 + lN (tmS D X Y i j / 65536 ^ (i + j)))]) rfl ?_
    rw [tm_v d1 d2 d3]
    generalize hv : dd X i * dd Y j + dd D (i + j) + tmS D X Y i j / 65536 ^ (i + j) = v at *
    refine zR_m 14 (pc' := 101) rfl ?_
    refine zD_put (r := c) (j := i + j) (v := v % 65536) (y := mix (i + j + 1) (tmS D X Y i (j + 1) % 65536 ^ (i + j + 1)) D) rfl (ix3 c i j) hc (by omega) (tm_and (by omega)) (fun e he => ?_) rfl ?_
    · rw [s1, mix_dd hl (Nat.mod_lt _ (by decide)), h1]
    · refine zR_m 3 (pc' := 107) (st' := [.long (lN v >>> ((nI 16).toInt64 &&& 63))]) rfl ?_
      rw [pf_shr (d := 16) (by decide) (by omega), show (2 : Nat) ^ 16 = 65536 from rfl, ← s2]
      refine zR_m 3 (pc' := 21) rfl ?_
      have h8 := ih (R := fu R c (mix (i + j + 1) (tmS D X Y i (j + 1) % 65536 ^ (i + j + 1)) D)) (j := j + 1) (by omega) (by rw [fu_s, Nat.add_assoc]) (fun r hr => by rw [fu_n hr]; exact h2 r hr)
      refine zR_w h8 rfl rfl ⟨?_, rfl, rfl, rfl, rfl, rfl, rfl, trivial⟩
      rw [nI_succ j]
      rfl
set_option maxRecDepth 10000 in
/-- the outer loop -/
theorem l_Mo_times2 {p q c X Y : Nat} (hp : p < 5) (hq : q < 5) (hc : c < 5) (hpc : p ≠ c) (hqc : q ≠ c) {R9 : Nat → Nat} (hX : R9 p = X) (hY : R9 q = Y) :
    ∀ (t : Nat) {i : Nat} {R : Nat → Nat}, t + i = 16 → R c = (X % 65536 ^ i) * Y % 65536 ^ 32 → (∀ r, r ≠ c → R r = R9 r) →
    zR L xs d m_Mo_times 8 [(4, .int (nI i)), (0, .ref 20), (1, .int (nI p)), (2, .int (nI q)), (3, .int (nI c))] [] (mH C u a b K B E S M R) 0 (.inl none) (mH C u a b K B E S M (fu R9 c ((X % 65536 ^ 16) * Y % 65536 ^ 32))) 0 := by
  intro t
  induction t with
  | zero =>
    intro i R ht h1 h2
    obtain rfl : i = 16 := by omega
    refine zR_m 3 (pc' := 121) rfl ?_
    refine zR_e rfl rfl rfl rfl rfl ?_
    congr 1
    funext r
    by_cases hr : r = c
    · rw [hr, fu_s, h1]
    · rw [fu_n hr, h2 r hr]
  | succ t ih =>
    intro i R ht h1 h2
    refine zR_m 3 rfl ?_
    refine zR_if (fun h => absurd h (nI_ge (a := i) (b := 16) (by omega) (by decide))) (fun _ => ?_)
    refine zR_m 4 (pc' := 21) rfl ?_
    have hD : R c < 65536 ^ 32 := by rw [h1]; exact Nat.mod_lt _ (Bp 32)
    have h8 := l_Mo_times (L := L) (xs := xs) (d := d) (C := C) (u := u) (a := a) (b := b) (K := K) (B := B) (E := E) (S := S) (M := M) (R := R) (R9 := R9) (h9 := mH C u a b K B E S M (fu R9 c ((X % 65536 ^ 16) * Y % 65536 ^ 32))) (D := R c) (X := X) (Y := Y) (i := i) hp hq hc hpc hqc (by omega) (fun R' e1 e2 => by
      refine zR_m 2 (pc' := 8) rfl ?_
      refine zR_w (ih (i := i + 1) (R := R') (by omega) (by rw [e1, tm_end h1 (by omega)]) e2) rfl rfl ⟨?_, rfl, rfl, rfl, rfl, trivial⟩
      rw [nI_succ i]
      rfl) hD hX hY (32 - i) (j := 0) (by omega) (by
        unfold mix tmS
        rw [Nat.pow_zero, Nat.mod_one, Nat.mul_zero, Nat.zero_mul, Nat.add_zero, Nat.add_zero, Nat.mod_mod, Nat.mul_comm]
        exact (Nat.mod_add_div _ _).symm) h2
    refine zR_w h8 rfl rfl ⟨rfl, ?_, rfl, rfl, rfl, rfl, rfl, trivial⟩
    show some (Value.long 0) = _
    unfold tmS
    rw [Nat.pow_zero, Nat.mod_one, Nat.mul_zero, Nat.zero_mul, Nat.add_zero, Nat.add_zero, Nat.div_eq_of_lt (Nat.mod_lt _ (Bp i))]
    rfl
theorem e_Mo_times {p q c : Nat} (hp : p < 5) (hq : q < 5) (hc : c < 5) (hpc : p ≠ c) (hqc : q ≠ c) (hR : Rok R) (hX : R p < 65536 ^ 16) : zE L xs (d + 1) m_Mo_times [.ref 20, .int (nI p), .int (nI q), .int (nI c)] (mH C u a b K B E S M R) (.inl none) (mH C u a b K B E S M (fu R c (R p * R q % 65536 ^ 32))) := by
  refine ⟨0, Nat.zero_le _, ?_⟩
  refine zR_m 2 rfl ?_
  refine zR_v rfl rfl rfl rfl rfl ⟨rfl, Nat.le_of_ble_eq_true rfl, Nat.le_of_ble_eq_true rfl⟩ rfl (Nat.le_refl _) (e_Mo_blank hc hR) rfl rfl ?_
  refine zR_m 2 (pc' := 8) rfl ?_
  have h8 := l_Mo_times2 (L := L) (xs := xs) (d := d + 1) (C := C) (u := u) (a := a) (b := b) (K := K) (B := B) (E := E) (S := S) (M := M) (R9 := R) (X := R p) (Y := R q) hp hq hc hpc hqc rfl rfl 16 (i := 0) (R := fu R c 0) (by omega) (by rw [fu_s, Nat.pow_zero, Nat.mod_one, Nat.zero_mul, Nat.zero_mod]) (fun r hr => fu_n hr)
  rw [Nat.mod_eq_of_lt hX] at h8
  exact zR_w h8 rfl rfl ⟨rfl, rfl, rfl, rfl, rfl, trivial⟩
end MO
