/-! Function updates; a row of digits as a number -/
def fu {α : Type} (f : Nat → α) (k : Nat) (x : α) : Nat → α := fun j => if j = k then x else f j
section FU
variable {α : Type} {f : Nat → α} {k j : Nat} {x y : α}
theorem fu_s : fu f k x k = x := if_pos rfl
theorem fu_n (h : j ≠ k) : fu f k x j = f j := if_neg h
theorem fu_fu : fu (fu f k x) k y = fu f k y := by
  funext i
  unfold fu
  split <;> rfl
theorem fu_self (h : f k = x) : fu f k x = f := by
  funext i
  unfold fu
  split
  · rename_i hi; rw [hi, h]
  · rfl
theorem fu_comm (h : j ≠ k) : fu (fu f j x) k y = fu (fu f k y) j x := by
  funext i
  unfold fu
  split
  · rename_i hi; rw [if_neg (by omega)]
  · rfl
end FU
def dd (x j : Nat) : Nat := x / 65536 ^ j % 65536
theorem dd_lt (x j : Nat) : dd x j < 65536 := Nat.mod_lt _ (by decide)
theorem Bp (k : Nat) : 0 < 65536 ^ k := Nat.pow_pos (by decide)
theorem B2 (k : Nat) : 65536 ^ k = 2 ^ (16 * k) := by rw [Nat.pow_mul]
theorem dd_low (x : Nat) {j k : Nat} (h : j < k) : dd (x % 65536 ^ k) j = dd x j := by
  unfold dd
  have e : 65536 ^ k = 65536 ^ j * 65536 ^ (k - j) := by rw [← Nat.pow_add]; congr 1; omega
  rw [e, Nat.mod_mul_right_div_self]
  exact Nat.mod_mod_of_dvd _ ⟨65536 ^ (k - j - 1), by rw [← Nat.pow_succ']; congr 1; omega⟩
theorem dd_small {x j k : Nat} (hx : x < 65536 ^ k) (h : k ≤ j) : dd x j = 0 := by
  unfold dd
  rw [Nat.div_eq_of_lt (Nat.lt_of_lt_of_le hx (Nat.pow_le_pow_right (by decide) h))]
theorem dd_low0 (x : Nat) {j k : Nat} (h : k ≤ j) : dd (x % 65536 ^ k) j = 0 := dd_small (Nat.mod_lt _ (Bp k)) h
theorem dd_high0 (x : Nat) {j k : Nat} (h : j < k) : dd (x * 65536 ^ k) j = 0 := by
  unfold dd
  have e : 65536 ^ k = 65536 ^ (k - j) * 65536 ^ j := by rw [← Nat.pow_add]; congr 1; omega
  rw [e, ← Nat.mul_assoc, Nat.mul_div_cancel _ (Bp j)]
  have e2 : 65536 ^ (k - j) = 65536 ^ (k - j - 1) * 65536 := by rw [← Nat.pow_succ]; congr 1; omega
  rw [e2, ← Nat.mul_assoc]
  exact Nat.mul_mod_left _ _
theorem dd_high (x : Nat) {j k : Nat} (h : k ≤ j) : dd (x / 65536 ^ k * 65536 ^ k) j = dd x j := by
  unfold dd
  have e : 65536 ^ j = 65536 ^ k * 65536 ^ (j - k) := by rw [← Nat.pow_add]; congr 1; omega
  rw [e, ← Nat.div_div_eq_div_mul, ← Nat.div_div_eq_div_mul, Nat.mul_div_cancel _ (Bp k)]
/-- low part and high part put together -/
theorem dd_join {a b k : Nat} (ha : a < 65536 ^ k) (j : Nat) : dd (a + b * 65536 ^ k) j = if j < k then dd a j else dd b (j - k) := by
  split
  · rename_i h
    rw [← dd_low (a + b * 65536 ^ k) h, Nat.add_mul_mod_self_right, Nat.mod_eq_of_lt ha]
  · rename_i h
    unfold dd
    have e : 65536 ^ j = 65536 ^ k * 65536 ^ (j - k) := by rw [← Nat.pow_add]; congr 1; omega
    rw [e, ← Nat.div_div_eq_div_mul, Nat.add_mul_div_right _ _ (Bp k), Nat.div_eq_of_lt ha, Nat.zero_add]
theorem dd_ext {x y : Nat} : ∀ {k : Nat}, x < 65536 ^ k → y < 65536 ^ k → (∀ j, j < k → dd x j = dd y j) → x = y := by
  intro k
  induction k generalizing x y with
  | zero => intro hx hy _; simp at hx hy; omega
  | succ k ih =>
    intro hx hy h
    have h0 := h 0 (by omega)
    simp only [dd, Nat.pow_zero, Nat.div_one] at h0
    have h1 : x / 65536 = y / 65536 := ih (by rw [Nat.pow_succ] at hx; exact Nat.div_lt_of_lt_mul (by omega)) (by rw [Nat.pow_succ] at hy; exact Nat.div_lt_of_lt_mul (by omega)) (fun j hj => by
      have := h (j + 1) (by omega)
      simp only [dd, Nat.pow_succ'] at this
      rw [← Nat.div_div_eq_div_mul, ← Nat.div_div_eq_div_mul] at this
      exact this)
    omega
theorem dd_testBit (x j i : Nat) (hi : i < 16) : (dd x j).testBit i = x.testBit (16 * j + i) := by
  unfold dd
  rw [show 65536 = 2 ^ 16 from rfl, Nat.testBit_mod_two_pow, ← Nat.pow_mul, Nat.testBit_div_two_pow]
  simp [hi, Nat.add_comm]
theorem mod_split (x k : Nat) : x % 65536 ^ (k + 1) = x % 65536 ^ k + dd x k * 65536 ^ k := by
  unfold dd
  rw [Nat.pow_succ, Nat.mod_mul, Nat.mul_comm (65536 ^ k)]
def dg (R : Nat → Nat) : Nat → Int32 := fun i => nI (dd (R (i / 32)) (i % 32))
theorem dg_at (R : Nat → Nat) {r k : Nat} (hk : k < 32) : dg R (32 * r + k) = nI (dd (R r) k) := by
  unfold dg
  rw [show (32 * r + k) / 32 = r by omega, show (32 * r + k) % 32 = k by omega]
theorem dg_up {R : Nat → Nat} {r k v y : Nat} (hk : k < 32) (hy : ∀ j, j < 32 → dd y j = if j = k then v else dd (R r) j) : upd (dg R) (32 * r + k) (nI v) = dg (fu R r y) := by
  funext i
  unfold upd dg fu
  by_cases h1 : i / 32 = r
  · rw [if_pos h1, hy _ (Nat.mod_lt _ (by decide))]
    by_cases h2 : i % 32 = k
    · rw [if_pos h2, if_pos (by omega)]
    · rw [if_neg h2, if_neg (by omega), h1]
  · rw [if_neg h1, if_neg (by omega)]
theorem dg_0 : dg (fun _ => 0) = fun _ => 0 := by
  funext i
  show nI (dd 0 _) = 0
  unfold dd
  rw [Nat.zero_div]
  rfl
/-- all digits within bounds -/
def Rok (R : Nat → Nat) : Prop := ∀ r, R r < 65536 ^ 32
theorem Rok.fu {R : Nat → Nat} {r y : Nat} (h : Rok R) (hy : y < 65536 ^ 32) : Rok (fu R r y) := fun i => by
  show (if i = r then y else R i) < _
  split
  · exact hy
  · exact h i
/-! ints that may be negative -/
def iZ (z : Int) : Int32 := Int32.ofInt z
theorem iZ_nat (n : Nat) : iZ (n : Int) = nI n := Int32.ofInt_eq_ofNat
theorem iZ_add (x y : Int) : iZ x + iZ y = iZ (x + y) := (Int32.ofInt_add x y).symm
theorem iZ_sub (x y : Int) : iZ x - iZ y = iZ (x - y) := (Int32.ofInt_sub x y).symm
theorem iZ_mul (x y : Int) : iZ x * iZ y = iZ (x * y) := (Int32.ofInt_mul x y).symm
theorem iZ_neg (x : Int) : - iZ x = iZ (-x) := (Int32.ofInt_neg x).symm
theorem iZ_toInt {z : Int} (h1 : -2147483648 ≤ z) (h2 : z < 2147483648) : (iZ z).toInt = z := by
  show (Int32.ofInt z).toInt = z
  rw [Int32.toInt_ofInt]
  exact Int.bmod_eq_of_le (by show -(4294967296 / 2 : Int) ≤ z; omega) (by show z < (4294967296 + 1) / 2; omega)
theorem iZ_of (x : Int32) : x = iZ x.toInt := (Int32.ofInt_toInt x).symm
theorem iZ_rng (x : Int32) : -2147483648 ≤ x.toInt ∧ x.toInt < 2147483648 := ⟨Int32.le_toInt x, Int32.toInt_lt x⟩
section IZ
variable {x y : Int} (h1 : -2147483648 ≤ x) (h2 : x < 2147483648) (h3 : -2147483648 ≤ y) (h4 : y < 2147483648)
theorem iZ_lt {x y : Int} (h1 : -2147483648 ≤ x ∧ x < 2147483648) (h3 : -2147483648 ≤ y ∧ y < 2147483648) : iZ x < iZ y ↔ x < y := by
  rw [Int32.lt_iff_toInt_lt, iZ_toInt h1.1 h1.2, iZ_toInt h3.1 h3.2]
theorem iZ_le {x y : Int} (h1 : -2147483648 ≤ x ∧ x < 2147483648) (h3 : -2147483648 ≤ y ∧ y < 2147483648) : iZ x ≤ iZ y ↔ x ≤ y := by
  rw [Int32.le_iff_toInt_le, iZ_toInt h1.1 h1.2, iZ_toInt h3.1 h3.2]
theorem iZ_eq {x y : Int} (h1 : -2147483648 ≤ x ∧ x < 2147483648) (h3 : -2147483648 ≤ y ∧ y < 2147483648) : iZ x = iZ y ↔ x = y := by
  rw [← Int32.toInt_inj, iZ_toInt h1.1 h1.2, iZ_toInt h3.1 h3.2]
end IZ
