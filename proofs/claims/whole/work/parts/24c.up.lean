section UP
variable {L : Nat} {xs : Nat → Int32} {d : Nat} {mi : ZM} {pc : Nat} {lv : zL} {st st' : List Value} {h' : zH} {k k' : Nat} {o : zO} {pc' : Nat}
variable {C : Nat → zC} {u : zC} {a : Nat → Int32} {b : Nat → Int64} {K : Nat → Int32} {B : Nat → Bool} {E : Nat → Int32} {S M : Nat → Int64} {R : Nat → Nat} {V : Nat → RV}
theorem below_step (X j : Nat) : decide (X % 2 ^ (j + 1) ≠ 0) = (decide (X % 2 ^ j ≠ 0) || decide (X / 2 ^ j % 2 = 1)) := by
  have e : X % 2 ^ (j + 1) = X % 2 ^ j + 2 ^ j * (X / 2 ^ j % 2) := by rw [Nat.pow_succ, Nat.mod_mul]
  have hp : 0 < 2 ^ j := Nat.pow_pos (by decide)
  have h2 := Nat.mod_lt (X / 2 ^ j) (show 2 > 0 by decide)
  rw [e]
  generalize X % 2 ^ j = p at *
  generalize X / 2 ^ j % 2 = q at *
  generalize 2 ^ j = w at *
  rcases (show q = 0 ∨ q = 1 by omega) with rfl | rfl
  · simp
  · rw [Nat.mul_one, decide_eq_true (show p + w ≠ 0 by omega)]
    simp
theorem bit01 (X n : Nat) : X / 2 ^ n % 2 = 0 ∨ X / 2 ^ n % 2 = 1 := by
  have := Nat.mod_lt (X / 2 ^ n) (show 2 > 0 by decide)
  omega
set_option maxRecDepth 10000 in
theorem l_Mo_goesUp {n X : Nat} {mb half : Bool} {a9 : Nat → Int32} {r9 : Option Value} (hn : 1 ≤ n) (hn2 : n < 512) (hX : R 0 = X)
    (kk : zR L xs (d + 1) m_Mo_goesUp 61 [(4, .int (bI (decide (X % 2 ^ (n - 1) ≠ 0)))), (3, .int (bI half)), (0, .ref 20), (1, .int (nI n)), (2, .int (bI mb))] [] (mH C u a b K B E S M R) 0 (.inl r9) (mH C u a9 b K B E S M R) 0) : ∀ (t : Nat) {j : Nat}, t + j = n - 1 →
    zR L xs (d + 1) m_Mo_goesUp 24 [(5, .int (nI j)), (4, .int (bI (decide (X % 2 ^ j ≠ 0)))), (3, .int (bI half)), (0, .ref 20), (1, .int (nI n)), (2, .int (bI mb))] [] (mH C u a b K B E S M R) 0 (.inl r9) (mH C u a9 b K B E S M R) 0 := by
  have hn1 : nI n - 1 = nI (n - 1) := by
    obtain ⟨m, rfl⟩ : ∃ m, n = m + 1 := ⟨n - 1, by omega⟩
    exact nI_pred m
  intro t
  induction t with
  | zero =>
    intro j ht
    obtain rfl : j = n - 1 := by omega
    refine zR_m 4 (pc' := 29) (st' := [.int (nI n - 1), .int (nI (n - 1))]) rfl ?_
    rw [hn1]
    refine zR_m 1 rfl ?_
    refine zR_if (fun _ => ?_) (fun h => absurd (nI_le (Nat.le_refl _) (by omega)) h)
    exact zR_w kk rfl rfl ⟨rfl, rfl, rfl, rfl, rfl, trivial⟩
  | succ t ih =>
    intro j ht
    have h9 := ih (j := j + 1) (by omega)
    rw [below_step] at h9
    refine zR_m 4 (pc' := 29) (st' := [.int (nI n - 1), .int (nI j)]) rfl ?_
    rw [hn1]
    refine zR_m 1 rfl ?_
    refine zR_if (fun h => absurd h (nI_ge (a := j) (b := n - 1) (by omega) (by omega))) (fun _ => ?_)
    cases hb : decide (X % 2 ^ j ≠ 0) with
    | true =>
      rw [hb] at h9
      refine zR_m 7 (pc' := 24) rfl ?_
      refine zR_w h9 rfl rfl ⟨?_, rfl, rfl, rfl, rfl, rfl, trivial⟩
      rw [nI_succ j]
      rfl
    | false =>
      rw [hb] at h9
      refine zR_m 5 (pc' := 41) rfl ?_
      refine zR_v rfl rfl rfl rfl rfl ⟨rfl, Nat.le_of_ble_eq_true rfl, Nat.le_of_ble_eq_true rfl⟩ rfl (Nat.le_refl _) (e_Mo_bit (r := 0) (n := j) (by decide) (by omega)) rfl rfl ?_
      rw [hX]
      rcases bit01 X j with h1 | h1
      · rw [h1] at h9 ⊢
        refine zR_m 6 (pc' := 24) rfl ?_
        refine zR_w h9 rfl rfl ⟨?_, rfl, rfl, rfl, rfl, rfl, trivial⟩
        rw [nI_succ j]
        rfl
      · rw [h1] at h9 ⊢
        refine zR_m 7 (pc' := 24) rfl ?_
        refine zR_w h9 rfl rfl ⟨?_, rfl, rfl, rfl, rfl, rfl, trivial⟩
        rw [nI_succ j]
        rfl
/-- what goesUp answers, and whether it notes INEXACT -/
def gH (X n : Nat) : Bool := decide (X / 2 ^ (n - 1) % 2 = 1)
def gB (X n : Nat) : Bool := decide (X % 2 ^ (n - 1) ≠ 0)
def gO (X n : Nat) : Bool := decide (X / 2 ^ n % 2 = 1)
def nt (a : Nat → Int32) (x : Int32) : Nat → Int32 := fu a 5 (a 5 ||| x)
set_option maxRecDepth 10000 in
theorem t_Mo_goesUp {n X w : Nat} {mb half rest : Bool} (hn2 : n < 512) (hX : R 0 = X) (hw : a 2 = nI w) (hw4 : w < 4) :
    zR L xs (d + 1) m_Mo_goesUp 61 [(4, .int (bI rest)), (3, .int (bI half)), (0, .ref 20), (1, .int (nI n)), (2, .int (bI mb))] [] (mH C u a b K B E S M R) 0 (.inl (some (.int (bI (rUp w mb (gO X n) half rest))))) (mH C u (if half || rest then nt a 16 else a) b K B E S M R) 0 := by
  have ha : a = fu a 2 (nI w) := (fu_self hw).symm
  rw [ha]
  clear ha hw
  match w, hw4 with
  | 0, _ =>
    cases half with
    | false =>
      cases rest with
      | false => exact ⟨40, by rfl⟩
      | true => exact ⟨40, by rfl⟩
    | true =>
      cases rest with
      | false =>
        refine zR_m 18 (pc' := 102) (h1 := mH C u (nt (fu a 2 (nI 0)) 16) b K B E S M R) rfl ?_
        refine zR_v rfl rfl rfl rfl rfl ⟨rfl, Nat.le_of_ble_eq_true rfl, Nat.le_of_ble_eq_true rfl⟩ rfl (Nat.le_refl _) (e_Mo_bit (r := 0) (n := n) (by decide) hn2) rfl rfl ?_
        unfold gO
        rw [hX]
        rcases bit01 X n with h1 | h1
        · rw [h1]
          exact ⟨40, by rfl⟩
        · rw [h1]
          exact ⟨40, by rfl⟩
      | true => exact ⟨40, by rfl⟩
  | 1, _ => cases half <;> cases rest <;> cases mb <;> exact ⟨40, by rfl⟩
  | 2, _ => cases half <;> cases rest <;> cases mb <;> exact ⟨40, by rfl⟩
  | 3, _ => cases half <;> cases rest <;> cases mb <;> exact ⟨40, by rfl⟩
  | (m + 4), h => omega
set_option maxRecDepth 10000 in
theorem e_Mo_goesUp {n X w : Nat} {mb : Bool} (hn : 1 ≤ n) (hn2 : n < 512) (hX : R 0 = X) (hw : a 2 = nI w) (hw4 : w < 4) :
    zE L xs (d + 1) m_Mo_goesUp [.ref 20, .int (nI n), .int (bI mb)] (mH C u a b K B E S M R) (.inl (some (.int (bI (rUp w mb (gO X n) (gH X n) (gB X n)))))) (mH C u (if gH X n || gB X n then nt a 16 else a) b K B E S M R) := by
  have hn1 : nI n - 1 = nI (n - 1) := by
    obtain ⟨m, rfl⟩ : ∃ m, n = m + 1 := ⟨n - 1, by omega⟩
    exact nI_pred m
  refine ⟨0, Nat.zero_le _, ?_⟩
  refine zR_m 5 (pc' := 5) (st' := [.int (nI n - 1), .int (nI 0), .ref 20]) rfl ?_
  rw [hn1]
  refine zR_v rfl rfl rfl rfl rfl ⟨rfl, Nat.le_of_ble_eq_true rfl, Nat.le_of_ble_eq_true rfl⟩ rfl (Nat.le_refl _) (e_Mo_bit (r := 0) (n := n - 1) (by decide) (by omega)) rfl rfl ?_
  have h9 := l_Mo_goesUp (L := L) (xs := xs) (d := d) (C := C) (u := u) (b := b) (K := K) (B := B) (E := E) (S := S) (M := M) (half := gH X n) hn hn2 hX (t_Mo_goesUp (L := L) (xs := xs) (d := d) (C := C) (u := u) (b := b) (K := K) (B := B) (E := E) (S := S) (M := M) (mb := mb) (half := gH X n) (rest := decide (X % 2 ^ (n - 1) ≠ 0)) hn2 hX hw hw4) (n - 1) (j := 0) (by omega)
  rw [show decide (X % 2 ^ 0 ≠ 0) = false from by rw [Nat.pow_zero, Nat.mod_one]; rfl] at h9
  rw [hX]
  have hh : gH X n = decide (X / 2 ^ (n - 1) % 2 = 1) := rfl
  rcases bit01 X (n - 1) with h1 | h1
  · rw [h1]
    rw [show decide (X / 2 ^ (n - 1) % 2 = 1) = false from by rw [h1]; rfl] at hh
    refine zR_m 8 (pc' := 24) rfl ?_
    refine zR_w h9 rfl rfl ⟨rfl, rfl, ?_, rfl, rfl, rfl, trivial⟩
    rw [hh]
    rfl
  · rw [h1]
    rw [show decide (X / 2 ^ (n - 1) % 2 = 1) = true from by rw [h1]; rfl] at hh
    refine zR_m 9 (pc' := 24) rfl ?_
    refine zR_w h9 rfl rfl ⟨rfl, rfl, ?_, rfl, rfl, rfl, trivial⟩
    rw [hh]
    rfl
end UP
