/-! The reference's heap: twenty cells of the class (C), the model's fields (a, b), its arrays, the law's out -/
def mF (a : Nat → Int32) (b : Nat → Int64) : List Value := [.int (a 0), .int (a 1), .int (a 2), .int (a 3), .int (a 4), .int (a 5), .int (a 6), .int (a 7), .ref 21, .ref 22, .ref 23, .ref 24, .ref 25, .int (a 13), .int (a 14), .long (b 15), .long (b 16), .ref 26]
def nB (B : Nat → Bool) : Nat → Int32 := fun i => bI (B i)
def mH (C : Nat → zC) (o : zC) (a : Nat → Int32) (b : Nat → Int64) (K : Nat → Int32) (B : Nat → Bool) (E : Nat → Int32) (S M : Nat → Int64) (R : Nat → Nat) : zH :=
  [C 0, C 1, C 2, C 3, C 4, C 5, C 6, C 7, C 8, C 9, C 10, C 11, C 12, C 13, C 14, C 15, C 16, C 17, C 18, C 19, .inr (7, mF a b), .inl (0, 11, .inl K), .inl (2, 11, .inl (nB B)), .inl (0, 11, .inl E), .inl (1, 11, .inr (.inl S)), .inl (1, 8, .inr (.inl M)), .inl (0, 160, .inl (dg R)), o]
section MO
variable {L : Nat} {xs : Nat → Int32} {d : Nat} {mi : ZM} {pc : Nat} {lv : zL} {st st' : List Value} {h' : zH} {k k' : Nat} {o : zO} {pc' : Nat}
variable {C : Nat → zC} {u : zC} {a : Nat → Int32} {b : Nat → Int64} {K : Nat → Int32} {B : Nat → Bool} {E : Nat → Int32} {S M : Nat → Int64} {R : Nat → Nat}
theorem in_nI {n N : Nat} (h : n < N) (hN : N < 2 ^ 31) : 0 ≤ (nI n).toInt ∧ (nI n).toInt < (N : Int) := by
  rw [nI_toInt (by omega)]
  omega
theorem zD_get {x : Int32} {r j : Nat} (hf : zfetch mi pc = some (.iaload, 1)) (hx : x = nI (32 * r + j)) (hr : r < 5) (hj : j < 32) (hp : pc + 1 = pc') (hR : zR L xs d mi pc' lv (.int (nI (dd (R r) j)) :: st) (mH C u a b K B E S M R) k o h' k') : zR L xs d mi pc lv (.int x :: .ref 26 :: st) (mH C u a b K B E S M R) k o h' k' := by
  subst hx
  refine zR_ia hf rfl rfl (in_nI (by omega) (by decide)) ?_ hp hR
  rw [nI_clamp (by omega), dg_at R hj]
theorem zD_put {x w : Int32} {r j v y : Nat} (hf : zfetch mi pc = some (.iastore, 1)) (hx : x = nI (32 * r + j)) (hr : r < 5) (hj : j < 32) (hw : w = nI v) (hy : ∀ i, i < 32 → dd y i = if i = j then v else dd (R r) i) (hp : pc + 1 = pc') (hR : zR L xs d mi pc' lv st (mH C u a b K B E S M (fu R r y)) k o h' k') : zR L xs d mi pc lv (.int w :: .int x :: .ref 26 :: st) (mH C u a b K B E S M R) k o h' k' := by
  subst hx
  subst hw
  refine zR_is hf rfl (in_nI (by omega) (by decide)) hp ?_
  rw [nI_clamp (by omega), dg_up hj hy]
  exact hR
theorem ix (r j : Nat) : (32 : Int32) * nI r + nI j = nI (32 * r + j) := by
  rw [← nI_add, ← pk_mul]
  rfl
theorem ic_ge {n m : Nat} (h : n < m) (hm : m < 2 ^ 31) : ¬ (nI m ≤ nI n) := nI_ge h hm
set_option maxRecDepth 10000 in
theorem l_Mo_blank {r : Nat} (hr : r < 5) : ∀ (n : Nat) {j x : Nat}, n + j = 32 → x < 65536 ^ 32 → R r = x / 65536 ^ j * 65536 ^ j → zR L xs d m_Mo_blank 2 [(2, .int (nI j)), (0, .ref 20), (1, .int (nI r))] [] (mH C u a b K B E S M R) 0 (.inl none) (mH C u a b K B E S M (fu R r 0)) 0 := by
  intro n
  induction n generalizing R with
  | zero =>
    intro j x hn hx hR
    obtain rfl : j = 32 := by omega
    rw [Nat.div_eq_of_lt hx, Nat.zero_mul] at hR
    refine zR_m 3 (pc' := 26) (lv' := [(2, .int (nI 32)), (0, .ref 20), (1, .int (nI r))]) (st' := []) rfl ?_
    exact zR_e rfl rfl rfl rfl rfl (by rw [fu_self hR])
  | succ n ih =>
    intro j x hn hx hR
    refine zR_m 3 rfl ?_
    refine zR_if (fun h => absurd h (nI_ge (a := j) (b := 32) (by omega) (by decide))) (fun _ => ?_)
    refine zR_m 8 rfl ?_
    refine zD_put (y := x / 65536 ^ (j + 1) * 65536 ^ (j + 1)) rfl (ix r j) hr (by omega) rfl (fun i hi => ?_) rfl ?_
    · by_cases h : i < j + 1
      · rw [dd_high0 _ h]
        by_cases h2 : i = j
        · rw [if_pos h2]
        · rw [if_neg h2, hR, dd_high0 _ (by omega)]
      · rw [dd_high _ (by omega), if_neg (by omega), hR, dd_high _ (by omega)]
    · refine zR_m 2 (pc' := 2) (lv' := [(2, .int (nI (j + 1))), (0, .ref 20), (1, .int (nI r))]) (by rw [nI_succ]; rfl) ?_
      have h9 := ih (R := fu R r (x / 65536 ^ (j + 1) * 65536 ^ (j + 1))) (j := j + 1) (x := x) (by omega) hx fu_s
      rw [fu_fu] at h9
      exact h9
theorem e_Mo_blank {r : Nat} (hr : r < 5) (hR : Rok R) : zE L xs d m_Mo_blank [.ref 20, .int (nI r)] (mH C u a b K B E S M R) (.inl none) (mH C u a b K B E S M (fu R r 0)) := by
  refine ⟨0, Nat.zero_le _, ?_⟩
  refine zR_m 2 (pc' := 2) (lv' := [(2, .int (nI 0)), (0, .ref 20), (1, .int (nI r))]) rfl ?_
  exact l_Mo_blank hr 32 (j := 0) (x := R r) (by omega) (hR r) (by simp)
end MO
