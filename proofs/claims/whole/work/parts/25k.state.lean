/-! the reference's state: flags, throws, time -/
def thB (a : Nat → Int32) : Bool := decide (a 5 &&& (a 3 ^^^ (-1)) ≠ 0)
def thA (a : Nat → Int32) : Nat → Int32 := fu (fu a 4 (a 4 ||| a 5)) 0 (if thB a then 2 else 0)
/-- time goes on by n ticks; busy still B -/
def goA (a : Nat → Int32) (B n : Nat) : Nat → Int32 := if B = 0 then a else if B ≤ n ∧ 0 ≤ a 14 then fu (fu a 13 0) 14 (-1) else fu a 13 (nI (B - n))
def goM (a : Nat → Int32) (b : Nat → Int64) (M : Nat → Int64) (B n : Nat) : Nat → Int64 := if B ≠ 0 ∧ B ≤ n ∧ 0 ≤ a 14 then fu M (a 14).toNatClampNeg (b 15) else M
def goB (b : Nat → Int64) (n : Nat) : Nat → Int64 := fu b 16 (b 16 + lN n)
section ST
variable {L : Nat} {xs : Nat → Int32} {d : Nat} {mi : ZM} {pc : Nat} {lv : zL} {st st' : List Value} {h' : zH} {k k' : Nat} {o : zO} {pc' : Nat}
variable {C : Nat → zC} {u : zC} {a : Nat → Int32} {b : Nat → Int64} {M : Nat → Int64} {R : Nat → Nat} {V : Nat → RV}
set_option maxRecDepth 10000 in
theorem e_Mo_throwing : zE L xs d m_Mo_throwing [.ref 20] (mV C u a b V M R) (.inl (some (.int (bI (thB a))))) (mV C u (thA a) b V M R) := by
  refine ⟨0, Nat.zero_le _, ?_⟩
  refine zR_to 25 (st' := [.int (a 5 &&& (a 3 ^^^ (-1))), .ref 20]) (h1 := mV C u (fu a 4 (a 4 ||| a 5)) b V M R) rfl ?_
  unfold thA
  refine zR_m 1 rfl ?_
  refine zR_if (fun h => ?_) (fun h => ?_)
  · have h1 : thB a = false := decide_eq_false (fun h9 => h9 h)
    rw [h1]
    refine zR_to 48 (st' := [.int (bI false)]) (h1 := mV C u (fu (fu a 4 (a 4 ||| a 5)) 0 0) b V M R) rfl ?_
    exact zR_e rfl rfl rfl rfl rfl rfl
  · have h1 : thB a = true := decide_eq_true h
    rw [h1]
    refine zR_to 48 (st' := [.int (bI true)]) (h1 := mV C u (fu (fu a 4 (a 4 ||| a 5)) 0 2) b V M R) rfl ?_
    exact zR_e rfl rfl rfl rfl rfl rfl
set_option maxRecDepth 10000 in
theorem e_Mo_refuse : zE L xs (d + 1) m_Mo_refuse [.ref 20] (mV C u a b V M R) (.inl (some (.int (if thB (fu a 5 1) then 0 else 1)))) (mV C u (thA (fu a 5 1)) b V M R) := by
  refine ⟨0, Nat.zero_le _, ?_⟩
  refine zR_to 6 (h1 := mV C u (fu a 5 1) b V M R) rfl ?_
  refine zR_v rfl rfl rfl rfl rfl ⟨rfl, Nat.le_of_ble_eq_true rfl, Nat.le_of_ble_eq_true rfl⟩ rfl (Nat.le_refl _) e_Mo_throwing rfl rfl ?_
  cases h : thB (fu a 5 1) with
  | true =>
    refine zR_to 20 rfl ?_
    exact zR_e rfl rfl rfl rfl rfl rfl
  | false =>
    refine zR_to 20 (st' := [.int 1]) rfl ?_
    exact zR_e rfl rfl rfl rfl rfl rfl
set_option maxRecDepth 10000 in
theorem e_Mo_goOn {B n : Nat} (hB : a 13 = nI B) (hB2 : B ≤ 1000) (hn : n ≤ 1000) (hce : ∀ c, a 14 = c → ¬ c < 0 → ∃ j : Nat, j < 8 ∧ c = nI j) : zE L xs d m_Mo_goOn [.ref 20, .int (nI n)] (mV C u a b V M R) (.inl none) (mV C u (goA a B n) (goB b n) V (goM a b M B n) R) := by
  have hl : (nI n).toInt64 = lN n := nI_l (by omega)
  refine ⟨0, Nat.zero_le _, ?_⟩
  refine zR_to 7 (st' := [.long (nI n).toInt64, .long (b 16), .ref 20]) rfl ?_
  rw [hl]
  refine zR_to 15 (st' := [.int (a 13)]) (h1 := mV C u a (goB b n) V M R) rfl ?_
  unfold goA goM
  by_cases h0 : B = 0
  · rw [if_pos h0, if_neg (fun h => h.1 h0), hB, h0]
    refine zR_to 18 rfl ?_
    exact zR_e rfl rfl rfl rfl rfl rfl
  · rw [if_neg h0, hB]
    refine zR_m 1 rfl ?_
    refine zR_if (fun _ => ?_) (fun h => absurd (Decidable.of_not_not h) (nI_ne0 (by omega) (by omega)))
    refine zR_to 25 (st' := [.int (nI n), .int (a 13), .ref 20]) rfl ?_
    rw [hB]
    refine zR_m 1 rfl ?_
    refine zR_if (fun h => ?_) (fun h => ?_)
    · have hle : B ≤ n := (nI_leI (by omega) (by omega)).mp h
      refine zR_to 52 (st' := [.int (a 14)]) (h1 := mV C u (fu a 13 0) (goB b n) V M R) rfl ?_
      refine zR_m 1 rfl ?_
      refine zR_if (fun hc => ?_) (fun hc => ?_)
      · have h14 : ¬ (0 ≤ a 14) := fun h9 => absurd hc (Int32.not_lt.mpr h9)
        rw [if_neg (fun h9 => h14 h9.2), if_neg (fun h9 => h14 h9.2.2), show B - n = 0 by omega]
        exact zR_e rfl rfl rfl rfl rfl rfl
      · have h14 : 0 ≤ a 14 := Int32.not_lt.mp hc
        obtain ⟨j, hj, hcj⟩ := hce (a 14) rfl hc
        rw [if_pos ⟨hle, h14⟩, if_pos ⟨h0, hle, h14⟩, hcj, nI_clamp (by omega)]
        refine zR_to 67 (st' := [.long (b 15), .int (a 14), .ref 25]) rfl ?_
        refine zM_put (n := j) rfl hcj hj rfl ?_
        refine zR_to 73 (h1 := mV C u (fu (fu a 13 0) 14 (-1)) (goB b n) V (fu M j (b 15)) R) rfl ?_
        exact zR_e rfl rfl rfl rfl rfl rfl
    · have hlt : ¬ B ≤ n := fun h9 => h ((nI_leI (by omega) (by omega)).mpr h9)
      rw [if_neg (fun h9 => hlt h9.1), if_neg (fun h9 => hlt h9.2.1)]
      refine zR_to 34 (st' := [.int (a 13 - nI n), .ref 20]) rfl ?_
      rw [hB, pk_sub (show n ≤ B by omega)]
      refine zR_to 45 (st' := [.int (nI (B - n))]) (h1 := mV C u (fu a 13 (nI (B - n))) (goB b n) V M R) rfl ?_
      refine zR_m 1 rfl ?_
      refine zR_if (fun _ => zR_e rfl rfl rfl rfl rfl rfl) (fun h9 => absurd (Decidable.of_not_not h9) (nI_ne0 (by omega) (by omega)))
set_option maxRecDepth 10000 in
theorem e_Mo_begin {B t : Nat} (hB : a 13 = nI B) (hB2 : B ≤ 1000) (hce : ∀ c, a 14 = c → ¬ c < 0 → ∃ j : Nat, j < 8 ∧ c = nI j) : zE L xs (d + 1) m_Mo_begin [.ref 20, .int (nI t)] (mV C u a b V M R) (.inl none) (mV C u (fu (fu (goA a B B) 13 (nI t)) 5 0) (goB b B) V (goM a b M B B) R) := by
  refine ⟨0, Nat.zero_le _, ?_⟩
  refine zR_to 5 (st' := [.int (a 13), .ref 20]) rfl ?_
  rw [hB]
  refine zR_v rfl rfl rfl rfl rfl ⟨rfl, Nat.le_of_ble_eq_true rfl, Nat.le_of_ble_eq_true rfl⟩ rfl (Nat.le_refl _) (e_Mo_goOn hB hB2 hB2 hce) rfl rfl ?_
  refine zR_to 18 (h1 := mV C u (fu (fu (goA a B B) 13 (nI t)) 5 0) (goB b B) V (goM a b M B B) R) rfl ?_
  exact zR_e rfl rfl rfl rfl rfl rfl
/-- a new top of the stack, or a full one refused: answer, ints, values -/
def chA (a : Nat → Int32) (n g : Nat) : Nat → Int32 := if n - g = 8 then thA (fu a 5 1) else if thB a then thA a else fu (thA a) 7 (nI (n - g + 1))
def chO (a : Nat → Int32) (n g : Nat) : Int32 := if n - g = 8 then (if thB (fu a 5 1) then 0 else 1) else if thB a then 0 else a 5
def chV (a : Nat → Int32) (V : Nat → RV) (n g : Nat) : Nat → RV := if n - g = 8 then V else if thB a then V else fu V (n - g) (V 10)
set_option maxRecDepth 10000 in
theorem e_Mo_change {n g : Nat} (hn : a 7 = nI n) (hn8 : n ≤ 8) (hg : g ≤ n) : zE L xs (d + 1) m_Mo_change [.ref 20, .int (nI g)] (mV C u a b V M R) (.inl (some (.int (chO a n g)))) (mV C u (chA a n g) b (chV a V n g) M R) := by
  unfold chO chA chV
  refine ⟨0, Nat.zero_le _, ?_⟩
  refine zR_to 6 (st' := [.int (a 7 - nI g)]) rfl ?_
  rw [hn, pk_sub hg]
  refine zR_m 2 rfl ?_
  refine zR_if (fun h => ?_) (fun h => ?_)
  · have h8 : ¬ n - g = 8 := fun h9 => h (by rw [h9]; rfl)
    rw [if_neg h8, if_neg h8, if_neg h8]
    refine zR_to 27 rfl ?_
    refine zR_v rfl rfl rfl rfl rfl ⟨rfl, Nat.le_of_ble_eq_true rfl, Nat.le_of_ble_eq_true rfl⟩ rfl (Nat.le_refl _) e_Mo_throwing rfl rfl ?_
    cases ht : thB a with
    | true =>
      refine zR_to 34 rfl ?_
      exact zR_e rfl rfl rfl rfl rfl rfl
    | false =>
      refine zR_to 51 (st' := [.int (a 7 - nI g), .ref 20]) rfl ?_
      rw [hn, pk_sub hg]
      refine zR_to 61 (st' := [.int (nI (n - g)), .int (nI 10), .ref 20]) (h1 := mV C u (fu (thA a) 7 (nI (n - g))) b V M R) rfl ?_
      refine zR_v rfl rfl rfl rfl rfl ⟨rfl, Nat.le_of_ble_eq_true rfl, Nat.le_of_ble_eq_true rfl⟩ rfl (Nat.le_refl _) (e_Mo_copy (f := 10) (t := n - g) (by decide) (by omega)) rfl rfl ?_
      refine zR_to 71 (st' := [.int (nI (n - g) + 1), .ref 20]) rfl ?_
      rw [nI_1]
      refine zR_to 78 (st' := [.int (a 5)]) (h1 := mV C u (fu (thA a) 7 (nI (n - g + 1))) b (fu V (n - g) (V 10)) M R) (by
        have e : fu (thA a) 7 (nI (n - g + 1)) = fu (fu (thA a) 7 (nI (n - g))) 7 (nI (n - g + 1)) := fu_fu.symm
        rw [e]
        rfl) ?_
      exact zR_e rfl rfl rfl rfl rfl rfl
  · have h8 : n - g = 8 := by
      rcases Decidable.em (n - g = 8) with h9 | h9
      · exact h9
      · exact absurd (fun h7 => h9 ((nI_eq (by omega) (by omega)).mp h7)) h
    rw [if_pos h8, if_pos h8, if_pos h8]
    refine zR_to 27 (h1 := mV C u (fu a 5 1) b V M R) rfl ?_
    refine zR_v rfl rfl rfl rfl rfl ⟨rfl, Nat.le_of_ble_eq_true rfl, Nat.le_of_ble_eq_true rfl⟩ rfl (Nat.le_refl _) e_Mo_throwing rfl rfl ?_
    cases ht : thB (fu a 5 1) with
    | true =>
      refine zR_to 34 rfl ?_
      exact zR_e rfl rfl rfl rfl rfl rfl
    | false =>
      refine zR_to 43 (st' := [.int 1]) rfl ?_
      exact zR_e rfl rfl rfl rfl rfl rfl
end ST
