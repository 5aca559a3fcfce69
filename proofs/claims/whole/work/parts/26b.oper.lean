/-! operate of the reference: its outcome as (exceptions, depth, values, condition) -/
def thr (mk x : Int32) : Bool := decide (x &&& (mk ^^^ (-1)) ≠ 0)
def oPost (a : Nat → Int32) (V : Nat → RV) (x : Int32) (n n' : Nat) (v' : Nat → RV) (cd' : Int32) (a' : Nat → Int32) (V' : Nat → RV) : Prop :=
  a' 0 = (if thr (a 3) x then 2 else 0) ∧ a' 1 = a 1 ∧ a' 2 = a 2 ∧ a' 3 = a 3 ∧ a' 4 = a 4 ||| x ∧ a' 6 = (if thr (a 3) x then a 6 else cd') ∧ a' 7 = (if thr (a 3) x then nI n else nI n') ∧ a' 13 = a 13 ∧ a' 14 = a 14 ∧ ∀ i, i < 8 → V' i = if thr (a 3) x then V i else v' i
theorem i0or (x : Int32) : (0 : Int32) ||| x = x := by
  apply Int32.toBitVec_inj.mp
  simp
theorem thB_nt {a : Nat → Int32} {x : Int32} (h : a 5 = 0) : thB (nt a x) = thr (a 3) x := by
  unfold thB thr
  rw [show nt a x 5 = a 5 ||| x from rfl, h, i0or, show nt a x 3 = a 3 from rfl]
theorem thB_1 {a : Nat → Int32} : thB (fu a 5 1) = thr (a 3) 1 := rfl
section OP
variable {L : Nat} {xs : Nat → Int32} {d : Nat} {C : Nat → zC} {u : zC} {a : Nat → Int32} {b : Nat → Int64} {M : Nat → Int64} {R : Nat → Nat} {V : Nat → RV}
/-- refused -/
theorem oP_no {n : Nat} {V' : Nat → RV} (hn : a 7 = nI n) (hV : ∀ i, i < 8 → V' i = V i) : oPost a V 1 n n V (a 6) (thA (fu a 5 1)) V' := by
  refine ⟨?_, rfl, rfl, rfl, rfl, ?_, ?_, rfl, rfl, fun i hi => ?_⟩
  · show (if thB (fu a 5 1) then (2 : Int32) else 0) = _
    rw [thB_1]
  · show a 6 = _
    split <;> rfl
  · show a 7 = _
    rw [hn]
    split <;> rfl
  · rw [hV i hi]
    split <;> rfl
theorem oP_ch {n g : Nat} {x : Int32} {V' : Nat → RV} {v10 : RV} (h5 : a 5 = 0) (hn : a 7 = nI n) (hg : n - g ≠ 8) (hV : ∀ i, i < 8 → V' i = V i) (hv : V' 10 = v10) : oPost a V x n (n - g + 1) (fu V (n - g) v10) (a 6) (chA (nt a x) n g) (chV (nt a x) V' n g) := by
  unfold chA chV
  rw [if_neg hg, if_neg hg, thB_nt h5]
  unfold oPost
  cases ht : thr (a 3) x with
  | true =>
    simp only [if_true]
    refine ⟨?_, rfl, rfl, rfl, ?_, rfl, hn, rfl, rfl, hV⟩
    · show (if thB (nt a x) then (2 : Int32) else 0) = _
      rw [thB_nt h5, ht]
      rfl
    · show a 4 ||| (a 5 ||| x) = _
      rw [h5, i0or]
  | false =>
    simp only [Bool.false_eq_true, if_false]
    refine ⟨?_, rfl, rfl, rfl, ?_, rfl, rfl, rfl, rfl, fun i hi => ?_⟩
    · show (if thB (nt a x) then (2 : Int32) else 0) = _
      rw [thB_nt h5, ht]
      rfl
    · show a 4 ||| (a 5 ||| x) = _
      rw [h5, i0or]
    · rw [hv]
      unfold fu
      split
      · rfl
      · exact hV i hi
theorem chO_ch {n g : Nat} {x : Int32} (h5 : a 5 = 0) (hg : n - g ≠ 8) : chO (nt a x) n g = if thr (a 3) x then 0 else x := by
  unfold chO
  rw [if_neg hg, thB_nt h5, show nt a x 5 = a 5 ||| x from rfl, h5, i0or]
theorem oP_fl {n : Nat} {V' : Nat → RV} (h8 : n = 8) (hn : a 7 = nI n) (hV : ∀ i, i < 8 → V' i = V i) : oPost a V 1 n n V (a 6) (chA a n 0) (chV a V' n 0) := by
  unfold chA chV
  rw [if_pos (show n - 0 = 8 by omega), if_pos (show n - 0 = 8 by omega)]
  exact oP_no hn hV
theorem chO_fl {n : Nat} (h8 : n = 8) : chO a n 0 = if thr (a 3) 1 then 0 else 1 := by
  unfold chO
  rw [if_pos (show n - 0 = 8 by omega), thB_1]
set_option maxRecDepth 10000 in
theorem q_Mo_few {l n : Nat} {tw pl : Bool} {y x : Int32} (hn : a 7 = nI n) (hl : n < l) (hl9 : l ≤ 9) : zR L xs (d + 2) m_Mo_operate 122 [(5, .int (nI l)), (4, .int (bI tw)), (3, .int (bI pl)), (0, .ref 20), (1, .int y), (2, .int x)] [] (mV C u a b V M R) 0 (.inl (some (.int (if thr (a 3) 1 then 0 else 1)))) (mV C u (thA (fu a 5 1)) b V M R) 0 := by
  refine zR_to 128 (st' := [.int (nI l), .int (a 7)]) rfl ?_
  rw [hn]
  refine zR_m 1 rfl ?_
  refine zR_if (fun h => absurd h (nI_ge (a := n) (b := l) hl (by omega))) (fun _ => ?_)
  refine zR_to 132 rfl ?_
  refine zR_v rfl rfl rfl rfl rfl ⟨rfl, Nat.le_of_ble_eq_true rfl, Nat.le_of_ble_eq_true rfl⟩ rfl (Nat.le_refl _) e_Mo_refuse rfl rfl ?_
  exact zR_e rfl rfl rfl rfl rfl rfl
set_option maxRecDepth 10000 in
theorem q_Mo_two {n : Nat} {pl : Bool} {y x : Int32} {o : zO} {h9 : zH} (hn : a 7 = nI n) (h2 : 2 ≤ n) (hn8 : n ≤ 8)
    (hr : zR L xs (d + 1) m_Mo_operate 170 [(0, .ref 20), (1, .int y), (2, .int x)] [] (mV C u a b (fu (fu V 8 (V (n - 1))) 9 (V (n - 2))) M R) 0 o h9 0) :
    zR L xs (d + 1) m_Mo_operate 122 [(5, .int (nI 2)), (4, .int (bI true)), (3, .int (bI pl)), (0, .ref 20), (1, .int y), (2, .int x)] [] (mV C u a b V M R) 0 o h9 0 := by
  refine zR_to 128 (st' := [.int (nI 2), .int (a 7)]) rfl ?_
  rw [hn]
  refine zR_m 1 rfl ?_
  refine zR_if (fun _ => ?_) (fun h => absurd ((nI_leI (by omega) (by omega)).mpr h2) h)
  refine zR_to 150 (st' := [.int (nI 8), .int (a 7 - 1), .ref 20]) rfl ?_
  rw [hn, nI_m1' (by omega)]
  refine zR_v rfl rfl rfl rfl rfl ⟨rfl, Nat.le_of_ble_eq_true rfl, Nat.le_of_ble_eq_true rfl⟩ rfl (Nat.le_refl _) (e_Mo_copy (f := n - 1) (t := 8) (by omega) (by decide)) rfl rfl ?_
  refine zR_to 167 (st' := [.int (nI 9), .int (a 7 - nI 2), .ref 20]) rfl ?_
  rw [hn, pk_sub h2]
  refine zR_v rfl rfl rfl rfl rfl ⟨rfl, Nat.le_of_ble_eq_true rfl, Nat.le_of_ble_eq_true rfl⟩ rfl (Nat.le_refl _) (e_Mo_copy (f := n - 2) (t := 9) (by omega) (by decide)) rfl rfl ?_
  rw [fu_n (show n - 2 ≠ 8 by omega)]
  exact zR_w hr rfl rfl ⟨rfl, rfl, rfl, trivial⟩
set_option maxRecDepth 10000 in
theorem q_Mo_one {l n : Nat} {pl : Bool} {y x : Int32} {o : zO} {h9 : zH} (hn : a 7 = nI n) (h1 : 1 ≤ l) (hl : l ≤ n) (hn8 : n ≤ 8)
    (hr : zR L xs (d + 1) m_Mo_operate 170 [(0, .ref 20), (1, .int y), (2, .int x)] [] (mV C u a b (fu V 8 (V (n - 1))) M R) 0 o h9 0) :
    zR L xs (d + 1) m_Mo_operate 122 [(5, .int (nI l)), (4, .int (bI false)), (3, .int (bI pl)), (0, .ref 20), (1, .int y), (2, .int x)] [] (mV C u a b V M R) 0 o h9 0 := by
  refine zR_to 128 (st' := [.int (nI l), .int (a 7)]) rfl ?_
  rw [hn]
  refine zR_m 1 rfl ?_
  refine zR_if (fun _ => ?_) (fun h => absurd ((nI_leI (by omega) (by omega)).mpr hl) h)
  refine zR_to 138 rfl ?_
  refine zR_m 1 rfl ?_
  refine zR_if (fun h => absurd ((nI_leI (a := l) (b := 0) (by omega) (by omega)).mp h) (by omega)) (fun _ => ?_)
  refine zR_to 150 (st' := [.int (nI 8), .int (a 7 - 1), .ref 20]) rfl ?_
  rw [hn, nI_m1' (by omega)]
  refine zR_v rfl rfl rfl rfl rfl ⟨rfl, Nat.le_of_ble_eq_true rfl, Nat.le_of_ble_eq_true rfl⟩ rfl (Nat.le_refl _) (e_Mo_copy (f := n - 1) (t := 8) (by omega) (by decide)) rfl rfl ?_
  refine zR_to 170 rfl ?_
  exact zR_w hr rfl rfl ⟨rfl, rfl, rfl, trivial⟩
set_option maxRecDepth 10000 in
theorem q_Mo_non {n : Nat} {pl : Bool} {y x : Int32} {o : zO} {h9 : zH} (hn : a 7 = nI n) (hn8 : n ≤ 8)
    (hr : zR L xs (d + 1) m_Mo_operate 170 [(0, .ref 20), (1, .int y), (2, .int x)] [] (mV C u a b V M R) 0 o h9 0) :
    zR L xs (d + 1) m_Mo_operate 122 [(5, .int (nI 0)), (4, .int (bI false)), (3, .int (bI pl)), (0, .ref 20), (1, .int y), (2, .int x)] [] (mV C u a b V M R) 0 o h9 0 := by
  refine zR_to 128 (st' := [.int (nI 0), .int (a 7)]) rfl ?_
  rw [hn]
  refine zR_m 1 rfl ?_
  refine zR_if (fun _ => ?_) (fun h => absurd ((nI_leI (a := 0) (b := n) (by omega) (by omega)).mpr (by omega)) h)
  refine zR_to 170 rfl ?_
  exact zR_w hr rfl rfl ⟨rfl, rfl, rfl, trivial⟩
end OP
