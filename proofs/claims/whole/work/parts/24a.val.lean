/-! The reference's values: kind, sign, exponent, significand of eleven places -/
abbrev RV : Type := Int32 × Bool × Int32 × Int64
abbrev mV (C : Nat → zC) (u : zC) (a : Nat → Int32) (b : Nat → Int64) (V : Nat → RV) (M : Nat → Int64) (R : Nat → Nat) : zH := mH C u a b (fun i => (V i).1) (fun i => (V i).2.1) (fun i => (V i).2.2.1) (fun i => (V i).2.2.2) M R
theorem nar_bI (x : Bool) : vp_nar .boolean (bI x) = bI x := by cases x <;> rfl
theorem nB_up {B : Nat → Bool} {n : Nat} {x : Bool} : upd (nB B) n (bI x) = nB (fu B n x) := by
  funext i
  unfold upd nB fu
  split <;> rfl
section VA
variable {L : Nat} {xs : Nat → Int32} {d : Nat} {mi : ZM} {pc : Nat} {lv : zL} {st st' : List Value} {h' : zH} {k k' : Nat} {o : zO} {pc' : Nat}
variable {C : Nat → zC} {u : zC} {a : Nat → Int32} {b : Nat → Int64} {K : Nat → Int32} {B : Nat → Bool} {E : Nat → Int32} {S M : Nat → Int64} {R : Nat → Nat} {V : Nat → RV}
theorem zK_get {x : Int32} {n : Nat} (hf : zfetch mi pc = some (.iaload, 1)) (hx : x = nI n) (hn : n < 11) (hp : pc + 1 = pc') (hR : zR L xs d mi pc' lv (.int (K n) :: st) (mH C u a b K B E S M R) k o h' k') : zR L xs d mi pc lv (.int x :: .ref 21 :: st) (mH C u a b K B E S M R) k o h' k' := by
  subst hx
  refine zR_ia hf rfl rfl (in_nI hn (by decide)) ?_ hp hR
  rw [nI_clamp (by omega)]
theorem zX_get {x : Int32} {n : Nat} (hf : zfetch mi pc = some (.iaload, 1)) (hx : x = nI n) (hn : n < 11) (hp : pc + 1 = pc') (hR : zR L xs d mi pc' lv (.int (E n) :: st) (mH C u a b K B E S M R) k o h' k') : zR L xs d mi pc lv (.int x :: .ref 23 :: st) (mH C u a b K B E S M R) k o h' k' := by
  subst hx
  refine zR_ia hf rfl rfl (in_nI hn (by decide)) ?_ hp hR
  rw [nI_clamp (by omega)]
theorem zB_get {x : Int32} {n : Nat} (hf : zfetch mi pc = some (.baload, 1)) (hx : x = nI n) (hn : n < 11) (hp : pc + 1 = pc') (hR : zR L xs d mi pc' lv (.int (bI (B n)) :: st) (mH C u a b K B E S M R) k o h' k') : zR L xs d mi pc lv (.int x :: .ref 22 :: st) (mH C u a b K B E S M R) k o h' k' := by
  subst hx
  refine zR_ba hf rfl (in_nI hn (by decide)) ?_ hp hR
  rw [nI_clamp (by omega)]
  rfl
theorem zS_get {x : Int32} {n : Nat} (hf : zfetch mi pc = some (.laload, 1)) (hx : x = nI n) (hn : n < 11) (hp : pc + 1 = pc') (hR : zR L xs d mi pc' lv (.long (S n) :: st) (mH C u a b K B E S M R) k o h' k') : zR L xs d mi pc lv (.int x :: .ref 24 :: st) (mH C u a b K B E S M R) k o h' k' := by
  subst hx
  refine zR_la hf rfl (in_nI hn (by decide)) ?_ hp hR
  rw [nI_clamp (by omega)]
theorem zM_get {x : Int32} {n : Nat} (hf : zfetch mi pc = some (.laload, 1)) (hx : x = nI n) (hn : n < 8) (hp : pc + 1 = pc') (hR : zR L xs d mi pc' lv (.long (M n) :: st) (mH C u a b K B E S M R) k o h' k') : zR L xs d mi pc lv (.int x :: .ref 25 :: st) (mH C u a b K B E S M R) k o h' k' := by
  subst hx
  refine zR_la hf rfl (in_nI hn (by decide)) ?_ hp hR
  rw [nI_clamp (by omega)]
theorem zK_put {x w : Int32} {n : Nat} (hf : zfetch mi pc = some (.iastore, 1)) (hx : x = nI n) (hn : n < 11) (hp : pc + 1 = pc') (hR : zR L xs d mi pc' lv st (mH C u a b (fu K n w) B E S M R) k o h' k') : zR L xs d mi pc lv (.int w :: .int x :: .ref 21 :: st) (mH C u a b K B E S M R) k o h' k' := by
  subst hx
  refine zR_is hf rfl (in_nI hn (by decide)) hp ?_
  rw [nI_clamp (by omega)]
  exact hR
theorem zX_put {x w : Int32} {n : Nat} (hf : zfetch mi pc = some (.iastore, 1)) (hx : x = nI n) (hn : n < 11) (hp : pc + 1 = pc') (hR : zR L xs d mi pc' lv st (mH C u a b K B (fu E n w) S M R) k o h' k') : zR L xs d mi pc lv (.int w :: .int x :: .ref 23 :: st) (mH C u a b K B E S M R) k o h' k' := by
  subst hx
  refine zR_is hf rfl (in_nI hn (by decide)) hp ?_
  rw [nI_clamp (by omega)]
  exact hR
theorem zB_put {x : Int32} {w : Bool} {n : Nat} (hf : zfetch mi pc = some (.bastore, 1)) (hx : x = nI n) (hn : n < 11) (hp : pc + 1 = pc') (hR : zR L xs d mi pc' lv st (mH C u a b K (fu B n w) E S M R) k o h' k') : zR L xs d mi pc lv (.int (bI w) :: .int x :: .ref 22 :: st) (mH C u a b K B E S M R) k o h' k' := by
  subst hx
  refine zR_bs hf rfl (in_nI hn (by decide)) hp ?_
  rw [nI_clamp (by omega), nar_bI, nB_up]
  exact hR
theorem zS_put {x : Int32} {w : Int64} {n : Nat} (hf : zfetch mi pc = some (.lastore, 1)) (hx : x = nI n) (hn : n < 11) (hp : pc + 1 = pc') (hR : zR L xs d mi pc' lv st (mH C u a b K B E (fu S n w) M R) k o h' k') : zR L xs d mi pc lv (.long w :: .int x :: .ref 24 :: st) (mH C u a b K B E S M R) k o h' k' := by
  subst hx
  refine zR_ls hf rfl (in_nI hn (by decide)) hp ?_
  rw [nI_clamp (by omega)]
  exact hR
theorem zM_put {x : Int32} {w : Int64} {n : Nat} (hf : zfetch mi pc = some (.lastore, 1)) (hx : x = nI n) (hn : n < 8) (hp : pc + 1 = pc') (hR : zR L xs d mi pc' lv st (mH C u a b K B E S (fu M n w) R) k o h' k') : zR L xs d mi pc lv (.long w :: .int x :: .ref 25 :: st) (mH C u a b K B E S M R) k o h' k' := by
  subst hx
  refine zR_ls hf rfl (in_nI hn (by decide)) hp ?_
  rw [nI_clamp (by omega)]
  exact hR
theorem fu_fst {α β : Type} {f : Nat → α} {g : α → β} {n : Nat} {r : α} {x : β} (hx : g r = x) : fu (fun i => g (f i)) n x = fun i => g (fu f n r i) := by
  subst hx
  funext i
  unfold fu
  split <;> rfl
theorem mV_fu {n : Nat} {k9 : Int32} {b9 : Bool} {e9 : Int32} {s9 : Int64} : mH C u a b (fu (fun i => (V i).1) n k9) (fu (fun i => (V i).2.1) n b9) (fu (fun i => (V i).2.2.1) n e9) (fu (fun i => (V i).2.2.2) n s9) M R = mV C u a b (fu V n (k9, b9, e9, s9)) M R := by
  rw [fu_fst (f := V) (g := fun r => r.1) (r := (k9, b9, e9, s9)) rfl, fu_fst (f := V) (g := fun r => r.2.1) (r := (k9, b9, e9, s9)) rfl, fu_fst (f := V) (g := fun r => r.2.2.1) (r := (k9, b9, e9, s9)) rfl, fu_fst (f := V) (g := fun r => r.2.2.2) (r := (k9, b9, e9, s9)) rfl]
set_option maxRecDepth 10000 in
theorem e_Mo_copy {f t : Nat} (hf : f < 11) (ht : t < 11) : zE L xs d m_Mo_copy [.ref 20, .int (nI f), .int (nI t)] (mV C u a b V M R) (.inl none) (mV C u a b (fu V t (V f)) M R) := by
  refine ⟨0, Nat.zero_le _, ?_⟩
  refine zR_m 6 (pc' := 10) rfl ?_
  refine zK_get rfl rfl hf rfl ?_
  refine zK_put rfl rfl ht rfl ?_
  refine zR_m 6 (pc' := 22) rfl ?_
  refine zB_get rfl rfl hf rfl ?_
  refine zB_put rfl rfl ht rfl ?_
  refine zR_m 6 (pc' := 34) rfl ?_
  refine zX_get rfl rfl hf rfl ?_
  refine zX_put rfl rfl ht rfl ?_
  refine zR_m 6 (pc' := 46) rfl ?_
  refine zS_get rfl rfl hf rfl ?_
  refine zS_put rfl rfl ht rfl ?_
  refine zR_e rfl rfl rfl rfl rfl ?_
  exact mV_fu
set_option maxRecDepth 10000 in
theorem e_Mo_special {kd : Int32} {mb : Bool} : zE L xs d m_Mo_special [.ref 20, .int kd, .int (bI mb)] (mV C u a b V M R) (.inl none) (mV C u a b (fu V 10 (kd, decide (kd ≠ 3) && mb, 0, 0)) M R) := by
  have fin : ∀ w : Bool, (decide (kd ≠ 3) && mb) = w → zR L xs d m_Mo_special 28 [(0, .ref 20), (1, .int kd), (2, .int (bI mb))] [.int (bI w), .int (nI 10), .ref 22] (mH C u a b (fu (fun i => (V i).1) 10 kd) (fun i => (V i).2.1) (fun i => (V i).2.2.1) (fun i => (V i).2.2.2) M R) 0 (.inl none) (mV C u a b (fu V 10 (kd, decide (kd ≠ 3) && mb, 0, 0)) M R) 0 := by
    intro w hw
    refine zB_put rfl rfl (by decide) rfl ?_
    refine zR_m 4 (pc' := 36) rfl ?_
    refine zX_put (n := 10) rfl rfl (by decide) rfl ?_
    refine zR_m 4 (pc' := 44) rfl ?_
    refine zS_put (n := 10) rfl rfl (by decide) rfl ?_
    refine zR_e rfl rfl rfl rfl rfl ?_
    rw [hw]
    exact mV_fu
  refine ⟨0, Nat.zero_le _, ?_⟩
  refine zR_m 4 (pc' := 7) rfl ?_
  refine zK_put (n := 10) rfl rfl (by decide) rfl ?_
  refine zR_m 6 rfl ?_
  refine zR_if (fun h => ?_) (fun h => ?_)
  · have h9 := fin false (by rw [show kd = 3 from h]; rfl)
    exact zR_m 1 (pc' := 28) rfl h9
  · have h9 := fin mb (by rw [decide_eq_true (show kd ≠ 3 from h)]; rfl)
    cases mb with
    | false => exact zR_m 3 (pc' := 28) rfl h9
    | true => exact zR_m 4 (pc' := 28) rfl h9
set_option maxRecDepth 10000 in
theorem e_Mo_invalid : zE L xs (d + 1) m_Mo_invalid [.ref 20] (mV C u a b V M R) (.inl none) (mV C u (fu a 5 (a 5 ||| 1)) b (fu V 10 (3, false, 0, 0)) M R) := by
  refine ⟨0, Nat.zero_le _, ?_⟩
  refine zR_m 9 (pc' := 13) (st' := [.int (bI false), .int 3, .ref 20]) (h1 := mV C u (fu a 5 (a 5 ||| 1)) b V M R) rfl ?_
  refine zR_v rfl rfl rfl rfl rfl ⟨rfl, Nat.le_of_ble_eq_true rfl, Nat.le_of_ble_eq_true rfl⟩ rfl (Nat.le_refl _) e_Mo_special rfl rfl ?_
  exact zR_e rfl rfl rfl rfl rfl rfl
end VA
