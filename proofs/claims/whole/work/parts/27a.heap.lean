/-! The class's heap: ints f (0 depth, 1 mask, 2 flags, 3 condition, 4 precision, 5 way, 6 target), longs g (0 image, 1 now, 2 freeAt, 3 coming), storing, the stack's places A, the reals W, the two exact numbers, the cells; T: what lies behind -/
abbrev XV : Type := Bool × Int32 × Int64 × Int64
def fR (v : RV) : List Value := [.int v.1, .int (bI v.2.1), .int v.2.2.1, .long v.2.2.2]
def cX (x : XV) : zC := .inr (2, [.int (bI x.1), .int x.2.1, .long x.2.2.1, .long x.2.2.2])
def sC (f : Nat → Int32) (g : Nat → Int64) (sg : Bool) (A : Nat → Option Nat) (W : Nat → RV) (x y : XV) (Mc : Nat → Int64) : Nat → zC := fun k => match k with
  | 0 => .inr (0, [.ref 1, .ref 10, .ref 11, .ref 12, .ref 13, .ref 15, .ref 18, .int (f 0), .int (f 1), .int (f 2), .int (f 3)])
  | 1 => .inl (3, 8, .inr (.inr (.inr (.inr A))))
  | 2 => .inr (1, fR (W 2))
  | 3 => .inr (1, fR (W 3))
  | 4 => .inr (1, fR (W 4))
  | 5 => .inr (1, fR (W 5))
  | 6 => .inr (1, fR (W 6))
  | 7 => .inr (1, fR (W 7))
  | 8 => .inr (1, fR (W 8))
  | 9 => .inr (1, fR (W 9))
  | 10 => .inr (1, fR (W 10))
  | 11 => .inr (1, fR (W 11))
  | 12 => .inr (3, [.int (f 4), .int (f 5)])
  | 13 => .inr (4, [.ref 12, .ref 14])
  | 14 => cX x
  | 15 => .inr (5, [.ref 12, .ref 16, .ref 17, .long (g 0)])
  | 16 => cX y
  | 17 => .inr (1, fR (W 17))
  | 18 => .inr (6, [.ref 19, .long (g 1), .long (g 2), .int (bI sg), .int (f 6), .long (g 3)])
  | _ => .inl (1, 8, .inr (.inl Mc))
def cH (C : Nat → zC) (T : List zC) : zH := [C 0, C 1, C 2, C 3, C 4, C 5, C 6, C 7, C 8, C 9, C 10, C 11, C 12, C 13, C 14, C 15, C 16, C 17, C 18, C 19] ++ T
abbrev sH (f : Nat → Int32) (g : Nat → Int64) (sg : Bool) (A : Nat → Option Nat) (W : Nat → RV) (x y : XV) (Mc : Nat → Int64) (T : List zC) : zH := cH (sC f g sg A W x y Mc) T
/-- the places of reals -/
def RP (q : Nat) : Prop := (2 ≤ q ∧ q ≤ 11) ∨ q = 17
theorem RP_cases {q : Nat} (h : RP q) : q = 2 ∨ q = 3 ∨ q = 4 ∨ q = 5 ∨ q = 6 ∨ q = 7 ∨ q = 8 ∨ q = 9 ∨ q = 10 ∨ q = 11 ∨ q = 17 := by
  rcases h with h | h <;> omega
section CH
variable {f : Nat → Int32} {g : Nat → Int64} {sg : Bool} {A : Nat → Option Nat} {W : Nat → RV} {x y : XV} {Mc : Nat → Int64} {T : List zC}
theorem sR_get {q : Nat} (hq : RP q) : (sH f g sg A W x y Mc T)[q]? = some (.inr (1, fR (W q))) := by
  rcases RP_cases hq with rfl | rfl | rfl | rfl | rfl | rfl | rfl | rfl | rfl | rfl | rfl <;> rfl
theorem sR_set {q : Nat} {v : RV} (hq : RP q) : (sH f g sg A W x y Mc T).set q (.inr (1, fR v)) = sH f g sg A (fu W q v) x y Mc T := by
  rcases RP_cases hq with rfl | rfl | rfl | rfl | rfl | rfl | rfl | rfl | rfl | rfl | rfl <;> rfl
end CH
section CR
variable {L : Nat} {xs : Nat → Int32} {d : Nat} {mi : ZM} {pc : Nat} {lv : zL} {st st' r : List Value} {h h' : zH} {k k' : Nat} {o : zO} {pc' : Nat}
variable {f : Nat → Int32} {g : Nat → Int64} {sg : Bool} {A : Nat → Option Nat} {W : Nat → RV} {x y : XV} {Mc : Nat → Int64} {T : List zC}
/-- a field of a real read, written -/
theorem zW_g {n j q : Nat} {v0 : RV} {v : Value} (hq : RP q) (hf : zfetch mi pc = some (.getfield n, 3)) (hx : zFld (zCno mi) n = some (1, j)) (hw : W q = v0) (hv : (fR v0)[j]? = some v) (hp : pc + 3 = pc') (hR : zR L xs d mi pc' lv (v :: r) (sH f g sg A W x y Mc T) k o h' k') : zR L xs d mi pc lv (.ref q :: r) (sH f g sg A W x y Mc T) k o h' k' :=
  zR_g hf hx (sR_get hq) (by rw [hw]; exact hv) hp hR
theorem zW_p {n j q : Nat} {v0 v1 : RV} {v : Value} (hq : RP q) (hf : zfetch mi pc = some (.putfield n, 3)) (hx : zFld (zCno mi) n = some (1, j)) (hw : W q = v0) (hj : j < 4) (hv : zput 1 j v = true) (hs : (fR v0).set j v = fR v1) (hp : pc + 3 = pc') (hR : zR L xs d mi pc' lv r (sH f g sg A (fu W q v1) x y Mc T) k o h' k') : zR L xs d mi pc lv (v :: .ref q :: r) (sH f g sg A W x y Mc T) k o h' k' :=
  zR_p (fs' := fR v1) hf hx (sR_get hq) hj hv (by rw [hw]; exact hs) hp (by rw [sR_set hq]; exact hR)
set_option maxRecDepth 10000 in
theorem c_Re_copy {q j : Nat} (hq : RP q) (hj : RP j) (hne : j ≠ q) : zE L xs d m_Re_copy [.ref q, .ref j] (sH f g sg A W x y Mc T) (.inl none) (sH f g sg A (fu W q (W j)) x y Mc T) := by
  refine ⟨0, Nat.zero_le _, ?_⟩
  refine zR_n 2 rfl ?_
  refine zW_g hj rfl rfl rfl rfl rfl ?_
  refine zW_p (v1 := ((W j).1, (W q).2.1, (W q).2.2)) hq rfl rfl rfl (Nat.le_of_ble_eq_true rfl) rfl rfl rfl ?_
  refine zR_n 2 rfl ?_
  refine zW_g hj rfl rfl (fu_n hne) rfl rfl ?_
  refine zW_p (v1 := ((W j).1, (W j).2.1, (W q).2.2)) hq rfl rfl fu_s (Nat.le_of_ble_eq_true rfl) (bI_put _ _ _ rfl rfl) rfl rfl ?_
  rw [fu_fu]
  refine zR_n 2 rfl ?_
  refine zW_g hj rfl rfl (fu_n hne) rfl rfl ?_
  refine zW_p (v1 := ((W j).1, (W j).2.1, (W j).2.2.1, (W q).2.2.2)) hq rfl rfl fu_s (Nat.le_of_ble_eq_true rfl) rfl rfl rfl ?_
  rw [fu_fu]
  refine zR_n 2 rfl ?_
  refine zW_g hj rfl rfl (fu_n hne) rfl rfl ?_
  refine zW_p (v1 := W j) hq rfl rfl fu_s (Nat.le_of_ble_eq_true rfl) rfl rfl rfl ?_
  rw [fu_fu]
  exact zR_e rfl rfl rfl rfl rfl rfl
set_option maxRecDepth 10000 in
theorem c_Re_becomeNan {q : Nat} (hq : RP q) : zE L xs d m_Re_becomeNan [.ref q] (sH f g sg A W x y Mc T) (.inl none) (sH f g sg A (fu W q vNan) x y Mc T) := by
  refine ⟨0, Nat.zero_le _, ?_⟩
  refine zR_n 2 rfl ?_
  refine zW_p (v1 := (3, (W q).2)) hq rfl rfl rfl (Nat.le_of_ble_eq_true rfl) rfl rfl rfl ?_
  refine zR_n 2 rfl ?_
  refine zW_p (v1 := (3, false, (W q).2.2)) hq rfl rfl fu_s (Nat.le_of_ble_eq_true rfl) rfl rfl rfl ?_
  rw [fu_fu]
  refine zR_n 2 rfl ?_
  refine zW_p (v1 := (3, false, 0, (W q).2.2.2)) hq rfl rfl fu_s (Nat.le_of_ble_eq_true rfl) rfl rfl rfl ?_
  rw [fu_fu]
  refine zR_n 2 rfl ?_
  refine zW_p (v1 := (3, false, 0, 0)) hq rfl rfl fu_s (Nat.le_of_ble_eq_true rfl) rfl rfl rfl ?_
  rw [fu_fu]
  exact zR_e rfl rfl rfl rfl rfl rfl
set_option maxRecDepth 10000 in
theorem c_Re_becomeZero {q : Nat} {mb : Bool} (hq : RP q) : zE L xs d m_Re_becomeZero [.ref q, .int (bI mb)] (sH f g sg A W x y Mc T) (.inl none) (sH f g sg A (fu W q (0, mb, 0, 0)) x y Mc T) := by
  refine ⟨0, Nat.zero_le _, ?_⟩
  refine zR_n 2 rfl ?_
  refine zW_p (v1 := (0, (W q).2)) hq rfl rfl rfl (Nat.le_of_ble_eq_true rfl) rfl rfl rfl ?_
  refine zR_n 2 rfl ?_
  refine zW_p (v1 := (0, mb, (W q).2.2)) hq rfl rfl fu_s (Nat.le_of_ble_eq_true rfl) (bI_put _ _ _ rfl rfl) rfl rfl ?_
  rw [fu_fu]
  refine zR_n 2 rfl ?_
  refine zW_p (v1 := (0, mb, 0, (W q).2.2.2)) hq rfl rfl fu_s (Nat.le_of_ble_eq_true rfl) rfl rfl rfl ?_
  rw [fu_fu]
  refine zR_n 2 rfl ?_
  refine zW_p (v1 := (0, mb, 0, 0)) hq rfl rfl fu_s (Nat.le_of_ble_eq_true rfl) rfl rfl rfl ?_
  rw [fu_fu]
  exact zR_e rfl rfl rfl rfl rfl rfl
set_option maxRecDepth 10000 in
theorem c_Re_becomeInfinite {q : Nat} {mb : Bool} (hq : RP q) : zE L xs d m_Re_becomeInfinite [.ref q, .int (bI mb)] (sH f g sg A W x y Mc T) (.inl none) (sH f g sg A (fu W q (2, mb, 0, 0)) x y Mc T) := by
  refine ⟨0, Nat.zero_le _, ?_⟩
  refine zR_n 2 rfl ?_
  refine zW_p (v1 := (2, (W q).2)) hq rfl rfl rfl (Nat.le_of_ble_eq_true rfl) rfl rfl rfl ?_
  refine zR_n 2 rfl ?_
  refine zW_p (v1 := (2, mb, (W q).2.2)) hq rfl rfl fu_s (Nat.le_of_ble_eq_true rfl) (bI_put _ _ _ rfl rfl) rfl rfl ?_
  rw [fu_fu]
  refine zR_n 2 rfl ?_
  refine zW_p (v1 := (2, mb, 0, (W q).2.2.2)) hq rfl rfl fu_s (Nat.le_of_ble_eq_true rfl) rfl rfl rfl ?_
  rw [fu_fu]
  refine zR_n 2 rfl ?_
  refine zW_p (v1 := (2, mb, 0, 0)) hq rfl rfl fu_s (Nat.le_of_ble_eq_true rfl) rfl rfl rfl ?_
  rw [fu_fu]
  exact zR_e rfl rfl rfl rfl rfl rfl
set_option maxRecDepth 10000 in
theorem c_Re_becomeFinite {q : Nat} {mb : Bool} {e : Int32} {s : Int64} (hq : RP q) : zE L xs d m_Re_becomeFinite [.ref q, .int (bI mb), .int e, .long s] (sH f g sg A W x y Mc T) (.inl none) (sH f g sg A (fu W q (1, mb, e, s)) x y Mc T) := by
  refine ⟨0, Nat.zero_le _, ?_⟩
  refine zR_n 2 rfl ?_
  refine zW_p (v1 := (1, (W q).2)) hq rfl rfl rfl (Nat.le_of_ble_eq_true rfl) rfl rfl rfl ?_
  refine zR_n 2 rfl ?_
  refine zW_p (v1 := (1, mb, (W q).2.2)) hq rfl rfl fu_s (Nat.le_of_ble_eq_true rfl) (bI_put _ _ _ rfl rfl) rfl rfl ?_
  rw [fu_fu]
  refine zR_n 2 rfl ?_
  refine zW_p (v1 := (1, mb, e, (W q).2.2.2)) hq rfl rfl fu_s (Nat.le_of_ble_eq_true rfl) rfl rfl rfl ?_
  rw [fu_fu]
  refine zR_n 2 rfl ?_
  refine zW_p (v1 := (1, mb, e, s)) hq rfl rfl fu_s (Nat.le_of_ble_eq_true rfl) rfl rfl rfl ?_
  rw [fu_fu]
  exact zR_e rfl rfl rfl rfl rfl rfl
set_option maxRecDepth 10000 in
theorem c_Re_negate {q : Nat} (hq : RP q) : zE L xs d m_Re_negate [.ref q] (sH f g sg A W x y Mc T) (.inl none) (sH f g sg A (fu W q (negR (W q))) x y Mc T) := by
  have fin : ∀ z : Bool, (decide (rk (W q) ≠ 3) && !rn (W q)) = z → zR L xs d m_Re_negate 21 [(0, .ref q)] [.int (bI z), .ref q] (sH f g sg A W x y Mc T) 0 (.inl none) (sH f g sg A (fu W q (negR (W q))) x y Mc T) 0 := by
    intro z hz
    unfold negR
    rw [hz]
    refine zW_p (v1 := (rk (W q), z, re (W q), (W q).2.2.2)) hq rfl rfl rfl (Nat.le_of_ble_eq_true rfl) (bI_put _ _ _ rfl rfl) rfl rfl ?_
    exact zR_e rfl rfl rfl rfl rfl rfl
  refine ⟨0, Nat.zero_le _, ?_⟩
  refine zR_n 2 rfl ?_
  refine zW_g hq rfl rfl rfl rfl rfl ?_
  refine zR_n 2 rfl ?_
  refine zR_if (fun h => ?_) (fun h => ?_)
  · refine zR_n 1 rfl (fin false ?_)
    rw [decide_eq_false (show ¬ rk (W q) ≠ 3 from fun h9 => h9 h)]
    rfl
  · refine zR_n 1 rfl ?_
    refine zW_g hq rfl rfl rfl rfl rfl ?_
    have h9 : (decide (rk (W q) ≠ 3) && !rn (W q)) = !rn (W q) := by
      rw [decide_eq_true (show rk (W q) ≠ 3 from h)]
      rfl
    show zR _ _ _ _ _ _ [Value.int (bI (rn (W q))), Value.ref q] _ _ _ _ _
    cases hn : rn (W q) with
    | true => exact zR_n 2 rfl (fin false (by rw [h9, hn]; rfl))
    | false => exact zR_n 3 rfl (fin true (by rw [h9, hn]; rfl))
end CR
