/-! workOut of the class -/
section WO
variable {L : Nat} {xs : Nat → Int32} {d : Nat} {h : zH} {f : Nat → Int32} {g : Nat → Int64} {sg : Bool} {A : Nat → Option Nat} {W : Nat → RV} {x y v : XV} {Mc : Nat → Int64} {T : List zC} {S : Nat → Nat} {n p w : Nat}
/-- st(k) in a run -/
theorem z_st {mi : ZM} {pc pc' nn k s : Nat} {lv : zL} {r : List Value} {k9 k8 : Nat} {o : zO} {h' : zH} (hS : stk A S) (hn : f 0 = nI n) (hk : k < n) (hn8 : n ≤ 8) (hs : S (n - 1 - k) = s) (hf : zfetch mi pc = some (.invokevirtual nn, 3)) (hx : zCalV (zCno mi) nn = some (m_SR_st, 1)) (hc : (r.map fun v => v.category).sum + 2 ≤ 19) (hm : k9 ≤ zKm mi) (hp : pc + 3 = pc') (hR : zR L xs (d + 1) mi pc' lv (.ref s :: r) (sH f g sg A W x y Mc T) k9 o h' k8) : zR L xs (d + 1) mi pc lv (.int (nI k) :: .ref 0 :: r) (sH f g sg A W x y Mc T) k9 o h' k8 := by
  subst hs
  exact zR_v (k1 := k9) hf hx rfl rfl rfl ⟨rfl, hc, Nat.le_of_ble_eq_true rfl⟩ rfl hm (c_SR_st hn hk hn8 (hS.1 (n - 1 - k) (by omega)).1) rfl hp hR
set_option maxRecDepth 10000 in
theorem w_0 (hS : stk A S) (hn : f 0 = nI n) (h2 : 2 ≤ n) (hn8 : n ≤ 8) (ht : f 4 = nI p) (hw : f 5 = nI w) (hw4 : w < 4) (hp : pOk p) (hx : vOk (W (S (n - 1)))) (hy : vOk (W (S (n - 2)))) : ∃ W' x', (∀ q, q ≠ 10 → q ≠ 11 → W' q = W q) ∧ W' 10 = (sumR w p (W (S (n - 1))) (W (S (n - 2)))).1 ∧ zE L xs (d + 5) m_SR_workOut [.ref 0, .int (nI 0)] (sH f g sg A W x y Mc T) (.inl (some (.int (sumR w p (W (S (n - 1))) (W (S (n - 2)))).2))) (sH f g sg A W' x' y Mc T) := by
  obtain ⟨r0, r1, r2, r3⟩ := stk_R hS (show n - 1 < 8 by omega)
  obtain ⟨q0, q1, q2, q3⟩ := stk_R hS (show n - 2 < 8 by omega)
  obtain ⟨x', hz⟩ := c_Ar_add (L := L) (xs := xs) (d := d) (f := f) (g := g) (sg := sg) (A := A) (W := W) (x := x) (y := y) (Mc := Mc) (T := T) q0 r0 q1 r1 ht hw hw4 hp hy hx
  generalize sumR w p (W (S (n - 1))) (W (S (n - 2))) = r at *
  refine ⟨fu W 10 r.1, x', fun q h1 _ => fu_n h1, fu_s, 0, Nat.zero_le _, ?_⟩
  refine zR_to 78 (st' := [.int (nI 1), .ref 0, .ref 13]) rfl ?_
  refine z_st (k := 1) (s := S (n - 2)) hS hn (by omega) hn8 rfl rfl rfl (Nat.le_of_ble_eq_true rfl) (Nat.zero_le _) rfl ?_
  refine zR_to 83 (st' := [.int (nI 0), .ref 0, .ref (S (n - 2)), .ref 13]) rfl ?_
  refine z_st (k := 0) (s := S (n - 1)) hS hn (by omega) hn8 rfl rfl rfl (Nat.le_of_ble_eq_true rfl) (Nat.zero_le _) rfl ?_
  refine zR_to 90 (st' := [.ref 10, .ref (S (n - 1)), .ref (S (n - 2)), .ref 13]) rfl ?_
  refine zR_v rfl rfl rfl rfl rfl ⟨rfl, Nat.le_of_ble_eq_true rfl, Nat.le_of_ble_eq_true rfl⟩ rfl (Nat.le_refl _) hz rfl rfl ?_
  exact zR_e rfl rfl rfl rfl rfl rfl
set_option maxRecDepth 10000 in
theorem w_1 (hS : stk A S) (hn : f 0 = nI n) (h2 : 2 ≤ n) (hn8 : n ≤ 8) (ht : f 4 = nI p) (hw : f 5 = nI w) (hw4 : w < 4) (hp : pOk p) (hx : vOk (W (S (n - 1)))) (hy : vOk (W (S (n - 2)))) : ∃ W' x', (∀ q, q ≠ 10 → q ≠ 11 → W' q = W q) ∧ W' 10 = (sumR w p (negR (W (S (n - 1)))) (W (S (n - 2)))).1 ∧ zE L xs (d + 5) m_SR_workOut [.ref 0, .int (nI 1)] (sH f g sg A W x y Mc T) (.inl (some (.int (sumR w p (negR (W (S (n - 1)))) (W (S (n - 2)))).2))) (sH f g sg A W' x' y Mc T) := by
  obtain ⟨r0, r1, r2, r3⟩ := stk_R hS (show n - 1 < 8 by omega)
  obtain ⟨q0, q1, q2, q3⟩ := stk_R hS (show n - 2 < 8 by omega)
  have h11 : RP 11 := Or.inl ⟨by decide, by decide⟩
  have e1 : fu W 11 (negR (W (S (n - 1)))) (S (n - 2)) = W (S (n - 2)) := fu_n q2
  obtain ⟨x', hz⟩ := c_Ar_add (L := L) (xs := xs) (d := d) (f := f) (g := g) (sg := sg) (A := A) (W := fu W 11 (negR (W (S (n - 1))))) (x := x) (y := y) (Mc := Mc) (T := T) (q := S (n - 2)) (j := 11) q0 h11 q1 (by decide) ht hw hw4 hp (by rw [e1]; exact hy) (by rw [fu_s]; exact negR_ok hx)
  rw [fu_s, e1] at hz
  have hcp := c_Re_copy (L := L) (xs := xs) (d := d + 4) (f := f) (g := g) (sg := sg) (A := A) (W := W) (x := x) (y := y) (Mc := Mc) (T := T) h11 r0 r2
  have hng := c_Re_negate (L := L) (xs := xs) (d := d + 4) (f := f) (g := g) (sg := sg) (A := A) (W := fu W 11 (W (S (n - 1)))) (x := x) (y := y) (Mc := Mc) (T := T) h11
  rw [fu_s, fu_fu] at hng
  generalize sumR w p (negR (W (S (n - 1)))) (W (S (n - 2))) = r at *
  generalize negR (W (S (n - 1))) = nv at *
  refine ⟨fu (fu W 11 nv) 10 r.1, x', fun q h1 h9 => by rw [fu_n h1, fu_n h9], fu_s, 0, Nat.zero_le _, ?_⟩
  refine zR_to 100 (st' := [.int (nI 0), .ref 0, .ref 11]) rfl ?_
  refine z_st (k := 0) (s := S (n - 1)) hS hn (by omega) hn8 rfl rfl rfl (Nat.le_of_ble_eq_true rfl) (Nat.zero_le _) rfl ?_
  refine zR_v rfl rfl rfl rfl rfl ⟨rfl, Nat.le_of_ble_eq_true rfl, Nat.le_of_ble_eq_true rfl⟩ rfl (Nat.le_refl _) hcp rfl rfl ?_
  refine zR_to 110 (st' := [.ref 11]) rfl ?_
  refine zR_v rfl rfl rfl rfl rfl ⟨rfl, Nat.le_of_ble_eq_true rfl, Nat.le_of_ble_eq_true rfl⟩ rfl (Nat.le_refl _) hng rfl rfl ?_
  generalize fu W 11 nv = W1 at *
  refine zR_to 119 (st' := [.int (nI 1), .ref 0, .ref 13]) rfl ?_
  refine z_st (k := 1) (s := S (n - 2)) hS hn (by omega) hn8 rfl rfl rfl (Nat.le_of_ble_eq_true rfl) (Nat.zero_le _) rfl ?_
  refine zR_to 130 (st' := [.ref 10, .ref 11, .ref (S (n - 2)), .ref 13]) rfl ?_
  refine zR_v rfl rfl rfl rfl rfl ⟨rfl, Nat.le_of_ble_eq_true rfl, Nat.le_of_ble_eq_true rfl⟩ rfl (Nat.le_refl _) hz rfl rfl ?_
  exact zR_e rfl rfl rfl rfl rfl rfl
set_option maxRecDepth 10000 in
theorem w_2 (hS : stk A S) (hn : f 0 = nI n) (h2 : 2 ≤ n) (hn8 : n ≤ 8) (ht : f 4 = nI p) (hw : f 5 = nI w) (hw4 : w < 4) (hp : pOk p) (hx : vOk (W (S (n - 1)))) (hy : vOk (W (S (n - 2)))) : ∃ W' x', (∀ q, q ≠ 10 → q ≠ 11 → W' q = W q) ∧ W' 10 = (mulR w p (W (S (n - 1))) (W (S (n - 2)))).1 ∧ zE L xs (d + 5) m_SR_workOut [.ref 0, .int (nI 2)] (sH f g sg A W x y Mc T) (.inl (some (.int (mulR w p (W (S (n - 1))) (W (S (n - 2)))).2))) (sH f g sg A W' x' y Mc T) := by
  obtain ⟨r0, r1, r2, r3⟩ := stk_R hS (show n - 1 < 8 by omega)
  obtain ⟨q0, q1, q2, q3⟩ := stk_R hS (show n - 2 < 8 by omega)
  obtain ⟨x', hz⟩ := c_Ar_multiply (L := L) (xs := xs) (d := d + 1) (f := f) (g := g) (sg := sg) (A := A) (W := W) (x := x) (y := y) (Mc := Mc) (T := T) q0 r0 ht hw hw4 hp hy hx
  generalize mulR w p (W (S (n - 1))) (W (S (n - 2))) = r at *
  refine ⟨fu W 10 r.1, x', fun q h1 _ => fu_n h1, fu_s, 0, Nat.zero_le _, ?_⟩
  refine zR_to 140 (st' := [.int (nI 1), .ref 0, .ref 13]) rfl ?_
  refine z_st (k := 1) (s := S (n - 2)) hS hn (by omega) hn8 rfl rfl rfl (Nat.le_of_ble_eq_true rfl) (Nat.zero_le _) rfl ?_
  refine zR_to 145 (st' := [.int (nI 0), .ref 0, .ref (S (n - 2)), .ref 13]) rfl ?_
  refine z_st (k := 0) (s := S (n - 1)) hS hn (by omega) hn8 rfl rfl rfl (Nat.le_of_ble_eq_true rfl) (Nat.zero_le _) rfl ?_
  refine zR_to 152 (st' := [.ref 10, .ref (S (n - 1)), .ref (S (n - 2)), .ref 13]) rfl ?_
  refine zR_v rfl rfl rfl rfl rfl ⟨rfl, Nat.le_of_ble_eq_true rfl, Nat.le_of_ble_eq_true rfl⟩ rfl (Nat.le_refl _) hz rfl rfl ?_
  exact zR_e rfl rfl rfl rfl rfl rfl
set_option maxRecDepth 10000 in
theorem w_3 (hS : stk A S) (hn : f 0 = nI n) (h2 : 2 ≤ n) (hn8 : n ≤ 8) (ht : f 4 = nI p) (hw : f 5 = nI w) (hw4 : w < 4) (hp : pOk p) (hx : vOk (W (S (n - 1)))) (hy : vOk (W (S (n - 2)))) : ∃ W' x', (∀ q, q ≠ 10 → q ≠ 11 → W' q = W q) ∧ W' 10 = (divR w p (W (S (n - 2))) (W (S (n - 1)))).1 ∧ zE L xs (d + 5) m_SR_workOut [.ref 0, .int (nI 3)] (sH f g sg A W x y Mc T) (.inl (some (.int (divR w p (W (S (n - 2))) (W (S (n - 1)))).2))) (sH f g sg A W' x' y Mc T) := by
  obtain ⟨r0, r1, r2, r3⟩ := stk_R hS (show n - 1 < 8 by omega)
  obtain ⟨q0, q1, q2, q3⟩ := stk_R hS (show n - 2 < 8 by omega)
  obtain ⟨x', hz⟩ := c_Ar_divide (L := L) (xs := xs) (d := d + 1) (f := f) (g := g) (sg := sg) (A := A) (W := W) (x := x) (y := y) (Mc := Mc) (T := T) q0 r0 ht hw hw4 hp hy hx
  generalize divR w p (W (S (n - 2))) (W (S (n - 1))) = r at *
  refine ⟨fu W 10 r.1, x', fun q h1 _ => fu_n h1, fu_s, 0, Nat.zero_le _, ?_⟩
  refine zR_to 162 (st' := [.int (nI 1), .ref 0, .ref 13]) rfl ?_
  refine z_st (k := 1) (s := S (n - 2)) hS hn (by omega) hn8 rfl rfl rfl (Nat.le_of_ble_eq_true rfl) (Nat.zero_le _) rfl ?_
  refine zR_to 167 (st' := [.int (nI 0), .ref 0, .ref (S (n - 2)), .ref 13]) rfl ?_
  refine z_st (k := 0) (s := S (n - 1)) hS hn (by omega) hn8 rfl rfl rfl (Nat.le_of_ble_eq_true rfl) (Nat.zero_le _) rfl ?_
  refine zR_to 174 (st' := [.ref 10, .ref (S (n - 1)), .ref (S (n - 2)), .ref 13]) rfl ?_
  refine zR_v rfl rfl rfl rfl rfl ⟨rfl, Nat.le_of_ble_eq_true rfl, Nat.le_of_ble_eq_true rfl⟩ rfl (Nat.le_refl _) hz rfl rfl ?_
  exact zR_e rfl rfl rfl rfl rfl rfl
set_option maxRecDepth 10000 in
theorem w_4 (hS : stk A S) (hn : f 0 = nI n) (h1 : 1 ≤ n) (hn8 : n ≤ 8) (ht : f 4 = nI p) (hw : f 5 = nI w) (hw4 : w < 4) (hp : pOk p) (hx : vOk (W (S (n - 1)))) : ∃ W' x', (∀ q, q ≠ 10 → q ≠ 11 → W' q = W q) ∧ W' 10 = (rootR w p (W (S (n - 1)))).1 ∧ zE L xs (d + 5) m_SR_workOut [.ref 0, .int (nI 4)] (sH f g sg A W x y Mc T) (.inl (some (.int (rootR w p (W (S (n - 1)))).2))) (sH f g sg A W' x' y Mc T) := by
  obtain ⟨r0, r1, r2, r3⟩ := stk_R hS (show n - 1 < 8 by omega)
  obtain ⟨x', hz⟩ := c_Ar_root (L := L) (xs := xs) (d := d + 1) (f := f) (g := g) (sg := sg) (A := A) (W := W) (x := x) (y := y) (Mc := Mc) (T := T) r0 r1 ht hw hw4 hp hx
  generalize rootR w p (W (S (n - 1))) = r at *
  refine ⟨fu W 10 r.1, x', fun q h1 _ => fu_n h1, fu_s, 0, Nat.zero_le _, ?_⟩
  refine zR_to 184 (st' := [.int (nI 0), .ref 0, .ref 13]) rfl ?_
  refine z_st (k := 0) (s := S (n - 1)) hS hn (by omega) hn8 rfl rfl rfl (Nat.le_of_ble_eq_true rfl) (Nat.zero_le _) rfl ?_
  refine zR_to 191 (st' := [.ref 10, .ref (S (n - 1)), .ref 13]) rfl ?_
  refine zR_v rfl rfl rfl rfl rfl ⟨rfl, Nat.le_of_ble_eq_true rfl, Nat.le_of_ble_eq_true rfl⟩ rfl (Nat.le_refl _) hz rfl rfl ?_
  exact zR_e rfl rfl rfl rfl rfl rfl
set_option maxRecDepth 10000 in
theorem w_5 (hS : stk A S) (hn : f 0 = nI n) (h1 : 1 ≤ n) (hn8 : n ≤ 8) (hw : f 5 = nI w) (hw4 : w < 4) (hx : vOk (W (S (n - 1)))) : ∃ W' x', (∀ q, q ≠ 10 → q ≠ 11 → W' q = W q) ∧ W' 10 = (intR w (W (S (n - 1)))).1 ∧ zE L xs (d + 5) m_SR_workOut [.ref 0, .int (nI 5)] (sH f g sg A W x y Mc T) (.inl (some (.int (intR w (W (S (n - 1)))).2))) (sH f g sg A W' x' y Mc T) := by
  obtain ⟨r0, r1, r2, r3⟩ := stk_R hS (show n - 1 < 8 by omega)
  have hz := c_Ar_makeWhole (L := L) (xs := xs) (d := d + 2) (f := f) (g := g) (sg := sg) (A := A) (W := W) (x := x) (y := y) (Mc := Mc) (T := T) r0 r1 hw hw4 hx
  generalize intR w (W (S (n - 1))) = r at *
  refine ⟨fu W 10 r.1, x, fun q h1 _ => fu_n h1, fu_s, 0, Nat.zero_le _, ?_⟩
  refine zR_to 201 (st' := [.int (nI 0), .ref 0, .ref 13]) rfl ?_
  refine z_st (k := 0) (s := S (n - 1)) hS hn (by omega) hn8 rfl rfl rfl (Nat.le_of_ble_eq_true rfl) (Nat.zero_le _) rfl ?_
  refine zR_to 208 (st' := [.ref 10, .ref (S (n - 1)), .ref 13]) rfl ?_
  refine zR_v rfl rfl rfl rfl rfl ⟨rfl, Nat.le_of_ble_eq_true rfl, Nat.le_of_ble_eq_true rfl⟩ rfl (Nat.le_refl _) hz rfl rfl ?_
  exact zR_e rfl rfl rfl rfl rfl rfl
set_option maxRecDepth 10000 in
theorem w_6 (hS : stk A S) (hn : f 0 = nI n) (h2 : 2 ≤ n) (hn8 : n ≤ 8) (ht : f 4 = nI p) (hw : f 5 = nI w) (hw4 : w < 4) (hp : pOk p) (hx : vOk (W (S (n - 1)))) (hy : vOk (W (S (n - 2)))) : ∃ W' x', (∀ q, q ≠ 10 → q ≠ 11 → W' q = W q) ∧ W' 10 = (sclR w p (W (S (n - 1))) (W (S (n - 2)))).1 ∧ zE L xs (d + 5) m_SR_workOut [.ref 0, .int (nI 6)] (sH f g sg A W x y Mc T) (.inl (some (.int (sclR w p (W (S (n - 1))) (W (S (n - 2)))).2))) (sH f g sg A W' x' y Mc T) := by
  obtain ⟨r0, r1, r2, r3⟩ := stk_R hS (show n - 1 < 8 by omega)
  obtain ⟨q0, q1, q2, q3⟩ := stk_R hS (show n - 2 < 8 by omega)
  obtain ⟨x', hz⟩ := c_Ar_scale (L := L) (xs := xs) (d := d + 1) (f := f) (g := g) (sg := sg) (A := A) (W := W) (x := x) (y := y) (Mc := Mc) (T := T) r0 q0 r1 ht hw hw4 hp hx hy
  generalize sclR w p (W (S (n - 1))) (W (S (n - 2))) = r at *
  refine ⟨fu W 10 r.1, x', fun q h1 _ => fu_n h1, fu_s, 0, Nat.zero_le _, ?_⟩
  refine zR_to 218 (st' := [.int (nI 0), .ref 0, .ref 13]) rfl ?_
  refine z_st (k := 0) (s := S (n - 1)) hS hn (by omega) hn8 rfl rfl rfl (Nat.le_of_ble_eq_true rfl) (Nat.zero_le _) rfl ?_
  refine zR_to 223 (st' := [.int (nI 1), .ref 0, .ref (S (n - 1)), .ref 13]) rfl ?_
  refine z_st (k := 1) (s := S (n - 2)) hS hn (by omega) hn8 rfl rfl rfl (Nat.le_of_ble_eq_true rfl) (Nat.zero_le _) rfl ?_
  refine zR_to 230 (st' := [.ref 10, .ref (S (n - 2)), .ref (S (n - 1)), .ref 13]) rfl ?_
  refine zR_v rfl rfl rfl rfl rfl ⟨rfl, Nat.le_of_ble_eq_true rfl, Nat.le_of_ble_eq_true rfl⟩ rfl (Nat.le_refl _) hz rfl rfl ?_
  exact zR_e rfl rfl rfl rfl rfl rfl
set_option maxRecDepth 10000 in
theorem w_13 (hS : stk A S) (hn : f 0 = nI n) (h2 : 2 ≤ n) (hn8 : n ≤ 8) : zE L xs (d + 5) m_SR_workOut [.ref 0, .int (nI 13)] (sH f g sg A W x y Mc T) (.inl (some (.int (if eit (W (S (n - 1))) (W (S (n - 2))) 3 then 1 else 0)))) (sH f g sg A W x y Mc T) := by
  obtain ⟨r0, r1, r2, r3⟩ := stk_R hS (show n - 1 < 8 by omega)
  obtain ⟨q0, q1, q2, q3⟩ := stk_R hS (show n - 2 < 8 by omega)
  refine ⟨0, Nat.zero_le _, ?_⟩
  refine zR_to 236 (st' := [.int (nI 0), .ref 0]) rfl ?_
  refine z_st (k := 0) (s := S (n - 1)) hS hn (by omega) hn8 rfl rfl rfl (Nat.le_of_ble_eq_true rfl) (Nat.zero_le _) rfl ?_
  refine zW_g r0 rfl rfl rfl rfl rfl ?_
  refine zR_n 2 rfl ?_
  refine zR_if (fun h => ?_) (fun h => ?_)
  · rw [show eit (W (S (n - 1))) (W (S (n - 2))) 3 = true from by unfold eit; rw [decide_eq_true (show rk (W (S (n - 1))) = 3 from h)]; rfl]
    exact zR_to 263 rfl (zR_e rfl rfl rfl rfl rfl rfl)
  · refine zR_n 2 rfl ?_
    refine z_st (k := 1) (s := S (n - 2)) hS hn (by omega) hn8 rfl rfl rfl (Nat.le_of_ble_eq_true rfl) (Nat.zero_le _) rfl ?_
    refine zW_g q0 rfl rfl rfl rfl rfl ?_
    refine zR_n 2 rfl ?_
    refine zR_if (fun h1 => ?_) (fun h1 => ?_)
    · rw [show eit (W (S (n - 1))) (W (S (n - 2))) 3 = false from by unfold eit; rw [decide_eq_false (show ¬ rk (W (S (n - 1))) = 3 from h), decide_eq_false (show ¬ rk (W (S (n - 2))) = 3 from h1)]; rfl]
      exact zR_to 263 rfl (zR_e rfl rfl rfl rfl rfl rfl)
    · rw [show eit (W (S (n - 1))) (W (S (n - 2))) 3 = true from by unfold eit; rw [decide_eq_true (show rk (W (S (n - 2))) = 3 from Decidable.of_not_not h1)]; simp]
      exact zR_to 263 rfl (zR_e rfl rfl rfl rfl rfl rfl)
set_option maxRecDepth 10000 in
theorem w_d {op : Nat} (hop : op < 16) (h7 : 7 ≤ op) (h13 : op ≠ 13) : zE L xs (d + 5) m_SR_workOut [.ref 0, .int (nI op)] (sH f g sg A W x y Mc T) (.inl (some (.int 0))) (sH f g sg A W x y Mc T) := by
  obtain rfl | rfl | rfl | rfl | rfl | rfl | rfl | rfl : op = 7 ∨ op = 8 ∨ op = 9 ∨ op = 10 ∨ op = 11 ∨ op = 12 ∨ op = 14 ∨ op = 15 := by omega
  all_goals exact zE_m (n := 20) rfl (Nat.le_refl _)
end WO
