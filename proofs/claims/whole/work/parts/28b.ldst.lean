/-! load, store of the class -/
def SRld (L : Nat) (xs : Nat → Int32) (d : Nat) (T : List zC) (C : Nat → zC) (n p w : Nat) (mk fl cd : Int32) (v : Nat → RV) (t fA : Nat) (c : Int32) (cm : Int64) (Mm : Nat → Int64) (yy z e : Int32) (n' : Nat) (v' : Nat → RV) : Prop :=
  ∃ C', cS C' (if thr mk e then n else n') p w mk (fl ||| e) cd (if thr mk e then v else v') (t + (fA - t)) (t + (fA - t) + 4) (-1) cm (flM c cm Mm) ∧ zE L xs (d + 7) m_SR_load [.ref 0, .int yy, .int z] (cH C T) (if thr mk e then .inr 2 else .inl (some (.int e))) (cH C' T)
def SRst (L : Nat) (xs : Nat → Int32) (d : Nat) (T : List zC) (C : Nat → zC) (n p w : Nat) (mk fl cd : Int32) (v : Nat → RV) (t fA : Nat) (c : Int32) (cm : Int64) (Mm : Nat → Int64) (yy z e : Int32) (n' : Nat) (c' : Int32) (cm' : Int64) : Prop :=
  ∃ C', cS C' (if thr mk e then n else n') p w mk (fl ||| e) cd v (t + (fA - t)) (t + (fA - t) + 10) (if thr mk e then -1 else c') (if thr mk e then cm else cm') (flM c cm Mm) ∧ zE L xs (d + 7) m_SR_store [.ref 0, .int yy, .int z] (cH C T) (if thr mk e then .inr 2 else .inl (some (.int e))) (cH C' T)
section LS
variable {L : Nat} {xs : Nat → Int32} {d : Nat} {h : zH} {T : List zC} {C : Nat → zC} {n p w : Nat} {mk fl cd : Int32} {v : Nat → RV} {t fA : Nat} {c : Int32} {cm : Int64} {Mm : Nat → Int64} {z yy : Int32}
set_option maxRecDepth 10000 in
theorem c_SR_load0 (hb : outB yy (nI 8) = true ∨ outB z (nI 4) = true) : zE L xs (d + 6) m_SR_load [.ref 0, .int yy, .int z] h (.inr 1) h := by
  have t14 : zR L xs (d + 6) m_SR_load 14 [(0, .ref 0), (1, .int yy), (2, .int z)] [] h 0 (.inr 1) h 1 := zR_t rfl rfl rfl rfl rfl rfl ⟨Nat.le_refl _, rfl, by omega⟩
  refine ⟨1, Nat.le_refl _, ?_⟩
  refine zR_n 1 rfl ?_
  refine zR_i rfl rfl rfl rfl ⟨Nat.le_of_ble_eq_true rfl, Nat.le_of_ble_eq_true rfl, Nat.le_of_ble_eq_true rfl⟩ rfl (Nat.le_of_ble_eq_true rfl) (c_SR_isCell (z := yy)) rfl rfl ?_
  cases h1 : outB yy (nI 8) with
  | true => exact zR_n 1 rfl t14
  | false =>
    refine zR_n 2 rfl ?_
    refine zR_i rfl rfl rfl rfl ⟨Nat.le_of_ble_eq_true rfl, Nat.le_of_ble_eq_true rfl, Nat.le_of_ble_eq_true rfl⟩ rfl (Nat.le_of_ble_eq_true rfl) (c_SR_isForm (z := z)) rfl rfl ?_
    have h2 : outB z (nI 4) = true := by
      rcases hb with h9 | h9
      · rw [h1] at h9
        cases h9
      · exact h9
    rw [h2]
    exact zR_n 1 rfl t14
set_option maxRecDepth 10000 in
theorem c_SR_store0 (hb : outB yy (nI 8) = true ∨ outB z (nI 4) = true) : zE L xs (d + 6) m_SR_store [.ref 0, .int yy, .int z] h (.inr 1) h := by
  have t14 : zR L xs (d + 6) m_SR_store 14 [(0, .ref 0), (1, .int yy), (2, .int z)] [] h 0 (.inr 1) h 1 := zR_t rfl rfl rfl rfl rfl rfl ⟨Nat.le_refl _, rfl, by omega⟩
  refine ⟨1, Nat.le_refl _, ?_⟩
  refine zR_n 1 rfl ?_
  refine zR_i rfl rfl rfl rfl ⟨Nat.le_of_ble_eq_true rfl, Nat.le_of_ble_eq_true rfl, Nat.le_of_ble_eq_true rfl⟩ rfl (Nat.le_of_ble_eq_true rfl) (c_SR_isCell (z := yy)) rfl rfl ?_
  cases h1 : outB yy (nI 8) with
  | true => exact zR_n 1 rfl t14
  | false =>
    refine zR_n 2 rfl ?_
    refine zR_i rfl rfl rfl rfl ⟨Nat.le_of_ble_eq_true rfl, Nat.le_of_ble_eq_true rfl, Nat.le_of_ble_eq_true rfl⟩ rfl (Nat.le_of_ble_eq_true rfl) (c_SR_isForm (z := z)) rfl rfl ?_
    have h2 : outB z (nI 4) = true := by
      rcases hb with h9 | h9
      · rw [h1] at h9
        cases h9
      · exact h9
    rw [h2]
    exact zR_n 1 rfl t14
section HD
variable {f : Nat → Int32} {g : Nat → Int64} {sg : Bool} {A : Nat → Option Nat} {W : Nat → RV} {x y : XV} {Mc : Nat → Int64} {S : Nat → Nat}
set_option maxRecDepth 10000 in
theorem hd_load {j fm j1 k9 : Nat} {o : zO} {h9 : zH} (hj : j < 8) (hfm : fm < 4) (ht : g 1 = lN t) (hf : g 2 = lN fA) (h1 : t < 2 ^ 61) (h2 : fA < 2 ^ 61) (h3 : fA - t < 2 ^ 31) (hj1 : sg = true → f 6 = nI j1 ∧ j1 < 8) (hk : k9 ≤ 1)
    (hr : zR L xs (d + 3) m_SR_load 32 [(0, .ref 0), (1, .int (nI j)), (2, .int (nI fm))] [] (sH f (fu (fu g 1 (lN (t + (fA - t)))) 2 (lN (t + (fA - t) + 4))) false A W x y (mFl sg Mc j1 (g 3)) T) 0 o h9 k9) : zE L xs (d + 3) m_SR_load [.ref 0, .int (nI j), .int (nI fm)] (sH f g sg A W x y Mc T) o h9 := by
  refine ⟨k9, hk, ?_⟩
  refine zR_n 1 rfl ?_
  refine zR_i rfl rfl rfl rfl ⟨Nat.le_of_ble_eq_true rfl, Nat.le_of_ble_eq_true rfl, Nat.le_of_ble_eq_true rfl⟩ rfl (Nat.le_of_ble_eq_true rfl) (c_SR_isCell (z := nI j)) rfl rfl ?_
  rw [out8 hj]
  refine zR_n 2 rfl ?_
  refine zR_i rfl rfl rfl rfl ⟨Nat.le_of_ble_eq_true rfl, Nat.le_of_ble_eq_true rfl, Nat.le_of_ble_eq_true rfl⟩ rfl (Nat.le_of_ble_eq_true rfl) (c_SR_isForm (z := nI fm)) rfl rfl ?_
  rw [out4 hfm]
  refine zR_to 29 (st' := [.int (nI 4), .ref 18]) rfl ?_
  exact zR_v rfl rfl rfl rfl rfl ⟨rfl, Nat.le_of_ble_eq_true rfl, Nat.le_of_ble_eq_true rfl⟩ rfl (Nat.le_of_ble_eq_true rfl) (c_Me_occupy (n := 4) ht hf h1 h2 h3 (by decide) hj1) rfl rfl hr
set_option maxRecDepth 10000 in
theorem hd_store {j fm j1 k9 : Nat} {o : zO} {h9 : zH} (hj : j < 8) (hfm : fm < 4) (ht : g 1 = lN t) (hf : g 2 = lN fA) (h1 : t < 2 ^ 61) (h2 : fA < 2 ^ 61) (h3 : fA - t < 2 ^ 31) (hj1 : sg = true → f 6 = nI j1 ∧ j1 < 8) (hk : k9 ≤ 1)
    (hr : zR L xs (d + 3) m_SR_store 33 [(0, .ref 0), (1, .int (nI j)), (2, .int (nI fm))] [] (sH f (fu (fu g 1 (lN (t + (fA - t)))) 2 (lN (t + (fA - t) + 10))) false A W x y (mFl sg Mc j1 (g 3)) T) 0 o h9 k9) : zE L xs (d + 3) m_SR_store [.ref 0, .int (nI j), .int (nI fm)] (sH f g sg A W x y Mc T) o h9 := by
  refine ⟨k9, hk, ?_⟩
  refine zR_n 1 rfl ?_
  refine zR_i rfl rfl rfl rfl ⟨Nat.le_of_ble_eq_true rfl, Nat.le_of_ble_eq_true rfl, Nat.le_of_ble_eq_true rfl⟩ rfl (Nat.le_of_ble_eq_true rfl) (c_SR_isCell (z := nI j)) rfl rfl ?_
  rw [out8 hj]
  refine zR_n 2 rfl ?_
  refine zR_i rfl rfl rfl rfl ⟨Nat.le_of_ble_eq_true rfl, Nat.le_of_ble_eq_true rfl, Nat.le_of_ble_eq_true rfl⟩ rfl (Nat.le_of_ble_eq_true rfl) (c_SR_isForm (z := nI fm)) rfl rfl ?_
  rw [out4 hfm]
  refine zR_to 30 (st' := [.int (nI 10), .ref 18]) rfl ?_
  exact zR_v rfl rfl rfl rfl rfl ⟨rfl, Nat.le_of_ble_eq_true rfl, Nat.le_of_ble_eq_true rfl⟩ rfl (Nat.le_of_ble_eq_true rfl) (c_Me_occupy (n := 10) ht hf h1 h2 h3 (by decide) hj1) rfl rfl hr
end HD
set_option maxRecDepth 10000 in
theorem s_ldn {j fm : Nat} (hI : sI C n p w mk fl cd v t fA c cm Mm) (hj : j < 8) (hfm : fm < 4) (h8 : n = 8) : SRld L xs d T C n p w mk fl cd v t fA c cm Mm (nI j) (nI fm) 1 n v := by
  obtain ⟨⟨f, g, sg, A, W, x, y, Mc, S, rfl, f0, f1, f2, f3, f4, f5, g1, g2, hS, hW, hst, hM⟩, hn8, h1, h2, h3, hp, hw4, hv⟩ := hI
  obtain ⟨hj1, hfl⟩ := cS_fl (g := g) hst hM
  have hd : ∀ {o : zO} {h9 : zH} {k9 : Nat}, k9 ≤ 1 → zR L xs (d + 7) m_SR_load 43 [(0, .ref 0), (1, .int (nI j)), (2, .int (nI fm))] [.int 1, .ref 0] (sH f (fu (fu g 1 (lN (t + (fA - t)))) 2 (lN (t + (fA - t) + 4))) false A W x y (mFl sg Mc c.toNatClampNeg (g 3)) T) 0 o h9 k9 → zE L xs (d + 7) m_SR_load [.ref 0, .int (nI j), .int (nI fm)] (sH f g sg A W x y Mc T) o h9 := fun {o h9 k9} hk hr => by
    refine hd_load (d := d + 4) hj hfm g1 g2 h1 h2 h3 hj1 hk ?_
    generalize fu (fu g 1 (lN (t + (fA - t)))) 2 (lN (t + (fA - t) + 4)) = gg at *
    generalize mFl sg Mc c.toNatClampNeg (g 3) = MM at *
    refine zR_to 38 (st' := [.int (nI 8), .int (f 0)]) rfl ?_
    rw [f0, h8]
    exact zR_to 43 rfl hr
  have cs : cS (sC (fu f 2 (f 2 ||| 1)) (fu (fu g 1 (lN (t + (fA - t)))) 2 (lN (t + (fA - t) + 4))) false A W x y (mFl sg Mc c.toNatClampNeg (g 3))) n p w mk (fl ||| 1) cd v (t + (fA - t)) (t + (fA - t) + 4) (-1) cm (flM c cm Mm) :=
    ⟨_, _, _, _, _, _, _, _, S, rfl, f0, f1, by rw [← f2]; rfl, f3, f4, f5, rfl, rfl, hS, hW, Or.inl ⟨rfl, rfl⟩, hfl⟩
  unfold SRld
  cases hth : thr mk 1 with
  | true =>
    refine ⟨_, cs, hd (k9 := 1) (Nat.le_refl _) ?_⟩
    exact zR_ct rfl rfl rfl rfl (Nat.le_refl _) (c_SR_raise1 (d := d) (by rw [f1]; exact hth)) rfl
  | false =>
    refine ⟨_, cs, hd (k9 := 1) (Nat.le_refl _) ?_⟩
    refine zR_v rfl rfl rfl rfl rfl ⟨rfl, Nat.le_of_ble_eq_true rfl, Nat.le_of_ble_eq_true rfl⟩ rfl (Nat.le_of_ble_eq_true rfl) (c_SR_raise0 (by rw [f1]; exact hth)) rfl rfl ?_
    exact zR_e rfl rfl rfl rfl rfl rfl
set_option maxRecDepth 10000 in
theorem s_ld {j fm : Nat} (hI : sI C n p w mk fl cd v t fA c cm Mm) (hj : j < 8) (hfm : fm < 4) (h8 : n < 8) : SRld L xs d T C n p w mk fl cd v t fA c cm Mm (nI j) (nI fm) (ldR fm (flM c cm Mm j)).2 (n + 1) (fu v n (ldR fm (flM c cm Mm j)).1) := by
  obtain ⟨⟨f, g, sg, A, W, x, y, Mc, S, rfl, f0, f1, f2, f3, f4, f5, g1, g2, hS, hW, hst, hM⟩, hn8, h1, h2, h3, hp, hw4, hv⟩ := hI
  obtain ⟨hj1, hfl⟩ := cS_fl (g := g) hst hM
  generalize hr9 : ldR fm (flM c cm Mm j) = r
  have hdec := c_Fo_decode (L := L) (xs := xs) (d := d + 3) (f := f) (g := fu (fu g 1 (lN (t + (fA - t)))) 2 (lN (t + (fA - t) + 4))) (sg := false) (A := A) (W := W) (x := x) (y := y) (Mc := mFl sg Mc c.toNatClampNeg (g 3)) (T := T) (z := flM c cm Mm j) hfm
  rw [hr9] at hdec
  have hd : ∀ {o : zO} {h9 : zH} {k9 : Nat}, k9 ≤ 1 → zR L xs (d + 7) m_SR_load 69 [(0, .ref 0), (1, .int (nI j)), (2, .int (nI fm))] [.int r.2, .ref 0] (sH f (fu (fu g 1 (lN (t + (fA - t)))) 2 (lN (t + (fA - t) + 4))) false A (fu W 10 r.1) x y (mFl sg Mc c.toNatClampNeg (g 3)) T) 0 o h9 k9 → zE L xs (d + 7) m_SR_load [.ref 0, .int (nI j), .int (nI fm)] (sH f g sg A W x y Mc T) o h9 := fun {o h9 k9} hk hr => by
    refine hd_load (d := d + 4) hj hfm g1 g2 h1 h2 h3 hj1 hk ?_
    have hz := hfl j hj
    generalize fu (fu g 1 (lN (t + (fA - t)))) 2 (lN (t + (fA - t) + 4)) = gg at *
    generalize mFl sg Mc c.toNatClampNeg (g 3) = MM at *
    refine zR_to 38 (st' := [.int (nI 8), .int (f 0)]) rfl ?_
    rw [f0]
    refine zR_m 1 rfl ?_
    refine zR_if (fun _ => ?_) (fun h9 => absurd ((nI_ltI (by omega) (by omega)).mpr h8) h9)
    refine zR_to 60 (st' := [.int (nI j), .ref 19, .ref 15, .ref 0]) rfl ?_
    refine zR_la (q := 19) (N := 8) (f := MM) (v := flM c cm Mm j) rfl rfl (in_nI hj (by decide)) (by rw [nI_clamp (by omega)]; exact hz) rfl ?_
    refine zR_to 66 (st' := [.ref 10, .int (nI fm), .long (flM c cm Mm j), .ref 15, .ref 0]) rfl ?_
    exact zR_v rfl rfl rfl rfl rfl ⟨rfl, Nat.le_of_ble_eq_true rfl, Nat.le_of_ble_eq_true rfl⟩ rfl (Nat.le_of_ble_eq_true rfl) hdec rfl rfl hr
  have hW' : ∀ i, i < n → fu W 10 r.1 (S i) = v i := fun i hi => by
    obtain ⟨-, r1, -, -⟩ := stk_R hS (show i < 8 by omega)
    rw [fu_n r1]
    exact hW i hi
  unfold SRld
  cases hth : thr mk r.2 with
  | true =>
    refine ⟨sC (fu f 2 (f 2 ||| r.2)) (fu (fu g 1 (lN (t + (fA - t)))) 2 (lN (t + (fA - t) + 4))) false A (fu W 10 r.1) x y (mFl sg Mc c.toNatClampNeg (g 3)), ⟨_, _, _, _, _, _, _, _, S, rfl, f0, f1, by rw [← f2]; rfl, f3, f4, f5, rfl, rfl, hS, hW', Or.inl ⟨rfl, rfl⟩, hfl⟩, hd (k9 := 1) (Nat.le_refl _) ?_⟩
    exact zR_ct rfl rfl rfl rfl (Nat.le_refl _) (c_SR_raise1 (d := d) (by rw [f1]; exact hth)) rfl
  | false =>
    obtain ⟨q0, q1, q2, q3⟩ := stk_R hS h8
    refine ⟨sC (fu (fu f 2 (f 2 ||| r.2)) 0 (nI (n + 1))) (fu (fu g 1 (lN (t + (fA - t)))) 2 (lN (t + (fA - t) + 4))) false A (fu (fu W 10 r.1) (S n) r.1) x y (mFl sg Mc c.toNatClampNeg (g 3)), ⟨_, _, _, _, _, _, _, _, S, rfl, fu_s, f1, by rw [← f2]; rfl, f3, f4, f5, rfl, rfl, hS, fu_st (m := n + 1) hS h8 (by omega) (fun i hi hne => hW' i (by omega)), Or.inl ⟨rfl, rfl⟩, hfl⟩, hd (k9 := 1) (Nat.le_refl _) ?_⟩
    refine zR_v rfl rfl rfl rfl rfl ⟨rfl, Nat.le_of_ble_eq_true rfl, Nat.le_of_ble_eq_true rfl⟩ rfl (Nat.le_of_ble_eq_true rfl) (c_SR_raise0 (by rw [f1]; exact hth)) rfl rfl ?_
    refine zR_to 78 (st' := [.ref 10, .ref 0]) rfl ?_
    refine zR_v rfl rfl rfl rfl rfl ⟨rfl, Nat.le_of_ble_eq_true rfl, Nat.le_of_ble_eq_true rfl⟩ rfl (Nat.le_of_ble_eq_true rfl) (c_SR_push (d := d + 5) (n := n) (j := 10) (s := S n) f0 h8 (hS.1 n h8).1 q0 h10' (fun h => q1 h.symm)) rfl rfl ?_
    exact zR_to 82 rfl (zR_e rfl rfl rfl rfl rfl rfl)
set_option maxRecDepth 10000 in
theorem s_stn {j fm : Nat} (hI : sI C n p w mk fl cd v t fA c cm Mm) (hj : j < 8) (hfm : fm < 4) (h0 : n = 0) : SRst L xs d T C n p w mk fl cd v t fA c cm Mm (nI j) (nI fm) 1 n (-1) cm := by
  obtain ⟨⟨f, g, sg, A, W, x, y, Mc, S, rfl, f0, f1, f2, f3, f4, f5, g1, g2, hS, hW, hst, hM⟩, hn8, h1, h2, h3, hp, hw4, hv⟩ := hI
  obtain ⟨hj1, hfl⟩ := cS_fl (g := g) hst hM
  have hd : ∀ {o : zO} {h9 : zH} {k9 : Nat}, k9 ≤ 1 → zR L xs (d + 7) m_SR_store 42 [(0, .ref 0), (1, .int (nI j)), (2, .int (nI fm))] [.int 1, .ref 0] (sH f (fu (fu g 1 (lN (t + (fA - t)))) 2 (lN (t + (fA - t) + 10))) false A W x y (mFl sg Mc c.toNatClampNeg (g 3)) T) 0 o h9 k9 → zE L xs (d + 7) m_SR_store [.ref 0, .int (nI j), .int (nI fm)] (sH f g sg A W x y Mc T) o h9 := fun {o h9 k9} hk hr => by
    refine hd_store (d := d + 4) hj hfm g1 g2 h1 h2 h3 hj1 hk ?_
    generalize fu (fu g 1 (lN (t + (fA - t)))) 2 (lN (t + (fA - t) + 10)) = gg at *
    generalize mFl sg Mc c.toNatClampNeg (g 3) = MM at *
    refine zR_to 37 (st' := [.int (f 0)]) rfl ?_
    rw [f0, h0]
    exact zR_to 42 rfl hr
  have cs : cS (sC (fu f 2 (f 2 ||| 1)) (fu (fu g 1 (lN (t + (fA - t)))) 2 (lN (t + (fA - t) + 10))) false A W x y (mFl sg Mc c.toNatClampNeg (g 3))) n p w mk (fl ||| 1) cd v (t + (fA - t)) (t + (fA - t) + 10) (-1) cm (flM c cm Mm) :=
    ⟨_, _, _, _, _, _, _, _, S, rfl, f0, f1, by rw [← f2]; rfl, f3, f4, f5, rfl, rfl, hS, hW, Or.inl ⟨rfl, rfl⟩, hfl⟩
  unfold SRst
  cases hth : thr mk 1 with
  | true =>
    refine ⟨_, cs, hd (k9 := 1) (Nat.le_refl _) ?_⟩
    exact zR_ct rfl rfl rfl rfl (Nat.le_refl _) (c_SR_raise1 (d := d) (by rw [f1]; exact hth)) rfl
  | false =>
    refine ⟨_, cs, hd (k9 := 1) (Nat.le_refl _) ?_⟩
    refine zR_v rfl rfl rfl rfl rfl ⟨rfl, Nat.le_of_ble_eq_true rfl, Nat.le_of_ble_eq_true rfl⟩ rfl (Nat.le_of_ble_eq_true rfl) (c_SR_raise0 (by rw [f1]; exact hth)) rfl rfl ?_
    exact zR_e rfl rfl rfl rfl rfl rfl
set_option maxRecDepth 10000 in
theorem s_st {j fm : Nat} (hI : sI C n p w mk fl cd v t fA c cm Mm) (hj : j < 8) (hfm : fm < 4) (h1n : 1 ≤ n) : SRst L xs d T C n p w mk fl cd v t fA c cm Mm (nI j) (nI fm) (stR w fm (v (n - 1))).2 (n - 1) (nI j) (stR w fm (v (n - 1))).1 := by
  obtain ⟨⟨f, g, sg, A, W, x, y, Mc, S, rfl, f0, f1, f2, f3, f4, f5, g1, g2, hS, hW, hst, hM⟩, hn8, h1, h2, h3, hp, hw4, hv⟩ := hI
  obtain ⟨hj1, hfl⟩ := cS_fl (g := g) hst hM
  obtain ⟨q0, q1, q2, q3⟩ := stk_R hS (show n - 1 < 8 by omega)
  have e1 := hW (n - 1) (by omega)
  obtain ⟨u9, y', henc⟩ := c_Fo_encode (L := L) (xs := xs) (d := d + 3) (f := f) (g := fu (fu g 1 (lN (t + (fA - t)))) 2 (lN (t + (fA - t) + 10))) (sg := false) (A := A) (W := W) (x := x) (y := y) (Mc := mFl sg Mc c.toNatClampNeg (g 3)) (T := T) (q := S (n - 1)) hfm q0 q3 f5 hw4 (by rw [e1]; exact hv _ (by omega))
  rw [e1] at henc
  generalize hr9 : stR w fm (v (n - 1)) = r at *
  have hd : ∀ {o : zO} {h9 : zH} {k9 : Nat}, k9 ≤ 1 → zR L xs (d + 7) m_SR_store 60 [(0, .ref 0), (1, .int (nI j)), (2, .int (nI fm))] [.int r.2, .ref 0] (sH f (fu (fu (fu g 1 (lN (t + (fA - t)))) 2 (lN (t + (fA - t) + 10))) 0 r.1) false A (fu W 17 u9) x y' (mFl sg Mc c.toNatClampNeg (g 3)) T) 0 o h9 k9 → zE L xs (d + 7) m_SR_store [.ref 0, .int (nI j), .int (nI fm)] (sH f g sg A W x y Mc T) o h9 := fun {o h9 k9} hk hr => by
    refine hd_store (d := d + 4) hj hfm g1 g2 h1 h2 h3 hj1 hk ?_
    generalize fu (fu g 1 (lN (t + (fA - t)))) 2 (lN (t + (fA - t) + 10)) = gg at *
    generalize mFl sg Mc c.toNatClampNeg (g 3) = MM at *
    refine zR_to 37 (st' := [.int (f 0)]) rfl ?_
    rw [f0]
    refine zR_m 1 rfl ?_
    refine zR_if (fun _ => ?_) (fun h9 => absurd ((nI_ltI (a := 0) (b := n) (by omega) (by omega)).mpr h1n) h9)
    refine zR_to 53 (st' := [.int (nI 0), .ref 0, .ref 15, .ref 0]) rfl ?_
    refine z_st (k := 0) (s := S (n - 1)) hS f0 (by omega) hn8 rfl rfl rfl (Nat.le_of_ble_eq_true rfl) (Nat.zero_le _) rfl ?_
    refine zR_to 57 (st' := [.int (nI fm), .ref (S (n - 1)), .ref 15, .ref 0]) rfl ?_
    exact zR_v rfl rfl rfl rfl rfl ⟨rfl, Nat.le_of_ble_eq_true rfl, Nat.le_of_ble_eq_true rfl⟩ rfl (Nat.le_of_ble_eq_true rfl) henc rfl rfl hr
  have hW' : ∀ i, i < n → fu W 17 u9 (S i) = v i := fun i hi => by
    obtain ⟨-, -, -, r1⟩ := stk_R hS (show i < 8 by omega)
    rw [fu_n r1]
    exact hW i hi
  unfold SRst
  cases hth : thr mk r.2 with
  | true =>
    refine ⟨sC (fu f 2 (f 2 ||| r.2)) (fu (fu (fu g 1 (lN (t + (fA - t)))) 2 (lN (t + (fA - t) + 10))) 0 r.1) false A (fu W 17 u9) x y' (mFl sg Mc c.toNatClampNeg (g 3)), ⟨_, _, _, _, _, _, _, _, S, rfl, f0, f1, by rw [← f2]; rfl, f3, f4, f5, rfl, rfl, hS, hW', Or.inl ⟨rfl, rfl⟩, hfl⟩, hd (k9 := 1) (Nat.le_refl _) ?_⟩
    exact zR_ct rfl rfl rfl rfl (Nat.le_refl _) (c_SR_raise1 (d := d) (by rw [f1]; exact hth)) rfl
  | false =>
    refine ⟨sC (fu (fu (fu f 2 (f 2 ||| r.2)) 0 (nI (n - 1))) 6 (nI j)) (fu (fu (fu (fu g 1 (lN (t + (fA - t)))) 2 (lN (t + (fA - t) + 10))) 0 r.1) 3 r.1) true A (fu W 17 u9) x y' (mFl sg Mc c.toNatClampNeg (g 3)), ⟨_, _, _, _, _, _, _, _, S, rfl, rfl, f1, by rw [← f2]; rfl, f3, f4, f5, rfl, rfl, hS, fun i hi => hW' i (by have : i < n - 1 := hi; omega), Or.inr ⟨rfl, by omega, j, hj, rfl, rfl, rfl⟩, hfl⟩, hd (k9 := 1) (Nat.le_refl _) ?_⟩
    generalize hgg : fu (fu g 1 (lN (t + (fA - t)))) 2 (lN (t + (fA - t) + 10)) = gg at *
    generalize mFl sg Mc c.toNatClampNeg (g 3) = MM at *
    refine zR_v rfl rfl rfl rfl rfl ⟨rfl, Nat.le_of_ble_eq_true rfl, Nat.le_of_ble_eq_true rfl⟩ rfl (Nat.le_of_ble_eq_true rfl) (c_SR_raise0 (by rw [f1]; exact hth)) rfl rfl ?_
    refine zR_to 71 (st' := [.int (f 0 - 1), .ref 0]) rfl ?_
    rw [f0, nI_m1' h1n]
    generalize nI (n - 1) = n9
    refine zR_to 86 (st' := [.long r.1, .int (nI j), .ref 18]) (h1 := sH (fu (fu f 2 (f 2 ||| r.2)) 0 n9) (fu gg 0 r.1) false A (fu W 17 u9) x y' MM T) rfl ?_
    refine zR_v rfl rfl rfl rfl rfl ⟨rfl, Nat.le_of_ble_eq_true rfl, Nat.le_of_ble_eq_true rfl⟩ rfl (Nat.le_of_ble_eq_true rfl) (c_Me_storeWhenFree (c := nI j) (z := r.1)) rfl rfl ?_
    exact zR_to 90 rfl (zR_e rfl rfl rfl rfl rfl rfl)
end LS
