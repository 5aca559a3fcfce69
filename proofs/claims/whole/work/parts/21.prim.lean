/-! Rows for heap and calls with what is known of the cells -/
def bI (b : Bool) : Int32 := match b with
  | true => 1
  | false => 0
theorem gs {h : zH} {k : Nat} {c C : zC} (hk : h[k]? = some c) : (h.set k C)[k]? = some C := by
  have h1 := (List.getElem?_eq_some_iff.mp hk).1
  rw [List.getElem?_set_self h1]
theorem gn {h : zH} {k j : Nat} {c C : zC} (hne : k ≠ j) (hj : h[j]? = some c) : (h.set k C)[j]? = some c := by
  rw [List.getElem?_set_ne hne]
  exact hj
theorem gself {h : zH} {k : Nat} {c : zC} (hk : h[k]? = some c) : h.set k c = h := by
  apply List.ext_getElem?
  intro i
  by_cases hi : k = i
  · subst hi
    rw [gs hk, hk]
  · rw [List.getElem?_set_ne hi]
section ZV
variable {L : Nat} {xs : Nat → Int32} {d : Nat} {mi : ZM} {pc : Nat} {lv : zL} {st st' r : List Value} {h h1 h' : zH} {k k' k1 : Nat} {o : zO} {pc' : Nat}
theorem zR_g {x ci j q : Nat} {fs : List Value} {v : Value} (hf : zfetch mi pc = some (.getfield x, 3)) (hx : zFld (zCno mi) x = some (ci, j)) (hk : h[q]? = some (.inr (ci, fs))) (hv : fs[j]? = some v) (hp : pc + 3 = pc') (hR : zR L xs d mi pc' lv (v :: r) h k o h' k') : zR L xs d mi pc lv (.ref q :: r) h k o h' k' :=
  zR_h hf rfl (by simp only [z2, hx, hk, hv, if_true]) hp hR
theorem zR_p {x ci j q : Nat} {fs fs' : List Value} {v : Value} (hf : zfetch mi pc = some (.putfield x, 3)) (hx : zFld (zCno mi) x = some (ci, j)) (hk : h[q]? = some (.inr (ci, fs))) (hj : j < fs.length) (hv : zput ci j v = true) (hfs : fs.set j v = fs') (hp : pc + 3 = pc') (hR : zR L xs d mi pc' lv r (h.set q (.inr (ci, fs'))) k o h' k') : zR L xs d mi pc lv (v :: .ref q :: r) h k o h' k' := by
  subst hfs
  exact zR_h hf rfl (by simp only [z2, hx, hk]; rw [if_pos ⟨trivial, hj, hv⟩]) hp hR
theorem zR_ia {q N : Nat} {a : Int32} {f : Nat → Int32} {v : Int32} (hf : zfetch mi pc = some (.iaload, 1)) (hn : zEx L xs q = none) (hk : h[q]? = some (.inl (0, N, .inl f))) (hi : 0 ≤ a.toInt ∧ a.toInt < N) (hv : f a.toNatClampNeg = v) (hp : pc + 1 = pc') (hR : zR L xs d mi pc' lv (.int v :: r) h k o h' k') : zR L xs d mi pc lv (.int a :: .ref q :: r) h k o h' k' := by
  subst hv
  exact zR_h hf rfl (by simp only [z2, hn, hk]; rw [if_pos hi]) hp hR
theorem zR_xa {q N : Nat} {a : Int32} {f : Nat → Int32} {v : Int32} (hf : zfetch mi pc = some (.iaload, 1)) (hn : zEx L xs q = some (N, f)) (hi : 0 ≤ a.toInt ∧ a.toInt < N) (hv : f a.toNatClampNeg = v) (hp : pc + 1 = pc') (hR : zR L xs d mi pc' lv (.int v :: r) h k o h' k') : zR L xs d mi pc lv (.int a :: .ref q :: r) h k o h' k' := by
  subst hv
  exact zR_h hf rfl (by simp only [z2, hn]; rw [if_pos hi]) hp hR
theorem zR_la {q N : Nat} {a : Int32} {f : Nat → Int64} {v : Int64} (hf : zfetch mi pc = some (.laload, 1)) (hk : h[q]? = some (.inl (1, N, .inr (.inl f)))) (hi : 0 ≤ a.toInt ∧ a.toInt < N) (hv : f a.toNatClampNeg = v) (hp : pc + 1 = pc') (hR : zR L xs d mi pc' lv (.long v :: r) h k o h' k') : zR L xs d mi pc lv (.int a :: .ref q :: r) h k o h' k' := by
  subst hv
  exact zR_h hf rfl (by simp only [z2, hk]; rw [if_pos hi]) hp hR
theorem zR_ba {q N : Nat} {a : Int32} {f : Nat → Int32} {v : Int32} (hf : zfetch mi pc = some (.baload, 1)) (hk : h[q]? = some (.inl (2, N, .inl f))) (hi : 0 ≤ a.toInt ∧ a.toInt < N) (hv : f a.toNatClampNeg = v) (hp : pc + 1 = pc') (hR : zR L xs d mi pc' lv (.int v :: r) h k o h' k') : zR L xs d mi pc lv (.int a :: .ref q :: r) h k o h' k' := by
  subst hv
  exact zR_h hf rfl (by simp only [z2, hk]; rw [if_pos hi]) hp hR
theorem zR_aa {q N y : Nat} {a : Int32} {f : Nat → Option Nat} (hf : zfetch mi pc = some (.aaload, 1)) (hk : h[q]? = some (.inl (3, N, .inr (.inr (.inr (.inr f)))))) (hi : 0 ≤ a.toInt ∧ a.toInt < N) (hv : f a.toNatClampNeg = some y) (hp : pc + 1 = pc') (hR : zR L xs d mi pc' lv (.ref y :: r) h k o h' k') : zR L xs d mi pc lv (.int a :: .ref q :: r) h k o h' k' :=
  zR_h hf rfl (by simp only [z2, hk]; rw [if_pos hi]; simp only [hv]) hp hR
theorem zR_is {q N : Nat} {a v : Int32} {f : Nat → Int32} (hf : zfetch mi pc = some (.iastore, 1)) (hk : h[q]? = some (.inl (0, N, .inl f))) (hi : 0 ≤ a.toInt ∧ a.toInt < N) (hp : pc + 1 = pc') (hR : zR L xs d mi pc' lv r (h.set q (.inl (0, N, .inl (upd f a.toNatClampNeg v)))) k o h' k') : zR L xs d mi pc lv (.int v :: .int a :: .ref q :: r) h k o h' k' :=
  zR_h hf rfl (by simp only [z2, hk]; rw [if_pos hi]) hp hR
theorem zR_ls {q N : Nat} {a : Int32} {v : Int64} {f : Nat → Int64} (hf : zfetch mi pc = some (.lastore, 1)) (hk : h[q]? = some (.inl (1, N, .inr (.inl f)))) (hi : 0 ≤ a.toInt ∧ a.toInt < N) (hp : pc + 1 = pc') (hR : zR L xs d mi pc' lv r (h.set q (.inl (1, N, .inr (.inl (vp_updL f a.toNatClampNeg v))))) k o h' k') : zR L xs d mi pc lv (.long v :: .int a :: .ref q :: r) h k o h' k' :=
  zR_h hf rfl (by simp only [z2, hk]; rw [if_pos hi]) hp hR
theorem zR_bs {q N : Nat} {a v : Int32} {f : Nat → Int32} (hf : zfetch mi pc = some (.bastore, 1)) (hk : h[q]? = some (.inl (2, N, .inl f))) (hi : 0 ≤ a.toInt ∧ a.toInt < N) (hp : pc + 1 = pc') (hR : zR L xs d mi pc' lv r (h.set q (.inl (2, N, .inl (upd f a.toNatClampNeg (vp_nar .boolean v))))) k o h' k') : zR L xs d mi pc lv (.int v :: .int a :: .ref q :: r) h k o h' k' :=
  zR_h hf rfl (by simp only [z2, hk]; rw [if_pos hi]) hp hR
theorem zR_as {q N v : Nat} {a : Int32} {f : Nat → Option Nat} {fs : List Value} (hf : zfetch mi pc = some (.aastore, 1)) (hk : h[q]? = some (.inl (3, N, .inr (.inr (.inr (.inr f)))))) (hv : h[v]? = some (.inr (zReal, fs))) (hi : 0 ≤ a.toInt ∧ a.toInt < N) (hp : pc + 1 = pc') (hR : zR L xs d mi pc' lv r (h.set q (.inl (3, N, .inr (.inr (.inr (.inr (va_up f a.toNatClampNeg (some v)))))))) k o h' k') : zR L xs d mi pc lv (.ref v :: .int a :: .ref q :: r) h k o h' k' :=
  zR_h hf rfl (by simp only [z2, hk, hv]; rw [if_pos ⟨trivial, hi⟩]) hp hR
/-- a call of an instance method that returns -/
theorem zR_v {x a q ci : Nat} {y : ZM} {as fs : List Value} {v : Option Value} (hf : zfetch mi pc = some (.invokevirtual x, 3)) (hx : zCalV (zCno mi) x = some (y, a)) (hd : st.drop a = .ref q :: r) (ha : (.ref q :: (st.take a).reverse) = as) (hk : h[q]? = some (.inr (ci, fs)))
    (hc : ci = zCno y ∧ (r.map fun v => v.category).sum + zMl y ≤ 19 ∧ ((Value.ref q :: (st.take a).reverse).map fun v => v.category).sum ≤ zMl y) (hkk : k + zKm y = k1) (hk1 : k1 ≤ zKm mi) (hC : zE L xs d y as h (.inl v) h1) (hs : v.toList ++ r = st') (hp : pc + 3 = pc') (hR : zR L xs (d + 1) mi pc' lv st' h1 k1 o h' k') : zR L xs (d + 1) mi pc lv st h k o h' k' := by
  subst ha
  exact zR_c hf rfl rfl (by simp only [zcall, hx, hd, hk]; rw [if_pos hc]) hkk hk1 hp hC hs hR
/-- .. of a static one -/
theorem zR_i {x a : Nat} {y : ZM} {as : List Value} {v : Option Value} (hf : zfetch mi pc = some (.invokestatic x, 3)) (hx : zCalS (zCno mi) x = some (y, a)) (hd : st.drop a = r) (ha : (st.take a).reverse = as)
    (hc : a ≤ st.length ∧ (r.map fun v => v.category).sum + zMl y ≤ 19 ∧ (as.map fun v => v.category).sum ≤ zMl y) (hkk : k + zKm y = k1) (hk1 : k1 ≤ zKm mi) (hC : zE L xs d y as h (.inl v) h1) (hs : v.toList ++ r = st') (hp : pc + 3 = pc') (hR : zR L xs (d + 1) mi pc' lv st' h1 k1 o h' k') : zR L xs (d + 1) mi pc lv st h k o h' k' := by
  subst ha
  subst hd
  exact zR_c hf rfl rfl (by simp only [zcall, hx]; rw [if_pos hc]) hkk hk1 hp hC hs hR
/-- a return, the heap in another form -/
theorem zR_e {v : Option Value} {i : Instr} {nn : Nat} (hf : zfetch mi pc = some (i, nn)) (hn1 : z1 pc i lv st = none) (hn2 : z2 L xs (zCno mi) i st h = none) (hc : zcall (zCno mi) i st h = none) (hr : zret3 mi i st = some v) (hh : h = h') : zR L xs d mi pc lv st h k (.inl v) h' k := by
  subst hh
  exact zR_r hf hn1 hn2 hc hr
end ZV
