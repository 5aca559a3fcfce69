/-! A pure machine beside the real one: values are the machine's, but a reference names a PLACE in a list of cells; 'ad' says at which address a place lies. Here: values, locals. -/
abbrev zC : Type := (Nat × vp_A) ⊕ (Nat × List Value)
abbrev zH : Type := List zC
abbrev zL : Type := List (Nat × Value)
def tv (ad : Nat → Nat) (v : Value) : Value := match v with
  | .ref k => .ref (ad k)
  | w => w
theorem tv_cat (ad : Nat → Nat) (v : Value) : (tv ad v).category = v.category := by cases v <;> rfl
def tl (ad : Nat → Nat) (lv : zL) : List (Nat × Value) := lv.map (fun q => (q.1, tv ad q.2))
def zget (lv : zL) (i : Nat) : Option Value := (lv.find? (fun q => q.1 == i)).map (fun q => q.2)
def zdrop1 (i : Nat) (lv : zL) : zL := lv.filter (fun q => !(q.1 == i) && !(q.1 + 1 == i && q.2.category == 2))
def zdrop2 (i : Nat) (lv : zL) : zL := lv.filter (fun q => !(q.1 == i) && (!(q.1 == i + 1) && !(q.1 + 1 == i && q.2.category == 2)))
theorem zget_mem {lv : zL} {i : Nat} {v : Value} (h : zget lv i = some v) : (i, v) ∈ lv := by
  unfold zget at h
  cases hf : lv.find? (fun q => q.1 == i) with
  | none => rw [hf] at h; cases h
  | some q =>
    rw [hf] at h
    cases h
    have h1 : q.1 = i := by simpa using List.find?_some hf
    have h2 := List.mem_of_find?_eq_some hf
    rw [← h1]
    exact h2
theorem tl_mem {ad : Nat → Nat} {lv : zL} {i : Nat} {v : Value} (h : (i, v) ∈ lv) : (i, tv ad v) ∈ tl ad lv := List.mem_map.mpr ⟨(i, v), h, rfl⟩
theorem zget_at {ad : Nat → Nat} {ls : Array Slot} {nL : Nat} {lv : zL} {i : Nat} {v : Value} (hl : lv_has ls nL (tl ad lv)) (h : zget lv i = some v) : ls[i]? = some (.val (tv ad v)) := hl.2.2 (i, tv ad v) (tl_mem (zget_mem h))
theorem zget_ix (ad : Nat → Nat) {lv : zL} {i : Nat} {v : Value} (h : zget lv i = some v) : ∃ j : Nat, (tl ad lv)[j]? = some (i, tv ad v) := List.getElem?_of_mem (tl_mem (zget_mem h))
theorem tl_zdrop1 (ad : Nat → Nat) (i : Nat) (v : Value) (lv : zL) {w : Value} (hw : tv ad v = w) : (i, w) :: (tl ad lv).filter (fun q => !(q.1 == i) && !(q.1 + 1 == i && q.2.category == 2)) = tl ad ((i, v) :: zdrop1 i lv) := by
  subst hw
  simp only [tl, zdrop1, List.filter_map, List.map_cons, Function.comp_def, tv_cat]
theorem tl_zdrop2 (ad : Nat → Nat) (i : Nat) (v : Value) (lv : zL) {w : Value} (hw : tv ad v = w) : (i, w) :: (tl ad lv).filter (fun q => !(q.1 == i) && (!(q.1 == i + 1) && !(q.1 + 1 == i && q.2.category == 2))) = tl ad ((i, v) :: zdrop2 i lv) := by
  subst hw
  simp only [tl, zdrop2, List.filter_map, List.map_cons, Function.comp_def, tv_cat]
theorem tl_args (ad : Nat → Nat) : ∀ (vs : List Value) (i : Nat), lv_args i (vs.map (tv ad)) = tl ad (lv_args i vs)
  | [], _ => rfl
  | v :: vs, i => by
    show (i, tv ad v) :: lv_args (if (tv ad v).category = 2 then i + 2 else i + 1) (vs.map (tv ad)) = (i, tv ad v) :: tl ad (lv_args (if v.category = 2 then i + 2 else i + 1) vs)
    rw [tv_cat, tl_args ad vs]
theorem tv_sum (ad : Nat → Nat) (st : List Value) : ((st.map (tv ad)).map fun v => v.category).sum = (st.map fun v => v.category).sum := by
  rw [List.map_map]
  congr 1
  exact List.map_congr_left (fun v _ => tv_cat ad v)
theorem lg_sl_len (ad : Nat → Nat) : ∀ vs : List Value, (lg_sl (vs.map (tv ad))).length = (vs.map fun v => v.category).sum
  | [] => rfl
  | v :: vs => by
    have ih := lg_sl_len ad vs
    unfold lg_sl at ih ⊢
    rw [List.map_cons, List.flatMap_cons, List.length_append, ih, List.map_cons, List.sum_cons, tv_cat]
    rcases lv_cat v with h | h <;> simp [h]
/-! cells and worlds -/
def tA (ad : Nat → Nat) (x : vp_A) : vp_A := (x.1, match x.2 with
  | .inr (.inr (.inr (.inr f))) => .inr (.inr (.inr (.inr (fun i => (f i).map ad))))
  | y => y)
def tc (ad : Nat → Nat) (cA : Nat → ClassId) (x : zC) : va_E := match x with
  | .inl a => .inl (cA a.1, tA ad a.2)
  | .inr o => .inr (o.1, o.2.map (tv ad))
def wd (ad : Nat → Nat) (cA : Nat → ClassId) (h : zH) : va_W := h.mapIdx (fun k c => (ad k, tc ad cA c))
theorem wd_get {ad : Nat → Nat} {cA : Nat → ClassId} {h : zH} {k : Nat} {c : zC} (hk : h[k]? = some c) : (wd ad cA h)[k]? = some (ad k, tc ad cA c) := by
  unfold wd
  rw [List.getElem?_mapIdx, hk]
  rfl
theorem wd_set (ad : Nat → Nat) (cA : Nat → ClassId) (h : zH) (k : Nat) (c : zC) : (wd ad cA h).set k (ad k, tc ad cA c) = wd ad cA (h.set k c) := by
  apply List.ext_getElem?
  intro i
  unfold wd
  rw [List.getElem?_set, List.getElem?_mapIdx, List.getElem?_mapIdx, List.getElem?_set, List.length_mapIdx]
  by_cases hi : k = i
  · subst hi
    by_cases hl : k < h.length
    · simp [hl]
    · simp [hl]
  · simp [hi]
theorem wd_len (ad : Nat → Nat) (cA : Nat → ClassId) (h : zH) : (wd ad cA h).length = h.length := by unfold wd; rw [List.length_mapIdx]
