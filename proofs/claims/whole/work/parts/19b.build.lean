/-! Making objects: the constructors, and the law up to its loop. Addresses of places come one by one: a list al -/
def zad (ex : Nat → Nat) (al : List Nat) (k : Nat) : Nat := if k < 1000 then al.getD k 0 else ex k
def zwV (n : Nat) (v : Value) : Bool := match v with
  | .ref k => decide (k < n) || decide (1000 ≤ k)
  | _ => true
def zwF (n : Nat) (lv : zL) (st : List Value) : Bool := lv.all (fun q => zwV n q.2) && st.all (zwV n)
def zwH (n : Nat) (h : zH) : Bool := h.all (fun c => match c with
  | .inr o => o.2.all (zwV n)
  | .inl _ => true)
/-- references in arrays lie within the heap -/
def zwA (h : zH) : Prop := ∀ (k t N : Nat) (f : Nat → Option Nat), h[k]? = some (.inl (t, N, .inr (.inr (.inr (.inr f))))) → ∀ i y, f i = some y → y < h.length
/-- al' goes on from al -/
def zPre (al al' : List Nat) : Prop := ∀ k, k < al.length → al'.getD k 0 = al.getD k 0
theorem zPre.refl (al : List Nat) : zPre al al := fun _ _ => rfl
theorem zPre.trans {a b c : List Nat} (h1 : zPre a b) (hl : a.length ≤ b.length) (h2 : zPre b c) : zPre a c := fun k hk => (h2 k (Nat.lt_of_lt_of_le hk hl)).trans (h1 k hk)
theorem zPre.push (al : List Nat) (q : Nat) : zPre al (al ++ [q]) := fun k hk => by
  rw [List.getD_eq_getElem?_getD, List.getD_eq_getElem?_getD, List.getElem?_append_left hk]
section ZW
variable {ex : Nat → Nat} {al al' : List Nat} {cA : Nat → ClassId} {n : Nat}
theorem zad_pre (h : zPre al al') {k : Nat} (hk : k < al.length ∨ 1000 ≤ k) : zad ex al' k = zad ex al k := by
  unfold zad
  by_cases h1 : k < 1000
  · rw [if_pos h1, if_pos h1]
    exact h k (by omega)
  · rw [if_neg h1, if_neg h1]
theorem tv_pre (h : zPre al al') {v : Value} (hv : zwV al.length v = true) : tv (zad ex al') v = tv (zad ex al) v := by
  cases v <;> first | rfl | skip
  rename_i k
  show Value.ref _ = Value.ref _
  rw [zad_pre h (by simpa [zwV] using hv)]
theorem map_pre (h : zPre al al') {st : List Value} (hv : st.all (zwV al.length) = true) : st.map (tv (zad ex al')) = st.map (tv (zad ex al)) :=
  List.map_congr_left (fun v hm => tv_pre h (List.all_eq_true.mp hv v hm))
theorem tl_pre (h : zPre al al') {lv : zL} (hv : lv.all (fun q => zwV al.length q.2) = true) : tl (zad ex al') lv = tl (zad ex al) lv :=
  List.map_congr_left (fun q hm => by rw [tv_pre h (List.all_eq_true.mp hv q hm)])
theorem wd_pre (h : zPre al al') {hh : zH} (hl : hh.length = al.length) (h1 : zwH al.length hh = true) (h2 : zwA hh) : wd (zad ex al') cA hh = wd (zad ex al) cA hh := by
  apply List.ext_getElem?
  intro i
  unfold wd
  rw [List.getElem?_mapIdx, List.getElem?_mapIdx]
  cases hc : hh[i]? with
  | none => rfl
  | some c =>
    have hi : i < al.length := by rw [← hl]; exact (List.getElem?_eq_some_iff.mp hc).1
    have hm := List.all_eq_true.mp h1 c (List.mem_of_getElem? hc)
    have ht : tc (zad ex al') cA c = tc (zad ex al) cA c := by
      cases c with
      | inr o =>
        show Sum.inr _ = Sum.inr _
        rw [map_pre h hm]
      | inl a =>
        obtain ⟨t, N, x⟩ := a
        show Sum.inl (cA t, tA (zad ex al') (N, x)) = Sum.inl (cA t, tA (zad ex al) (N, x))
        rcases x with x | x | x | x | x <;> try rfl
        have hf : (fun i => (x i).map (zad ex al')) = (fun i => (x i).map (zad ex al)) := by
          funext i9
          cases hx : x i9 with
          | none => rfl
          | some y =>
            have := h2 i t N x hc i9 y hx
            show some _ = some _
            rw [zad_pre h (Or.inl (by rw [← hl]; exact this))]
        exact congrArg (fun g => (Sum.inl (cA t, N, Sum.inr (Sum.inr (Sum.inr (Sum.inr g)))) : va_E)) hf
    show some (zad ex al' i, tc (zad ex al') cA c) = some (zad ex al i, tc (zad ex al) cA c)
    rw [zad_pre h (Or.inl hi), ht]
theorem wd_push {hh : zH} {c : zC} {q : Nat} (hl : hh.length = al.length) (h9 : al.length < 1000) (h1 : zwH al.length hh = true) (h2 : zwA hh) (hc : tc (zad ex (al ++ [q])) cA c = tc (zad ex al) cA c) : wd (zad ex (al ++ [q])) cA (hh ++ [c]) = wd (zad ex al) cA hh ++ [(q, tc (zad ex al) cA c)] := by
  have e1 : wd (zad ex (al ++ [q])) cA (hh ++ [c]) = wd (zad ex (al ++ [q])) cA hh ++ [(zad ex (al ++ [q]) hh.length, tc (zad ex (al ++ [q])) cA c)] := by
    unfold wd
    rw [List.mapIdx_append, List.mapIdx_cons, List.mapIdx_nil, Nat.zero_add]
  have e2 : zad ex (al ++ [q]) hh.length = q := by
    unfold zad
    rw [if_pos (by omega), hl, List.getD_eq_getElem?_getD, List.getElem?_append_right (Nat.le_refl _), Nat.sub_self]
    rfl
  rw [e1, e2, hc, wd_pre (zPre.push al q) hl h1 h2]
theorem zwA_push {hh : zH} {c : zC} (h : zwA hh) (hc : ∀ t N f, c = .inl (t, N, .inr (.inr (.inr (.inr f)))) → ∀ i y, f i = some y → y < hh.length) : zwA (hh ++ [c]) := by
  intro k t N f hk i y hy
  rw [List.length_append]
  by_cases hl : k < hh.length
  · rw [List.getElem?_append_left hl] at hk
    have := h k t N f hk i y hy
    omega
  · rw [List.getElem?_append_right (by omega)] at hk
    have hz : k - hh.length < 1 := (List.getElem?_eq_some_iff.mp hk).1
    rw [show k - hh.length = 0 by omega] at hk
    have hk' : c = .inl (t, N, .inr (.inr (.inr (.inr f)))) := Option.some.inj hk
    have := hc t N f hk' i y hy
    omega
theorem zwA_set {hh : zH} {k : Nat} {o : Nat × List Value} (h : zwA hh) : zwA (hh.set k (.inr o)) := by
  intro j t N f hj i y hy
  rw [List.length_set]
  by_cases hjk : k = j
  · subst hjk
    by_cases hl : k < hh.length
    · rw [List.getElem?_set_self hl] at hj
      cases hj
    · rw [List.getElem?_eq_none (by rw [List.length_set]; omega)] at hj
      cases hj
  · rw [List.getElem?_set_ne hjk] at hj
    exact h j t N f hj i y hy
end ZW
def zRef (ci j : Nat) : Bool := match zTyp ci j with
  | .object _ => true
  | .array _ => true
  | _ => false
def zArT (t : ArrayType) : Option (Nat × FieldType × ((Nat → Int32) ⊕ (Nat → Int64) ⊕ (Nat → UInt32) ⊕ (Nat → UInt64) ⊕ (Nat → Option Nat))) := match t with
  | .int => some (0, .int, .inl (fun _ => 0))
  | .long => some (1, .long, .inr (.inl (fun _ => 0)))
  | .boolean => some (2, .boolean, .inl (fun _ => 0))
  | _ => none
def zmk (ini : Bool) (d cn : Nat) (i : Instr) (lv : zL) (st : List Value) (h : zH) (bc bs : Nat) : Option (Nat × List Value × zH × Nat × Nat) := match i with
  | .putfield x => (match zFlI cn x with
    | some (ci, j) => (match st with
      | .ref y :: .ref k :: r => (match h[k]? with
        | some (.inr (cj, fs)) => if cj = ci ∧ ci = cn ∧ j < fs.length ∧ zFin ci j = true ∧ zRef ci j = true ∧ ini = true then some (3, r, h.set k (.inr (ci, fs.set j (.ref y))), bc, bs) else none
        | _ => none)
      | _ => none)
    | none => none)
  | .new x => (match zNew cn x with
    | some ci => if 1 ≤ bc ∧ (zDef ci).length ≤ bs ∧ zwF h.length lv st = true ∧ zwH h.length h = true ∧ h.length < 900 then some (3, .ref h.length :: st, h ++ [.inr (ci, zDef ci)], bc - 1, bs - (zDef ci).length) else none
    | none => none)
  | .newarray t => (match st with
    | .int a :: r => (match zArT t with
      | some (tn, _, x0) => if ¬ a < 0 ∧ a.toNatClampNeg ≤ 1000 ∧ 1 ≤ bc ∧ a.toNatClampNeg ≤ bs ∧ zwF h.length lv r = true ∧ zwH h.length h = true ∧ h.length < 900 then some (2, .ref h.length :: r, h ++ [.inl (tn, a.toNatClampNeg, x0)], bc - 1, bs - a.toNatClampNeg) else none
      | none => none)
    | _ => none)
  | .anewarray x => (match st with
    | .int a :: r => if zANew cn x = true ∧ ¬ a < 0 ∧ a.toNatClampNeg ≤ 1000 ∧ 1 ≤ bc ∧ a.toNatClampNeg ≤ bs ∧ zwF h.length lv r = true ∧ zwH h.length h = true ∧ h.length < 900 then some (3, .ref h.length :: r, h ++ [.inl (3, a.toNatClampNeg, .inr (.inr (.inr (.inr (fun _ => none)))))], bc - 1, bs - a.toNatClampNeg) else none
    | _ => none)
  | .invokespecial x => (match st with
    | .ref _ :: r => if zObj cn x = true ∧ 1 ≤ d ∧ (r.map fun v => v.category).sum ≤ 60 then some (3, r, h, bc, bs) else none
    | _ => none)
  | _ => none
def zbld (L : Nat) (xs : Nat → Int32) : Nat → Option Nat → Nat → ZM → Nat → zL → List Value → zH → Nat → Nat → Option (zL × zH × Nat × Nat)
  | 0, _, _, _, _, _, _, _, _, _ => none
  | n + 1, stop, d, mi, pc, lv, st, h, bc, bs =>
    if stop = some pc then (match st with
      | [] => some (lv, h, bc, bs)
      | _ => none) else
    match zfetch mi pc with
    | none => none
    | some (i, _) =>
      match z1 pc i lv st with
      | some (pc', lv', st') => zbld L xs n stop d mi pc' lv' st' h bc bs
      | none =>
      match z2 L xs (zCno mi) i st h with
      | some (w, st', h') => zbld L xs n stop d mi (pc + w) lv st' h' bc bs
      | none =>
      match zmk (decide ((zNm mi).name = "<init>")) d (zCno mi) i lv st h bc bs with
      | some (w, st', h', bc', bs') => zbld L xs n stop d mi (pc + w) lv st' h' bc' bs'
      | none =>
      match i with
      | .return_ => (match st, zRt mi with
        | [], none => some (lv, h, bc, bs)
        | _, _ => none)
      | .invokespecial x => (match zCalI (zCno mi) x with
        | none => none
        | some (y, a) => (match d with
          | 0 => none
          | d' + 1 => (match st.drop a with
            | .ref k :: r => if a ≤ st.length ∧ (r.map fun v => v.category).sum + zMl y ≤ 19 ∧ ((Value.ref k :: (st.take a).reverse).map fun v => v.category).sum ≤ zMl y ∧ zwF h.length lv r = true ∧ zwH h.length h = true then
                (match zbld L xs n none d' y 0 (lv_args 0 (.ref k :: (st.take a).reverse)) [] h bc bs with
                 | none => none
                 | some (_, h', bc', bs') => if bc' ≤ bc ∧ bs' ≤ bs then zbld L xs n stop (d' + 1) mi (pc + 3) lv r h' bc' bs' else none)
              else none
            | _ => none)))
      | _ => none
theorem zDef_map (ad : Nat → Nat) (ci : Nat) : (zDef ci).map (tv ad) = zDef ci := by
  unfold zDef
  split <;> rfl
theorem zwA_setI {hh : zH} {k t N : Nat} {x : (Nat → Int32) ⊕ (Nat → Int64)} {c : zC} (h : zwA hh) (hc : c = .inl (t, N, match x with | .inl f => .inl f | .inr f => .inr (.inl f))) : zwA (hh.set k c) := by
  subst hc
  intro j t9 N9 f hj i y hy
  rw [List.length_set]
  by_cases hjk : k = j
  · subst hjk
    by_cases hl : k < hh.length
    · rw [List.getElem?_set_self hl] at hj
      cases x <;> cases hj
    · rw [List.getElem?_eq_none (by rw [List.length_set]; omega)] at hj
      cases hj
  · rw [List.getElem?_set_ne hjk] at hj
    exact h j t9 N9 f hj i y hy
theorem zwA_setR {hh : zH} {k t N v a : Nat} {f : Nat → Option Nat} (h : zwA hh) (hk : hh[k]? = some (.inl (t, N, .inr (.inr (.inr (.inr f)))))) (hv : v < hh.length) : zwA (hh.set k (.inl (t, N, .inr (.inr (.inr (.inr (va_up f a (some v)))))))) := by
  intro j t9 N9 g hj i y hy
  rw [List.length_set]
  by_cases hjk : k = j
  · subst hjk
    have hl := (List.getElem?_eq_some_iff.mp hk).1
    rw [List.getElem?_set_self hl] at hj
    cases hj
    unfold va_up at hy
    split at hy
    · cases hy
      exact hv
    · exact h k t N f hk i y hy
  · rw [List.getElem?_set_ne hjk] at hj
    exact h j t9 N9 g hj i y hy
theorem z2_len {L : Nat} {xs : Nat → Int32} {cn w : Nat} {i : Instr} {st st' : List Value} {h h' : zH} (h2 : z2 L xs cn i st h = some (w, st', h')) (hA : zwA h) : h'.length = h.length ∧ zwA h' := by
  unfold z2 at h2
  split at h2
  · split at h2 <;> cases h2
    exact ⟨rfl, hA⟩
  · split at h2 <;> cases h2
    exact ⟨rfl, hA⟩
  · split at h2 <;> cases h2
    exact ⟨rfl, hA⟩
  · repeat' (split at h2)
    all_goals cases h2
    exact ⟨rfl, hA⟩
  · repeat' (split at h2)
    all_goals cases h2
    exact ⟨List.length_set, zwA_set hA⟩
  · repeat' (split at h2)
    all_goals cases h2
    exact ⟨rfl, hA⟩
  · repeat' (split at h2)
    all_goals cases h2
    all_goals exact ⟨rfl, hA⟩
  · repeat' (split at h2)
    all_goals cases h2
    exact ⟨rfl, hA⟩
  · repeat' (split at h2)
    all_goals cases h2
    exact ⟨rfl, hA⟩
  · repeat' (split at h2)
    all_goals cases h2
    exact ⟨rfl, hA⟩
  · repeat' (split at h2)
    all_goals cases h2
    exact ⟨List.length_set, zwA_setI (x := .inl _) hA rfl⟩
  · repeat' (split at h2)
    all_goals cases h2
    exact ⟨List.length_set, zwA_setI (x := .inr _) hA rfl⟩
  · repeat' (split at h2)
    all_goals cases h2
    exact ⟨List.length_set, zwA_setI (x := .inl _) hA rfl⟩
  · split at h2
    · split at h2
      · rename_i hq
        split at h2
        · rename_i hv
          split at h2
          · cases h2
            exact ⟨List.length_set, zwA_setR hA hq (List.getElem?_eq_some_iff.mp hv).1⟩
          · cases h2
        · cases h2
      · cases h2
    · cases h2
  · cases h2
