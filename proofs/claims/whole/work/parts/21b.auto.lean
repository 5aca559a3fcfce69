/-! The run depends on what the locals say, not on their order -/
def zNod : zL → Bool
  | [] => true
  | q :: r => r.all (fun p => !(p.1 == q.1)) && zNod r
def zSub (lv lv' : zL) : Prop := ∀ j v, zget lv j = some v → zget lv' j = some v
def zSubL : zL → zL → Prop
  | [], _ => True
  | q :: r, lv' => zget lv' q.1 = some q.2 ∧ zSubL r lv'
theorem zget_cons (q : Nat × Value) (r : zL) (j : Nat) : zget (q :: r) j = if q.1 = j then some q.2 else zget r j := by
  unfold zget
  rw [List.find?_cons]
  by_cases h : q.1 = j
  · rw [if_pos h, show (q.1 == j) = true by simpa using h]; rfl
  · rw [if_neg h, show (q.1 == j) = false by simpa using h]
theorem zSubL_sub : ∀ {lv lv' : zL}, zSubL lv lv' → zSub lv lv'
  | [], _, _ => fun j v h => by cases h
  | q :: r, lv', h => fun j v hv => by
    rw [zget_cons] at hv
    split at hv
    · rename_i hq
      cases hv
      rw [← hq]
      exact h.1
    · exact zSubL_sub h.2 j v hv
theorem zNod_mem : ∀ {lv : zL} {j : Nat} {v : Value}, zNod lv = true → (j, v) ∈ lv → zget lv j = some v
  | [], _, _, _, h => by cases h
  | q :: r, j, v, hn, h => by
    unfold zNod at hn
    rw [Bool.and_eq_true] at hn
    rw [zget_cons]
    rcases List.mem_cons.mp h with h | h
    · rw [← h, if_pos rfl]
    · have := List.all_eq_true.mp hn.1 _ h
      rw [if_neg (by intro h9; simp [h9] at this)]
      exact zNod_mem hn.2 h
theorem zNod_filter (P : Nat × Value → Bool) : ∀ {lv : zL}, zNod lv = true → zNod (lv.filter P) = true
  | [], _ => rfl
  | q :: r, hn => by
    unfold zNod at hn
    rw [Bool.and_eq_true] at hn
    rw [List.filter_cons]
    split
    · unfold zNod
      rw [Bool.and_eq_true]
      refine ⟨List.all_eq_true.mpr (fun p hp => List.all_eq_true.mp hn.1 p (List.mem_filter.mp hp).1), zNod_filter P hn.2⟩
    · exact zNod_filter P hn.2
theorem zget_filter (P : Nat × Value → Bool) : ∀ {lv : zL} {j : Nat} {v : Value}, zget lv j = some v → P (j, v) = true → zget (lv.filter P) j = some v
  | [], _, _, h, _ => by cases h
  | q :: r, j, v, h, hP => by
    rw [zget_cons] at h
    rw [List.filter_cons]
    split at h
    · rename_i hq
      cases h
      rw [show q = (j, q.2) from by rw [← hq], if_pos hP, zget_cons, if_pos rfl]
    · rename_i hq
      split
      · rw [zget_cons, if_neg hq]
        exact zget_filter P h hP
      · exact zget_filter P h hP
theorem zSub_st (P : Nat × Value → Bool) {lv lv' : zL} {a : Nat} {v : Value} (hn : zNod lv = true) (hs : zSub lv lv') (hP : ∀ w, P (a, w) = false) : zSub ((a, v) :: lv.filter P) ((a, v) :: lv'.filter P) ∧ zNod ((a, v) :: lv.filter P) = true := by
  constructor
  · intro j w hw
    rw [zget_cons] at hw ⊢
    split at hw
    · rename_i hq
      rw [if_pos hq]
      exact hw
    · rename_i hq
      rw [if_neg hq]
      have h1 := zget_mem hw
      obtain ⟨h2, h3⟩ := List.mem_filter.mp h1
      exact zget_filter P (hs j w (zNod_mem hn h2)) h3
  · unfold zNod
    rw [Bool.and_eq_true]
    refine ⟨List.all_eq_true.mpr (fun p hp => ?_), zNod_filter P hn⟩
    obtain ⟨h2, h3⟩ := List.mem_filter.mp hp
    cases hpa : p.1 == a with
    | false => rfl
    | true =>
      have : p = (a, p.2) := by rw [← show p.1 = a by simpa using hpa]
      rw [this, hP] at h3
      cases h3
theorem zSub_1 {lv lv' : zL} {a : Nat} {v : Value} (hn : zNod lv = true) (hs : zSub lv lv') : zSub ((a, v) :: zdrop1 a lv) ((a, v) :: zdrop1 a lv') ∧ zNod ((a, v) :: zdrop1 a lv) = true := zSub_st _ hn hs (fun w => by simp)
theorem zSub_2 {lv lv' : zL} {a : Nat} {v : Value} (hn : zNod lv = true) (hs : zSub lv lv') : zSub ((a, v) :: zdrop2 a lv) ((a, v) :: zdrop2 a lv') ∧ zNod ((a, v) :: zdrop2 a lv) = true := zSub_st _ hn hs (fun w => by simp)
theorem zSub_d {lv lv' : zL} {a : Nat} (hn : zNod lv = true) (hs : zSub lv lv') : zSub (zdrop1 a lv) (zdrop1 a lv') ∧ zNod (zdrop1 a lv) = true := by
  refine ⟨fun j w hw => ?_, zNod_filter _ hn⟩
  have h1 := zget_mem hw
  obtain ⟨h2, h3⟩ := List.mem_filter.mp h1
  exact zget_filter _ (hs j w (zNod_mem hn h2)) h3
/-- does the instruction look at the locals? -/
def zloc (i : Instr) : Bool := match i with
  | .iload_n _ | .iload _ | .lload_n _ | .lload _ | .aload_n _ | .aload _ | .istore_n _ | .istore _ | .lstore_n _ | .lstore _ | .astore_n _ | .astore _ | .iinc _ _ => true
  | _ => false
set_option maxHeartbeats 4000000 in
theorem z1_free {pc : Nat} {i : Instr} {lv lv' : zL} {st : List Value} (h : zloc i = false) : z1 pc i lv' st = (z1 pc i lv st).map (fun q => (q.1, lv', q.2.2)) := by
  unfold z1
  split <;> first
    | (cases h; done)
    | rfl
    | (repeat' split) <;> first | rfl | simp_all
set_option maxHeartbeats 4000000 in
theorem z1_free2 {pc pc' : Nat} {i : Instr} {lv lv1 : zL} {st st' : List Value} (h : zloc i = false) (h1 : z1 pc i lv st = some (pc', lv1, st')) : lv1 = lv := by
  have h2 := z1_free (pc := pc) (lv := lv) (lv' := lv) (st := st) h
  rw [h1] at h2
  exact congrArg (fun q : Nat × zL × List Value => q.2.1) (Option.some.inj h2)
theorem z1_sub {pc pc' : Nat} {i : Instr} {lv lv' lv1 : zL} {st st' : List Value} (hn : zNod lv = true) (hs : zSub lv lv') (h1 : z1 pc i lv st = some (pc', lv1, st')) : ∃ lv1', z1 pc i lv' st = some (pc', lv1', st') ∧ zSub lv1 lv1' ∧ zNod lv1 = true := by
  cases hz : zloc i with
  | false =>
    have e := z1_free2 hz h1
    subst e
    refine ⟨lv', ?_, hs, hn⟩
    rw [z1_free (lv := lv1) (lv' := lv') hz, h1]
    rfl
  | true =>
    unfold zloc at hz
    split at hz
    all_goals first | (cases hz; done) | skip
    all_goals simp only [z1] at h1 ⊢
    all_goals (split at h1)
    all_goals first | (cases h1; done) | skip
    all_goals first
      | (rename_i hg; rw [hs _ _ hg]; simp only [] at h1 ⊢; cases h1; first | exact ⟨_, rfl, hs, hn⟩ | exact ⟨_, rfl, zSub_1 hn hs⟩)
      | (cases h1; first | exact ⟨_, rfl, zSub_1 hn hs⟩ | exact ⟨_, rfl, zSub_2 hn hs⟩)
theorem z1_none {L : Nat} {xs : Nat → Int32} {cn pc : Nat} {i : Instr} {lv : zL} {st : List Value} {h : zH} {mi : ZM} (hz : zloc i = true) : z2 L xs cn i st h = none ∧ zcall cn i st h = none ∧ zret3 mi i st = none := by
  unfold zloc at hz
  split at hz
  all_goals first | (cases hz; done) | exact ⟨rfl, rfl, rfl⟩
/-- the throws stand at no instruction of locals -/
def zTl (mi : ZM) : Prop := ∀ pc i n, zfetch mi pc = some (i, n) → zloc i = true → zThr mi pc = none
theorem zrun_sub {L : Nat} {xs : Nat → Int32} : ∀ (n d : Nat) (mi : ZM) (pc : Nat) (lv lv' : zL) (st : List Value) (h : zH) (k : Nat) (r : zO × zH × Nat), zTl mi → zNod lv = true → zSub lv lv' → zrun L xs n d mi pc lv st h k = some r → zrun L xs n d mi pc lv' st h k = some r := by
  intro n
  induction n with
  | zero =>
    intro d mi pc lv lv' st h k r _ _ _ hr
    unfold zrun at hr
    cases hr
  | succ n ih =>
    intro d mi pc lv lv' st h k r hT hn hs hr
    rw [zrun] at hr ⊢
    cases hf : zfetch mi pc with
    | none => rw [hf] at hr; cases hr
    | some q =>
      obtain ⟨i, nn⟩ := q
      rw [hf] at hr
      simp only [] at hr ⊢
      cases h1 : z1 pc i lv st with
      | some q =>
        obtain ⟨a, b, c⟩ := q
        obtain ⟨b', e1, e2, e3⟩ := z1_sub hn hs h1
        rw [h1] at hr
        rw [e1]
        simp only [] at hr ⊢
        exact ih _ _ _ _ _ _ _ _ _ hT e3 e2 hr
      | none =>
        rw [h1] at hr
        cases hz : zloc i with
        | true =>
          obtain ⟨e1, e2, e3⟩ := z1_none (L := L) (xs := xs) (cn := zCno mi) (pc := pc) (lv := lv) (st := st) (h := h) (mi := mi) hz
          simp only [e1, e2, e3, hT pc i nn hf hz] at hr
          cases hr
        | false =>
          rw [z1_free (lv := lv) (lv' := lv') hz, h1]
          simp only [Option.map_none] at hr ⊢
          cases h2 : z2 L xs (zCno mi) i st h with
          | some q => obtain ⟨a, b, c⟩ := q; rw [h2] at hr; simp only [] at hr ⊢; exact ih _ _ _ _ _ _ _ _ _ hT hn hs hr
          | none =>
            rw [h2] at hr
            simp only [] at hr ⊢
            cases hc : zcall (zCno mi) i st h with
            | none => rw [hc] at hr; exact hr
            | some q =>
              obtain ⟨y, as, rest⟩ := q
              rw [hc] at hr
              simp only [] at hr ⊢
              cases d with
              | zero => cases hr
              | succ d' =>
                simp only [] at hr ⊢
                by_cases hk : k + zKm y ≤ zKm mi
                · rw [if_pos hk] at hr ⊢
                  cases hr1 : zrun L xs n d' y 0 (lv_args 0 as) [] h 0 with
                  | none => rw [hr1] at hr; cases hr
                  | some q =>
                    obtain ⟨o1, h1', k1⟩ := q
                    rw [hr1] at hr
                    cases o1 with
                    | inl v =>
                      simp only [] at hr ⊢
                      by_cases hk1 : k1 ≤ zKm y
                      · rw [if_pos hk1] at hr ⊢
                        exact ih _ _ _ _ _ _ _ _ _ hT hn hs hr
                      · rw [if_neg hk1] at hr; cases hr
                    | inr x =>
                      simp only [] at hr ⊢
                      by_cases hk1 : k1 ≤ zKm y
                      · rw [if_pos hk1] at hr ⊢
                        cases hh : zHs mi with
                        | nil => rw [hh] at hr; exact hr
                        | cons q qs =>
                          rw [hh] at hr
                          simp only [] at hr ⊢
                          cases hp : zHan mi pc x with
                          | none => rw [hp] at hr; cases hr
                          | some pcH =>
                            rw [hp] at hr
                            simp only [] at hr ⊢
                            split at hr
                            · exact ih _ _ _ _ _ _ _ _ _ hT (zSub_d hn hs).2 (zSub_d hn hs).1 hr
                            · exact ih _ _ _ _ _ _ _ _ _ hT (zSub_d hn hs).2 (zSub_d hn hs).1 hr
                            · cases hr
                      · rw [if_neg hk1] at hr; cases hr
                · rw [if_neg hk] at hr; cases hr
/-- the locals in another form -/
theorem zR_lv {L : Nat} {xs : Nat → Int32} {d : Nat} {mi : ZM} {pc : Nat} (lv : zL) {lv' : zL} {st : List Value} {h h' : zH} {k k' : Nat} {o : zO} (hT : zTl mi) (hn : zNod lv = true) (hs : zSubL lv lv') (hR : zR L xs d mi pc lv st h k o h' k') : zR L xs d mi pc lv' st h k o h' k' := by
  obtain ⟨n, hr⟩ := hR
  exact ⟨n, zrun_sub _ _ _ _ _ _ _ _ _ _ hT hn (zSubL_sub hs) hr⟩
theorem zTl_nil {mi : ZM} (h : zThL mi = []) : zTl mi := fun pc i n _ _ => by
  unfold zThr
  rw [h]
  rfl
/-! many instructions at once, with the heap -/
def zst2 (L : Nat) (xs : Nat → Int32) (mi : ZM) : Nat → Nat → zL → List Value → zH → Option (Nat × zL × List Value × zH)
  | 0, pc, lv, st, h => some (pc, lv, st, h)
  | n + 1, pc, lv, st, h => match zfetch mi pc with
    | some (i, _) => (match z1 pc i lv st with
      | some (pc', lv', st') => zst2 L xs mi n pc' lv' st' h
      | none => (match z2 L xs (zCno mi) i st h with
        | some (w, st', h') => zst2 L xs mi n (pc + w) lv st' h'
        | none => none))
    | none => none
theorem zR_m {L : Nat} {xs : Nat → Int32} {d : Nat} {mi : ZM} {pc' : Nat} {lv' : zL} {st' : List Value} {h1 h' : zH} {k k' : Nat} {o : zO} : ∀ (n : Nat) {pc : Nat} {lv : zL} {st : List Value} {h : zH}, zst2 L xs mi n pc lv st h = some (pc', lv', st', h1) → zR L xs d mi pc' lv' st' h1 k o h' k' → zR L xs d mi pc lv st h k o h' k'
  | 0, pc, lv, st, h, h0, hR => by
    unfold zst2 at h0
    cases h0
    exact hR
  | n + 1, pc, lv, st, h, h0, hR => by
    unfold zst2 at h0
    split at h0
    · rename_i i nn hf
      split at h0
      · rename_i a b c h1
        exact zR_s hf h1 (zR_m n h0 hR)
      · rename_i hn
        split at h0
        · rename_i a b c h2
          exact zR_h hf hn h2 rfl (zR_m n h0 hR)
        · cases h0
    · cases h0
/-- a whole run, once and for all -/
theorem zE_m {L : Nat} {xs : Nat → Int32} {d n : Nat} {y : ZM} {as : List Value} {h h' : zH} {o : zO} {k1 : Nat} (hr : zrun L xs n d y 0 (lv_args 0 as) [] h 0 = some (o, h', k1)) (hk : k1 ≤ zKm y) : zE L xs d y as h o h' := ⟨k1, hk, n, hr⟩
