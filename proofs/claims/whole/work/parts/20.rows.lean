/-! The pure machine's own rows: 'from here the run ends with o, h'' -/
section ZP
variable {L : Nat} {xs : Nat → Int32}
theorem zrun_mono : ∀ (n d : Nat) (mi : ZM) (pc : Nat) (lv : zL) (st : List Value) (h : zH) (k : Nat) (r : zO × zH × Nat), zrun L xs n d mi pc lv st h k = some r → zrun L xs (n + 1) d mi pc lv st h k = some r := by
  intro n
  induction n with
  | zero =>
    intro d mi pc lv st h k r hr
    unfold zrun at hr
    cases hr
  | succ n ih =>
    intro d mi pc lv st h k r hr
    rw [zrun] at hr ⊢
    cases hf : zfetch mi pc with
    | none => rw [hf] at hr; cases hr
    | some q =>
      obtain ⟨i, nn⟩ := q
      rw [hf] at hr
      simp only [] at hr ⊢
      cases h1 : z1 pc i lv st with
      | some q => obtain ⟨a, b, c⟩ := q; rw [h1] at hr; simp only [] at hr ⊢; exact ih _ _ _ _ _ _ _ _ hr
      | none =>
        rw [h1] at hr
        simp only [] at hr ⊢
        cases h2 : z2 L xs (zCno mi) i st h with
        | some q => obtain ⟨a, b, c⟩ := q; rw [h2] at hr; simp only [] at hr ⊢; exact ih _ _ _ _ _ _ _ _ hr
        | none =>
          rw [h2] at hr
          simp only [] at hr ⊢
          cases hc : zcall (zCno mi) i st h with
          | none => rw [hc] at hr; exact hr
          | some q =>
            obtain ⟨y, as, rest⟩ := q
            rw [hc] at hr
            simp only [] at hr ⊢
            cases d with
            | zero => cases hr
            | succ d' =>
              simp only [] at hr ⊢
              by_cases hk : k + zKm y ≤ zKm mi
              · rw [if_pos hk] at hr ⊢
                cases hr1 : zrun L xs n d' y 0 (lv_args 0 as) [] h 0 with
                | none => rw [hr1] at hr; cases hr
                | some q =>
                  obtain ⟨o1, h1', k1⟩ := q
                  rw [hr1] at hr
                  rw [ih _ _ _ _ _ _ _ _ hr1]
                  cases o1 with
                  | inl v =>
                    simp only [] at hr ⊢
                    by_cases hk1 : k1 ≤ zKm y
                    · rw [if_pos hk1] at hr ⊢
                      exact ih _ _ _ _ _ _ _ _ hr
                    · rw [if_neg hk1] at hr; cases hr
                  | inr x =>
                    simp only [] at hr ⊢
                    by_cases hk1 : k1 ≤ zKm y
                    · rw [if_pos hk1] at hr ⊢
                      cases hh : zHs mi with
                      | nil => rw [hh] at hr; exact hr
                      | cons q qs =>
                        rw [hh] at hr
                        simp only [] at hr ⊢
                        cases hp : zHan mi pc x with
                        | none => rw [hp] at hr; cases hr
                        | some pcH =>
                          rw [hp] at hr
                          simp only [] at hr ⊢
                          split at hr
                          · exact ih _ _ _ _ _ _ _ _ hr
                          · exact ih _ _ _ _ _ _ _ _ hr
                          · cases hr
                    · rw [if_neg hk1] at hr; cases hr
              · rw [if_neg hk] at hr; cases hr
theorem zrun_le {n n' d : Nat} {mi : ZM} {pc : Nat} {lv : zL} {st : List Value} {h : zH} {k : Nat} {r : zO × zH × Nat} (hn : n ≤ n') (hr : zrun L xs n d mi pc lv st h k = some r) : zrun L xs n' d mi pc lv st h k = some r := by
  induction hn with
  | refl => exact hr
  | step _ ih => exact zrun_mono _ _ _ _ _ _ _ _ _ ih
/-- from here the run ends so -/
def zR (L : Nat) (xs : Nat → Int32) (d : Nat) (mi : ZM) (pc : Nat) (lv : zL) (st : List Value) (h : zH) (k : Nat) (o : zO) (h' : zH) (k' : Nat) : Prop := ∃ n, zrun L xs n d mi pc lv st h k = some (o, h', k')
/-- a call ends so -/
def zE (L : Nat) (xs : Nat → Int32) (d : Nat) (y : ZM) (as : List Value) (h : zH) (o : zO) (h' : zH) : Prop := ∃ k1, k1 ≤ zKm y ∧ zR L xs d y 0 (lv_args 0 as) [] h 0 o h' k1
variable {d : Nat} {mi : ZM} {pc nn : Nat} {i : Instr} {lv lv' : zL} {st st' : List Value} {h h1 h' : zH} {k k' : Nat} {o : zO} {pc' : Nat}
theorem zR_s (hf : zfetch mi pc = some (i, nn)) (h1 : z1 pc i lv st = some (pc', lv', st')) (hR : zR L xs d mi pc' lv' st' h k o h' k') : zR L xs d mi pc lv st h k o h' k' := by
  obtain ⟨n, hn⟩ := hR
  refine ⟨n + 1, ?_⟩
  rw [zrun, hf]
  simp only [h1]
  exact hn
theorem zR_h {w : Nat} (hf : zfetch mi pc = some (i, nn)) (hn1 : z1 pc i lv st = none) (h2 : z2 L xs (zCno mi) i st h = some (w, st', h1)) (hw : pc + w = pc') (hR : zR L xs d mi pc' lv st' h1 k o h' k') : zR L xs d mi pc lv st h k o h' k' := by
  subst hw
  obtain ⟨n, hn⟩ := hR
  refine ⟨n + 1, ?_⟩
  rw [zrun, hf]
  simp only [hn1, h2]
  exact hn
theorem zR_c {y : ZM} {as rest : List Value} {v : Option Value} {k1 : Nat} (hf : zfetch mi pc = some (i, nn)) (hn1 : z1 pc i lv st = none) (hn2 : z2 L xs (zCno mi) i st h = none) (hc : zcall (zCno mi) i st h = some (y, as, rest)) (hk : k + zKm y = k1) (hk1 : k1 ≤ zKm mi) (hw : pc + 3 = pc') (hC : zE L xs d y as h (.inl v) h1)
    (hs : v.toList ++ rest = st') (hR : zR L xs (d + 1) mi pc' lv st' h1 k1 o h' k') : zR L xs (d + 1) mi pc lv st h k o h' k' := by
  subst hk; subst hw; subst hs
  obtain ⟨n, hn⟩ := hR
  obtain ⟨j, hj, n2, hn2'⟩ := hC
  refine ⟨max n n2 + 1, ?_⟩
  rw [zrun, hf]
  simp only [hn1, hn2, hc]
  rw [if_pos hk1, zrun_le (Nat.le_max_right n n2) hn2']
  simp only []
  rw [if_pos hj]
  exact zrun_le (Nat.le_max_left n n2) hn
/-- a call that throws, in a method without handlers -/
theorem zR_ct {y : ZM} {x : Nat} {as rest : List Value} (hf : zfetch mi pc = some (i, nn)) (hn1 : z1 pc i lv st = none) (hn2 : z2 L xs (zCno mi) i st h = none) (hc : zcall (zCno mi) i st h = some (y, as, rest)) (hk1 : k + zKm y ≤ zKm mi) (hC : zE L xs d y as h (.inr x) h1) (hh : zHs mi = []) : zR L xs (d + 1) mi pc lv st h k (.inr x) h1 (k + zKm y) := by
  obtain ⟨j, hj, n2, hn2'⟩ := hC
  refine ⟨n2 + 1, ?_⟩
  rw [zrun, hf]
  simp only [hn1, hn2, hc]
  rw [if_pos hk1, hn2']
  simp only []
  rw [if_pos hj, hh]
/-- a call that throws, caught -/
theorem zR_cc {y : ZM} {x hp j nj : Nat} {as rest : List Value} (hf : zfetch mi pc = some (i, nn)) (hn1 : z1 pc i lv st = none) (hn2 : z2 L xs (zCno mi) i st h = none) (hc : zcall (zCno mi) i st h = some (y, as, rest)) (hk1 : k + zKm y ≤ zKm mi) (hC : zE L xs d y as h (.inr x) h1) (hh : (zHs mi).isEmpty = false) (hH : zHan mi pc x = some hp) (hfj : zfetch mi hp = some (.astore j, nj))
    (hR : zR L xs (d + 1) mi (hp + 2) (zdrop1 j lv) [] h1 (k + zKm y) o h' k') : zR L xs (d + 1) mi pc lv st h k o h' k' := by
  obtain ⟨n, hn⟩ := hR
  obtain ⟨j9, hj, n2, hn2'⟩ := hC
  refine ⟨max n n2 + 1, ?_⟩
  rw [zrun, hf]
  simp only [hn1, hn2, hc]
  rw [if_pos hk1, zrun_le (Nat.le_max_right n n2) hn2']
  simp only []
  rw [if_pos hj]
  cases hz : zHs mi with
  | nil => rw [hz] at hh; cases hh
  | cons q qs =>
    simp only [hH, hfj]
    exact zrun_le (Nat.le_max_left n n2) hn
theorem zR_cn {y : ZM} {x hp nj : Nat} {j : Fin 4} {as rest : List Value} (hf : zfetch mi pc = some (i, nn)) (hn1 : z1 pc i lv st = none) (hn2 : z2 L xs (zCno mi) i st h = none) (hc : zcall (zCno mi) i st h = some (y, as, rest)) (hk1 : k + zKm y ≤ zKm mi) (hC : zE L xs d y as h (.inr x) h1) (hh : (zHs mi).isEmpty = false) (hH : zHan mi pc x = some hp) (hfj : zfetch mi hp = some (.astore_n j, nj))
    (hR : zR L xs (d + 1) mi (hp + 1) (zdrop1 j lv) [] h1 (k + zKm y) o h' k') : zR L xs (d + 1) mi pc lv st h k o h' k' := by
  obtain ⟨n, hn⟩ := hR
  obtain ⟨j9, hj, n2, hn2'⟩ := hC
  refine ⟨max n n2 + 1, ?_⟩
  rw [zrun, hf]
  simp only [hn1, hn2, hc]
  rw [if_pos hk1, zrun_le (Nat.le_max_right n n2) hn2']
  simp only []
  rw [if_pos hj]
  cases hz : zHs mi with
  | nil => rw [hz] at hh; cases hh
  | cons q qs =>
    simp only [hH, hfj]
    exact zrun_le (Nat.le_max_left n n2) hn
theorem zR_r {v : Option Value} (hf : zfetch mi pc = some (i, nn)) (hn1 : z1 pc i lv st = none) (hn2 : z2 L xs (zCno mi) i st h = none) (hc : zcall (zCno mi) i st h = none) (hr : zret3 mi i st = some v) : zR L xs d mi pc lv st h k (.inl v) h k := by
  refine ⟨1, ?_⟩
  rw [zrun, hf]
  simp only [hn1, hn2, hc, hr]
theorem zR_t {x : Nat} (hf : zfetch mi pc = some (i, nn)) (hn1 : z1 pc i lv st = none) (hn2 : z2 L xs (zCno mi) i st h = none) (hc : zcall (zCno mi) i st h = none) (hr : zret3 mi i st = none) (ht : zThr mi pc = some x) (hk : k + 1 ≤ zKm mi ∧ st = [] ∧ 6 ≤ d) : zR L xs d mi pc lv st h k (.inr x) h (k + 1) := by
  refine ⟨1, ?_⟩
  rw [zrun, hf]
  simp only [hn1, hn2, hc, hr, ht]
  rw [if_pos hk]
/-- a branch -/
theorem zR_if {P : Prop} [Decidable P] {a b : Nat} (ht : P → zR L xs d mi a lv st h k o h' k') (hf : ¬ P → zR L xs d mi b lv st h k o h' k') : zR L xs d mi (if P then a else b) lv st h k o h' k' := by
  by_cases hP : P
  · rw [if_pos hP]; exact ht hP
  · rw [if_neg hP]; exact hf hP
/-! many instructions of locals and stack at once -/
def zst (mi : ZM) : Nat → Nat → zL → List Value → Option (Nat × zL × List Value)
  | 0, pc, lv, st => some (pc, lv, st)
  | n + 1, pc, lv, st => match zfetch mi pc with
    | some (i, _) => (match z1 pc i lv st with
      | some (pc', lv', st') => zst mi n pc' lv' st'
      | none => none)
    | none => none
theorem zR_n : ∀ (n : Nat) {pc : Nat} {lv : zL} {st : List Value}, zst mi n pc lv st = some (pc', lv', st') → zR L xs d mi pc' lv' st' h k o h' k' → zR L xs d mi pc lv st h k o h' k'
  | 0, pc, lv, st, h0, hR => by
    unfold zst at h0
    cases h0
    exact hR
  | n + 1, pc, lv, st, h0, hR => by
    unfold zst at h0
    split at h0
    · rename_i i nn hf
      split at h0
      · rename_i a b c h1
        exact zR_s hf h1 (zR_n n h0 hR)
      · cases h0
    · cases h0
end ZP
