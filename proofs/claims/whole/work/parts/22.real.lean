/-! StackReal$Real -/
abbrev cReal (kd : Int32) (ng : Bool) (ex : Int32) (sg : Int64) : zC := .inr (1, [.int kd, .int (bI ng), .int ex, .long sg])
abbrev cExact (ng : Bool) (ex : Int32) (hi lo : Int64) : zC := .inr (2, [.int (bI ng), .int ex, .long hi, .long lo])
theorem bI_put (ci j : Nat) (b : Bool) (h1 : zFin ci j = false) (h2 : zTyp ci j = .boolean) : zput ci j (.int (bI b)) = true := by
  unfold zput
  rw [h1, h2]
  cases b <;> rfl
section RE
variable {L : Nat} {xs : Nat → Int32} {d : Nat} {h : zH} {q j : Nat}
set_option maxRecDepth 10000 in
theorem e_Re_copy {kd ex kd' ex' : Int32} {ng ng' : Bool} {sg sg' : Int64} (hq : h[q]? = some (cReal kd ng ex sg)) (hj : h[j]? = some (cReal kd' ng' ex' sg')) (hne : q ≠ j) : zE L xs d m_Re_copy [.ref q, .ref j] h (.inl none) (h.set q (cReal kd' ng' ex' sg')) := by
  refine ⟨0, Nat.zero_le _, ?_⟩
  refine zR_n 2 rfl ?_
  refine zR_g rfl rfl hj rfl rfl ?_
  refine zR_p rfl rfl hq (Nat.le_of_ble_eq_true rfl) rfl rfl rfl ?_
  refine zR_n 2 rfl ?_
  refine zR_g rfl rfl (gn hne hj) rfl rfl ?_
  refine zR_p rfl rfl (gs hq) (Nat.le_of_ble_eq_true rfl) (bI_put _ _ _ rfl rfl) rfl rfl ?_
  refine zR_n 2 rfl ?_
  refine zR_g rfl rfl (gn hne (gn hne hj)) rfl rfl ?_
  refine zR_p rfl rfl (gs (gs hq)) (Nat.le_of_ble_eq_true rfl) rfl rfl rfl ?_
  refine zR_n 2 rfl ?_
  refine zR_g rfl rfl (gn hne (gn hne (gn hne hj))) rfl rfl ?_
  refine zR_p rfl rfl (gs (gs (gs hq))) (Nat.le_of_ble_eq_true rfl) rfl rfl rfl ?_
  exact zR_e rfl rfl rfl rfl rfl (by simp only [List.set_set]; rfl)
set_option maxRecDepth 10000 in
theorem e_Re_becomeNan {kd ex : Int32} {ng : Bool} {sg : Int64} (hq : h[q]? = some (cReal kd ng ex sg)) : zE L xs d m_Re_becomeNan [.ref q] h (.inl none) (h.set q (cReal 3 false 0 0)) := by
  refine ⟨0, Nat.zero_le _, ?_⟩
  refine zR_n 2 rfl ?_
  refine zR_p rfl rfl hq (Nat.le_of_ble_eq_true rfl) rfl rfl rfl ?_
  refine zR_n 2 rfl ?_
  refine zR_p rfl rfl (gs hq) (Nat.le_of_ble_eq_true rfl) rfl rfl rfl ?_
  refine zR_n 2 rfl ?_
  refine zR_p rfl rfl (gs (gs hq)) (Nat.le_of_ble_eq_true rfl) rfl rfl rfl ?_
  refine zR_n 2 rfl ?_
  refine zR_p rfl rfl (gs (gs (gs hq))) (Nat.le_of_ble_eq_true rfl) rfl rfl rfl ?_
  exact zR_e rfl rfl rfl rfl rfl (by simp only [List.set_set]; rfl)
end RE
