/-! What the tables say of methods and pools -/
theorem look_mem {α : Type} {l : List (Nat × α)} {k : Nat} {v : α} (h : l.lookup k = some v) : (k, v) ∈ l := by
  induction l with
  | nil => cases h
  | cons q l ih =>
    obtain ⟨a, b⟩ := q
    rw [List.lookup_cons] at h
    by_cases hk : k = a
    · subst hk
      simp at h
      subst h
      exact List.mem_cons_self
    · have h9 : (k == a) = false := by simpa using hk
      rw [h9] at h
      exact List.mem_cons_of_mem _ (ih h)
/-- a method's own words -/
def zMok (y : ZM) : Prop := (zNm y).cls = zCn (zCno y) ∧ plainName (zNm y).cls = true ∧ ((zNm y).cls ≠ "java/lang/invoke/MethodHandle" ∧ (zNm y).cls ≠ "java/lang/invoke/VarHandle") ∧ ((zHs y = [] ∧ Jvm.Cond.code (zNm y) (zCode y) (zMl y) (zRt y) ∈ zWs) ∨ Jvm.Cond.codeWith (zNm y) (zCode y) (zMl y) (zRt y) (zHs y) ∈ zWs)
theorem mo_SR_await : zMok m_SR_await := ⟨by decide +kernel, by decide +kernel, by decide +kernel, Or.inl ⟨rfl, zW_in 268 (by decide +kernel)⟩⟩
theorem mo_Me_waitUntilFree : zMok m_Me_waitUntilFree := ⟨by decide +kernel, by decide +kernel, by decide +kernel, Or.inl ⟨rfl, zW_in 272 (by decide +kernel)⟩⟩
theorem mo_Me_goOn : zMok m_Me_goOn := ⟨by decide +kernel, by decide +kernel, by decide +kernel, Or.inl ⟨rfl, zW_in 276 (by decide +kernel)⟩⟩
theorem mo_SR_time : zMok m_SR_time := ⟨by decide +kernel, by decide +kernel, by decide +kernel, Or.inl ⟨rfl, zW_in 280 (by decide +kernel)⟩⟩
theorem mo_SR_flags : zMok m_SR_flags := ⟨by decide +kernel, by decide +kernel, by decide +kernel, Or.inl ⟨rfl, zW_in 284 (by decide +kernel)⟩⟩
theorem mo_SR_clear : zMok m_SR_clear := ⟨by decide +kernel, by decide +kernel, by decide +kernel, Or.inl ⟨rfl, zW_in 288 (by decide +kernel)⟩⟩
theorem mo_SR_condition : zMok m_SR_condition := ⟨by decide +kernel, by decide +kernel, by decide +kernel, Or.inl ⟨rfl, zW_in 292 (by decide +kernel)⟩⟩
theorem mo_SR_depth : zMok m_SR_depth := ⟨by decide +kernel, by decide +kernel, by decide +kernel, Or.inl ⟨rfl, zW_in 296 (by decide +kernel)⟩⟩
theorem mo_La_control : zMok m_La_control := ⟨by decide +kernel, by decide +kernel, by decide +kernel, Or.inr (zW_in 299 (by decide +kernel))⟩
theorem mo_SR_control : zMok m_SR_control := ⟨by decide +kernel, by decide +kernel, by decide +kernel, Or.inl ⟨rfl, zW_in 304 (by decide +kernel)⟩⟩
theorem mo_La_operate : zMok m_La_operate := ⟨by decide +kernel, by decide +kernel, by decide +kernel, Or.inr (zW_in 376 (by decide +kernel))⟩
theorem mo_SR_operate : zMok m_SR_operate := ⟨by decide +kernel, by decide +kernel, by decide +kernel, Or.inl ⟨rfl, zW_in 381 (by decide +kernel)⟩⟩
theorem mo_SR_namesPlace : zMok m_SR_namesPlace := ⟨by decide +kernel, by decide +kernel, by decide +kernel, Or.inl ⟨rfl, zW_in 385 (by decide +kernel)⟩⟩
theorem mo_Me_occupy : zMok m_Me_occupy := ⟨by decide +kernel, by decide +kernel, by decide +kernel, Or.inl ⟨rfl, zW_in 392 (by decide +kernel)⟩⟩
theorem mo_SR_isPossible : zMok m_SR_isPossible := ⟨by decide +kernel, by decide +kernel, by decide +kernel, Or.inl ⟨rfl, zW_in 397 (by decide +kernel)⟩⟩
theorem mo_SR_pushes : zMok m_SR_pushes := ⟨by decide +kernel, by decide +kernel, by decide +kernel, Or.inl ⟨rfl, zW_in 402 (by decide +kernel)⟩⟩
theorem mo_SR_st : zMok m_SR_st := ⟨by decide +kernel, by decide +kernel, by decide +kernel, Or.inl ⟨rfl, zW_in 406 (by decide +kernel)⟩⟩
theorem mo_SR_raise : zMok m_SR_raise := ⟨by decide +kernel, by decide +kernel, by decide +kernel, Or.inl ⟨rfl, zW_in 410 (by decide +kernel)⟩⟩
theorem mo_SR_workOut : zMok m_SR_workOut := ⟨by decide +kernel, by decide +kernel, by decide +kernel, Or.inl ⟨rfl, zW_in 430 (by decide +kernel)⟩⟩
theorem mo_Ar_add : zMok m_Ar_add := ⟨by decide +kernel, by decide +kernel, by decide +kernel, Or.inl ⟨rfl, zW_in 434 (by decide +kernel)⟩⟩
theorem mo_Re_becomeNan : zMok m_Re_becomeNan := ⟨by decide +kernel, by decide +kernel, by decide +kernel, Or.inl ⟨rfl, zW_in 438 (by decide +kernel)⟩⟩
theorem mo_Ar_addInfinite : zMok m_Ar_addInfinite := ⟨by decide +kernel, by decide +kernel, by decide +kernel, Or.inl ⟨rfl, zW_in 442 (by decide +kernel)⟩⟩
theorem mo_Ar_makeInvalid : zMok m_Ar_makeInvalid := ⟨by decide +kernel, by decide +kernel, by decide +kernel, Or.inl ⟨rfl, zW_in 445 (by decide +kernel)⟩⟩
theorem mo_Re_copy : zMok m_Re_copy := ⟨by decide +kernel, by decide +kernel, by decide +kernel, Or.inl ⟨rfl, zW_in 449 (by decide +kernel)⟩⟩
theorem mo_Re_becomeZero : zMok m_Re_becomeZero := ⟨by decide +kernel, by decide +kernel, by decide +kernel, Or.inl ⟨rfl, zW_in 453 (by decide +kernel)⟩⟩
theorem mo_Ex_copy : zMok m_Ex_copy := ⟨by decide +kernel, by decide +kernel, by decide +kernel, Or.inl ⟨rfl, zW_in 457 (by decide +kernel)⟩⟩
theorem mo_Ex_becomeSum : zMok m_Ex_becomeSum := ⟨by decide +kernel, by decide +kernel, by decide +kernel, Or.inl ⟨rfl, zW_in 461 (by decide +kernel)⟩⟩
theorem mo_SR_compareMagnitudes : zMok m_SR_compareMagnitudes := ⟨by decide +kernel, by decide +kernel, by decide +kernel, Or.inl ⟨rfl, zW_in 464 (by decide +kernel)⟩⟩
theorem mo_SR_isBelow : zMok m_SR_isBelow := ⟨by decide +kernel, by decide +kernel, by decide +kernel, Or.inl ⟨rfl, zW_in 467 (by decide +kernel)⟩⟩
theorem mo_Ex_combine : zMok m_Ex_combine := ⟨by decide +kernel, by decide +kernel, by decide +kernel, Or.inl ⟨rfl, zW_in 472 (by decide +kernel)⟩⟩
theorem mo_Ex_lowerPart : zMok m_Ex_lowerPart := ⟨by decide +kernel, by decide +kernel, by decide +kernel, Or.inl ⟨rfl, zW_in 476 (by decide +kernel)⟩⟩
theorem mo_Ex_putOn : zMok m_Ex_putOn := ⟨by decide +kernel, by decide +kernel, by decide +kernel, Or.inl ⟨rfl, zW_in 480 (by decide +kernel)⟩⟩
theorem mo_Ex_takeAway : zMok m_Ex_takeAway := ⟨by decide +kernel, by decide +kernel, by decide +kernel, Or.inl ⟨rfl, zW_in 486 (by decide +kernel)⟩⟩
theorem mo_Ex_normalize : zMok m_Ex_normalize := ⟨by decide +kernel, by decide +kernel, by decide +kernel, Or.inl ⟨rfl, zW_in 490 (by decide +kernel)⟩⟩
theorem mo_Ex_isZero : zMok m_Ex_isZero := ⟨by decide +kernel, by decide +kernel, by decide +kernel, Or.inl ⟨rfl, zW_in 494 (by decide +kernel)⟩⟩
theorem mo_Ro_round : zMok m_Ro_round := ⟨by decide +kernel, by decide +kernel, by decide +kernel, Or.inl ⟨rfl, zW_in 498 (by decide +kernel)⟩⟩
theorem mo_Ro_roundTo : zMok m_Ro_roundTo := ⟨by decide +kernel, by decide +kernel, by decide +kernel, Or.inl ⟨rfl, zW_in 502 (by decide +kernel)⟩⟩
theorem mo_Ro_goesAway : zMok m_Ro_goesAway := ⟨by decide +kernel, by decide +kernel, by decide +kernel, Or.inl ⟨rfl, zW_in 506 (by decide +kernel)⟩⟩
theorem mo_Ro_staysBelowInfinite : zMok m_Ro_staysBelowInfinite := ⟨by decide +kernel, by decide +kernel, by decide +kernel, Or.inl ⟨rfl, zW_in 511 (by decide +kernel)⟩⟩
theorem mo_Re_becomeFinite : zMok m_Re_becomeFinite := ⟨by decide +kernel, by decide +kernel, by decide +kernel, Or.inl ⟨rfl, zW_in 515 (by decide +kernel)⟩⟩
theorem mo_Re_becomeInfinite : zMok m_Re_becomeInfinite := ⟨by decide +kernel, by decide +kernel, by decide +kernel, Or.inl ⟨rfl, zW_in 519 (by decide +kernel)⟩⟩
theorem mo_Re_negate : zMok m_Re_negate := ⟨by decide +kernel, by decide +kernel, by decide +kernel, Or.inl ⟨rfl, zW_in 525 (by decide +kernel)⟩⟩
theorem mo_Ar_multiply : zMok m_Ar_multiply := ⟨by decide +kernel, by decide +kernel, by decide +kernel, Or.inl ⟨rfl, zW_in 529 (by decide +kernel)⟩⟩
theorem mo_Ex_becomeProduct : zMok m_Ex_becomeProduct := ⟨by decide +kernel, by decide +kernel, by decide +kernel, Or.inl ⟨rfl, zW_in 534 (by decide +kernel)⟩⟩
theorem mo_Ex_multiplyBits : zMok m_Ex_multiplyBits := ⟨by decide +kernel, by decide +kernel, by decide +kernel, Or.inl ⟨rfl, zW_in 538 (by decide +kernel)⟩⟩
theorem mo_Ar_divide : zMok m_Ar_divide := ⟨by decide +kernel, by decide +kernel, by decide +kernel, Or.inl ⟨rfl, zW_in 543 (by decide +kernel)⟩⟩
theorem mo_Ex_becomeQuotient : zMok m_Ex_becomeQuotient := ⟨by decide +kernel, by decide +kernel, by decide +kernel, Or.inl ⟨rfl, zW_in 547 (by decide +kernel)⟩⟩
theorem mo_Ex_fitsInDouble : zMok m_Ex_fitsInDouble := ⟨by decide +kernel, by decide +kernel, by decide +kernel, Or.inl ⟨rfl, zW_in 550 (by decide +kernel)⟩⟩
theorem mo_Ar_root : zMok m_Ar_root := ⟨by decide +kernel, by decide +kernel, by decide +kernel, Or.inl ⟨rfl, zW_in 554 (by decide +kernel)⟩⟩
theorem mo_Ex_becomeRoot : zMok m_Ex_becomeRoot := ⟨by decide +kernel, by decide +kernel, by decide +kernel, Or.inl ⟨rfl, zW_in 558 (by decide +kernel)⟩⟩
theorem mo_Ex_isAbove : zMok m_Ex_isAbove := ⟨by decide +kernel, by decide +kernel, by decide +kernel, Or.inl ⟨rfl, zW_in 562 (by decide +kernel)⟩⟩
theorem mo_Ar_makeWhole : zMok m_Ar_makeWhole := ⟨by decide +kernel, by decide +kernel, by decide +kernel, Or.inl ⟨rfl, zW_in 566 (by decide +kernel)⟩⟩
theorem mo_Re_isWhole : zMok m_Re_isWhole := ⟨by decide +kernel, by decide +kernel, by decide +kernel, Or.inl ⟨rfl, zW_in 570 (by decide +kernel)⟩⟩
theorem mo_Ro_wholeMagnitude : zMok m_Ro_wholeMagnitude := ⟨by decide +kernel, by decide +kernel, by decide +kernel, Or.inl ⟨rfl, zW_in 574 (by decide +kernel)⟩⟩
theorem mo_Re_becomeWhole : zMok m_Re_becomeWhole := ⟨by decide +kernel, by decide +kernel, by decide +kernel, Or.inl ⟨rfl, zW_in 578 (by decide +kernel)⟩⟩
theorem mo_Ar_scale : zMok m_Ar_scale := ⟨by decide +kernel, by decide +kernel, by decide +kernel, Or.inl ⟨rfl, zW_in 584 (by decide +kernel)⟩⟩
theorem mo_SR_carryOut : zMok m_SR_carryOut := ⟨by decide +kernel, by decide +kernel, by decide +kernel, Or.inl ⟨rfl, zW_in 589 (by decide +kernel)⟩⟩
theorem mo_SR_extract : zMok m_SR_extract := ⟨by decide +kernel, by decide +kernel, by decide +kernel, Or.inl ⟨rfl, zW_in 593 (by decide +kernel)⟩⟩
theorem mo_SR_push : zMok m_SR_push := ⟨by decide +kernel, by decide +kernel, by decide +kernel, Or.inl ⟨rfl, zW_in 599 (by decide +kernel)⟩⟩
theorem mo_SR_exchange : zMok m_SR_exchange := ⟨by decide +kernel, by decide +kernel, by decide +kernel, Or.inl ⟨rfl, zW_in 603 (by decide +kernel)⟩⟩
theorem mo_SR_conditionOf : zMok m_SR_conditionOf := ⟨by decide +kernel, by decide +kernel, by decide +kernel, Or.inl ⟨rfl, zW_in 606 (by decide +kernel)⟩⟩
theorem mo_SR_compareReals : zMok m_SR_compareReals := ⟨by decide +kernel, by decide +kernel, by decide +kernel, Or.inl ⟨rfl, zW_in 609 (by decide +kernel)⟩⟩
theorem mo_La_load : zMok m_La_load := ⟨by decide +kernel, by decide +kernel, by decide +kernel, Or.inr (zW_in 614 (by decide +kernel))⟩
theorem mo_SR_load : zMok m_SR_load := ⟨by decide +kernel, by decide +kernel, by decide +kernel, Or.inl ⟨rfl, zW_in 618 (by decide +kernel)⟩⟩
theorem mo_SR_isCell : zMok m_SR_isCell := ⟨by decide +kernel, by decide +kernel, by decide +kernel, Or.inl ⟨rfl, zW_in 621 (by decide +kernel)⟩⟩
theorem mo_SR_isForm : zMok m_SR_isForm := ⟨by decide +kernel, by decide +kernel, by decide +kernel, Or.inl ⟨rfl, zW_in 624 (by decide +kernel)⟩⟩
theorem mo_Fo_decode : zMok m_Fo_decode := ⟨by decide +kernel, by decide +kernel, by decide +kernel, Or.inl ⟨rfl, zW_in 629 (by decide +kernel)⟩⟩
theorem mo_Fo_decodeBinary : zMok m_Fo_decodeBinary := ⟨by decide +kernel, by decide +kernel, by decide +kernel, Or.inl ⟨rfl, zW_in 633 (by decide +kernel)⟩⟩
theorem mo_Fo_decodeDecimal : zMok m_Fo_decodeDecimal := ⟨by decide +kernel, by decide +kernel, by decide +kernel, Or.inl ⟨rfl, zW_in 641 (by decide +kernel)⟩⟩
theorem mo_La_store : zMok m_La_store := ⟨by decide +kernel, by decide +kernel, by decide +kernel, Or.inr (zW_in 647 (by decide +kernel))⟩
theorem mo_SR_store : zMok m_SR_store := ⟨by decide +kernel, by decide +kernel, by decide +kernel, Or.inl ⟨rfl, zW_in 651 (by decide +kernel)⟩⟩
theorem mo_Fo_encode : zMok m_Fo_encode := ⟨by decide +kernel, by decide +kernel, by decide +kernel, Or.inl ⟨rfl, zW_in 655 (by decide +kernel)⟩⟩
theorem mo_Fo_encodeWhole : zMok m_Fo_encodeWhole := ⟨by decide +kernel, by decide +kernel, by decide +kernel, Or.inl ⟨rfl, zW_in 659 (by decide +kernel)⟩⟩
theorem mo_Fo_encodeBinary : zMok m_Fo_encodeBinary := ⟨by decide +kernel, by decide +kernel, by decide +kernel, Or.inl ⟨rfl, zW_in 665 (by decide +kernel)⟩⟩
theorem mo_Fo_binaryImage : zMok m_Fo_binaryImage := ⟨by decide +kernel, by decide +kernel, by decide +kernel, Or.inl ⟨rfl, zW_in 671 (by decide +kernel)⟩⟩
theorem mo_Fo_encodeDecimal : zMok m_Fo_encodeDecimal := ⟨by decide +kernel, by decide +kernel, by decide +kernel, Or.inl ⟨rfl, zW_in 675 (by decide +kernel)⟩⟩
theorem mo_Me_storeWhenFree : zMok m_Me_storeWhenFree := ⟨by decide +kernel, by decide +kernel, by decide +kernel, Or.inl ⟨rfl, zW_in 682 (by decide +kernel)⟩⟩
theorem mo_La_write : zMok m_La_write := ⟨by decide +kernel, by decide +kernel, by decide +kernel, Or.inr (zW_in 685 (by decide +kernel))⟩
theorem mo_SR_write : zMok m_SR_write := ⟨by decide +kernel, by decide +kernel, by decide +kernel, Or.inl ⟨rfl, zW_in 689 (by decide +kernel)⟩⟩
theorem mo_La_memory : zMok m_La_memory := ⟨by decide +kernel, by decide +kernel, by decide +kernel, Or.inr (zW_in 693 (by decide +kernel))⟩
theorem mo_SR_memory : zMok m_SR_memory := ⟨by decide +kernel, by decide +kernel, by decide +kernel, Or.inl ⟨rfl, zW_in 697 (by decide +kernel)⟩⟩
theorem mo_La_pass : zMok m_La_pass := ⟨by decide +kernel, by decide +kernel, by decide +kernel, Or.inr (zW_in 700 (by decide +kernel))⟩
theorem mo_SR_pass : zMok m_SR_pass := ⟨by decide +kernel, by decide +kernel, by decide +kernel, Or.inl ⟨rfl, zW_in 704 (by decide +kernel)⟩⟩
theorem mo_La_kind : zMok m_La_kind := ⟨by decide +kernel, by decide +kernel, by decide +kernel, Or.inr (zW_in 709 (by decide +kernel))⟩
theorem mo_SR_kind : zMok m_SR_kind := ⟨by decide +kernel, by decide +kernel, by decide +kernel, Or.inl ⟨rfl, zW_in 713 (by decide +kernel)⟩⟩
theorem mo_SR_isOnStack : zMok m_SR_isOnStack := ⟨by decide +kernel, by decide +kernel, by decide +kernel, Or.inl ⟨rfl, zW_in 717 (by decide +kernel)⟩⟩
theorem mo_La_exponent : zMok m_La_exponent := ⟨by decide +kernel, by decide +kernel, by decide +kernel, Or.inr (zW_in 721 (by decide +kernel))⟩
theorem mo_SR_exponent : zMok m_SR_exponent := ⟨by decide +kernel, by decide +kernel, by decide +kernel, Or.inl ⟨rfl, zW_in 725 (by decide +kernel)⟩⟩
theorem mo_La_significand : zMok m_La_significand := ⟨by decide +kernel, by decide +kernel, by decide +kernel, Or.inr (zW_in 728 (by decide +kernel))⟩
theorem mo_SR_significand : zMok m_SR_significand := ⟨by decide +kernel, by decide +kernel, by decide +kernel, Or.inl ⟨rfl, zW_in 732 (by decide +kernel)⟩⟩
theorem mo_Mo_thrown : zMok m_Mo_thrown := ⟨by decide +kernel, by decide +kernel, by decide +kernel, Or.inl ⟨rfl, zW_in 799 (by decide +kernel)⟩⟩
theorem mo_Mo_control : zMok m_Mo_control := ⟨by decide +kernel, by decide +kernel, by decide +kernel, Or.inl ⟨rfl, zW_in 803 (by decide +kernel)⟩⟩
theorem mo_Mo_out : zMok m_Mo_out := ⟨by decide +kernel, by decide +kernel, by decide +kernel, Or.inl ⟨rfl, zW_in 806 (by decide +kernel)⟩⟩
theorem mo_Mo_operate : zMok m_Mo_operate := ⟨by decide +kernel, by decide +kernel, by decide +kernel, Or.inl ⟨rfl, zW_in 810 (by decide +kernel)⟩⟩
theorem mo_Mo_cost : zMok m_Mo_cost := ⟨by decide +kernel, by decide +kernel, by decide +kernel, Or.inl ⟨rfl, zW_in 813 (by decide +kernel)⟩⟩
theorem mo_Mo_begin : zMok m_Mo_begin := ⟨by decide +kernel, by decide +kernel, by decide +kernel, Or.inl ⟨rfl, zW_in 817 (by decide +kernel)⟩⟩
theorem mo_Mo_goOn : zMok m_Mo_goOn := ⟨by decide +kernel, by decide +kernel, by decide +kernel, Or.inl ⟨rfl, zW_in 821 (by decide +kernel)⟩⟩
theorem mo_Mo_refuse : zMok m_Mo_refuse := ⟨by decide +kernel, by decide +kernel, by decide +kernel, Or.inl ⟨rfl, zW_in 825 (by decide +kernel)⟩⟩
theorem mo_Mo_throwing : zMok m_Mo_throwing := ⟨by decide +kernel, by decide +kernel, by decide +kernel, Or.inl ⟨rfl, zW_in 829 (by decide +kernel)⟩⟩
theorem mo_Mo_copy : zMok m_Mo_copy := ⟨by decide +kernel, by decide +kernel, by decide +kernel, Or.inl ⟨rfl, zW_in 833 (by decide +kernel)⟩⟩
theorem mo_Mo_reckon : zMok m_Mo_reckon := ⟨by decide +kernel, by decide +kernel, by decide +kernel, Or.inl ⟨rfl, zW_in 837 (by decide +kernel)⟩⟩
theorem mo_Mo_sum : zMok m_Mo_sum := ⟨by decide +kernel, by decide +kernel, by decide +kernel, Or.inl ⟨rfl, zW_in 841 (by decide +kernel)⟩⟩
theorem mo_Mo_either : zMok m_Mo_either := ⟨by decide +kernel, by decide +kernel, by decide +kernel, Or.inl ⟨rfl, zW_in 845 (by decide +kernel)⟩⟩
theorem mo_Mo_special : zMok m_Mo_special := ⟨by decide +kernel, by decide +kernel, by decide +kernel, Or.inl ⟨rfl, zW_in 849 (by decide +kernel)⟩⟩
theorem mo_Mo_invalid : zMok m_Mo_invalid := ⟨by decide +kernel, by decide +kernel, by decide +kernel, Or.inl ⟨rfl, zW_in 853 (by decide +kernel)⟩⟩
theorem mo_Mo_put : zMok m_Mo_put := ⟨by decide +kernel, by decide +kernel, by decide +kernel, Or.inl ⟨rfl, zW_in 857 (by decide +kernel)⟩⟩
theorem mo_Mo_blank : zMok m_Mo_blank := ⟨by decide +kernel, by decide +kernel, by decide +kernel, Or.inl ⟨rfl, zW_in 861 (by decide +kernel)⟩⟩
theorem mo_Mo_result : zMok m_Mo_result := ⟨by decide +kernel, by decide +kernel, by decide +kernel, Or.inl ⟨rfl, zW_in 866 (by decide +kernel)⟩⟩
theorem mo_Mo_round : zMok m_Mo_round := ⟨by decide +kernel, by decide +kernel, by decide +kernel, Or.inl ⟨rfl, zW_in 870 (by decide +kernel)⟩⟩
theorem mo_Mo_top : zMok m_Mo_top := ⟨by decide +kernel, by decide +kernel, by decide +kernel, Or.inl ⟨rfl, zW_in 874 (by decide +kernel)⟩⟩
theorem mo_Mo_bit : zMok m_Mo_bit := ⟨by decide +kernel, by decide +kernel, by decide +kernel, Or.inl ⟨rfl, zW_in 878 (by decide +kernel)⟩⟩
theorem mo_Mo_goesUp : zMok m_Mo_goesUp := ⟨by decide +kernel, by decide +kernel, by decide +kernel, Or.inl ⟨rfl, zW_in 882 (by decide +kernel)⟩⟩
theorem mo_Mo_shift : zMok m_Mo_shift := ⟨by decide +kernel, by decide +kernel, by decide +kernel, Or.inl ⟨rfl, zW_in 886 (by decide +kernel)⟩⟩
theorem mo_Mo_setBit : zMok m_Mo_setBit := ⟨by decide +kernel, by decide +kernel, by decide +kernel, Or.inl ⟨rfl, zW_in 890 (by decide +kernel)⟩⟩
theorem mo_Mo_add : zMok m_Mo_add := ⟨by decide +kernel, by decide +kernel, by decide +kernel, Or.inl ⟨rfl, zW_in 894 (by decide +kernel)⟩⟩
theorem mo_Mo_lowest : zMok m_Mo_lowest := ⟨by decide +kernel, by decide +kernel, by decide +kernel, Or.inl ⟨rfl, zW_in 899 (by decide +kernel)⟩⟩
theorem mo_Mo_tooLarge : zMok m_Mo_tooLarge := ⟨by decide +kernel, by decide +kernel, by decide +kernel, Or.inl ⟨rfl, zW_in 903 (by decide +kernel)⟩⟩
theorem mo_Mo_finiteSum : zMok m_Mo_finiteSum := ⟨by decide +kernel, by decide +kernel, by decide +kernel, Or.inl ⟨rfl, zW_in 908 (by decide +kernel)⟩⟩
theorem mo_Mo_compareRows : zMok m_Mo_compareRows := ⟨by decide +kernel, by decide +kernel, by decide +kernel, Or.inl ⟨rfl, zW_in 912 (by decide +kernel)⟩⟩
theorem mo_Mo_product : zMok m_Mo_product := ⟨by decide +kernel, by decide +kernel, by decide +kernel, Or.inl ⟨rfl, zW_in 916 (by decide +kernel)⟩⟩
theorem mo_Mo_times : zMok m_Mo_times := ⟨by decide +kernel, by decide +kernel, by decide +kernel, Or.inl ⟨rfl, zW_in 920 (by decide +kernel)⟩⟩
theorem mo_Mo_quotient : zMok m_Mo_quotient := ⟨by decide +kernel, by decide +kernel, by decide +kernel, Or.inl ⟨rfl, zW_in 924 (by decide +kernel)⟩⟩
theorem mo_Mo_finiteQuotient : zMok m_Mo_finiteQuotient := ⟨by decide +kernel, by decide +kernel, by decide +kernel, Or.inl ⟨rfl, zW_in 928 (by decide +kernel)⟩⟩
theorem mo_Mo_change : zMok m_Mo_change := ⟨by decide +kernel, by decide +kernel, by decide +kernel, Or.inl ⟨rfl, zW_in 932 (by decide +kernel)⟩⟩
theorem mo_Mo_move : zMok m_Mo_move := ⟨by decide +kernel, by decide +kernel, by decide +kernel, Or.inl ⟨rfl, zW_in 936 (by decide +kernel)⟩⟩
theorem mo_Mo_compared : zMok m_Mo_compared := ⟨by decide +kernel, by decide +kernel, by decide +kernel, Or.inl ⟨rfl, zW_in 940 (by decide +kernel)⟩⟩
theorem mo_Mo_rank : zMok m_Mo_rank := ⟨by decide +kernel, by decide +kernel, by decide +kernel, Or.inl ⟨rfl, zW_in 944 (by decide +kernel)⟩⟩
theorem mo_Mo_exactly : zMok m_Mo_exactly := ⟨by decide +kernel, by decide +kernel, by decide +kernel, Or.inl ⟨rfl, zW_in 948 (by decide +kernel)⟩⟩
theorem mo_Mo_extract : zMok m_Mo_extract := ⟨by decide +kernel, by decide +kernel, by decide +kernel, Or.inl ⟨rfl, zW_in 952 (by decide +kernel)⟩⟩
theorem mo_Mo_alter : zMok m_Mo_alter := ⟨by decide +kernel, by decide +kernel, by decide +kernel, Or.inl ⟨rfl, zW_in 956 (by decide +kernel)⟩⟩
theorem mo_Mo_root : zMok m_Mo_root := ⟨by decide +kernel, by decide +kernel, by decide +kernel, Or.inl ⟨rfl, zW_in 960 (by decide +kernel)⟩⟩
theorem mo_Mo_integer : zMok m_Mo_integer := ⟨by decide +kernel, by decide +kernel, by decide +kernel, Or.inl ⟨rfl, zW_in 964 (by decide +kernel)⟩⟩
theorem mo_Mo_whole : zMok m_Mo_whole := ⟨by decide +kernel, by decide +kernel, by decide +kernel, Or.inl ⟨rfl, zW_in 968 (by decide +kernel)⟩⟩
theorem mo_Mo_scaled : zMok m_Mo_scaled := ⟨by decide +kernel, by decide +kernel, by decide +kernel, Or.inl ⟨rfl, zW_in 972 (by decide +kernel)⟩⟩
theorem mo_Mo_load : zMok m_Mo_load := ⟨by decide +kernel, by decide +kernel, by decide +kernel, Or.inl ⟨rfl, zW_in 977 (by decide +kernel)⟩⟩
theorem mo_Mo_readWhole : zMok m_Mo_readWhole := ⟨by decide +kernel, by decide +kernel, by decide +kernel, Or.inl ⟨rfl, zW_in 981 (by decide +kernel)⟩⟩
theorem mo_Mo_readReal : zMok m_Mo_readReal := ⟨by decide +kernel, by decide +kernel, by decide +kernel, Or.inl ⟨rfl, zW_in 985 (by decide +kernel)⟩⟩
theorem mo_Mo_readDecimal : zMok m_Mo_readDecimal := ⟨by decide +kernel, by decide +kernel, by decide +kernel, Or.inl ⟨rfl, zW_in 989 (by decide +kernel)⟩⟩
theorem mo_Mo_store : zMok m_Mo_store := ⟨by decide +kernel, by decide +kernel, by decide +kernel, Or.inl ⟨rfl, zW_in 996 (by decide +kernel)⟩⟩
theorem mo_Mo_writeReal : zMok m_Mo_writeReal := ⟨by decide +kernel, by decide +kernel, by decide +kernel, Or.inl ⟨rfl, zW_in 1000 (by decide +kernel)⟩⟩
theorem mo_Mo_writeWhole : zMok m_Mo_writeWhole := ⟨by decide +kernel, by decide +kernel, by decide +kernel, Or.inl ⟨rfl, zW_in 1004 (by decide +kernel)⟩⟩
theorem mo_Mo_write : zMok m_Mo_write := ⟨by decide +kernel, by decide +kernel, by decide +kernel, Or.inl ⟨rfl, zW_in 1012 (by decide +kernel)⟩⟩
theorem mo_Mo_memory : zMok m_Mo_memory := ⟨by decide +kernel, by decide +kernel, by decide +kernel, Or.inl ⟨rfl, zW_in 1016 (by decide +kernel)⟩⟩
theorem mo_Mo_pass : zMok m_Mo_pass := ⟨by decide +kernel, by decide +kernel, by decide +kernel, Or.inl ⟨rfl, zW_in 1020 (by decide +kernel)⟩⟩
theorem mo_Mo_await : zMok m_Mo_await := ⟨by decide +kernel, by decide +kernel, by decide +kernel, Or.inl ⟨rfl, zW_in 1024 (by decide +kernel)⟩⟩
theorem mo_Mo_time : zMok m_Mo_time := ⟨by decide +kernel, by decide +kernel, by decide +kernel, Or.inl ⟨rfl, zW_in 1028 (by decide +kernel)⟩⟩
theorem mo_Mo_flags : zMok m_Mo_flags := ⟨by decide +kernel, by decide +kernel, by decide +kernel, Or.inl ⟨rfl, zW_in 1032 (by decide +kernel)⟩⟩
theorem mo_Mo_clear : zMok m_Mo_clear := ⟨by decide +kernel, by decide +kernel, by decide +kernel, Or.inl ⟨rfl, zW_in 1036 (by decide +kernel)⟩⟩
theorem mo_Mo_condition : zMok m_Mo_condition := ⟨by decide +kernel, by decide +kernel, by decide +kernel, Or.inl ⟨rfl, zW_in 1040 (by decide +kernel)⟩⟩
theorem mo_Mo_depth : zMok m_Mo_depth := ⟨by decide +kernel, by decide +kernel, by decide +kernel, Or.inl ⟨rfl, zW_in 1044 (by decide +kernel)⟩⟩
theorem mo_Mo_kind : zMok m_Mo_kind := ⟨by decide +kernel, by decide +kernel, by decide +kernel, Or.inl ⟨rfl, zW_in 1048 (by decide +kernel)⟩⟩
theorem mo_Mo_exponent : zMok m_Mo_exponent := ⟨by decide +kernel, by decide +kernel, by decide +kernel, Or.inl ⟨rfl, zW_in 1052 (by decide +kernel)⟩⟩
theorem mo_Mo_significand : zMok m_Mo_significand := ⟨by decide +kernel, by decide +kernel, by decide +kernel, Or.inl ⟨rfl, zW_in 1056 (by decide +kernel)⟩⟩
set_option maxRecDepth 20000 in
theorem zMeth_ok : ∀ y ∈ zAll, zMok y := List.forall_mem_cons.mpr ⟨mo_SR_await, List.forall_mem_cons.mpr ⟨mo_Me_waitUntilFree, List.forall_mem_cons.mpr ⟨mo_Me_goOn, List.forall_mem_cons.mpr ⟨mo_SR_time, List.forall_mem_cons.mpr ⟨mo_SR_flags, List.forall_mem_cons.mpr ⟨mo_SR_clear, List.forall_mem_cons.mpr ⟨mo_SR_condition, List.forall_mem_cons.mpr ⟨mo_SR_depth, List.forall_mem_cons.mpr ⟨mo_La_control, List.forall_mem_cons.mpr ⟨mo_SR_control, List.forall_mem_cons.mpr ⟨mo_La_operate, List.forall_mem_cons.mpr ⟨mo_SR_operate, List.forall_mem_cons.mpr ⟨mo_SR_namesPlace, List.forall_mem_cons.mpr ⟨mo_Me_occupy, List.forall_mem_cons.mpr ⟨mo_SR_isPossible, List.forall_mem_cons.mpr ⟨mo_SR_pushes, List.forall_mem_cons.mpr ⟨mo_SR_st, List.forall_mem_cons.mpr ⟨mo_SR_raise, List.forall_mem_cons.mpr ⟨mo_SR_workOut, List.forall_mem_cons.mpr ⟨mo_Ar_add, List.forall_mem_cons.mpr ⟨mo_Re_becomeNan, List.forall_mem_cons.mpr ⟨mo_Ar_addInfinite, List.forall_mem_cons.mpr ⟨mo_Ar_makeInvalid, List.forall_mem_cons.mpr ⟨mo_Re_copy, List.forall_mem_cons.mpr ⟨mo_Re_becomeZero, List.forall_mem_cons.mpr ⟨mo_Ex_copy, List.forall_mem_cons.mpr ⟨mo_Ex_becomeSum, List.forall_mem_cons.mpr ⟨mo_SR_compareMagnitudes, List.forall_mem_cons.mpr ⟨mo_SR_isBelow, List.forall_mem_cons.mpr ⟨mo_Ex_combine, List.forall_mem_cons.mpr ⟨mo_Ex_lowerPart, List.forall_mem_cons.mpr ⟨mo_Ex_putOn, List.forall_mem_cons.mpr ⟨mo_Ex_takeAway, List.forall_mem_cons.mpr ⟨mo_Ex_normalize, List.forall_mem_cons.mpr ⟨mo_Ex_isZero, List.forall_mem_cons.mpr ⟨mo_Ro_round, List.forall_mem_cons.mpr ⟨mo_Ro_roundTo, List.forall_mem_cons.mpr ⟨mo_Ro_goesAway, List.forall_mem_cons.mpr ⟨mo_Ro_staysBelowInfinite, List.forall_mem_cons.mpr ⟨mo_Re_becomeFinite, List.forall_mem_cons.mpr ⟨mo_Re_becomeInfinite, List.forall_mem_cons.mpr ⟨mo_Re_negate, List.forall_mem_cons.mpr ⟨mo_Ar_multiply, List.forall_mem_cons.mpr ⟨mo_Ex_becomeProduct, List.forall_mem_cons.mpr ⟨mo_Ex_multiplyBits, List.forall_mem_cons.mpr ⟨mo_Ar_divide, List.forall_mem_cons.mpr ⟨mo_Ex_becomeQuotient, List.forall_mem_cons.mpr ⟨mo_Ex_fitsInDouble, List.forall_mem_cons.mpr ⟨mo_Ar_root, List.forall_mem_cons.mpr ⟨mo_Ex_becomeRoot, List.forall_mem_cons.mpr ⟨mo_Ex_isAbove, List.forall_mem_cons.mpr ⟨mo_Ar_makeWhole, List.forall_mem_cons.mpr ⟨mo_Re_isWhole, List.forall_mem_cons.mpr ⟨mo_Ro_wholeMagnitude, List.forall_mem_cons.mpr ⟨mo_Re_becomeWhole, List.forall_mem_cons.mpr ⟨mo_Ar_scale, List.forall_mem_cons.mpr ⟨mo_SR_carryOut, List.forall_mem_cons.mpr ⟨mo_SR_extract, List.forall_mem_cons.mpr ⟨mo_SR_push, List.forall_mem_cons.mpr ⟨mo_SR_exchange, List.forall_mem_cons.mpr ⟨mo_SR_conditionOf, List.forall_mem_cons.mpr ⟨mo_SR_compareReals, List.forall_mem_cons.mpr ⟨mo_La_load, List.forall_mem_cons.mpr ⟨mo_SR_load, List.forall_mem_cons.mpr ⟨mo_SR_isCell, List.forall_mem_cons.mpr ⟨mo_SR_isForm, List.forall_mem_cons.mpr ⟨mo_Fo_decode, List.forall_mem_cons.mpr ⟨mo_Fo_decodeBinary, List.forall_mem_cons.mpr ⟨mo_Fo_decodeDecimal, List.forall_mem_cons.mpr ⟨mo_La_store, List.forall_mem_cons.mpr ⟨mo_SR_store, List.forall_mem_cons.mpr ⟨mo_Fo_encode, List.forall_mem_cons.mpr ⟨mo_Fo_encodeWhole, List.forall_mem_cons.mpr ⟨mo_Fo_encodeBinary, List.forall_mem_cons.mpr ⟨mo_Fo_binaryImage, List.forall_mem_cons.mpr ⟨mo_Fo_encodeDecimal, List.forall_mem_cons.mpr ⟨mo_Me_storeWhenFree, List.forall_mem_cons.mpr ⟨mo_La_write, List.forall_mem_cons.mpr ⟨mo_SR_write, List.forall_mem_cons.mpr ⟨mo_La_memory, List.forall_mem_cons.mpr ⟨mo_SR_memory, List.forall_mem_cons.mpr ⟨mo_La_pass, List.forall_mem_cons.mpr ⟨mo_SR_pass, List.forall_mem_cons.mpr ⟨mo_La_kind, List.forall_mem_cons.mpr ⟨mo_SR_kind, List.forall_mem_cons.mpr ⟨mo_SR_isOnStack, List.forall_mem_cons.mpr ⟨mo_La_exponent, List.forall_mem_cons.mpr ⟨mo_SR_exponent, List.forall_mem_cons.mpr ⟨mo_La_significand, List.forall_mem_cons.mpr ⟨mo_SR_significand, List.forall_mem_cons.mpr ⟨mo_Mo_thrown, List.forall_mem_cons.mpr ⟨mo_Mo_control, List.forall_mem_cons.mpr ⟨mo_Mo_out, List.forall_mem_cons.mpr ⟨mo_Mo_operate, List.forall_mem_cons.mpr ⟨mo_Mo_cost, List.forall_mem_cons.mpr ⟨mo_Mo_begin, List.forall_mem_cons.mpr ⟨mo_Mo_goOn, List.forall_mem_cons.mpr ⟨mo_Mo_refuse, List.forall_mem_cons.mpr ⟨mo_Mo_throwing, List.forall_mem_cons.mpr ⟨mo_Mo_copy, List.forall_mem_cons.mpr ⟨mo_Mo_reckon, List.forall_mem_cons.mpr ⟨mo_Mo_sum, List.forall_mem_cons.mpr ⟨mo_Mo_either, List.forall_mem_cons.mpr ⟨mo_Mo_special, List.forall_mem_cons.mpr ⟨mo_Mo_invalid, List.forall_mem_cons.mpr ⟨mo_Mo_put, List.forall_mem_cons.mpr ⟨mo_Mo_blank, List.forall_mem_cons.mpr ⟨mo_Mo_result, List.forall_mem_cons.mpr ⟨mo_Mo_round, List.forall_mem_cons.mpr ⟨mo_Mo_top, List.forall_mem_cons.mpr ⟨mo_Mo_bit, List.forall_mem_cons.mpr ⟨mo_Mo_goesUp, List.forall_mem_cons.mpr ⟨mo_Mo_shift, List.forall_mem_cons.mpr ⟨mo_Mo_setBit, List.forall_mem_cons.mpr ⟨mo_Mo_add, List.forall_mem_cons.mpr ⟨mo_Mo_lowest, List.forall_mem_cons.mpr ⟨mo_Mo_tooLarge, List.forall_mem_cons.mpr ⟨mo_Mo_finiteSum, List.forall_mem_cons.mpr ⟨mo_Mo_compareRows, List.forall_mem_cons.mpr ⟨mo_Mo_product, List.forall_mem_cons.mpr ⟨mo_Mo_times, List.forall_mem_cons.mpr ⟨mo_Mo_quotient, List.forall_mem_cons.mpr ⟨mo_Mo_finiteQuotient, List.forall_mem_cons.mpr ⟨mo_Mo_change, List.forall_mem_cons.mpr ⟨mo_Mo_move, List.forall_mem_cons.mpr ⟨mo_Mo_compared, List.forall_mem_cons.mpr ⟨mo_Mo_rank, List.forall_mem_cons.mpr ⟨mo_Mo_exactly, List.forall_mem_cons.mpr ⟨mo_Mo_extract, List.forall_mem_cons.mpr ⟨mo_Mo_alter, List.forall_mem_cons.mpr ⟨mo_Mo_root, List.forall_mem_cons.mpr ⟨mo_Mo_integer, List.forall_mem_cons.mpr ⟨mo_Mo_whole, List.forall_mem_cons.mpr ⟨mo_Mo_scaled, List.forall_mem_cons.mpr ⟨mo_Mo_load, List.forall_mem_cons.mpr ⟨mo_Mo_readWhole, List.forall_mem_cons.mpr ⟨mo_Mo_readReal, List.forall_mem_cons.mpr ⟨mo_Mo_readDecimal, List.forall_mem_cons.mpr ⟨mo_Mo_store, List.forall_mem_cons.mpr ⟨mo_Mo_writeReal, List.forall_mem_cons.mpr ⟨mo_Mo_writeWhole, List.forall_mem_cons.mpr ⟨mo_Mo_write, List.forall_mem_cons.mpr ⟨mo_Mo_memory, List.forall_mem_cons.mpr ⟨mo_Mo_pass, List.forall_mem_cons.mpr ⟨mo_Mo_await, List.forall_mem_cons.mpr ⟨mo_Mo_time, List.forall_mem_cons.mpr ⟨mo_Mo_flags, List.forall_mem_cons.mpr ⟨mo_Mo_clear, List.forall_mem_cons.mpr ⟨mo_Mo_condition, List.forall_mem_cons.mpr ⟨mo_Mo_depth, List.forall_mem_cons.mpr ⟨mo_Mo_kind, List.forall_mem_cons.mpr ⟨mo_Mo_exponent, List.forall_mem_cons.mpr ⟨mo_Mo_significand, fun _ h => absurd h List.not_mem_nil⟩⟩⟩⟩⟩⟩⟩⟩⟩⟩⟩⟩⟩⟩⟩⟩⟩⟩⟩⟩⟩⟩⟩⟩⟩⟩⟩⟩⟩⟩⟩⟩⟩⟩⟩⟩⟩⟩⟩⟩⟩⟩⟩⟩⟩⟩⟩⟩⟩⟩⟩⟩⟩⟩⟩⟩⟩⟩⟩⟩⟩⟩⟩⟩⟩⟩⟩⟩⟩⟩⟩⟩⟩⟩⟩⟩⟩⟩⟩⟩⟩⟩⟩⟩⟩⟩⟩⟩⟩⟩⟩⟩⟩⟩⟩⟩⟩⟩⟩⟩⟩⟩⟩⟩⟩⟩⟩⟩⟩⟩⟩⟩⟩⟩⟩⟩⟩⟩⟩⟩⟩⟩⟩⟩⟩⟩⟩⟩⟩⟩⟩⟩⟩⟩⟩⟩⟩⟩⟩⟩⟩⟩⟩⟩⟩⟩⟩⟩⟩⟩⟩⟩⟩
set_option maxRecDepth 20000 in
theorem zAll_ck : ∀ y ∈ zAll, ckm y = true := List.forall_mem_cons.mpr ⟨ck_SR_await, List.forall_mem_cons.mpr ⟨ck_Me_waitUntilFree, List.forall_mem_cons.mpr ⟨ck_Me_goOn, List.forall_mem_cons.mpr ⟨ck_SR_time, List.forall_mem_cons.mpr ⟨ck_SR_flags, List.forall_mem_cons.mpr ⟨ck_SR_clear, List.forall_mem_cons.mpr ⟨ck_SR_condition, List.forall_mem_cons.mpr ⟨ck_SR_depth, List.forall_mem_cons.mpr ⟨ck_La_control, List.forall_mem_cons.mpr ⟨ck_SR_control, List.forall_mem_cons.mpr ⟨ck_La_operate, List.forall_mem_cons.mpr ⟨ck_SR_operate, List.forall_mem_cons.mpr ⟨ck_SR_namesPlace, List.forall_mem_cons.mpr ⟨ck_Me_occupy, List.forall_mem_cons.mpr ⟨ck_SR_isPossible, List.forall_mem_cons.mpr ⟨ck_SR_pushes, List.forall_mem_cons.mpr ⟨ck_SR_st, List.forall_mem_cons.mpr ⟨ck_SR_raise, List.forall_mem_cons.mpr ⟨ck_SR_workOut, List.forall_mem_cons.mpr ⟨ck_Ar_add, List.forall_mem_cons.mpr ⟨ck_Re_becomeNan, List.forall_mem_cons.mpr ⟨ck_Ar_addInfinite, List.forall_mem_cons.mpr ⟨ck_Ar_makeInvalid, List.forall_mem_cons.mpr ⟨ck_Re_copy, List.forall_mem_cons.mpr ⟨ck_Re_becomeZero, List.forall_mem_cons.mpr ⟨ck_Ex_copy, List.forall_mem_cons.mpr ⟨ck_Ex_becomeSum, List.forall_mem_cons.mpr ⟨ck_SR_compareMagnitudes, List.forall_mem_cons.mpr ⟨ck_SR_isBelow, List.forall_mem_cons.mpr ⟨ck_Ex_combine, List.forall_mem_cons.mpr ⟨ck_Ex_lowerPart, List.forall_mem_cons.mpr ⟨ck_Ex_putOn, List.forall_mem_cons.mpr ⟨ck_Ex_takeAway, List.forall_mem_cons.mpr ⟨ck_Ex_normalize, List.forall_mem_cons.mpr ⟨ck_Ex_isZero, List.forall_mem_cons.mpr ⟨ck_Ro_round, List.forall_mem_cons.mpr ⟨ck_Ro_roundTo, List.forall_mem_cons.mpr ⟨ck_Ro_goesAway, List.forall_mem_cons.mpr ⟨ck_Ro_staysBelowInfinite, List.forall_mem_cons.mpr ⟨ck_Re_becomeFinite, List.forall_mem_cons.mpr ⟨ck_Re_becomeInfinite, List.forall_mem_cons.mpr ⟨ck_Re_negate, List.forall_mem_cons.mpr ⟨ck_Ar_multiply, List.forall_mem_cons.mpr ⟨ck_Ex_becomeProduct, List.forall_mem_cons.mpr ⟨ck_Ex_multiplyBits, List.forall_mem_cons.mpr ⟨ck_Ar_divide, List.forall_mem_cons.mpr ⟨ck_Ex_becomeQuotient, List.forall_mem_cons.mpr ⟨ck_Ex_fitsInDouble, List.forall_mem_cons.mpr ⟨ck_Ar_root, List.forall_mem_cons.mpr ⟨ck_Ex_becomeRoot, List.forall_mem_cons.mpr ⟨ck_Ex_isAbove, List.forall_mem_cons.mpr ⟨ck_Ar_makeWhole, List.forall_mem_cons.mpr ⟨ck_Re_isWhole, List.forall_mem_cons.mpr ⟨ck_Ro_wholeMagnitude, List.forall_mem_cons.mpr ⟨ck_Re_becomeWhole, List.forall_mem_cons.mpr ⟨ck_Ar_scale, List.forall_mem_cons.mpr ⟨ck_SR_carryOut, List.forall_mem_cons.mpr ⟨ck_SR_extract, List.forall_mem_cons.mpr ⟨ck_SR_push, List.forall_mem_cons.mpr ⟨ck_SR_exchange, List.forall_mem_cons.mpr ⟨ck_SR_conditionOf, List.forall_mem_cons.mpr ⟨ck_SR_compareReals, List.forall_mem_cons.mpr ⟨ck_La_load, List.forall_mem_cons.mpr ⟨ck_SR_load, List.forall_mem_cons.mpr ⟨ck_SR_isCell, List.forall_mem_cons.mpr ⟨ck_SR_isForm, List.forall_mem_cons.mpr ⟨ck_Fo_decode, List.forall_mem_cons.mpr ⟨ck_Fo_decodeBinary, List.forall_mem_cons.mpr ⟨ck_Fo_decodeDecimal, List.forall_mem_cons.mpr ⟨ck_La_store, List.forall_mem_cons.mpr ⟨ck_SR_store, List.forall_mem_cons.mpr ⟨ck_Fo_encode, List.forall_mem_cons.mpr ⟨ck_Fo_encodeWhole, List.forall_mem_cons.mpr ⟨ck_Fo_encodeBinary, List.forall_mem_cons.mpr ⟨ck_Fo_binaryImage, List.forall_mem_cons.mpr ⟨ck_Fo_encodeDecimal, List.forall_mem_cons.mpr ⟨ck_Me_storeWhenFree, List.forall_mem_cons.mpr ⟨ck_La_write, List.forall_mem_cons.mpr ⟨ck_SR_write, List.forall_mem_cons.mpr ⟨ck_La_memory, List.forall_mem_cons.mpr ⟨ck_SR_memory, List.forall_mem_cons.mpr ⟨ck_La_pass, List.forall_mem_cons.mpr ⟨ck_SR_pass, List.forall_mem_cons.mpr ⟨ck_La_kind, List.forall_mem_cons.mpr ⟨ck_SR_kind, List.forall_mem_cons.mpr ⟨ck_SR_isOnStack, List.forall_mem_cons.mpr ⟨ck_La_exponent, List.forall_mem_cons.mpr ⟨ck_SR_exponent, List.forall_mem_cons.mpr ⟨ck_La_significand, List.forall_mem_cons.mpr ⟨ck_SR_significand, List.forall_mem_cons.mpr ⟨ck_Mo_thrown, List.forall_mem_cons.mpr ⟨ck_Mo_control, List.forall_mem_cons.mpr ⟨ck_Mo_out, List.forall_mem_cons.mpr ⟨ck_Mo_operate, List.forall_mem_cons.mpr ⟨ck_Mo_cost, List.forall_mem_cons.mpr ⟨ck_Mo_begin, List.forall_mem_cons.mpr ⟨ck_Mo_goOn, List.forall_mem_cons.mpr ⟨ck_Mo_refuse, List.forall_mem_cons.mpr ⟨ck_Mo_throwing, List.forall_mem_cons.mpr ⟨ck_Mo_copy, List.forall_mem_cons.mpr ⟨ck_Mo_reckon, List.forall_mem_cons.mpr ⟨ck_Mo_sum, List.forall_mem_cons.mpr ⟨ck_Mo_either, List.forall_mem_cons.mpr ⟨ck_Mo_special, List.forall_mem_cons.mpr ⟨ck_Mo_invalid, List.forall_mem_cons.mpr ⟨ck_Mo_put, List.forall_mem_cons.mpr ⟨ck_Mo_blank, List.forall_mem_cons.mpr ⟨ck_Mo_result, List.forall_mem_cons.mpr ⟨ck_Mo_round, List.forall_mem_cons.mpr ⟨ck_Mo_top, List.forall_mem_cons.mpr ⟨ck_Mo_bit, List.forall_mem_cons.mpr ⟨ck_Mo_goesUp, List.forall_mem_cons.mpr ⟨ck_Mo_shift, List.forall_mem_cons.mpr ⟨ck_Mo_setBit, List.forall_mem_cons.mpr ⟨ck_Mo_add, List.forall_mem_cons.mpr ⟨ck_Mo_lowest, List.forall_mem_cons.mpr ⟨ck_Mo_tooLarge, List.forall_mem_cons.mpr ⟨ck_Mo_finiteSum, List.forall_mem_cons.mpr ⟨ck_Mo_compareRows, List.forall_mem_cons.mpr ⟨ck_Mo_product, List.forall_mem_cons.mpr ⟨ck_Mo_times, List.forall_mem_cons.mpr ⟨ck_Mo_quotient, List.forall_mem_cons.mpr ⟨ck_Mo_finiteQuotient, List.forall_mem_cons.mpr ⟨ck_Mo_change, List.forall_mem_cons.mpr ⟨ck_Mo_move, List.forall_mem_cons.mpr ⟨ck_Mo_compared, List.forall_mem_cons.mpr ⟨ck_Mo_rank, List.forall_mem_cons.mpr ⟨ck_Mo_exactly, List.forall_mem_cons.mpr ⟨ck_Mo_extract, List.forall_mem_cons.mpr ⟨ck_Mo_alter, List.forall_mem_cons.mpr ⟨ck_Mo_root, List.forall_mem_cons.mpr ⟨ck_Mo_integer, List.forall_mem_cons.mpr ⟨ck_Mo_whole, List.forall_mem_cons.mpr ⟨ck_Mo_scaled, List.forall_mem_cons.mpr ⟨ck_Mo_load, List.forall_mem_cons.mpr ⟨ck_Mo_readWhole, List.forall_mem_cons.mpr ⟨ck_Mo_readReal, List.forall_mem_cons.mpr ⟨ck_Mo_readDecimal, List.forall_mem_cons.mpr ⟨ck_Mo_store, List.forall_mem_cons.mpr ⟨ck_Mo_writeReal, List.forall_mem_cons.mpr ⟨ck_Mo_writeWhole, List.forall_mem_cons.mpr ⟨ck_Mo_write, List.forall_mem_cons.mpr ⟨ck_Mo_memory, List.forall_mem_cons.mpr ⟨ck_Mo_pass, List.forall_mem_cons.mpr ⟨ck_Mo_await, List.forall_mem_cons.mpr ⟨ck_Mo_time, List.forall_mem_cons.mpr ⟨ck_Mo_flags, List.forall_mem_cons.mpr ⟨ck_Mo_clear, List.forall_mem_cons.mpr ⟨ck_Mo_condition, List.forall_mem_cons.mpr ⟨ck_Mo_depth, List.forall_mem_cons.mpr ⟨ck_Mo_kind, List.forall_mem_cons.mpr ⟨ck_Mo_exponent, List.forall_mem_cons.mpr ⟨ck_Mo_significand, fun _ h => absurd h List.not_mem_nil⟩⟩⟩⟩⟩⟩⟩⟩⟩⟩⟩⟩⟩⟩⟩⟩⟩⟩⟩⟩⟩⟩⟩⟩⟩⟩⟩⟩⟩⟩⟩⟩⟩⟩⟩⟩⟩⟩⟩⟩⟩⟩⟩⟩⟩⟩⟩⟩⟩⟩⟩⟩⟩⟩⟩⟩⟩⟩⟩⟩⟩⟩⟩⟩⟩⟩⟩⟩⟩⟩⟩⟩⟩⟩⟩⟩⟩⟩⟩⟩⟩⟩⟩⟩⟩⟩⟩⟩⟩⟩⟩⟩⟩⟩⟩⟩⟩⟩⟩⟩⟩⟩⟩⟩⟩⟩⟩⟩⟩⟩⟩⟩⟩⟩⟩⟩⟩⟩⟩⟩⟩⟩⟩⟩⟩⟩⟩⟩⟩⟩⟩⟩⟩⟩⟩⟩⟩⟩⟩⟩⟩⟩⟩⟩⟩⟩⟩⟩⟩⟩⟩⟩⟩
theorem zfetch_ok {mi : ZM} {pc n : Nat} {i : Instr} (hm : mi = m_law ∨ mi ∈ zAll) (h : zfetch mi pc = some (i, n)) : decode (zCode mi) pc = .ok (i, n) ∧ zok (zMl mi) pc i n = true := by
  have hc : ckm mi = true := by
    rcases hm with rfl | hm
    · exact ck_law
    · exact zAll_ck mi hm
  have h1 := List.all_eq_true.mp hc (pc, i, n) (look_mem h)
  rw [Bool.and_eq_true, decide_eq_true_eq] at h1
  exact h1
/-! classes -/
theorem zReal_ok : zCl[zReal]? = some ("StackReal$Real", F_Re, 4) := rfl
theorem zCl_nm {ci : Nat} {r : vw_C} (h : zCl[ci]? = some r) : r.1 = zCn ci := by
  match ci, h with
  | 0, h => cases h; rfl
  | 1, h => cases h; rfl
  | 2, h => cases h; rfl
  | 3, h => cases h; rfl
  | 4, h => cases h; rfl
  | 5, h => cases h; rfl
  | 6, h => cases h; rfl
  | 7, h => cases h; rfl
  | (n + 8), h => simp at h
def zClok (ci : Nat) (r : vw_C) : Prop := (∀ w ∈ u_ws r.1 r.2.1 r.2.2, w ∈ zWs) ∧ (∀ k, k < r.2.2 → parseFieldDescriptor (r.2.1 k).2.2.1 = some (zTyp ci k)) ∧ (∀ a, a < r.2.2 → ∀ b, b < r.2.2 → a ≠ b → (r.2.1 a).2.1 ≠ (r.2.1 b).2.1) ∧ (∀ k, k < r.2.2 → zFin ci k = (r.2.1 k).2.2.2)
def zLy (l : List Nat) (C : String) (T : u_T) (N : Nat) : Bool := decide (l.length = N) && (List.range N).all (fun k => decide (lw_tbl[l.getD k 0]? = some (u_lay C T k)) && zmov (u_lay C T k))
theorem zLy_in {l : List Nat} {C : String} {T : u_T} {N : Nat} (h : zLy l C T N = true) : ∀ w ∈ u_ws C T N, w ∈ zWs := by
  intro w hw
  obtain ⟨k, hk, rfl⟩ := List.mem_map.mp hw
  unfold zLy at h
  rw [Bool.and_eq_true] at h
  have h1 := List.all_eq_true.mp h.2 k hk
  exact zW_in _ h1
theorem zc_0 : zClok 0 ("StackReal", F_SR, 11) := ⟨zLy_in (l := [242, 244, 246, 248, 250, 252, 254, 256, 258, 260, 262]) (by decide +kernel), by decide +kernel, by decide +kernel, by decide +kernel⟩
theorem zc_1 : zClok 1 ("StackReal$Real", F_Re, 4) := ⟨zLy_in (l := [117, 119, 121, 123]) (by decide +kernel), by decide +kernel, by decide +kernel, by decide +kernel⟩
theorem zc_2 : zClok 2 ("StackReal$Exact", F_Ex, 4) := ⟨zLy_in (l := [163, 165, 167, 169]) (by decide +kernel), by decide +kernel, by decide +kernel, by decide +kernel⟩
theorem zc_3 : zClok 3 ("StackReal$Rounding", F_Ro, 2) := ⟨zLy_in (l := [137, 139]) (by decide +kernel), by decide +kernel, by decide +kernel, by decide +kernel⟩
theorem zc_4 : zClok 4 ("StackReal$Arithmetic", F_Ar, 2) := ⟨zLy_in (l := [174, 176]) (by decide +kernel), by decide +kernel, by decide +kernel, by decide +kernel⟩
theorem zc_5 : zClok 5 ("StackReal$Forms", F_Fo, 4) := ⟨zLy_in (l := [194, 196, 198, 200]) (by decide +kernel), by decide +kernel, by decide +kernel, by decide +kernel⟩
theorem zc_6 : zClok 6 ("StackReal$Memory", F_Me, 6) := ⟨zLy_in (l := [217, 219, 221, 223, 225, 227]) (by decide +kernel), by decide +kernel, by decide +kernel, by decide +kernel⟩
theorem zc_7 : zClok 7 ("StackRealModel", F_Mo, 18) := ⟨zLy_in (l := [757, 759, 761, 763, 765, 767, 769, 771, 773, 775, 777, 779, 781, 783, 785, 787, 789, 791]) (by decide +kernel), by decide +kernel, by decide +kernel, by decide +kernel⟩
theorem zCl_all {ci : Nat} {r : vw_C} (h : zCl[ci]? = some r) : zClok ci r := by
  match ci, h with
  | 0, h => cases h; exact zc_0
  | 1, h => cases h; exact zc_1
  | 2, h => cases h; exact zc_2
  | 3, h => cases h; exact zc_3
  | 4, h => cases h; exact zc_4
  | 5, h => cases h; exact zc_5
  | 6, h => cases h; exact zc_6
  | 7, h => cases h; exact zc_7
  | (n + 8), h => simp at h
theorem zCl_ok {ci : Nat} {C : String} {T : u_T} {N : Nat} (h : zCl[ci]? = some (C, T, N)) : (∀ w ∈ u_ws C T N, w ∈ zWs) ∧ (∀ k, k < N → parseFieldDescriptor (T k).2.2.1 = some (zTyp ci k)) ∧ (∀ a, a < N → ∀ b, b < N → a ≠ b → (T a).2.1 ≠ (T b).2.1) ∧ (∀ k, k < N → zFin ci k = (T k).2.2.2) := zCl_all h
/-! pools -/
def ckF (cn : Nat) : Bool := (zFldT cn).all (fun q => match zCl[q.2.1]? with | some r => decide (q.2.2.1 < r.2.2) && (decide (lw_tbl[q.2.2.2]? = some (.fieldLink (zCn cn) q.1 (r.2.1 q.2.2.1).1 (r.2.1 q.2.2.1).2.1 (r.2.1 q.2.2.1).2.2.1)) && zmov (.fieldLink (zCn cn) q.1 (r.2.1 q.2.2.1).1 (r.2.1 q.2.2.1).2.1 (r.2.1 q.2.2.1).2.2.1)) | none => false)
theorem ckF_0 : ckF 0 = true := by decide +kernel
theorem ckF_1 : ckF 1 = true := by decide +kernel
theorem ckF_2 : ckF 2 = true := by decide +kernel
theorem ckF_3 : ckF 3 = true := by decide +kernel
theorem ckF_4 : ckF 4 = true := by decide +kernel
theorem ckF_5 : ckF 5 = true := by decide +kernel
theorem ckF_6 : ckF 6 = true := by decide +kernel
theorem ckF_7 : ckF 7 = true := by decide +kernel
theorem ckF_8 : ckF 8 = true := by decide +kernel
theorem ckF_all (cn : Nat) : ckF cn = true := by
  match cn with
  | 0 => exact ckF_0
  | 1 => exact ckF_1
  | 2 => exact ckF_2
  | 3 => exact ckF_3
  | 4 => exact ckF_4
  | 5 => exact ckF_5
  | 6 => exact ckF_6
  | 7 => exact ckF_7
  | 8 => exact ckF_8
  | (n + 9) => rfl
theorem zFld_ok {cn x ci j : Nat} (h : zFld cn x = some (ci, j)) : ∃ C T N, zCl[ci]? = some (C, T, N) ∧ j < N ∧ (Jvm.Cond.fieldLink (zCn cn) x (T j).1 (T j).2.1 (T j).2.2.1 ∈ zWs ∨ ∃ host, Jvm.Cond.fieldLinkNest (zCn cn) x (T j).1 (T j).2.1 (T j).2.2.1 host ∈ zWs) := by
  unfold zFld at h
  cases hl : (zFldT cn).lookup x with
  | none => rw [hl] at h; cases h
  | some q =>
    obtain ⟨a, b, ix⟩ := q
    rw [hl] at h
    cases h
    have h1 := List.all_eq_true.mp (ckF_all cn) _ (look_mem hl)
    cases hc : zCl[a]? with
    | none => simp only [hc] at h1; cases h1
    | some r =>
      obtain ⟨C, T, N⟩ := r
      simp only [hc] at h1
      rw [Bool.and_eq_true, decide_eq_true_eq] at h1
      exact ⟨C, T, N, rfl, h1.1, Or.inl (zW_in ix h1.2)⟩
def ck_zInt (cn : Nat) : Bool := (zIntT cn).all (fun q => decide (lw_tbl[q.2.2]? = some (.constant (zCn cn) q.1 q.2.1)) && zmov (.constant (zCn cn) q.1 q.2.1))
theorem ck_zInt_0 : ck_zInt 0 = true := by decide +kernel
theorem ck_zInt_1 : ck_zInt 1 = true := by decide +kernel
theorem ck_zInt_2 : ck_zInt 2 = true := by decide +kernel
theorem ck_zInt_3 : ck_zInt 3 = true := by decide +kernel
theorem ck_zInt_4 : ck_zInt 4 = true := by decide +kernel
theorem ck_zInt_5 : ck_zInt 5 = true := by decide +kernel
theorem ck_zInt_6 : ck_zInt 6 = true := by decide +kernel
theorem ck_zInt_7 : ck_zInt 7 = true := by decide +kernel
theorem ck_zInt_8 : ck_zInt 8 = true := by decide +kernel
theorem ck_zInt_all (cn : Nat) : ck_zInt cn = true := by
  match cn with
  | 0 => exact ck_zInt_0
  | 1 => exact ck_zInt_1
  | 2 => exact ck_zInt_2
  | 3 => exact ck_zInt_3
  | 4 => exact ck_zInt_4
  | 5 => exact ck_zInt_5
  | 6 => exact ck_zInt_6
  | 7 => exact ck_zInt_7
  | 8 => exact ck_zInt_8
  | (n + 9) => rfl
theorem zInt_ok {cn x : Nat} {v : Int32} (h : zInt cn x = some v) : Jvm.Cond.constant (zCn cn) x v ∈ zWs := by
  unfold zInt at h
  cases hl : (zIntT cn).lookup x with
  | none => rw [hl] at h; cases h
  | some q =>
    rw [hl] at h
    cases h
    exact zW_in q.2 (List.all_eq_true.mp (ck_zInt_all cn) _ (look_mem hl))
def ck_zLng (cn : Nat) : Bool := (zLngT cn).all (fun q => decide (lw_tbl[q.2.2]? = some (.constantLong (zCn cn) q.1 q.2.1)) && zmov (.constantLong (zCn cn) q.1 q.2.1))
theorem ck_zLng_0 : ck_zLng 0 = true := by decide +kernel
theorem ck_zLng_1 : ck_zLng 1 = true := by decide +kernel
theorem ck_zLng_2 : ck_zLng 2 = true := by decide +kernel
theorem ck_zLng_3 : ck_zLng 3 = true := by decide +kernel
theorem ck_zLng_4 : ck_zLng 4 = true := by decide +kernel
theorem ck_zLng_5 : ck_zLng 5 = true := by decide +kernel
theorem ck_zLng_6 : ck_zLng 6 = true := by decide +kernel
theorem ck_zLng_7 : ck_zLng 7 = true := by decide +kernel
theorem ck_zLng_8 : ck_zLng 8 = true := by decide +kernel
theorem ck_zLng_all (cn : Nat) : ck_zLng cn = true := by
  match cn with
  | 0 => exact ck_zLng_0
  | 1 => exact ck_zLng_1
  | 2 => exact ck_zLng_2
  | 3 => exact ck_zLng_3
  | 4 => exact ck_zLng_4
  | 5 => exact ck_zLng_5
  | 6 => exact ck_zLng_6
  | 7 => exact ck_zLng_7
  | 8 => exact ck_zLng_8
  | (n + 9) => rfl
theorem zLng_ok {cn x : Nat} {v : Int64} (h : zLng cn x = some v) : Jvm.Cond.constantLong (zCn cn) x v ∈ zWs := by
  unfold zLng at h
  cases hl : (zLngT cn).lookup x with
  | none => rw [hl] at h; cases h
  | some q =>
    rw [hl] at h
    cases h
    exact zW_in q.2 (List.all_eq_true.mp (ck_zLng_all cn) _ (look_mem hl))
theorem zSta_ok {cn x k : Nat} (h : zSta cn x = some k) : ∃ C n d, (k, C, n, d) ∈ zStN ∧ Jvm.Cond.fieldLink (zCn cn) x C n d ∈ zWs := by
  unfold zSta at h
  cases hl : (zStaT cn).lookup x with
  | none => rw [hl] at h; cases h
  | some q =>
    rw [hl] at h
    cases h
    have h1 := look_mem hl
    match cn, h1 with
    | 0, h1 =>
      simp only [zStaT, List.mem_cons, List.not_mem_nil, or_false] at h1
      rcases h1 with h1 | h1
      · cases h1; exact ⟨"StackReal", "TICKS", "[I", by decide +kernel, zW_in 387 (by decide +kernel)⟩
      · cases h1; exact ⟨"StackReal", "NEEDED", "[I", by decide +kernel, zW_in 398 (by decide +kernel)⟩
    | (n + 1), h1 => exact absurd h1 List.not_mem_nil
def zCalSo (cn : Nat) (q : Nat × ZM × Nat × Nat × Nat × Nat × String) : Prop := q.2.1 ∈ zAll ∧ (parseMethodDescriptor (zNm q.2.1).desc).map (fun d => d.parameters.length) = some q.2.2.1 ∧ Jvm.Cond.static (zNm q.2.1) ∈ zWs ∧ Jvm.Cond.initialized (zNm q.2.1).cls ∈ zWs ∧ (Jvm.Cond.methodLink (zCn cn) q.1 (zNm q.2.1) ∈ zWs ∨ ∃ host, Jvm.Cond.methodLinkNest (zCn cn) q.1 (zNm q.2.1) host ∈ zWs)
theorem zCalS_0_85 : zCalSo 0 (85, m_SR_namesPlace, 1, 383, 384, 67, "") := ⟨List.mem_of_getElem? (i := 12) rfl, by decide +kernel, zW_in 384 (by decide +kernel), zW_in 67 (by decide +kernel), Or.inl (zW_in 383 (by decide +kernel))⟩
theorem zCalS_0_114 : zCalSo 0 (114, m_SR_isCell, 1, 619, 620, 67, "") := ⟨List.mem_of_getElem? (i := 64) rfl, by decide +kernel, zW_in 620 (by decide +kernel), zW_in 67 (by decide +kernel), Or.inl (zW_in 619 (by decide +kernel))⟩
theorem zCalS_0_117 : zCalSo 0 (117, m_SR_isForm, 1, 622, 623, 67, "") := ⟨List.mem_of_getElem? (i := 65) rfl, by decide +kernel, zW_in 623 (by decide +kernel), zW_in 67 (by decide +kernel), Or.inl (zW_in 622 (by decide +kernel))⟩
theorem zCalS_0_194 : zCalSo 0 (194, m_SR_pushes, 1, 400, 401, 67, "") := ⟨List.mem_of_getElem? (i := 15) rfl, by decide +kernel, zW_in 401 (by decide +kernel), zW_in 67 (by decide +kernel), Or.inl (zW_in 400 (by decide +kernel))⟩
theorem zCalS_0_226 : zCalSo 0 (226, m_SR_conditionOf, 2, 604, 605, 67, "") := ⟨List.mem_of_getElem? (i := 60) rfl, by decide +kernel, zW_in 605 (by decide +kernel), zW_in 67 (by decide +kernel), Or.inl (zW_in 604 (by decide +kernel))⟩
theorem zCalS_0_241 : zCalSo 0 (241, m_SR_compareReals, 2, 607, 608, 67, "") := ⟨List.mem_of_getElem? (i := 61) rfl, by decide +kernel, zW_in 608 (by decide +kernel), zW_in 67 (by decide +kernel), Or.inl (zW_in 607 (by decide +kernel))⟩
theorem zCalS_0_244 : zCalSo 0 (244, m_SR_compareMagnitudes, 2, 610, 463, 67, "") := ⟨List.mem_of_getElem? (i := 27) rfl, by decide +kernel, zW_in 463 (by decide +kernel), zW_in 67 (by decide +kernel), Or.inl (zW_in 610 (by decide +kernel))⟩
theorem zCalS_0_247 : zCalSo 0 (247, m_SR_isBelow, 2, 465, 466, 67, "") := ⟨List.mem_of_getElem? (i := 28) rfl, by decide +kernel, zW_in 466 (by decide +kernel), zW_in 67 (by decide +kernel), Or.inl (zW_in 465 (by decide +kernel))⟩
set_option maxRecDepth 20000 in
theorem zCalS_0 : ∀ q ∈ zCalST 0, zCalSo 0 q := List.forall_mem_cons.mpr ⟨zCalS_0_85, List.forall_mem_cons.mpr ⟨zCalS_0_114, List.forall_mem_cons.mpr ⟨zCalS_0_117, List.forall_mem_cons.mpr ⟨zCalS_0_194, List.forall_mem_cons.mpr ⟨zCalS_0_226, List.forall_mem_cons.mpr ⟨zCalS_0_241, List.forall_mem_cons.mpr ⟨zCalS_0_244, List.forall_mem_cons.mpr ⟨zCalS_0_247, fun _ h => absurd h List.not_mem_nil⟩⟩⟩⟩⟩⟩⟩⟩
theorem zCalS_2_33 : zCalSo 2 (33, m_SR_compareMagnitudes, 2, 462, 463, 67, "StackReal") := ⟨List.mem_of_getElem? (i := 27) rfl, by decide +kernel, zW_in 463 (by decide +kernel), zW_in 67 (by decide +kernel), Or.inr ⟨"StackReal", zW_in 462 (by decide +kernel)⟩⟩
theorem zCalS_2_45 : zCalSo 2 (45, m_Ex_lowerPart, 2, 474, 475, 71, "") := ⟨List.mem_of_getElem? (i := 30) rfl, by decide +kernel, zW_in 475 (by decide +kernel), zW_in 71 (by decide +kernel), Or.inl (zW_in 474 (by decide +kernel))⟩
theorem zCalS_2_56 : zCalSo 2 (56, m_SR_isBelow, 2, 481, 466, 67, "StackReal") := ⟨List.mem_of_getElem? (i := 28) rfl, by decide +kernel, zW_in 466 (by decide +kernel), zW_in 67 (by decide +kernel), Or.inr ⟨"StackReal", zW_in 481 (by decide +kernel)⟩⟩
theorem zCalS_2_70 : zCalSo 2 (70, m_Ex_fitsInDouble, 2, 548, 549, 71, "") := ⟨List.mem_of_getElem? (i := 47) rfl, by decide +kernel, zW_in 549 (by decide +kernel), zW_in 71 (by decide +kernel), Or.inl (zW_in 548 (by decide +kernel))⟩
set_option maxRecDepth 20000 in
theorem zCalS_2 : ∀ q ∈ zCalST 2, zCalSo 2 q := List.forall_mem_cons.mpr ⟨zCalS_2_33, List.forall_mem_cons.mpr ⟨zCalS_2_45, List.forall_mem_cons.mpr ⟨zCalS_2_56, List.forall_mem_cons.mpr ⟨zCalS_2_70, fun _ h => absurd h List.not_mem_nil⟩⟩⟩⟩
theorem zCalS_4_64 : zCalSo 4 (64, m_Ar_makeInvalid, 1, 443, 444, 70, "") := ⟨List.mem_of_getElem? (i := 22) rfl, by decide +kernel, zW_in 444 (by decide +kernel), zW_in 70 (by decide +kernel), Or.inl (zW_in 443 (by decide +kernel))⟩
set_option maxRecDepth 20000 in
theorem zCalS_4 : ∀ q ∈ zCalST 4, zCalSo 4 q := List.forall_mem_cons.mpr ⟨zCalS_4_64, fun _ h => absurd h List.not_mem_nil⟩
theorem zCalS_5_33 : zCalSo 5 (33, m_Fo_decodeBinary, 4, 631, 632, 72, "") := ⟨List.mem_of_getElem? (i := 67) rfl, by decide +kernel, zW_in 632 (by decide +kernel), zW_in 72 (by decide +kernel), Or.inl (zW_in 631 (by decide +kernel))⟩
theorem zCalS_5_37 : zCalSo 5 (37, m_Fo_decodeDecimal, 2, 639, 640, 72, "") := ⟨List.mem_of_getElem? (i := 68) rfl, by decide +kernel, zW_in 640 (by decide +kernel), zW_in 72 (by decide +kernel), Or.inl (zW_in 639 (by decide +kernel))⟩
theorem zCalS_5_114 : zCalSo 5 (114, m_Fo_binaryImage, 3, 669, 670, 72, "") := ⟨List.mem_of_getElem? (i := 74) rfl, by decide +kernel, zW_in 670 (by decide +kernel), zW_in 72 (by decide +kernel), Or.inl (zW_in 669 (by decide +kernel))⟩
set_option maxRecDepth 20000 in
theorem zCalS_5 : ∀ q ∈ zCalST 5, zCalSo 5 q := List.forall_mem_cons.mpr ⟨zCalS_5_33, List.forall_mem_cons.mpr ⟨zCalS_5_37, List.forall_mem_cons.mpr ⟨zCalS_5_114, fun _ h => absurd h List.not_mem_nil⟩⟩⟩
theorem zCalS_7_138 : zCalSo 7 (138, m_Mo_out, 2, 804, 805, 74, "") := ⟨List.mem_of_getElem? (i := 92) rfl, by decide +kernel, zW_in 805 (by decide +kernel), zW_in 74 (by decide +kernel), Or.inl (zW_in 804 (by decide +kernel))⟩
theorem zCalS_7_165 : zCalSo 7 (165, m_Mo_cost, 1, 811, 812, 74, "") := ⟨List.mem_of_getElem? (i := 94) rfl, by decide +kernel, zW_in 812 (by decide +kernel), zW_in 74 (by decide +kernel), Or.inl (zW_in 811 (by decide +kernel))⟩
set_option maxRecDepth 20000 in
theorem zCalS_7 : ∀ q ∈ zCalST 7, zCalSo 7 q := List.forall_mem_cons.mpr ⟨zCalS_7_138, List.forall_mem_cons.mpr ⟨zCalS_7_165, fun _ h => absurd h List.not_mem_nil⟩⟩
theorem zCalS_8_53 : zCalSo 8 (53, m_La_control, 4, 297, 298, 66, "") := ⟨List.mem_of_getElem? (i := 8) rfl, by decide +kernel, zW_in 298 (by decide +kernel), zW_in 66 (by decide +kernel), Or.inl (zW_in 297 (by decide +kernel))⟩
theorem zCalS_8_63 : zCalSo 8 (63, m_La_operate, 4, 374, 375, 66, "") := ⟨List.mem_of_getElem? (i := 10) rfl, by decide +kernel, zW_in 375 (by decide +kernel), zW_in 66 (by decide +kernel), Or.inl (zW_in 374 (by decide +kernel))⟩
theorem zCalS_8_67 : zCalSo 8 (67, m_La_load, 4, 612, 613, 66, "") := ⟨List.mem_of_getElem? (i := 62) rfl, by decide +kernel, zW_in 613 (by decide +kernel), zW_in 66 (by decide +kernel), Or.inl (zW_in 612 (by decide +kernel))⟩
theorem zCalS_8_70 : zCalSo 8 (70, m_La_store, 4, 645, 646, 66, "") := ⟨List.mem_of_getElem? (i := 69) rfl, by decide +kernel, zW_in 646 (by decide +kernel), zW_in 66 (by decide +kernel), Or.inl (zW_in 645 (by decide +kernel))⟩
theorem zCalS_8_75 : zCalSo 8 (75, m_La_write, 3, 683, 684, 66, "") := ⟨List.mem_of_getElem? (i := 77) rfl, by decide +kernel, zW_in 684 (by decide +kernel), zW_in 66 (by decide +kernel), Or.inl (zW_in 683 (by decide +kernel))⟩
theorem zCalS_8_79 : zCalSo 8 (79, m_La_memory, 3, 691, 692, 66, "") := ⟨List.mem_of_getElem? (i := 79) rfl, by decide +kernel, zW_in 692 (by decide +kernel), zW_in 66 (by decide +kernel), Or.inl (zW_in 691 (by decide +kernel))⟩
theorem zCalS_8_83 : zCalSo 8 (83, m_La_pass, 2, 698, 699, 66, "") := ⟨List.mem_of_getElem? (i := 81) rfl, by decide +kernel, zW_in 699 (by decide +kernel), zW_in 66 (by decide +kernel), Or.inl (zW_in 698 (by decide +kernel))⟩
theorem zCalS_8_112 : zCalSo 8 (112, m_La_kind, 3, 707, 708, 66, "") := ⟨List.mem_of_getElem? (i := 83) rfl, by decide +kernel, zW_in 708 (by decide +kernel), zW_in 66 (by decide +kernel), Or.inl (zW_in 707 (by decide +kernel))⟩
theorem zCalS_8_115 : zCalSo 8 (115, m_La_exponent, 3, 719, 720, 66, "") := ⟨List.mem_of_getElem? (i := 86) rfl, by decide +kernel, zW_in 720 (by decide +kernel), zW_in 66 (by decide +kernel), Or.inl (zW_in 719 (by decide +kernel))⟩
theorem zCalS_8_118 : zCalSo 8 (118, m_La_significand, 3, 726, 727, 66, "") := ⟨List.mem_of_getElem? (i := 88) rfl, by decide +kernel, zW_in 727 (by decide +kernel), zW_in 66 (by decide +kernel), Or.inl (zW_in 726 (by decide +kernel))⟩
set_option maxRecDepth 20000 in
theorem zCalS_8 : ∀ q ∈ zCalST 8, zCalSo 8 q := List.forall_mem_cons.mpr ⟨zCalS_8_53, List.forall_mem_cons.mpr ⟨zCalS_8_63, List.forall_mem_cons.mpr ⟨zCalS_8_67, List.forall_mem_cons.mpr ⟨zCalS_8_70, List.forall_mem_cons.mpr ⟨zCalS_8_75, List.forall_mem_cons.mpr ⟨zCalS_8_79, List.forall_mem_cons.mpr ⟨zCalS_8_83, List.forall_mem_cons.mpr ⟨zCalS_8_112, List.forall_mem_cons.mpr ⟨zCalS_8_115, List.forall_mem_cons.mpr ⟨zCalS_8_118, fun _ h => absurd h List.not_mem_nil⟩⟩⟩⟩⟩⟩⟩⟩⟩⟩
theorem zCalS_all (cn : Nat) : ∀ q ∈ zCalST cn, zCalSo cn q := by
  match cn with
  | 0 => exact zCalS_0
  | 1 => exact fun _ h => absurd h List.not_mem_nil
  | 2 => exact zCalS_2
  | 3 => exact fun _ h => absurd h List.not_mem_nil
  | 4 => exact zCalS_4
  | 5 => exact zCalS_5
  | 6 => exact fun _ h => absurd h List.not_mem_nil
  | 7 => exact zCalS_7
  | 8 => exact zCalS_8
  | (n + 9) => exact fun _ h => absurd h List.not_mem_nil
theorem zCalS_ok {cn x a : Nat} {y : ZM} (h : zCalS cn x = some (y, a)) : y ∈ zAll ∧ (parseMethodDescriptor (zNm y).desc).map (fun d => d.parameters.length) = some a ∧ Jvm.Cond.static (zNm y) ∈ zWs ∧ Jvm.Cond.initialized (zNm y).cls ∈ zWs ∧ (Jvm.Cond.methodLink (zCn cn) x (zNm y) ∈ zWs ∨ ∃ host, Jvm.Cond.methodLinkNest (zCn cn) x (zNm y) host ∈ zWs) := by
  unfold zCalS at h
  cases hl : (zCalST cn).lookup x with
  | none => rw [hl] at h; cases h
  | some q =>
    obtain ⟨y9, a9, q9⟩ := q
    rw [hl] at h
    cases h
    exact zCalS_all cn _ (look_mem hl)
def zCalVo (cn : Nat) (q : Nat × ZM × Nat × Nat × Nat × Nat × String) : Prop := q.2.1 ∈ zAll ∧ (parseMethodDescriptor (zNm q.2.1).desc).map (fun d => d.parameters.length) = some q.2.2.1 ∧ Jvm.Cond.instanceMethod (zNm q.2.1) ∈ zWs ∧ Jvm.Cond.selects (zCn (zCno q.2.1)) (zNm q.2.1) (zNm q.2.1) ∈ zWs ∧ (Jvm.Cond.methodLink (zCn cn) q.1 (zNm q.2.1) ∈ zWs ∨ ∃ host, Jvm.Cond.methodLinkNest (zCn cn) q.1 (zNm q.2.1) host ∈ zWs)
theorem zCalV_0_95 : zCalVo 0 (95, m_Me_occupy, 1, 389, 390, 391, "") := ⟨List.mem_of_getElem? (i := 13) rfl, by decide +kernel, zW_in 390 (by decide +kernel), zW_in 391 (by decide +kernel), Or.inl (zW_in 389 (by decide +kernel))⟩
theorem zCalV_0_99 : zCalVo 0 (99, m_SR_isPossible, 2, 394, 396, 1, "") := ⟨List.mem_of_getElem? (i := 14) rfl, by decide +kernel, zW_in 396 (by decide +kernel), zW_in 1 (by decide +kernel), Or.inl (zW_in 394 (by decide +kernel))⟩
theorem zCalV_0_103 : zCalVo 0 (103, m_SR_raise, 1, 407, 409, 3, "") := ⟨List.mem_of_getElem? (i := 17) rfl, by decide +kernel, zW_in 409 (by decide +kernel), zW_in 3 (by decide +kernel), Or.inl (zW_in 407 (by decide +kernel))⟩
theorem zCalV_0_107 : zCalVo 0 (107, m_SR_workOut, 1, 427, 429, 4, "") := ⟨List.mem_of_getElem? (i := 18) rfl, by decide +kernel, zW_in 429 (by decide +kernel), zW_in 4 (by decide +kernel), Or.inl (zW_in 427 (by decide +kernel))⟩
theorem zCalV_0_110 : zCalVo 0 (110, m_SR_carryOut, 2, 586, 588, 14, "") := ⟨List.mem_of_getElem? (i := 56) rfl, by decide +kernel, zW_in 588 (by decide +kernel), zW_in 14 (by decide +kernel), Or.inl (zW_in 586 (by decide +kernel))⟩
theorem zCalV_0_126 : zCalVo 0 (126, m_Fo_decode, 3, 626, 627, 628, "") := ⟨List.mem_of_getElem? (i := 66) rfl, by decide +kernel, zW_in 627 (by decide +kernel), zW_in 628 (by decide +kernel), Or.inl (zW_in 626 (by decide +kernel))⟩
theorem zCalV_0_130 : zCalVo 0 (130, m_SR_push, 1, 596, 598, 16, "") := ⟨List.mem_of_getElem? (i := 58) rfl, by decide +kernel, zW_in 598 (by decide +kernel), zW_in 16 (by decide +kernel), Or.inl (zW_in 596 (by decide +kernel))⟩
theorem zCalV_0_134 : zCalVo 0 (134, m_SR_st, 1, 403, 405, 2, "") := ⟨List.mem_of_getElem? (i := 16) rfl, by decide +kernel, zW_in 405 (by decide +kernel), zW_in 2 (by decide +kernel), Or.inl (zW_in 403 (by decide +kernel))⟩
theorem zCalV_0_138 : zCalVo 0 (138, m_Fo_encode, 2, 652, 653, 654, "") := ⟨List.mem_of_getElem? (i := 71) rfl, by decide +kernel, zW_in 653 (by decide +kernel), zW_in 654 (by decide +kernel), Or.inl (zW_in 652 (by decide +kernel))⟩
theorem zCalV_0_146 : zCalVo 0 (146, m_Me_storeWhenFree, 2, 679, 680, 681, "") := ⟨List.mem_of_getElem? (i := 76) rfl, by decide +kernel, zW_in 680 (by decide +kernel), zW_in 681 (by decide +kernel), Or.inl (zW_in 679 (by decide +kernel))⟩
theorem zCalV_0_154 : zCalVo 0 (154, m_Me_goOn, 1, 706, 274, 275, "") := ⟨List.mem_of_getElem? (i := 2) rfl, by decide +kernel, zW_in 274 (by decide +kernel), zW_in 275 (by decide +kernel), Or.inl (zW_in 706 (by decide +kernel))⟩
theorem zCalV_0_158 : zCalVo 0 (158, m_Me_waitUntilFree, 0, 269, 270, 271, "") := ⟨List.mem_of_getElem? (i := 1) rfl, by decide +kernel, zW_in 270 (by decide +kernel), zW_in 271 (by decide +kernel), Or.inl (zW_in 269 (by decide +kernel))⟩
theorem zCalV_0_165 : zCalVo 0 (165, m_SR_isOnStack, 1, 714, 716, 21, "") := ⟨List.mem_of_getElem? (i := 85) rfl, by decide +kernel, zW_in 716 (by decide +kernel), zW_in 21 (by decide +kernel), Or.inl (zW_in 714 (by decide +kernel))⟩
theorem zCalV_0_183 : zCalVo 0 (183, m_Re_copy, 1, 521, 447, 448, "") := ⟨List.mem_of_getElem? (i := 23) rfl, by decide +kernel, zW_in 447 (by decide +kernel), zW_in 448 (by decide +kernel), Or.inl (zW_in 521 (by decide +kernel))⟩
theorem zCalV_0_197 : zCalVo 0 (197, m_Ar_add, 3, 431, 432, 433, "") := ⟨List.mem_of_getElem? (i := 19) rfl, by decide +kernel, zW_in 432 (by decide +kernel), zW_in 433 (by decide +kernel), Or.inl (zW_in 431 (by decide +kernel))⟩
theorem zCalV_0_201 : zCalVo 0 (201, m_Re_negate, 0, 522, 523, 524, "") := ⟨List.mem_of_getElem? (i := 41) rfl, by decide +kernel, zW_in 523 (by decide +kernel), zW_in 524 (by decide +kernel), Or.inl (zW_in 522 (by decide +kernel))⟩
theorem zCalV_0_204 : zCalVo 0 (204, m_Ar_multiply, 3, 526, 527, 528, "") := ⟨List.mem_of_getElem? (i := 42) rfl, by decide +kernel, zW_in 527 (by decide +kernel), zW_in 528 (by decide +kernel), Or.inl (zW_in 526 (by decide +kernel))⟩
theorem zCalV_0_207 : zCalVo 0 (207, m_Ar_divide, 3, 540, 541, 542, "") := ⟨List.mem_of_getElem? (i := 45) rfl, by decide +kernel, zW_in 541 (by decide +kernel), zW_in 542 (by decide +kernel), Or.inl (zW_in 540 (by decide +kernel))⟩
theorem zCalV_0_210 : zCalVo 0 (210, m_Ar_root, 2, 551, 552, 553, "") := ⟨List.mem_of_getElem? (i := 48) rfl, by decide +kernel, zW_in 552 (by decide +kernel), zW_in 553 (by decide +kernel), Or.inl (zW_in 551 (by decide +kernel))⟩
theorem zCalV_0_214 : zCalVo 0 (214, m_Ar_makeWhole, 2, 563, 564, 565, "") := ⟨List.mem_of_getElem? (i := 51) rfl, by decide +kernel, zW_in 564 (by decide +kernel), zW_in 565 (by decide +kernel), Or.inl (zW_in 563 (by decide +kernel))⟩
theorem zCalV_0_217 : zCalVo 0 (217, m_Ar_scale, 3, 581, 582, 583, "") := ⟨List.mem_of_getElem? (i := 55) rfl, by decide +kernel, zW_in 582 (by decide +kernel), zW_in 583 (by decide +kernel), Or.inl (zW_in 581 (by decide +kernel))⟩
theorem zCalV_0_220 : zCalVo 0 (220, m_SR_extract, 0, 590, 592, 15, "") := ⟨List.mem_of_getElem? (i := 57) rfl, by decide +kernel, zW_in 592 (by decide +kernel), zW_in 15 (by decide +kernel), Or.inl (zW_in 590 (by decide +kernel))⟩
theorem zCalV_0_223 : zCalVo 0 (223, m_SR_exchange, 1, 600, 602, 17, "") := ⟨List.mem_of_getElem? (i := 59) rfl, by decide +kernel, zW_in 602 (by decide +kernel), zW_in 17 (by decide +kernel), Or.inl (zW_in 600 (by decide +kernel))⟩
theorem zCalV_0_229 : zCalVo 0 (229, m_Re_becomeWhole, 2, 595, 576, 577, "") := ⟨List.mem_of_getElem? (i := 54) rfl, by decide +kernel, zW_in 576 (by decide +kernel), zW_in 577 (by decide +kernel), Or.inl (zW_in 595 (by decide +kernel))⟩
theorem zCalV_0_233 : zCalVo 0 (233, m_Re_becomeZero, 1, 611, 451, 452, "") := ⟨List.mem_of_getElem? (i := 24) rfl, by decide +kernel, zW_in 451 (by decide +kernel), zW_in 452 (by decide +kernel), Or.inl (zW_in 611 (by decide +kernel))⟩
theorem zCalV_0_237 : zCalVo 0 (237, m_Re_becomeFinite, 3, 594, 513, 514, "") := ⟨List.mem_of_getElem? (i := 39) rfl, by decide +kernel, zW_in 513 (by decide +kernel), zW_in 514 (by decide +kernel), Or.inl (zW_in 594 (by decide +kernel))⟩
set_option maxRecDepth 20000 in
theorem zCalV_0 : ∀ q ∈ zCalVT 0, zCalVo 0 q := List.forall_mem_cons.mpr ⟨zCalV_0_95, List.forall_mem_cons.mpr ⟨zCalV_0_99, List.forall_mem_cons.mpr ⟨zCalV_0_103, List.forall_mem_cons.mpr ⟨zCalV_0_107, List.forall_mem_cons.mpr ⟨zCalV_0_110, List.forall_mem_cons.mpr ⟨zCalV_0_126, List.forall_mem_cons.mpr ⟨zCalV_0_130, List.forall_mem_cons.mpr ⟨zCalV_0_134, List.forall_mem_cons.mpr ⟨zCalV_0_138, List.forall_mem_cons.mpr ⟨zCalV_0_146, List.forall_mem_cons.mpr ⟨zCalV_0_154, List.forall_mem_cons.mpr ⟨zCalV_0_158, List.forall_mem_cons.mpr ⟨zCalV_0_165, List.forall_mem_cons.mpr ⟨zCalV_0_183, List.forall_mem_cons.mpr ⟨zCalV_0_197, List.forall_mem_cons.mpr ⟨zCalV_0_201, List.forall_mem_cons.mpr ⟨zCalV_0_204, List.forall_mem_cons.mpr ⟨zCalV_0_207, List.forall_mem_cons.mpr ⟨zCalV_0_210, List.forall_mem_cons.mpr ⟨zCalV_0_214, List.forall_mem_cons.mpr ⟨zCalV_0_217, List.forall_mem_cons.mpr ⟨zCalV_0_220, List.forall_mem_cons.mpr ⟨zCalV_0_223, List.forall_mem_cons.mpr ⟨zCalV_0_229, List.forall_mem_cons.mpr ⟨zCalV_0_233, List.forall_mem_cons.mpr ⟨zCalV_0_237, fun _ h => absurd h List.not_mem_nil⟩⟩⟩⟩⟩⟩⟩⟩⟩⟩⟩⟩⟩⟩⟩⟩⟩⟩⟩⟩⟩⟩⟩⟩⟩⟩
theorem zCalV_1_26 : zCalVo 1 (26, m_Re_becomeZero, 1, 579, 451, 452, "") := ⟨List.mem_of_getElem? (i := 24) rfl, by decide +kernel, zW_in 451 (by decide +kernel), zW_in 452 (by decide +kernel), Or.inl (zW_in 579 (by decide +kernel))⟩
theorem zCalV_1_30 : zCalVo 1 (30, m_Re_becomeFinite, 3, 580, 513, 514, "") := ⟨List.mem_of_getElem? (i := 39) rfl, by decide +kernel, zW_in 513 (by decide +kernel), zW_in 514 (by decide +kernel), Or.inl (zW_in 580 (by decide +kernel))⟩
set_option maxRecDepth 20000 in
theorem zCalV_1 : ∀ q ∈ zCalVT 1, zCalVo 1 q := List.forall_mem_cons.mpr ⟨zCalV_1_26, List.forall_mem_cons.mpr ⟨zCalV_1_30, fun _ h => absurd h List.not_mem_nil⟩⟩
theorem zCalV_2_37 : zCalVo 2 (37, m_Ex_combine, 2, 469, 471, 6, "") := ⟨List.mem_of_getElem? (i := 29) rfl, by decide +kernel, zW_in 471 (by decide +kernel), zW_in 6 (by decide +kernel), Or.inl (zW_in 469 (by decide +kernel))⟩
theorem zCalV_2_41 : zCalVo 2 (41, m_Ex_copy, 1, 473, 455, 456, "") := ⟨List.mem_of_getElem? (i := 25) rfl, by decide +kernel, zW_in 455 (by decide +kernel), zW_in 456 (by decide +kernel), Or.inl (zW_in 473 (by decide +kernel))⟩
theorem zCalV_2_49 : zCalVo 2 (49, m_Ex_putOn, 2, 477, 479, 7, "") := ⟨List.mem_of_getElem? (i := 31) rfl, by decide +kernel, zW_in 479 (by decide +kernel), zW_in 7 (by decide +kernel), Or.inl (zW_in 477 (by decide +kernel))⟩
theorem zCalV_2_53 : zCalVo 2 (53, m_Ex_takeAway, 2, 483, 485, 8, "") := ⟨List.mem_of_getElem? (i := 32) rfl, by decide +kernel, zW_in 485 (by decide +kernel), zW_in 8 (by decide +kernel), Or.inl (zW_in 483 (by decide +kernel))⟩
theorem zCalV_2_62 : zCalVo 2 (62, m_Ex_normalize, 0, 487, 489, 9, "") := ⟨List.mem_of_getElem? (i := 33) rfl, by decide +kernel, zW_in 489 (by decide +kernel), zW_in 9 (by decide +kernel), Or.inl (zW_in 487 (by decide +kernel))⟩
theorem zCalV_2_65 : zCalVo 2 (65, m_Ex_multiplyBits, 2, 535, 537, 12, "") := ⟨List.mem_of_getElem? (i := 44) rfl, by decide +kernel, zW_in 537 (by decide +kernel), zW_in 12 (by decide +kernel), Or.inl (zW_in 535 (by decide +kernel))⟩
theorem zCalV_2_73 : zCalVo 2 (73, m_Ex_isAbove, 2, 559, 561, 13, "") := ⟨List.mem_of_getElem? (i := 50) rfl, by decide +kernel, zW_in 561 (by decide +kernel), zW_in 13 (by decide +kernel), Or.inl (zW_in 559 (by decide +kernel))⟩
set_option maxRecDepth 20000 in
theorem zCalV_2 : ∀ q ∈ zCalVT 2, zCalVo 2 q := List.forall_mem_cons.mpr ⟨zCalV_2_37, List.forall_mem_cons.mpr ⟨zCalV_2_41, List.forall_mem_cons.mpr ⟨zCalV_2_49, List.forall_mem_cons.mpr ⟨zCalV_2_53, List.forall_mem_cons.mpr ⟨zCalV_2_62, List.forall_mem_cons.mpr ⟨zCalV_2_65, List.forall_mem_cons.mpr ⟨zCalV_2_73, fun _ h => absurd h List.not_mem_nil⟩⟩⟩⟩⟩⟩⟩
theorem zCalV_3_18 : zCalVo 3 (18, m_Ro_roundTo, 5, 499, 500, 501, "") := ⟨List.mem_of_getElem? (i := 36) rfl, by decide +kernel, zW_in 500 (by decide +kernel), zW_in 501 (by decide +kernel), Or.inl (zW_in 499 (by decide +kernel))⟩
theorem zCalV_3_38 : zCalVo 3 (38, m_Ro_goesAway, 4, 503, 505, 10, "") := ⟨List.mem_of_getElem? (i := 37) rfl, by decide +kernel, zW_in 505 (by decide +kernel), zW_in 10 (by decide +kernel), Or.inl (zW_in 503 (by decide +kernel))⟩
theorem zCalV_3_44 : zCalVo 3 (44, m_Ro_staysBelowInfinite, 1, 508, 510, 11, "") := ⟨List.mem_of_getElem? (i := 38) rfl, by decide +kernel, zW_in 510 (by decide +kernel), zW_in 11 (by decide +kernel), Or.inl (zW_in 508 (by decide +kernel))⟩
theorem zCalV_3_48 : zCalVo 3 (48, m_Re_becomeFinite, 3, 512, 513, 514, "") := ⟨List.mem_of_getElem? (i := 39) rfl, by decide +kernel, zW_in 513 (by decide +kernel), zW_in 514 (by decide +kernel), Or.inl (zW_in 512 (by decide +kernel))⟩
theorem zCalV_3_54 : zCalVo 3 (54, m_Re_becomeInfinite, 1, 516, 517, 518, "") := ⟨List.mem_of_getElem? (i := 40) rfl, by decide +kernel, zW_in 517 (by decide +kernel), zW_in 518 (by decide +kernel), Or.inl (zW_in 516 (by decide +kernel))⟩
theorem zCalV_3_58 : zCalVo 3 (58, m_Re_becomeZero, 1, 520, 451, 452, "") := ⟨List.mem_of_getElem? (i := 24) rfl, by decide +kernel, zW_in 451 (by decide +kernel), zW_in 452 (by decide +kernel), Or.inl (zW_in 520 (by decide +kernel))⟩
set_option maxRecDepth 20000 in
theorem zCalV_3 : ∀ q ∈ zCalVT 3, zCalVo 3 q := List.forall_mem_cons.mpr ⟨zCalV_3_18, List.forall_mem_cons.mpr ⟨zCalV_3_38, List.forall_mem_cons.mpr ⟨zCalV_3_44, List.forall_mem_cons.mpr ⟨zCalV_3_48, List.forall_mem_cons.mpr ⟨zCalV_3_54, List.forall_mem_cons.mpr ⟨zCalV_3_58, fun _ h => absurd h List.not_mem_nil⟩⟩⟩⟩⟩⟩
theorem zCalV_4_28 : zCalVo 4 (28, m_Re_becomeNan, 0, 435, 436, 437, "") := ⟨List.mem_of_getElem? (i := 20) rfl, by decide +kernel, zW_in 436 (by decide +kernel), zW_in 437 (by decide +kernel), Or.inl (zW_in 435 (by decide +kernel))⟩
theorem zCalV_4_31 : zCalVo 4 (31, m_Ar_addInfinite, 3, 439, 441, 5, "") := ⟨List.mem_of_getElem? (i := 21) rfl, by decide +kernel, zW_in 441 (by decide +kernel), zW_in 5 (by decide +kernel), Or.inl (zW_in 439 (by decide +kernel))⟩
theorem zCalV_4_44 : zCalVo 4 (44, m_Re_becomeZero, 1, 450, 451, 452, "") := ⟨List.mem_of_getElem? (i := 24) rfl, by decide +kernel, zW_in 451 (by decide +kernel), zW_in 452 (by decide +kernel), Or.inl (zW_in 450 (by decide +kernel))⟩
theorem zCalV_4_48 : zCalVo 4 (48, m_Ex_copy, 1, 454, 455, 456, "") := ⟨List.mem_of_getElem? (i := 25) rfl, by decide +kernel, zW_in 455 (by decide +kernel), zW_in 456 (by decide +kernel), Or.inl (zW_in 454 (by decide +kernel))⟩
theorem zCalV_4_52 : zCalVo 4 (52, m_Ex_becomeSum, 2, 458, 459, 460, "") := ⟨List.mem_of_getElem? (i := 26) rfl, by decide +kernel, zW_in 459 (by decide +kernel), zW_in 460 (by decide +kernel), Or.inl (zW_in 458 (by decide +kernel))⟩
theorem zCalV_4_56 : zCalVo 4 (56, m_Ex_isZero, 0, 491, 492, 493, "") := ⟨List.mem_of_getElem? (i := 34) rfl, by decide +kernel, zW_in 492 (by decide +kernel), zW_in 493 (by decide +kernel), Or.inl (zW_in 491 (by decide +kernel))⟩
theorem zCalV_4_60 : zCalVo 4 (60, m_Ro_round, 2, 495, 496, 497, "") := ⟨List.mem_of_getElem? (i := 35) rfl, by decide +kernel, zW_in 496 (by decide +kernel), zW_in 497 (by decide +kernel), Or.inl (zW_in 495 (by decide +kernel))⟩
theorem zCalV_4_68 : zCalVo 4 (68, m_Re_copy, 1, 446, 447, 448, "") := ⟨List.mem_of_getElem? (i := 23) rfl, by decide +kernel, zW_in 447 (by decide +kernel), zW_in 448 (by decide +kernel), Or.inl (zW_in 446 (by decide +kernel))⟩
theorem zCalV_4_69 : zCalVo 4 (69, m_Re_becomeInfinite, 1, 530, 517, 518, "") := ⟨List.mem_of_getElem? (i := 40) rfl, by decide +kernel, zW_in 517 (by decide +kernel), zW_in 518 (by decide +kernel), Or.inl (zW_in 530 (by decide +kernel))⟩
theorem zCalV_4_72 : zCalVo 4 (72, m_Ex_becomeProduct, 2, 531, 532, 533, "") := ⟨List.mem_of_getElem? (i := 43) rfl, by decide +kernel, zW_in 532 (by decide +kernel), zW_in 533 (by decide +kernel), Or.inl (zW_in 531 (by decide +kernel))⟩
theorem zCalV_4_75 : zCalVo 4 (75, m_Ex_becomeQuotient, 2, 544, 545, 546, "") := ⟨List.mem_of_getElem? (i := 46) rfl, by decide +kernel, zW_in 545 (by decide +kernel), zW_in 546 (by decide +kernel), Or.inl (zW_in 544 (by decide +kernel))⟩
theorem zCalV_4_78 : zCalVo 4 (78, m_Ex_becomeRoot, 1, 555, 556, 557, "") := ⟨List.mem_of_getElem? (i := 49) rfl, by decide +kernel, zW_in 556 (by decide +kernel), zW_in 557 (by decide +kernel), Or.inl (zW_in 555 (by decide +kernel))⟩
theorem zCalV_4_81 : zCalVo 4 (81, m_Re_isWhole, 0, 567, 568, 569, "") := ⟨List.mem_of_getElem? (i := 52) rfl, by decide +kernel, zW_in 568 (by decide +kernel), zW_in 569 (by decide +kernel), Or.inl (zW_in 567 (by decide +kernel))⟩
theorem zCalV_4_84 : zCalVo 4 (84, m_Ro_wholeMagnitude, 1, 571, 572, 573, "") := ⟨List.mem_of_getElem? (i := 53) rfl, by decide +kernel, zW_in 572 (by decide +kernel), zW_in 573 (by decide +kernel), Or.inl (zW_in 571 (by decide +kernel))⟩
theorem zCalV_4_88 : zCalVo 4 (88, m_Re_becomeWhole, 2, 575, 576, 577, "") := ⟨List.mem_of_getElem? (i := 54) rfl, by decide +kernel, zW_in 576 (by decide +kernel), zW_in 577 (by decide +kernel), Or.inl (zW_in 575 (by decide +kernel))⟩
set_option maxRecDepth 20000 in
theorem zCalV_4 : ∀ q ∈ zCalVT 4, zCalVo 4 q := List.forall_mem_cons.mpr ⟨zCalV_4_28, List.forall_mem_cons.mpr ⟨zCalV_4_31, List.forall_mem_cons.mpr ⟨zCalV_4_44, List.forall_mem_cons.mpr ⟨zCalV_4_48, List.forall_mem_cons.mpr ⟨zCalV_4_52, List.forall_mem_cons.mpr ⟨zCalV_4_56, List.forall_mem_cons.mpr ⟨zCalV_4_60, List.forall_mem_cons.mpr ⟨zCalV_4_68, List.forall_mem_cons.mpr ⟨zCalV_4_69, List.forall_mem_cons.mpr ⟨zCalV_4_72, List.forall_mem_cons.mpr ⟨zCalV_4_75, List.forall_mem_cons.mpr ⟨zCalV_4_78, List.forall_mem_cons.mpr ⟨zCalV_4_81, List.forall_mem_cons.mpr ⟨zCalV_4_84, List.forall_mem_cons.mpr ⟨zCalV_4_88, fun _ h => absurd h List.not_mem_nil⟩⟩⟩⟩⟩⟩⟩⟩⟩⟩⟩⟩⟩⟩⟩
theorem zCalV_5_29 : zCalVo 5 (29, m_Re_becomeWhole, 2, 630, 576, 577, "") := ⟨List.mem_of_getElem? (i := 54) rfl, by decide +kernel, zW_in 576 (by decide +kernel), zW_in 577 (by decide +kernel), Or.inl (zW_in 630 (by decide +kernel))⟩
theorem zCalV_5_41 : zCalVo 5 (41, m_Re_becomeZero, 1, 634, 451, 452, "") := ⟨List.mem_of_getElem? (i := 24) rfl, by decide +kernel, zW_in 451 (by decide +kernel), zW_in 452 (by decide +kernel), Or.inl (zW_in 634 (by decide +kernel))⟩
theorem zCalV_5_47 : zCalVo 5 (47, m_Re_becomeFinite, 3, 636, 513, 514, "") := ⟨List.mem_of_getElem? (i := 39) rfl, by decide +kernel, zW_in 513 (by decide +kernel), zW_in 514 (by decide +kernel), Or.inl (zW_in 636 (by decide +kernel))⟩
theorem zCalV_5_51 : zCalVo 5 (51, m_Re_becomeInfinite, 1, 637, 517, 518, "") := ⟨List.mem_of_getElem? (i := 40) rfl, by decide +kernel, zW_in 517 (by decide +kernel), zW_in 518 (by decide +kernel), Or.inl (zW_in 637 (by decide +kernel))⟩
theorem zCalV_5_54 : zCalVo 5 (54, m_Re_becomeNan, 0, 638, 436, 437, "") := ⟨List.mem_of_getElem? (i := 20) rfl, by decide +kernel, zW_in 436 (by decide +kernel), zW_in 437 (by decide +kernel), Or.inl (zW_in 638 (by decide +kernel))⟩
theorem zCalV_5_63 : zCalVo 5 (63, m_Fo_encodeWhole, 1, 656, 658, 18, "") := ⟨List.mem_of_getElem? (i := 72) rfl, by decide +kernel, zW_in 658 (by decide +kernel), zW_in 18 (by decide +kernel), Or.inl (zW_in 656 (by decide +kernel))⟩
theorem zCalV_5_67 : zCalVo 5 (67, m_Fo_encodeBinary, 3, 662, 664, 19, "") := ⟨List.mem_of_getElem? (i := 73) rfl, by decide +kernel, zW_in 664 (by decide +kernel), zW_in 19 (by decide +kernel), Or.inl (zW_in 662 (by decide +kernel))⟩
theorem zCalV_5_71 : zCalVo 5 (71, m_Fo_encodeDecimal, 1, 672, 674, 20, "") := ⟨List.mem_of_getElem? (i := 75) rfl, by decide +kernel, zW_in 674 (by decide +kernel), zW_in 20 (by decide +kernel), Or.inl (zW_in 672 (by decide +kernel))⟩
theorem zCalV_5_85 : zCalVo 5 (85, m_Ro_wholeMagnitude, 1, 660, 572, 573, "") := ⟨List.mem_of_getElem? (i := 53) rfl, by decide +kernel, zW_in 572 (by decide +kernel), zW_in 573 (by decide +kernel), Or.inl (zW_in 660 (by decide +kernel))⟩
theorem zCalV_5_95 : zCalVo 5 (95, m_Re_isWhole, 0, 661, 568, 569, "") := ⟨List.mem_of_getElem? (i := 52) rfl, by decide +kernel, zW_in 568 (by decide +kernel), zW_in 569 (by decide +kernel), Or.inl (zW_in 661 (by decide +kernel))⟩
theorem zCalV_5_105 : zCalVo 5 (105, m_Re_copy, 1, 666, 447, 448, "") := ⟨List.mem_of_getElem? (i := 23) rfl, by decide +kernel, zW_in 447 (by decide +kernel), zW_in 448 (by decide +kernel), Or.inl (zW_in 666 (by decide +kernel))⟩
theorem zCalV_5_109 : zCalVo 5 (109, m_Ex_copy, 1, 667, 455, 456, "") := ⟨List.mem_of_getElem? (i := 25) rfl, by decide +kernel, zW_in 455 (by decide +kernel), zW_in 456 (by decide +kernel), Or.inl (zW_in 667 (by decide +kernel))⟩
theorem zCalV_5_110 : zCalVo 5 (110, m_Ro_roundTo, 5, 668, 500, 501, "") := ⟨List.mem_of_getElem? (i := 36) rfl, by decide +kernel, zW_in 500 (by decide +kernel), zW_in 501 (by decide +kernel), Or.inl (zW_in 668 (by decide +kernel))⟩
set_option maxRecDepth 20000 in
theorem zCalV_5 : ∀ q ∈ zCalVT 5, zCalVo 5 q := List.forall_mem_cons.mpr ⟨zCalV_5_29, List.forall_mem_cons.mpr ⟨zCalV_5_41, List.forall_mem_cons.mpr ⟨zCalV_5_47, List.forall_mem_cons.mpr ⟨zCalV_5_51, List.forall_mem_cons.mpr ⟨zCalV_5_54, List.forall_mem_cons.mpr ⟨zCalV_5_63, List.forall_mem_cons.mpr ⟨zCalV_5_67, List.forall_mem_cons.mpr ⟨zCalV_5_71, List.forall_mem_cons.mpr ⟨zCalV_5_85, List.forall_mem_cons.mpr ⟨zCalV_5_95, List.forall_mem_cons.mpr ⟨zCalV_5_105, List.forall_mem_cons.mpr ⟨zCalV_5_109, List.forall_mem_cons.mpr ⟨zCalV_5_110, fun _ h => absurd h List.not_mem_nil⟩⟩⟩⟩⟩⟩⟩⟩⟩⟩⟩⟩⟩
theorem zCalV_6_33 : zCalVo 6 (33, m_Me_goOn, 1, 273, 274, 275, "") := ⟨List.mem_of_getElem? (i := 2) rfl, by decide +kernel, zW_in 274 (by decide +kernel), zW_in 275 (by decide +kernel), Or.inl (zW_in 273 (by decide +kernel))⟩
theorem zCalV_6_37 : zCalVo 6 (37, m_Me_waitUntilFree, 0, 393, 270, 271, "") := ⟨List.mem_of_getElem? (i := 1) rfl, by decide +kernel, zW_in 270 (by decide +kernel), zW_in 271 (by decide +kernel), Or.inl (zW_in 393 (by decide +kernel))⟩
set_option maxRecDepth 20000 in
theorem zCalV_6 : ∀ q ∈ zCalVT 6, zCalVo 6 q := List.forall_mem_cons.mpr ⟨zCalV_6_33, List.forall_mem_cons.mpr ⟨zCalV_6_37, fun _ h => absurd h List.not_mem_nil⟩⟩
theorem zCalV_7_43 : zCalVo 7 (43, m_Mo_blank, 1, 858, 860, 33, "") := ⟨List.mem_of_getElem? (i := 106) rfl, by decide +kernel, zW_in 860 (by decide +kernel), zW_in 33 (by decide +kernel), Or.inl (zW_in 858 (by decide +kernel))⟩
theorem zCalV_7_49 : zCalVo 7 (49, m_Mo_bit, 2, 875, 877, 37, "") := ⟨List.mem_of_getElem? (i := 110) rfl, by decide +kernel, zW_in 877 (by decide +kernel), zW_in 37 (by decide +kernel), Or.inl (zW_in 875 (by decide +kernel))⟩
theorem zCalV_7_53 : zCalVo 7 (53, m_Mo_top, 1, 871, 873, 36, "") := ⟨List.mem_of_getElem? (i := 109) rfl, by decide +kernel, zW_in 873 (by decide +kernel), zW_in 36 (by decide +kernel), Or.inl (zW_in 871 (by decide +kernel))⟩
theorem zCalV_7_57 : zCalVo 7 (57, m_Mo_setBit, 2, 887, 889, 40, "") := ⟨List.mem_of_getElem? (i := 113) rfl, by decide +kernel, zW_in 889 (by decide +kernel), zW_in 40 (by decide +kernel), Or.inl (zW_in 887 (by decide +kernel))⟩
theorem zCalV_7_65 : zCalVo 7 (65, m_Mo_special, 2, 846, 848, 30, "") := ⟨List.mem_of_getElem? (i := 103) rfl, by decide +kernel, zW_in 848 (by decide +kernel), zW_in 30 (by decide +kernel), Or.inl (zW_in 846 (by decide +kernel))⟩
theorem zCalV_7_72 : zCalVo 7 (72, m_Mo_goesUp, 2, 879, 881, 38, "") := ⟨List.mem_of_getElem? (i := 111) rfl, by decide +kernel, zW_in 881 (by decide +kernel), zW_in 38 (by decide +kernel), Or.inl (zW_in 879 (by decide +kernel))⟩
theorem zCalV_7_76 : zCalVo 7 (76, m_Mo_shift, 3, 883, 885, 39, "") := ⟨List.mem_of_getElem? (i := 112) rfl, by decide +kernel, zW_in 885 (by decide +kernel), zW_in 39 (by decide +kernel), Or.inl (zW_in 883 (by decide +kernel))⟩
theorem zCalV_7_80 : zCalVo 7 (80, m_Mo_put, 2, 854, 856, 32, "") := ⟨List.mem_of_getElem? (i := 105) rfl, by decide +kernel, zW_in 856 (by decide +kernel), zW_in 32 (by decide +kernel), Or.inl (zW_in 854 (by decide +kernel))⟩
theorem zCalV_7_84 : zCalVo 7 (84, m_Mo_add, 3, 891, 893, 41, "") := ⟨List.mem_of_getElem? (i := 114) rfl, by decide +kernel, zW_in 893 (by decide +kernel), zW_in 41 (by decide +kernel), Or.inl (zW_in 891 (by decide +kernel))⟩
theorem zCalV_7_87 : zCalVo 7 (87, m_Mo_lowest, 1, 896, 898, 42, "") := ⟨List.mem_of_getElem? (i := 115) rfl, by decide +kernel, zW_in 898 (by decide +kernel), zW_in 42 (by decide +kernel), Or.inl (zW_in 896 (by decide +kernel))⟩
theorem zCalV_7_91 : zCalVo 7 (91, m_Mo_tooLarge, 3, 900, 902, 43, "") := ⟨List.mem_of_getElem? (i := 116) rfl, by decide +kernel, zW_in 902 (by decide +kernel), zW_in 43 (by decide +kernel), Or.inl (zW_in 900 (by decide +kernel))⟩
theorem zCalV_7_97 : zCalVo 7 (97, m_Mo_round, 4, 867, 869, 35, "") := ⟨List.mem_of_getElem? (i := 108) rfl, by decide +kernel, zW_in 869 (by decide +kernel), zW_in 35 (by decide +kernel), Or.inl (zW_in 867 (by decide +kernel))⟩
theorem zCalV_7_101 : zCalVo 7 (101, m_Mo_either, 1, 842, 844, 29, "") := ⟨List.mem_of_getElem? (i := 102) rfl, by decide +kernel, zW_in 844 (by decide +kernel), zW_in 29 (by decide +kernel), Or.inl (zW_in 842 (by decide +kernel))⟩
theorem zCalV_7_105 : zCalVo 7 (105, m_Mo_invalid, 0, 850, 852, 31, "") := ⟨List.mem_of_getElem? (i := 104) rfl, by decide +kernel, zW_in 852 (by decide +kernel), zW_in 31 (by decide +kernel), Or.inl (zW_in 850 (by decide +kernel))⟩
theorem zCalV_7_108 : zCalVo 7 (108, m_Mo_result, 2, 863, 865, 34, "") := ⟨List.mem_of_getElem? (i := 107) rfl, by decide +kernel, zW_in 865 (by decide +kernel), zW_in 34 (by decide +kernel), Or.inl (zW_in 863 (by decide +kernel))⟩
theorem zCalV_7_112 : zCalVo 7 (112, m_Mo_finiteSum, 2, 905, 907, 44, "") := ⟨List.mem_of_getElem? (i := 117) rfl, by decide +kernel, zW_in 907 (by decide +kernel), zW_in 44 (by decide +kernel), Or.inl (zW_in 905 (by decide +kernel))⟩
theorem zCalV_7_115 : zCalVo 7 (115, m_Mo_compareRows, 2, 909, 911, 45, "") := ⟨List.mem_of_getElem? (i := 118) rfl, by decide +kernel, zW_in 911 (by decide +kernel), zW_in 45 (by decide +kernel), Or.inl (zW_in 909 (by decide +kernel))⟩
theorem zCalV_7_118 : zCalVo 7 (118, m_Mo_times, 3, 917, 919, 47, "") := ⟨List.mem_of_getElem? (i := 120) rfl, by decide +kernel, zW_in 919 (by decide +kernel), zW_in 47 (by decide +kernel), Or.inl (zW_in 917 (by decide +kernel))⟩
theorem zCalV_7_121 : zCalVo 7 (121, m_Mo_finiteQuotient, 1, 925, 927, 49, "") := ⟨List.mem_of_getElem? (i := 122) rfl, by decide +kernel, zW_in 927 (by decide +kernel), zW_in 49 (by decide +kernel), Or.inl (zW_in 925 (by decide +kernel))⟩
theorem zCalV_7_125 : zCalVo 7 (125, m_Mo_copy, 2, 830, 832, 26, "") := ⟨List.mem_of_getElem? (i := 99) rfl, by decide +kernel, zW_in 832 (by decide +kernel), zW_in 26 (by decide +kernel), Or.inl (zW_in 830 (by decide +kernel))⟩
theorem zCalV_7_128 : zCalVo 7 (128, m_Mo_whole, 0, 965, 967, 59, "") := ⟨List.mem_of_getElem? (i := 132) rfl, by decide +kernel, zW_in 967 (by decide +kernel), zW_in 59 (by decide +kernel), Or.inl (zW_in 965 (by decide +kernel))⟩
theorem zCalV_7_131 : zCalVo 7 (131, m_Mo_exactly, 1, 945, 947, 54, "") := ⟨List.mem_of_getElem? (i := 127) rfl, by decide +kernel, zW_in 947 (by decide +kernel), zW_in 54 (by decide +kernel), Or.inl (zW_in 945 (by decide +kernel))⟩
theorem zCalV_7_135 : zCalVo 7 (135, m_Mo_rank, 1, 941, 943, 53, "") := ⟨List.mem_of_getElem? (i := 126) rfl, by decide +kernel, zW_in 943 (by decide +kernel), zW_in 53 (by decide +kernel), Or.inl (zW_in 941 (by decide +kernel))⟩
theorem zCalV_7_152 : zCalVo 7 (152, m_Mo_goOn, 1, 818, 820, 23, "") := ⟨List.mem_of_getElem? (i := 96) rfl, by decide +kernel, zW_in 820 (by decide +kernel), zW_in 23 (by decide +kernel), Or.inl (zW_in 818 (by decide +kernel))⟩
theorem zCalV_7_161 : zCalVo 7 (161, m_Mo_throwing, 0, 826, 828, 25, "") := ⟨List.mem_of_getElem? (i := 98) rfl, by decide +kernel, zW_in 828 (by decide +kernel), zW_in 25 (by decide +kernel), Or.inl (zW_in 826 (by decide +kernel))⟩
theorem zCalV_7_168 : zCalVo 7 (168, m_Mo_begin, 1, 814, 816, 22, "") := ⟨List.mem_of_getElem? (i := 95) rfl, by decide +kernel, zW_in 816 (by decide +kernel), zW_in 22 (by decide +kernel), Or.inl (zW_in 814 (by decide +kernel))⟩
theorem zCalV_7_171 : zCalVo 7 (171, m_Mo_refuse, 0, 822, 824, 24, "") := ⟨List.mem_of_getElem? (i := 97) rfl, by decide +kernel, zW_in 824 (by decide +kernel), zW_in 24 (by decide +kernel), Or.inl (zW_in 822 (by decide +kernel))⟩
theorem zCalV_7_175 : zCalVo 7 (175, m_Mo_reckon, 1, 834, 836, 27, "") := ⟨List.mem_of_getElem? (i := 100) rfl, by decide +kernel, zW_in 836 (by decide +kernel), zW_in 27 (by decide +kernel), Or.inl (zW_in 834 (by decide +kernel))⟩
theorem zCalV_7_178 : zCalVo 7 (178, m_Mo_change, 1, 929, 931, 50, "") := ⟨List.mem_of_getElem? (i := 123) rfl, by decide +kernel, zW_in 931 (by decide +kernel), zW_in 50 (by decide +kernel), Or.inl (zW_in 929 (by decide +kernel))⟩
theorem zCalV_7_181 : zCalVo 7 (181, m_Mo_move, 2, 933, 935, 51, "") := ⟨List.mem_of_getElem? (i := 124) rfl, by decide +kernel, zW_in 935 (by decide +kernel), zW_in 51 (by decide +kernel), Or.inl (zW_in 933 (by decide +kernel))⟩
theorem zCalV_7_184 : zCalVo 7 (184, m_Mo_extract, 0, 949, 951, 55, "") := ⟨List.mem_of_getElem? (i := 128) rfl, by decide +kernel, zW_in 951 (by decide +kernel), zW_in 55 (by decide +kernel), Or.inl (zW_in 949 (by decide +kernel))⟩
theorem zCalV_7_187 : zCalVo 7 (187, m_Mo_alter, 1, 953, 955, 56, "") := ⟨List.mem_of_getElem? (i := 129) rfl, by decide +kernel, zW_in 955 (by decide +kernel), zW_in 56 (by decide +kernel), Or.inl (zW_in 953 (by decide +kernel))⟩
theorem zCalV_7_190 : zCalVo 7 (190, m_Mo_sum, 0, 838, 840, 28, "") := ⟨List.mem_of_getElem? (i := 101) rfl, by decide +kernel, zW_in 840 (by decide +kernel), zW_in 28 (by decide +kernel), Or.inl (zW_in 838 (by decide +kernel))⟩
theorem zCalV_7_193 : zCalVo 7 (193, m_Mo_product, 0, 913, 915, 46, "") := ⟨List.mem_of_getElem? (i := 119) rfl, by decide +kernel, zW_in 915 (by decide +kernel), zW_in 46 (by decide +kernel), Or.inl (zW_in 913 (by decide +kernel))⟩
theorem zCalV_7_196 : zCalVo 7 (196, m_Mo_quotient, 0, 921, 923, 48, "") := ⟨List.mem_of_getElem? (i := 121) rfl, by decide +kernel, zW_in 923 (by decide +kernel), zW_in 48 (by decide +kernel), Or.inl (zW_in 921 (by decide +kernel))⟩
theorem zCalV_7_199 : zCalVo 7 (199, m_Mo_root, 0, 957, 959, 57, "") := ⟨List.mem_of_getElem? (i := 130) rfl, by decide +kernel, zW_in 959 (by decide +kernel), zW_in 57 (by decide +kernel), Or.inl (zW_in 957 (by decide +kernel))⟩
theorem zCalV_7_202 : zCalVo 7 (202, m_Mo_integer, 0, 961, 963, 58, "") := ⟨List.mem_of_getElem? (i := 131) rfl, by decide +kernel, zW_in 963 (by decide +kernel), zW_in 58 (by decide +kernel), Or.inl (zW_in 961 (by decide +kernel))⟩
theorem zCalV_7_205 : zCalVo 7 (205, m_Mo_scaled, 0, 969, 971, 60, "") := ⟨List.mem_of_getElem? (i := 133) rfl, by decide +kernel, zW_in 971 (by decide +kernel), zW_in 60 (by decide +kernel), Or.inl (zW_in 969 (by decide +kernel))⟩
theorem zCalV_7_208 : zCalVo 7 (208, m_Mo_compared, 0, 937, 939, 52, "") := ⟨List.mem_of_getElem? (i := 125) rfl, by decide +kernel, zW_in 939 (by decide +kernel), zW_in 52 (by decide +kernel), Or.inl (zW_in 937 (by decide +kernel))⟩
theorem zCalV_7_220 : zCalVo 7 (220, m_Mo_readWhole, 1, 978, 980, 61, "") := ⟨List.mem_of_getElem? (i := 135) rfl, by decide +kernel, zW_in 980 (by decide +kernel), zW_in 61 (by decide +kernel), Or.inl (zW_in 978 (by decide +kernel))⟩
theorem zCalV_7_224 : zCalVo 7 (224, m_Mo_readReal, 3, 982, 984, 62, "") := ⟨List.mem_of_getElem? (i := 136) rfl, by decide +kernel, zW_in 984 (by decide +kernel), zW_in 62 (by decide +kernel), Or.inl (zW_in 982 (by decide +kernel))⟩
theorem zCalV_7_228 : zCalVo 7 (228, m_Mo_readDecimal, 1, 986, 988, 63, "") := ⟨List.mem_of_getElem? (i := 137) rfl, by decide +kernel, zW_in 988 (by decide +kernel), zW_in 63 (by decide +kernel), Or.inl (zW_in 986 (by decide +kernel))⟩
theorem zCalV_7_239 : zCalVo 7 (239, m_Mo_writeReal, 2, 997, 999, 64, "") := ⟨List.mem_of_getElem? (i := 139) rfl, by decide +kernel, zW_in 999 (by decide +kernel), zW_in 64 (by decide +kernel), Or.inl (zW_in 997 (by decide +kernel))⟩
theorem zCalV_7_243 : zCalVo 7 (243, m_Mo_writeWhole, 1, 1001, 1003, 65, "") := ⟨List.mem_of_getElem? (i := 140) rfl, by decide +kernel, zW_in 1003 (by decide +kernel), zW_in 65 (by decide +kernel), Or.inl (zW_in 1001 (by decide +kernel))⟩
set_option maxRecDepth 20000 in
theorem zCalV_7 : ∀ q ∈ zCalVT 7, zCalVo 7 q := List.forall_mem_cons.mpr ⟨zCalV_7_43, List.forall_mem_cons.mpr ⟨zCalV_7_49, List.forall_mem_cons.mpr ⟨zCalV_7_53, List.forall_mem_cons.mpr ⟨zCalV_7_57, List.forall_mem_cons.mpr ⟨zCalV_7_65, List.forall_mem_cons.mpr ⟨zCalV_7_72, List.forall_mem_cons.mpr ⟨zCalV_7_76, List.forall_mem_cons.mpr ⟨zCalV_7_80, List.forall_mem_cons.mpr ⟨zCalV_7_84, List.forall_mem_cons.mpr ⟨zCalV_7_87, List.forall_mem_cons.mpr ⟨zCalV_7_91, List.forall_mem_cons.mpr ⟨zCalV_7_97, List.forall_mem_cons.mpr ⟨zCalV_7_101, List.forall_mem_cons.mpr ⟨zCalV_7_105, List.forall_mem_cons.mpr ⟨zCalV_7_108, List.forall_mem_cons.mpr ⟨zCalV_7_112, List.forall_mem_cons.mpr ⟨zCalV_7_115, List.forall_mem_cons.mpr ⟨zCalV_7_118, List.forall_mem_cons.mpr ⟨zCalV_7_121, List.forall_mem_cons.mpr ⟨zCalV_7_125, List.forall_mem_cons.mpr ⟨zCalV_7_128, List.forall_mem_cons.mpr ⟨zCalV_7_131, List.forall_mem_cons.mpr ⟨zCalV_7_135, List.forall_mem_cons.mpr ⟨zCalV_7_152, List.forall_mem_cons.mpr ⟨zCalV_7_161, List.forall_mem_cons.mpr ⟨zCalV_7_168, List.forall_mem_cons.mpr ⟨zCalV_7_171, List.forall_mem_cons.mpr ⟨zCalV_7_175, List.forall_mem_cons.mpr ⟨zCalV_7_178, List.forall_mem_cons.mpr ⟨zCalV_7_181, List.forall_mem_cons.mpr ⟨zCalV_7_184, List.forall_mem_cons.mpr ⟨zCalV_7_187, List.forall_mem_cons.mpr ⟨zCalV_7_190, List.forall_mem_cons.mpr ⟨zCalV_7_193, List.forall_mem_cons.mpr ⟨zCalV_7_196, List.forall_mem_cons.mpr ⟨zCalV_7_199, List.forall_mem_cons.mpr ⟨zCalV_7_202, List.forall_mem_cons.mpr ⟨zCalV_7_205, List.forall_mem_cons.mpr ⟨zCalV_7_208, List.forall_mem_cons.mpr ⟨zCalV_7_220, List.forall_mem_cons.mpr ⟨zCalV_7_224, List.forall_mem_cons.mpr ⟨zCalV_7_228, List.forall_mem_cons.mpr ⟨zCalV_7_239, List.forall_mem_cons.mpr ⟨zCalV_7_243, fun _ h => absurd h List.not_mem_nil⟩⟩⟩⟩⟩⟩⟩⟩⟩⟩⟩⟩⟩⟩⟩⟩⟩⟩⟩⟩⟩⟩⟩⟩⟩⟩⟩⟩⟩⟩⟩⟩⟩⟩⟩⟩⟩⟩⟩⟩⟩⟩⟩⟩
theorem zCalV_8_7 : zCalVo 8 (7, m_SR_control, 3, 301, 302, 303, "") := ⟨List.mem_of_getElem? (i := 9) rfl, by decide +kernel, zW_in 302 (by decide +kernel), zW_in 303 (by decide +kernel), Or.inl (zW_in 301 (by decide +kernel))⟩
theorem zCalV_8_15 : zCalVo 8 (15, m_SR_operate, 2, 378, 379, 380, "") := ⟨List.mem_of_getElem? (i := 11) rfl, by decide +kernel, zW_in 379 (by decide +kernel), zW_in 380 (by decide +kernel), Or.inl (zW_in 378 (by decide +kernel))⟩
theorem zCalV_8_21 : zCalVo 8 (21, m_SR_load, 2, 615, 616, 617, "") := ⟨List.mem_of_getElem? (i := 63) rfl, by decide +kernel, zW_in 616 (by decide +kernel), zW_in 617 (by decide +kernel), Or.inl (zW_in 615 (by decide +kernel))⟩
theorem zCalV_8_24 : zCalVo 8 (24, m_SR_store, 2, 648, 649, 650, "") := ⟨List.mem_of_getElem? (i := 70) rfl, by decide +kernel, zW_in 649 (by decide +kernel), zW_in 650 (by decide +kernel), Or.inl (zW_in 648 (by decide +kernel))⟩
theorem zCalV_8_27 : zCalVo 8 (27, m_SR_write, 2, 686, 687, 688, "") := ⟨List.mem_of_getElem? (i := 78) rfl, by decide +kernel, zW_in 687 (by decide +kernel), zW_in 688 (by decide +kernel), Or.inl (zW_in 686 (by decide +kernel))⟩
theorem zCalV_8_31 : zCalVo 8 (31, m_SR_memory, 1, 694, 695, 696, "") := ⟨List.mem_of_getElem? (i := 80) rfl, by decide +kernel, zW_in 695 (by decide +kernel), zW_in 696 (by decide +kernel), Or.inl (zW_in 694 (by decide +kernel))⟩
theorem zCalV_8_35 : zCalVo 8 (35, m_SR_pass, 1, 701, 702, 703, "") := ⟨List.mem_of_getElem? (i := 82) rfl, by decide +kernel, zW_in 702 (by decide +kernel), zW_in 703 (by decide +kernel), Or.inl (zW_in 701 (by decide +kernel))⟩
theorem zCalV_8_39 : zCalVo 8 (39, m_SR_kind, 1, 710, 711, 712, "") := ⟨List.mem_of_getElem? (i := 84) rfl, by decide +kernel, zW_in 711 (by decide +kernel), zW_in 712 (by decide +kernel), Or.inl (zW_in 710 (by decide +kernel))⟩
theorem zCalV_8_43 : zCalVo 8 (43, m_SR_exponent, 1, 722, 723, 724, "") := ⟨List.mem_of_getElem? (i := 87) rfl, by decide +kernel, zW_in 723 (by decide +kernel), zW_in 724 (by decide +kernel), Or.inl (zW_in 722 (by decide +kernel))⟩
theorem zCalV_8_46 : zCalVo 8 (46, m_SR_significand, 1, 729, 730, 731, "") := ⟨List.mem_of_getElem? (i := 89) rfl, by decide +kernel, zW_in 730 (by decide +kernel), zW_in 731 (by decide +kernel), Or.inl (zW_in 729 (by decide +kernel))⟩
theorem zCalV_8_58 : zCalVo 8 (58, m_Mo_control, 3, 800, 801, 802, "") := ⟨List.mem_of_getElem? (i := 91) rfl, by decide +kernel, zW_in 801 (by decide +kernel), zW_in 802 (by decide +kernel), Or.inl (zW_in 800 (by decide +kernel))⟩
theorem zCalV_8_59 : zCalVo 8 (59, m_Mo_thrown, 0, 796, 797, 798, "") := ⟨List.mem_of_getElem? (i := 90) rfl, by decide +kernel, zW_in 797 (by decide +kernel), zW_in 798 (by decide +kernel), Or.inl (zW_in 796 (by decide +kernel))⟩
theorem zCalV_8_66 : zCalVo 8 (66, m_Mo_operate, 2, 807, 808, 809, "") := ⟨List.mem_of_getElem? (i := 93) rfl, by decide +kernel, zW_in 808 (by decide +kernel), zW_in 809 (by decide +kernel), Or.inl (zW_in 807 (by decide +kernel))⟩
theorem zCalV_8_69 : zCalVo 8 (69, m_Mo_load, 2, 974, 975, 976, "") := ⟨List.mem_of_getElem? (i := 134) rfl, by decide +kernel, zW_in 975 (by decide +kernel), zW_in 976 (by decide +kernel), Or.inl (zW_in 974 (by decide +kernel))⟩
theorem zCalV_8_72 : zCalVo 8 (72, m_Mo_store, 2, 993, 994, 995, "") := ⟨List.mem_of_getElem? (i := 138) rfl, by decide +kernel, zW_in 994 (by decide +kernel), zW_in 995 (by decide +kernel), Or.inl (zW_in 993 (by decide +kernel))⟩
theorem zCalV_8_78 : zCalVo 8 (78, m_Mo_write, 2, 1009, 1010, 1011, "") := ⟨List.mem_of_getElem? (i := 141) rfl, by decide +kernel, zW_in 1010 (by decide +kernel), zW_in 1011 (by decide +kernel), Or.inl (zW_in 1009 (by decide +kernel))⟩
theorem zCalV_8_82 : zCalVo 8 (82, m_Mo_memory, 1, 1013, 1014, 1015, "") := ⟨List.mem_of_getElem? (i := 142) rfl, by decide +kernel, zW_in 1014 (by decide +kernel), zW_in 1015 (by decide +kernel), Or.inl (zW_in 1013 (by decide +kernel))⟩
theorem zCalV_8_86 : zCalVo 8 (86, m_Mo_pass, 1, 1017, 1018, 1019, "") := ⟨List.mem_of_getElem? (i := 143) rfl, by decide +kernel, zW_in 1018 (by decide +kernel), zW_in 1019 (by decide +kernel), Or.inl (zW_in 1017 (by decide +kernel))⟩
theorem zCalV_8_87 : zCalVo 8 (87, m_SR_await, 0, 265, 266, 267, "") := ⟨List.mem_of_getElem? (i := 0) rfl, by decide +kernel, zW_in 266 (by decide +kernel), zW_in 267 (by decide +kernel), Or.inl (zW_in 265 (by decide +kernel))⟩
theorem zCalV_8_90 : zCalVo 8 (90, m_Mo_await, 0, 1021, 1022, 1023, "") := ⟨List.mem_of_getElem? (i := 144) rfl, by decide +kernel, zW_in 1022 (by decide +kernel), zW_in 1023 (by decide +kernel), Or.inl (zW_in 1021 (by decide +kernel))⟩
theorem zCalV_8_91 : zCalVo 8 (91, m_SR_time, 0, 277, 278, 279, "") := ⟨List.mem_of_getElem? (i := 3) rfl, by decide +kernel, zW_in 278 (by decide +kernel), zW_in 279 (by decide +kernel), Or.inl (zW_in 277 (by decide +kernel))⟩
theorem zCalV_8_95 : zCalVo 8 (95, m_Mo_time, 0, 1025, 1026, 1027, "") := ⟨List.mem_of_getElem? (i := 145) rfl, by decide +kernel, zW_in 1026 (by decide +kernel), zW_in 1027 (by decide +kernel), Or.inl (zW_in 1025 (by decide +kernel))⟩
theorem zCalV_8_96 : zCalVo 8 (96, m_SR_flags, 0, 281, 282, 283, "") := ⟨List.mem_of_getElem? (i := 4) rfl, by decide +kernel, zW_in 282 (by decide +kernel), zW_in 283 (by decide +kernel), Or.inl (zW_in 281 (by decide +kernel))⟩
theorem zCalV_8_99 : zCalVo 8 (99, m_Mo_flags, 0, 1029, 1030, 1031, "") := ⟨List.mem_of_getElem? (i := 146) rfl, by decide +kernel, zW_in 1030 (by decide +kernel), zW_in 1031 (by decide +kernel), Or.inl (zW_in 1029 (by decide +kernel))⟩
theorem zCalV_8_100 : zCalVo 8 (100, m_SR_clear, 0, 285, 286, 287, "") := ⟨List.mem_of_getElem? (i := 5) rfl, by decide +kernel, zW_in 286 (by decide +kernel), zW_in 287 (by decide +kernel), Or.inl (zW_in 285 (by decide +kernel))⟩
theorem zCalV_8_103 : zCalVo 8 (103, m_Mo_clear, 0, 1033, 1034, 1035, "") := ⟨List.mem_of_getElem? (i := 147) rfl, by decide +kernel, zW_in 1034 (by decide +kernel), zW_in 1035 (by decide +kernel), Or.inl (zW_in 1033 (by decide +kernel))⟩
theorem zCalV_8_104 : zCalVo 8 (104, m_SR_condition, 0, 289, 290, 291, "") := ⟨List.mem_of_getElem? (i := 6) rfl, by decide +kernel, zW_in 290 (by decide +kernel), zW_in 291 (by decide +kernel), Or.inl (zW_in 289 (by decide +kernel))⟩
theorem zCalV_8_107 : zCalVo 8 (107, m_Mo_condition, 0, 1037, 1038, 1039, "") := ⟨List.mem_of_getElem? (i := 148) rfl, by decide +kernel, zW_in 1038 (by decide +kernel), zW_in 1039 (by decide +kernel), Or.inl (zW_in 1037 (by decide +kernel))⟩
theorem zCalV_8_108 : zCalVo 8 (108, m_SR_depth, 0, 293, 294, 295, "") := ⟨List.mem_of_getElem? (i := 7) rfl, by decide +kernel, zW_in 294 (by decide +kernel), zW_in 295 (by decide +kernel), Or.inl (zW_in 293 (by decide +kernel))⟩
theorem zCalV_8_111 : zCalVo 8 (111, m_Mo_depth, 0, 1041, 1042, 1043, "") := ⟨List.mem_of_getElem? (i := 149) rfl, by decide +kernel, zW_in 1042 (by decide +kernel), zW_in 1043 (by decide +kernel), Or.inl (zW_in 1041 (by decide +kernel))⟩
theorem zCalV_8_114 : zCalVo 8 (114, m_Mo_kind, 1, 1045, 1046, 1047, "") := ⟨List.mem_of_getElem? (i := 150) rfl, by decide +kernel, zW_in 1046 (by decide +kernel), zW_in 1047 (by decide +kernel), Or.inl (zW_in 1045 (by decide +kernel))⟩
theorem zCalV_8_117 : zCalVo 8 (117, m_Mo_exponent, 1, 1049, 1050, 1051, "") := ⟨List.mem_of_getElem? (i := 151) rfl, by decide +kernel, zW_in 1050 (by decide +kernel), zW_in 1051 (by decide +kernel), Or.inl (zW_in 1049 (by decide +kernel))⟩
theorem zCalV_8_120 : zCalVo 8 (120, m_Mo_significand, 1, 1053, 1054, 1055, "") := ⟨List.mem_of_getElem? (i := 152) rfl, by decide +kernel, zW_in 1054 (by decide +kernel), zW_in 1055 (by decide +kernel), Or.inl (zW_in 1053 (by decide +kernel))⟩
set_option maxRecDepth 20000 in
theorem zCalV_8 : ∀ q ∈ zCalVT 8, zCalVo 8 q := List.forall_mem_cons.mpr ⟨zCalV_8_7, List.forall_mem_cons.mpr ⟨zCalV_8_15, List.forall_mem_cons.mpr ⟨zCalV_8_21, List.forall_mem_cons.mpr ⟨zCalV_8_24, List.forall_mem_cons.mpr ⟨zCalV_8_27, List.forall_mem_cons.mpr ⟨zCalV_8_31, List.forall_mem_cons.mpr ⟨zCalV_8_35, List.forall_mem_cons.mpr ⟨zCalV_8_39, List.forall_mem_cons.mpr ⟨zCalV_8_43, List.forall_mem_cons.mpr ⟨zCalV_8_46, List.forall_mem_cons.mpr ⟨zCalV_8_58, List.forall_mem_cons.mpr ⟨zCalV_8_59, List.forall_mem_cons.mpr ⟨zCalV_8_66, List.forall_mem_cons.mpr ⟨zCalV_8_69, List.forall_mem_cons.mpr ⟨zCalV_8_72, List.forall_mem_cons.mpr ⟨zCalV_8_78, List.forall_mem_cons.mpr ⟨zCalV_8_82, List.forall_mem_cons.mpr ⟨zCalV_8_86, List.forall_mem_cons.mpr ⟨zCalV_8_87, List.forall_mem_cons.mpr ⟨zCalV_8_90, List.forall_mem_cons.mpr ⟨zCalV_8_91, List.forall_mem_cons.mpr ⟨zCalV_8_95, List.forall_mem_cons.mpr ⟨zCalV_8_96, List.forall_mem_cons.mpr ⟨zCalV_8_99, List.forall_mem_cons.mpr ⟨zCalV_8_100, List.forall_mem_cons.mpr ⟨zCalV_8_103, List.forall_mem_cons.mpr ⟨zCalV_8_104, List.forall_mem_cons.mpr ⟨zCalV_8_107, List.forall_mem_cons.mpr ⟨zCalV_8_108, List.forall_mem_cons.mpr ⟨zCalV_8_111, List.forall_mem_cons.mpr ⟨zCalV_8_114, List.forall_mem_cons.mpr ⟨zCalV_8_117, List.forall_mem_cons.mpr ⟨zCalV_8_120, fun _ h => absurd h List.not_mem_nil⟩⟩⟩⟩⟩⟩⟩⟩⟩⟩⟩⟩⟩⟩⟩⟩⟩⟩⟩⟩⟩⟩⟩⟩⟩⟩⟩⟩⟩⟩⟩⟩⟩
theorem zCalV_all (cn : Nat) : ∀ q ∈ zCalVT cn, zCalVo cn q := by
  match cn with
  | 0 => exact zCalV_0
  | 1 => exact zCalV_1
  | 2 => exact zCalV_2
  | 3 => exact zCalV_3
  | 4 => exact zCalV_4
  | 5 => exact zCalV_5
  | 6 => exact zCalV_6
  | 7 => exact zCalV_7
  | 8 => exact zCalV_8
  | (n + 9) => exact fun _ h => absurd h List.not_mem_nil
theorem zCalV_ok {cn x a : Nat} {y : ZM} (h : zCalV cn x = some (y, a)) : y ∈ zAll ∧ (parseMethodDescriptor (zNm y).desc).map (fun d => d.parameters.length) = some a ∧ Jvm.Cond.instanceMethod (zNm y) ∈ zWs ∧ Jvm.Cond.selects (zCn (zCno y)) (zNm y) (zNm y) ∈ zWs ∧ (Jvm.Cond.methodLink (zCn cn) x (zNm y) ∈ zWs ∨ ∃ host, Jvm.Cond.methodLinkNest (zCn cn) x (zNm y) host ∈ zWs) := by
  unfold zCalV at h
  cases hl : (zCalVT cn).lookup x with
  | none => rw [hl] at h; cases h
  | some q =>
    obtain ⟨y9, a9, q9⟩ := q
    rw [hl] at h
    cases h
    exact zCalV_all cn _ (look_mem hl)
/-! throws -/
def zThO (mi : ZM) (pc x : Nat) : Prop := zHs mi = [] ∧ ∃ ia ib ic tx, decode (zCode mi) pc = .ok (.new ia, 3) ∧ decode (zCode mi) (pc + 3) = .ok (.dup, 1) ∧ decode (zCode mi) (pc + 3 + 1) = .ok (.ldc ib, 2) ∧ decode (zCode mi) (pc + 3 + 1 + 2) = .ok (.invokespecial ic, 3) ∧ decode (zCode mi) (pc + 3 + 1 + 2 + 3) = .ok (.athrow, 1) ∧
  Jvm.Cond.classLink (zCn (zCno mi)) ia (zXn x) ∈ zWs ∧ Jvm.Cond.instantiable (zXn x) 6 ∈ zWs ∧ Jvm.Cond.initialized (zXn x) ∈ zWs ∧ (zCno mi, ib, tx) ∈ zStr ∧ Bundle.fit (zXn x) = true ∧ (∀ n ∈ zXs x, Bundle.fit n = true) ∧ (zXs x).length = 2 ∧
  ∀ w ∈ Bundle.ownAtoms (zCn (zCno mi)) ic (zXn x) (zXs x), w ∈ zWs ∨ (∃ C n d, w = .isRef (.static C n d) ∧ (C, n, d) ∈ zStQ) ∨ (∃ C n d, w = .laysStatic C n d ∧ (C, n, d) ∈ zStQ)
def zOw (w : Jvm.Cond) : Bool := decide (w ∈ zWs) || (match w with | .isRef (.static C n d) => decide ((C, n, d) ∈ zStQ) | .laysStatic C n d => decide ((C, n, d) ∈ zStQ) | _ => false)
theorem zOw_spec {w : Jvm.Cond} (h : zOw w = true) : w ∈ zWs ∨ (∃ C n d, w = .isRef (.static C n d) ∧ (C, n, d) ∈ zStQ) ∨ (∃ C n d, w = .laysStatic C n d ∧ (C, n, d) ∈ zStQ) := by
  unfold zOw at h
  rw [Bool.or_eq_true, decide_eq_true_eq] at h
  rcases h with h | h
  · exact Or.inl h
  · split at h
    · exact Or.inr (Or.inl ⟨_, _, _, rfl, by simpa using h⟩)
    · exact Or.inr (Or.inr ⟨_, _, _, rfl, by simpa using h⟩)
    · cases h
set_option maxRecDepth 20000 in
theorem ow_0_1_70 : (Bundle.ownAtoms (zCn 0) 70 (zXn 1) (zXs 1)).all zOw = true := by decide +kernel
set_option maxRecDepth 20000 in
theorem ow_0_2_190 : (Bundle.ownAtoms (zCn 0) 190 (zXn 2) (zXs 2)).all zOw = true := by decide +kernel
theorem th_SR_control_18 : zThO m_SR_control 18 1 := ⟨rfl, 66, 68, 70, "the precision is 24, 53 or 64", by decide +kernel, by decide +kernel, by decide +kernel, by decide +kernel, by decide +kernel, zW_in 305 (by decide +kernel), zW_in 306 (by decide +kernel), zW_in 78 (by decide +kernel), by decide +kernel, by decide +kernel, by decide +kernel, rfl, fun w hw => zOw_spec (List.all_eq_true.mp ow_0_1_70 w hw)⟩
theorem th_SR_control_37 : zThO m_SR_control 37 1 := ⟨rfl, 66, 73, 70, "the rounding is 0 to 3", by decide +kernel, by decide +kernel, by decide +kernel, by decide +kernel, by decide +kernel, zW_in 305 (by decide +kernel), zW_in 306 (by decide +kernel), zW_in 78 (by decide +kernel), by decide +kernel, by decide +kernel, by decide +kernel, rfl, fun w hw => zOw_spec (List.all_eq_true.mp ow_0_1_70 w hw)⟩
theorem th_SR_control_57 : zThO m_SR_control 57 1 := ⟨rfl, 66, 75, 70, "the mask is 0 to 31", by decide +kernel, by decide +kernel, by decide +kernel, by decide +kernel, by decide +kernel, zW_in 305 (by decide +kernel), zW_in 306 (by decide +kernel), zW_in 78 (by decide +kernel), by decide +kernel, by decide +kernel, by decide +kernel, rfl, fun w hw => zOw_spec (List.all_eq_true.mp ow_0_1_70 w hw)⟩
theorem th_SR_operate_10 : zThO m_SR_operate 10 1 := ⟨rfl, 66, 83, 70, "there is no such operation", by decide +kernel, by decide +kernel, by decide +kernel, by decide +kernel, by decide +kernel, zW_in 305 (by decide +kernel), zW_in 306 (by decide +kernel), zW_in 78 (by decide +kernel), by decide +kernel, by decide +kernel, by decide +kernel, rfl, fun w hw => zOw_spec (List.all_eq_true.mp ow_0_1_70 w hw)⟩
theorem th_SR_operate_37 : zThO m_SR_operate 37 1 := ⟨rfl, 66, 89, 70, "i is 0 to 7", by decide +kernel, by decide +kernel, by decide +kernel, by decide +kernel, by decide +kernel, zW_in 305 (by decide +kernel), zW_in 306 (by decide +kernel), zW_in 78 (by decide +kernel), by decide +kernel, by decide +kernel, by decide +kernel, rfl, fun w hw => zOw_spec (List.all_eq_true.mp ow_0_1_70 w hw)⟩
theorem th_SR_raise_21 : zThO m_SR_raise 21 2 := ⟨rfl, 186, 188, 190, "an exception that is not masked", by decide +kernel, by decide +kernel, by decide +kernel, by decide +kernel, by decide +kernel, zW_in 411 (by decide +kernel), zW_in 412 (by decide +kernel), zW_in 79 (by decide +kernel), by decide +kernel, by decide +kernel, by decide +kernel, rfl, fun w hw => zOw_spec (List.all_eq_true.mp ow_0_2_190 w hw)⟩
theorem th_SR_load_14 : zThO m_SR_load 14 1 := ⟨rfl, 66, 120, 70, "there is no such cell or form", by decide +kernel, by decide +kernel, by decide +kernel, by decide +kernel, by decide +kernel, zW_in 305 (by decide +kernel), zW_in 306 (by decide +kernel), zW_in 78 (by decide +kernel), by decide +kernel, by decide +kernel, by decide +kernel, rfl, fun w hw => zOw_spec (List.all_eq_true.mp ow_0_1_70 w hw)⟩
theorem th_SR_store_14 : zThO m_SR_store 14 1 := ⟨rfl, 66, 120, 70, "there is no such cell or form", by decide +kernel, by decide +kernel, by decide +kernel, by decide +kernel, by decide +kernel, zW_in 305 (by decide +kernel), zW_in 306 (by decide +kernel), zW_in 78 (by decide +kernel), by decide +kernel, by decide +kernel, by decide +kernel, rfl, fun w hw => zOw_spec (List.all_eq_true.mp ow_0_1_70 w hw)⟩
theorem th_SR_write_7 : zThO m_SR_write 7 1 := ⟨rfl, 66, 150, 70, "there is no such cell", by decide +kernel, by decide +kernel, by decide +kernel, by decide +kernel, by decide +kernel, zW_in 305 (by decide +kernel), zW_in 306 (by decide +kernel), zW_in 78 (by decide +kernel), by decide +kernel, by decide +kernel, by decide +kernel, rfl, fun w hw => zOw_spec (List.all_eq_true.mp ow_0_1_70 w hw)⟩
theorem th_SR_memory_7 : zThO m_SR_memory 7 1 := ⟨rfl, 66, 150, 70, "there is no such cell", by decide +kernel, by decide +kernel, by decide +kernel, by decide +kernel, by decide +kernel, zW_in 305 (by decide +kernel), zW_in 306 (by decide +kernel), zW_in 78 (by decide +kernel), by decide +kernel, by decide +kernel, by decide +kernel, rfl, fun w hw => zOw_spec (List.all_eq_true.mp ow_0_1_70 w hw)⟩
theorem th_SR_pass_11 : zThO m_SR_pass 11 1 := ⟨rfl, 66, 152, 70, "0 to 1000 ticks pass", by decide +kernel, by decide +kernel, by decide +kernel, by decide +kernel, by decide +kernel, zW_in 305 (by decide +kernel), zW_in 306 (by decide +kernel), zW_in 78 (by decide +kernel), by decide +kernel, by decide +kernel, by decide +kernel, rfl, fun w hw => zOw_spec (List.all_eq_true.mp ow_0_1_70 w hw)⟩
theorem th_SR_kind_8 : zThO m_SR_kind 8 1 := ⟨rfl, 66, 168, 70, "there is no such real", by decide +kernel, by decide +kernel, by decide +kernel, by decide +kernel, by decide +kernel, zW_in 305 (by decide +kernel), zW_in 306 (by decide +kernel), zW_in 78 (by decide +kernel), by decide +kernel, by decide +kernel, by decide +kernel, rfl, fun w hw => zOw_spec (List.all_eq_true.mp ow_0_1_70 w hw)⟩
theorem th_SR_exponent_8 : zThO m_SR_exponent 8 1 := ⟨rfl, 66, 168, 70, "there is no such real", by decide +kernel, by decide +kernel, by decide +kernel, by decide +kernel, by decide +kernel, zW_in 305 (by decide +kernel), zW_in 306 (by decide +kernel), zW_in 78 (by decide +kernel), by decide +kernel, by decide +kernel, by decide +kernel, rfl, fun w hw => zOw_spec (List.all_eq_true.mp ow_0_1_70 w hw)⟩
theorem th_SR_significand_8 : zThO m_SR_significand 8 1 := ⟨rfl, 66, 168, 70, "there is no such real", by decide +kernel, by decide +kernel, by decide +kernel, by decide +kernel, by decide +kernel, zW_in 305 (by decide +kernel), zW_in 306 (by decide +kernel), zW_in 78 (by decide +kernel), by decide +kernel, by decide +kernel, by decide +kernel, rfl, fun w hw => zOw_spec (List.all_eq_true.mp ow_0_1_70 w hw)⟩
def zTok (mi : ZM) : Prop := ∀ q ∈ zThL mi, zThO mi q.1 q.2
theorem to_SR_await : zTok m_SR_await := fun _ h => absurd h List.not_mem_nil
theorem to_Me_waitUntilFree : zTok m_Me_waitUntilFree := fun _ h => absurd h List.not_mem_nil
theorem to_Me_goOn : zTok m_Me_goOn := fun _ h => absurd h List.not_mem_nil
theorem to_SR_time : zTok m_SR_time := fun _ h => absurd h List.not_mem_nil
theorem to_SR_flags : zTok m_SR_flags := fun _ h => absurd h List.not_mem_nil
theorem to_SR_clear : zTok m_SR_clear := fun _ h => absurd h List.not_mem_nil
theorem to_SR_condition : zTok m_SR_condition := fun _ h => absurd h List.not_mem_nil
theorem to_SR_depth : zTok m_SR_depth := fun _ h => absurd h List.not_mem_nil
theorem to_La_control : zTok m_La_control := fun _ h => absurd h List.not_mem_nil
theorem to_SR_control : zTok m_SR_control := List.forall_mem_cons.mpr ⟨th_SR_control_18, List.forall_mem_cons.mpr ⟨th_SR_control_37, List.forall_mem_cons.mpr ⟨th_SR_control_57, fun _ h => absurd h List.not_mem_nil⟩⟩⟩
theorem to_La_operate : zTok m_La_operate := fun _ h => absurd h List.not_mem_nil
theorem to_SR_operate : zTok m_SR_operate := List.forall_mem_cons.mpr ⟨th_SR_operate_10, List.forall_mem_cons.mpr ⟨th_SR_operate_37, fun _ h => absurd h List.not_mem_nil⟩⟩
theorem to_SR_namesPlace : zTok m_SR_namesPlace := fun _ h => absurd h List.not_mem_nil
theorem to_Me_occupy : zTok m_Me_occupy := fun _ h => absurd h List.not_mem_nil
theorem to_SR_isPossible : zTok m_SR_isPossible := fun _ h => absurd h List.not_mem_nil
theorem to_SR_pushes : zTok m_SR_pushes := fun _ h => absurd h List.not_mem_nil
theorem to_SR_st : zTok m_SR_st := fun _ h => absurd h List.not_mem_nil
theorem to_SR_raise : zTok m_SR_raise := List.forall_mem_cons.mpr ⟨th_SR_raise_21, fun _ h => absurd h List.not_mem_nil⟩
theorem to_SR_workOut : zTok m_SR_workOut := fun _ h => absurd h List.not_mem_nil
theorem to_Ar_add : zTok m_Ar_add := fun _ h => absurd h List.not_mem_nil
theorem to_Re_becomeNan : zTok m_Re_becomeNan := fun _ h => absurd h List.not_mem_nil
theorem to_Ar_addInfinite : zTok m_Ar_addInfinite := fun _ h => absurd h List.not_mem_nil
theorem to_Ar_makeInvalid : zTok m_Ar_makeInvalid := fun _ h => absurd h List.not_mem_nil
theorem to_Re_copy : zTok m_Re_copy := fun _ h => absurd h List.not_mem_nil
theorem to_Re_becomeZero : zTok m_Re_becomeZero := fun _ h => absurd h List.not_mem_nil
theorem to_Ex_copy : zTok m_Ex_copy := fun _ h => absurd h List.not_mem_nil
theorem to_Ex_becomeSum : zTok m_Ex_becomeSum := fun _ h => absurd h List.not_mem_nil
theorem to_SR_compareMagnitudes : zTok m_SR_compareMagnitudes := fun _ h => absurd h List.not_mem_nil
theorem to_SR_isBelow : zTok m_SR_isBelow := fun _ h => absurd h List.not_mem_nil
theorem to_Ex_combine : zTok m_Ex_combine := fun _ h => absurd h List.not_mem_nil
theorem to_Ex_lowerPart : zTok m_Ex_lowerPart := fun _ h => absurd h List.not_mem_nil
theorem to_Ex_putOn : zTok m_Ex_putOn := fun _ h => absurd h List.not_mem_nil
theorem to_Ex_takeAway : zTok m_Ex_takeAway := fun _ h => absurd h List.not_mem_nil
theorem to_Ex_normalize : zTok m_Ex_normalize := fun _ h => absurd h List.not_mem_nil
theorem to_Ex_isZero : zTok m_Ex_isZero := fun _ h => absurd h List.not_mem_nil
theorem to_Ro_round : zTok m_Ro_round := fun _ h => absurd h List.not_mem_nil
theorem to_Ro_roundTo : zTok m_Ro_roundTo := fun _ h => absurd h List.not_mem_nil
theorem to_Ro_goesAway : zTok m_Ro_goesAway := fun _ h => absurd h List.not_mem_nil
theorem to_Ro_staysBelowInfinite : zTok m_Ro_staysBelowInfinite := fun _ h => absurd h List.not_mem_nil
theorem to_Re_becomeFinite : zTok m_Re_becomeFinite := fun _ h => absurd h List.not_mem_nil
theorem to_Re_becomeInfinite : zTok m_Re_becomeInfinite := fun _ h => absurd h List.not_mem_nil
theorem to_Re_negate : zTok m_Re_negate := fun _ h => absurd h List.not_mem_nil
theorem to_Ar_multiply : zTok m_Ar_multiply := fun _ h => absurd h List.not_mem_nil
theorem to_Ex_becomeProduct : zTok m_Ex_becomeProduct := fun _ h => absurd h List.not_mem_nil
theorem to_Ex_multiplyBits : zTok m_Ex_multiplyBits := fun _ h => absurd h List.not_mem_nil
theorem to_Ar_divide : zTok m_Ar_divide := fun _ h => absurd h List.not_mem_nil
theorem to_Ex_becomeQuotient : zTok m_Ex_becomeQuotient := fun _ h => absurd h List.not_mem_nil
theorem to_Ex_fitsInDouble : zTok m_Ex_fitsInDouble := fun _ h => absurd h List.not_mem_nil
theorem to_Ar_root : zTok m_Ar_root := fun _ h => absurd h List.not_mem_nil
theorem to_Ex_becomeRoot : zTok m_Ex_becomeRoot := fun _ h => absurd h List.not_mem_nil
theorem to_Ex_isAbove : zTok m_Ex_isAbove := fun _ h => absurd h List.not_mem_nil
theorem to_Ar_makeWhole : zTok m_Ar_makeWhole := fun _ h => absurd h List.not_mem_nil
theorem to_Re_isWhole : zTok m_Re_isWhole := fun _ h => absurd h List.not_mem_nil
theorem to_Ro_wholeMagnitude : zTok m_Ro_wholeMagnitude := fun _ h => absurd h List.not_mem_nil
theorem to_Re_becomeWhole : zTok m_Re_becomeWhole := fun _ h => absurd h List.not_mem_nil
theorem to_Ar_scale : zTok m_Ar_scale := fun _ h => absurd h List.not_mem_nil
theorem to_SR_carryOut : zTok m_SR_carryOut := fun _ h => absurd h List.not_mem_nil
theorem to_SR_extract : zTok m_SR_extract := fun _ h => absurd h List.not_mem_nil
theorem to_SR_push : zTok m_SR_push := fun _ h => absurd h List.not_mem_nil
theorem to_SR_exchange : zTok m_SR_exchange := fun _ h => absurd h List.not_mem_nil
theorem to_SR_conditionOf : zTok m_SR_conditionOf := fun _ h => absurd h List.not_mem_nil
theorem to_SR_compareReals : zTok m_SR_compareReals := fun _ h => absurd h List.not_mem_nil
theorem to_La_load : zTok m_La_load := fun _ h => absurd h List.not_mem_nil
theorem to_SR_load : zTok m_SR_load := List.forall_mem_cons.mpr ⟨th_SR_load_14, fun _ h => absurd h List.not_mem_nil⟩
theorem to_SR_isCell : zTok m_SR_isCell := fun _ h => absurd h List.not_mem_nil
theorem to_SR_isForm : zTok m_SR_isForm := fun _ h => absurd h List.not_mem_nil
theorem to_Fo_decode : zTok m_Fo_decode := fun _ h => absurd h List.not_mem_nil
theorem to_Fo_decodeBinary : zTok m_Fo_decodeBinary := fun _ h => absurd h List.not_mem_nil
theorem to_Fo_decodeDecimal : zTok m_Fo_decodeDecimal := fun _ h => absurd h List.not_mem_nil
theorem to_La_store : zTok m_La_store := fun _ h => absurd h List.not_mem_nil
theorem to_SR_store : zTok m_SR_store := List.forall_mem_cons.mpr ⟨th_SR_store_14, fun _ h => absurd h List.not_mem_nil⟩
theorem to_Fo_encode : zTok m_Fo_encode := fun _ h => absurd h List.not_mem_nil
theorem to_Fo_encodeWhole : zTok m_Fo_encodeWhole := fun _ h => absurd h List.not_mem_nil
theorem to_Fo_encodeBinary : zTok m_Fo_encodeBinary := fun _ h => absurd h List.not_mem_nil
theorem to_Fo_binaryImage : zTok m_Fo_binaryImage := fun _ h => absurd h List.not_mem_nil
theorem to_Fo_encodeDecimal : zTok m_Fo_encodeDecimal := fun _ h => absurd h List.not_mem_nil
theorem to_Me_storeWhenFree : zTok m_Me_storeWhenFree := fun _ h => absurd h List.not_mem_nil
theorem to_La_write : zTok m_La_write := fun _ h => absurd h List.not_mem_nil
theorem to_SR_write : zTok m_SR_write := List.forall_mem_cons.mpr ⟨th_SR_write_7, fun _ h => absurd h List.not_mem_nil⟩
theorem to_La_memory : zTok m_La_memory := fun _ h => absurd h List.not_mem_nil
theorem to_SR_memory : zTok m_SR_memory := List.forall_mem_cons.mpr ⟨th_SR_memory_7, fun _ h => absurd h List.not_mem_nil⟩
theorem to_La_pass : zTok m_La_pass := fun _ h => absurd h List.not_mem_nil
theorem to_SR_pass : zTok m_SR_pass := List.forall_mem_cons.mpr ⟨th_SR_pass_11, fun _ h => absurd h List.not_mem_nil⟩
theorem to_La_kind : zTok m_La_kind := fun _ h => absurd h List.not_mem_nil
theorem to_SR_kind : zTok m_SR_kind := List.forall_mem_cons.mpr ⟨th_SR_kind_8, fun _ h => absurd h List.not_mem_nil⟩
theorem to_SR_isOnStack : zTok m_SR_isOnStack := fun _ h => absurd h List.not_mem_nil
theorem to_La_exponent : zTok m_La_exponent := fun _ h => absurd h List.not_mem_nil
theorem to_SR_exponent : zTok m_SR_exponent := List.forall_mem_cons.mpr ⟨th_SR_exponent_8, fun _ h => absurd h List.not_mem_nil⟩
theorem to_La_significand : zTok m_La_significand := fun _ h => absurd h List.not_mem_nil
theorem to_SR_significand : zTok m_SR_significand := List.forall_mem_cons.mpr ⟨th_SR_significand_8, fun _ h => absurd h List.not_mem_nil⟩
theorem to_Mo_thrown : zTok m_Mo_thrown := fun _ h => absurd h List.not_mem_nil
theorem to_Mo_control : zTok m_Mo_control := fun _ h => absurd h List.not_mem_nil
theorem to_Mo_out : zTok m_Mo_out := fun _ h => absurd h List.not_mem_nil
theorem to_Mo_operate : zTok m_Mo_operate := fun _ h => absurd h List.not_mem_nil
theorem to_Mo_cost : zTok m_Mo_cost := fun _ h => absurd h List.not_mem_nil
theorem to_Mo_begin : zTok m_Mo_begin := fun _ h => absurd h List.not_mem_nil
theorem to_Mo_goOn : zTok m_Mo_goOn := fun _ h => absurd h List.not_mem_nil
theorem to_Mo_refuse : zTok m_Mo_refuse := fun _ h => absurd h List.not_mem_nil
theorem to_Mo_throwing : zTok m_Mo_throwing := fun _ h => absurd h List.not_mem_nil
theorem to_Mo_copy : zTok m_Mo_copy := fun _ h => absurd h List.not_mem_nil
theorem to_Mo_reckon : zTok m_Mo_reckon := fun _ h => absurd h List.not_mem_nil
theorem to_Mo_sum : zTok m_Mo_sum := fun _ h => absurd h List.not_mem_nil
theorem to_Mo_either : zTok m_Mo_either := fun _ h => absurd h List.not_mem_nil
theorem to_Mo_special : zTok m_Mo_special := fun _ h => absurd h List.not_mem_nil
theorem to_Mo_invalid : zTok m_Mo_invalid := fun _ h => absurd h List.not_mem_nil
theorem to_Mo_put : zTok m_Mo_put := fun _ h => absurd h List.not_mem_nil
theorem to_Mo_blank : zTok m_Mo_blank := fun _ h => absurd h List.not_mem_nil
theorem to_Mo_result : zTok m_Mo_result := fun _ h => absurd h List.not_mem_nil
theorem to_Mo_round : zTok m_Mo_round := fun _ h => absurd h List.not_mem_nil
theorem to_Mo_top : zTok m_Mo_top := fun _ h => absurd h List.not_mem_nil
theorem to_Mo_bit : zTok m_Mo_bit := fun _ h => absurd h List.not_mem_nil
theorem to_Mo_goesUp : zTok m_Mo_goesUp := fun _ h => absurd h List.not_mem_nil
theorem to_Mo_shift : zTok m_Mo_shift := fun _ h => absurd h List.not_mem_nil
theorem to_Mo_setBit : zTok m_Mo_setBit := fun _ h => absurd h List.not_mem_nil
theorem to_Mo_add : zTok m_Mo_add := fun _ h => absurd h List.not_mem_nil
theorem to_Mo_lowest : zTok m_Mo_lowest := fun _ h => absurd h List.not_mem_nil
theorem to_Mo_tooLarge : zTok m_Mo_tooLarge := fun _ h => absurd h List.not_mem_nil
theorem to_Mo_finiteSum : zTok m_Mo_finiteSum := fun _ h => absurd h List.not_mem_nil
theorem to_Mo_compareRows : zTok m_Mo_compareRows := fun _ h => absurd h List.not_mem_nil
theorem to_Mo_product : zTok m_Mo_product := fun _ h => absurd h List.not_mem_nil
theorem to_Mo_times : zTok m_Mo_times := fun _ h => absurd h List.not_mem_nil
theorem to_Mo_quotient : zTok m_Mo_quotient := fun _ h => absurd h List.not_mem_nil
theorem to_Mo_finiteQuotient : zTok m_Mo_finiteQuotient := fun _ h => absurd h List.not_mem_nil
theorem to_Mo_change : zTok m_Mo_change := fun _ h => absurd h List.not_mem_nil
theorem to_Mo_move : zTok m_Mo_move := fun _ h => absurd h List.not_mem_nil
theorem to_Mo_compared : zTok m_Mo_compared := fun _ h => absurd h List.not_mem_nil
theorem to_Mo_rank : zTok m_Mo_rank := fun _ h => absurd h List.not_mem_nil
theorem to_Mo_exactly : zTok m_Mo_exactly := fun _ h => absurd h List.not_mem_nil
theorem to_Mo_extract : zTok m_Mo_extract := fun _ h => absurd h List.not_mem_nil
theorem to_Mo_alter : zTok m_Mo_alter := fun _ h => absurd h List.not_mem_nil
theorem to_Mo_root : zTok m_Mo_root := fun _ h => absurd h List.not_mem_nil
theorem to_Mo_integer : zTok m_Mo_integer := fun _ h => absurd h List.not_mem_nil
theorem to_Mo_whole : zTok m_Mo_whole := fun _ h => absurd h List.not_mem_nil
theorem to_Mo_scaled : zTok m_Mo_scaled := fun _ h => absurd h List.not_mem_nil
theorem to_Mo_load : zTok m_Mo_load := fun _ h => absurd h List.not_mem_nil
theorem to_Mo_readWhole : zTok m_Mo_readWhole := fun _ h => absurd h List.not_mem_nil
theorem to_Mo_readReal : zTok m_Mo_readReal := fun _ h => absurd h List.not_mem_nil
theorem to_Mo_readDecimal : zTok m_Mo_readDecimal := fun _ h => absurd h List.not_mem_nil
theorem to_Mo_store : zTok m_Mo_store := fun _ h => absurd h List.not_mem_nil
theorem to_Mo_writeReal : zTok m_Mo_writeReal := fun _ h => absurd h List.not_mem_nil
theorem to_Mo_writeWhole : zTok m_Mo_writeWhole := fun _ h => absurd h List.not_mem_nil
theorem to_Mo_write : zTok m_Mo_write := fun _ h => absurd h List.not_mem_nil
theorem to_Mo_memory : zTok m_Mo_memory := fun _ h => absurd h List.not_mem_nil
theorem to_Mo_pass : zTok m_Mo_pass := fun _ h => absurd h List.not_mem_nil
theorem to_Mo_await : zTok m_Mo_await := fun _ h => absurd h List.not_mem_nil
theorem to_Mo_time : zTok m_Mo_time := fun _ h => absurd h List.not_mem_nil
theorem to_Mo_flags : zTok m_Mo_flags := fun _ h => absurd h List.not_mem_nil
theorem to_Mo_clear : zTok m_Mo_clear := fun _ h => absurd h List.not_mem_nil
theorem to_Mo_condition : zTok m_Mo_condition := fun _ h => absurd h List.not_mem_nil
theorem to_Mo_depth : zTok m_Mo_depth := fun _ h => absurd h List.not_mem_nil
theorem to_Mo_kind : zTok m_Mo_kind := fun _ h => absurd h List.not_mem_nil
theorem to_Mo_exponent : zTok m_Mo_exponent := fun _ h => absurd h List.not_mem_nil
theorem to_Mo_significand : zTok m_Mo_significand := fun _ h => absurd h List.not_mem_nil
set_option maxRecDepth 20000 in
theorem zTok_all : ∀ y ∈ zAll, zTok y := List.forall_mem_cons.mpr ⟨to_SR_await, List.forall_mem_cons.mpr ⟨to_Me_waitUntilFree, List.forall_mem_cons.mpr ⟨to_Me_goOn, List.forall_mem_cons.mpr ⟨to_SR_time, List.forall_mem_cons.mpr ⟨to_SR_flags, List.forall_mem_cons.mpr ⟨to_SR_clear, List.forall_mem_cons.mpr ⟨to_SR_condition, List.forall_mem_cons.mpr ⟨to_SR_depth, List.forall_mem_cons.mpr ⟨to_La_control, List.forall_mem_cons.mpr ⟨to_SR_control, List.forall_mem_cons.mpr ⟨to_La_operate, List.forall_mem_cons.mpr ⟨to_SR_operate, List.forall_mem_cons.mpr ⟨to_SR_namesPlace, List.forall_mem_cons.mpr ⟨to_Me_occupy, List.forall_mem_cons.mpr ⟨to_SR_isPossible, List.forall_mem_cons.mpr ⟨to_SR_pushes, List.forall_mem_cons.mpr ⟨to_SR_st, List.forall_mem_cons.mpr ⟨to_SR_raise, List.forall_mem_cons.mpr ⟨to_SR_workOut, List.forall_mem_cons.mpr ⟨to_Ar_add, List.forall_mem_cons.mpr ⟨to_Re_becomeNan, List.forall_mem_cons.mpr ⟨to_Ar_addInfinite, List.forall_mem_cons.mpr ⟨to_Ar_makeInvalid, List.forall_mem_cons.mpr ⟨to_Re_copy, List.forall_mem_cons.mpr ⟨to_Re_becomeZero, List.forall_mem_cons.mpr ⟨to_Ex_copy, List.forall_mem_cons.mpr ⟨to_Ex_becomeSum, List.forall_mem_cons.mpr ⟨to_SR_compareMagnitudes, List.forall_mem_cons.mpr ⟨to_SR_isBelow, List.forall_mem_cons.mpr ⟨to_Ex_combine, List.forall_mem_cons.mpr ⟨to_Ex_lowerPart, List.forall_mem_cons.mpr ⟨to_Ex_putOn, List.forall_mem_cons.mpr ⟨to_Ex_takeAway, List.forall_mem_cons.mpr ⟨to_Ex_normalize, List.forall_mem_cons.mpr ⟨to_Ex_isZero, List.forall_mem_cons.mpr ⟨to_Ro_round, List.forall_mem_cons.mpr ⟨to_Ro_roundTo, List.forall_mem_cons.mpr ⟨to_Ro_goesAway, List.forall_mem_cons.mpr ⟨to_Ro_staysBelowInfinite, List.forall_mem_cons.mpr ⟨to_Re_becomeFinite, List.forall_mem_cons.mpr ⟨to_Re_becomeInfinite, List.forall_mem_cons.mpr ⟨to_Re_negate, List.forall_mem_cons.mpr ⟨to_Ar_multiply, List.forall_mem_cons.mpr ⟨to_Ex_becomeProduct, List.forall_mem_cons.mpr ⟨to_Ex_multiplyBits, List.forall_mem_cons.mpr ⟨to_Ar_divide, List.forall_mem_cons.mpr ⟨to_Ex_becomeQuotient, List.forall_mem_cons.mpr ⟨to_Ex_fitsInDouble, List.forall_mem_cons.mpr ⟨to_Ar_root, List.forall_mem_cons.mpr ⟨to_Ex_becomeRoot, List.forall_mem_cons.mpr ⟨to_Ex_isAbove, List.forall_mem_cons.mpr ⟨to_Ar_makeWhole, List.forall_mem_cons.mpr ⟨to_Re_isWhole, List.forall_mem_cons.mpr ⟨to_Ro_wholeMagnitude, List.forall_mem_cons.mpr ⟨to_Re_becomeWhole, List.forall_mem_cons.mpr ⟨to_Ar_scale, List.forall_mem_cons.mpr ⟨to_SR_carryOut, List.forall_mem_cons.mpr ⟨to_SR_extract, List.forall_mem_cons.mpr ⟨to_SR_push, List.forall_mem_cons.mpr ⟨to_SR_exchange, List.forall_mem_cons.mpr ⟨to_SR_conditionOf, List.forall_mem_cons.mpr ⟨to_SR_compareReals, List.forall_mem_cons.mpr ⟨to_La_load, List.forall_mem_cons.mpr ⟨to_SR_load, List.forall_mem_cons.mpr ⟨to_SR_isCell, List.forall_mem_cons.mpr ⟨to_SR_isForm, List.forall_mem_cons.mpr ⟨to_Fo_decode, List.forall_mem_cons.mpr ⟨to_Fo_decodeBinary, List.forall_mem_cons.mpr ⟨to_Fo_decodeDecimal, List.forall_mem_cons.mpr ⟨to_La_store, List.forall_mem_cons.mpr ⟨to_SR_store, List.forall_mem_cons.mpr ⟨to_Fo_encode, List.forall_mem_cons.mpr ⟨to_Fo_encodeWhole, List.forall_mem_cons.mpr ⟨to_Fo_encodeBinary, List.forall_mem_cons.mpr ⟨to_Fo_binaryImage, List.forall_mem_cons.mpr ⟨to_Fo_encodeDecimal, List.forall_mem_cons.mpr ⟨to_Me_storeWhenFree, List.forall_mem_cons.mpr ⟨to_La_write, List.forall_mem_cons.mpr ⟨to_SR_write, List.forall_mem_cons.mpr ⟨to_La_memory, List.forall_mem_cons.mpr ⟨to_SR_memory, List.forall_mem_cons.mpr ⟨to_La_pass, List.forall_mem_cons.mpr ⟨to_SR_pass, List.forall_mem_cons.mpr ⟨to_La_kind, List.forall_mem_cons.mpr ⟨to_SR_kind, List.forall_mem_cons.mpr ⟨to_SR_isOnStack, List.forall_mem_cons.mpr ⟨to_La_exponent, List.forall_mem_cons.mpr ⟨to_SR_exponent, List.forall_mem_cons.mpr ⟨to_La_significand, List.forall_mem_cons.mpr ⟨to_SR_significand, List.forall_mem_cons.mpr ⟨to_Mo_thrown, List.forall_mem_cons.mpr ⟨to_Mo_control, List.forall_mem_cons.mpr ⟨to_Mo_out, List.forall_mem_cons.mpr ⟨to_Mo_operate, List.forall_mem_cons.mpr ⟨to_Mo_cost, List.forall_mem_cons.mpr ⟨to_Mo_begin, List.forall_mem_cons.mpr ⟨to_Mo_goOn, List.forall_mem_cons.mpr ⟨to_Mo_refuse, List.forall_mem_cons.mpr ⟨to_Mo_throwing, List.forall_mem_cons.mpr ⟨to_Mo_copy, List.forall_mem_cons.mpr ⟨to_Mo_reckon, List.forall_mem_cons.mpr ⟨to_Mo_sum, List.forall_mem_cons.mpr ⟨to_Mo_either, List.forall_mem_cons.mpr ⟨to_Mo_special, List.forall_mem_cons.mpr ⟨to_Mo_invalid, List.forall_mem_cons.mpr ⟨to_Mo_put, List.forall_mem_cons.mpr ⟨to_Mo_blank, List.forall_mem_cons.mpr ⟨to_Mo_result, List.forall_mem_cons.mpr ⟨to_Mo_round, List.forall_mem_cons.mpr ⟨to_Mo_top, List.forall_mem_cons.mpr ⟨to_Mo_bit, List.forall_mem_cons.mpr ⟨to_Mo_goesUp, List.forall_mem_cons.mpr ⟨to_Mo_shift, List.forall_mem_cons.mpr ⟨to_Mo_setBit, List.forall_mem_cons.mpr ⟨to_Mo_add, List.forall_mem_cons.mpr ⟨to_Mo_lowest, List.forall_mem_cons.mpr ⟨to_Mo_tooLarge, List.forall_mem_cons.mpr ⟨to_Mo_finiteSum, List.forall_mem_cons.mpr ⟨to_Mo_compareRows, List.forall_mem_cons.mpr ⟨to_Mo_product, List.forall_mem_cons.mpr ⟨to_Mo_times, List.forall_mem_cons.mpr ⟨to_Mo_quotient, List.forall_mem_cons.mpr ⟨to_Mo_finiteQuotient, List.forall_mem_cons.mpr ⟨to_Mo_change, List.forall_mem_cons.mpr ⟨to_Mo_move, List.forall_mem_cons.mpr ⟨to_Mo_compared, List.forall_mem_cons.mpr ⟨to_Mo_rank, List.forall_mem_cons.mpr ⟨to_Mo_exactly, List.forall_mem_cons.mpr ⟨to_Mo_extract, List.forall_mem_cons.mpr ⟨to_Mo_alter, List.forall_mem_cons.mpr ⟨to_Mo_root, List.forall_mem_cons.mpr ⟨to_Mo_integer, List.forall_mem_cons.mpr ⟨to_Mo_whole, List.forall_mem_cons.mpr ⟨to_Mo_scaled, List.forall_mem_cons.mpr ⟨to_Mo_load, List.forall_mem_cons.mpr ⟨to_Mo_readWhole, List.forall_mem_cons.mpr ⟨to_Mo_readReal, List.forall_mem_cons.mpr ⟨to_Mo_readDecimal, List.forall_mem_cons.mpr ⟨to_Mo_store, List.forall_mem_cons.mpr ⟨to_Mo_writeReal, List.forall_mem_cons.mpr ⟨to_Mo_writeWhole, List.forall_mem_cons.mpr ⟨to_Mo_write, List.forall_mem_cons.mpr ⟨to_Mo_memory, List.forall_mem_cons.mpr ⟨to_Mo_pass, List.forall_mem_cons.mpr ⟨to_Mo_await, List.forall_mem_cons.mpr ⟨to_Mo_time, List.forall_mem_cons.mpr ⟨to_Mo_flags, List.forall_mem_cons.mpr ⟨to_Mo_clear, List.forall_mem_cons.mpr ⟨to_Mo_condition, List.forall_mem_cons.mpr ⟨to_Mo_depth, List.forall_mem_cons.mpr ⟨to_Mo_kind, List.forall_mem_cons.mpr ⟨to_Mo_exponent, List.forall_mem_cons.mpr ⟨to_Mo_significand, fun _ h => absurd h List.not_mem_nil⟩⟩⟩⟩⟩⟩⟩⟩⟩⟩⟩⟩⟩⟩⟩⟩⟩⟩⟩⟩⟩⟩⟩⟩⟩⟩⟩⟩⟩⟩⟩⟩⟩⟩⟩⟩⟩⟩⟩⟩⟩⟩⟩⟩⟩⟩⟩⟩⟩⟩⟩⟩⟩⟩⟩⟩⟩⟩⟩⟩⟩⟩⟩⟩⟩⟩⟩⟩⟩⟩⟩⟩⟩⟩⟩⟩⟩⟩⟩⟩⟩⟩⟩⟩⟩⟩⟩⟩⟩⟩⟩⟩⟩⟩⟩⟩⟩⟩⟩⟩⟩⟩⟩⟩⟩⟩⟩⟩⟩⟩⟩⟩⟩⟩⟩⟩⟩⟩⟩⟩⟩⟩⟩⟩⟩⟩⟩⟩⟩⟩⟩⟩⟩⟩⟩⟩⟩⟩⟩⟩⟩⟩⟩⟩⟩⟩⟩⟩⟩⟩⟩⟩⟩
theorem zThr_ok {mi : ZM} {pc x : Nat} (hm : mi ∈ zAll) (h : zThr mi pc = some x) : zThO mi pc x := zTok_all mi hm (pc, x) (look_mem h)
theorem zT_in {mi : ZM} {pc x : Nat} (hm : mi = m_law ∨ mi ∈ zAll) (h : zThr mi pc = some x) : mi ∈ zAll := by
  rcases hm with rfl | hm
  · cases h
  · exact hm
theorem zH_in {mi : ZM} {pc x hp : Nat} (hm : mi = m_law ∨ mi ∈ zAll) (h : zHan mi pc x = some hp) : mi ∈ zAll := by
  rcases hm with rfl | hm
  · cases h
  · exact hm
/-! handlers -/
def zHo (mi : ZM) (q : Nat × Nat × Nat × Nat) : Prop := q.2.2.2 ≠ 0 ∧ (zCat q.2.2.2 = 1 ∨ zCat q.2.2.2 = 2) ∧ Jvm.Cond.classLink (zCn (zCno mi)) q.2.2.2 (zXn (zCat q.2.2.2)) ∈ zWs
theorem ha_SR_await : ∀ q ∈ zHs m_SR_await, zHo m_SR_await q := fun _ h => absurd h List.not_mem_nil
theorem ha_Me_waitUntilFree : ∀ q ∈ zHs m_Me_waitUntilFree, zHo m_Me_waitUntilFree q := fun _ h => absurd h List.not_mem_nil
theorem ha_Me_goOn : ∀ q ∈ zHs m_Me_goOn, zHo m_Me_goOn q := fun _ h => absurd h List.not_mem_nil
theorem ha_SR_time : ∀ q ∈ zHs m_SR_time, zHo m_SR_time q := fun _ h => absurd h List.not_mem_nil
theorem ha_SR_flags : ∀ q ∈ zHs m_SR_flags, zHo m_SR_flags q := fun _ h => absurd h List.not_mem_nil
theorem ha_SR_clear : ∀ q ∈ zHs m_SR_clear, zHo m_SR_clear q := fun _ h => absurd h List.not_mem_nil
theorem ha_SR_condition : ∀ q ∈ zHs m_SR_condition, zHo m_SR_condition q := fun _ h => absurd h List.not_mem_nil
theorem ha_SR_depth : ∀ q ∈ zHs m_SR_depth, zHo m_SR_depth q := fun _ h => absurd h List.not_mem_nil
theorem ho_La_control_13 : zHo m_La_control (0, 7, 10, 13) := ⟨by decide, by decide, zW_in 300 (by decide +kernel)⟩
theorem ha_La_control : ∀ q ∈ zHs m_La_control, zHo m_La_control q := List.forall_mem_cons.mpr ⟨ho_La_control_13, fun _ h => absurd h List.not_mem_nil⟩
theorem ha_SR_control : ∀ q ∈ zHs m_SR_control, zHo m_SR_control q := fun _ h => absurd h List.not_mem_nil
theorem ho_La_operate_13 : zHo m_La_operate (0, 10, 13, 13) := ⟨by decide, by decide, zW_in 300 (by decide +kernel)⟩
theorem ho_La_operate_19 : zHo m_La_operate (0, 10, 17, 19) := ⟨by decide, by decide, zW_in 377 (by decide +kernel)⟩
theorem ha_La_operate : ∀ q ∈ zHs m_La_operate, zHo m_La_operate q := List.forall_mem_cons.mpr ⟨ho_La_operate_13, List.forall_mem_cons.mpr ⟨ho_La_operate_19, fun _ h => absurd h List.not_mem_nil⟩⟩
theorem ha_SR_operate : ∀ q ∈ zHs m_SR_operate, zHo m_SR_operate q := fun _ h => absurd h List.not_mem_nil
theorem ha_SR_namesPlace : ∀ q ∈ zHs m_SR_namesPlace, zHo m_SR_namesPlace q := fun _ h => absurd h List.not_mem_nil
theorem ha_Me_occupy : ∀ q ∈ zHs m_Me_occupy, zHo m_Me_occupy q := fun _ h => absurd h List.not_mem_nil
theorem ha_SR_isPossible : ∀ q ∈ zHs m_SR_isPossible, zHo m_SR_isPossible q := fun _ h => absurd h List.not_mem_nil
theorem ha_SR_pushes : ∀ q ∈ zHs m_SR_pushes, zHo m_SR_pushes q := fun _ h => absurd h List.not_mem_nil
theorem ha_SR_st : ∀ q ∈ zHs m_SR_st, zHo m_SR_st q := fun _ h => absurd h List.not_mem_nil
theorem ha_SR_raise : ∀ q ∈ zHs m_SR_raise, zHo m_SR_raise q := fun _ h => absurd h List.not_mem_nil
theorem ha_SR_workOut : ∀ q ∈ zHs m_SR_workOut, zHo m_SR_workOut q := fun _ h => absurd h List.not_mem_nil
theorem ha_Ar_add : ∀ q ∈ zHs m_Ar_add, zHo m_Ar_add q := fun _ h => absurd h List.not_mem_nil
theorem ha_Re_becomeNan : ∀ q ∈ zHs m_Re_becomeNan, zHo m_Re_becomeNan q := fun _ h => absurd h List.not_mem_nil
theorem ha_Ar_addInfinite : ∀ q ∈ zHs m_Ar_addInfinite, zHo m_Ar_addInfinite q := fun _ h => absurd h List.not_mem_nil
theorem ha_Ar_makeInvalid : ∀ q ∈ zHs m_Ar_makeInvalid, zHo m_Ar_makeInvalid q := fun _ h => absurd h List.not_mem_nil
theorem ha_Re_copy : ∀ q ∈ zHs m_Re_copy, zHo m_Re_copy q := fun _ h => absurd h List.not_mem_nil
theorem ha_Re_becomeZero : ∀ q ∈ zHs m_Re_becomeZero, zHo m_Re_becomeZero q := fun _ h => absurd h List.not_mem_nil
theorem ha_Ex_copy : ∀ q ∈ zHs m_Ex_copy, zHo m_Ex_copy q := fun _ h => absurd h List.not_mem_nil
theorem ha_Ex_becomeSum : ∀ q ∈ zHs m_Ex_becomeSum, zHo m_Ex_becomeSum q := fun _ h => absurd h List.not_mem_nil
theorem ha_SR_compareMagnitudes : ∀ q ∈ zHs m_SR_compareMagnitudes, zHo m_SR_compareMagnitudes q := fun _ h => absurd h List.not_mem_nil
theorem ha_SR_isBelow : ∀ q ∈ zHs m_SR_isBelow, zHo m_SR_isBelow q := fun _ h => absurd h List.not_mem_nil
theorem ha_Ex_combine : ∀ q ∈ zHs m_Ex_combine, zHo m_Ex_combine q := fun _ h => absurd h List.not_mem_nil
theorem ha_Ex_lowerPart : ∀ q ∈ zHs m_Ex_lowerPart, zHo m_Ex_lowerPart q := fun _ h => absurd h List.not_mem_nil
theorem ha_Ex_putOn : ∀ q ∈ zHs m_Ex_putOn, zHo m_Ex_putOn q := fun _ h => absurd h List.not_mem_nil
theorem ha_Ex_takeAway : ∀ q ∈ zHs m_Ex_takeAway, zHo m_Ex_takeAway q := fun _ h => absurd h List.not_mem_nil
theorem ha_Ex_normalize : ∀ q ∈ zHs m_Ex_normalize, zHo m_Ex_normalize q := fun _ h => absurd h List.not_mem_nil
theorem ha_Ex_isZero : ∀ q ∈ zHs m_Ex_isZero, zHo m_Ex_isZero q := fun _ h => absurd h List.not_mem_nil
theorem ha_Ro_round : ∀ q ∈ zHs m_Ro_round, zHo m_Ro_round q := fun _ h => absurd h List.not_mem_nil
theorem ha_Ro_roundTo : ∀ q ∈ zHs m_Ro_roundTo, zHo m_Ro_roundTo q := fun _ h => absurd h List.not_mem_nil
theorem ha_Ro_goesAway : ∀ q ∈ zHs m_Ro_goesAway, zHo m_Ro_goesAway q := fun _ h => absurd h List.not_mem_nil
theorem ha_Ro_staysBelowInfinite : ∀ q ∈ zHs m_Ro_staysBelowInfinite, zHo m_Ro_staysBelowInfinite q := fun _ h => absurd h List.not_mem_nil
theorem ha_Re_becomeFinite : ∀ q ∈ zHs m_Re_becomeFinite, zHo m_Re_becomeFinite q := fun _ h => absurd h List.not_mem_nil
theorem ha_Re_becomeInfinite : ∀ q ∈ zHs m_Re_becomeInfinite, zHo m_Re_becomeInfinite q := fun _ h => absurd h List.not_mem_nil
theorem ha_Re_negate : ∀ q ∈ zHs m_Re_negate, zHo m_Re_negate q := fun _ h => absurd h List.not_mem_nil
theorem ha_Ar_multiply : ∀ q ∈ zHs m_Ar_multiply, zHo m_Ar_multiply q := fun _ h => absurd h List.not_mem_nil
theorem ha_Ex_becomeProduct : ∀ q ∈ zHs m_Ex_becomeProduct, zHo m_Ex_becomeProduct q := fun _ h => absurd h List.not_mem_nil
theorem ha_Ex_multiplyBits : ∀ q ∈ zHs m_Ex_multiplyBits, zHo m_Ex_multiplyBits q := fun _ h => absurd h List.not_mem_nil
theorem ha_Ar_divide : ∀ q ∈ zHs m_Ar_divide, zHo m_Ar_divide q := fun _ h => absurd h List.not_mem_nil
theorem ha_Ex_becomeQuotient : ∀ q ∈ zHs m_Ex_becomeQuotient, zHo m_Ex_becomeQuotient q := fun _ h => absurd h List.not_mem_nil
theorem ha_Ex_fitsInDouble : ∀ q ∈ zHs m_Ex_fitsInDouble, zHo m_Ex_fitsInDouble q := fun _ h => absurd h List.not_mem_nil
theorem ha_Ar_root : ∀ q ∈ zHs m_Ar_root, zHo m_Ar_root q := fun _ h => absurd h List.not_mem_nil
theorem ha_Ex_becomeRoot : ∀ q ∈ zHs m_Ex_becomeRoot, zHo m_Ex_becomeRoot q := fun _ h => absurd h List.not_mem_nil
theorem ha_Ex_isAbove : ∀ q ∈ zHs m_Ex_isAbove, zHo m_Ex_isAbove q := fun _ h => absurd h List.not_mem_nil
theorem ha_Ar_makeWhole : ∀ q ∈ zHs m_Ar_makeWhole, zHo m_Ar_makeWhole q := fun _ h => absurd h List.not_mem_nil
theorem ha_Re_isWhole : ∀ q ∈ zHs m_Re_isWhole, zHo m_Re_isWhole q := fun _ h => absurd h List.not_mem_nil
theorem ha_Ro_wholeMagnitude : ∀ q ∈ zHs m_Ro_wholeMagnitude, zHo m_Ro_wholeMagnitude q := fun _ h => absurd h List.not_mem_nil
theorem ha_Re_becomeWhole : ∀ q ∈ zHs m_Re_becomeWhole, zHo m_Re_becomeWhole q := fun _ h => absurd h List.not_mem_nil
theorem ha_Ar_scale : ∀ q ∈ zHs m_Ar_scale, zHo m_Ar_scale q := fun _ h => absurd h List.not_mem_nil
theorem ha_SR_carryOut : ∀ q ∈ zHs m_SR_carryOut, zHo m_SR_carryOut q := fun _ h => absurd h List.not_mem_nil
theorem ha_SR_extract : ∀ q ∈ zHs m_SR_extract, zHo m_SR_extract q := fun _ h => absurd h List.not_mem_nil
theorem ha_SR_push : ∀ q ∈ zHs m_SR_push, zHo m_SR_push q := fun _ h => absurd h List.not_mem_nil
theorem ha_SR_exchange : ∀ q ∈ zHs m_SR_exchange, zHo m_SR_exchange q := fun _ h => absurd h List.not_mem_nil
theorem ha_SR_conditionOf : ∀ q ∈ zHs m_SR_conditionOf, zHo m_SR_conditionOf q := fun _ h => absurd h List.not_mem_nil
theorem ha_SR_compareReals : ∀ q ∈ zHs m_SR_compareReals, zHo m_SR_compareReals q := fun _ h => absurd h List.not_mem_nil
theorem ho_La_load_13 : zHo m_La_load (0, 10, 13, 13) := ⟨by decide, by decide, zW_in 300 (by decide +kernel)⟩
theorem ho_La_load_19 : zHo m_La_load (0, 10, 17, 19) := ⟨by decide, by decide, zW_in 377 (by decide +kernel)⟩
theorem ha_La_load : ∀ q ∈ zHs m_La_load, zHo m_La_load q := List.forall_mem_cons.mpr ⟨ho_La_load_13, List.forall_mem_cons.mpr ⟨ho_La_load_19, fun _ h => absurd h List.not_mem_nil⟩⟩
theorem ha_SR_load : ∀ q ∈ zHs m_SR_load, zHo m_SR_load q := fun _ h => absurd h List.not_mem_nil
theorem ha_SR_isCell : ∀ q ∈ zHs m_SR_isCell, zHo m_SR_isCell q := fun _ h => absurd h List.not_mem_nil
theorem ha_SR_isForm : ∀ q ∈ zHs m_SR_isForm, zHo m_SR_isForm q := fun _ h => absurd h List.not_mem_nil
theorem ha_Fo_decode : ∀ q ∈ zHs m_Fo_decode, zHo m_Fo_decode q := fun _ h => absurd h List.not_mem_nil
theorem ha_Fo_decodeBinary : ∀ q ∈ zHs m_Fo_decodeBinary, zHo m_Fo_decodeBinary q := fun _ h => absurd h List.not_mem_nil
theorem ha_Fo_decodeDecimal : ∀ q ∈ zHs m_Fo_decodeDecimal, zHo m_Fo_decodeDecimal q := fun _ h => absurd h List.not_mem_nil
theorem ho_La_store_13 : zHo m_La_store (0, 10, 13, 13) := ⟨by decide, by decide, zW_in 300 (by decide +kernel)⟩
theorem ho_La_store_19 : zHo m_La_store (0, 10, 17, 19) := ⟨by decide, by decide, zW_in 377 (by decide +kernel)⟩
theorem ha_La_store : ∀ q ∈ zHs m_La_store, zHo m_La_store q := List.forall_mem_cons.mpr ⟨ho_La_store_13, List.forall_mem_cons.mpr ⟨ho_La_store_19, fun _ h => absurd h List.not_mem_nil⟩⟩
theorem ha_SR_store : ∀ q ∈ zHs m_SR_store, zHo m_SR_store q := fun _ h => absurd h List.not_mem_nil
theorem ha_Fo_encode : ∀ q ∈ zHs m_Fo_encode, zHo m_Fo_encode q := fun _ h => absurd h List.not_mem_nil
theorem ha_Fo_encodeWhole : ∀ q ∈ zHs m_Fo_encodeWhole, zHo m_Fo_encodeWhole q := fun _ h => absurd h List.not_mem_nil
theorem ha_Fo_encodeBinary : ∀ q ∈ zHs m_Fo_encodeBinary, zHo m_Fo_encodeBinary q := fun _ h => absurd h List.not_mem_nil
theorem ha_Fo_binaryImage : ∀ q ∈ zHs m_Fo_binaryImage, zHo m_Fo_binaryImage q := fun _ h => absurd h List.not_mem_nil
theorem ha_Fo_encodeDecimal : ∀ q ∈ zHs m_Fo_encodeDecimal, zHo m_Fo_encodeDecimal q := fun _ h => absurd h List.not_mem_nil
theorem ha_Me_storeWhenFree : ∀ q ∈ zHs m_Me_storeWhenFree, zHo m_Me_storeWhenFree q := fun _ h => absurd h List.not_mem_nil
theorem ho_La_write_13 : zHo m_La_write (0, 6, 9, 13) := ⟨by decide, by decide, zW_in 300 (by decide +kernel)⟩
theorem ha_La_write : ∀ q ∈ zHs m_La_write, zHo m_La_write q := List.forall_mem_cons.mpr ⟨ho_La_write_13, fun _ h => absurd h List.not_mem_nil⟩
theorem ha_SR_write : ∀ q ∈ zHs m_SR_write, zHo m_SR_write q := fun _ h => absurd h List.not_mem_nil
theorem ho_La_memory_13 : zHo m_La_memory (0, 8, 11, 13) := ⟨by decide, by decide, zW_in 300 (by decide +kernel)⟩
theorem ha_La_memory : ∀ q ∈ zHs m_La_memory, zHo m_La_memory q := List.forall_mem_cons.mpr ⟨ho_La_memory_13, fun _ h => absurd h List.not_mem_nil⟩
theorem ha_SR_memory : ∀ q ∈ zHs m_SR_memory, zHo m_SR_memory q := fun _ h => absurd h List.not_mem_nil
theorem ho_La_pass_13 : zHo m_La_pass (0, 5, 8, 13) := ⟨by decide, by decide, zW_in 300 (by decide +kernel)⟩
theorem ha_La_pass : ∀ q ∈ zHs m_La_pass, zHo m_La_pass q := List.forall_mem_cons.mpr ⟨ho_La_pass_13, fun _ h => absurd h List.not_mem_nil⟩
theorem ha_SR_pass : ∀ q ∈ zHs m_SR_pass, zHo m_SR_pass q := fun _ h => absurd h List.not_mem_nil
theorem ho_La_kind_13 : zHo m_La_kind (0, 9, 12, 13) := ⟨by decide, by decide, zW_in 300 (by decide +kernel)⟩
theorem ha_La_kind : ∀ q ∈ zHs m_La_kind, zHo m_La_kind q := List.forall_mem_cons.mpr ⟨ho_La_kind_13, fun _ h => absurd h List.not_mem_nil⟩
theorem ha_SR_kind : ∀ q ∈ zHs m_SR_kind, zHo m_SR_kind q := fun _ h => absurd h List.not_mem_nil
theorem ha_SR_isOnStack : ∀ q ∈ zHs m_SR_isOnStack, zHo m_SR_isOnStack q := fun _ h => absurd h List.not_mem_nil
theorem ho_La_exponent_13 : zHo m_La_exponent (0, 9, 12, 13) := ⟨by decide, by decide, zW_in 300 (by decide +kernel)⟩
theorem ha_La_exponent : ∀ q ∈ zHs m_La_exponent, zHo m_La_exponent q := List.forall_mem_cons.mpr ⟨ho_La_exponent_13, fun _ h => absurd h List.not_mem_nil⟩
theorem ha_SR_exponent : ∀ q ∈ zHs m_SR_exponent, zHo m_SR_exponent q := fun _ h => absurd h List.not_mem_nil
theorem ho_La_significand_13 : zHo m_La_significand (0, 8, 11, 13) := ⟨by decide, by decide, zW_in 300 (by decide +kernel)⟩
theorem ha_La_significand : ∀ q ∈ zHs m_La_significand, zHo m_La_significand q := List.forall_mem_cons.mpr ⟨ho_La_significand_13, fun _ h => absurd h List.not_mem_nil⟩
theorem ha_SR_significand : ∀ q ∈ zHs m_SR_significand, zHo m_SR_significand q := fun _ h => absurd h List.not_mem_nil
theorem ha_Mo_thrown : ∀ q ∈ zHs m_Mo_thrown, zHo m_Mo_thrown q := fun _ h => absurd h List.not_mem_nil
theorem ha_Mo_control : ∀ q ∈ zHs m_Mo_control, zHo m_Mo_control q := fun _ h => absurd h List.not_mem_nil
theorem ha_Mo_out : ∀ q ∈ zHs m_Mo_out, zHo m_Mo_out q := fun _ h => absurd h List.not_mem_nil
theorem ha_Mo_operate : ∀ q ∈ zHs m_Mo_operate, zHo m_Mo_operate q := fun _ h => absurd h List.not_mem_nil
theorem ha_Mo_cost : ∀ q ∈ zHs m_Mo_cost, zHo m_Mo_cost q := fun _ h => absurd h List.not_mem_nil
theorem ha_Mo_begin : ∀ q ∈ zHs m_Mo_begin, zHo m_Mo_begin q := fun _ h => absurd h List.not_mem_nil
theorem ha_Mo_goOn : ∀ q ∈ zHs m_Mo_goOn, zHo m_Mo_goOn q := fun _ h => absurd h List.not_mem_nil
theorem ha_Mo_refuse : ∀ q ∈ zHs m_Mo_refuse, zHo m_Mo_refuse q := fun _ h => absurd h List.not_mem_nil
theorem ha_Mo_throwing : ∀ q ∈ zHs m_Mo_throwing, zHo m_Mo_throwing q := fun _ h => absurd h List.not_mem_nil
theorem ha_Mo_copy : ∀ q ∈ zHs m_Mo_copy, zHo m_Mo_copy q := fun _ h => absurd h List.not_mem_nil
theorem ha_Mo_reckon : ∀ q ∈ zHs m_Mo_reckon, zHo m_Mo_reckon q := fun _ h => absurd h List.not_mem_nil
theorem ha_Mo_sum : ∀ q ∈ zHs m_Mo_sum, zHo m_Mo_sum q := fun _ h => absurd h List.not_mem_nil
theorem ha_Mo_either : ∀ q ∈ zHs m_Mo_either, zHo m_Mo_either q := fun _ h => absurd h List.not_mem_nil
theorem ha_Mo_special : ∀ q ∈ zHs m_Mo_special, zHo m_Mo_special q := fun _ h => absurd h List.not_mem_nil
theorem ha_Mo_invalid : ∀ q ∈ zHs m_Mo_invalid, zHo m_Mo_invalid q := fun _ h => absurd h List.not_mem_nil
theorem ha_Mo_put : ∀ q ∈ zHs m_Mo_put, zHo m_Mo_put q := fun _ h => absurd h List.not_mem_nil
theorem ha_Mo_blank : ∀ q ∈ zHs m_Mo_blank, zHo m_Mo_blank q := fun _ h => absurd h List.not_mem_nil
theorem ha_Mo_result : ∀ q ∈ zHs m_Mo_result, zHo m_Mo_result q := fun _ h => absurd h List.not_mem_nil
theorem ha_Mo_round : ∀ q ∈ zHs m_Mo_round, zHo m_Mo_round q := fun _ h => absurd h List.not_mem_nil
theorem ha_Mo_top : ∀ q ∈ zHs m_Mo_top, zHo m_Mo_top q := fun _ h => absurd h List.not_mem_nil
theorem ha_Mo_bit : ∀ q ∈ zHs m_Mo_bit, zHo m_Mo_bit q := fun _ h => absurd h List.not_mem_nil
theorem ha_Mo_goesUp : ∀ q ∈ zHs m_Mo_goesUp, zHo m_Mo_goesUp q := fun _ h => absurd h List.not_mem_nil
theorem ha_Mo_shift : ∀ q ∈ zHs m_Mo_shift, zHo m_Mo_shift q := fun _ h => absurd h List.not_mem_nil
theorem ha_Mo_setBit : ∀ q ∈ zHs m_Mo_setBit, zHo m_Mo_setBit q := fun _ h => absurd h List.not_mem_nil
theorem ha_Mo_add : ∀ q ∈ zHs m_Mo_add, zHo m_Mo_add q := fun _ h => absurd h List.not_mem_nil
theorem ha_Mo_lowest : ∀ q ∈ zHs m_Mo_lowest, zHo m_Mo_lowest q := fun _ h => absurd h List.not_mem_nil
theorem ha_Mo_tooLarge : ∀ q ∈ zHs m_Mo_tooLarge, zHo m_Mo_tooLarge q := fun _ h => absurd h List.not_mem_nil
theorem ha_Mo_finiteSum : ∀ q ∈ zHs m_Mo_finiteSum, zHo m_Mo_finiteSum q := fun _ h => absurd h List.not_mem_nil
theorem ha_Mo_compareRows : ∀ q ∈ zHs m_Mo_compareRows, zHo m_Mo_compareRows q := fun _ h => absurd h List.not_mem_nil
theorem ha_Mo_product : ∀ q ∈ zHs m_Mo_product, zHo m_Mo_product q := fun _ h => absurd h List.not_mem_nil
theorem ha_Mo_times : ∀ q ∈ zHs m_Mo_times, zHo m_Mo_times q := fun _ h => absurd h List.not_mem_nil
theorem ha_Mo_quotient : ∀ q ∈ zHs m_Mo_quotient, zHo m_Mo_quotient q := fun _ h => absurd h List.not_mem_nil
theorem ha_Mo_finiteQuotient : ∀ q ∈ zHs m_Mo_finiteQuotient, zHo m_Mo_finiteQuotient q := fun _ h => absurd h List.not_mem_nil
theorem ha_Mo_change : ∀ q ∈ zHs m_Mo_change, zHo m_Mo_change q := fun _ h => absurd h List.not_mem_nil
theorem ha_Mo_move : ∀ q ∈ zHs m_Mo_move, zHo m_Mo_move q := fun _ h => absurd h List.not_mem_nil
theorem ha_Mo_compared : ∀ q ∈ zHs m_Mo_compared, zHo m_Mo_compared q := fun _ h => absurd h List.not_mem_nil
theorem ha_Mo_rank : ∀ q ∈ zHs m_Mo_rank, zHo m_Mo_rank q := fun _ h => absurd h List.not_mem_nil
theorem ha_Mo_exactly : ∀ q ∈ zHs m_Mo_exactly, zHo m_Mo_exactly q := fun _ h => absurd h List.not_mem_nil
theorem ha_Mo_extract : ∀ q ∈ zHs m_Mo_extract, zHo m_Mo_extract q := fun _ h => absurd h List.not_mem_nil
theorem ha_Mo_alter : ∀ q ∈ zHs m_Mo_alter, zHo m_Mo_alter q := fun _ h => absurd h List.not_mem_nil
theorem ha_Mo_root : ∀ q ∈ zHs m_Mo_root, zHo m_Mo_root q := fun _ h => absurd h List.not_mem_nil
theorem ha_Mo_integer : ∀ q ∈ zHs m_Mo_integer, zHo m_Mo_integer q := fun _ h => absurd h List.not_mem_nil
theorem ha_Mo_whole : ∀ q ∈ zHs m_Mo_whole, zHo m_Mo_whole q := fun _ h => absurd h List.not_mem_nil
theorem ha_Mo_scaled : ∀ q ∈ zHs m_Mo_scaled, zHo m_Mo_scaled q := fun _ h => absurd h List.not_mem_nil
theorem ha_Mo_load : ∀ q ∈ zHs m_Mo_load, zHo m_Mo_load q := fun _ h => absurd h List.not_mem_nil
theorem ha_Mo_readWhole : ∀ q ∈ zHs m_Mo_readWhole, zHo m_Mo_readWhole q := fun _ h => absurd h List.not_mem_nil
theorem ha_Mo_readReal : ∀ q ∈ zHs m_Mo_readReal, zHo m_Mo_readReal q := fun _ h => absurd h List.not_mem_nil
theorem ha_Mo_readDecimal : ∀ q ∈ zHs m_Mo_readDecimal, zHo m_Mo_readDecimal q := fun _ h => absurd h List.not_mem_nil
theorem ha_Mo_store : ∀ q ∈ zHs m_Mo_store, zHo m_Mo_store q := fun _ h => absurd h List.not_mem_nil
theorem ha_Mo_writeReal : ∀ q ∈ zHs m_Mo_writeReal, zHo m_Mo_writeReal q := fun _ h => absurd h List.not_mem_nil
theorem ha_Mo_writeWhole : ∀ q ∈ zHs m_Mo_writeWhole, zHo m_Mo_writeWhole q := fun _ h => absurd h List.not_mem_nil
theorem ha_Mo_write : ∀ q ∈ zHs m_Mo_write, zHo m_Mo_write q := fun _ h => absurd h List.not_mem_nil
theorem ha_Mo_memory : ∀ q ∈ zHs m_Mo_memory, zHo m_Mo_memory q := fun _ h => absurd h List.not_mem_nil
theorem ha_Mo_pass : ∀ q ∈ zHs m_Mo_pass, zHo m_Mo_pass q := fun _ h => absurd h List.not_mem_nil
theorem ha_Mo_await : ∀ q ∈ zHs m_Mo_await, zHo m_Mo_await q := fun _ h => absurd h List.not_mem_nil
theorem ha_Mo_time : ∀ q ∈ zHs m_Mo_time, zHo m_Mo_time q := fun _ h => absurd h List.not_mem_nil
theorem ha_Mo_flags : ∀ q ∈ zHs m_Mo_flags, zHo m_Mo_flags q := fun _ h => absurd h List.not_mem_nil
theorem ha_Mo_clear : ∀ q ∈ zHs m_Mo_clear, zHo m_Mo_clear q := fun _ h => absurd h List.not_mem_nil
theorem ha_Mo_condition : ∀ q ∈ zHs m_Mo_condition, zHo m_Mo_condition q := fun _ h => absurd h List.not_mem_nil
theorem ha_Mo_depth : ∀ q ∈ zHs m_Mo_depth, zHo m_Mo_depth q := fun _ h => absurd h List.not_mem_nil
theorem ha_Mo_kind : ∀ q ∈ zHs m_Mo_kind, zHo m_Mo_kind q := fun _ h => absurd h List.not_mem_nil
theorem ha_Mo_exponent : ∀ q ∈ zHs m_Mo_exponent, zHo m_Mo_exponent q := fun _ h => absurd h List.not_mem_nil
theorem ha_Mo_significand : ∀ q ∈ zHs m_Mo_significand, zHo m_Mo_significand q := fun _ h => absurd h List.not_mem_nil
set_option maxRecDepth 20000 in
theorem zHo_all : ∀ y ∈ zAll, ∀ q ∈ zHs y, zHo y q := List.forall_mem_cons.mpr ⟨ha_SR_await, List.forall_mem_cons.mpr ⟨ha_Me_waitUntilFree, List.forall_mem_cons.mpr ⟨ha_Me_goOn, List.forall_mem_cons.mpr ⟨ha_SR_time, List.forall_mem_cons.mpr ⟨ha_SR_flags, List.forall_mem_cons.mpr ⟨ha_SR_clear, List.forall_mem_cons.mpr ⟨ha_SR_condition, List.forall_mem_cons.mpr ⟨ha_SR_depth, List.forall_mem_cons.mpr ⟨ha_La_control, List.forall_mem_cons.mpr ⟨ha_SR_control, List.forall_mem_cons.mpr ⟨ha_La_operate, List.forall_mem_cons.mpr ⟨ha_SR_operate, List.forall_mem_cons.mpr ⟨ha_SR_namesPlace, List.forall_mem_cons.mpr ⟨ha_Me_occupy, List.forall_mem_cons.mpr ⟨ha_SR_isPossible, List.forall_mem_cons.mpr ⟨ha_SR_pushes, List.forall_mem_cons.mpr ⟨ha_SR_st, List.forall_mem_cons.mpr ⟨ha_SR_raise, List.forall_mem_cons.mpr ⟨ha_SR_workOut, List.forall_mem_cons.mpr ⟨ha_Ar_add, List.forall_mem_cons.mpr ⟨ha_Re_becomeNan, List.forall_mem_cons.mpr ⟨ha_Ar_addInfinite, List.forall_mem_cons.mpr ⟨ha_Ar_makeInvalid, List.forall_mem_cons.mpr ⟨ha_Re_copy, List.forall_mem_cons.mpr ⟨ha_Re_becomeZero, List.forall_mem_cons.mpr ⟨ha_Ex_copy, List.forall_mem_cons.mpr ⟨ha_Ex_becomeSum, List.forall_mem_cons.mpr ⟨ha_SR_compareMagnitudes, List.forall_mem_cons.mpr ⟨ha_SR_isBelow, List.forall_mem_cons.mpr ⟨ha_Ex_combine, List.forall_mem_cons.mpr ⟨ha_Ex_lowerPart, List.forall_mem_cons.mpr ⟨ha_Ex_putOn, List.forall_mem_cons.mpr ⟨ha_Ex_takeAway, List.forall_mem_cons.mpr ⟨ha_Ex_normalize, List.forall_mem_cons.mpr ⟨ha_Ex_isZero, List.forall_mem_cons.mpr ⟨ha_Ro_round, List.forall_mem_cons.mpr ⟨ha_Ro_roundTo, List.forall_mem_cons.mpr ⟨ha_Ro_goesAway, List.forall_mem_cons.mpr ⟨ha_Ro_staysBelowInfinite, List.forall_mem_cons.mpr ⟨ha_Re_becomeFinite, List.forall_mem_cons.mpr ⟨ha_Re_becomeInfinite, List.forall_mem_cons.mpr ⟨ha_Re_negate, List.forall_mem_cons.mpr ⟨ha_Ar_multiply, List.forall_mem_cons.mpr ⟨ha_Ex_becomeProduct, List.forall_mem_cons.mpr ⟨ha_Ex_multiplyBits, List.forall_mem_cons.mpr ⟨ha_Ar_divide, List.forall_mem_cons.mpr ⟨ha_Ex_becomeQuotient, List.forall_mem_cons.mpr ⟨ha_Ex_fitsInDouble, List.forall_mem_cons.mpr ⟨ha_Ar_root, List.forall_mem_cons.mpr ⟨ha_Ex_becomeRoot, List.forall_mem_cons.mpr ⟨ha_Ex_isAbove, List.forall_mem_cons.mpr ⟨ha_Ar_makeWhole, List.forall_mem_cons.mpr ⟨ha_Re_isWhole, List.forall_mem_cons.mpr ⟨ha_Ro_wholeMagnitude, List.forall_mem_cons.mpr ⟨ha_Re_becomeWhole, List.forall_mem_cons.mpr ⟨ha_Ar_scale, List.forall_mem_cons.mpr ⟨ha_SR_carryOut, List.forall_mem_cons.mpr ⟨ha_SR_extract, List.forall_mem_cons.mpr ⟨ha_SR_push, List.forall_mem_cons.mpr ⟨ha_SR_exchange, List.forall_mem_cons.mpr ⟨ha_SR_conditionOf, List.forall_mem_cons.mpr ⟨ha_SR_compareReals, List.forall_mem_cons.mpr ⟨ha_La_load, List.forall_mem_cons.mpr ⟨ha_SR_load, List.forall_mem_cons.mpr ⟨ha_SR_isCell, List.forall_mem_cons.mpr ⟨ha_SR_isForm, List.forall_mem_cons.mpr ⟨ha_Fo_decode, List.forall_mem_cons.mpr ⟨ha_Fo_decodeBinary, List.forall_mem_cons.mpr ⟨ha_Fo_decodeDecimal, List.forall_mem_cons.mpr ⟨ha_La_store, List.forall_mem_cons.mpr ⟨ha_SR_store, List.forall_mem_cons.mpr ⟨ha_Fo_encode, List.forall_mem_cons.mpr ⟨ha_Fo_encodeWhole, List.forall_mem_cons.mpr ⟨ha_Fo_encodeBinary, List.forall_mem_cons.mpr ⟨ha_Fo_binaryImage, List.forall_mem_cons.mpr ⟨ha_Fo_encodeDecimal, List.forall_mem_cons.mpr ⟨ha_Me_storeWhenFree, List.forall_mem_cons.mpr ⟨ha_La_write, List.forall_mem_cons.mpr ⟨ha_SR_write, List.forall_mem_cons.mpr ⟨ha_La_memory, List.forall_mem_cons.mpr ⟨ha_SR_memory, List.forall_mem_cons.mpr ⟨ha_La_pass, List.forall_mem_cons.mpr ⟨ha_SR_pass, List.forall_mem_cons.mpr ⟨ha_La_kind, List.forall_mem_cons.mpr ⟨ha_SR_kind, List.forall_mem_cons.mpr ⟨ha_SR_isOnStack, List.forall_mem_cons.mpr ⟨ha_La_exponent, List.forall_mem_cons.mpr ⟨ha_SR_exponent, List.forall_mem_cons.mpr ⟨ha_La_significand, List.forall_mem_cons.mpr ⟨ha_SR_significand, List.forall_mem_cons.mpr ⟨ha_Mo_thrown, List.forall_mem_cons.mpr ⟨ha_Mo_control, List.forall_mem_cons.mpr ⟨ha_Mo_out, List.forall_mem_cons.mpr ⟨ha_Mo_operate, List.forall_mem_cons.mpr ⟨ha_Mo_cost, List.forall_mem_cons.mpr ⟨ha_Mo_begin, List.forall_mem_cons.mpr ⟨ha_Mo_goOn, List.forall_mem_cons.mpr ⟨ha_Mo_refuse, List.forall_mem_cons.mpr ⟨ha_Mo_throwing, List.forall_mem_cons.mpr ⟨ha_Mo_copy, List.forall_mem_cons.mpr ⟨ha_Mo_reckon, List.forall_mem_cons.mpr ⟨ha_Mo_sum, List.forall_mem_cons.mpr ⟨ha_Mo_either, List.forall_mem_cons.mpr ⟨ha_Mo_special, List.forall_mem_cons.mpr ⟨ha_Mo_invalid, List.forall_mem_cons.mpr ⟨ha_Mo_put, List.forall_mem_cons.mpr ⟨ha_Mo_blank, List.forall_mem_cons.mpr ⟨ha_Mo_result, List.forall_mem_cons.mpr ⟨ha_Mo_round, List.forall_mem_cons.mpr ⟨ha_Mo_top, List.forall_mem_cons.mpr ⟨ha_Mo_bit, List.forall_mem_cons.mpr ⟨ha_Mo_goesUp, List.forall_mem_cons.mpr ⟨ha_Mo_shift, List.forall_mem_cons.mpr ⟨ha_Mo_setBit, List.forall_mem_cons.mpr ⟨ha_Mo_add, List.forall_mem_cons.mpr ⟨ha_Mo_lowest, List.forall_mem_cons.mpr ⟨ha_Mo_tooLarge, List.forall_mem_cons.mpr ⟨ha_Mo_finiteSum, List.forall_mem_cons.mpr ⟨ha_Mo_compareRows, List.forall_mem_cons.mpr ⟨ha_Mo_product, List.forall_mem_cons.mpr ⟨ha_Mo_times, List.forall_mem_cons.mpr ⟨ha_Mo_quotient, List.forall_mem_cons.mpr ⟨ha_Mo_finiteQuotient, List.forall_mem_cons.mpr ⟨ha_Mo_change, List.forall_mem_cons.mpr ⟨ha_Mo_move, List.forall_mem_cons.mpr ⟨ha_Mo_compared, List.forall_mem_cons.mpr ⟨ha_Mo_rank, List.forall_mem_cons.mpr ⟨ha_Mo_exactly, List.forall_mem_cons.mpr ⟨ha_Mo_extract, List.forall_mem_cons.mpr ⟨ha_Mo_alter, List.forall_mem_cons.mpr ⟨ha_Mo_root, List.forall_mem_cons.mpr ⟨ha_Mo_integer, List.forall_mem_cons.mpr ⟨ha_Mo_whole, List.forall_mem_cons.mpr ⟨ha_Mo_scaled, List.forall_mem_cons.mpr ⟨ha_Mo_load, List.forall_mem_cons.mpr ⟨ha_Mo_readWhole, List.forall_mem_cons.mpr ⟨ha_Mo_readReal, List.forall_mem_cons.mpr ⟨ha_Mo_readDecimal, List.forall_mem_cons.mpr ⟨ha_Mo_store, List.forall_mem_cons.mpr ⟨ha_Mo_writeReal, List.forall_mem_cons.mpr ⟨ha_Mo_writeWhole, List.forall_mem_cons.mpr ⟨ha_Mo_write, List.forall_mem_cons.mpr ⟨ha_Mo_memory, List.forall_mem_cons.mpr ⟨ha_Mo_pass, List.forall_mem_cons.mpr ⟨ha_Mo_await, List.forall_mem_cons.mpr ⟨ha_Mo_time, List.forall_mem_cons.mpr ⟨ha_Mo_flags, List.forall_mem_cons.mpr ⟨ha_Mo_clear, List.forall_mem_cons.mpr ⟨ha_Mo_condition, List.forall_mem_cons.mpr ⟨ha_Mo_depth, List.forall_mem_cons.mpr ⟨ha_Mo_kind, List.forall_mem_cons.mpr ⟨ha_Mo_exponent, List.forall_mem_cons.mpr ⟨ha_Mo_significand, fun _ h => absurd h List.not_mem_nil⟩⟩⟩⟩⟩⟩⟩⟩⟩⟩⟩⟩⟩⟩⟩⟩⟩⟩⟩⟩⟩⟩⟩⟩⟩⟩⟩⟩⟩⟩⟩⟩⟩⟩⟩⟩⟩⟩⟩⟩⟩⟩⟩⟩⟩⟩⟩⟩⟩⟩⟩⟩⟩⟩⟩⟩⟩⟩⟩⟩⟩⟩⟩⟩⟩⟩⟩⟩⟩⟩⟩⟩⟩⟩⟩⟩⟩⟩⟩⟩⟩⟩⟩⟩⟩⟩⟩⟩⟩⟩⟩⟩⟩⟩⟩⟩⟩⟩⟩⟩⟩⟩⟩⟩⟩⟩⟩⟩⟩⟩⟩⟩⟩⟩⟩⟩⟩⟩⟩⟩⟩⟩⟩⟩⟩⟩⟩⟩⟩⟩⟩⟩⟩⟩⟩⟩⟩⟩⟩⟩⟩⟩⟩⟩⟩⟩⟩⟩⟩⟩⟩⟩⟩
theorem zCast1 : Jvm.Cond.castable (zXn 1) (zXn 1) ∈ zWs := zW_in 307 (by decide +kernel)
theorem zCast2 : Jvm.Cond.castable (zXn 2) (zXn 2) ∈ zWs := zW_in 413 (by decide +kernel)
theorem zNoCast12 : Jvm.Cond.not (.castable (zXn 1) (zXn 2)) ∈ zWs := List.mem_filter.mpr ⟨List.mem_append_right _ (List.mem_of_getElem? (i := 1) rfl), rfl⟩
theorem zNoCast21 : Jvm.Cond.not (.castable (zXn 2) (zXn 1)) ∈ zWs := List.mem_filter.mpr ⟨List.mem_append_right _ (List.mem_of_getElem? (i := 0) rfl), rfl⟩
theorem zHan_ok {mi : ZM} {pc x hp : Nat} (hm : mi ∈ zAll) (h : zHan mi pc x = some hp) : ∃ pre q post, zHs mi = pre ++ q :: post ∧ q.2.2.1 = hp ∧ ((decide (q.1 ≤ pc) && decide (pc < q.2.1)) = true ∧ q.2.2.2 ≠ 0 ∧ Jvm.Cond.classLink (zCn (zCno mi)) q.2.2.2 (zXn x) ∈ zWs ∧ Jvm.Cond.castable (zXn x) (zXn x) ∈ zWs) ∧
    ∀ r ∈ pre, (decide (r.1 ≤ pc) && decide (pc < r.2.1)) = false ∨ (r.2.2.2 ≠ 0 ∧ ∃ k, Jvm.Cond.classLink (zCn (zCno mi)) r.2.2.2 (zXn k) ∈ zWs ∧ Jvm.Cond.not (.castable (zXn x) (zXn k)) ∈ zWs) := by
  unfold zHan at h
  cases hf : (zHs mi).find? (fun q => decide (q.1 ≤ pc) && decide (pc < q.2.1) && zCat q.2.2.2 == x) with
  | none => rw [hf] at h; cases h
  | some q =>
    rw [hf] at h
    cases h
    obtain ⟨h1, pre, post, h2, h3⟩ := List.find?_eq_some_iff_append.mp hf
    have hall := zHo_all mi hm
    rw [Bool.and_eq_true, beq_iff_eq] at h1
    obtain ⟨h4, h5⟩ := h1
    have hq := hall q (by rw [h2]; simp)
    have hx : x = 1 ∨ x = 2 := by rw [← h5]; exact hq.2.1
    refine ⟨pre, q, post, h2, rfl, ⟨h4, hq.1, by rw [← h5]; exact hq.2.2, ?_⟩, fun r hr => ?_⟩
    · rcases hx with rfl | rfl
      · exact zCast1
      · exact zCast2
    · have hrq := hall r (by rw [h2]; simp [hr])
      have h6 := h3 r hr
      cases hc : (decide (r.1 ≤ pc) && decide (pc < r.2.1)) with
      | false => exact Or.inl rfl
      | true =>
        right
        rw [hc] at h6
        have h7 : zCat r.2.2.2 ≠ x := by simpa using h6
        refine ⟨hrq.1, zCat r.2.2.2, hrq.2.2, ?_⟩
        rcases hx with rfl | rfl <;> rcases hrq.2.1 with h8 | h8
        · exact absurd h8 h7
        · rw [h8]; exact zNoCast12
        · rw [h8]; exact zNoCast21
        · exact absurd h8 h7
