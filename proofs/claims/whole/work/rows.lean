section
-- ===== PART A: goes FIRST, ahead of the names: the tables' words, and 'selects' of the private methods out of them =====
/-- a private method of a class that the tables say can be made, by its rows of tables_1 -/
def lw_okq (q : MethodName × Nat) : Prop := (q.1.cls ≠ "java/lang/invoke/MethodHandle" ∧ q.1.cls ≠ "java/lang/invoke/VarHandle") ∧ Cond.instantiable q.1.cls q.2 ∈ tables_1 ∧ Cond.privateMethod q.1 ∈ tables_1 ∧ Cond.instanceMethod q.1 ∈ tables_1
theorem lw_p0 : lw_okq (⟨"java/lang/Throwable", "fillInStackTrace", "(I)Ljava/lang/Throwable;"⟩, 6) := ⟨⟨by decide +kernel, by decide +kernel⟩, List.mem_of_getElem? (i := 277) (by decide +kernel), List.mem_of_getElem? (i := 275) (by decide +kernel), List.mem_of_getElem? (i := 276) (by decide +kernel)⟩
theorem lw_p1 : lw_okq (⟨"StackReal", "isPossible", "(II)Z"⟩, 11) := ⟨⟨by decide +kernel, by decide +kernel⟩, List.mem_of_getElem? (i := 15) (by decide +kernel), List.mem_of_getElem? (i := 329) (by decide +kernel), List.mem_of_getElem? (i := 330) (by decide +kernel)⟩
theorem lw_p2 : lw_okq (⟨"StackReal", "st", "(I)LStackReal$Real;"⟩, 11) := ⟨⟨by decide +kernel, by decide +kernel⟩, List.mem_of_getElem? (i := 15) (by decide +kernel), List.mem_of_getElem? (i := 338) (by decide +kernel), List.mem_of_getElem? (i := 339) (by decide +kernel)⟩
theorem lw_p3 : lw_okq (⟨"StackReal", "raise", "(I)I"⟩, 11) := ⟨⟨by decide +kernel, by decide +kernel⟩, List.mem_of_getElem? (i := 15) (by decide +kernel), List.mem_of_getElem? (i := 342) (by decide +kernel), List.mem_of_getElem? (i := 343) (by decide +kernel)⟩
theorem lw_p4 : lw_okq (⟨"StackReal", "workOut", "(I)I"⟩, 11) := ⟨⟨by decide +kernel, by decide +kernel⟩, List.mem_of_getElem? (i := 15) (by decide +kernel), List.mem_of_getElem? (i := 362) (by decide +kernel), List.mem_of_getElem? (i := 363) (by decide +kernel)⟩
theorem lw_p5 : lw_okq (⟨"StackReal$Arithmetic", "addInfinite", "(LStackReal$Real;LStackReal$Real;LStackReal$Real;)I"⟩, 2) := ⟨⟨by decide +kernel, by decide +kernel⟩, List.mem_of_getElem? (i := 77) (by decide +kernel), List.mem_of_getElem? (i := 374) (by decide +kernel), List.mem_of_getElem? (i := 375) (by decide +kernel)⟩
theorem lw_p6 : lw_okq (⟨"StackReal$Exact", "combine", "(LStackReal$Real;LStackReal$Real;)V"⟩, 4) := ⟨⟨by decide +kernel, by decide +kernel⟩, List.mem_of_getElem? (i := 83) (by decide +kernel), List.mem_of_getElem? (i := 404) (by decide +kernel), List.mem_of_getElem? (i := 405) (by decide +kernel)⟩
theorem lw_p7 : lw_okq (⟨"StackReal$Exact", "putOn", "(JJ)V"⟩, 4) := ⟨⟨by decide +kernel, by decide +kernel⟩, List.mem_of_getElem? (i := 83) (by decide +kernel), List.mem_of_getElem? (i := 412) (by decide +kernel), List.mem_of_getElem? (i := 413) (by decide +kernel)⟩
theorem lw_p8 : lw_okq (⟨"StackReal$Exact", "takeAway", "(JJ)V"⟩, 4) := ⟨⟨by decide +kernel, by decide +kernel⟩, List.mem_of_getElem? (i := 83) (by decide +kernel), List.mem_of_getElem? (i := 418) (by decide +kernel), List.mem_of_getElem? (i := 419) (by decide +kernel)⟩
theorem lw_p9 : lw_okq (⟨"StackReal$Exact", "normalize", "()V"⟩, 4) := ⟨⟨by decide +kernel, by decide +kernel⟩, List.mem_of_getElem? (i := 83) (by decide +kernel), List.mem_of_getElem? (i := 422) (by decide +kernel), List.mem_of_getElem? (i := 423) (by decide +kernel)⟩
theorem lw_p10 : lw_okq (⟨"StackReal$Rounding", "goesAway", "(ZZZZ)Z"⟩, 2) := ⟨⟨by decide +kernel, by decide +kernel⟩, List.mem_of_getElem? (i := 61) (by decide +kernel), List.mem_of_getElem? (i := 438) (by decide +kernel), List.mem_of_getElem? (i := 439) (by decide +kernel)⟩
theorem lw_p11 : lw_okq (⟨"StackReal$Rounding", "staysBelowInfinite", "(Z)Z"⟩, 2) := ⟨⟨by decide +kernel, by decide +kernel⟩, List.mem_of_getElem? (i := 61) (by decide +kernel), List.mem_of_getElem? (i := 443) (by decide +kernel), List.mem_of_getElem? (i := 444) (by decide +kernel)⟩
theorem lw_p12 : lw_okq (⟨"StackReal$Exact", "multiplyBits", "(JJ)V"⟩, 4) := ⟨⟨by decide +kernel, by decide +kernel⟩, List.mem_of_getElem? (i := 83) (by decide +kernel), List.mem_of_getElem? (i := 470) (by decide +kernel), List.mem_of_getElem? (i := 471) (by decide +kernel)⟩
theorem lw_p13 : lw_okq (⟨"StackReal$Exact", "isAbove", "(JJ)Z"⟩, 4) := ⟨⟨by decide +kernel, by decide +kernel⟩, List.mem_of_getElem? (i := 83) (by decide +kernel), List.mem_of_getElem? (i := 494) (by decide +kernel), List.mem_of_getElem? (i := 495) (by decide +kernel)⟩
theorem lw_p14 : lw_okq (⟨"StackReal", "carryOut", "(II)V"⟩, 11) := ⟨⟨by decide +kernel, by decide +kernel⟩, List.mem_of_getElem? (i := 15) (by decide +kernel), List.mem_of_getElem? (i := 521) (by decide +kernel), List.mem_of_getElem? (i := 522) (by decide +kernel)⟩
theorem lw_p15 : lw_okq (⟨"StackReal", "extract", "()V"⟩, 11) := ⟨⟨by decide +kernel, by decide +kernel⟩, List.mem_of_getElem? (i := 15) (by decide +kernel), List.mem_of_getElem? (i := 525) (by decide +kernel), List.mem_of_getElem? (i := 526) (by decide +kernel)⟩
def lw_privs_1 : List (MethodName × Nat) := [(⟨"java/lang/Throwable", "fillInStackTrace", "(I)Ljava/lang/Throwable;"⟩, 6), (⟨"StackReal", "isPossible", "(II)Z"⟩, 11), (⟨"StackReal", "st", "(I)LStackReal$Real;"⟩, 11), (⟨"StackReal", "raise", "(I)I"⟩, 11), (⟨"StackReal", "workOut", "(I)I"⟩, 11), (⟨"StackReal$Arithmetic", "addInfinite", "(LStackReal$Real;LStackReal$Real;LStackReal$Real;)I"⟩, 2), (⟨"StackReal$Exact", "combine", "(LStackReal$Real;LStackReal$Real;)V"⟩, 4), (⟨"StackReal$Exact", "putOn", "(JJ)V"⟩, 4), (⟨"StackReal$Exact", "takeAway", "(JJ)V"⟩, 4), (⟨"StackReal$Exact", "normalize", "()V"⟩, 4), (⟨"StackReal$Rounding", "goesAway", "(ZZZZ)Z"⟩, 2), (⟨"StackReal$Rounding", "staysBelowInfinite", "(Z)Z"⟩, 2), (⟨"StackReal$Exact", "multiplyBits", "(JJ)V"⟩, 4), (⟨"StackReal$Exact", "isAbove", "(JJ)Z"⟩, 4), (⟨"StackReal", "carryOut", "(II)V"⟩, 11), (⟨"StackReal", "extract", "()V"⟩, 11)]
theorem lw_r1 : ∀ q ∈ lw_privs_1, lw_okq q := List.forall_mem_cons.mpr ⟨lw_p0, List.forall_mem_cons.mpr ⟨lw_p1, List.forall_mem_cons.mpr ⟨lw_p2, List.forall_mem_cons.mpr ⟨lw_p3, List.forall_mem_cons.mpr ⟨lw_p4, List.forall_mem_cons.mpr ⟨lw_p5, List.forall_mem_cons.mpr ⟨lw_p6, List.forall_mem_cons.mpr ⟨lw_p7, List.forall_mem_cons.mpr ⟨lw_p8, List.forall_mem_cons.mpr ⟨lw_p9, List.forall_mem_cons.mpr ⟨lw_p10, List.forall_mem_cons.mpr ⟨lw_p11, List.forall_mem_cons.mpr ⟨lw_p12, List.forall_mem_cons.mpr ⟨lw_p13, List.forall_mem_cons.mpr ⟨lw_p14, List.forall_mem_cons.mpr ⟨lw_p15, fun _ h => absurd h List.not_mem_nil⟩⟩⟩⟩⟩⟩⟩⟩⟩⟩⟩⟩⟩⟩⟩⟩
theorem lw_p16 : lw_okq (⟨"StackReal", "push", "(LStackReal$Real;)V"⟩, 11) := ⟨⟨by decide +kernel, by decide +kernel⟩, List.mem_of_getElem? (i := 15) (by decide +kernel), List.mem_of_getElem? (i := 531) (by decide +kernel), List.mem_of_getElem? (i := 532) (by decide +kernel)⟩
theorem lw_p17 : lw_okq (⟨"StackReal", "exchange", "(I)V"⟩, 11) := ⟨⟨by decide +kernel, by decide +kernel⟩, List.mem_of_getElem? (i := 15) (by decide +kernel), List.mem_of_getElem? (i := 535) (by decide +kernel), List.mem_of_getElem? (i := 536) (by decide +kernel)⟩
theorem lw_p18 : lw_okq (⟨"StackReal$Forms", "encodeWhole", "(LStackReal$Real;)I"⟩, 4) := ⟨⟨by decide +kernel, by decide +kernel⟩, List.mem_of_getElem? (i := 114) (by decide +kernel), List.mem_of_getElem? (i := 591) (by decide +kernel), List.mem_of_getElem? (i := 592) (by decide +kernel)⟩
theorem lw_p19 : lw_okq (⟨"StackReal$Forms", "encodeBinary", "(LStackReal$Real;II)I"⟩, 4) := ⟨⟨by decide +kernel, by decide +kernel⟩, List.mem_of_getElem? (i := 114) (by decide +kernel), List.mem_of_getElem? (i := 597) (by decide +kernel), List.mem_of_getElem? (i := 598) (by decide +kernel)⟩
theorem lw_p20 : lw_okq (⟨"StackReal$Forms", "encodeDecimal", "(LStackReal$Real;)I"⟩, 4) := ⟨⟨by decide +kernel, by decide +kernel⟩, List.mem_of_getElem? (i := 114) (by decide +kernel), List.mem_of_getElem? (i := 607) (by decide +kernel), List.mem_of_getElem? (i := 608) (by decide +kernel)⟩
theorem lw_p21 : lw_okq (⟨"StackReal", "isOnStack", "(I)Z"⟩, 11) := ⟨⟨by decide +kernel, by decide +kernel⟩, List.mem_of_getElem? (i := 15) (by decide +kernel), List.mem_of_getElem? (i := 649) (by decide +kernel), List.mem_of_getElem? (i := 650) (by decide +kernel)⟩
theorem lw_p22 : lw_okq (⟨"StackRealModel", "begin", "(I)V"⟩, 18) := ⟨⟨by decide +kernel, by decide +kernel⟩, List.mem_of_getElem? (i := 668) (by decide +kernel), List.mem_of_getElem? (i := 749) (by decide +kernel), List.mem_of_getElem? (i := 750) (by decide +kernel)⟩
theorem lw_p23 : lw_okq (⟨"StackRealModel", "goOn", "(I)V"⟩, 18) := ⟨⟨by decide +kernel, by decide +kernel⟩, List.mem_of_getElem? (i := 668) (by decide +kernel), List.mem_of_getElem? (i := 753) (by decide +kernel), List.mem_of_getElem? (i := 754) (by decide +kernel)⟩
theorem lw_p24 : lw_okq (⟨"StackRealModel", "refuse", "()I"⟩, 18) := ⟨⟨by decide +kernel, by decide +kernel⟩, List.mem_of_getElem? (i := 668) (by decide +kernel), List.mem_of_getElem? (i := 757) (by decide +kernel), List.mem_of_getElem? (i := 758) (by decide +kernel)⟩
theorem lw_p25 : lw_okq (⟨"StackRealModel", "throwing", "()Z"⟩, 18) := ⟨⟨by decide +kernel, by decide +kernel⟩, List.mem_of_getElem? (i := 668) (by decide +kernel), List.mem_of_getElem? (i := 761) (by decide +kernel), List.mem_of_getElem? (i := 762) (by decide +kernel)⟩
theorem lw_p26 : lw_okq (⟨"StackRealModel", "copy", "(II)V"⟩, 18) := ⟨⟨by decide +kernel, by decide +kernel⟩, List.mem_of_getElem? (i := 668) (by decide +kernel), List.mem_of_getElem? (i := 765) (by decide +kernel), List.mem_of_getElem? (i := 766) (by decide +kernel)⟩
theorem lw_p27 : lw_okq (⟨"StackRealModel", "reckon", "(I)V"⟩, 18) := ⟨⟨by decide +kernel, by decide +kernel⟩, List.mem_of_getElem? (i := 668) (by decide +kernel), List.mem_of_getElem? (i := 769) (by decide +kernel), List.mem_of_getElem? (i := 770) (by decide +kernel)⟩
theorem lw_p28 : lw_okq (⟨"StackRealModel", "sum", "()V"⟩, 18) := ⟨⟨by decide +kernel, by decide +kernel⟩, List.mem_of_getElem? (i := 668) (by decide +kernel), List.mem_of_getElem? (i := 773) (by decide +kernel), List.mem_of_getElem? (i := 774) (by decide +kernel)⟩
theorem lw_p29 : lw_okq (⟨"StackRealModel", "either", "(I)Z"⟩, 18) := ⟨⟨by decide +kernel, by decide +kernel⟩, List.mem_of_getElem? (i := 668) (by decide +kernel), List.mem_of_getElem? (i := 777) (by decide +kernel), List.mem_of_getElem? (i := 778) (by decide +kernel)⟩
theorem lw_p30 : lw_okq (⟨"StackRealModel", "special", "(IZ)V"⟩, 18) := ⟨⟨by decide +kernel, by decide +kernel⟩, List.mem_of_getElem? (i := 668) (by decide +kernel), List.mem_of_getElem? (i := 781) (by decide +kernel), List.mem_of_getElem? (i := 782) (by decide +kernel)⟩
theorem lw_p31 : lw_okq (⟨"StackRealModel", "invalid", "()V"⟩, 18) := ⟨⟨by decide +kernel, by decide +kernel⟩, List.mem_of_getElem? (i := 668) (by decide +kernel), List.mem_of_getElem? (i := 785) (by decide +kernel), List.mem_of_getElem? (i := 786) (by decide +kernel)⟩
def lw_privs_2 : List (MethodName × Nat) := [(⟨"StackReal", "push", "(LStackReal$Real;)V"⟩, 11), (⟨"StackReal", "exchange", "(I)V"⟩, 11), (⟨"StackReal$Forms", "encodeWhole", "(LStackReal$Real;)I"⟩, 4), (⟨"StackReal$Forms", "encodeBinary", "(LStackReal$Real;II)I"⟩, 4), (⟨"StackReal$Forms", "encodeDecimal", "(LStackReal$Real;)I"⟩, 4), (⟨"StackReal", "isOnStack", "(I)Z"⟩, 11), (⟨"StackRealModel", "begin", "(I)V"⟩, 18), (⟨"StackRealModel", "goOn", "(I)V"⟩, 18), (⟨"StackRealModel", "refuse", "()I"⟩, 18), (⟨"StackRealModel", "throwing", "()Z"⟩, 18), (⟨"StackRealModel", "copy", "(II)V"⟩, 18), (⟨"StackRealModel", "reckon", "(I)V"⟩, 18), (⟨"StackRealModel", "sum", "()V"⟩, 18), (⟨"StackRealModel", "either", "(I)Z"⟩, 18), (⟨"StackRealModel", "special", "(IZ)V"⟩, 18), (⟨"StackRealModel", "invalid", "()V"⟩, 18)]
theorem lw_r2 : ∀ q ∈ lw_privs_2, lw_okq q := List.forall_mem_cons.mpr ⟨lw_p16, List.forall_mem_cons.mpr ⟨lw_p17, List.forall_mem_cons.mpr ⟨lw_p18, List.forall_mem_cons.mpr ⟨lw_p19, List.forall_mem_cons.mpr ⟨lw_p20, List.forall_mem_cons.mpr ⟨lw_p21, List.forall_mem_cons.mpr ⟨lw_p22, List.forall_mem_cons.mpr ⟨lw_p23, List.forall_mem_cons.mpr ⟨lw_p24, List.forall_mem_cons.mpr ⟨lw_p25, List.forall_mem_cons.mpr ⟨lw_p26, List.forall_mem_cons.mpr ⟨lw_p27, List.forall_mem_cons.mpr ⟨lw_p28, List.forall_mem_cons.mpr ⟨lw_p29, List.forall_mem_cons.mpr ⟨lw_p30, List.forall_mem_cons.mpr ⟨lw_p31, fun _ h => absurd h List.not_mem_nil⟩⟩⟩⟩⟩⟩⟩⟩⟩⟩⟩⟩⟩⟩⟩⟩
theorem lw_p32 : lw_okq (⟨"StackRealModel", "put", "(IJ)V"⟩, 18) := ⟨⟨by decide +kernel, by decide +kernel⟩, List.mem_of_getElem? (i := 668) (by decide +kernel), List.mem_of_getElem? (i := 789) (by decide +kernel), List.mem_of_getElem? (i := 790) (by decide +kernel)⟩
theorem lw_p33 : lw_okq (⟨"StackRealModel", "blank", "(I)V"⟩, 18) := ⟨⟨by decide +kernel, by decide +kernel⟩, List.mem_of_getElem? (i := 668) (by decide +kernel), List.mem_of_getElem? (i := 793) (by decide +kernel), List.mem_of_getElem? (i := 794) (by decide +kernel)⟩
theorem lw_p34 : lw_okq (⟨"StackRealModel", "result", "(ZI)V"⟩, 18) := ⟨⟨by decide +kernel, by decide +kernel⟩, List.mem_of_getElem? (i := 668) (by decide +kernel), List.mem_of_getElem? (i := 798) (by decide +kernel), List.mem_of_getElem? (i := 799) (by decide +kernel)⟩
theorem lw_p35 : lw_okq (⟨"StackRealModel", "round", "(ZIII)V"⟩, 18) := ⟨⟨by decide +kernel, by decide +kernel⟩, List.mem_of_getElem? (i := 668) (by decide +kernel), List.mem_of_getElem? (i := 802) (by decide +kernel), List.mem_of_getElem? (i := 803) (by decide +kernel)⟩
theorem lw_p36 : lw_okq (⟨"StackRealModel", "top", "(I)I"⟩, 18) := ⟨⟨by decide +kernel, by decide +kernel⟩, List.mem_of_getElem? (i := 668) (by decide +kernel), List.mem_of_getElem? (i := 806) (by decide +kernel), List.mem_of_getElem? (i := 807) (by decide +kernel)⟩
theorem lw_p37 : lw_okq (⟨"StackRealModel", "bit", "(II)I"⟩, 18) := ⟨⟨by decide +kernel, by decide +kernel⟩, List.mem_of_getElem? (i := 668) (by decide +kernel), List.mem_of_getElem? (i := 810) (by decide +kernel), List.mem_of_getElem? (i := 811) (by decide +kernel)⟩
theorem lw_p38 : lw_okq (⟨"StackRealModel", "goesUp", "(IZ)Z"⟩, 18) := ⟨⟨by decide +kernel, by decide +kernel⟩, List.mem_of_getElem? (i := 668) (by decide +kernel), List.mem_of_getElem? (i := 814) (by decide +kernel), List.mem_of_getElem? (i := 815) (by decide +kernel)⟩
theorem lw_p39 : lw_okq (⟨"StackRealModel", "shift", "(III)V"⟩, 18) := ⟨⟨by decide +kernel, by decide +kernel⟩, List.mem_of_getElem? (i := 668) (by decide +kernel), List.mem_of_getElem? (i := 818) (by decide +kernel), List.mem_of_getElem? (i := 819) (by decide +kernel)⟩
theorem lw_p40 : lw_okq (⟨"StackRealModel", "setBit", "(II)V"⟩, 18) := ⟨⟨by decide +kernel, by decide +kernel⟩, List.mem_of_getElem? (i := 668) (by decide +kernel), List.mem_of_getElem? (i := 822) (by decide +kernel), List.mem_of_getElem? (i := 823) (by decide +kernel)⟩
theorem lw_p41 : lw_okq (⟨"StackRealModel", "add", "(III)V"⟩, 18) := ⟨⟨by decide +kernel, by decide +kernel⟩, List.mem_of_getElem? (i := 668) (by decide +kernel), List.mem_of_getElem? (i := 826) (by decide +kernel), List.mem_of_getElem? (i := 827) (by decide +kernel)⟩
theorem lw_p42 : lw_okq (⟨"StackRealModel", "lowest", "(I)J"⟩, 18) := ⟨⟨by decide +kernel, by decide +kernel⟩, List.mem_of_getElem? (i := 668) (by decide +kernel), List.mem_of_getElem? (i := 831) (by decide +kernel), List.mem_of_getElem? (i := 832) (by decide +kernel)⟩
theorem lw_p43 : lw_okq (⟨"StackRealModel", "tooLarge", "(ZII)V"⟩, 18) := ⟨⟨by decide +kernel, by decide +kernel⟩, List.mem_of_getElem? (i := 668) (by decide +kernel), List.mem_of_getElem? (i := 835) (by decide +kernel), List.mem_of_getElem? (i := 836) (by decide +kernel)⟩
theorem lw_p44 : lw_okq (⟨"StackRealModel", "finiteSum", "(II)V"⟩, 18) := ⟨⟨by decide +kernel, by decide +kernel⟩, List.mem_of_getElem? (i := 668) (by decide +kernel), List.mem_of_getElem? (i := 840) (by decide +kernel), List.mem_of_getElem? (i := 841) (by decide +kernel)⟩
theorem lw_p45 : lw_okq (⟨"StackRealModel", "compareRows", "(II)I"⟩, 18) := ⟨⟨by decide +kernel, by decide +kernel⟩, List.mem_of_getElem? (i := 668) (by decide +kernel), List.mem_of_getElem? (i := 844) (by decide +kernel), List.mem_of_getElem? (i := 845) (by decide +kernel)⟩
theorem lw_p46 : lw_okq (⟨"StackRealModel", "product", "()V"⟩, 18) := ⟨⟨by decide +kernel, by decide +kernel⟩, List.mem_of_getElem? (i := 668) (by decide +kernel), List.mem_of_getElem? (i := 848) (by decide +kernel), List.mem_of_getElem? (i := 849) (by decide +kernel)⟩
theorem lw_p47 : lw_okq (⟨"StackRealModel", "times", "(III)V"⟩, 18) := ⟨⟨by decide +kernel, by decide +kernel⟩, List.mem_of_getElem? (i := 668) (by decide +kernel), List.mem_of_getElem? (i := 852) (by decide +kernel), List.mem_of_getElem? (i := 853) (by decide +kernel)⟩
def lw_privs_3 : List (MethodName × Nat) := [(⟨"StackRealModel", "put", "(IJ)V"⟩, 18), (⟨"StackRealModel", "blank", "(I)V"⟩, 18), (⟨"StackRealModel", "result", "(ZI)V"⟩, 18), (⟨"StackRealModel", "round", "(ZIII)V"⟩, 18), (⟨"StackRealModel", "top", "(I)I"⟩, 18), (⟨"StackRealModel", "bit", "(II)I"⟩, 18), (⟨"StackRealModel", "goesUp", "(IZ)Z"⟩, 18), (⟨"StackRealModel", "shift", "(III)V"⟩, 18), (⟨"StackRealModel", "setBit", "(II)V"⟩, 18), (⟨"StackRealModel", "add", "(III)V"⟩, 18), (⟨"StackRealModel", "lowest", "(I)J"⟩, 18), (⟨"StackRealModel", "tooLarge", "(ZII)V"⟩, 18), (⟨"StackRealModel", "finiteSum", "(II)V"⟩, 18), (⟨"StackRealModel", "compareRows", "(II)I"⟩, 18), (⟨"StackRealModel", "product", "()V"⟩, 18), (⟨"StackRealModel", "times", "(III)V"⟩, 18)]
theorem lw_r3 : ∀ q ∈ lw_privs_3, lw_okq q := List.forall_mem_cons.mpr ⟨lw_p32, List.forall_mem_cons.mpr ⟨lw_p33, List.forall_mem_cons.mpr ⟨lw_p34, List.forall_mem_cons.mpr ⟨lw_p35, List.forall_mem_cons.mpr ⟨lw_p36, List.forall_mem_cons.mpr ⟨lw_p37, List.forall_mem_cons.mpr ⟨lw_p38, List.forall_mem_cons.mpr ⟨lw_p39, List.forall_mem_cons.mpr ⟨lw_p40, List.forall_mem_cons.mpr ⟨lw_p41, List.forall_mem_cons.mpr ⟨lw_p42, List.forall_mem_cons.mpr ⟨lw_p43, List.forall_mem_cons.mpr ⟨lw_p44, List.forall_mem_cons.mpr ⟨lw_p45, List.forall_mem_cons.mpr ⟨lw_p46, List.forall_mem_cons.mpr ⟨lw_p47, fun _ h => absurd h List.not_mem_nil⟩⟩⟩⟩⟩⟩⟩⟩⟩⟩⟩⟩⟩⟩⟩⟩
theorem lw_p48 : lw_okq (⟨"StackRealModel", "quotient", "()V"⟩, 18) := ⟨⟨by decide +kernel, by decide +kernel⟩, List.mem_of_getElem? (i := 668) (by decide +kernel), List.mem_of_getElem? (i := 856) (by decide +kernel), List.mem_of_getElem? (i := 857) (by decide +kernel)⟩
theorem lw_p49 : lw_okq (⟨"StackRealModel", "finiteQuotient", "(Z)V"⟩, 18) := ⟨⟨by decide +kernel, by decide +kernel⟩, List.mem_of_getElem? (i := 668) (by decide +kernel), List.mem_of_getElem? (i := 860) (by decide +kernel), List.mem_of_getElem? (i := 861) (by decide +kernel)⟩
theorem lw_p50 : lw_okq (⟨"StackRealModel", "change", "(I)I"⟩, 18) := ⟨⟨by decide +kernel, by decide +kernel⟩, List.mem_of_getElem? (i := 668) (by decide +kernel), List.mem_of_getElem? (i := 864) (by decide +kernel), List.mem_of_getElem? (i := 865) (by decide +kernel)⟩
theorem lw_p51 : lw_okq (⟨"StackRealModel", "move", "(II)I"⟩, 18) := ⟨⟨by decide +kernel, by decide +kernel⟩, List.mem_of_getElem? (i := 668) (by decide +kernel), List.mem_of_getElem? (i := 868) (by decide +kernel), List.mem_of_getElem? (i := 869) (by decide +kernel)⟩
theorem lw_p52 : lw_okq (⟨"StackRealModel", "compared", "()I"⟩, 18) := ⟨⟨by decide +kernel, by decide +kernel⟩, List.mem_of_getElem? (i := 668) (by decide +kernel), List.mem_of_getElem? (i := 872) (by decide +kernel), List.mem_of_getElem? (i := 873) (by decide +kernel)⟩
theorem lw_p53 : lw_okq (⟨"StackRealModel", "rank", "(I)I"⟩, 18) := ⟨⟨by decide +kernel, by decide +kernel⟩, List.mem_of_getElem? (i := 668) (by decide +kernel), List.mem_of_getElem? (i := 876) (by decide +kernel), List.mem_of_getElem? (i := 877) (by decide +kernel)⟩
theorem lw_p54 : lw_okq (⟨"StackRealModel", "exactly", "(Z)V"⟩, 18) := ⟨⟨by decide +kernel, by decide +kernel⟩, List.mem_of_getElem? (i := 668) (by decide +kernel), List.mem_of_getElem? (i := 880) (by decide +kernel), List.mem_of_getElem? (i := 881) (by decide +kernel)⟩
theorem lw_p55 : lw_okq (⟨"StackRealModel", "extract", "()I"⟩, 18) := ⟨⟨by decide +kernel, by decide +kernel⟩, List.mem_of_getElem? (i := 668) (by decide +kernel), List.mem_of_getElem? (i := 884) (by decide +kernel), List.mem_of_getElem? (i := 885) (by decide +kernel)⟩
theorem lw_p56 : lw_okq (⟨"StackRealModel", "alter", "(I)V"⟩, 18) := ⟨⟨by decide +kernel, by decide +kernel⟩, List.mem_of_getElem? (i := 668) (by decide +kernel), List.mem_of_getElem? (i := 888) (by decide +kernel), List.mem_of_getElem? (i := 889) (by decide +kernel)⟩
theorem lw_p57 : lw_okq (⟨"StackRealModel", "root", "()V"⟩, 18) := ⟨⟨by decide +kernel, by decide +kernel⟩, List.mem_of_getElem? (i := 668) (by decide +kernel), List.mem_of_getElem? (i := 892) (by decide +kernel), List.mem_of_getElem? (i := 893) (by decide +kernel)⟩
theorem lw_p58 : lw_okq (⟨"StackRealModel", "integer", "()V"⟩, 18) := ⟨⟨by decide +kernel, by decide +kernel⟩, List.mem_of_getElem? (i := 668) (by decide +kernel), List.mem_of_getElem? (i := 896) (by decide +kernel), List.mem_of_getElem? (i := 897) (by decide +kernel)⟩
theorem lw_p59 : lw_okq (⟨"StackRealModel", "whole", "()V"⟩, 18) := ⟨⟨by decide +kernel, by decide +kernel⟩, List.mem_of_getElem? (i := 668) (by decide +kernel), List.mem_of_getElem? (i := 900) (by decide +kernel), List.mem_of_getElem? (i := 901) (by decide +kernel)⟩
theorem lw_p60 : lw_okq (⟨"StackRealModel", "scaled", "()V"⟩, 18) := ⟨⟨by decide +kernel, by decide +kernel⟩, List.mem_of_getElem? (i := 668) (by decide +kernel), List.mem_of_getElem? (i := 904) (by decide +kernel), List.mem_of_getElem? (i := 905) (by decide +kernel)⟩
theorem lw_p61 : lw_okq (⟨"StackRealModel", "readWhole", "(J)V"⟩, 18) := ⟨⟨by decide +kernel, by decide +kernel⟩, List.mem_of_getElem? (i := 668) (by decide +kernel), List.mem_of_getElem? (i := 913) (by decide +kernel), List.mem_of_getElem? (i := 914) (by decide +kernel)⟩
theorem lw_p62 : lw_okq (⟨"StackRealModel", "readReal", "(JII)V"⟩, 18) := ⟨⟨by decide +kernel, by decide +kernel⟩, List.mem_of_getElem? (i := 668) (by decide +kernel), List.mem_of_getElem? (i := 917) (by decide +kernel), List.mem_of_getElem? (i := 918) (by decide +kernel)⟩
theorem lw_p63 : lw_okq (⟨"StackRealModel", "readDecimal", "(J)V"⟩, 18) := ⟨⟨by decide +kernel, by decide +kernel⟩, List.mem_of_getElem? (i := 668) (by decide +kernel), List.mem_of_getElem? (i := 921) (by decide +kernel), List.mem_of_getElem? (i := 922) (by decide +kernel)⟩
def lw_privs_4 : List (MethodName × Nat) := [(⟨"StackRealModel", "quotient", "()V"⟩, 18), (⟨"StackRealModel", "finiteQuotient", "(Z)V"⟩, 18), (⟨"StackRealModel", "change", "(I)I"⟩, 18), (⟨"StackRealModel", "move", "(II)I"⟩, 18), (⟨"StackRealModel", "compared", "()I"⟩, 18), (⟨"StackRealModel", "rank", "(I)I"⟩, 18), (⟨"StackRealModel", "exactly", "(Z)V"⟩, 18), (⟨"StackRealModel", "extract", "()I"⟩, 18), (⟨"StackRealModel", "alter", "(I)V"⟩, 18), (⟨"StackRealModel", "root", "()V"⟩, 18), (⟨"StackRealModel", "integer", "()V"⟩, 18), (⟨"StackRealModel", "whole", "()V"⟩, 18), (⟨"StackRealModel", "scaled", "()V"⟩, 18), (⟨"StackRealModel", "readWhole", "(J)V"⟩, 18), (⟨"StackRealModel", "readReal", "(JII)V"⟩, 18), (⟨"StackRealModel", "readDecimal", "(J)V"⟩, 18)]
theorem lw_r4 : ∀ q ∈ lw_privs_4, lw_okq q := List.forall_mem_cons.mpr ⟨lw_p48, List.forall_mem_cons.mpr ⟨lw_p49, List.forall_mem_cons.mpr ⟨lw_p50, List.forall_mem_cons.mpr ⟨lw_p51, List.forall_mem_cons.mpr ⟨lw_p52, List.forall_mem_cons.mpr ⟨lw_p53, List.forall_mem_cons.mpr ⟨lw_p54, List.forall_mem_cons.mpr ⟨lw_p55, List.forall_mem_cons.mpr ⟨lw_p56, List.forall_mem_cons.mpr ⟨lw_p57, List.forall_mem_cons.mpr ⟨lw_p58, List.forall_mem_cons.mpr ⟨lw_p59, List.forall_mem_cons.mpr ⟨lw_p60, List.forall_mem_cons.mpr ⟨lw_p61, List.forall_mem_cons.mpr ⟨lw_p62, List.forall_mem_cons.mpr ⟨lw_p63, fun _ h => absurd h List.not_mem_nil⟩⟩⟩⟩⟩⟩⟩⟩⟩⟩⟩⟩⟩⟩⟩⟩
theorem lw_p64 : lw_okq (⟨"StackRealModel", "writeReal", "(II)J"⟩, 18) := ⟨⟨by decide +kernel, by decide +kernel⟩, List.mem_of_getElem? (i := 668) (by decide +kernel), List.mem_of_getElem? (i := 932) (by decide +kernel), List.mem_of_getElem? (i := 933) (by decide +kernel)⟩
theorem lw_p65 : lw_okq (⟨"StackRealModel", "writeWhole", "(Z)J"⟩, 18) := ⟨⟨by decide +kernel, by decide +kernel⟩, List.mem_of_getElem? (i := 668) (by decide +kernel), List.mem_of_getElem? (i := 936) (by decide +kernel), List.mem_of_getElem? (i := 937) (by decide +kernel)⟩
def lw_privs_5 : List (MethodName × Nat) := [(⟨"StackRealModel", "writeReal", "(II)J"⟩, 18), (⟨"StackRealModel", "writeWhole", "(Z)J"⟩, 18)]
theorem lw_r5 : ∀ q ∈ lw_privs_5, lw_okq q := List.forall_mem_cons.mpr ⟨lw_p64, List.forall_mem_cons.mpr ⟨lw_p65, fun _ h => absurd h List.not_mem_nil⟩⟩
def lw_privs : List (MethodName × Nat) := lw_privs_1 ++ (lw_privs_2 ++ (lw_privs_3 ++ (lw_privs_4 ++ (lw_privs_5))))
def lw_tbl : List Cond := k2_sels lw_privs ++ tables_1
theorem lw_privs_ok : ∀ q ∈ lw_privs, lw_okq q := by
  show ∀ q ∈ lw_privs_1 ++ (lw_privs_2 ++ (lw_privs_3 ++ (lw_privs_4 ++ (lw_privs_5)))), lw_okq q
  exact List.forall_mem_append.mpr ⟨lw_r1, List.forall_mem_append.mpr ⟨lw_r2, List.forall_mem_append.mpr ⟨lw_r3, List.forall_mem_append.mpr ⟨lw_r4, lw_r5⟩⟩⟩⟩
end
section
/-! Names, classes, methods and pools, written by a program (wip/whole/gen/gen_names.py) out of claim/Statement.lean. -/
def F_SR : u_T := fun k => match k with
  | 0 => ("StackReal", "stack", "[LStackReal$Real;", true)
  | 1 => ("StackReal", "result", "LStackReal$Real;", true)
  | 2 => ("StackReal", "turned", "LStackReal$Real;", true)
  | 3 => ("StackReal", "rounding", "LStackReal$Rounding;", true)
  | 4 => ("StackReal", "arithmetic", "LStackReal$Arithmetic;", true)
  | 5 => ("StackReal", "forms", "LStackReal$Forms;", true)
  | 6 => ("StackReal", "memory", "LStackReal$Memory;", true)
  | 7 => ("StackReal", "depth", "I", false)
  | 8 => ("StackReal", "mask", "I", false)
  | 9 => ("StackReal", "flags", "I", false)
  | _ => ("StackReal", "condition", "I", false)
def F_Re : u_T := fun k => match k with
  | 0 => ("StackReal$Real", "kind", "I", false)
  | 1 => ("StackReal$Real", "negative", "Z", false)
  | 2 => ("StackReal$Real", "exponent", "I", false)
  | _ => ("StackReal$Real", "significand", "J", false)
def F_Ex : u_T := fun k => match k with
  | 0 => ("StackReal$Exact", "negative", "Z", false)
  | 1 => ("StackReal$Exact", "exponent", "I", false)
  | 2 => ("StackReal$Exact", "high", "J", false)
  | _ => ("StackReal$Exact", "low", "J", false)
def F_Ro : u_T := fun k => match k with
  | 0 => ("StackReal$Rounding", "precision", "I", false)
  | _ => ("StackReal$Rounding", "way", "I", false)
def F_Ar : u_T := fun k => match k with
  | 0 => ("StackReal$Arithmetic", "rounding", "LStackReal$Rounding;", true)
  | _ => ("StackReal$Arithmetic", "exact", "LStackReal$Exact;", true)
def F_Fo : u_T := fun k => match k with
  | 0 => ("StackReal$Forms", "rounding", "LStackReal$Rounding;", true)
  | 1 => ("StackReal$Forms", "exact", "LStackReal$Exact;", true)
  | 2 => ("StackReal$Forms", "rounded", "LStackReal$Real;", true)
  | _ => ("StackReal$Forms", "image", "J", false)
def F_Me : u_T := fun k => match k with
  | 0 => ("StackReal$Memory", "cells", "[J", true)
  | 1 => ("StackReal$Memory", "now", "J", false)
  | 2 => ("StackReal$Memory", "freeAt", "J", false)
  | 3 => ("StackReal$Memory", "storing", "Z", false)
  | 4 => ("StackReal$Memory", "target", "I", false)
  | _ => ("StackReal$Memory", "coming", "J", false)
def F_Mo : u_T := fun k => match k with
  | 0 => ("StackRealModel", "thrown", "I", false)
  | 1 => ("StackRealModel", "precision", "I", false)
  | 2 => ("StackRealModel", "rounding", "I", false)
  | 3 => ("StackRealModel", "mask", "I", false)
  | 4 => ("StackRealModel", "flags", "I", false)
  | 5 => ("StackRealModel", "noted", "I", false)
  | 6 => ("StackRealModel", "condition", "I", false)
  | 7 => ("StackRealModel", "depth", "I", false)
  | 8 => ("StackRealModel", "kind", "[I", true)
  | 9 => ("StackRealModel", "negative", "[Z", true)
  | 10 => ("StackRealModel", "exponent", "[I", true)
  | 11 => ("StackRealModel", "significand", "[J", true)
  | 12 => ("StackRealModel", "memory", "[J", true)
  | 13 => ("StackRealModel", "busy", "I", false)
  | 14 => ("StackRealModel", "cell", "I", false)
  | 15 => ("StackRealModel", "coming", "J", false)
  | 16 => ("StackRealModel", "now", "J", false)
  | _ => ("StackRealModel", "digits", "[I", true)
abbrev zCl : List vw_C := [("StackReal", F_SR, 11), ("StackReal$Real", F_Re, 4), ("StackReal$Exact", F_Ex, 4), ("StackReal$Rounding", F_Ro, 2), ("StackReal$Arithmetic", F_Ar, 2), ("StackReal$Forms", F_Fo, 4), ("StackReal$Memory", F_Me, 6), ("StackRealModel", F_Mo, 18)]
def zTyp (ci j : Nat) : FieldType := match ci, j with
  | 0, 0 => (.array (.object "StackReal$Real"))
  | 0, 1 => (.object "StackReal$Real")
  | 0, 2 => (.object "StackReal$Real")
  | 0, 3 => (.object "StackReal$Rounding")
  | 0, 4 => (.object "StackReal$Arithmetic")
  | 0, 5 => (.object "StackReal$Forms")
  | 0, 6 => (.object "StackReal$Memory")
  | 0, 7 => .int
  | 0, 8 => .int
  | 0, 9 => .int
  | 0, 10 => .int
  | 1, 0 => .int
  | 1, 1 => .boolean
  | 1, 2 => .int
  | 1, 3 => .long
  | 2, 0 => .boolean
  | 2, 1 => .int
  | 2, 2 => .long
  | 2, 3 => .long
  | 3, 0 => .int
  | 3, 1 => .int
  | 4, 0 => (.object "StackReal$Rounding")
  | 4, 1 => (.object "StackReal$Exact")
  | 5, 0 => (.object "StackReal$Rounding")
  | 5, 1 => (.object "StackReal$Exact")
  | 5, 2 => (.object "StackReal$Real")
  | 5, 3 => .long
  | 6, 0 => (.array .long)
  | 6, 1 => .long
  | 6, 2 => .long
  | 6, 3 => .boolean
  | 6, 4 => .int
  | 6, 5 => .long
  | 7, 0 => .int
  | 7, 1 => .int
  | 7, 2 => .int
  | 7, 3 => .int
  | 7, 4 => .int
  | 7, 5 => .int
  | 7, 6 => .int
  | 7, 7 => .int
  | 7, 8 => (.array .int)
  | 7, 9 => (.array .boolean)
  | 7, 10 => (.array .int)
  | 7, 11 => (.array .long)
  | 7, 12 => (.array .long)
  | 7, 13 => .int
  | 7, 14 => .int
  | 7, 15 => .long
  | 7, 16 => .long
  | 7, 17 => (.array .int)
  | _, _ => .int
def zFin (ci j : Nat) : Bool := match ci, j with
  | 0, 0 => true
  | 0, 1 => true
  | 0, 2 => true
  | 0, 3 => true
  | 0, 4 => true
  | 0, 5 => true
  | 0, 6 => true
  | 4, 0 => true
  | 4, 1 => true
  | 5, 0 => true
  | 5, 1 => true
  | 5, 2 => true
  | 6, 0 => true
  | 7, 8 => true
  | 7, 9 => true
  | 7, 10 => true
  | 7, 11 => true
  | 7, 12 => true
  | 7, 17 => true
  | _, _ => false
def zCn (cn : Nat) : String := match cn with
  | 0 => "StackReal"
  | 1 => "StackReal$Real"
  | 2 => "StackReal$Exact"
  | 3 => "StackReal$Rounding"
  | 4 => "StackReal$Arithmetic"
  | 5 => "StackReal$Forms"
  | 6 => "StackReal$Memory"
  | 7 => "StackRealModel"
  | _ => "StackRealLaw"
abbrev zReal : Nat := 1
abbrev zRealN : String := "StackReal$Real"
def zXn (x : Nat) : String := if x = 1 then "java/lang/IllegalArgumentException" else "java/lang/ArithmeticException"
def zXs (_ : Nat) : List String := ["java/lang/RuntimeException", "java/lang/Exception"]
/-- a method: name, code, locals, answer, handlers, class, exceptions that it may make, throws (pc, kind), instructions -/
abbrev ZM : Type := MethodName × ByteArray × Nat × Option FieldType × List (Nat × Nat × Nat × Nat) × Nat × Nat × List (Nat × Nat) × List (Nat × Instr × Nat)
def zNm (m : ZM) : MethodName := m.1
def zCode (m : ZM) : ByteArray := m.2.1
def zMl (m : ZM) : Nat := m.2.2.1
def zRt (m : ZM) : Option FieldType := m.2.2.2.1
def zHs (m : ZM) : List (Nat × Nat × Nat × Nat) := m.2.2.2.2.1
def zCno (m : ZM) : Nat := m.2.2.2.2.2.1
def zKm (m : ZM) : Nat := m.2.2.2.2.2.2.1
def zThL (m : ZM) : List (Nat × Nat) := m.2.2.2.2.2.2.2.1
def zIns (m : ZM) : List (Nat × Instr × Nat) := m.2.2.2.2.2.2.2.2
def zfetch (m : ZM) (pc : Nat) : Option (Instr × Nat) := (zIns m).lookup pc
def zThr (m : ZM) (pc : Nat) : Option Nat := (zThL m).lookup pc
def i_SR_await : List (Nat × Instr × Nat) := [(0, .aload_n 0, 1), (1, .getfield 49, 3), (4, .invokevirtual 158, 3), (7, .ireturn, 1)]
def m_SR_await : ZM := (⟨"StackReal", "await", "()I"⟩, prog_1_method_9_code, 1, some .int, [], 0, 0, [], i_SR_await)
def i_Me_waitUntilFree : List (Nat × Instr × Nat) := [(0, .aload_n 0, 1), (1, .getfield 23, 3), (4, .aload_n 0, 1), (5, .getfield 15, 3), (8, .lcmp, 1), (9, .ifCond .le 16, 3), (12, .aload_n 0, 1), (13, .getfield 23, 3), (16, .aload_n 0, 1), (17, .getfield 15, 3), (20, .lsub, 1), (21, .l2i, 1), (22, .goto 4, 3), (25, .iconst 0, 1), (26, .istore_n 1, 1), (27, .aload_n 0, 1), (28, .iload_n 1, 1), (29, .i2l, 1), (30, .invokevirtual 33, 3), (33, .iload_n 1, 1), (34, .ireturn, 1)]
def m_Me_waitUntilFree : ZM := (⟨"StackReal$Memory", "waitUntilFree", "()I"⟩, prog_5_method_3_code, 2, some .int, [], 6, 0, [], i_Me_waitUntilFree)
def i_Me_goOn : List (Nat × Instr × Nat) := [(0, .aload_n 0, 1), (1, .dup, 1), (2, .getfield 15, 3), (5, .lload_n 1, 1), (6, .ladd, 1), (7, .putfield 15, 3), (10, .aload_n 0, 1), (11, .getfield 19, 3), (14, .ifCond .eq 33, 3), (17, .aload_n 0, 1), (18, .getfield 15, 3), (21, .aload_n 0, 1), (22, .getfield 23, 3), (25, .lcmp, 1), (26, .ifCond .lt 21, 3), (29, .aload_n 0, 1), (30, .getfield 9, 3), (33, .aload_n 0, 1), (34, .getfield 26, 3), (37, .aload_n 0, 1), (38, .getfield 30, 3), (41, .lastore, 1), (42, .aload_n 0, 1), (43, .iconst 0, 1), (44, .putfield 19, 3), (47, .return_, 1)]
def m_Me_goOn : ZM := (⟨"StackReal$Memory", "goOn", "(J)V"⟩, prog_5_method_2_code, 3, none, [], 6, 0, [], i_Me_goOn)
def i_SR_time : List (Nat × Instr × Nat) := [(0, .aload_n 0, 1), (1, .getfield 49, 3), (4, .getfield 162, 3), (7, .lreturn, 1)]
def m_SR_time : ZM := (⟨"StackReal", "time", "()J"⟩, prog_1_method_10_code, 1, some .long, [], 0, 0, [], i_SR_time)
def i_SR_flags : List (Nat × Instr × Nat) := [(0, .aload_n 0, 1), (1, .getfield 60, 3), (4, .ireturn, 1)]
def m_SR_flags : ZM := (⟨"StackReal", "flags", "()I"⟩, prog_1_method_11_code, 1, some .int, [], 0, 0, [], i_SR_flags)
def i_SR_clear : List (Nat × Instr × Nat) := [(0, .aload_n 0, 1), (1, .iconst 0, 1), (2, .putfield 60, 3), (5, .return_, 1)]
def m_SR_clear : ZM := (⟨"StackReal", "clear", "()V"⟩, prog_1_method_12_code, 1, none, [], 0, 0, [], i_SR_clear)
def i_SR_condition : List (Nat × Instr × Nat) := [(0, .aload_n 0, 1), (1, .getfield 63, 3), (4, .ireturn, 1)]
def m_SR_condition : ZM := (⟨"StackReal", "condition", "()I"⟩, prog_1_method_13_code, 1, some .int, [], 0, 0, [], i_SR_condition)
def i_SR_depth : List (Nat × Instr × Nat) := [(0, .aload_n 0, 1), (1, .getfield 53, 3), (4, .ireturn, 1)]
def m_SR_depth : ZM := (⟨"StackReal", "depth", "()I"⟩, prog_1_method_14_code, 1, some .int, [], 0, 0, [], i_SR_depth)
def i_La_control : List (Nat × Instr × Nat) := [(0, .aload_n 0, 1), (1, .iload_n 1, 1), (2, .iload_n 2, 1), (3, .iload_n 3, 1), (4, .invokevirtual 7, 3), (7, .goto 7, 3), (10, .astore 4, 2), (12, .iconst 1, 1), (13, .ireturn, 1), (14, .iconst 0, 1), (15, .ireturn, 1)]
def m_La_control : ZM := (⟨"StackRealLaw", "control", "(LStackReal;III)I"⟩, method_3_code, 5, some .int, [(0, 7, 10, 13)], 8, 1, [], i_La_control)
def i_SR_control : List (Nat × Instr × Nat) := [(0, .iload_n 1, 1), (1, .bipush 24, 2), (3, .if_icmp .eq 25, 3), (6, .iload_n 1, 1), (7, .bipush 53, 2), (9, .if_icmp .eq 19, 3), (12, .iload_n 1, 1), (13, .bipush 64, 2), (15, .if_icmp .eq 13, 3), (18, .new 66, 3), (21, .dup, 1), (22, .ldc 68, 2), (24, .invokespecial 70, 3), (27, .athrow, 1), (28, .iload_n 2, 1), (29, .ifCond .lt 8, 3), (32, .iload_n 2, 1), (33, .iconst 3, 1), (34, .if_icmp .le 13, 3), (37, .new 66, 3), (40, .dup, 1), (41, .ldc 73, 2), (43, .invokespecial 70, 3), (46, .athrow, 1), (47, .iload_n 3, 1), (48, .ifCond .lt 9, 3), (51, .iload_n 3, 1), (52, .bipush 31, 2), (54, .if_icmp .le 13, 3), (57, .new 66, 3), (60, .dup, 1), (61, .ldc 75, 2), (63, .invokespecial 70, 3), (66, .athrow, 1), (67, .aload_n 0, 1), (68, .getfield 26, 3), (71, .iload_n 1, 1), (72, .putfield 77, 3), (75, .aload_n 0, 1), (76, .getfield 26, 3), (79, .iload_n 2, 1), (80, .putfield 80, 3), (83, .aload_n 0, 1), (84, .iload_n 3, 1), (85, .putfield 57, 3), (88, .return_, 1)]
def m_SR_control : ZM := (⟨"StackReal", "control", "(III)V"⟩, prog_1_method_2_code, 4, none, [], 0, 1, [(18, 1), (37, 1), (57, 1)], i_SR_control)
def i_La_operate : List (Nat × Instr × Nat) := [(0, .aload_n 3, 1), (1, .iconst 0, 1), (2, .aload_n 0, 1), (3, .iload_n 1, 1), (4, .iload_n 2, 1), (5, .invokevirtual 15, 3), (8, .i2l, 1), (9, .lastore, 1), (10, .goto 11, 3), (13, .astore 4, 2), (15, .iconst 1, 1), (16, .ireturn, 1), (17, .astore 4, 2), (19, .iconst 2, 1), (20, .ireturn, 1), (21, .iconst 0, 1), (22, .ireturn, 1)]
def m_La_operate : ZM := (⟨"StackRealLaw", "operate", "(LStackReal;II[J)I"⟩, method_4_code, 5, some .int, [(0, 10, 13, 13), (0, 10, 17, 19)], 8, 1, [], i_La_operate)
def i_SR_operate : List (Nat × Instr × Nat) := [(0, .iload_n 1, 1), (1, .ifCond .lt 9, 3), (4, .iload_n 1, 1), (5, .bipush 15, 2), (7, .if_icmp .le 13, 3), (10, .new 66, 3), (13, .dup, 1), (14, .ldc 83, 2), (16, .invokespecial 70, 3), (19, .athrow, 1), (20, .iload_n 1, 1), (21, .invokestatic 85, 3), (24, .ifCond .eq 23, 3), (27, .iload_n 2, 1), (28, .ifCond .lt 9, 3), (31, .iload_n 2, 1), (32, .bipush 8, 2), (34, .if_icmp .lt 13, 3), (37, .new 66, 3), (40, .dup, 1), (41, .ldc 89, 2), (43, .invokespecial 70, 3), (46, .athrow, 1), (47, .aload_n 0, 1), (48, .getfield 49, 3), (51, .getstatic 91, 3), (54, .iload_n 1, 1), (55, .iaload, 1), (56, .invokevirtual 95, 3), (59, .aload_n 0, 1), (60, .iload_n 1, 1), (61, .iload_n 2, 1), (62, .invokevirtual 99, 3), (65, .ifCond .ne 9, 3), (68, .aload_n 0, 1), (69, .iconst 1, 1), (70, .invokevirtual 103, 3), (73, .ireturn, 1), (74, .aload_n 0, 1), (75, .aload_n 0, 1), (76, .iload_n 1, 1), (77, .invokevirtual 107, 3), (80, .invokevirtual 103, 3), (83, .istore_n 3, 1), (84, .aload_n 0, 1), (85, .iload_n 1, 1), (86, .iload_n 2, 1), (87, .invokevirtual 110, 3), (90, .iload_n 3, 1), (91, .ireturn, 1)]
def m_SR_operate : ZM := (⟨"StackReal", "operate", "(II)I"⟩, prog_1_method_3_code, 4, some .int, [], 0, 1, [(10, 1), (37, 1)], i_SR_operate)
def i_SR_namesPlace : List (Nat × Instr × Nat) := [(0, .iload_n 0, 1), (1, .bipush 10, 2), (3, .if_icmp .eq 9, 3), (6, .iload_n 0, 1), (7, .bipush 11, 2), (9, .if_icmp .ne 7, 3), (12, .iconst 1, 1), (13, .goto 4, 3), (16, .iconst 0, 1), (17, .ireturn, 1)]
def m_SR_namesPlace : ZM := (⟨"StackReal", "namesPlace", "(I)Z"⟩, prog_1_method_24_code, 1, some .boolean, [], 0, 0, [], i_SR_namesPlace)
def i_Me_occupy : List (Nat × Instr × Nat) := [(0, .aload_n 0, 1), (1, .invokevirtual 37, 3), (4, .pop, 1), (5, .aload_n 0, 1), (6, .aload_n 0, 1), (7, .getfield 15, 3), (10, .iload_n 1, 1), (11, .i2l, 1), (12, .ladd, 1), (13, .putfield 23, 3), (16, .return_, 1)]
def m_Me_occupy : ZM := (⟨"StackReal$Memory", "occupy", "(I)V"⟩, prog_5_method_4_code, 2, none, [], 6, 0, [], i_Me_occupy)
def i_SR_isPossible : List (Nat × Instr × Nat) := [(0, .iload_n 1, 1), (1, .invokestatic 85, 3), (4, .ifCond .eq 9, 3), (7, .iload_n 2, 1), (8, .iconst 1, 1), (9, .iadd, 1), (10, .goto 8, 3), (13, .getstatic 191, 3), (16, .iload_n 1, 1), (17, .iaload, 1), (18, .istore_n 3, 1), (19, .aload_n 0, 1), (20, .getfield 53, 3), (23, .iload_n 3, 1), (24, .if_icmp .lt 19, 3), (27, .iload_n 1, 1), (28, .invokestatic 194, 3), (31, .ifCond .eq 14, 3), (34, .aload_n 0, 1), (35, .getfield 53, 3), (38, .bipush 8, 2), (40, .if_icmp .lt 5, 3), (43, .iconst 0, 1), (44, .ireturn, 1), (45, .iload_n 1, 1), (46, .bipush 7, 2), (48, .if_icmp .ne 15, 3), (51, .aload_n 0, 1), (52, .iconst 0, 1), (53, .invokevirtual 134, 3), (56, .getfield 174, 3), (59, .iconst 1, 1), (60, .if_icmp .ne 7, 3), (63, .iconst 1, 1), (64, .goto 4, 3), (67, .iconst 0, 1), (68, .ireturn, 1)]
def m_SR_isPossible : ZM := (⟨"StackReal", "isPossible", "(II)Z"⟩, prog_1_method_26_code, 4, some .boolean, [], 0, 0, [], i_SR_isPossible)
def i_SR_pushes : List (Nat × Instr × Nat) := [(0, .iload_n 0, 1), (1, .bipush 7, 2), (3, .if_icmp .eq 21, 3), (6, .iload_n 0, 1), (7, .bipush 11, 2), (9, .if_icmp .eq 15, 3), (12, .iload_n 0, 1), (13, .bipush 14, 2), (15, .if_icmp .eq 9, 3), (18, .iload_n 0, 1), (19, .bipush 15, 2), (21, .if_icmp .ne 7, 3), (24, .iconst 1, 1), (25, .goto 4, 3), (28, .iconst 0, 1), (29, .ireturn, 1)]
def m_SR_pushes : ZM := (⟨"StackReal", "pushes", "(I)Z"⟩, prog_1_method_25_code, 1, some .boolean, [], 0, 0, [], i_SR_pushes)
def i_SR_st : List (Nat × Instr × Nat) := [(0, .aload_n 0, 1), (1, .getfield 11, 3), (4, .aload_n 0, 1), (5, .getfield 53, 3), (8, .iconst 1, 1), (9, .isub, 1), (10, .iload_n 1, 1), (11, .isub, 1), (12, .aaload, 1), (13, .areturn, 1)]
def m_SR_st : ZM := (⟨"StackReal", "st", "(I)LStackReal$Real;"⟩, prog_1_method_21_code, 2, some (.object "StackReal$Real"), [], 0, 0, [], i_SR_st)
def i_SR_raise : List (Nat × Instr × Nat) := [(0, .aload_n 0, 1), (1, .dup, 1), (2, .getfield 60, 3), (5, .iload_n 1, 1), (6, .ior, 1), (7, .putfield 60, 3), (10, .iload_n 1, 1), (11, .aload_n 0, 1), (12, .getfield 57, 3), (15, .iconst (-1), 1), (16, .ixor, 1), (17, .iand, 1), (18, .ifCond .eq 13, 3), (21, .new 186, 3), (24, .dup, 1), (25, .ldc 188, 2), (27, .invokespecial 190, 3), (30, .athrow, 1), (31, .iload_n 1, 1), (32, .ireturn, 1)]
def m_SR_raise : ZM := (⟨"StackReal", "raise", "(I)I"⟩, prog_1_method_23_code, 2, some .int, [], 0, 1, [(21, 2)], i_SR_raise)
def i_SR_workOut : List (Nat × Instr × Nat) := [(0, .iload_n 1, 1), (1, .tableswitch 263 0 13 #[71, 93, 133, 155, 177, 194, 211, 263, 263, 263, 263, 263, 263, 233], 71), (72, .aload_n 0, 1), (73, .getfield 35, 3), (76, .aload_n 0, 1), (77, .iconst 1, 1), (78, .invokevirtual 134, 3), (81, .aload_n 0, 1), (82, .iconst 0, 1), (83, .invokevirtual 134, 3), (86, .aload_n 0, 1), (87, .getfield 16, 3), (90, .invokevirtual 197, 3), (93, .ireturn, 1), (94, .aload_n 0, 1), (95, .getfield 20, 3), (98, .aload_n 0, 1), (99, .iconst 0, 1), (100, .invokevirtual 134, 3), (103, .invokevirtual 183, 3), (106, .aload_n 0, 1), (107, .getfield 20, 3), (110, .invokevirtual 201, 3), (113, .aload_n 0, 1), (114, .getfield 35, 3), (117, .aload_n 0, 1), (118, .iconst 1, 1), (119, .invokevirtual 134, 3), (122, .aload_n 0, 1), (123, .getfield 20, 3), (126, .aload_n 0, 1), (127, .getfield 16, 3), (130, .invokevirtual 197, 3), (133, .ireturn, 1), (134, .aload_n 0, 1), (135, .getfield 35, 3), (138, .aload_n 0, 1), (139, .iconst 1, 1), (140, .invokevirtual 134, 3), (143, .aload_n 0, 1), (144, .iconst 0, 1), (145, .invokevirtual 134, 3), (148, .aload_n 0, 1), (149, .getfield 16, 3), (152, .invokevirtual 204, 3), (155, .ireturn, 1), (156, .aload_n 0, 1), (157, .getfield 35, 3), (160, .aload_n 0, 1), (161, .iconst 1, 1), (162, .invokevirtual 134, 3), (165, .aload_n 0, 1), (166, .iconst 0, 1), (167, .invokevirtual 134, 3), (170, .aload_n 0, 1), (171, .getfield 16, 3), (174, .invokevirtual 207, 3), (177, .ireturn, 1), (178, .aload_n 0, 1), (179, .getfield 35, 3), (182, .aload_n 0, 1), (183, .iconst 0, 1), (184, .invokevirtual 134, 3), (187, .aload_n 0, 1), (188, .getfield 16, 3), (191, .invokevirtual 210, 3), (194, .ireturn, 1), (195, .aload_n 0, 1), (196, .getfield 35, 3), (199, .aload_n 0, 1), (200, .iconst 0, 1), (201, .invokevirtual 134, 3), (204, .aload_n 0, 1), (205, .getfield 16, 3), (208, .invokevirtual 214, 3), (211, .ireturn, 1), (212, .aload_n 0, 1), (213, .getfield 35, 3), (216, .aload_n 0, 1), (217, .iconst 0, 1), (218, .invokevirtual 134, 3), (221, .aload_n 0, 1), (222, .iconst 1, 1), (223, .invokevirtual 134, 3), (226, .aload_n 0, 1), (227, .getfield 16, 3), (230, .invokevirtual 217, 3), (233, .ireturn, 1), (234, .aload_n 0, 1), (235, .iconst 0, 1), (236, .invokevirtual 134, 3), (239, .getfield 174, 3), (242, .iconst 3, 1), (243, .if_icmp .eq 15, 3), (246, .aload_n 0, 1), (247, .iconst 1, 1), (248, .invokevirtual 134, 3), (251, .getfield 174, 3), (254, .iconst 3, 1), (255, .if_icmp .ne 7, 3), (258, .iconst 1, 1), (259, .goto 4, 3), (262, .iconst 0, 1), (263, .ireturn, 1), (264, .iconst 0, 1), (265, .ireturn, 1)]
def m_SR_workOut : ZM := (⟨"StackReal", "workOut", "(I)I"⟩, prog_1_method_27_code, 2, some .int, [], 0, 0, [], i_SR_workOut)
def i_Ar_add : List (Nat × Instr × Nat) := [(0, .aload_n 1, 1), (1, .getfield 22, 3), (4, .iconst 3, 1), (5, .if_icmp .eq 11, 3), (8, .aload_n 2, 1), (9, .getfield 22, 3), (12, .iconst 3, 1), (13, .if_icmp .ne 9, 3), (16, .aload_n 3, 1), (17, .invokevirtual 28, 3), (20, .iconst 0, 1), (21, .ireturn, 1), (22, .aload_n 1, 1), (23, .getfield 22, 3), (26, .iconst 2, 1), (27, .if_icmp .eq 11, 3), (30, .aload_n 2, 1), (31, .getfield 22, 3), (34, .iconst 2, 1), (35, .if_icmp .ne 11, 3), (38, .aload_n 0, 1), (39, .aload_n 1, 1), (40, .aload_n 2, 1), (41, .aload_n 3, 1), (42, .invokevirtual 31, 3), (45, .ireturn, 1), (46, .aload_n 1, 1), (47, .getfield 22, 3), (50, .ifCond .ne 50, 3), (53, .aload_n 2, 1), (54, .getfield 22, 3), (57, .ifCond .ne 43, 3), (60, .aload_n 3, 1), (61, .aload_n 1, 1), (62, .getfield 35, 3), (65, .aload_n 2, 1), (66, .getfield 35, 3), (69, .if_icmp .ne 10, 3), (72, .aload_n 1, 1), (73, .getfield 35, 3), (76, .goto 19, 3), (79, .aload_n 0, 1), (80, .getfield 9, 3), (83, .getfield 39, 3), (86, .iconst 1, 1), (87, .if_icmp .ne 7, 3), (90, .iconst 1, 1), (91, .goto 4, 3), (94, .iconst 0, 1), (95, .invokevirtual 44, 3), (98, .iconst 0, 1), (99, .ireturn, 1), (100, .aload_n 2, 1), (101, .getfield 22, 3), (104, .ifCond .ne 14, 3), (107, .aload_n 0, 1), (108, .getfield 18, 3), (111, .aload_n 1, 1), (112, .invokevirtual 48, 3), (115, .goto 30, 3), (118, .aload_n 1, 1), (119, .getfield 22, 3), (122, .ifCond .ne 14, 3), (125, .aload_n 0, 1), (126, .getfield 18, 3), (129, .aload_n 2, 1), (130, .invokevirtual 48, 3), (133, .goto 12, 3), (136, .aload_n 0, 1), (137, .getfield 18, 3), (140, .aload_n 1, 1), (141, .aload_n 2, 1), (142, .invokevirtual 52, 3), (145, .aload_n 0, 1), (146, .getfield 18, 3), (149, .invokevirtual 56, 3), (152, .ifCond .eq 25, 3), (155, .aload_n 3, 1), (156, .aload_n 0, 1), (157, .getfield 9, 3), (160, .getfield 39, 3), (163, .iconst 1, 1), (164, .if_icmp .ne 7, 3), (167, .iconst 1, 1), (168, .goto 4, 3), (171, .iconst 0, 1), (172, .invokevirtual 44, 3), (175, .iconst 0, 1), (176, .ireturn, 1), (177, .aload_n 0, 1), (178, .getfield 9, 3), (181, .aload_n 0, 1), (182, .getfield 18, 3), (185, .aload_n 3, 1), (186, .invokevirtual 60, 3), (189, .ireturn, 1)]
def m_Ar_add : ZM := (⟨"StackReal$Arithmetic", "add", "(LStackReal$Real;LStackReal$Real;LStackReal$Real;)I"⟩, prog_2_method_2_code, 4, some .int, [], 4, 0, [], i_Ar_add)
def i_Re_becomeNan : List (Nat × Instr × Nat) := [(0, .aload_n 0, 1), (1, .iconst 3, 1), (2, .putfield 9, 3), (5, .aload_n 0, 1), (6, .iconst 0, 1), (7, .putfield 15, 3), (10, .aload_n 0, 1), (11, .iconst 0, 1), (12, .putfield 19, 3), (15, .aload_n 0, 1), (16, .lconst 0, 1), (17, .putfield 22, 3), (20, .return_, 1)]
def m_Re_becomeNan : ZM := (⟨"StackReal$Real", "becomeNan", "()V"⟩, prog_6_method_3_code, 1, none, [], 1, 0, [], i_Re_becomeNan)
def i_Ar_addInfinite : List (Nat × Instr × Nat) := [(0, .aload_n 1, 1), (1, .getfield 22, 3), (4, .aload_n 2, 1), (5, .getfield 22, 3), (8, .if_icmp .ne 19, 3), (11, .aload_n 1, 1), (12, .getfield 35, 3), (15, .aload_n 2, 1), (16, .getfield 35, 3), (19, .if_icmp .eq 8, 3), (22, .aload_n 3, 1), (23, .invokestatic 64, 3), (26, .ireturn, 1), (27, .aload_n 3, 1), (28, .aload_n 1, 1), (29, .getfield 22, 3), (32, .iconst 2, 1), (33, .if_icmp .ne 7, 3), (36, .aload_n 1, 1), (37, .goto 4, 3), (40, .aload_n 2, 1), (41, .invokevirtual 68, 3), (44, .iconst 0, 1), (45, .ireturn, 1)]
def m_Ar_addInfinite : ZM := (⟨"StackReal$Arithmetic", "addInfinite", "(LStackReal$Real;LStackReal$Real;LStackReal$Real;)I"⟩, prog_2_method_3_code, 4, some .int, [], 4, 0, [], i_Ar_addInfinite)
def i_Ar_makeInvalid : List (Nat × Instr × Nat) := [(0, .aload_n 0, 1), (1, .invokevirtual 28, 3), (4, .iconst 1, 1), (5, .ireturn, 1)]
def m_Ar_makeInvalid : ZM := (⟨"StackReal$Arithmetic", "makeInvalid", "(LStackReal$Real;)I"⟩, prog_2_method_9_code, 1, some .int, [], 4, 0, [], i_Ar_makeInvalid)
def i_Re_copy : List (Nat × Instr × Nat) := [(0, .aload_n 0, 1), (1, .aload_n 1, 1), (2, .getfield 9, 3), (5, .putfield 9, 3), (8, .aload_n 0, 1), (9, .aload_n 1, 1), (10, .getfield 15, 3), (13, .putfield 15, 3), (16, .aload_n 0, 1), (17, .aload_n 1, 1), (18, .getfield 19, 3), (21, .putfield 19, 3), (24, .aload_n 0, 1), (25, .aload_n 1, 1), (26, .getfield 22, 3), (29, .putfield 22, 3), (32, .return_, 1)]
def m_Re_copy : ZM := (⟨"StackReal$Real", "copy", "(LStackReal$Real;)V"⟩, prog_6_method_2_code, 2, none, [], 1, 0, [], i_Re_copy)
def i_Re_becomeZero : List (Nat × Instr × Nat) := [(0, .aload_n 0, 1), (1, .iconst 0, 1), (2, .putfield 9, 3), (5, .aload_n 0, 1), (6, .iload_n 1, 1), (7, .putfield 15, 3), (10, .aload_n 0, 1), (11, .iconst 0, 1), (12, .putfield 19, 3), (15, .aload_n 0, 1), (16, .lconst 0, 1), (17, .putfield 22, 3), (20, .return_, 1)]
def m_Re_becomeZero : ZM := (⟨"StackReal$Real", "becomeZero", "(Z)V"⟩, prog_6_method_4_code, 2, none, [], 1, 0, [], i_Re_becomeZero)
def i_Ex_copy : List (Nat × Instr × Nat) := [(0, .aload_n 0, 1), (1, .aload_n 1, 1), (2, .getfield 9, 3), (5, .putfield 15, 3), (8, .aload_n 0, 1), (9, .aload_n 1, 1), (10, .getfield 18, 3), (13, .putfield 22, 3), (16, .aload_n 0, 1), (17, .aload_n 1, 1), (18, .getfield 23, 3), (21, .putfield 27, 3), (24, .aload_n 0, 1), (25, .lconst 0, 1), (26, .putfield 30, 3), (29, .return_, 1)]
def m_Ex_copy : ZM := (⟨"StackReal$Exact", "copy", "(LStackReal$Real;)V"⟩, prog_3_method_2_code, 2, none, [], 2, 0, [], i_Ex_copy)
def i_Ex_becomeSum : List (Nat × Instr × Nat) := [(0, .aload_n 1, 1), (1, .aload_n 2, 1), (2, .invokestatic 33, 3), (5, .ifCond .lt 12, 3), (8, .aload_n 0, 1), (9, .aload_n 1, 1), (10, .aload_n 2, 1), (11, .invokevirtual 37, 3), (14, .goto 9, 3), (17, .aload_n 0, 1), (18, .aload_n 2, 1), (19, .aload_n 1, 1), (20, .invokevirtual 37, 3), (23, .return_, 1)]
def m_Ex_becomeSum : ZM := (⟨"StackReal$Exact", "becomeSum", "(LStackReal$Real;LStackReal$Real;)V"⟩, prog_3_method_4_code, 3, none, [], 2, 0, [], i_Ex_becomeSum)
def i_SR_compareMagnitudes : List (Nat × Instr × Nat) := [(0, .aload_n 0, 1), (1, .getfield 174, 3), (4, .aload_n 1, 1), (5, .getfield 174, 3), (8, .if_icmp .eq 20, 3), (11, .aload_n 0, 1), (12, .getfield 174, 3), (15, .aload_n 1, 1), (16, .getfield 174, 3), (19, .if_icmp .ge 7, 3), (22, .iconst (-1), 1), (23, .goto 4, 3), (26, .iconst 1, 1), (27, .ireturn, 1), (28, .aload_n 0, 1), (29, .getfield 177, 3), (32, .aload_n 1, 1), (33, .getfield 177, 3), (36, .if_icmp .eq 20, 3), (39, .aload_n 0, 1), (40, .getfield 177, 3), (43, .aload_n 1, 1), (44, .getfield 177, 3), (47, .if_icmp .ge 7, 3), (50, .iconst (-1), 1), (51, .goto 4, 3), (54, .iconst 1, 1), (55, .ireturn, 1), (56, .aload_n 0, 1), (57, .getfield 180, 3), (60, .aload_n 1, 1), (61, .getfield 180, 3), (64, .lcmp, 1), (65, .ifCond .ne 5, 3), (68, .iconst 0, 1), (69, .ireturn, 1), (70, .aload_n 0, 1), (71, .getfield 180, 3), (74, .aload_n 1, 1), (75, .getfield 180, 3), (78, .invokestatic 247, 3), (81, .ifCond .eq 7, 3), (84, .iconst (-1), 1), (85, .goto 4, 3), (88, .iconst 1, 1), (89, .ireturn, 1)]
def m_SR_compareMagnitudes : ZM := (⟨"StackReal", "compareMagnitudes", "(LStackReal$Real;LStackReal$Real;)I"⟩, prog_1_method_33_code, 2, some .int, [], 0, 0, [], i_SR_compareMagnitudes)
def i_SR_isBelow : List (Nat × Instr × Nat) := [(0, .lload_n 0, 1), (1, .ldc2_w 251, 3), (4, .lxor, 1), (5, .lload_n 2, 1), (6, .ldc2_w 251, 3), (9, .lxor, 1), (10, .lcmp, 1), (11, .ifCond .ge 7, 3), (14, .iconst 1, 1), (15, .goto 4, 3), (18, .iconst 0, 1), (19, .ireturn, 1)]
def m_SR_isBelow : ZM := (⟨"StackReal", "isBelow", "(JJ)Z"⟩, prog_1_method_34_code, 4, some .boolean, [], 0, 0, [], i_SR_isBelow)
def i_Ex_combine : List (Nat × Instr × Nat) := [(0, .aload_n 0, 1), (1, .aload_n 1, 1), (2, .invokevirtual 41, 3), (5, .aload_n 1, 1), (6, .getfield 18, 3), (9, .aload_n 2, 1), (10, .getfield 18, 3), (13, .isub, 1), (14, .istore_n 3, 1), (15, .iload_n 3, 1), (16, .bipush 64, 2), (18, .if_icmp .ge 12, 3), (21, .aload_n 2, 1), (22, .getfield 23, 3), (25, .iload_n 3, 1), (26, .lushr, 1), (27, .goto 4, 3), (30, .lconst 0, 1), (31, .lstore 4, 2), (33, .aload_n 2, 1), (34, .getfield 23, 3), (37, .iload_n 3, 1), (38, .invokestatic 45, 3), (41, .lstore 6, 2), (43, .aload_n 1, 1), (44, .getfield 9, 3), (47, .aload_n 2, 1), (48, .getfield 9, 3), (51, .if_icmp .ne 14, 3), (54, .aload_n 0, 1), (55, .lload 4, 2), (57, .lload 6, 2), (59, .invokevirtual 49, 3), (62, .goto 11, 3), (65, .aload_n 0, 1), (66, .lload 4, 2), (68, .lload 6, 2), (70, .invokevirtual 53, 3), (73, .return_, 1)]
def m_Ex_combine : ZM := (⟨"StackReal$Exact", "combine", "(LStackReal$Real;LStackReal$Real;)V"⟩, prog_3_method_5_code, 8, none, [], 2, 0, [], i_Ex_combine)
def i_Ex_lowerPart : List (Nat × Instr × Nat) := [(0, .iload_n 2, 1), (1, .ifCond .ne 5, 3), (4, .lconst 0, 1), (5, .lreturn, 1), (6, .iload_n 2, 1), (7, .bipush 64, 2), (9, .if_icmp .gt 10, 3), (12, .lload_n 0, 1), (13, .bipush 64, 2), (15, .iload_n 2, 1), (16, .isub, 1), (17, .lshl, 1), (18, .lreturn, 1), (19, .iload_n 2, 1), (20, .sipush 128, 3), (23, .if_icmp .lt 5, 3), (26, .lconst 1, 1), (27, .lreturn, 1), (28, .lload_n 0, 1), (29, .sipush 128, 3), (32, .iload_n 2, 1), (33, .isub, 1), (34, .lshl, 1), (35, .lstore_n 3, 1), (36, .lload_n 0, 1), (37, .iload_n 2, 1), (38, .bipush 64, 2), (40, .isub, 1), (41, .lushr, 1), (42, .lload_n 3, 1), (43, .lconst 0, 1), (44, .lcmp, 1), (45, .ifCond .eq 7, 3), (48, .iconst 1, 1), (49, .goto 4, 3), (52, .iconst 0, 1), (53, .i2l, 1), (54, .lor, 1), (55, .lreturn, 1)]
def m_Ex_lowerPart : ZM := (⟨"StackReal$Exact", "lowerPart", "(JI)J"⟩, prog_3_method_6_code, 5, some .long, [], 2, 0, [], i_Ex_lowerPart)
def i_Ex_putOn : List (Nat × Instr × Nat) := [(0, .aload_n 0, 1), (1, .getfield 27, 3), (4, .lload_n 1, 1), (5, .ladd, 1), (6, .lstore 5, 2), (8, .aload_n 0, 1), (9, .lload_n 3, 1), (10, .putfield 30, 3), (13, .lload 5, 2), (15, .aload_n 0, 1), (16, .getfield 27, 3), (19, .invokestatic 56, 3), (22, .ifCond .eq 36, 3), (25, .aload_n 0, 1), (26, .lload 5, 2), (28, .bipush 63, 2), (30, .lshl, 1), (31, .lload_n 3, 1), (32, .iconst 1, 1), (33, .lushr, 1), (34, .lor, 1), (35, .putfield 30, 3), (38, .lload 5, 2), (40, .iconst 1, 1), (41, .lushr, 1), (42, .ldc2_w 60, 3), (45, .lor, 1), (46, .lstore 5, 2), (48, .aload_n 0, 1), (49, .dup, 1), (50, .getfield 22, 3), (53, .iconst 1, 1), (54, .iadd, 1), (55, .putfield 22, 3), (58, .aload_n 0, 1), (59, .lload 5, 2), (61, .putfield 27, 3), (64, .return_, 1)]
def m_Ex_putOn : ZM := (⟨"StackReal$Exact", "putOn", "(JJ)V"⟩, prog_3_method_7_code, 7, none, [], 2, 0, [], i_Ex_putOn)
def i_Ex_takeAway : List (Nat × Instr × Nat) := [(0, .aload_n 0, 1), (1, .aload_n 0, 1), (2, .getfield 27, 3), (5, .lload_n 1, 1), (6, .lsub, 1), (7, .lload_n 3, 1), (8, .lconst 0, 1), (9, .lcmp, 1), (10, .ifCond .eq 7, 3), (13, .iconst 1, 1), (14, .goto 4, 3), (17, .iconst 0, 1), (18, .i2l, 1), (19, .lsub, 1), (20, .putfield 27, 3), (23, .aload_n 0, 1), (24, .lload_n 3, 1), (25, .lneg, 1), (26, .putfield 30, 3), (29, .aload_n 0, 1), (30, .invokevirtual 62, 3), (33, .return_, 1)]
def m_Ex_takeAway : ZM := (⟨"StackReal$Exact", "takeAway", "(JJ)V"⟩, prog_3_method_8_code, 5, none, [], 2, 0, [], i_Ex_takeAway)
def i_Ex_normalize : List (Nat × Instr × Nat) := [(0, .aload_n 0, 1), (1, .getfield 27, 3), (4, .lconst 0, 1), (5, .lcmp, 1), (6, .ifCond .ne 27, 3), (9, .aload_n 0, 1), (10, .aload_n 0, 1), (11, .getfield 30, 3), (14, .putfield 27, 3), (17, .aload_n 0, 1), (18, .lconst 0, 1), (19, .putfield 30, 3), (22, .aload_n 0, 1), (23, .dup, 1), (24, .getfield 22, 3), (27, .bipush 64, 2), (29, .isub, 1), (30, .putfield 22, 3), (33, .iconst 0, 1), (34, .istore_n 1, 1), (35, .iload_n 1, 1), (36, .bipush 63, 2), (38, .if_icmp .ge 56, 3), (41, .aload_n 0, 1), (42, .getfield 27, 3), (45, .lconst 0, 1), (46, .lcmp, 1), (47, .ifCond .le 47, 3), (50, .aload_n 0, 1), (51, .aload_n 0, 1), (52, .getfield 27, 3), (55, .iconst 1, 1), (56, .lshl, 1), (57, .aload_n 0, 1), (58, .getfield 30, 3), (61, .bipush 63, 2), (63, .lushr, 1), (64, .lor, 1), (65, .putfield 27, 3), (68, .aload_n 0, 1), (69, .dup, 1), (70, .getfield 30, 3), (73, .iconst 1, 1), (74, .lshl, 1), (75, .putfield 30, 3), (78, .aload_n 0, 1), (79, .dup, 1), (80, .getfield 22, 3), (83, .iconst 1, 1), (84, .isub, 1), (85, .putfield 22, 3), (88, .iinc 1 1, 3), (91, .goto (-56), 3), (94, .return_, 1)]
def m_Ex_normalize : ZM := (⟨"StackReal$Exact", "normalize", "()V"⟩, prog_3_method_9_code, 2, none, [], 2, 0, [], i_Ex_normalize)
def i_Ex_isZero : List (Nat × Instr × Nat) := [(0, .aload_n 0, 1), (1, .getfield 27, 3), (4, .lconst 0, 1), (5, .lcmp, 1), (6, .ifCond .ne 16, 3), (9, .aload_n 0, 1), (10, .getfield 30, 3), (13, .lconst 0, 1), (14, .lcmp, 1), (15, .ifCond .ne 7, 3), (18, .iconst 1, 1), (19, .goto 4, 3), (22, .iconst 0, 1), (23, .ireturn, 1)]
def m_Ex_isZero : ZM := (⟨"StackReal$Exact", "isZero", "()Z"⟩, prog_3_method_3_code, 1, some .boolean, [], 2, 0, [], i_Ex_isZero)
def i_Ro_round : List (Nat × Instr × Nat) := [(0, .aload_n 0, 1), (1, .aload_n 1, 1), (2, .aload_n 0, 1), (3, .getfield 9, 3), (6, .sipush (-16382), 3), (9, .sipush 16383, 3), (12, .aload_n 2, 1), (13, .invokevirtual 18, 3), (16, .ireturn, 1)]
def m_Ro_round : ZM := (⟨"StackReal$Rounding", "round", "(LStackReal$Exact;LStackReal$Real;)I"⟩, prog_7_method_2_code, 3, some .int, [], 3, 0, [], i_Ro_round)
def i_Ro_roundTo : List (Nat × Instr × Nat) := [(0, .lconst 1, 1), (1, .bipush 64, 2), (3, .iload_n 2, 1), (4, .isub, 1), (5, .lshl, 1), (6, .lstore 6, 2), (8, .iload_n 2, 1), (9, .bipush 64, 2), (11, .if_icmp .ne 10, 3), (14, .aload_n 1, 1), (15, .getfield 22, 3), (18, .goto 9, 3), (21, .aload_n 1, 1), (22, .getfield 28, 3), (25, .iload_n 2, 1), (26, .lshl, 1), (27, .lstore 8, 2), (29, .lload 8, 2), (31, .lconst 0, 1), (32, .lcmp, 1), (33, .ifCond .ge 7, 3), (36, .iconst 1, 1), (37, .goto 4, 3), (40, .iconst 0, 1), (41, .istore 10, 2), (43, .lload 8, 2), (45, .iconst 1, 1), (46, .lshl, 1), (47, .lconst 0, 1), (48, .lcmp, 1), (49, .ifCond .ne 18, 3), (52, .iload_n 2, 1), (53, .bipush 64, 2), (55, .if_icmp .ge 16, 3), (58, .aload_n 1, 1), (59, .getfield 22, 3), (62, .lconst 0, 1), (63, .lcmp, 1), (64, .ifCond .eq 7, 3), (67, .iconst 1, 1), (68, .goto 4, 3), (71, .iconst 0, 1), (72, .istore 11, 2), (74, .aload_n 1, 1), (75, .getfield 28, 3), (78, .lload 6, 2), (80, .lneg, 1), (81, .land, 1), (82, .lstore 12, 2), (84, .aload_n 1, 1), (85, .getfield 31, 3), (88, .istore 14, 2), (90, .aload_n 0, 1), (91, .aload_n 1, 1), (92, .getfield 34, 3), (95, .lload 12, 2), (97, .lload 6, 2), (99, .land, 1), (100, .lconst 0, 1), (101, .lcmp, 1), (102, .ifCond .eq 7, 3), (105, .iconst 1, 1), (106, .goto 4, 3), (109, .iconst 0, 1), (110, .iload 10, 2), (112, .iload 11, 2), (114, .invokevirtual 38, 3), (117, .ifCond .eq 25, 3), (120, .lload 12, 2), (122, .lload 6, 2), (124, .ladd, 1), (125, .lstore 12, 2), (127, .lload 12, 2), (129, .lconst 0, 1), (130, .lcmp, 1), (131, .ifCond .ne 11, 3), (134, .ldc2_w 42, 3), (137, .lstore 12, 2), (139, .iinc 14 1, 3), (142, .iload 14, 2), (144, .iload 4, 2), (146, .if_icmp .le 43, 3), (149, .aload_n 0, 1), (150, .aload_n 1, 1), (151, .getfield 34, 3), (154, .invokevirtual 44, 3), (157, .ifCond .eq 20, 3), (160, .aload 5, 2), (162, .aload_n 1, 1), (163, .getfield 34, 3), (166, .iload 4, 2), (168, .lload 6, 2), (170, .lneg, 1), (171, .invokevirtual 48, 3), (174, .goto 12, 3), (177, .aload 5, 2), (179, .aload_n 1, 1), (180, .getfield 34, 3), (183, .invokevirtual 54, 3), (186, .bipush 20, 2), (188, .ireturn, 1), (189, .iload 14, 2), (191, .iload_n 3, 1), (192, .if_icmp .ge 15, 3), (195, .aload 5, 2), (197, .aload_n 1, 1), (198, .getfield 34, 3), (201, .invokevirtual 58, 3), (204, .bipush 24, 2), (206, .ireturn, 1), (207, .aload 5, 2), (209, .aload_n 1, 1), (210, .getfield 34, 3), (213, .iload 14, 2), (215, .lload 12, 2), (217, .invokevirtual 48, 3), (220, .iload 10, 2), (222, .ifCond .ne 8, 3), (225, .iload 11, 2), (227, .ifCond .eq 8, 3), (230, .bipush 16, 2), (232, .goto 4, 3), (235, .iconst 0, 1), (236, .ireturn, 1)]
def m_Ro_roundTo : ZM := (⟨"StackReal$Rounding", "roundTo", "(LStackReal$Exact;IIILStackReal$Real;)I"⟩, prog_7_method_3_code, 15, some .int, [], 3, 0, [], i_Ro_roundTo)
def i_Ro_goesAway : List (Nat × Instr × Nat) := [(0, .aload_n 0, 1), (1, .getfield 15, 3), (4, .ifCond .ne 22, 3), (7, .iload_n 3, 1), (8, .ifCond .eq 16, 3), (11, .iload 4, 2), (13, .ifCond .ne 7, 3), (16, .iload_n 2, 1), (17, .ifCond .eq 7, 3), (20, .iconst 1, 1), (21, .goto 4, 3), (24, .iconst 0, 1), (25, .ireturn, 1), (26, .iload_n 1, 1), (27, .ifCond .eq 19, 3), (30, .aload_n 0, 1), (31, .getfield 15, 3), (34, .iconst 1, 1), (35, .if_icmp .ne 7, 3), (38, .iconst 1, 1), (39, .goto 20, 3), (42, .iconst 0, 1), (43, .goto 16, 3), (46, .aload_n 0, 1), (47, .getfield 15, 3), (50, .iconst 2, 1), (51, .if_icmp .ne 7, 3), (54, .iconst 1, 1), (55, .goto 4, 3), (58, .iconst 0, 1), (59, .istore 5, 2), (61, .iload 5, 2), (63, .ifCond .eq 16, 3), (66, .iload_n 3, 1), (67, .ifCond .ne 8, 3), (70, .iload 4, 2), (72, .ifCond .eq 7, 3), (75, .iconst 1, 1), (76, .goto 4, 3), (79, .iconst 0, 1), (80, .ireturn, 1)]
def m_Ro_goesAway : ZM := (⟨"StackReal$Rounding", "goesAway", "(ZZZZ)Z"⟩, prog_7_method_4_code, 6, some .boolean, [], 3, 0, [], i_Ro_goesAway)
def i_Ro_staysBelowInfinite : List (Nat × Instr × Nat) := [(0, .aload_n 0, 1), (1, .getfield 15, 3), (4, .iconst 3, 1), (5, .if_icmp .eq 19, 3), (8, .aload_n 0, 1), (9, .getfield 15, 3), (12, .iload_n 1, 1), (13, .ifCond .eq 7, 3), (16, .iconst 2, 1), (17, .goto 4, 3), (20, .iconst 1, 1), (21, .if_icmp .ne 7, 3), (24, .iconst 1, 1), (25, .goto 4, 3), (28, .iconst 0, 1), (29, .ireturn, 1)]
def m_Ro_staysBelowInfinite : ZM := (⟨"StackReal$Rounding", "staysBelowInfinite", "(Z)Z"⟩, prog_7_method_5_code, 2, some .boolean, [], 3, 0, [], i_Ro_staysBelowInfinite)
def i_Re_becomeFinite : List (Nat × Instr × Nat) := [(0, .aload_n 0, 1), (1, .iconst 1, 1), (2, .putfield 9, 3), (5, .aload_n 0, 1), (6, .iload_n 1, 1), (7, .putfield 15, 3), (10, .aload_n 0, 1), (11, .iload_n 2, 1), (12, .putfield 19, 3), (15, .aload_n 0, 1), (16, .lload_n 3, 1), (17, .putfield 22, 3), (20, .return_, 1)]
def m_Re_becomeFinite : ZM := (⟨"StackReal$Real", "becomeFinite", "(ZIJ)V"⟩, prog_6_method_6_code, 5, none, [], 1, 0, [], i_Re_becomeFinite)
def i_Re_becomeInfinite : List (Nat × Instr × Nat) := [(0, .aload_n 0, 1), (1, .iconst 2, 1), (2, .putfield 9, 3), (5, .aload_n 0, 1), (6, .iload_n 1, 1), (7, .putfield 15, 3), (10, .aload_n 0, 1), (11, .iconst 0, 1), (12, .putfield 19, 3), (15, .aload_n 0, 1), (16, .lconst 0, 1), (17, .putfield 22, 3), (20, .return_, 1)]
def m_Re_becomeInfinite : ZM := (⟨"StackReal$Real", "becomeInfinite", "(Z)V"⟩, prog_6_method_5_code, 2, none, [], 1, 0, [], i_Re_becomeInfinite)
def i_Re_negate : List (Nat × Instr × Nat) := [(0, .aload_n 0, 1), (1, .aload_n 0, 1), (2, .getfield 9, 3), (5, .iconst 3, 1), (6, .if_icmp .eq 14, 3), (9, .aload_n 0, 1), (10, .getfield 15, 3), (13, .ifCond .ne 7, 3), (16, .iconst 1, 1), (17, .goto 4, 3), (20, .iconst 0, 1), (21, .putfield 15, 3), (24, .return_, 1)]
def m_Re_negate : ZM := (⟨"StackReal$Real", "negate", "()V"⟩, prog_6_method_8_code, 1, none, [], 1, 0, [], i_Re_negate)
def i_Ar_multiply : List (Nat × Instr × Nat) := [(0, .aload_n 1, 1), (1, .getfield 35, 3), (4, .aload_n 2, 1), (5, .getfield 35, 3), (8, .if_icmp .eq 7, 3), (11, .iconst 1, 1), (12, .goto 4, 3), (15, .iconst 0, 1), (16, .istore 4, 2), (18, .aload_n 1, 1), (19, .getfield 22, 3), (22, .iconst 3, 1), (23, .if_icmp .eq 11, 3), (26, .aload_n 2, 1), (27, .getfield 22, 3), (30, .iconst 3, 1), (31, .if_icmp .ne 9, 3), (34, .aload_n 3, 1), (35, .invokevirtual 28, 3), (38, .iconst 0, 1), (39, .ireturn, 1), (40, .aload_n 1, 1), (41, .getfield 22, 3), (44, .iconst 2, 1), (45, .if_icmp .eq 11, 3), (48, .aload_n 2, 1), (49, .getfield 22, 3), (52, .iconst 2, 1), (53, .if_icmp .ne 30, 3), (56, .aload_n 1, 1), (57, .getfield 22, 3), (60, .ifCond .eq 10, 3), (63, .aload_n 2, 1), (64, .getfield 22, 3), (67, .ifCond .ne 8, 3), (70, .aload_n 3, 1), (71, .invokestatic 64, 3), (74, .ireturn, 1), (75, .aload_n 3, 1), (76, .iload 4, 2), (78, .invokevirtual 69, 3), (81, .iconst 0, 1), (82, .ireturn, 1), (83, .aload_n 1, 1), (84, .getfield 22, 3), (87, .ifCond .eq 10, 3), (90, .aload_n 2, 1), (91, .getfield 22, 3), (94, .ifCond .ne 11, 3), (97, .aload_n 3, 1), (98, .iload 4, 2), (100, .invokevirtual 44, 3), (103, .iconst 0, 1), (104, .ireturn, 1), (105, .aload_n 0, 1), (106, .getfield 18, 3), (109, .aload_n 1, 1), (110, .aload_n 2, 1), (111, .invokevirtual 72, 3), (114, .aload_n 0, 1), (115, .getfield 9, 3), (118, .aload_n 0, 1), (119, .getfield 18, 3), (122, .aload_n 3, 1), (123, .invokevirtual 60, 3), (126, .ireturn, 1)]
def m_Ar_multiply : ZM := (⟨"StackReal$Arithmetic", "multiply", "(LStackReal$Real;LStackReal$Real;LStackReal$Real;)I"⟩, prog_2_method_4_code, 5, some .int, [], 4, 0, [], i_Ar_multiply)
def i_Ex_becomeProduct : List (Nat × Instr × Nat) := [(0, .aload_n 0, 1), (1, .aload_n 1, 1), (2, .getfield 9, 3), (5, .aload_n 2, 1), (6, .getfield 9, 3), (9, .if_icmp .eq 7, 3), (12, .iconst 1, 1), (13, .goto 4, 3), (16, .iconst 0, 1), (17, .putfield 15, 3), (20, .aload_n 0, 1), (21, .aload_n 1, 1), (22, .getfield 18, 3), (25, .aload_n 2, 1), (26, .getfield 18, 3), (29, .iadd, 1), (30, .iconst 1, 1), (31, .iadd, 1), (32, .putfield 22, 3), (35, .aload_n 0, 1), (36, .aload_n 1, 1), (37, .getfield 23, 3), (40, .aload_n 2, 1), (41, .getfield 23, 3), (44, .invokevirtual 65, 3), (47, .aload_n 0, 1), (48, .invokevirtual 62, 3), (51, .return_, 1)]
def m_Ex_becomeProduct : ZM := (⟨"StackReal$Exact", "becomeProduct", "(LStackReal$Real;LStackReal$Real;)V"⟩, prog_3_method_10_code, 3, none, [], 2, 0, [], i_Ex_becomeProduct)
def i_Ex_multiplyBits : List (Nat × Instr × Nat) := [(0, .lload_n 1, 1), (1, .bipush 32, 2), (3, .lushr, 1), (4, .lstore 5, 2), (6, .lload_n 1, 1), (7, .ldc2_w 68, 3), (10, .land, 1), (11, .lstore 7, 2), (13, .lload_n 3, 1), (14, .bipush 32, 2), (16, .lushr, 1), (17, .lstore 9, 2), (19, .lload_n 3, 1), (20, .ldc2_w 68, 3), (23, .land, 1), (24, .lstore 11, 2), (26, .lload 5, 2), (28, .lload 11, 2), (30, .lmul, 1), (31, .lload 7, 2), (33, .lload 11, 2), (35, .lmul, 1), (36, .bipush 32, 2), (38, .lushr, 1), (39, .ladd, 1), (40, .lstore 13, 2), (42, .lload 7, 2), (44, .lload 9, 2), (46, .lmul, 1), (47, .lload 13, 2), (49, .ldc2_w 68, 3), (52, .land, 1), (53, .ladd, 1), (54, .lstore 15, 2), (56, .aload_n 0, 1), (57, .lload 5, 2), (59, .lload 9, 2), (61, .lmul, 1), (62, .lload 13, 2), (64, .bipush 32, 2), (66, .lushr, 1), (67, .ladd, 1), (68, .lload 15, 2), (70, .bipush 32, 2), (72, .lushr, 1), (73, .ladd, 1), (74, .putfield 27, 3), (77, .aload_n 0, 1), (78, .lload_n 1, 1), (79, .lload_n 3, 1), (80, .lmul, 1), (81, .putfield 30, 3), (84, .return_, 1)]
def m_Ex_multiplyBits : ZM := (⟨"StackReal$Exact", "multiplyBits", "(JJ)V"⟩, prog_3_method_11_code, 17, none, [], 2, 0, [], i_Ex_multiplyBits)
def i_Ar_divide : List (Nat × Instr × Nat) := [(0, .aload_n 1, 1), (1, .getfield 35, 3), (4, .aload_n 2, 1), (5, .getfield 35, 3), (8, .if_icmp .eq 7, 3), (11, .iconst 1, 1), (12, .goto 4, 3), (15, .iconst 0, 1), (16, .istore 4, 2), (18, .aload_n 1, 1), (19, .getfield 22, 3), (22, .iconst 3, 1), (23, .if_icmp .eq 11, 3), (26, .aload_n 2, 1), (27, .getfield 22, 3), (30, .iconst 3, 1), (31, .if_icmp .ne 9, 3), (34, .aload_n 3, 1), (35, .invokevirtual 28, 3), (38, .iconst 0, 1), (39, .ireturn, 1), (40, .aload_n 1, 1), (41, .getfield 22, 3), (44, .aload_n 2, 1), (45, .getfield 22, 3), (48, .if_icmp .ne 16, 3), (51, .aload_n 1, 1), (52, .getfield 22, 3), (55, .iconst 1, 1), (56, .if_icmp .eq 8, 3), (59, .aload_n 3, 1), (60, .invokestatic 64, 3), (63, .ireturn, 1), (64, .aload_n 1, 1), (65, .getfield 22, 3), (68, .iconst 2, 1), (69, .if_icmp .ne 11, 3), (72, .aload_n 3, 1), (73, .iload 4, 2), (75, .invokevirtual 69, 3), (78, .iconst 0, 1), (79, .ireturn, 1), (80, .aload_n 2, 1), (81, .getfield 22, 3), (84, .iconst 2, 1), (85, .if_icmp .eq 10, 3), (88, .aload_n 1, 1), (89, .getfield 22, 3), (92, .ifCond .ne 11, 3), (95, .aload_n 3, 1), (96, .iload 4, 2), (98, .invokevirtual 44, 3), (101, .iconst 0, 1), (102, .ireturn, 1), (103, .aload_n 2, 1), (104, .getfield 22, 3), (107, .ifCond .ne 11, 3), (110, .aload_n 3, 1), (111, .iload 4, 2), (113, .invokevirtual 69, 3), (116, .iconst 2, 1), (117, .ireturn, 1), (118, .aload_n 0, 1), (119, .getfield 18, 3), (122, .aload_n 1, 1), (123, .aload_n 2, 1), (124, .invokevirtual 75, 3), (127, .aload_n 0, 1), (128, .getfield 9, 3), (131, .aload_n 0, 1), (132, .getfield 18, 3), (135, .aload_n 3, 1), (136, .invokevirtual 60, 3), (139, .ireturn, 1)]
def m_Ar_divide : ZM := (⟨"StackReal$Arithmetic", "divide", "(LStackReal$Real;LStackReal$Real;LStackReal$Real;)I"⟩, prog_2_method_5_code, 5, some .int, [], 4, 0, [], i_Ar_divide)
def i_Ex_becomeQuotient : List (Nat × Instr × Nat) := [(0, .aload_n 0, 1), (1, .aload_n 1, 1), (2, .getfield 9, 3), (5, .aload_n 2, 1), (6, .getfield 9, 3), (9, .if_icmp .eq 7, 3), (12, .iconst 1, 1), (13, .goto 4, 3), (16, .iconst 0, 1), (17, .putfield 15, 3), (20, .aload_n 0, 1), (21, .aload_n 1, 1), (22, .getfield 18, 3), (25, .aload_n 2, 1), (26, .getfield 18, 3), (29, .isub, 1), (30, .putfield 22, 3), (33, .aload_n 2, 1), (34, .getfield 23, 3), (37, .lstore_n 3, 1), (38, .aload_n 1, 1), (39, .getfield 23, 3), (42, .lstore 5, 2), (44, .bipush 63, 2), (46, .istore 7, 2), (48, .aload_n 0, 1), (49, .lconst 1, 1), (50, .putfield 27, 3), (53, .lload 5, 2), (55, .lload_n 3, 1), (56, .invokestatic 56, 3), (59, .ifCond .eq 25, 3), (62, .aload_n 0, 1), (63, .dup, 1), (64, .getfield 22, 3), (67, .iconst 1, 1), (68, .isub, 1), (69, .putfield 22, 3), (72, .bipush 64, 2), (74, .istore 7, 2), (76, .aload_n 0, 1), (77, .lconst 0, 1), (78, .putfield 27, 3), (81, .goto 9, 3), (84, .lload 5, 2), (86, .lload_n 3, 1), (87, .lsub, 1), (88, .lstore 5, 2), (90, .iconst 0, 1), (91, .istore 8, 2), (93, .iload 8, 2), (95, .iload 7, 2), (97, .if_icmp .ge 59, 3), (100, .lload_n 3, 1), (101, .lload 5, 2), (103, .invokestatic 70, 3), (106, .istore 9, 2), (108, .iload 9, 2), (110, .ifCond .eq 12, 3), (113, .lload 5, 2), (115, .iconst 1, 1), (116, .lshl, 1), (117, .lload_n 3, 1), (118, .lsub, 1), (119, .goto 7, 3), (122, .lload 5, 2), (124, .iconst 1, 1), (125, .lshl, 1), (126, .lstore 5, 2), (128, .aload_n 0, 1), (129, .aload_n 0, 1), (130, .getfield 27, 3), (133, .iconst 1, 1), (134, .lshl, 1), (135, .iload 9, 2), (137, .ifCond .eq 7, 3), (140, .iconst 1, 1), (141, .goto 4, 3), (144, .iconst 0, 1), (145, .i2l, 1), (146, .lor, 1), (147, .putfield 27, 3), (150, .iinc 8 1, 3), (153, .goto (-60), 3), (156, .lload_n 3, 1), (157, .lload 5, 2), (159, .invokestatic 70, 3), (162, .istore 8, 2), (164, .iload 8, 2), (166, .ifCond .eq 12, 3), (169, .lload 5, 2), (171, .iconst 1, 1), (172, .lshl, 1), (173, .lload_n 3, 1), (174, .lsub, 1), (175, .goto 5, 3), (178, .lload 5, 2), (180, .lstore 9, 2), (182, .aload_n 0, 1), (183, .iload 8, 2), (185, .ifCond .eq 9, 3), (188, .ldc2_w 60, 3), (191, .goto 4, 3), (194, .lconst 0, 1), (195, .lload 9, 2), (197, .lconst 0, 1), (198, .lcmp, 1), (199, .ifCond .eq 7, 3), (202, .iconst 1, 1), (203, .goto 4, 3), (206, .iconst 0, 1), (207, .i2l, 1), (208, .lor, 1), (209, .putfield 30, 3), (212, .return_, 1)]
def m_Ex_becomeQuotient : ZM := (⟨"StackReal$Exact", "becomeQuotient", "(LStackReal$Real;LStackReal$Real;)V"⟩, prog_3_method_12_code, 11, none, [], 2, 0, [], i_Ex_becomeQuotient)
def i_Ex_fitsInDouble : List (Nat × Instr × Nat) := [(0, .lload_n 2, 1), (1, .lconst 0, 1), (2, .lcmp, 1), (3, .ifCond .lt 13, 3), (6, .lload_n 2, 1), (7, .iconst 1, 1), (8, .lshl, 1), (9, .lload_n 0, 1), (10, .invokestatic 56, 3), (13, .ifCond .ne 7, 3), (16, .iconst 1, 1), (17, .goto 4, 3), (20, .iconst 0, 1), (21, .ireturn, 1)]
def m_Ex_fitsInDouble : ZM := (⟨"StackReal$Exact", "fitsInDouble", "(JJ)Z"⟩, prog_3_method_13_code, 4, some .boolean, [], 2, 0, [], i_Ex_fitsInDouble)
def i_Ar_root : List (Nat × Instr × Nat) := [(0, .aload_n 1, 1), (1, .getfield 22, 3), (4, .ifCond .eq 11, 3), (7, .aload_n 1, 1), (8, .getfield 22, 3), (11, .iconst 3, 1), (12, .if_icmp .ne 10, 3), (15, .aload_n 2, 1), (16, .aload_n 1, 1), (17, .invokevirtual 68, 3), (20, .iconst 0, 1), (21, .ireturn, 1), (22, .aload_n 1, 1), (23, .getfield 35, 3), (26, .ifCond .eq 8, 3), (29, .aload_n 2, 1), (30, .invokestatic 64, 3), (33, .ireturn, 1), (34, .aload_n 1, 1), (35, .getfield 22, 3), (38, .iconst 2, 1), (39, .if_icmp .ne 10, 3), (42, .aload_n 2, 1), (43, .aload_n 1, 1), (44, .invokevirtual 68, 3), (47, .iconst 0, 1), (48, .ireturn, 1), (49, .aload_n 0, 1), (50, .getfield 18, 3), (53, .aload_n 1, 1), (54, .invokevirtual 78, 3), (57, .aload_n 0, 1), (58, .getfield 9, 3), (61, .aload_n 0, 1), (62, .getfield 18, 3), (65, .aload_n 2, 1), (66, .invokevirtual 60, 3), (69, .ireturn, 1)]
def m_Ar_root : ZM := (⟨"StackReal$Arithmetic", "root", "(LStackReal$Real;LStackReal$Real;)I"⟩, prog_2_method_6_code, 3, some .int, [], 4, 0, [], i_Ar_root)
def i_Ex_becomeRoot : List (Nat × Instr × Nat) := [(0, .aload_n 1, 1), (1, .getfield 18, 3), (4, .iconst 1, 1), (5, .iand, 1), (6, .ifCond .eq 7, 3), (9, .iconst 1, 1), (10, .goto 4, 3), (13, .iconst 0, 1), (14, .istore_n 2, 1), (15, .iload_n 2, 1), (16, .ifCond .eq 10, 3), (19, .aload_n 1, 1), (20, .getfield 23, 3), (23, .goto 9, 3), (26, .aload_n 1, 1), (27, .getfield 23, 3), (30, .iconst 1, 1), (31, .lushr, 1), (32, .lstore_n 3, 1), (33, .iload_n 2, 1), (34, .ifCond .eq 7, 3), (37, .lconst 0, 1), (38, .goto 10, 3), (41, .aload_n 1, 1), (42, .getfield 23, 3), (45, .bipush 63, 2), (47, .lshl, 1), (48, .lstore 5, 2), (50, .lconst 0, 1), (51, .lstore 7, 2), (53, .bipush 63, 2), (55, .istore 9, 2), (57, .iload 9, 2), (59, .ifCond .lt 40, 3), (62, .lload 7, 2), (64, .lconst 1, 1), (65, .iload 9, 2), (67, .lshl, 1), (68, .lor, 1), (69, .lstore 10, 2), (71, .aload_n 0, 1), (72, .lload 10, 2), (74, .lload 10, 2), (76, .invokevirtual 65, 3), (79, .aload_n 0, 1), (80, .lload_n 3, 1), (81, .lload 5, 2), (83, .invokevirtual 73, 3), (86, .ifCond .ne 7, 3), (89, .lload 10, 2), (91, .lstore 7, 2), (93, .iinc 9 (-1), 3), (96, .goto (-39), 3), (99, .aload_n 0, 1), (100, .lload 7, 2), (102, .lload 7, 2), (104, .invokevirtual 65, 3), (107, .lload 5, 2), (109, .aload_n 0, 1), (110, .getfield 30, 3), (113, .lsub, 1), (114, .lstore 9, 2), (116, .lload_n 3, 1), (117, .aload_n 0, 1), (118, .getfield 27, 3), (121, .lsub, 1), (122, .lload 5, 2), (124, .aload_n 0, 1), (125, .getfield 30, 3), (128, .invokestatic 56, 3), (131, .ifCond .eq 7, 3), (134, .iconst 1, 1), (135, .goto 4, 3), (138, .iconst 0, 1), (139, .i2l, 1), (140, .lsub, 1), (141, .lstore 11, 2), (143, .lload 11, 2), (145, .lconst 0, 1), (146, .lcmp, 1), (147, .ifCond .ne 13, 3), (150, .lload 7, 2), (152, .lload 9, 2), (154, .invokestatic 56, 3), (157, .ifCond .eq 7, 3), (160, .iconst 1, 1), (161, .goto 4, 3), (164, .iconst 0, 1), (165, .istore 13, 2), (167, .aload_n 0, 1), (168, .iconst 0, 1), (169, .putfield 15, 3), (172, .aload_n 0, 1), (173, .aload_n 1, 1), (174, .getfield 18, 3), (177, .iconst 1, 1), (178, .ishr, 1), (179, .putfield 22, 3), (182, .aload_n 0, 1), (183, .lload 7, 2), (185, .putfield 27, 3), (188, .aload_n 0, 1), (189, .iload 13, 2), (191, .ifCond .eq 9, 3), (194, .ldc2_w 60, 3), (197, .goto 4, 3), (200, .lconst 0, 1), (201, .lload 11, 2), (203, .lload 9, 2), (205, .lor, 1), (206, .lconst 0, 1), (207, .lcmp, 1), (208, .ifCond .eq 7, 3), (211, .iconst 1, 1), (212, .goto 4, 3), (215, .iconst 0, 1), (216, .i2l, 1), (217, .lor, 1), (218, .putfield 30, 3), (221, .return_, 1)]
def m_Ex_becomeRoot : ZM := (⟨"StackReal$Exact", "becomeRoot", "(LStackReal$Real;)V"⟩, prog_3_method_14_code, 14, none, [], 2, 0, [], i_Ex_becomeRoot)
def i_Ex_isAbove : List (Nat × Instr × Nat) := [(0, .aload_n 0, 1), (1, .getfield 27, 3), (4, .lload_n 1, 1), (5, .lcmp, 1), (6, .ifCond .ne 14, 3), (9, .lload_n 3, 1), (10, .aload_n 0, 1), (11, .getfield 30, 3), (14, .invokestatic 56, 3), (17, .goto 11, 3), (20, .lload_n 1, 1), (21, .aload_n 0, 1), (22, .getfield 27, 3), (25, .invokestatic 56, 3), (28, .ireturn, 1)]
def m_Ex_isAbove : ZM := (⟨"StackReal$Exact", "isAbove", "(JJ)Z"⟩, prog_3_method_15_code, 5, some .boolean, [], 2, 0, [], i_Ex_isAbove)
def i_Ar_makeWhole : List (Nat × Instr × Nat) := [(0, .aload_n 1, 1), (1, .getfield 22, 3), (4, .iconst 1, 1), (5, .if_icmp .ne 10, 3), (8, .aload_n 1, 1), (9, .invokevirtual 81, 3), (12, .ifCond .eq 10, 3), (15, .aload_n 2, 1), (16, .aload_n 1, 1), (17, .invokevirtual 68, 3), (20, .iconst 0, 1), (21, .ireturn, 1), (22, .aload_n 2, 1), (23, .aload_n 1, 1), (24, .getfield 35, 3), (27, .aload_n 0, 1), (28, .getfield 9, 3), (31, .aload_n 1, 1), (32, .invokevirtual 84, 3), (35, .invokevirtual 88, 3), (38, .bipush 16, 2), (40, .ireturn, 1)]
def m_Ar_makeWhole : ZM := (⟨"StackReal$Arithmetic", "makeWhole", "(LStackReal$Real;LStackReal$Real;)I"⟩, prog_2_method_7_code, 3, some .int, [], 4, 0, [], i_Ar_makeWhole)
def i_Re_isWhole : List (Nat × Instr × Nat) := [(0, .aload_n 0, 1), (1, .getfield 19, 3), (4, .bipush 63, 2), (6, .if_icmp .ge 26, 3), (9, .aload_n 0, 1), (10, .getfield 19, 3), (13, .ifCond .lt 23, 3), (16, .aload_n 0, 1), (17, .getfield 22, 3), (20, .aload_n 0, 1), (21, .getfield 19, 3), (24, .iconst 1, 1), (25, .iadd, 1), (26, .lshl, 1), (27, .lconst 0, 1), (28, .lcmp, 1), (29, .ifCond .ne 7, 3), (32, .iconst 1, 1), (33, .goto 4, 3), (36, .iconst 0, 1), (37, .ireturn, 1)]
def m_Re_isWhole : ZM := (⟨"StackReal$Real", "isWhole", "()Z"⟩, prog_6_method_9_code, 1, some .boolean, [], 1, 0, [], i_Re_isWhole)
def i_Ro_wholeMagnitude : List (Nat × Instr × Nat) := [(0, .aload_n 1, 1), (1, .getfield 61, 3), (4, .bipush 63, 2), (6, .if_icmp .ne 8, 3), (9, .aload_n 1, 1), (10, .getfield 62, 3), (13, .lreturn, 1), (14, .aload_n 1, 1), (15, .getfield 61, 3), (18, .iconst (-1), 1), (19, .if_icmp .ge 23, 3), (22, .aload_n 0, 1), (23, .aload_n 1, 1), (24, .getfield 65, 3), (27, .iconst 0, 1), (28, .iconst 0, 1), (29, .iconst 1, 1), (30, .invokevirtual 38, 3), (33, .ifCond .eq 7, 3), (36, .lconst 1, 1), (37, .goto 4, 3), (40, .lconst 0, 1), (41, .lreturn, 1), (42, .aload_n 1, 1), (43, .getfield 62, 3), (46, .iconst 1, 1), (47, .lushr, 1), (48, .bipush 62, 2), (50, .aload_n 1, 1), (51, .getfield 61, 3), (54, .isub, 1), (55, .lushr, 1), (56, .lstore_n 2, 1), (57, .aload_n 1, 1), (58, .getfield 62, 3), (61, .aload_n 1, 1), (62, .getfield 61, 3), (65, .iconst 1, 1), (66, .iadd, 1), (67, .lshl, 1), (68, .lstore 4, 2), (70, .aload_n 0, 1), (71, .aload_n 1, 1), (72, .getfield 65, 3), (75, .lload_n 2, 1), (76, .lconst 1, 1), (77, .land, 1), (78, .lconst 0, 1), (79, .lcmp, 1), (80, .ifCond .eq 7, 3), (83, .iconst 1, 1), (84, .goto 4, 3), (87, .iconst 0, 1), (88, .lload 4, 2), (90, .lconst 0, 1), (91, .lcmp, 1), (92, .ifCond .ge 7, 3), (95, .iconst 1, 1), (96, .goto 4, 3), (99, .iconst 0, 1), (100, .lload 4, 2), (102, .iconst 1, 1), (103, .lshl, 1), (104, .lconst 0, 1), (105, .lcmp, 1), (106, .ifCond .eq 7, 3), (109, .iconst 1, 1), (110, .goto 4, 3), (113, .iconst 0, 1), (114, .invokevirtual 38, 3), (117, .istore 6, 2), (119, .iload 6, 2), (121, .ifCond .eq 9, 3), (124, .lload_n 2, 1), (125, .lconst 1, 1), (126, .ladd, 1), (127, .goto 4, 3), (130, .lload_n 2, 1), (131, .lreturn, 1)]
def m_Ro_wholeMagnitude : ZM := (⟨"StackReal$Rounding", "wholeMagnitude", "(LStackReal$Real;)J"⟩, prog_7_method_6_code, 7, some .long, [], 3, 0, [], i_Ro_wholeMagnitude)
def i_Re_becomeWhole : List (Nat × Instr × Nat) := [(0, .lload_n 2, 1), (1, .lconst 0, 1), (2, .lcmp, 1), (3, .ifCond .ne 9, 3), (6, .aload_n 0, 1), (7, .iload_n 1, 1), (8, .invokevirtual 26, 3), (11, .return_, 1), (12, .lload_n 2, 1), (13, .lstore 4, 2), (15, .bipush 63, 2), (17, .istore 6, 2), (19, .iconst 0, 1), (20, .istore 7, 2), (22, .iload 7, 2), (24, .bipush 63, 2), (26, .if_icmp .ge 25, 3), (29, .lload 4, 2), (31, .lconst 0, 1), (32, .lcmp, 1), (33, .ifCond .le 18, 3), (36, .lload 4, 2), (38, .iconst 1, 1), (39, .lshl, 1), (40, .lstore 4, 2), (42, .iinc 6 (-1), 3), (45, .iinc 7 1, 3), (48, .goto (-26), 3), (51, .aload_n 0, 1), (52, .iload_n 1, 1), (53, .iload 6, 2), (55, .lload 4, 2), (57, .invokevirtual 30, 3), (60, .return_, 1)]
def m_Re_becomeWhole : ZM := (⟨"StackReal$Real", "becomeWhole", "(ZJ)V"⟩, prog_6_method_7_code, 8, none, [], 1, 0, [], i_Re_becomeWhole)
def i_Ar_scale : List (Nat × Instr × Nat) := [(0, .aload_n 2, 1), (1, .getfield 22, 3), (4, .iconst 3, 1), (5, .if_icmp .eq 11, 3), (8, .aload_n 1, 1), (9, .getfield 22, 3), (12, .iconst 3, 1), (13, .if_icmp .ne 9, 3), (16, .aload_n 3, 1), (17, .invokevirtual 28, 3), (20, .iconst 0, 1), (21, .ireturn, 1), (22, .aload_n 2, 1), (23, .getfield 22, 3), (26, .iconst 2, 1), (27, .if_icmp .eq 19, 3), (30, .aload_n 2, 1), (31, .invokevirtual 81, 3), (34, .ifCond .eq 12, 3), (37, .aload_n 2, 1), (38, .getfield 92, 3), (41, .bipush 15, 2), (43, .if_icmp .le 8, 3), (46, .aload_n 3, 1), (47, .invokestatic 64, 3), (50, .ireturn, 1), (51, .aload_n 2, 1), (52, .getfield 95, 3), (55, .bipush 63, 2), (57, .aload_n 2, 1), (58, .getfield 92, 3), (61, .isub, 1), (62, .lushr, 1), (63, .l2i, 1), (64, .istore 4, 2), (66, .iload 4, 2), (68, .ldc 99, 2), (70, .if_icmp .le 8, 3), (73, .aload_n 3, 1), (74, .invokestatic 64, 3), (77, .ireturn, 1), (78, .aload_n 1, 1), (79, .getfield 22, 3), (82, .iconst 1, 1), (83, .if_icmp .eq 10, 3), (86, .aload_n 3, 1), (87, .aload_n 1, 1), (88, .invokevirtual 68, 3), (91, .iconst 0, 1), (92, .ireturn, 1), (93, .aload_n 0, 1), (94, .getfield 18, 3), (97, .aload_n 1, 1), (98, .invokevirtual 48, 3), (101, .aload_n 0, 1), (102, .getfield 18, 3), (105, .dup, 1), (106, .getfield 100, 3), (109, .aload_n 2, 1), (110, .getfield 35, 3), (113, .ifCond .eq 9, 3), (116, .iload 4, 2), (118, .ineg, 1), (119, .goto 5, 3), (122, .iload 4, 2), (124, .iadd, 1), (125, .putfield 100, 3), (128, .aload_n 0, 1), (129, .getfield 9, 3), (132, .aload_n 0, 1), (133, .getfield 18, 3), (136, .aload_n 3, 1), (137, .invokevirtual 60, 3), (140, .ireturn, 1)]
def m_Ar_scale : ZM := (⟨"StackReal$Arithmetic", "scale", "(LStackReal$Real;LStackReal$Real;LStackReal$Real;)I"⟩, prog_2_method_8_code, 5, some .int, [], 4, 0, [], i_Ar_scale)
def i_SR_carryOut : List (Nat × Instr × Nat) := [(0, .iload_n 1, 1), (1, .tableswitch 218 0 14 #[75, 75, 75, 75, 100, 100, 100, 115, 122, 134, 145, 153, 165, 178, 198], 75), (76, .aload_n 0, 1), (77, .dup, 1), (78, .getfield 53, 3), (81, .iconst 1, 1), (82, .isub, 1), (83, .putfield 53, 3), (86, .aload_n 0, 1), (87, .iconst 0, 1), (88, .invokevirtual 134, 3), (91, .aload_n 0, 1), (92, .getfield 16, 3), (95, .invokevirtual 183, 3), (98, .goto 137, 3), (101, .aload_n 0, 1), (102, .iconst 0, 1), (103, .invokevirtual 134, 3), (106, .aload_n 0, 1), (107, .getfield 16, 3), (110, .invokevirtual 183, 3), (113, .goto 122, 3), (116, .aload_n 0, 1), (117, .invokevirtual 220, 3), (120, .goto 115, 3), (123, .aload_n 0, 1), (124, .iconst 0, 1), (125, .invokevirtual 134, 3), (128, .iconst 0, 1), (129, .putfield 170, 3), (132, .goto 103, 3), (135, .aload_n 0, 1), (136, .iconst 0, 1), (137, .invokevirtual 134, 3), (140, .invokevirtual 201, 3), (143, .goto 92, 3), (146, .aload_n 0, 1), (147, .iload_n 2, 1), (148, .invokevirtual 223, 3), (151, .goto 84, 3), (154, .aload_n 0, 1), (155, .aload_n 0, 1), (156, .iload_n 2, 1), (157, .invokevirtual 134, 3), (160, .invokevirtual 130, 3), (163, .goto 72, 3), (166, .aload_n 0, 1), (167, .dup, 1), (168, .getfield 53, 3), (171, .iconst 1, 1), (172, .isub, 1), (173, .putfield 53, 3), (176, .goto 59, 3), (179, .aload_n 0, 1), (180, .aload_n 0, 1), (181, .iconst 0, 1), (182, .invokevirtual 134, 3), (185, .aload_n 0, 1), (186, .iconst 1, 1), (187, .invokevirtual 134, 3), (190, .invokestatic 226, 3), (193, .putfield 63, 3), (196, .goto 39, 3), (199, .aload_n 0, 1), (200, .getfield 16, 3), (203, .iconst 0, 1), (204, .lconst 1, 1), (205, .invokevirtual 229, 3), (208, .aload_n 0, 1), (209, .aload_n 0, 1), (210, .getfield 16, 3), (213, .invokevirtual 130, 3), (216, .goto 19, 3), (219, .aload_n 0, 1), (220, .getfield 16, 3), (223, .iconst 0, 1), (224, .invokevirtual 233, 3), (227, .aload_n 0, 1), (228, .aload_n 0, 1), (229, .getfield 16, 3), (232, .invokevirtual 130, 3), (235, .return_, 1)]
def m_SR_carryOut : ZM := (⟨"StackReal", "carryOut", "(II)V"⟩, prog_1_method_28_code, 3, none, [], 0, 0, [], i_SR_carryOut)
def i_SR_extract : List (Nat × Instr × Nat) := [(0, .aload_n 0, 1), (1, .iconst 0, 1), (2, .invokevirtual 134, 3), (5, .astore_n 1, 1), (6, .aload_n 1, 1), (7, .getfield 177, 3), (10, .istore_n 2, 1), (11, .aload_n 0, 1), (12, .getfield 16, 3), (15, .aload_n 1, 1), (16, .getfield 170, 3), (19, .iconst 0, 1), (20, .aload_n 1, 1), (21, .getfield 180, 3), (24, .invokevirtual 237, 3), (27, .aload_n 1, 1), (28, .iload_n 2, 1), (29, .ifCond .ge 7, 3), (32, .iconst 1, 1), (33, .goto 4, 3), (36, .iconst 0, 1), (37, .iload_n 2, 1), (38, .ifCond .ge 9, 3), (41, .iload_n 2, 1), (42, .ineg, 1), (43, .i2l, 1), (44, .goto 5, 3), (47, .iload_n 2, 1), (48, .i2l, 1), (49, .invokevirtual 229, 3), (52, .aload_n 0, 1), (53, .aload_n 0, 1), (54, .getfield 16, 3), (57, .invokevirtual 130, 3), (60, .return_, 1)]
def m_SR_extract : ZM := (⟨"StackReal", "extract", "()V"⟩, prog_1_method_29_code, 3, none, [], 0, 0, [], i_SR_extract)
def i_SR_push : List (Nat × Instr × Nat) := [(0, .aload_n 0, 1), (1, .getfield 11, 3), (4, .aload_n 0, 1), (5, .getfield 53, 3), (8, .aaload, 1), (9, .aload_n 1, 1), (10, .invokevirtual 183, 3), (13, .aload_n 0, 1), (14, .dup, 1), (15, .getfield 53, 3), (18, .iconst 1, 1), (19, .iadd, 1), (20, .putfield 53, 3), (23, .return_, 1)]
def m_SR_push : ZM := (⟨"StackReal", "push", "(LStackReal$Real;)V"⟩, prog_1_method_22_code, 2, none, [], 0, 0, [], i_SR_push)
def i_SR_exchange : List (Nat × Instr × Nat) := [(0, .aload_n 0, 1), (1, .getfield 53, 3), (4, .iconst 1, 1), (5, .isub, 1), (6, .iload_n 1, 1), (7, .isub, 1), (8, .istore_n 2, 1), (9, .aload_n 0, 1), (10, .getfield 11, 3), (13, .iload_n 2, 1), (14, .aaload, 1), (15, .astore_n 3, 1), (16, .aload_n 0, 1), (17, .getfield 11, 3), (20, .iload_n 2, 1), (21, .aload_n 0, 1), (22, .getfield 11, 3), (25, .aload_n 0, 1), (26, .getfield 53, 3), (29, .iconst 1, 1), (30, .isub, 1), (31, .aaload, 1), (32, .aastore, 1), (33, .aload_n 0, 1), (34, .getfield 11, 3), (37, .aload_n 0, 1), (38, .getfield 53, 3), (41, .iconst 1, 1), (42, .isub, 1), (43, .aload_n 3, 1), (44, .aastore, 1), (45, .return_, 1)]
def m_SR_exchange : ZM := (⟨"StackReal", "exchange", "(I)V"⟩, prog_1_method_30_code, 4, none, [], 0, 0, [], i_SR_exchange)
def i_SR_conditionOf : List (Nat × Instr × Nat) := [(0, .aload_n 0, 1), (1, .getfield 174, 3), (4, .iconst 3, 1), (5, .if_icmp .eq 11, 3), (8, .aload_n 1, 1), (9, .getfield 174, 3), (12, .iconst 3, 1), (13, .if_icmp .ne 5, 3), (16, .iconst 3, 1), (17, .ireturn, 1), (18, .aload_n 0, 1), (19, .aload_n 1, 1), (20, .invokestatic 241, 3), (23, .istore_n 2, 1), (24, .iload_n 2, 1), (25, .ifCond .ne 5, 3), (28, .iconst 2, 1), (29, .ireturn, 1), (30, .iload_n 2, 1), (31, .ifCond .le 7, 3), (34, .iconst 0, 1), (35, .goto 4, 3), (38, .iconst 1, 1), (39, .ireturn, 1)]
def m_SR_conditionOf : ZM := (⟨"StackReal", "conditionOf", "(LStackReal$Real;LStackReal$Real;)I"⟩, prog_1_method_31_code, 3, some .int, [], 0, 0, [], i_SR_conditionOf)
def i_SR_compareReals : List (Nat × Instr × Nat) := [(0, .aload_n 0, 1), (1, .getfield 174, 3), (4, .ifCond .ne 12, 3), (7, .aload_n 1, 1), (8, .getfield 174, 3), (11, .ifCond .ne 5, 3), (14, .iconst 0, 1), (15, .ireturn, 1), (16, .aload_n 0, 1), (17, .getfield 170, 3), (20, .aload_n 1, 1), (21, .getfield 170, 3), (24, .if_icmp .eq 16, 3), (27, .aload_n 0, 1), (28, .getfield 170, 3), (31, .ifCond .eq 7, 3), (34, .iconst (-1), 1), (35, .goto 4, 3), (38, .iconst 1, 1), (39, .ireturn, 1), (40, .aload_n 0, 1), (41, .getfield 170, 3), (44, .ifCond .eq 11, 3), (47, .aload_n 1, 1), (48, .aload_n 0, 1), (49, .invokestatic 244, 3), (52, .goto 8, 3), (55, .aload_n 0, 1), (56, .aload_n 1, 1), (57, .invokestatic 244, 3), (60, .ireturn, 1)]
def m_SR_compareReals : ZM := (⟨"StackReal", "compareReals", "(LStackReal$Real;LStackReal$Real;)I"⟩, prog_1_method_32_code, 2, some .int, [], 0, 0, [], i_SR_compareReals)
def i_La_load : List (Nat × Instr × Nat) := [(0, .aload_n 3, 1), (1, .iconst 0, 1), (2, .aload_n 0, 1), (3, .iload_n 1, 1), (4, .iload_n 2, 1), (5, .invokevirtual 21, 3), (8, .i2l, 1), (9, .lastore, 1), (10, .goto 11, 3), (13, .astore 4, 2), (15, .iconst 1, 1), (16, .ireturn, 1), (17, .astore 4, 2), (19, .iconst 2, 1), (20, .ireturn, 1), (21, .iconst 0, 1), (22, .ireturn, 1)]
def m_La_load : ZM := (⟨"StackRealLaw", "load", "(LStackReal;II[J)I"⟩, method_5_code, 5, some .int, [(0, 10, 13, 13), (0, 10, 17, 19)], 8, 1, [], i_La_load)
def i_SR_load : List (Nat × Instr × Nat) := [(0, .iload_n 1, 1), (1, .invokestatic 114, 3), (4, .ifCond .eq 10, 3), (7, .iload_n 2, 1), (8, .invokestatic 117, 3), (11, .ifCond .ne 13, 3), (14, .new 66, 3), (17, .dup, 1), (18, .ldc 120, 2), (20, .invokespecial 70, 3), (23, .athrow, 1), (24, .aload_n 0, 1), (25, .getfield 49, 3), (28, .iconst 4, 1), (29, .invokevirtual 95, 3), (32, .aload_n 0, 1), (33, .getfield 53, 3), (36, .bipush 8, 2), (38, .if_icmp .lt 9, 3), (41, .aload_n 0, 1), (42, .iconst 1, 1), (43, .invokevirtual 103, 3), (46, .ireturn, 1), (47, .aload_n 0, 1), (48, .aload_n 0, 1), (49, .getfield 42, 3), (52, .aload_n 0, 1), (53, .getfield 49, 3), (56, .getfield 122, 3), (59, .iload_n 1, 1), (60, .laload, 1), (61, .iload_n 2, 1), (62, .aload_n 0, 1), (63, .getfield 16, 3), (66, .invokevirtual 126, 3), (69, .invokevirtual 103, 3), (72, .istore_n 3, 1), (73, .aload_n 0, 1), (74, .aload_n 0, 1), (75, .getfield 16, 3), (78, .invokevirtual 130, 3), (81, .iload_n 3, 1), (82, .ireturn, 1)]
def m_SR_load : ZM := (⟨"StackReal", "load", "(II)I"⟩, prog_1_method_4_code, 4, some .int, [], 0, 1, [(14, 1)], i_SR_load)
def i_SR_isCell : List (Nat × Instr × Nat) := [(0, .iload_n 0, 1), (1, .ifCond .lt 13, 3), (4, .iload_n 0, 1), (5, .bipush 8, 2), (7, .if_icmp .ge 7, 3), (10, .iconst 1, 1), (11, .goto 4, 3), (14, .iconst 0, 1), (15, .ireturn, 1)]
def m_SR_isCell : ZM := (⟨"StackReal", "isCell", "(I)Z"⟩, prog_1_method_18_code, 1, some .boolean, [], 0, 0, [], i_SR_isCell)
def i_SR_isForm : List (Nat × Instr × Nat) := [(0, .iload_n 0, 1), (1, .ifCond .lt 12, 3), (4, .iload_n 0, 1), (5, .iconst 3, 1), (6, .if_icmp .gt 7, 3), (9, .iconst 1, 1), (10, .goto 4, 3), (13, .iconst 0, 1), (14, .ireturn, 1)]
def m_SR_isForm : ZM := (⟨"StackReal", "isForm", "(I)Z"⟩, prog_1_method_19_code, 1, some .boolean, [], 0, 0, [], i_SR_isForm)
def i_Fo_decode : List (Nat × Instr × Nat) := [(0, .iload_n 3, 1), (1, .tableswitch 81 0 2 #[27, 57, 69], 27), (28, .aload 4, 2), (30, .lload_n 1, 1), (31, .lconst 0, 1), (32, .lcmp, 1), (33, .ifCond .ge 7, 3), (36, .iconst 1, 1), (37, .goto 4, 3), (40, .iconst 0, 1), (41, .lload_n 1, 1), (42, .lconst 0, 1), (43, .lcmp, 1), (44, .ifCond .ge 8, 3), (47, .lload_n 1, 1), (48, .lneg, 1), (49, .goto 4, 3), (52, .lload_n 1, 1), (53, .invokevirtual 29, 3), (56, .iconst 0, 1), (57, .ireturn, 1), (58, .lload_n 1, 1), (59, .bipush 11, 2), (61, .bipush 52, 2), (63, .aload 4, 2), (65, .invokestatic 33, 3), (68, .iconst 0, 1), (69, .ireturn, 1), (70, .lload_n 1, 1), (71, .bipush 8, 2), (73, .bipush 23, 2), (75, .aload 4, 2), (77, .invokestatic 33, 3), (80, .iconst 0, 1), (81, .ireturn, 1), (82, .lload_n 1, 1), (83, .aload 4, 2), (85, .invokestatic 37, 3), (88, .ireturn, 1)]
def m_Fo_decode : ZM := (⟨"StackReal$Forms", "decode", "(JILStackReal$Real;)I"⟩, prog_4_method_2_code, 5, some .int, [], 5, 0, [], i_Fo_decode)
def i_Fo_decodeBinary : List (Nat × Instr × Nat) := [(0, .iconst 1, 1), (1, .iload_n 2, 1), (2, .ishl, 1), (3, .iconst 1, 1), (4, .isub, 1), (5, .istore 5, 2), (7, .lload_n 0, 1), (8, .iload_n 3, 1), (9, .lushr, 1), (10, .l2i, 1), (11, .iload 5, 2), (13, .iand, 1), (14, .istore 6, 2), (16, .lload_n 0, 1), (17, .lconst 1, 1), (18, .iload_n 3, 1), (19, .lshl, 1), (20, .lconst 1, 1), (21, .lsub, 1), (22, .land, 1), (23, .lstore 7, 2), (25, .lload_n 0, 1), (26, .iload_n 2, 1), (27, .iload_n 3, 1), (28, .iadd, 1), (29, .lushr, 1), (30, .lconst 1, 1), (31, .land, 1), (32, .lconst 0, 1), (33, .lcmp, 1), (34, .ifCond .eq 7, 3), (37, .iconst 1, 1), (38, .goto 4, 3), (41, .iconst 0, 1), (42, .istore 9, 2), (44, .iload 6, 2), (46, .ifCond .ne 13, 3), (49, .aload 4, 2), (51, .iload 9, 2), (53, .invokevirtual 41, 3), (56, .goto 64, 3), (59, .iload 6, 2), (61, .iload 5, 2), (63, .if_icmp .ge 35, 3), (66, .ldc2_w 45, 3), (69, .lload 7, 2), (71, .bipush 63, 2), (73, .iload_n 3, 1), (74, .isub, 1), (75, .lshl, 1), (76, .lor, 1), (77, .lstore 10, 2), (79, .aload 4, 2), (81, .iload 9, 2), (83, .iload 6, 2), (85, .iload 5, 2), (87, .iconst 1, 1), (88, .ishr, 1), (89, .isub, 1), (90, .lload 10, 2), (92, .invokevirtual 47, 3), (95, .goto 25, 3), (98, .lload 7, 2), (100, .lconst 0, 1), (101, .lcmp, 1), (102, .ifCond .ne 13, 3), (105, .aload 4, 2), (107, .iload 9, 2), (109, .invokevirtual 51, 3), (112, .goto 8, 3), (115, .aload 4, 2), (117, .invokevirtual 54, 3), (120, .return_, 1)]
def m_Fo_decodeBinary : ZM := (⟨"StackReal$Forms", "decodeBinary", "(JIILStackReal$Real;)V"⟩, prog_4_method_3_code, 12, none, [], 5, 0, [], i_Fo_decodeBinary)
def i_Fo_decodeDecimal : List (Nat × Instr × Nat) := [(0, .lconst 0, 1), (1, .lstore_n 3, 1), (2, .lload_n 0, 1), (3, .bipush 60, 2), (5, .lushr, 1), (6, .lconst 1, 1), (7, .lcmp, 1), (8, .ifCond .gt 7, 3), (11, .iconst 1, 1), (12, .goto 4, 3), (15, .iconst 0, 1), (16, .istore 5, 2), (18, .bipush 14, 2), (20, .istore 6, 2), (22, .iload 6, 2), (24, .ifCond .lt 51, 3), (27, .lload_n 0, 1), (28, .iconst 4, 1), (29, .iload 6, 2), (31, .imul, 1), (32, .lushr, 1), (33, .ldc2_w 57, 3), (36, .land, 1), (37, .lstore 7, 2), (39, .iload 5, 2), (41, .ifCond .eq 16, 3), (44, .lload 7, 2), (46, .ldc2_w 59, 3), (49, .lcmp, 1), (50, .ifCond .gt 7, 3), (53, .iconst 1, 1), (54, .goto 4, 3), (57, .iconst 0, 1), (58, .istore 5, 2), (60, .lload_n 3, 1), (61, .ldc2_w 61, 3), (64, .lmul, 1), (65, .lload 7, 2), (67, .ladd, 1), (68, .lstore_n 3, 1), (69, .iinc 6 (-1), 3), (72, .goto (-50), 3), (75, .iload 5, 2), (77, .ifCond .ne 9, 3), (80, .aload_n 2, 1), (81, .invokevirtual 54, 3), (84, .iconst 1, 1), (85, .ireturn, 1), (86, .aload_n 2, 1), (87, .lload_n 0, 1), (88, .bipush 60, 2), (90, .lushr, 1), (91, .lconst 1, 1), (92, .lcmp, 1), (93, .ifCond .ne 7, 3), (96, .iconst 1, 1), (97, .goto 4, 3), (100, .iconst 0, 1), (101, .lload_n 3, 1), (102, .invokevirtual 29, 3), (105, .iconst 0, 1), (106, .ireturn, 1)]
def m_Fo_decodeDecimal : ZM := (⟨"StackReal$Forms", "decodeDecimal", "(JLStackReal$Real;)I"⟩, prog_4_method_4_code, 9, some .int, [], 5, 0, [], i_Fo_decodeDecimal)
def i_La_store : List (Nat × Instr × Nat) := [(0, .aload_n 3, 1), (1, .iconst 0, 1), (2, .aload_n 0, 1), (3, .iload_n 1, 1), (4, .iload_n 2, 1), (5, .invokevirtual 24, 3), (8, .i2l, 1), (9, .lastore, 1), (10, .goto 11, 3), (13, .astore 4, 2), (15, .iconst 1, 1), (16, .ireturn, 1), (17, .astore 4, 2), (19, .iconst 2, 1), (20, .ireturn, 1), (21, .iconst 0, 1), (22, .ireturn, 1)]
def m_La_store : ZM := (⟨"StackRealLaw", "store", "(LStackReal;II[J)I"⟩, method_6_code, 5, some .int, [(0, 10, 13, 13), (0, 10, 17, 19)], 8, 1, [], i_La_store)
def i_SR_store : List (Nat × Instr × Nat) := [(0, .iload_n 1, 1), (1, .invokestatic 114, 3), (4, .ifCond .eq 10, 3), (7, .iload_n 2, 1), (8, .invokestatic 117, 3), (11, .ifCond .ne 13, 3), (14, .new 66, 3), (17, .dup, 1), (18, .ldc 120, 2), (20, .invokespecial 70, 3), (23, .athrow, 1), (24, .aload_n 0, 1), (25, .getfield 49, 3), (28, .bipush 10, 2), (30, .invokevirtual 95, 3), (33, .aload_n 0, 1), (34, .getfield 53, 3), (37, .ifCond .gt 9, 3), (40, .aload_n 0, 1), (41, .iconst 1, 1), (42, .invokevirtual 103, 3), (45, .ireturn, 1), (46, .aload_n 0, 1), (47, .aload_n 0, 1), (48, .getfield 42, 3), (51, .aload_n 0, 1), (52, .iconst 0, 1), (53, .invokevirtual 134, 3), (56, .iload_n 2, 1), (57, .invokevirtual 138, 3), (60, .invokevirtual 103, 3), (63, .istore_n 3, 1), (64, .aload_n 0, 1), (65, .dup, 1), (66, .getfield 53, 3), (69, .iconst 1, 1), (70, .isub, 1), (71, .putfield 53, 3), (74, .aload_n 0, 1), (75, .getfield 49, 3), (78, .iload_n 1, 1), (79, .aload_n 0, 1), (80, .getfield 42, 3), (83, .getfield 142, 3), (86, .invokevirtual 146, 3), (89, .iload_n 3, 1), (90, .ireturn, 1)]
def m_SR_store : ZM := (⟨"StackReal", "store", "(II)I"⟩, prog_1_method_5_code, 4, some .int, [], 0, 1, [(14, 1)], i_SR_store)
def i_Fo_encode : List (Nat × Instr × Nat) := [(0, .iload_n 2, 1), (1, .tableswitch 53 0 2 #[27, 33, 43], 27), (28, .aload_n 0, 1), (29, .aload_n 1, 1), (30, .invokevirtual 63, 3), (33, .ireturn, 1), (34, .aload_n 0, 1), (35, .aload_n 1, 1), (36, .bipush 11, 2), (38, .bipush 52, 2), (40, .invokevirtual 67, 3), (43, .ireturn, 1), (44, .aload_n 0, 1), (45, .aload_n 1, 1), (46, .bipush 8, 2), (48, .bipush 23, 2), (50, .invokevirtual 67, 3), (53, .ireturn, 1), (54, .aload_n 0, 1), (55, .aload_n 1, 1), (56, .invokevirtual 71, 3), (59, .ireturn, 1)]
def m_Fo_encode : ZM := (⟨"StackReal$Forms", "encode", "(LStackReal$Real;I)I"⟩, prog_4_method_5_code, 3, some .int, [], 5, 0, [], i_Fo_encode)
def i_Fo_encodeWhole : List (Nat × Instr × Nat) := [(0, .aload_n 0, 1), (1, .ldc2_w 45, 3), (4, .putfield 74, 3), (7, .aload_n 1, 1), (8, .getfield 78, 3), (11, .iconst 1, 1), (12, .if_icmp .gt 12, 3), (15, .aload_n 1, 1), (16, .getfield 82, 3), (19, .bipush 63, 2), (21, .if_icmp .le 5, 3), (24, .iconst 1, 1), (25, .ireturn, 1), (26, .aload_n 0, 1), (27, .getfield 9, 3), (30, .aload_n 1, 1), (31, .invokevirtual 85, 3), (34, .lstore_n 2, 1), (35, .aload_n 1, 1), (36, .getfield 91, 3), (39, .ifCond .eq 15, 3), (42, .lload_n 2, 1), (43, .ldc2_w 45, 3), (46, .lcmp, 1), (47, .ifCond .ne 7, 3), (50, .iconst 1, 1), (51, .goto 4, 3), (54, .iconst 0, 1), (55, .istore 4, 2), (57, .lload_n 2, 1), (58, .lconst 0, 1), (59, .lcmp, 1), (60, .ifCond .ge 10, 3), (63, .iload 4, 2), (65, .ifCond .ne 5, 3), (68, .iconst 1, 1), (69, .ireturn, 1), (70, .aload_n 0, 1), (71, .aload_n 1, 1), (72, .getfield 91, 3), (75, .ifCond .eq 8, 3), (78, .lload_n 2, 1), (79, .lneg, 1), (80, .goto 4, 3), (83, .lload_n 2, 1), (84, .putfield 74, 3), (87, .aload_n 1, 1), (88, .invokevirtual 95, 3), (91, .ifCond .eq 7, 3), (94, .iconst 0, 1), (95, .goto 5, 3), (98, .bipush 16, 2), (100, .ireturn, 1)]
def m_Fo_encodeWhole : ZM := (⟨"StackReal$Forms", "encodeWhole", "(LStackReal$Real;)I"⟩, prog_4_method_6_code, 5, some .int, [], 5, 0, [], i_Fo_encodeWhole)
def i_Fo_encodeBinary : List (Nat × Instr × Nat) := [(0, .iconst 1, 1), (1, .iload_n 2, 1), (2, .iconst 1, 1), (3, .isub, 1), (4, .ishl, 1), (5, .iconst 1, 1), (6, .isub, 1), (7, .istore 4, 2), (9, .iconst 0, 1), (10, .istore 5, 2), (12, .aload_n 0, 1), (13, .getfield 25, 3), (16, .aload_n 1, 1), (17, .invokevirtual 105, 3), (20, .aload_n 1, 1), (21, .getfield 78, 3), (24, .iconst 1, 1), (25, .if_icmp .ne 37, 3), (28, .aload_n 0, 1), (29, .getfield 18, 3), (32, .aload_n 1, 1), (33, .invokevirtual 109, 3), (36, .aload_n 0, 1), (37, .getfield 9, 3), (40, .aload_n 0, 1), (41, .getfield 18, 3), (44, .iload_n 3, 1), (45, .iconst 1, 1), (46, .iadd, 1), (47, .iconst 1, 1), (48, .iload 4, 2), (50, .isub, 1), (51, .iload 4, 2), (53, .aload_n 0, 1), (54, .getfield 25, 3), (57, .invokevirtual 110, 3), (60, .istore 5, 2), (62, .aload_n 0, 1), (63, .aload_n 0, 1), (64, .getfield 25, 3), (67, .iload_n 2, 1), (68, .iload_n 3, 1), (69, .invokestatic 114, 3), (72, .putfield 74, 3), (75, .iload 5, 2), (77, .ireturn, 1)]
def m_Fo_encodeBinary : ZM := (⟨"StackReal$Forms", "encodeBinary", "(LStackReal$Real;II)I"⟩, prog_4_method_8_code, 6, some .int, [], 5, 0, [], i_Fo_encodeBinary)
def i_Fo_binaryImage : List (Nat × Instr × Nat) := [(0, .lconst 1, 1), (1, .iload_n 1, 1), (2, .iload_n 2, 1), (3, .iadd, 1), (4, .lshl, 1), (5, .lstore_n 3, 1), (6, .aload_n 0, 1), (7, .getfield 91, 3), (10, .ifCond .eq 7, 3), (13, .lload_n 3, 1), (14, .goto 4, 3), (17, .lconst 0, 1), (18, .lstore 5, 2), (20, .lconst 1, 1), (21, .iload_n 1, 1), (22, .lshl, 1), (23, .lconst 1, 1), (24, .lsub, 1), (25, .lstore 7, 2), (27, .aload_n 0, 1), (28, .getfield 78, 3), (31, .tableswitch 72 0 2 #[25, 28, 64], 25), (56, .lload 5, 2), (58, .lreturn, 1), (59, .aload_n 0, 1), (60, .getfield 82, 3), (63, .i2l, 1), (64, .lload 7, 2), (66, .iconst 1, 1), (67, .lshr, 1), (68, .ladd, 1), (69, .lstore 9, 2), (71, .aload_n 0, 1), (72, .getfield 118, 3), (75, .iconst 1, 1), (76, .lshl, 1), (77, .bipush 64, 2), (79, .iload_n 2, 1), (80, .isub, 1), (81, .lushr, 1), (82, .lstore 11, 2), (84, .lload 5, 2), (86, .lload 9, 2), (88, .iload_n 2, 1), (89, .lshl, 1), (90, .lor, 1), (91, .lload 11, 2), (93, .lor, 1), (94, .lreturn, 1), (95, .lload 5, 2), (97, .lload 7, 2), (99, .iload_n 2, 1), (100, .lshl, 1), (101, .lor, 1), (102, .lreturn, 1), (103, .lload_n 3, 1), (104, .lconst 1, 1), (105, .lsub, 1), (106, .lreturn, 1)]
def m_Fo_binaryImage : ZM := (⟨"StackReal$Forms", "binaryImage", "(LStackReal$Real;II)J"⟩, prog_4_method_9_code, 13, some .long, [], 5, 0, [], i_Fo_binaryImage)
def i_Fo_encodeDecimal : List (Nat × Instr × Nat) := [(0, .aload_n 0, 1), (1, .ldc2_w 99, 3), (4, .putfield 74, 3), (7, .aload_n 1, 1), (8, .getfield 78, 3), (11, .iconst 1, 1), (12, .if_icmp .gt 12, 3), (15, .aload_n 1, 1), (16, .getfield 82, 3), (19, .bipush 49, 2), (21, .if_icmp .le 5, 3), (24, .iconst 1, 1), (25, .ireturn, 1), (26, .aload_n 0, 1), (27, .getfield 9, 3), (30, .aload_n 1, 1), (31, .invokevirtual 85, 3), (34, .lstore_n 2, 1), (35, .lload_n 2, 1), (36, .ldc2_w 101, 3), (39, .lcmp, 1), (40, .ifCond .le 5, 3), (43, .iconst 1, 1), (44, .ireturn, 1), (45, .aload_n 1, 1), (46, .getfield 91, 3), (49, .ifCond .eq 9, 3), (52, .ldc2_w 103, 3), (55, .goto 4, 3), (58, .lconst 0, 1), (59, .lstore 4, 2), (61, .iconst 0, 1), (62, .istore 6, 2), (64, .iload 6, 2), (66, .bipush 15, 2), (68, .if_icmp .ge 30, 3), (71, .lload 4, 2), (73, .lload_n 2, 1), (74, .ldc2_w 61, 3), (77, .lrem, 1), (78, .iconst 4, 1), (79, .iload 6, 2), (81, .imul, 1), (82, .lshl, 1), (83, .lor, 1), (84, .lstore 4, 2), (86, .lload_n 2, 1), (87, .ldc2_w 61, 3), (90, .ldiv, 1), (91, .lstore_n 2, 1), (92, .iinc 6 1, 3), (95, .goto (-31), 3), (98, .aload_n 0, 1), (99, .lload 4, 2), (101, .putfield 74, 3), (104, .aload_n 1, 1), (105, .invokevirtual 95, 3), (108, .ifCond .eq 7, 3), (111, .iconst 0, 1), (112, .goto 5, 3), (115, .bipush 16, 2), (117, .ireturn, 1)]
def m_Fo_encodeDecimal : ZM := (⟨"StackReal$Forms", "encodeDecimal", "(LStackReal$Real;)I"⟩, prog_4_method_7_code, 7, some .int, [], 5, 0, [], i_Fo_encodeDecimal)
def i_Me_storeWhenFree : List (Nat × Instr × Nat) := [(0, .aload_n 0, 1), (1, .iload_n 1, 1), (2, .putfield 26, 3), (5, .aload_n 0, 1), (6, .lload_n 2, 1), (7, .putfield 30, 3), (10, .aload_n 0, 1), (11, .iconst 1, 1), (12, .putfield 19, 3), (15, .return_, 1)]
def m_Me_storeWhenFree : ZM := (⟨"StackReal$Memory", "storeWhenFree", "(IJ)V"⟩, prog_5_method_5_code, 4, none, [], 6, 0, [], i_Me_storeWhenFree)
def i_La_write : List (Nat × Instr × Nat) := [(0, .aload_n 0, 1), (1, .iload_n 1, 1), (2, .lload_n 2, 1), (3, .invokevirtual 27, 3), (6, .goto 7, 3), (9, .astore 4, 2), (11, .iconst 1, 1), (12, .ireturn, 1), (13, .iconst 0, 1), (14, .ireturn, 1)]
def m_La_write : ZM := (⟨"StackRealLaw", "write", "(LStackReal;IJ)I"⟩, method_7_code, 5, some .int, [(0, 6, 9, 13)], 8, 1, [], i_La_write)
def i_SR_write : List (Nat × Instr × Nat) := [(0, .iload_n 1, 1), (1, .invokestatic 114, 3), (4, .ifCond .ne 13, 3), (7, .new 66, 3), (10, .dup, 1), (11, .ldc 150, 2), (13, .invokespecial 70, 3), (16, .athrow, 1), (17, .aload_n 0, 1), (18, .getfield 49, 3), (21, .getfield 122, 3), (24, .iload_n 1, 1), (25, .lload_n 2, 1), (26, .lastore, 1), (27, .return_, 1)]
def m_SR_write : ZM := (⟨"StackReal", "write", "(IJ)V"⟩, prog_1_method_6_code, 4, none, [], 0, 1, [(7, 1)], i_SR_write)
def i_La_memory : List (Nat × Instr × Nat) := [(0, .aload_n 2, 1), (1, .iconst 0, 1), (2, .aload_n 0, 1), (3, .iload_n 1, 1), (4, .invokevirtual 31, 3), (7, .lastore, 1), (8, .goto 6, 3), (11, .astore_n 3, 1), (12, .iconst 1, 1), (13, .ireturn, 1), (14, .iconst 0, 1), (15, .ireturn, 1)]
def m_La_memory : ZM := (⟨"StackRealLaw", "memory", "(LStackReal;I[J)I"⟩, method_8_code, 4, some .int, [(0, 8, 11, 13)], 8, 1, [], i_La_memory)
def i_SR_memory : List (Nat × Instr × Nat) := [(0, .iload_n 1, 1), (1, .invokestatic 114, 3), (4, .ifCond .ne 13, 3), (7, .new 66, 3), (10, .dup, 1), (11, .ldc 150, 2), (13, .invokespecial 70, 3), (16, .athrow, 1), (17, .aload_n 0, 1), (18, .getfield 49, 3), (21, .getfield 122, 3), (24, .iload_n 1, 1), (25, .laload, 1), (26, .lreturn, 1)]
def m_SR_memory : ZM := (⟨"StackReal", "memory", "(I)J"⟩, prog_1_method_7_code, 2, some .long, [], 0, 1, [(7, 1)], i_SR_memory)
def i_La_pass : List (Nat × Instr × Nat) := [(0, .aload_n 0, 1), (1, .iload_n 1, 1), (2, .invokevirtual 35, 3), (5, .goto 6, 3), (8, .astore_n 2, 1), (9, .iconst 1, 1), (10, .ireturn, 1), (11, .iconst 0, 1), (12, .ireturn, 1)]
def m_La_pass : ZM := (⟨"StackRealLaw", "pass", "(LStackReal;I)I"⟩, method_9_code, 3, some .int, [(0, 5, 8, 13)], 8, 1, [], i_La_pass)
def i_SR_pass : List (Nat × Instr × Nat) := [(0, .iload_n 1, 1), (1, .ifCond .lt 10, 3), (4, .iload_n 1, 1), (5, .sipush 1000, 3), (8, .if_icmp .le 13, 3), (11, .new 66, 3), (14, .dup, 1), (15, .ldc 152, 2), (17, .invokespecial 70, 3), (20, .athrow, 1), (21, .aload_n 0, 1), (22, .getfield 49, 3), (25, .iload_n 1, 1), (26, .i2l, 1), (27, .invokevirtual 154, 3), (30, .return_, 1)]
def m_SR_pass : ZM := (⟨"StackReal", "pass", "(I)V"⟩, prog_1_method_8_code, 2, none, [], 0, 1, [(11, 1)], i_SR_pass)
def i_La_kind : List (Nat × Instr × Nat) := [(0, .aload_n 2, 1), (1, .iconst 0, 1), (2, .aload_n 0, 1), (3, .iload_n 1, 1), (4, .invokevirtual 39, 3), (7, .i2l, 1), (8, .lastore, 1), (9, .goto 6, 3), (12, .astore_n 3, 1), (13, .iconst 1, 1), (14, .ireturn, 1), (15, .iconst 0, 1), (16, .ireturn, 1)]
def m_La_kind : ZM := (⟨"StackRealLaw", "kind", "(LStackReal;I[J)I"⟩, method_10_code, 4, some .int, [(0, 9, 12, 13)], 8, 1, [], i_La_kind)
def i_SR_kind : List (Nat × Instr × Nat) := [(0, .aload_n 0, 1), (1, .iload_n 1, 1), (2, .invokevirtual 165, 3), (5, .ifCond .ne 13, 3), (8, .new 66, 3), (11, .dup, 1), (12, .ldc 168, 2), (14, .invokespecial 70, 3), (17, .athrow, 1), (18, .aload_n 0, 1), (19, .iload_n 1, 1), (20, .invokevirtual 134, 3), (23, .astore_n 2, 1), (24, .aload_n 2, 1), (25, .getfield 170, 3), (28, .ifCond .eq 12, 3), (31, .aload_n 2, 1), (32, .getfield 174, 3), (35, .iconst 4, 1), (36, .iadd, 1), (37, .goto 7, 3), (40, .aload_n 2, 1), (41, .getfield 174, 3), (44, .ireturn, 1)]
def m_SR_kind : ZM := (⟨"StackReal", "kind", "(I)I"⟩, prog_1_method_15_code, 3, some .int, [], 0, 1, [(8, 1)], i_SR_kind)
def i_SR_isOnStack : List (Nat × Instr × Nat) := [(0, .iload_n 1, 1), (1, .ifCond .lt 15, 3), (4, .iload_n 1, 1), (5, .aload_n 0, 1), (6, .getfield 53, 3), (9, .if_icmp .ge 7, 3), (12, .iconst 1, 1), (13, .goto 4, 3), (16, .iconst 0, 1), (17, .ireturn, 1)]
def m_SR_isOnStack : ZM := (⟨"StackReal", "isOnStack", "(I)Z"⟩, prog_1_method_20_code, 2, some .boolean, [], 0, 0, [], i_SR_isOnStack)
def i_La_exponent : List (Nat × Instr × Nat) := [(0, .aload_n 2, 1), (1, .iconst 0, 1), (2, .aload_n 0, 1), (3, .iload_n 1, 1), (4, .invokevirtual 43, 3), (7, .i2l, 1), (8, .lastore, 1), (9, .goto 6, 3), (12, .astore_n 3, 1), (13, .iconst 1, 1), (14, .ireturn, 1), (15, .iconst 0, 1), (16, .ireturn, 1)]
def m_La_exponent : ZM := (⟨"StackRealLaw", "exponent", "(LStackReal;I[J)I"⟩, method_11_code, 4, some .int, [(0, 9, 12, 13)], 8, 1, [], i_La_exponent)
def i_SR_exponent : List (Nat × Instr × Nat) := [(0, .aload_n 0, 1), (1, .iload_n 1, 1), (2, .invokevirtual 165, 3), (5, .ifCond .ne 13, 3), (8, .new 66, 3), (11, .dup, 1), (12, .ldc 168, 2), (14, .invokespecial 70, 3), (17, .athrow, 1), (18, .aload_n 0, 1), (19, .iload_n 1, 1), (20, .invokevirtual 134, 3), (23, .getfield 177, 3), (26, .ireturn, 1)]
def m_SR_exponent : ZM := (⟨"StackReal", "exponent", "(I)I"⟩, prog_1_method_16_code, 2, some .int, [], 0, 1, [(8, 1)], i_SR_exponent)
def i_La_significand : List (Nat × Instr × Nat) := [(0, .aload_n 2, 1), (1, .iconst 0, 1), (2, .aload_n 0, 1), (3, .iload_n 1, 1), (4, .invokevirtual 46, 3), (7, .lastore, 1), (8, .goto 6, 3), (11, .astore_n 3, 1), (12, .iconst 1, 1), (13, .ireturn, 1), (14, .iconst 0, 1), (15, .ireturn, 1)]
def m_La_significand : ZM := (⟨"StackRealLaw", "significand", "(LStackReal;I[J)I"⟩, method_12_code, 4, some .int, [(0, 8, 11, 13)], 8, 1, [], i_La_significand)
def i_SR_significand : List (Nat × Instr × Nat) := [(0, .aload_n 0, 1), (1, .iload_n 1, 1), (2, .invokevirtual 165, 3), (5, .ifCond .ne 13, 3), (8, .new 66, 3), (11, .dup, 1), (12, .ldc 168, 2), (14, .invokespecial 70, 3), (17, .athrow, 1), (18, .aload_n 0, 1), (19, .iload_n 1, 1), (20, .invokevirtual 134, 3), (23, .getfield 180, 3), (26, .lreturn, 1)]
def m_SR_significand : ZM := (⟨"StackReal", "significand", "(I)J"⟩, prog_1_method_17_code, 2, some .long, [], 0, 1, [(8, 1)], i_SR_significand)
def i_Mo_thrown : List (Nat × Instr × Nat) := [(0, .aload_n 0, 1), (1, .getfield 40, 3), (4, .ireturn, 1)]
def m_Mo_thrown : ZM := (⟨"StackRealModel", "thrown", "()I"⟩, prog_9_method_2_code, 1, some .int, [], 7, 0, [], i_Mo_thrown)
def i_Mo_control : List (Nat × Instr × Nat) := [(0, .aload_n 0, 1), (1, .iload_n 1, 1), (2, .bipush 24, 2), (4, .if_icmp .eq 15, 3), (7, .iload_n 1, 1), (8, .bipush 53, 2), (10, .if_icmp .eq 9, 3), (13, .iload_n 1, 1), (14, .bipush 64, 2), (16, .if_icmp .ne 20, 3), (19, .iload_n 2, 1), (20, .iconst 4, 1), (21, .invokestatic 138, 3), (24, .ifCond .ne 12, 3), (27, .iload_n 3, 1), (28, .bipush 32, 2), (30, .invokestatic 138, 3), (33, .ifCond .eq 7, 3), (36, .iconst 1, 1), (37, .goto 4, 3), (40, .iconst 0, 1), (41, .putfield 40, 3), (44, .aload_n 0, 1), (45, .getfield 40, 3), (48, .ifCond .le 4, 3), (51, .return_, 1), (52, .aload_n 0, 1), (53, .iload_n 1, 1), (54, .putfield 7, 3), (57, .aload_n 0, 1), (58, .iload_n 2, 1), (59, .putfield 69, 3), (62, .aload_n 0, 1), (63, .iload_n 3, 1), (64, .putfield 13, 3), (67, .return_, 1)]
def m_Mo_control : ZM := (⟨"StackRealModel", "control", "(III)V"⟩, prog_9_method_34_code, 4, none, [], 7, 0, [], i_Mo_control)
def i_Mo_out : List (Nat × Instr × Nat) := [(0, .iload_n 0, 1), (1, .ifCond .lt 8, 3), (4, .iload_n 0, 1), (5, .iload_n 1, 1), (6, .if_icmp .lt 7, 3), (9, .iconst 1, 1), (10, .goto 4, 3), (13, .iconst 0, 1), (14, .ireturn, 1)]
def m_Mo_out : ZM := (⟨"StackRealModel", "out", "(II)Z"⟩, prog_9_method_3_code, 2, some .boolean, [], 7, 0, [], i_Mo_out)
def i_Mo_operate : List (Nat × Instr × Nat) := [(0, .iload_n 1, 1), (1, .bipush 10, 2), (3, .if_icmp .eq 9, 3), (6, .iload_n 1, 1), (7, .bipush 11, 2), (9, .if_icmp .ne 7, 3), (12, .iconst 1, 1), (13, .goto 4, 3), (16, .iconst 0, 1), (17, .istore_n 3, 1), (18, .aload_n 0, 1), (19, .iload_n 1, 1), (20, .bipush 16, 2), (22, .invokestatic 138, 3), (25, .ifCond .ne 16, 3), (28, .iload_n 3, 1), (29, .ifCond .eq 16, 3), (32, .iload_n 2, 1), (33, .bipush 8, 2), (35, .invokestatic 138, 3), (38, .ifCond .eq 7, 3), (41, .iconst 1, 1), (42, .goto 4, 3), (45, .iconst 0, 1), (46, .putfield 40, 3), (49, .aload_n 0, 1), (50, .getfield 40, 3), (53, .ifCond .le 5, 3), (56, .iconst 0, 1), (57, .ireturn, 1), (58, .aload_n 0, 1), (59, .iload_n 1, 1), (60, .invokestatic 165, 3), (63, .invokevirtual 168, 3), (66, .iload_n 1, 1), (67, .iconst 4, 1), (68, .if_icmp .lt 15, 3), (71, .iload_n 1, 1), (72, .bipush 6, 2), (74, .if_icmp .eq 9, 3), (77, .iload_n 1, 1), (78, .bipush 13, 2), (80, .if_icmp .ne 7, 3), (83, .iconst 1, 1), (84, .goto 4, 3), (87, .iconst 0, 1), (88, .istore 4, 2), (90, .iload 4, 2), (92, .ifCond .eq 7, 3), (95, .iconst 2, 1), (96, .goto 24, 3), (99, .iload_n 3, 1), (100, .ifCond .eq 9, 3), (103, .iload_n 2, 1), (104, .iconst 1, 1), (105, .iadd, 1), (106, .goto 14, 3), (109, .iload_n 1, 1), (110, .bipush 14, 2), (112, .if_icmp .ge 7, 3), (115, .iconst 1, 1), (116, .goto 4, 3), (119, .iconst 0, 1), (120, .istore 5, 2), (122, .aload_n 0, 1), (123, .getfield 158, 3), (126, .iload 5, 2), (128, .if_icmp .ge 8, 3), (131, .aload_n 0, 1), (132, .invokevirtual 171, 3), (135, .ireturn, 1), (136, .iload 5, 2), (138, .ifCond .le 15, 3), (141, .aload_n 0, 1), (142, .aload_n 0, 1), (143, .getfield 158, 3), (146, .iconst 1, 1), (147, .isub, 1), (148, .bipush 8, 2), (150, .invokevirtual 125, 3), (153, .iload 4, 2), (155, .ifCond .eq 15, 3), (158, .aload_n 0, 1), (159, .aload_n 0, 1), (160, .getfield 158, 3), (163, .iconst 2, 1), (164, .isub, 1), (165, .bipush 9, 2), (167, .invokevirtual 125, 3), (170, .iload_n 1, 1), (171, .iconst 4, 1), (172, .if_icmp .ge 14, 3), (175, .aload_n 0, 1), (176, .iload_n 1, 1), (177, .invokevirtual 175, 3), (180, .aload_n 0, 1), (181, .iconst 2, 1), (182, .invokevirtual 178, 3), (185, .ireturn, 1), (186, .iload_n 1, 1), (187, .bipush 9, 2), (189, .if_icmp .le 10, 3), (192, .aload_n 0, 1), (193, .iload_n 1, 1), (194, .iload_n 2, 1), (195, .invokevirtual 181, 3), (198, .ireturn, 1), (199, .iload_n 1, 1), (200, .bipush 7, 2), (202, .if_icmp .ne 8, 3), (205, .aload_n 0, 1), (206, .invokevirtual 184, 3), (209, .ireturn, 1), (210, .aload_n 0, 1), (211, .iload_n 1, 1), (212, .invokevirtual 187, 3), (215, .aload_n 0, 1), (216, .iconst 1, 1), (217, .invokevirtual 178, 3), (220, .ireturn, 1)]
def m_Mo_operate : ZM := (⟨"StackRealModel", "operate", "(II)I"⟩, prog_9_method_41_code, 6, some .int, [], 7, 0, [], i_Mo_operate)
def i_Mo_cost : List (Nat × Instr × Nat) := [(0, .iload_n 0, 1), (1, .iconst 2, 1), (2, .if_icmp .ge 6, 3), (5, .bipush 8, 2), (7, .ireturn, 1), (8, .iload_n 0, 1), (9, .iconst 2, 1), (10, .if_icmp .ne 6, 3), (13, .bipush 12, 2), (15, .ireturn, 1), (16, .iload_n 0, 1), (17, .iconst 5, 1), (18, .if_icmp .ge 8, 3), (21, .bipush 20, 2), (23, .goto 15, 3), (26, .iload_n 0, 1), (27, .bipush 8, 2), (29, .if_icmp .ge 8, 3), (32, .bipush 6, 2), (34, .goto 4, 3), (37, .iconst 2, 1), (38, .ireturn, 1)]
def m_Mo_cost : ZM := (⟨"StackRealModel", "cost", "(I)I"⟩, prog_9_method_40_code, 1, some .int, [], 7, 0, [], i_Mo_cost)
def i_Mo_begin : List (Nat × Instr × Nat) := [(0, .aload_n 0, 1), (1, .aload_n 0, 1), (2, .getfield 146, 3), (5, .invokevirtual 152, 3), (8, .aload_n 0, 1), (9, .iload_n 1, 1), (10, .putfield 146, 3), (13, .aload_n 0, 1), (14, .iconst 0, 1), (15, .putfield 62, 3), (18, .return_, 1)]
def m_Mo_begin : ZM := (⟨"StackRealModel", "begin", "(I)V"⟩, prog_9_method_36_code, 2, none, [], 7, 0, [], i_Mo_begin)
def i_Mo_goOn : List (Nat × Instr × Nat) := [(0, .aload_n 0, 1), (1, .aload_n 0, 1), (2, .getfield 142, 3), (5, .iload_n 1, 1), (6, .i2l, 1), (7, .ladd, 1), (8, .putfield 142, 3), (11, .aload_n 0, 1), (12, .getfield 146, 3), (15, .ifCond .ne 4, 3), (18, .return_, 1), (19, .aload_n 0, 1), (20, .aload_n 0, 1), (21, .getfield 146, 3), (24, .iload_n 1, 1), (25, .if_icmp .le 12, 3), (28, .aload_n 0, 1), (29, .getfield 146, 3), (32, .iload_n 1, 1), (33, .isub, 1), (34, .goto 4, 3), (37, .iconst 0, 1), (38, .putfield 146, 3), (41, .aload_n 0, 1), (42, .getfield 146, 3), (45, .ifCond .ne 28, 3), (48, .aload_n 0, 1), (49, .getfield 34, 3), (52, .ifCond .lt 21, 3), (55, .aload_n 0, 1), (56, .getfield 31, 3), (59, .aload_n 0, 1), (60, .getfield 34, 3), (63, .aload_n 0, 1), (64, .getfield 149, 3), (67, .lastore, 1), (68, .aload_n 0, 1), (69, .iconst (-1), 1), (70, .putfield 34, 3), (73, .return_, 1)]
def m_Mo_goOn : ZM := (⟨"StackRealModel", "goOn", "(I)V"⟩, prog_9_method_35_code, 2, none, [], 7, 0, [], i_Mo_goOn)
def i_Mo_refuse : List (Nat × Instr × Nat) := [(0, .aload_n 0, 1), (1, .iconst 1, 1), (2, .putfield 62, 3), (5, .aload_n 0, 1), (6, .invokevirtual 161, 3), (9, .ifCond .eq 7, 3), (12, .iconst 0, 1), (13, .goto 7, 3), (16, .aload_n 0, 1), (17, .getfield 62, 3), (20, .ireturn, 1)]
def m_Mo_refuse : ZM := (⟨"StackRealModel", "refuse", "()I"⟩, prog_9_method_39_code, 1, some .int, [], 7, 0, [], i_Mo_refuse)
def i_Mo_throwing : List (Nat × Instr × Nat) := [(0, .aload_n 0, 1), (1, .aload_n 0, 1), (2, .getfield 155, 3), (5, .aload_n 0, 1), (6, .getfield 62, 3), (9, .ior, 1), (10, .putfield 155, 3), (13, .aload_n 0, 1), (14, .aload_n 0, 1), (15, .getfield 62, 3), (18, .aload_n 0, 1), (19, .getfield 13, 3), (22, .iconst (-1), 1), (23, .ixor, 1), (24, .iand, 1), (25, .ifCond .eq 7, 3), (28, .iconst 2, 1), (29, .goto 4, 3), (32, .iconst 0, 1), (33, .putfield 40, 3), (36, .aload_n 0, 1), (37, .getfield 40, 3), (40, .ifCond .le 7, 3), (43, .iconst 1, 1), (44, .goto 4, 3), (47, .iconst 0, 1), (48, .ireturn, 1)]
def m_Mo_throwing : ZM := (⟨"StackRealModel", "throwing", "()Z"⟩, prog_9_method_37_code, 1, some .boolean, [], 7, 0, [], i_Mo_throwing)
def i_Mo_copy : List (Nat × Instr × Nat) := [(0, .aload_n 0, 1), (1, .getfield 16, 3), (4, .iload_n 2, 1), (5, .aload_n 0, 1), (6, .getfield 16, 3), (9, .iload_n 1, 1), (10, .iaload, 1), (11, .iastore, 1), (12, .aload_n 0, 1), (13, .getfield 20, 3), (16, .iload_n 2, 1), (17, .aload_n 0, 1), (18, .getfield 20, 3), (21, .iload_n 1, 1), (22, .baload, 1), (23, .bastore, 1), (24, .aload_n 0, 1), (25, .getfield 24, 3), (28, .iload_n 2, 1), (29, .aload_n 0, 1), (30, .getfield 24, 3), (33, .iload_n 1, 1), (34, .iaload, 1), (35, .iastore, 1), (36, .aload_n 0, 1), (37, .getfield 27, 3), (40, .iload_n 2, 1), (41, .aload_n 0, 1), (42, .getfield 27, 3), (45, .iload_n 1, 1), (46, .laload, 1), (47, .lastore, 1), (48, .return_, 1)]
def m_Mo_copy : ZM := (⟨"StackRealModel", "copy", "(II)V"⟩, prog_9_method_16_code, 3, none, [], 7, 0, [], i_Mo_copy)
def i_Mo_reckon : List (Nat × Instr × Nat) := [(0, .iload_n 1, 1), (1, .iconst 1, 1), (2, .if_icmp .ne 36, 3), (5, .aload_n 0, 1), (6, .getfield 20, 3), (9, .bipush 8, 2), (11, .aload_n 0, 1), (12, .getfield 16, 3), (15, .bipush 8, 2), (17, .iaload, 1), (18, .iconst 3, 1), (19, .if_icmp .eq 17, 3), (22, .aload_n 0, 1), (23, .getfield 20, 3), (26, .bipush 8, 2), (28, .baload, 1), (29, .ifCond .ne 7, 3), (32, .iconst 1, 1), (33, .goto 4, 3), (36, .iconst 0, 1), (37, .bastore, 1), (38, .iload_n 1, 1), (39, .iconst 2, 1), (40, .if_icmp .ge 7, 3), (43, .aload_n 0, 1), (44, .invokevirtual 190, 3), (47, .iload_n 1, 1), (48, .iconst 2, 1), (49, .if_icmp .ne 7, 3), (52, .aload_n 0, 1), (53, .invokevirtual 193, 3), (56, .iload_n 1, 1), (57, .iconst 3, 1), (58, .if_icmp .ge 4, 3), (61, .return_, 1), (62, .aload_n 0, 1), (63, .bipush 8, 2), (65, .bipush 10, 2), (67, .invokevirtual 125, 3), (70, .aload_n 0, 1), (71, .bipush 9, 2), (73, .bipush 8, 2), (75, .invokevirtual 125, 3), (78, .aload_n 0, 1), (79, .bipush 10, 2), (81, .bipush 9, 2), (83, .invokevirtual 125, 3), (86, .aload_n 0, 1), (87, .invokevirtual 196, 3), (90, .return_, 1)]
def m_Mo_reckon : ZM := (⟨"StackRealModel", "reckon", "(I)V"⟩, prog_9_method_42_code, 2, none, [], 7, 0, [], i_Mo_reckon)
def i_Mo_sum : List (Nat × Instr × Nat) := [(0, .aload_n 0, 1), (1, .iconst 3, 1), (2, .invokevirtual 101, 3), (5, .ifCond .eq 12, 3), (8, .aload_n 0, 1), (9, .iconst 3, 1), (10, .iconst 0, 1), (11, .invokevirtual 65, 3), (14, .goto 277, 3), (17, .aload_n 0, 1), (18, .iconst 2, 1), (19, .invokevirtual 101, 3), (22, .ifCond .eq 90, 3), (25, .aload_n 0, 1), (26, .getfield 16, 3), (29, .bipush 8, 2), (31, .iaload, 1), (32, .aload_n 0, 1), (33, .getfield 16, 3), (36, .bipush 9, 2), (38, .iaload, 1), (39, .if_icmp .ne 7, 3), (42, .iconst 1, 1), (43, .goto 4, 3), (46, .iconst 0, 1), (47, .istore_n 1, 1), (48, .iload_n 1, 1), (49, .ifCond .eq 27, 3), (52, .aload_n 0, 1), (53, .getfield 20, 3), (56, .bipush 8, 2), (58, .baload, 1), (59, .aload_n 0, 1), (60, .getfield 20, 3), (63, .bipush 9, 2), (65, .baload, 1), (66, .if_icmp .eq 10, 3), (69, .aload_n 0, 1), (70, .invokevirtual 105, 3), (73, .goto 36, 3), (76, .aload_n 0, 1), (77, .iconst 2, 1), (78, .aload_n 0, 1), (79, .getfield 16, 3), (82, .bipush 8, 2), (84, .iaload, 1), (85, .iconst 2, 1), (86, .if_icmp .ne 13, 3), (89, .aload_n 0, 1), (90, .getfield 20, 3), (93, .bipush 8, 2), (95, .baload, 1), (96, .goto 10, 3), (99, .aload_n 0, 1), (100, .getfield 20, 3), (103, .bipush 9, 2), (105, .baload, 1), (106, .invokevirtual 65, 3), (109, .goto 182, 3), (112, .aload_n 0, 1), (113, .getfield 16, 3), (116, .bipush 8, 2), (118, .iaload, 1), (119, .ifCond .ne 61, 3), (122, .aload_n 0, 1), (123, .getfield 16, 3), (126, .bipush 9, 2), (128, .iaload, 1), (129, .ifCond .ne 51, 3), (132, .aload_n 0, 1), (133, .iconst 0, 1), (134, .aload_n 0, 1), (135, .getfield 20, 3), (138, .bipush 8, 2), (140, .baload, 1), (141, .aload_n 0, 1), (142, .getfield 20, 3), (145, .bipush 9, 2), (147, .baload, 1), (148, .if_icmp .ne 13, 3), (151, .aload_n 0, 1), (152, .getfield 20, 3), (155, .bipush 8, 2), (157, .baload, 1), (158, .goto 16, 3), (161, .aload_n 0, 1), (162, .getfield 69, 3), (165, .iconst 1, 1), (166, .if_icmp .ne 7, 3), (169, .iconst 1, 1), (170, .goto 4, 3), (173, .iconst 0, 1), (174, .invokevirtual 65, 3), (177, .goto 114, 3), (180, .aload_n 0, 1), (181, .iconst 0, 1), (182, .invokevirtual 101, 3), (185, .ifCond .eq 54, 3), (188, .aload_n 0, 1), (189, .getfield 16, 3), (192, .bipush 8, 2), (194, .iaload, 1), (195, .ifCond .ne 8, 3), (198, .bipush 9, 2), (200, .goto 5, 3), (203, .bipush 8, 2), (205, .istore_n 1, 1), (206, .aload_n 0, 1), (207, .iconst 0, 1), (208, .aload_n 0, 1), (209, .getfield 27, 3), (212, .iload_n 1, 1), (213, .laload, 1), (214, .invokevirtual 80, 3), (217, .aload_n 0, 1), (218, .aload_n 0, 1), (219, .getfield 20, 3), (222, .iload_n 1, 1), (223, .baload, 1), (224, .aload_n 0, 1), (225, .getfield 24, 3), (228, .iload_n 1, 1), (229, .iaload, 1), (230, .bipush 63, 2), (232, .isub, 1), (233, .invokevirtual 108, 3), (236, .goto 55, 3), (239, .aload_n 0, 1), (240, .aload_n 0, 1), (241, .getfield 24, 3), (244, .bipush 8, 2), (246, .iaload, 1), (247, .aload_n 0, 1), (248, .getfield 24, 3), (251, .bipush 9, 2), (253, .iaload, 1), (254, .if_icmp .ge 8, 3), (257, .bipush 9, 2), (259, .goto 5, 3), (262, .bipush 8, 2), (264, .aload_n 0, 1), (265, .getfield 24, 3), (268, .bipush 8, 2), (270, .iaload, 1), (271, .aload_n 0, 1), (272, .getfield 24, 3), (275, .bipush 9, 2), (277, .iaload, 1), (278, .if_icmp .ge 8, 3), (281, .bipush 8, 2), (283, .goto 5, 3), (286, .bipush 9, 2), (288, .invokevirtual 112, 3), (291, .return_, 1)]
def m_Mo_sum : ZM := (⟨"StackRealModel", "sum", "()V"⟩, prog_9_method_22_code, 2, none, [], 7, 0, [], i_Mo_sum)
def i_Mo_either : List (Nat × Instr × Nat) := [(0, .aload_n 0, 1), (1, .getfield 16, 3), (4, .bipush 8, 2), (6, .iaload, 1), (7, .iload_n 1, 1), (8, .if_icmp .eq 14, 3), (11, .aload_n 0, 1), (12, .getfield 16, 3), (15, .bipush 9, 2), (17, .iaload, 1), (18, .iload_n 1, 1), (19, .if_icmp .ne 7, 3), (22, .iconst 1, 1), (23, .goto 4, 3), (26, .iconst 0, 1), (27, .ireturn, 1)]
def m_Mo_either : ZM := (⟨"StackRealModel", "either", "(I)Z"⟩, prog_9_method_21_code, 2, some .boolean, [], 7, 0, [], i_Mo_either)
def i_Mo_special : List (Nat × Instr × Nat) := [(0, .aload_n 0, 1), (1, .getfield 16, 3), (4, .bipush 10, 2), (6, .iload_n 1, 1), (7, .iastore, 1), (8, .aload_n 0, 1), (9, .getfield 20, 3), (12, .bipush 10, 2), (14, .iload_n 1, 1), (15, .iconst 3, 1), (16, .if_icmp .eq 11, 3), (19, .iload_n 2, 1), (20, .ifCond .eq 7, 3), (23, .iconst 1, 1), (24, .goto 4, 3), (27, .iconst 0, 1), (28, .bastore, 1), (29, .aload_n 0, 1), (30, .getfield 24, 3), (33, .bipush 10, 2), (35, .iconst 0, 1), (36, .iastore, 1), (37, .aload_n 0, 1), (38, .getfield 27, 3), (41, .bipush 10, 2), (43, .lconst 0, 1), (44, .lastore, 1), (45, .return_, 1)]
def m_Mo_special : ZM := (⟨"StackRealModel", "special", "(IZ)V"⟩, prog_9_method_14_code, 3, none, [], 7, 0, [], i_Mo_special)
def i_Mo_invalid : List (Nat × Instr × Nat) := [(0, .aload_n 0, 1), (1, .aload_n 0, 1), (2, .getfield 62, 3), (5, .iconst 1, 1), (6, .ior, 1), (7, .putfield 62, 3), (10, .aload_n 0, 1), (11, .iconst 3, 1), (12, .iconst 0, 1), (13, .invokevirtual 65, 3), (16, .return_, 1)]
def m_Mo_invalid : ZM := (⟨"StackRealModel", "invalid", "()V"⟩, prog_9_method_15_code, 1, none, [], 7, 0, [], i_Mo_invalid)
def i_Mo_put : List (Nat × Instr × Nat) := [(0, .aload_n 0, 1), (1, .iload_n 1, 1), (2, .invokevirtual 43, 3), (5, .iconst 0, 1), (6, .istore 4, 2), (8, .iload 4, 2), (10, .iconst 4, 1), (11, .if_icmp .ge 33, 3), (14, .aload_n 0, 1), (15, .getfield 37, 3), (18, .bipush 32, 2), (20, .iload_n 1, 1), (21, .imul, 1), (22, .iload 4, 2), (24, .iadd, 1), (25, .lload_n 2, 1), (26, .bipush 16, 2), (28, .iload 4, 2), (30, .imul, 1), (31, .lushr, 1), (32, .ldc2_w 47, 3), (35, .land, 1), (36, .l2i, 1), (37, .iastore, 1), (38, .iinc 4 1, 3), (41, .goto (-33), 3), (44, .return_, 1)]
def m_Mo_put : ZM := (⟨"StackRealModel", "put", "(IJ)V"⟩, prog_9_method_5_code, 5, none, [], 7, 0, [], i_Mo_put)
def i_Mo_blank : List (Nat × Instr × Nat) := [(0, .iconst 0, 1), (1, .istore_n 2, 1), (2, .iload_n 2, 1), (3, .bipush 32, 2), (5, .if_icmp .ge 21, 3), (8, .aload_n 0, 1), (9, .getfield 37, 3), (12, .bipush 32, 2), (14, .iload_n 1, 1), (15, .imul, 1), (16, .iload_n 2, 1), (17, .iadd, 1), (18, .iconst 0, 1), (19, .iastore, 1), (20, .iinc 2 1, 3), (23, .goto (-21), 3), (26, .return_, 1)]
def m_Mo_blank : ZM := (⟨"StackRealModel", "blank", "(I)V"⟩, prog_9_method_4_code, 3, none, [], 7, 0, [], i_Mo_blank)
def i_Mo_result : List (Nat × Instr × Nat) := [(0, .aload_n 0, 1), (1, .iload_n 1, 1), (2, .iload_n 2, 1), (3, .aload_n 0, 1), (4, .getfield 7, 3), (7, .sipush 16383, 3), (10, .invokevirtual 97, 3), (13, .return_, 1)]
def m_Mo_result : ZM := (⟨"StackRealModel", "result", "(ZI)V"⟩, prog_9_method_20_code, 3, none, [], 7, 0, [], i_Mo_result)
def i_Mo_round : List (Nat × Instr × Nat) := [(0, .aload_n 0, 1), (1, .iconst 0, 1), (2, .invokevirtual 53, 3), (5, .istore 5, 2), (7, .iload 5, 2), (9, .iconst 1, 1), (10, .iadd, 1), (11, .iload_n 3, 1), (12, .isub, 1), (13, .istore 6, 2), (15, .iload 5, 2), (17, .iload_n 2, 1), (18, .iadd, 1), (19, .istore 7, 2), (21, .iload 6, 2), (23, .ifCond .le 17, 3), (26, .aload_n 0, 1), (27, .iload 6, 2), (29, .iload_n 1, 1), (30, .invokevirtual 72, 3), (33, .ifCond .eq 7, 3), (36, .iconst 1, 1), (37, .goto 4, 3), (40, .iconst 0, 1), (41, .istore 8, 2), (43, .aload_n 0, 1), (44, .iconst 0, 1), (45, .iconst 1, 1), (46, .iload 6, 2), (48, .ineg, 1), (49, .invokevirtual 76, 3), (52, .iload 8, 2), (54, .ifCond .eq 36, 3), (57, .aload_n 0, 1), (58, .iconst 2, 1), (59, .lconst 1, 1), (60, .invokevirtual 80, 3), (63, .aload_n 0, 1), (64, .iconst 1, 1), (65, .iconst 2, 1), (66, .iconst 1, 1), (67, .invokevirtual 84, 3), (70, .aload_n 0, 1), (71, .iconst 1, 1), (72, .invokevirtual 53, 3), (75, .iload_n 3, 1), (76, .if_icmp .ne 10, 3), (79, .iload 7, 2), (81, .iconst 1, 1), (82, .iadd, 1), (83, .goto 5, 3), (86, .iload 7, 2), (88, .istore 7, 2), (90, .aload_n 0, 1), (91, .iconst 1, 1), (92, .iconst 2, 1), (93, .bipush 63, 2), (95, .aload_n 0, 1), (96, .iconst 1, 1), (97, .invokevirtual 53, 3), (100, .isub, 1), (101, .invokevirtual 76, 3), (104, .aload_n 0, 1), (105, .getfield 16, 3), (108, .bipush 10, 2), (110, .iconst 1, 1), (111, .iastore, 1), (112, .aload_n 0, 1), (113, .getfield 20, 3), (116, .bipush 10, 2), (118, .iload_n 1, 1), (119, .bastore, 1), (120, .aload_n 0, 1), (121, .getfield 24, 3), (124, .bipush 10, 2), (126, .iload 7, 2), (128, .iastore, 1), (129, .aload_n 0, 1), (130, .getfield 27, 3), (133, .bipush 10, 2), (135, .aload_n 0, 1), (136, .iconst 2, 1), (137, .invokevirtual 87, 3), (140, .lastore, 1), (141, .iload 7, 2), (143, .iconst 1, 1), (144, .iload 4, 2), (146, .isub, 1), (147, .if_icmp .ge 23, 3), (150, .aload_n 0, 1), (151, .aload_n 0, 1), (152, .getfield 62, 3), (155, .bipush 8, 2), (157, .ior, 1), (158, .bipush 16, 2), (160, .ior, 1), (161, .putfield 62, 3), (164, .aload_n 0, 1), (165, .iconst 0, 1), (166, .iload_n 1, 1), (167, .invokevirtual 65, 3), (170, .iload 7, 2), (172, .iload 4, 2), (174, .if_icmp .le 11, 3), (177, .aload_n 0, 1), (178, .iload_n 1, 1), (179, .iload_n 3, 1), (180, .iload 4, 2), (182, .invokevirtual 91, 3), (185, .return_, 1)]
def m_Mo_round : ZM := (⟨"StackRealModel", "round", "(ZIII)V"⟩, prog_9_method_18_code, 9, none, [], 7, 0, [], i_Mo_round)
def i_Mo_top : List (Nat × Instr × Nat) := [(0, .sipush 511, 3), (3, .istore_n 2, 1), (4, .iload_n 2, 1), (5, .ifCond .lt 18, 3), (8, .aload_n 0, 1), (9, .iload_n 1, 1), (10, .iload_n 2, 1), (11, .invokevirtual 49, 3), (14, .ifCond .ne 9, 3), (17, .iinc 2 (-1), 3), (20, .goto (-16), 3), (23, .iload_n 2, 1), (24, .ireturn, 1)]
def m_Mo_top : ZM := (⟨"StackRealModel", "top", "(I)I"⟩, prog_9_method_8_code, 3, some .int, [], 7, 0, [], i_Mo_top)
def i_Mo_bit : List (Nat × Instr × Nat) := [(0, .iload_n 2, 1), (1, .ifCond .ge 7, 3), (4, .iconst 0, 1), (5, .goto 24, 3), (8, .aload_n 0, 1), (9, .getfield 37, 3), (12, .bipush 32, 2), (14, .iload_n 1, 1), (15, .imul, 1), (16, .iload_n 2, 1), (17, .bipush 16, 2), (19, .idiv, 1), (20, .iadd, 1), (21, .iaload, 1), (22, .iload_n 2, 1), (23, .bipush 16, 2), (25, .irem, 1), (26, .ishr, 1), (27, .iconst 1, 1), (28, .iand, 1), (29, .ireturn, 1)]
def m_Mo_bit : ZM := (⟨"StackRealModel", "bit", "(II)I"⟩, prog_9_method_6_code, 3, some .int, [], 7, 0, [], i_Mo_bit)
def i_Mo_goesUp : List (Nat × Instr × Nat) := [(0, .aload_n 0, 1), (1, .iconst 0, 1), (2, .iload_n 1, 1), (3, .iconst 1, 1), (4, .isub, 1), (5, .invokevirtual 49, 3), (8, .iconst 1, 1), (9, .if_icmp .ne 7, 3), (12, .iconst 1, 1), (13, .goto 4, 3), (16, .iconst 0, 1), (17, .istore_n 3, 1), (18, .iconst 0, 1), (19, .istore 4, 2), (21, .iconst 0, 1), (22, .istore 5, 2), (24, .iload 5, 2), (26, .iload_n 1, 1), (27, .iconst 1, 1), (28, .isub, 1), (29, .if_icmp .ge 32, 3), (32, .iload 4, 2), (34, .ifCond .ne 14, 3), (37, .aload_n 0, 1), (38, .iconst 0, 1), (39, .iload 5, 2), (41, .invokevirtual 49, 3), (44, .iconst 1, 1), (45, .if_icmp .ne 7, 3), (48, .iconst 1, 1), (49, .goto 4, 3), (52, .iconst 0, 1), (53, .istore 4, 2), (55, .iinc 5 1, 3), (58, .goto (-34), 3), (61, .iload_n 3, 1), (62, .ifCond .ne 10, 3), (65, .iload 4, 2), (67, .ifCond .ne 5, 3), (70, .iconst 0, 1), (71, .ireturn, 1), (72, .aload_n 0, 1), (73, .aload_n 0, 1), (74, .getfield 62, 3), (77, .bipush 16, 2), (79, .ior, 1), (80, .putfield 62, 3), (83, .aload_n 0, 1), (84, .getfield 69, 3), (87, .ifCond .ne 28, 3), (90, .iload_n 3, 1), (91, .ifCond .eq 22, 3), (94, .iload 4, 2), (96, .ifCond .ne 13, 3), (99, .aload_n 0, 1), (100, .iconst 0, 1), (101, .iload_n 1, 1), (102, .invokevirtual 49, 3), (105, .iconst 1, 1), (106, .if_icmp .ne 7, 3), (109, .iconst 1, 1), (110, .goto 4, 3), (113, .iconst 0, 1), (114, .ireturn, 1), (115, .aload_n 0, 1), (116, .getfield 69, 3), (119, .iconst 1, 1), (120, .if_icmp .ne 7, 3), (123, .iload_n 2, 1), (124, .goto 20, 3), (127, .aload_n 0, 1), (128, .getfield 69, 3), (131, .iconst 2, 1), (132, .if_icmp .ne 11, 3), (135, .iload_n 2, 1), (136, .ifCond .ne 7, 3), (139, .iconst 1, 1), (140, .goto 4, 3), (143, .iconst 0, 1), (144, .ireturn, 1)]
def m_Mo_goesUp : ZM := (⟨"StackRealModel", "goesUp", "(IZ)Z"⟩, prog_9_method_17_code, 6, some .boolean, [], 7, 0, [], i_Mo_goesUp)
def i_Mo_shift : List (Nat × Instr × Nat) := [(0, .aload_n 0, 1), (1, .iload_n 2, 1), (2, .invokevirtual 43, 3), (5, .aload_n 0, 1), (6, .iload_n 1, 1), (7, .invokevirtual 53, 3), (10, .istore 4, 2), (12, .iload_n 3, 1), (13, .ifCond .ge 8, 3), (16, .iload_n 3, 1), (17, .ineg, 1), (18, .goto 4, 3), (21, .iconst 0, 1), (22, .istore 5, 2), (24, .iload 5, 2), (26, .iload 4, 2), (28, .if_icmp .gt 29, 3), (31, .aload_n 0, 1), (32, .iload_n 1, 1), (33, .iload 5, 2), (35, .invokevirtual 49, 3), (38, .iconst 1, 1), (39, .if_icmp .ne 12, 3), (42, .aload_n 0, 1), (43, .iload_n 2, 1), (44, .iload 5, 2), (46, .iload_n 3, 1), (47, .iadd, 1), (48, .invokevirtual 57, 3), (51, .iinc 5 1, 3), (54, .goto (-30), 3), (57, .return_, 1)]
def m_Mo_shift : ZM := (⟨"StackRealModel", "shift", "(III)V"⟩, prog_9_method_9_code, 6, none, [], 7, 0, [], i_Mo_shift)
def i_Mo_setBit : List (Nat × Instr × Nat) := [(0, .aload_n 0, 1), (1, .getfield 37, 3), (4, .bipush 32, 2), (6, .iload_n 1, 1), (7, .imul, 1), (8, .iload_n 2, 1), (9, .bipush 16, 2), (11, .idiv, 1), (12, .iadd, 1), (13, .aload_n 0, 1), (14, .getfield 37, 3), (17, .bipush 32, 2), (19, .iload_n 1, 1), (20, .imul, 1), (21, .iload_n 2, 1), (22, .bipush 16, 2), (24, .idiv, 1), (25, .iadd, 1), (26, .iaload, 1), (27, .iconst 1, 1), (28, .iload_n 2, 1), (29, .bipush 16, 2), (31, .irem, 1), (32, .ishl, 1), (33, .ior, 1), (34, .iastore, 1), (35, .return_, 1)]
def m_Mo_setBit : ZM := (⟨"StackRealModel", "setBit", "(II)V"⟩, prog_9_method_7_code, 3, none, [], 7, 0, [], i_Mo_setBit)
def i_Mo_add : List (Nat × Instr × Nat) := [(0, .iconst 0, 1), (1, .istore 4, 2), (3, .iconst 0, 1), (4, .istore 5, 2), (6, .iload 5, 2), (8, .bipush 32, 2), (10, .if_icmp .ge 65, 3), (13, .aload_n 0, 1), (14, .getfield 37, 3), (17, .bipush 32, 2), (19, .iload_n 1, 1), (20, .imul, 1), (21, .iload 5, 2), (23, .iadd, 1), (24, .iaload, 1), (25, .iload_n 3, 1), (26, .aload_n 0, 1), (27, .getfield 37, 3), (30, .bipush 32, 2), (32, .iload_n 2, 1), (33, .imul, 1), (34, .iload 5, 2), (36, .iadd, 1), (37, .iaload, 1), (38, .imul, 1), (39, .iadd, 1), (40, .iload 4, 2), (42, .iadd, 1), (43, .istore 6, 2), (45, .aload_n 0, 1), (46, .getfield 37, 3), (49, .bipush 32, 2), (51, .iload_n 1, 1), (52, .imul, 1), (53, .iload 5, 2), (55, .iadd, 1), (56, .iload 6, 2), (58, .ldc 61, 2), (60, .iand, 1), (61, .iastore, 1), (62, .iload 6, 2), (64, .bipush 16, 2), (66, .ishr, 1), (67, .istore 4, 2), (69, .iinc 5 1, 3), (72, .goto (-66), 3), (75, .return_, 1)]
def m_Mo_add : ZM := (⟨"StackRealModel", "add", "(III)V"⟩, prog_9_method_10_code, 7, none, [], 7, 0, [], i_Mo_add)
def i_Mo_lowest : List (Nat × Instr × Nat) := [(0, .lconst 0, 1), (1, .lstore_n 2, 1), (2, .iconst 3, 1), (3, .istore 4, 2), (5, .iload 4, 2), (7, .ifCond .lt 28, 3), (10, .lload_n 2, 1), (11, .bipush 16, 2), (13, .lshl, 1), (14, .aload_n 0, 1), (15, .getfield 37, 3), (18, .bipush 32, 2), (20, .iload_n 1, 1), (21, .imul, 1), (22, .iload 4, 2), (24, .iadd, 1), (25, .iaload, 1), (26, .i2l, 1), (27, .lor, 1), (28, .lstore_n 2, 1), (29, .iinc 4 (-1), 3), (32, .goto (-27), 3), (35, .lload_n 2, 1), (36, .lreturn, 1)]
def m_Mo_lowest : ZM := (⟨"StackRealModel", "lowest", "(I)J"⟩, prog_9_method_13_code, 5, some .long, [], 7, 0, [], i_Mo_lowest)
def i_Mo_tooLarge : List (Nat × Instr × Nat) := [(0, .aload_n 0, 1), (1, .aload_n 0, 1), (2, .getfield 62, 3), (5, .iconst 4, 1), (6, .ior, 1), (7, .bipush 16, 2), (9, .ior, 1), (10, .putfield 62, 3), (13, .aload_n 0, 1), (14, .getfield 69, 3), (17, .iconst 3, 1), (18, .if_icmp .eq 27, 3), (21, .aload_n 0, 1), (22, .getfield 69, 3), (25, .iconst 1, 1), (26, .if_icmp .ne 7, 3), (29, .iload_n 1, 1), (30, .ifCond .eq 15, 3), (33, .aload_n 0, 1), (34, .getfield 69, 3), (37, .iconst 2, 1), (38, .if_icmp .ne 11, 3), (41, .iload_n 1, 1), (42, .ifCond .eq 7, 3), (45, .iconst 1, 1), (46, .goto 4, 3), (49, .iconst 0, 1), (50, .istore 4, 2), (52, .aload_n 0, 1), (53, .iconst 2, 1), (54, .iload_n 1, 1), (55, .invokevirtual 65, 3), (58, .iload 4, 2), (60, .ifCond .ne 4, 3), (63, .return_, 1), (64, .aload_n 0, 1), (65, .getfield 16, 3), (68, .bipush 10, 2), (70, .iconst 1, 1), (71, .iastore, 1), (72, .aload_n 0, 1), (73, .getfield 24, 3), (76, .bipush 10, 2), (78, .iload_n 3, 1), (79, .iastore, 1), (80, .aload_n 0, 1), (81, .getfield 27, 3), (84, .bipush 10, 2), (86, .ldc2_w 95, 3), (89, .bipush 64, 2), (91, .iload_n 2, 1), (92, .isub, 1), (93, .lshl, 1), (94, .lastore, 1), (95, .return_, 1)]
def m_Mo_tooLarge : ZM := (⟨"StackRealModel", "tooLarge", "(ZII)V"⟩, prog_9_method_19_code, 5, none, [], 7, 0, [], i_Mo_tooLarge)
def i_Mo_finiteSum : List (Nat × Instr × Nat) := [(0, .aload_n 0, 1), (1, .getfield 24, 3), (4, .iload_n 1, 1), (5, .iaload, 1), (6, .aload_n 0, 1), (7, .getfield 24, 3), (10, .iload_n 2, 1), (11, .iaload, 1), (12, .isub, 1), (13, .istore_n 3, 1), (14, .iload_n 3, 1), (15, .bipush 70, 2), (17, .if_icmp .le 7, 3), (20, .iconst 1, 1), (21, .goto 4, 3), (24, .iconst 0, 1), (25, .istore 4, 2), (27, .aload_n 0, 1), (28, .iconst 1, 1), (29, .aload_n 0, 1), (30, .getfield 27, 3), (33, .iload_n 1, 1), (34, .laload, 1), (35, .invokevirtual 80, 3), (38, .aload_n 0, 1), (39, .iconst 1, 1), (40, .iconst 0, 1), (41, .iload 4, 2), (43, .ifCond .eq 8, 3), (46, .bipush 10, 2), (48, .goto 4, 3), (51, .iload_n 3, 1), (52, .invokevirtual 76, 3), (55, .aload_n 0, 1), (56, .iconst 1, 1), (57, .iload 4, 2), (59, .ifCond .eq 7, 3), (62, .lconst 1, 1), (63, .goto 9, 3), (66, .aload_n 0, 1), (67, .getfield 27, 3), (70, .iload_n 2, 1), (71, .laload, 1), (72, .invokevirtual 80, 3), (75, .iload 4, 2), (77, .ifCond .eq 15, 3), (80, .aload_n 0, 1), (81, .getfield 24, 3), (84, .iload_n 1, 1), (85, .iaload, 1), (86, .bipush 73, 2), (88, .isub, 1), (89, .goto 12, 3), (92, .aload_n 0, 1), (93, .getfield 24, 3), (96, .iload_n 2, 1), (97, .iaload, 1), (98, .bipush 63, 2), (100, .isub, 1), (101, .istore 5, 2), (103, .aload_n 0, 1), (104, .getfield 20, 3), (107, .iload_n 1, 1), (108, .baload, 1), (109, .istore 6, 2), (111, .aload_n 0, 1), (112, .getfield 20, 3), (115, .iload_n 1, 1), (116, .baload, 1), (117, .aload_n 0, 1), (118, .getfield 20, 3), (121, .iload_n 2, 1), (122, .baload, 1), (123, .if_icmp .ne 13, 3), (126, .aload_n 0, 1), (127, .iconst 0, 1), (128, .iconst 1, 1), (129, .iconst 1, 1), (130, .invokevirtual 84, 3), (133, .goto 44, 3), (136, .aload_n 0, 1), (137, .iconst 0, 1), (138, .iconst 1, 1), (139, .invokevirtual 115, 3), (142, .ifCond .lt 13, 3), (145, .aload_n 0, 1), (146, .iconst 0, 1), (147, .iconst 1, 1), (148, .iconst (-1), 1), (149, .invokevirtual 84, 3), (152, .goto 25, 3), (155, .aload_n 0, 1), (156, .iconst 1, 1), (157, .iconst 0, 1), (158, .iconst (-1), 1), (159, .invokevirtual 84, 3), (162, .aload_n 0, 1), (163, .iconst 1, 1), (164, .iconst 0, 1), (165, .iconst 0, 1), (166, .invokevirtual 76, 3), (169, .aload_n 0, 1), (170, .getfield 20, 3), (173, .iload_n 2, 1), (174, .baload, 1), (175, .istore 6, 2), (177, .aload_n 0, 1), (178, .iconst 0, 1), (179, .invokevirtual 53, 3), (182, .ifCond .ge 24, 3), (185, .aload_n 0, 1), (186, .iconst 0, 1), (187, .aload_n 0, 1), (188, .getfield 69, 3), (191, .iconst 1, 1), (192, .if_icmp .ne 7, 3), (195, .iconst 1, 1), (196, .goto 4, 3), (199, .iconst 0, 1), (200, .invokevirtual 65, 3), (203, .goto 11, 3), (206, .aload_n 0, 1), (207, .iload 6, 2), (209, .iload 5, 2), (211, .invokevirtual 108, 3), (214, .return_, 1)]
def m_Mo_finiteSum : ZM := (⟨"StackRealModel", "finiteSum", "(II)V"⟩, prog_9_method_23_code, 7, none, [], 7, 0, [], i_Mo_finiteSum)
def i_Mo_compareRows : List (Nat × Instr × Nat) := [(0, .iconst 0, 1), (1, .istore_n 3, 1), (2, .iconst 0, 1), (3, .istore 4, 2), (5, .iload 4, 2), (7, .bipush 32, 2), (9, .if_icmp .ge 56, 3), (12, .aload_n 0, 1), (13, .getfield 37, 3), (16, .bipush 32, 2), (18, .iload_n 1, 1), (19, .imul, 1), (20, .iload 4, 2), (22, .iadd, 1), (23, .iaload, 1), (24, .aload_n 0, 1), (25, .getfield 37, 3), (28, .bipush 32, 2), (30, .iload_n 2, 1), (31, .imul, 1), (32, .iload 4, 2), (34, .iadd, 1), (35, .iaload, 1), (36, .isub, 1), (37, .istore 5, 2), (39, .iload 5, 2), (41, .ifCond .ne 7, 3), (44, .iload_n 3, 1), (45, .goto 13, 3), (48, .iload 5, 2), (50, .ifCond .le 7, 3), (53, .iconst 1, 1), (54, .goto 4, 3), (57, .iconst (-1), 1), (58, .istore_n 3, 1), (59, .iinc 4 1, 3), (62, .goto (-57), 3), (65, .iload_n 3, 1), (66, .ireturn, 1)]
def m_Mo_compareRows : ZM := (⟨"StackRealModel", "compareRows", "(II)I"⟩, prog_9_method_11_code, 6, some .int, [], 7, 0, [], i_Mo_compareRows)
def i_Mo_product : List (Nat × Instr × Nat) := [(0, .aload_n 0, 1), (1, .getfield 20, 3), (4, .bipush 8, 2), (6, .baload, 1), (7, .aload_n 0, 1), (8, .getfield 20, 3), (11, .bipush 9, 2), (13, .baload, 1), (14, .if_icmp .eq 7, 3), (17, .iconst 1, 1), (18, .goto 4, 3), (21, .iconst 0, 1), (22, .istore_n 1, 1), (23, .aload_n 0, 1), (24, .iconst 3, 1), (25, .invokevirtual 101, 3), (28, .ifCond .eq 12, 3), (31, .aload_n 0, 1), (32, .iconst 3, 1), (33, .iconst 0, 1), (34, .invokevirtual 65, 3), (37, .goto 114, 3), (40, .aload_n 0, 1), (41, .iconst 0, 1), (42, .invokevirtual 101, 3), (45, .ifCond .eq 18, 3), (48, .aload_n 0, 1), (49, .iconst 2, 1), (50, .invokevirtual 101, 3), (53, .ifCond .eq 10, 3), (56, .aload_n 0, 1), (57, .invokevirtual 105, 3), (60, .goto 91, 3), (63, .aload_n 0, 1), (64, .iconst 2, 1), (65, .invokevirtual 101, 3), (68, .ifCond .eq 12, 3), (71, .aload_n 0, 1), (72, .iconst 2, 1), (73, .iload_n 1, 1), (74, .invokevirtual 65, 3), (77, .goto 74, 3), (80, .aload_n 0, 1), (81, .iconst 0, 1), (82, .invokevirtual 101, 3), (85, .ifCond .eq 12, 3), (88, .aload_n 0, 1), (89, .iconst 0, 1), (90, .iload_n 1, 1), (91, .invokevirtual 65, 3), (94, .goto 57, 3), (97, .aload_n 0, 1), (98, .iconst 1, 1), (99, .aload_n 0, 1), (100, .getfield 27, 3), (103, .bipush 8, 2), (105, .laload, 1), (106, .invokevirtual 80, 3), (109, .aload_n 0, 1), (110, .iconst 2, 1), (111, .aload_n 0, 1), (112, .getfield 27, 3), (115, .bipush 9, 2), (117, .laload, 1), (118, .invokevirtual 80, 3), (121, .aload_n 0, 1), (122, .iconst 1, 1), (123, .iconst 2, 1), (124, .iconst 0, 1), (125, .invokevirtual 118, 3), (128, .aload_n 0, 1), (129, .iload_n 1, 1), (130, .aload_n 0, 1), (131, .getfield 24, 3), (134, .bipush 8, 2), (136, .iaload, 1), (137, .aload_n 0, 1), (138, .getfield 24, 3), (141, .bipush 9, 2), (143, .iaload, 1), (144, .iadd, 1), (145, .bipush 126, 2), (147, .isub, 1), (148, .invokevirtual 108, 3), (151, .return_, 1)]
def m_Mo_product : ZM := (⟨"StackRealModel", "product", "()V"⟩, prog_9_method_24_code, 2, none, [], 7, 0, [], i_Mo_product)
def i_Mo_times : List (Nat × Instr × Nat) := [(0, .aload_n 0, 1), (1, .iload_n 3, 1), (2, .invokevirtual 43, 3), (5, .iconst 0, 1), (6, .istore 4, 2), (8, .iload 4, 2), (10, .bipush 16, 2), (12, .if_icmp .ge 109, 3), (15, .lconst 0, 1), (16, .lstore 5, 2), (18, .iconst 0, 1), (19, .istore 7, 2), (21, .iload 7, 2), (23, .iload 4, 2), (25, .iadd, 1), (26, .bipush 32, 2), (28, .if_icmp .ge 87, 3), (31, .aload_n 0, 1), (32, .getfield 37, 3), (35, .bipush 32, 2), (37, .iload_n 1, 1), (38, .imul, 1), (39, .iload 4, 2), (41, .iadd, 1), (42, .iaload, 1), (43, .i2l, 1), (44, .aload_n 0, 1), (45, .getfield 37, 3), (48, .bipush 32, 2), (50, .iload_n 2, 1), (51, .imul, 1), (52, .iload 7, 2), (54, .iadd, 1), (55, .iaload, 1), (56, .i2l, 1), (57, .lmul, 1), (58, .aload_n 0, 1), (59, .getfield 37, 3), (62, .bipush 32, 2), (64, .iload_n 3, 1), (65, .imul, 1), (66, .iload 4, 2), (68, .iadd, 1), (69, .iload 7, 2), (71, .iadd, 1), (72, .iaload, 1), (73, .i2l, 1), (74, .ladd, 1), (75, .lload 5, 2), (77, .ladd, 1), (78, .lstore 8, 2), (80, .aload_n 0, 1), (81, .getfield 37, 3), (84, .bipush 32, 2), (86, .iload_n 3, 1), (87, .imul, 1), (88, .iload 4, 2), (90, .iadd, 1), (91, .iload 7, 2), (93, .iadd, 1), (94, .lload 8, 2), (96, .ldc2_w 47, 3), (99, .land, 1), (100, .l2i, 1), (101, .iastore, 1), (102, .lload 8, 2), (104, .bipush 16, 2), (106, .lshr, 1), (107, .lstore 5, 2), (109, .iinc 7 1, 3), (112, .goto (-91), 3), (115, .iinc 4 1, 3), (118, .goto (-110), 3), (121, .return_, 1)]
def m_Mo_times : ZM := (⟨"StackRealModel", "times", "(III)V"⟩, prog_9_method_12_code, 10, none, [], 7, 0, [], i_Mo_times)
def i_Mo_quotient : List (Nat × Instr × Nat) := [(0, .aload_n 0, 1), (1, .getfield 20, 3), (4, .bipush 8, 2), (6, .baload, 1), (7, .aload_n 0, 1), (8, .getfield 20, 3), (11, .bipush 9, 2), (13, .baload, 1), (14, .if_icmp .eq 7, 3), (17, .iconst 1, 1), (18, .goto 4, 3), (21, .iconst 0, 1), (22, .istore_n 1, 1), (23, .aload_n 0, 1), (24, .iconst 3, 1), (25, .invokevirtual 101, 3), (28, .ifCond .eq 12, 3), (31, .aload_n 0, 1), (32, .iconst 3, 1), (33, .iconst 0, 1), (34, .invokevirtual 65, 3), (37, .goto 122, 3), (40, .aload_n 0, 1), (41, .getfield 16, 3), (44, .bipush 8, 2), (46, .iaload, 1), (47, .aload_n 0, 1), (48, .getfield 16, 3), (51, .bipush 9, 2), (53, .iaload, 1), (54, .if_icmp .ne 21, 3), (57, .aload_n 0, 1), (58, .getfield 16, 3), (61, .bipush 8, 2), (63, .iaload, 1), (64, .iconst 1, 1), (65, .if_icmp .eq 10, 3), (68, .aload_n 0, 1), (69, .invokevirtual 105, 3), (72, .goto 87, 3), (75, .aload_n 0, 1), (76, .getfield 16, 3), (79, .bipush 8, 2), (81, .iaload, 1), (82, .iconst 2, 1), (83, .if_icmp .ne 12, 3), (86, .aload_n 0, 1), (87, .iconst 2, 1), (88, .iload_n 1, 1), (89, .invokevirtual 65, 3), (92, .goto 67, 3), (95, .aload_n 0, 1), (96, .getfield 16, 3), (99, .bipush 9, 2), (101, .iaload, 1), (102, .iconst 2, 1), (103, .if_icmp .eq 13, 3), (106, .aload_n 0, 1), (107, .getfield 16, 3), (110, .bipush 8, 2), (112, .iaload, 1), (113, .ifCond .ne 12, 3), (116, .aload_n 0, 1), (117, .iconst 0, 1), (118, .iload_n 1, 1), (119, .invokevirtual 65, 3), (122, .goto 37, 3), (125, .aload_n 0, 1), (126, .getfield 16, 3), (129, .bipush 9, 2), (131, .iaload, 1), (132, .ifCond .ne 22, 3), (135, .aload_n 0, 1), (136, .aload_n 0, 1), (137, .getfield 62, 3), (140, .iconst 2, 1), (141, .ior, 1), (142, .putfield 62, 3), (145, .aload_n 0, 1), (146, .iconst 2, 1), (147, .iload_n 1, 1), (148, .invokevirtual 65, 3), (151, .goto 8, 3), (154, .aload_n 0, 1), (155, .iload_n 1, 1), (156, .invokevirtual 121, 3), (159, .return_, 1)]
def m_Mo_quotient : ZM := (⟨"StackRealModel", "quotient", "()V"⟩, prog_9_method_25_code, 2, none, [], 7, 0, [], i_Mo_quotient)
def i_Mo_finiteQuotient : List (Nat × Instr × Nat) := [(0, .aload_n 0, 1), (1, .iconst 0, 1), (2, .invokevirtual 43, 3), (5, .aload_n 0, 1), (6, .iconst 1, 1), (7, .aload_n 0, 1), (8, .getfield 27, 3), (11, .bipush 8, 2), (13, .laload, 1), (14, .invokevirtual 80, 3), (17, .aload_n 0, 1), (18, .iconst 2, 1), (19, .aload_n 0, 1), (20, .getfield 27, 3), (23, .bipush 9, 2), (25, .laload, 1), (26, .invokevirtual 80, 3), (29, .iconst 0, 1), (30, .istore_n 2, 1), (31, .iload_n 2, 1), (32, .bipush 80, 2), (34, .if_icmp .ge 59, 3), (37, .aload_n 0, 1), (38, .iconst 0, 1), (39, .iconst 3, 1), (40, .iconst 1, 1), (41, .invokevirtual 76, 3), (44, .aload_n 0, 1), (45, .iconst 3, 1), (46, .iconst 0, 1), (47, .iconst 0, 1), (48, .invokevirtual 76, 3), (51, .aload_n 0, 1), (52, .iconst 1, 1), (53, .iconst 2, 1), (54, .invokevirtual 115, 3), (57, .ifCond .lt 16, 3), (60, .aload_n 0, 1), (61, .iconst 1, 1), (62, .iconst 2, 1), (63, .iconst (-1), 1), (64, .invokevirtual 84, 3), (67, .aload_n 0, 1), (68, .iconst 0, 1), (69, .iconst 0, 1), (70, .invokevirtual 57, 3), (73, .aload_n 0, 1), (74, .iconst 1, 1), (75, .iconst 3, 1), (76, .iconst 1, 1), (77, .invokevirtual 76, 3), (80, .aload_n 0, 1), (81, .iconst 3, 1), (82, .iconst 1, 1), (83, .iconst 0, 1), (84, .invokevirtual 76, 3), (87, .iinc 2 1, 3), (90, .goto (-59), 3), (93, .aload_n 0, 1), (94, .iconst 0, 1), (95, .iconst 3, 1), (96, .iconst 1, 1), (97, .invokevirtual 76, 3), (100, .aload_n 0, 1), (101, .iconst 3, 1), (102, .iconst 0, 1), (103, .iconst 0, 1), (104, .invokevirtual 76, 3), (107, .aload_n 0, 1), (108, .iconst 1, 1), (109, .invokevirtual 53, 3), (112, .ifCond .lt 9, 3), (115, .aload_n 0, 1), (116, .iconst 0, 1), (117, .iconst 0, 1), (118, .invokevirtual 57, 3), (121, .aload_n 0, 1), (122, .iload_n 1, 1), (123, .aload_n 0, 1), (124, .getfield 24, 3), (127, .bipush 8, 2), (129, .iaload, 1), (130, .aload_n 0, 1), (131, .getfield 24, 3), (134, .bipush 9, 2), (136, .iaload, 1), (137, .isub, 1), (138, .bipush 80, 2), (140, .isub, 1), (141, .invokevirtual 108, 3), (144, .return_, 1)]
def m_Mo_finiteQuotient : ZM := (⟨"StackRealModel", "finiteQuotient", "(Z)V"⟩, prog_9_method_26_code, 3, none, [], 7, 0, [], i_Mo_finiteQuotient)
def i_Mo_change : List (Nat × Instr × Nat) := [(0, .aload_n 0, 1), (1, .getfield 158, 3), (4, .iload_n 1, 1), (5, .isub, 1), (6, .bipush 8, 2), (8, .if_icmp .ne 7, 3), (11, .iconst 1, 1), (12, .goto 4, 3), (15, .iconst 0, 1), (16, .istore_n 2, 1), (17, .iload_n 2, 1), (18, .ifCond .eq 8, 3), (21, .aload_n 0, 1), (22, .iconst 1, 1), (23, .putfield 62, 3), (26, .aload_n 0, 1), (27, .invokevirtual 161, 3), (30, .ifCond .eq 5, 3), (33, .iconst 0, 1), (34, .ireturn, 1), (35, .iload_n 2, 1), (36, .ifCond .eq 8, 3), (39, .aload_n 0, 1), (40, .getfield 62, 3), (43, .ireturn, 1), (44, .aload_n 0, 1), (45, .aload_n 0, 1), (46, .getfield 158, 3), (49, .iload_n 1, 1), (50, .isub, 1), (51, .putfield 158, 3), (54, .aload_n 0, 1), (55, .bipush 10, 2), (57, .aload_n 0, 1), (58, .getfield 158, 3), (61, .invokevirtual 125, 3), (64, .aload_n 0, 1), (65, .dup, 1), (66, .getfield 158, 3), (69, .iconst 1, 1), (70, .iadd, 1), (71, .putfield 158, 3), (74, .aload_n 0, 1), (75, .getfield 62, 3), (78, .ireturn, 1)]
def m_Mo_change : ZM := (⟨"StackRealModel", "change", "(I)I"⟩, prog_9_method_38_code, 3, some .int, [], 7, 0, [], i_Mo_change)
def i_Mo_move : List (Nat × Instr × Nat) := [(0, .iload_n 1, 1), (1, .bipush 10, 2), (3, .if_icmp .ne 35, 3), (6, .aload_n 0, 1), (7, .aload_n 0, 1), (8, .getfield 158, 3), (11, .iconst 1, 1), (12, .isub, 1), (13, .iload_n 2, 1), (14, .isub, 1), (15, .aload_n 0, 1), (16, .getfield 158, 3), (19, .iconst 1, 1), (20, .isub, 1), (21, .invokevirtual 125, 3), (24, .aload_n 0, 1), (25, .bipush 8, 2), (27, .aload_n 0, 1), (28, .getfield 158, 3), (31, .iconst 1, 1), (32, .isub, 1), (33, .iload_n 2, 1), (34, .isub, 1), (35, .invokevirtual 125, 3), (38, .iload_n 1, 1), (39, .bipush 12, 2), (41, .if_icmp .ne 13, 3), (44, .aload_n 0, 1), (45, .dup, 1), (46, .getfield 158, 3), (49, .iconst 1, 1), (50, .isub, 1), (51, .putfield 158, 3), (54, .iload_n 1, 1), (55, .bipush 13, 2), (57, .if_icmp .ne 22, 3), (60, .aload_n 0, 1), (61, .invokevirtual 208, 3), (64, .istore_n 3, 1), (65, .aload_n 0, 1), (66, .invokevirtual 161, 3), (69, .ifCond .eq 5, 3), (72, .iconst 0, 1), (73, .ireturn, 1), (74, .aload_n 0, 1), (75, .iload_n 3, 1), (76, .putfield 211, 3), (79, .iload_n 1, 1), (80, .bipush 10, 2), (82, .if_icmp .eq 15, 3), (85, .iload_n 1, 1), (86, .bipush 12, 2), (88, .if_icmp .eq 9, 3), (91, .iload_n 1, 1), (92, .bipush 13, 2), (94, .if_icmp .ne 8, 3), (97, .aload_n 0, 1), (98, .getfield 62, 3), (101, .ireturn, 1), (102, .iload_n 1, 1), (103, .bipush 11, 2), (105, .if_icmp .ne 20, 3), (108, .aload_n 0, 1), (109, .aload_n 0, 1), (110, .getfield 158, 3), (113, .iconst 1, 1), (114, .isub, 1), (115, .iload_n 2, 1), (116, .isub, 1), (117, .bipush 10, 2), (119, .invokevirtual 125, 3), (122, .goto 24, 3), (125, .aload_n 0, 1), (126, .iconst 0, 1), (127, .iload_n 1, 1), (128, .bipush 14, 2), (130, .if_icmp .ne 7, 3), (133, .lconst 1, 1), (134, .goto 4, 3), (137, .lconst 0, 1), (138, .invokevirtual 80, 3), (141, .aload_n 0, 1), (142, .iconst 0, 1), (143, .invokevirtual 131, 3), (146, .aload_n 0, 1), (147, .iconst 0, 1), (148, .invokevirtual 178, 3), (151, .ireturn, 1)]
def m_Mo_move : ZM := (⟨"StackRealModel", "move", "(II)I"⟩, prog_9_method_45_code, 4, some .int, [], 7, 0, [], i_Mo_move)
def i_Mo_compared : List (Nat × Instr × Nat) := [(0, .aload_n 0, 1), (1, .iconst 3, 1), (2, .invokevirtual 101, 3), (5, .ifCond .eq 15, 3), (8, .aload_n 0, 1), (9, .aload_n 0, 1), (10, .getfield 62, 3), (13, .iconst 1, 1), (14, .ior, 1), (15, .putfield 62, 3), (18, .iconst 3, 1), (19, .ireturn, 1), (20, .aload_n 0, 1), (21, .bipush 8, 2), (23, .invokevirtual 135, 3), (26, .aload_n 0, 1), (27, .bipush 9, 2), (29, .invokevirtual 135, 3), (32, .if_icmp .eq 24, 3), (35, .aload_n 0, 1), (36, .bipush 8, 2), (38, .invokevirtual 135, 3), (41, .aload_n 0, 1), (42, .bipush 9, 2), (44, .invokevirtual 135, 3), (47, .if_icmp .le 7, 3), (50, .iconst 0, 1), (51, .goto 4, 3), (54, .iconst 1, 1), (55, .ireturn, 1), (56, .aload_n 0, 1), (57, .getfield 16, 3), (60, .bipush 8, 2), (62, .iaload, 1), (63, .iconst 1, 1), (64, .if_icmp .eq 5, 3), (67, .iconst 2, 1), (68, .ireturn, 1), (69, .aload_n 0, 1), (70, .iconst 0, 1), (71, .aload_n 0, 1), (72, .getfield 27, 3), (75, .bipush 8, 2), (77, .laload, 1), (78, .invokevirtual 80, 3), (81, .aload_n 0, 1), (82, .iconst 1, 1), (83, .aload_n 0, 1), (84, .getfield 27, 3), (87, .bipush 9, 2), (89, .laload, 1), (90, .invokevirtual 80, 3), (93, .aload_n 0, 1), (94, .getfield 24, 3), (97, .bipush 8, 2), (99, .iaload, 1), (100, .aload_n 0, 1), (101, .getfield 24, 3), (104, .bipush 9, 2), (106, .iaload, 1), (107, .if_icmp .eq 21, 3), (110, .aload_n 0, 1), (111, .getfield 24, 3), (114, .bipush 8, 2), (116, .iaload, 1), (117, .aload_n 0, 1), (118, .getfield 24, 3), (121, .bipush 9, 2), (123, .iaload, 1), (124, .isub, 1), (125, .goto 9, 3), (128, .aload_n 0, 1), (129, .iconst 0, 1), (130, .iconst 1, 1), (131, .invokevirtual 115, 3), (134, .istore_n 1, 1), (135, .iload_n 1, 1), (136, .ifCond .ne 5, 3), (139, .iconst 2, 1), (140, .ireturn, 1), (141, .iload_n 1, 1), (142, .ifCond .le 7, 3), (145, .iconst 1, 1), (146, .goto 4, 3), (149, .iconst 0, 1), (150, .aload_n 0, 1), (151, .getfield 20, 3), (154, .bipush 8, 2), (156, .baload, 1), (157, .if_icmp .eq 7, 3), (160, .iconst 0, 1), (161, .goto 4, 3), (164, .iconst 1, 1), (165, .ireturn, 1)]
def m_Mo_compared : ZM := (⟨"StackRealModel", "compared", "()I"⟩, prog_9_method_33_code, 2, some .int, [], 7, 0, [], i_Mo_compared)
def i_Mo_rank : List (Nat × Instr × Nat) := [(0, .aload_n 0, 1), (1, .getfield 16, 3), (4, .iload_n 1, 1), (5, .iaload, 1), (6, .ifCond .ne 7, 3), (9, .iconst 0, 1), (10, .goto 18, 3), (13, .aload_n 0, 1), (14, .getfield 16, 3), (17, .iload_n 1, 1), (18, .iaload, 1), (19, .iconst 1, 1), (20, .if_icmp .ne 7, 3), (23, .iconst 1, 1), (24, .goto 4, 3), (27, .iconst 2, 1), (28, .istore_n 2, 1), (29, .aload_n 0, 1), (30, .getfield 20, 3), (33, .iload_n 1, 1), (34, .baload, 1), (35, .ifCond .eq 8, 3), (38, .iload_n 2, 1), (39, .ineg, 1), (40, .goto 4, 3), (43, .iload_n 2, 1), (44, .ireturn, 1)]
def m_Mo_rank : ZM := (⟨"StackRealModel", "rank", "(I)I"⟩, prog_9_method_32_code, 3, some .int, [], 7, 0, [], i_Mo_rank)
def i_Mo_exactly : List (Nat × Instr × Nat) := [(0, .aload_n 0, 1), (1, .iconst 0, 1), (2, .invokevirtual 53, 3), (5, .istore_n 2, 1), (6, .iload_n 2, 1), (7, .ifCond .ge 10, 3), (10, .aload_n 0, 1), (11, .iconst 0, 1), (12, .iload_n 1, 1), (13, .invokevirtual 65, 3), (16, .return_, 1), (17, .aload_n 0, 1), (18, .iconst 0, 1), (19, .iconst 1, 1), (20, .bipush 63, 2), (22, .iload_n 2, 1), (23, .isub, 1), (24, .invokevirtual 76, 3), (27, .aload_n 0, 1), (28, .getfield 16, 3), (31, .bipush 10, 2), (33, .iconst 1, 1), (34, .iastore, 1), (35, .aload_n 0, 1), (36, .getfield 20, 3), (39, .bipush 10, 2), (41, .iload_n 1, 1), (42, .bastore, 1), (43, .aload_n 0, 1), (44, .getfield 24, 3), (47, .bipush 10, 2), (49, .iload_n 2, 1), (50, .iastore, 1), (51, .aload_n 0, 1), (52, .getfield 27, 3), (55, .bipush 10, 2), (57, .aload_n 0, 1), (58, .iconst 1, 1), (59, .invokevirtual 87, 3), (62, .lastore, 1), (63, .return_, 1)]
def m_Mo_exactly : ZM := (⟨"StackRealModel", "exactly", "(Z)V"⟩, prog_9_method_29_code, 3, none, [], 7, 0, [], i_Mo_exactly)
def i_Mo_extract : List (Nat × Instr × Nat) := [(0, .aload_n 0, 1), (1, .getfield 16, 3), (4, .bipush 8, 2), (6, .iaload, 1), (7, .iconst 1, 1), (8, .if_icmp .ne 12, 3), (11, .aload_n 0, 1), (12, .getfield 158, 3), (15, .bipush 8, 2), (17, .if_icmp .ne 8, 3), (20, .aload_n 0, 1), (21, .invokevirtual 171, 3), (24, .ireturn, 1), (25, .aload_n 0, 1), (26, .getfield 24, 3), (29, .bipush 8, 2), (31, .iaload, 1), (32, .istore_n 1, 1), (33, .aload_n 0, 1), (34, .iconst 0, 1), (35, .iload_n 1, 1), (36, .ifCond .ge 9, 3), (39, .iload_n 1, 1), (40, .ineg, 1), (41, .i2l, 1), (42, .goto 5, 3), (45, .iload_n 1, 1), (46, .i2l, 1), (47, .invokevirtual 80, 3), (50, .aload_n 0, 1), (51, .iload_n 1, 1), (52, .ifCond .ge 7, 3), (55, .iconst 1, 1), (56, .goto 4, 3), (59, .iconst 0, 1), (60, .invokevirtual 131, 3), (63, .aload_n 0, 1), (64, .bipush 10, 2), (66, .aload_n 0, 1), (67, .getfield 158, 3), (70, .iconst 1, 1), (71, .isub, 1), (72, .invokevirtual 125, 3), (75, .aload_n 0, 1), (76, .bipush 8, 2), (78, .aload_n 0, 1), (79, .getfield 158, 3), (82, .invokevirtual 125, 3), (85, .aload_n 0, 1), (86, .getfield 24, 3), (89, .aload_n 0, 1), (90, .getfield 158, 3), (93, .iconst 0, 1), (94, .iastore, 1), (95, .aload_n 0, 1), (96, .dup, 1), (97, .getfield 158, 3), (100, .iconst 1, 1), (101, .iadd, 1), (102, .putfield 158, 3), (105, .iconst 0, 1), (106, .ireturn, 1)]
def m_Mo_extract : ZM := (⟨"StackRealModel", "extract", "()I"⟩, prog_9_method_44_code, 2, some .int, [], 7, 0, [], i_Mo_extract)
def i_Mo_alter : List (Nat × Instr × Nat) := [(0, .aload_n 0, 1), (1, .bipush 8, 2), (3, .bipush 10, 2), (5, .invokevirtual 125, 3), (8, .iload_n 1, 1), (9, .iconst 4, 1), (10, .if_icmp .ne 7, 3), (13, .aload_n 0, 1), (14, .invokevirtual 199, 3), (17, .iload_n 1, 1), (18, .iconst 5, 1), (19, .if_icmp .ne 7, 3), (22, .aload_n 0, 1), (23, .invokevirtual 202, 3), (26, .iload_n 1, 1), (27, .bipush 6, 2), (29, .if_icmp .ne 7, 3), (32, .aload_n 0, 1), (33, .invokevirtual 205, 3), (36, .iload_n 1, 1), (37, .bipush 8, 2), (39, .if_icmp .ne 11, 3), (42, .aload_n 0, 1), (43, .getfield 20, 3), (46, .bipush 10, 2), (48, .iconst 0, 1), (49, .bastore, 1), (50, .iload_n 1, 1), (51, .bipush 9, 2), (53, .if_icmp .ne 36, 3), (56, .aload_n 0, 1), (57, .getfield 20, 3), (60, .bipush 10, 2), (62, .aload_n 0, 1), (63, .getfield 16, 3), (66, .bipush 8, 2), (68, .iaload, 1), (69, .iconst 3, 1), (70, .if_icmp .eq 17, 3), (73, .aload_n 0, 1), (74, .getfield 20, 3), (77, .bipush 8, 2), (79, .baload, 1), (80, .ifCond .ne 7, 3), (83, .iconst 1, 1), (84, .goto 4, 3), (87, .iconst 0, 1), (88, .bastore, 1), (89, .return_, 1)]
def m_Mo_alter : ZM := (⟨"StackRealModel", "alter", "(I)V"⟩, prog_9_method_43_code, 2, none, [], 7, 0, [], i_Mo_alter)
def i_Mo_root : List (Nat × Instr × Nat) := [(0, .aload_n 0, 1), (1, .getfield 16, 3), (4, .bipush 8, 2), (6, .iaload, 1), (7, .iconst 3, 1), (8, .if_icmp .eq 34, 3), (11, .aload_n 0, 1), (12, .getfield 16, 3), (15, .bipush 8, 2), (17, .iaload, 1), (18, .ifCond .eq 24, 3), (21, .aload_n 0, 1), (22, .getfield 16, 3), (25, .bipush 8, 2), (27, .iaload, 1), (28, .iconst 2, 1), (29, .if_icmp .ne 22, 3), (32, .aload_n 0, 1), (33, .getfield 20, 3), (36, .bipush 8, 2), (38, .baload, 1), (39, .ifCond .ne 12, 3), (42, .aload_n 0, 1), (43, .bipush 8, 2), (45, .bipush 10, 2), (47, .invokevirtual 125, 3), (50, .return_, 1), (51, .aload_n 0, 1), (52, .getfield 20, 3), (55, .bipush 8, 2), (57, .baload, 1), (58, .ifCond .eq 8, 3), (61, .aload_n 0, 1), (62, .invokevirtual 105, 3), (65, .return_, 1), (66, .aload_n 0, 1), (67, .getfield 24, 3), (70, .bipush 8, 2), (72, .iaload, 1), (73, .iconst 1, 1), (74, .iand, 1), (75, .iconst 1, 1), (76, .if_icmp .ne 8, 3), (79, .bipush 100, 2), (81, .goto 5, 3), (84, .bipush 101, 2), (86, .istore_n 1, 1), (87, .aload_n 0, 1), (88, .iconst 1, 1), (89, .aload_n 0, 1), (90, .getfield 27, 3), (93, .bipush 8, 2), (95, .laload, 1), (96, .invokevirtual 80, 3), (99, .aload_n 0, 1), (100, .iconst 1, 1), (101, .iconst 4, 1), (102, .iload_n 1, 1), (103, .invokevirtual 76, 3), (106, .aload_n 0, 1), (107, .iconst 0, 1), (108, .invokevirtual 43, 3), (111, .bipush 84, 2), (113, .istore_n 2, 1), (114, .iload_n 2, 1), (115, .ifCond .lt 44, 3), (118, .aload_n 0, 1), (119, .iconst 0, 1), (120, .iconst 1, 1), (121, .iconst 0, 1), (122, .invokevirtual 76, 3), (125, .aload_n 0, 1), (126, .iconst 1, 1), (127, .iload_n 2, 1), (128, .invokevirtual 57, 3), (131, .aload_n 0, 1), (132, .iconst 1, 1), (133, .iconst 1, 1), (134, .iconst 2, 1), (135, .invokevirtual 118, 3), (138, .aload_n 0, 1), (139, .iconst 2, 1), (140, .iconst 4, 1), (141, .invokevirtual 115, 3), (144, .ifCond .gt 9, 3), (147, .aload_n 0, 1), (148, .iconst 0, 1), (149, .iload_n 2, 1), (150, .invokevirtual 57, 3), (153, .iinc 2 (-1), 3), (156, .goto (-42), 3), (159, .aload_n 0, 1), (160, .iconst 0, 1), (161, .iconst 0, 1), (162, .iconst 2, 1), (163, .invokevirtual 118, 3), (166, .aload_n 0, 1), (167, .iconst 2, 1), (168, .iconst 4, 1), (169, .invokevirtual 115, 3), (172, .ifCond .ne 7, 3), (175, .iconst 1, 1), (176, .goto 4, 3), (179, .iconst 0, 1), (180, .istore_n 2, 1), (181, .aload_n 0, 1), (182, .iconst 0, 1), (183, .iconst 1, 1), (184, .iconst 1, 1), (185, .invokevirtual 76, 3), (188, .aload_n 0, 1), (189, .iconst 1, 1), (190, .iconst 0, 1), (191, .iconst 0, 1), (192, .invokevirtual 76, 3), (195, .iload_n 2, 1), (196, .ifCond .ne 9, 3), (199, .aload_n 0, 1), (200, .iconst 0, 1), (201, .iconst 0, 1), (202, .invokevirtual 57, 3), (205, .aload_n 0, 1), (206, .iconst 0, 1), (207, .aload_n 0, 1), (208, .getfield 24, 3), (211, .bipush 8, 2), (213, .iaload, 1), (214, .bipush 63, 2), (216, .isub, 1), (217, .iload_n 1, 1), (218, .isub, 1), (219, .iconst 2, 1), (220, .idiv, 1), (221, .iconst 1, 1), (222, .isub, 1), (223, .invokevirtual 108, 3), (226, .return_, 1)]
def m_Mo_root : ZM := (⟨"StackRealModel", "root", "()V"⟩, prog_9_method_27_code, 3, none, [], 7, 0, [], i_Mo_root)
def i_Mo_integer : List (Nat × Instr × Nat) := [(0, .aload_n 0, 1), (1, .bipush 8, 2), (3, .bipush 10, 2), (5, .invokevirtual 125, 3), (8, .aload_n 0, 1), (9, .getfield 16, 3), (12, .bipush 8, 2), (14, .iaload, 1), (15, .iconst 1, 1), (16, .if_icmp .ne 15, 3), (19, .aload_n 0, 1), (20, .getfield 24, 3), (23, .bipush 8, 2), (25, .iaload, 1), (26, .bipush 63, 2), (28, .if_icmp .lt 4, 3), (31, .return_, 1), (32, .aload_n 0, 1), (33, .invokevirtual 128, 3), (36, .aload_n 0, 1), (37, .aload_n 0, 1), (38, .getfield 20, 3), (41, .bipush 8, 2), (43, .baload, 1), (44, .invokevirtual 131, 3), (47, .return_, 1)]
def m_Mo_integer : ZM := (⟨"StackRealModel", "integer", "()V"⟩, prog_9_method_30_code, 1, none, [], 7, 0, [], i_Mo_integer)
def i_Mo_whole : List (Nat × Instr × Nat) := [(0, .aload_n 0, 1), (1, .iconst 0, 1), (2, .aload_n 0, 1), (3, .getfield 27, 3), (6, .bipush 8, 2), (8, .laload, 1), (9, .invokevirtual 80, 3), (12, .bipush 63, 2), (14, .aload_n 0, 1), (15, .getfield 24, 3), (18, .bipush 8, 2), (20, .iaload, 1), (21, .isub, 1), (22, .istore_n 1, 1), (23, .iload_n 1, 1), (24, .ifCond .gt 19, 3), (27, .aload_n 0, 1), (28, .iconst 0, 1), (29, .iconst 1, 1), (30, .iload_n 1, 1), (31, .ineg, 1), (32, .invokevirtual 76, 3), (35, .aload_n 0, 1), (36, .iconst 1, 1), (37, .iconst 0, 1), (38, .iconst 0, 1), (39, .invokevirtual 76, 3), (42, .return_, 1), (43, .iload_n 1, 1), (44, .bipush 90, 2), (46, .if_icmp .le 8, 3), (49, .bipush 90, 2), (51, .goto 4, 3), (54, .iload_n 1, 1), (55, .istore_n 2, 1), (56, .aload_n 0, 1), (57, .iload_n 2, 1), (58, .aload_n 0, 1), (59, .getfield 20, 3), (62, .bipush 8, 2), (64, .baload, 1), (65, .invokevirtual 72, 3), (68, .istore_n 3, 1), (69, .aload_n 0, 1), (70, .iconst 0, 1), (71, .iconst 1, 1), (72, .iload_n 2, 1), (73, .ineg, 1), (74, .invokevirtual 76, 3), (77, .aload_n 0, 1), (78, .iconst 2, 1), (79, .iload_n 3, 1), (80, .ifCond .eq 7, 3), (83, .lconst 1, 1), (84, .goto 4, 3), (87, .lconst 0, 1), (88, .invokevirtual 80, 3), (91, .aload_n 0, 1), (92, .iconst 1, 1), (93, .iconst 2, 1), (94, .iconst 1, 1), (95, .invokevirtual 84, 3), (98, .aload_n 0, 1), (99, .iconst 1, 1), (100, .iconst 0, 1), (101, .iconst 0, 1), (102, .invokevirtual 76, 3), (105, .return_, 1)]
def m_Mo_whole : ZM := (⟨"StackRealModel", "whole", "()V"⟩, prog_9_method_28_code, 4, none, [], 7, 0, [], i_Mo_whole)
def i_Mo_scaled : List (Nat × Instr × Nat) := [(0, .aload_n 0, 1), (1, .iconst 3, 1), (2, .invokevirtual 101, 3), (5, .ifCond .eq 10, 3), (8, .aload_n 0, 1), (9, .iconst 3, 1), (10, .iconst 0, 1), (11, .invokevirtual 65, 3), (14, .return_, 1), (15, .aload_n 0, 1), (16, .getfield 16, 3), (19, .bipush 9, 2), (21, .iaload, 1), (22, .ifCond .eq 36, 3), (25, .aload_n 0, 1), (26, .getfield 16, 3), (29, .bipush 9, 2), (31, .iaload, 1), (32, .iconst 1, 1), (33, .if_icmp .ne 29, 3), (36, .aload_n 0, 1), (37, .getfield 24, 3), (40, .bipush 9, 2), (42, .iaload, 1), (43, .ifCond .lt 19, 3), (46, .aload_n 0, 1), (47, .getfield 24, 3), (50, .bipush 9, 2), (52, .iaload, 1), (53, .bipush 16, 2), (55, .if_icmp .ge 7, 3), (58, .iconst 1, 1), (59, .goto 4, 3), (62, .iconst 0, 1), (63, .istore_n 1, 1), (64, .iconst 0, 1), (65, .istore_n 2, 1), (66, .iload_n 1, 1), (67, .ifCond .eq 70, 3), (70, .aload_n 0, 1), (71, .getfield 16, 3), (74, .bipush 9, 2), (76, .iaload, 1), (77, .iconst 1, 1), (78, .if_icmp .ne 59, 3), (81, .aload_n 0, 1), (82, .getfield 27, 3), (85, .bipush 9, 2), (87, .laload, 1), (88, .bipush 63, 2), (90, .aload_n 0, 1), (91, .getfield 24, 3), (94, .bipush 9, 2), (96, .iaload, 1), (97, .isub, 1), (98, .lushr, 1), (99, .l2i, 1), (100, .istore_n 2, 1), (101, .iload_n 2, 1), (102, .ldc 134, 2), (104, .if_icmp .gt 31, 3), (107, .iload_n 2, 1), (108, .i2l, 1), (109, .bipush 63, 2), (111, .aload_n 0, 1), (112, .getfield 24, 3), (115, .bipush 9, 2), (117, .iaload, 1), (118, .isub, 1), (119, .lshl, 1), (120, .aload_n 0, 1), (121, .getfield 27, 3), (124, .bipush 9, 2), (126, .laload, 1), (127, .lcmp, 1), (128, .ifCond .ne 7, 3), (131, .iconst 1, 1), (132, .goto 4, 3), (135, .iconst 0, 1), (136, .istore_n 1, 1), (137, .iload_n 1, 1), (138, .ifCond .ne 10, 3), (141, .aload_n 0, 1), (142, .invokevirtual 105, 3), (145, .goto 75, 3), (148, .aload_n 0, 1), (149, .getfield 16, 3), (152, .bipush 8, 2), (154, .iaload, 1), (155, .iconst 1, 1), (156, .if_icmp .eq 14, 3), (159, .aload_n 0, 1), (160, .bipush 8, 2), (162, .bipush 10, 2), (164, .invokevirtual 125, 3), (167, .goto 53, 3), (170, .aload_n 0, 1), (171, .iconst 0, 1), (172, .aload_n 0, 1), (173, .getfield 27, 3), (176, .bipush 8, 2), (178, .laload, 1), (179, .invokevirtual 80, 3), (182, .aload_n 0, 1), (183, .aload_n 0, 1), (184, .getfield 20, 3), (187, .bipush 8, 2), (189, .baload, 1), (190, .aload_n 0, 1), (191, .getfield 24, 3), (194, .bipush 8, 2), (196, .iaload, 1), (197, .bipush 63, 2), (199, .isub, 1), (200, .aload_n 0, 1), (201, .getfield 20, 3), (204, .bipush 9, 2), (206, .baload, 1), (207, .ifCond .eq 8, 3), (210, .iload_n 2, 1), (211, .ineg, 1), (212, .goto 4, 3), (215, .iload_n 2, 1), (216, .iadd, 1), (217, .invokevirtual 108, 3), (220, .return_, 1)]
def m_Mo_scaled : ZM := (⟨"StackRealModel", "scaled", "()V"⟩, prog_9_method_31_code, 3, none, [], 7, 0, [], i_Mo_scaled)
def i_Mo_load : List (Nat × Instr × Nat) := [(0, .aload_n 0, 1), (1, .iload_n 1, 1), (2, .bipush 8, 2), (4, .invokestatic 138, 3), (7, .ifCond .ne 11, 3), (10, .iload_n 2, 1), (11, .iconst 4, 1), (12, .invokestatic 138, 3), (15, .ifCond .eq 7, 3), (18, .iconst 1, 1), (19, .goto 4, 3), (22, .iconst 0, 1), (23, .putfield 40, 3), (26, .aload_n 0, 1), (27, .getfield 40, 3), (30, .ifCond .le 5, 3), (33, .iconst 0, 1), (34, .ireturn, 1), (35, .aload_n 0, 1), (36, .iconst 4, 1), (37, .invokevirtual 168, 3), (40, .aload_n 0, 1), (41, .getfield 158, 3), (44, .bipush 8, 2), (46, .if_icmp .ne 8, 3), (49, .aload_n 0, 1), (50, .invokevirtual 171, 3), (53, .ireturn, 1), (54, .iload_n 2, 1), (55, .ifCond .ne 13, 3), (58, .aload_n 0, 1), (59, .aload_n 0, 1), (60, .getfield 31, 3), (63, .iload_n 1, 1), (64, .laload, 1), (65, .invokevirtual 220, 3), (68, .iload_n 2, 1), (69, .iconst 1, 1), (70, .if_icmp .ne 17, 3), (73, .aload_n 0, 1), (74, .aload_n 0, 1), (75, .getfield 31, 3), (78, .iload_n 1, 1), (79, .laload, 1), (80, .bipush 11, 2), (82, .bipush 52, 2), (84, .invokevirtual 224, 3), (87, .iload_n 2, 1), (88, .iconst 2, 1), (89, .if_icmp .ne 17, 3), (92, .aload_n 0, 1), (93, .aload_n 0, 1), (94, .getfield 31, 3), (97, .iload_n 1, 1), (98, .laload, 1), (99, .bipush 8, 2), (101, .bipush 23, 2), (103, .invokevirtual 224, 3), (106, .iload_n 2, 1), (107, .iconst 3, 1), (108, .if_icmp .ne 13, 3), (111, .aload_n 0, 1), (112, .aload_n 0, 1), (113, .getfield 31, 3), (116, .iload_n 1, 1), (117, .laload, 1), (118, .invokevirtual 228, 3), (121, .aload_n 0, 1), (122, .iconst 0, 1), (123, .invokevirtual 178, 3), (126, .ireturn, 1)]
def m_Mo_load : ZM := (⟨"StackRealModel", "load", "(II)I"⟩, prog_9_method_49_code, 3, some .int, [], 7, 0, [], i_Mo_load)
def i_Mo_readWhole : List (Nat × Instr × Nat) := [(0, .aload_n 0, 1), (1, .iconst 0, 1), (2, .lload_n 1, 1), (3, .lconst 0, 1), (4, .lcmp, 1), (5, .ifCond .ge 8, 3), (8, .lload_n 1, 1), (9, .lneg, 1), (10, .goto 4, 3), (13, .lload_n 1, 1), (14, .invokevirtual 80, 3), (17, .aload_n 0, 1), (18, .lload_n 1, 1), (19, .lconst 0, 1), (20, .lcmp, 1), (21, .ifCond .ge 7, 3), (24, .iconst 1, 1), (25, .goto 4, 3), (28, .iconst 0, 1), (29, .invokevirtual 131, 3), (32, .return_, 1)]
def m_Mo_readWhole : ZM := (⟨"StackRealModel", "readWhole", "(J)V"⟩, prog_9_method_46_code, 3, none, [], 7, 0, [], i_Mo_readWhole)
def i_Mo_readReal : List (Nat × Instr × Nat) := [(0, .lload_n 1, 1), (1, .iload_n 3, 1), (2, .iload 4, 2), (4, .iadd, 1), (5, .lushr, 1), (6, .lconst 1, 1), (7, .land, 1), (8, .lconst 1, 1), (9, .lcmp, 1), (10, .ifCond .ne 7, 3), (13, .iconst 1, 1), (14, .goto 4, 3), (17, .iconst 0, 1), (18, .istore 5, 2), (20, .iconst 1, 1), (21, .iload_n 3, 1), (22, .ishl, 1), (23, .iconst 1, 1), (24, .isub, 1), (25, .istore 6, 2), (27, .lload_n 1, 1), (28, .iload 4, 2), (30, .lushr, 1), (31, .iload 6, 2), (33, .i2l, 1), (34, .land, 1), (35, .l2i, 1), (36, .istore 7, 2), (38, .lload_n 1, 1), (39, .lconst 1, 1), (40, .iload 4, 2), (42, .lshl, 1), (43, .lconst 1, 1), (44, .lsub, 1), (45, .land, 1), (46, .lstore 8, 2), (48, .aload_n 0, 1), (49, .iload 7, 2), (51, .ifCond .ne 7, 3), (54, .iconst 0, 1), (55, .goto 26, 3), (58, .iload 7, 2), (60, .iload 6, 2), (62, .if_icmp .ge 7, 3), (65, .iconst 1, 1), (66, .goto 15, 3), (69, .lload 8, 2), (71, .lconst 0, 1), (72, .lcmp, 1), (73, .ifCond .ne 7, 3), (76, .iconst 2, 1), (77, .goto 4, 3), (80, .iconst 3, 1), (81, .iload 5, 2), (83, .invokevirtual 65, 3), (86, .aload_n 0, 1), (87, .getfield 16, 3), (90, .bipush 10, 2), (92, .iaload, 1), (93, .iconst 1, 1), (94, .if_icmp .eq 4, 3), (97, .return_, 1), (98, .aload_n 0, 1), (99, .getfield 24, 3), (102, .bipush 10, 2), (104, .iload 7, 2), (106, .iload 6, 2), (108, .iconst 1, 1), (109, .isub, 1), (110, .iconst 2, 1), (111, .idiv, 1), (112, .isub, 1), (113, .iastore, 1), (114, .aload_n 0, 1), (115, .getfield 27, 3), (118, .bipush 10, 2), (120, .lconst 1, 1), (121, .iload 4, 2), (123, .lshl, 1), (124, .lload 8, 2), (126, .lor, 1), (127, .bipush 63, 2), (129, .iload 4, 2), (131, .isub, 1), (132, .lshl, 1), (133, .lastore, 1), (134, .return_, 1)]
def m_Mo_readReal : ZM := (⟨"StackRealModel", "readReal", "(JII)V"⟩, prog_9_method_47_code, 10, none, [], 7, 0, [], i_Mo_readReal)
def i_Mo_readDecimal : List (Nat × Instr × Nat) := [(0, .lload_n 1, 1), (1, .bipush 60, 2), (3, .lushr, 1), (4, .lstore_n 3, 1), (5, .lload_n 3, 1), (6, .ldc2_w 214, 3), (9, .lcmp, 1), (10, .ifCond .ge 7, 3), (13, .iconst 1, 1), (14, .goto 4, 3), (17, .iconst 0, 1), (18, .istore 5, 2), (20, .lconst 0, 1), (21, .lstore 6, 2), (23, .bipush 56, 2), (25, .istore 8, 2), (27, .iload 8, 2), (29, .ifCond .lt 51, 3), (32, .lload_n 1, 1), (33, .iload 8, 2), (35, .lushr, 1), (36, .ldc2_w 216, 3), (39, .land, 1), (40, .lstore 9, 2), (42, .iload 5, 2), (44, .ifCond .eq 16, 3), (47, .lload 9, 2), (49, .ldc2_w 218, 3), (52, .lcmp, 1), (53, .ifCond .ge 7, 3), (56, .iconst 1, 1), (57, .goto 4, 3), (60, .iconst 0, 1), (61, .istore 5, 2), (63, .lload 6, 2), (65, .ldc2_w 218, 3), (68, .lmul, 1), (69, .lload 9, 2), (71, .ladd, 1), (72, .lstore 6, 2), (74, .iinc 8 (-4), 3), (77, .goto (-50), 3), (80, .aload_n 0, 1), (81, .iconst 0, 1), (82, .lload 6, 2), (84, .invokevirtual 80, 3), (87, .iload 5, 2), (89, .ifCond .eq 21, 3), (92, .aload_n 0, 1), (93, .lload_n 3, 1), (94, .lconst 1, 1), (95, .lcmp, 1), (96, .ifCond .ne 7, 3), (99, .iconst 1, 1), (100, .goto 4, 3), (103, .iconst 0, 1), (104, .invokevirtual 131, 3), (107, .goto 7, 3), (110, .aload_n 0, 1), (111, .invokevirtual 105, 3), (114, .return_, 1)]
def m_Mo_readDecimal : ZM := (⟨"StackRealModel", "readDecimal", "(J)V"⟩, prog_9_method_48_code, 11, none, [], 7, 0, [], i_Mo_readDecimal)
def i_Mo_store : List (Nat × Instr × Nat) := [(0, .aload_n 0, 1), (1, .iload_n 1, 1), (2, .bipush 8, 2), (4, .invokestatic 138, 3), (7, .ifCond .ne 11, 3), (10, .iload_n 2, 1), (11, .iconst 4, 1), (12, .invokestatic 138, 3), (15, .ifCond .eq 7, 3), (18, .iconst 1, 1), (19, .goto 4, 3), (22, .iconst 0, 1), (23, .putfield 40, 3), (26, .aload_n 0, 1), (27, .getfield 40, 3), (30, .ifCond .le 5, 3), (33, .iconst 0, 1), (34, .ireturn, 1), (35, .aload_n 0, 1), (36, .bipush 10, 2), (38, .invokevirtual 168, 3), (41, .aload_n 0, 1), (42, .getfield 158, 3), (45, .ifCond .ne 8, 3), (48, .aload_n 0, 1), (49, .invokevirtual 171, 3), (52, .ireturn, 1), (53, .aload_n 0, 1), (54, .aload_n 0, 1), (55, .getfield 158, 3), (58, .iconst 1, 1), (59, .isub, 1), (60, .bipush 8, 2), (62, .invokevirtual 125, 3), (65, .iload_n 2, 1), (66, .iconst 1, 1), (67, .if_icmp .ne 14, 3), (70, .aload_n 0, 1), (71, .bipush 11, 2), (73, .bipush 52, 2), (75, .invokevirtual 239, 3), (78, .goto 33, 3), (81, .iload_n 2, 1), (82, .iconst 2, 1), (83, .if_icmp .ne 14, 3), (86, .aload_n 0, 1), (87, .bipush 8, 2), (89, .bipush 23, 2), (91, .invokevirtual 239, 3), (94, .goto 17, 3), (97, .aload_n 0, 1), (98, .iload_n 2, 1), (99, .iconst 3, 1), (100, .if_icmp .ne 7, 3), (103, .iconst 1, 1), (104, .goto 4, 3), (107, .iconst 0, 1), (108, .invokevirtual 243, 3), (111, .lstore_n 3, 1), (112, .aload_n 0, 1), (113, .invokevirtual 161, 3), (116, .ifCond .eq 5, 3), (119, .iconst 0, 1), (120, .ireturn, 1), (121, .aload_n 0, 1), (122, .dup, 1), (123, .getfield 158, 3), (126, .iconst 1, 1), (127, .isub, 1), (128, .putfield 158, 3), (131, .aload_n 0, 1), (132, .iload_n 1, 1), (133, .putfield 34, 3), (136, .aload_n 0, 1), (137, .lload_n 3, 1), (138, .putfield 149, 3), (141, .aload_n 0, 1), (142, .getfield 62, 3), (145, .ireturn, 1)]
def m_Mo_store : ZM := (⟨"StackRealModel", "store", "(II)I"⟩, prog_9_method_52_code, 5, some .int, [], 7, 0, [], i_Mo_store)
def i_Mo_writeReal : List (Nat × Instr × Nat) := [(0, .lconst 1, 1), (1, .iload_n 1, 1), (2, .lshl, 1), (3, .lconst 1, 1), (4, .lsub, 1), (5, .lstore_n 3, 1), (6, .aload_n 0, 1), (7, .bipush 8, 2), (9, .bipush 10, 2), (11, .invokevirtual 125, 3), (14, .aload_n 0, 1), (15, .getfield 16, 3), (18, .bipush 8, 2), (20, .iaload, 1), (21, .iconst 3, 1), (22, .if_icmp .ne 11, 3), (25, .lconst 1, 1), (26, .iload_n 1, 1), (27, .iload_n 2, 1), (28, .iadd, 1), (29, .lshl, 1), (30, .lconst 1, 1), (31, .lsub, 1), (32, .lreturn, 1), (33, .aload_n 0, 1), (34, .getfield 16, 3), (37, .bipush 8, 2), (39, .iaload, 1), (40, .iconst 1, 1), (41, .if_icmp .ne 45, 3), (44, .aload_n 0, 1), (45, .iconst 0, 1), (46, .aload_n 0, 1), (47, .getfield 27, 3), (50, .bipush 8, 2), (52, .laload, 1), (53, .invokevirtual 80, 3), (56, .aload_n 0, 1), (57, .aload_n 0, 1), (58, .getfield 20, 3), (61, .bipush 8, 2), (63, .baload, 1), (64, .aload_n 0, 1), (65, .getfield 24, 3), (68, .bipush 8, 2), (70, .iaload, 1), (71, .bipush 63, 2), (73, .isub, 1), (74, .iload_n 2, 1), (75, .iconst 1, 1), (76, .iadd, 1), (77, .lload_n 3, 1), (78, .ldc2_w 214, 3), (81, .ldiv, 1), (82, .l2i, 1), (83, .invokevirtual 97, 3), (86, .aload_n 0, 1), (87, .getfield 16, 3), (90, .bipush 10, 2), (92, .iaload, 1), (93, .ifCond .ne 7, 3), (96, .lconst 0, 1), (97, .goto 32, 3), (100, .aload_n 0, 1), (101, .getfield 16, 3), (104, .bipush 10, 2), (106, .iaload, 1), (107, .iconst 2, 1), (108, .if_icmp .ne 7, 3), (111, .lload_n 3, 1), (112, .goto 17, 3), (115, .aload_n 0, 1), (116, .getfield 24, 3), (119, .bipush 10, 2), (121, .iaload, 1), (122, .i2l, 1), (123, .lload_n 3, 1), (124, .ldc2_w 214, 3), (127, .ldiv, 1), (128, .ladd, 1), (129, .lstore 5, 2), (131, .aload_n 0, 1), (132, .getfield 16, 3), (135, .bipush 10, 2), (137, .iaload, 1), (138, .iconst 1, 1), (139, .if_icmp .ne 24, 3), (142, .aload_n 0, 1), (143, .getfield 27, 3), (146, .bipush 10, 2), (148, .laload, 1), (149, .bipush 63, 2), (151, .iload_n 2, 1), (152, .isub, 1), (153, .lushr, 1), (154, .lconst 1, 1), (155, .iload_n 2, 1), (156, .lshl, 1), (157, .lconst 1, 1), (158, .lsub, 1), (159, .land, 1), (160, .goto 4, 3), (163, .lconst 0, 1), (164, .lstore 7, 2), (166, .aload_n 0, 1), (167, .getfield 20, 3), (170, .bipush 10, 2), (172, .baload, 1), (173, .ifCond .eq 11, 3), (176, .lconst 1, 1), (177, .iload_n 1, 1), (178, .iload_n 2, 1), (179, .iadd, 1), (180, .lshl, 1), (181, .goto 4, 3), (184, .lconst 0, 1), (185, .lstore 9, 2), (187, .lload 9, 2), (189, .lload 5, 2), (191, .iload_n 2, 1), (192, .lshl, 1), (193, .lor, 1), (194, .lload 7, 2), (196, .lor, 1), (197, .lreturn, 1)]
def m_Mo_writeReal : ZM := (⟨"StackRealModel", "writeReal", "(II)J"⟩, prog_9_method_50_code, 11, some .long, [], 7, 0, [], i_Mo_writeReal)
def i_Mo_writeWhole : List (Nat × Instr × Nat) := [(0, .aload_n 0, 1), (1, .iconst 0, 1), (2, .invokevirtual 43, 3), (5, .aload_n 0, 1), (6, .getfield 16, 3), (9, .bipush 8, 2), (11, .iaload, 1), (12, .iconst 2, 1), (13, .if_icmp .eq 37, 3), (16, .aload_n 0, 1), (17, .getfield 16, 3), (20, .bipush 8, 2), (22, .iaload, 1), (23, .iconst 3, 1), (24, .if_icmp .eq 26, 3), (27, .aload_n 0, 1), (28, .getfield 16, 3), (31, .bipush 8, 2), (33, .iaload, 1), (34, .iconst 1, 1), (35, .if_icmp .ne 19, 3), (38, .aload_n 0, 1), (39, .getfield 24, 3), (42, .bipush 8, 2), (44, .iaload, 1), (45, .bipush 70, 2), (47, .if_icmp .le 7, 3), (50, .iconst 1, 1), (51, .goto 4, 3), (54, .iconst 0, 1), (55, .istore_n 2, 1), (56, .iload_n 2, 1), (57, .ifCond .ne 18, 3), (60, .aload_n 0, 1), (61, .getfield 16, 3), (64, .bipush 8, 2), (66, .iaload, 1), (67, .iconst 1, 1), (68, .if_icmp .ne 7, 3), (71, .aload_n 0, 1), (72, .invokevirtual 128, 3), (75, .iload_n 1, 1), (76, .ifCond .eq 9, 3), (79, .ldc2_w 231, 3), (82, .goto 22, 3), (85, .aload_n 0, 1), (86, .getfield 20, 3), (89, .bipush 8, 2), (91, .baload, 1), (92, .ifCond .eq 9, 3), (95, .ldc2_w 233, 3), (98, .goto 6, 3), (101, .ldc2_w 235, 3), (104, .lstore_n 3, 1), (105, .aload_n 0, 1), (106, .iconst 1, 1), (107, .lload_n 3, 1), (108, .invokevirtual 80, 3), (111, .iload_n 2, 1), (112, .ifCond .ne 12, 3), (115, .aload_n 0, 1), (116, .iconst 0, 1), (117, .iconst 1, 1), (118, .invokevirtual 115, 3), (121, .ifCond .le 22, 3), (124, .aload_n 0, 1), (125, .iconst 1, 1), (126, .putfield 62, 3), (129, .iload_n 1, 1), (130, .ifCond .eq 9, 3), (133, .ldc2_w 95, 3), (136, .goto 6, 3), (139, .ldc2_w 233, 3), (142, .lreturn, 1), (143, .aload_n 0, 1), (144, .iconst 0, 1), (145, .invokevirtual 87, 3), (148, .lstore 5, 2), (150, .iload_n 1, 1), (151, .ifCond .ne 22, 3), (154, .aload_n 0, 1), (155, .getfield 20, 3), (158, .bipush 8, 2), (160, .baload, 1), (161, .ifCond .eq 9, 3), (164, .lload 5, 2), (166, .lneg, 1), (167, .goto 5, 3), (170, .lload 5, 2), (172, .lreturn, 1), (173, .aload_n 0, 1), (174, .getfield 20, 3), (177, .bipush 8, 2), (179, .baload, 1), (180, .ifCond .eq 9, 3), (183, .ldc2_w 237, 3), (186, .goto 4, 3), (189, .lconst 0, 1), (190, .lstore 7, 2), (192, .iconst 0, 1), (193, .istore 9, 2), (195, .iload 9, 2), (197, .bipush 60, 2), (199, .if_icmp .ge 31, 3), (202, .lload 7, 2), (204, .lload 5, 2), (206, .ldc2_w 218, 3), (209, .lrem, 1), (210, .iload 9, 2), (212, .lshl, 1), (213, .lor, 1), (214, .lstore 7, 2), (216, .lload 5, 2), (218, .ldc2_w 218, 3), (221, .ldiv, 1), (222, .lstore 5, 2), (224, .iinc 9 4, 3), (227, .goto (-32), 3), (230, .lload 7, 2), (232, .lreturn, 1)]
def m_Mo_writeWhole : ZM := (⟨"StackRealModel", "writeWhole", "(Z)J"⟩, prog_9_method_51_code, 10, some .long, [], 7, 0, [], i_Mo_writeWhole)
def i_Mo_write : List (Nat × Instr × Nat) := [(0, .aload_n 0, 1), (1, .iload_n 1, 1), (2, .bipush 8, 2), (4, .invokestatic 138, 3), (7, .ifCond .eq 7, 3), (10, .iconst 1, 1), (11, .goto 4, 3), (14, .iconst 0, 1), (15, .putfield 40, 3), (18, .aload_n 0, 1), (19, .getfield 40, 3), (22, .ifCond .ne 10, 3), (25, .aload_n 0, 1), (26, .getfield 31, 3), (29, .iload_n 1, 1), (30, .lload_n 2, 1), (31, .lastore, 1), (32, .return_, 1)]
def m_Mo_write : ZM := (⟨"StackRealModel", "write", "(IJ)V"⟩, prog_9_method_53_code, 4, none, [], 7, 0, [], i_Mo_write)
def i_Mo_memory : List (Nat × Instr × Nat) := [(0, .aload_n 0, 1), (1, .iload_n 1, 1), (2, .bipush 8, 2), (4, .invokestatic 138, 3), (7, .ifCond .eq 7, 3), (10, .iconst 1, 1), (11, .goto 4, 3), (14, .iconst 0, 1), (15, .putfield 40, 3), (18, .aload_n 0, 1), (19, .getfield 40, 3), (22, .ifCond .ne 12, 3), (25, .aload_n 0, 1), (26, .getfield 31, 3), (29, .iload_n 1, 1), (30, .laload, 1), (31, .goto 4, 3), (34, .lconst 0, 1), (35, .lreturn, 1)]
def m_Mo_memory : ZM := (⟨"StackRealModel", "memory", "(I)J"⟩, prog_9_method_54_code, 2, some .long, [], 7, 0, [], i_Mo_memory)
def i_Mo_pass : List (Nat × Instr × Nat) := [(0, .aload_n 0, 1), (1, .iload_n 1, 1), (2, .sipush 1001, 3), (5, .invokestatic 138, 3), (8, .ifCond .eq 7, 3), (11, .iconst 1, 1), (12, .goto 4, 3), (15, .iconst 0, 1), (16, .putfield 40, 3), (19, .aload_n 0, 1), (20, .getfield 40, 3), (23, .ifCond .ne 8, 3), (26, .aload_n 0, 1), (27, .iload_n 1, 1), (28, .invokevirtual 152, 3), (31, .return_, 1)]
def m_Mo_pass : ZM := (⟨"StackRealModel", "pass", "(I)V"⟩, prog_9_method_55_code, 2, none, [], 7, 0, [], i_Mo_pass)
def i_Mo_await : List (Nat × Instr × Nat) := [(0, .aload_n 0, 1), (1, .iconst 0, 1), (2, .putfield 40, 3), (5, .aload_n 0, 1), (6, .getfield 146, 3), (9, .istore_n 1, 1), (10, .aload_n 0, 1), (11, .iload_n 1, 1), (12, .invokevirtual 152, 3), (15, .iload_n 1, 1), (16, .ireturn, 1)]
def m_Mo_await : ZM := (⟨"StackRealModel", "await", "()I"⟩, prog_9_method_56_code, 2, some .int, [], 7, 0, [], i_Mo_await)
def i_Mo_time : List (Nat × Instr × Nat) := [(0, .aload_n 0, 1), (1, .iconst 0, 1), (2, .putfield 40, 3), (5, .aload_n 0, 1), (6, .getfield 142, 3), (9, .lreturn, 1)]
def m_Mo_time : ZM := (⟨"StackRealModel", "time", "()J"⟩, prog_9_method_57_code, 1, some .long, [], 7, 0, [], i_Mo_time)
def i_Mo_flags : List (Nat × Instr × Nat) := [(0, .aload_n 0, 1), (1, .iconst 0, 1), (2, .putfield 40, 3), (5, .aload_n 0, 1), (6, .getfield 155, 3), (9, .ireturn, 1)]
def m_Mo_flags : ZM := (⟨"StackRealModel", "flags", "()I"⟩, prog_9_method_58_code, 1, some .int, [], 7, 0, [], i_Mo_flags)
def i_Mo_clear : List (Nat × Instr × Nat) := [(0, .aload_n 0, 1), (1, .iconst 0, 1), (2, .putfield 40, 3), (5, .aload_n 0, 1), (6, .iconst 0, 1), (7, .putfield 155, 3), (10, .return_, 1)]
def m_Mo_clear : ZM := (⟨"StackRealModel", "clear", "()V"⟩, prog_9_method_59_code, 1, none, [], 7, 0, [], i_Mo_clear)
def i_Mo_condition : List (Nat × Instr × Nat) := [(0, .aload_n 0, 1), (1, .iconst 0, 1), (2, .putfield 40, 3), (5, .aload_n 0, 1), (6, .getfield 211, 3), (9, .ireturn, 1)]
def m_Mo_condition : ZM := (⟨"StackRealModel", "condition", "()I"⟩, prog_9_method_60_code, 1, some .int, [], 7, 0, [], i_Mo_condition)
def i_Mo_depth : List (Nat × Instr × Nat) := [(0, .aload_n 0, 1), (1, .iconst 0, 1), (2, .putfield 40, 3), (5, .aload_n 0, 1), (6, .getfield 158, 3), (9, .ireturn, 1)]
def m_Mo_depth : ZM := (⟨"StackRealModel", "depth", "()I"⟩, prog_9_method_61_code, 1, some .int, [], 7, 0, [], i_Mo_depth)
def i_Mo_kind : List (Nat × Instr × Nat) := [(0, .aload_n 0, 1), (1, .iload_n 1, 1), (2, .aload_n 0, 1), (3, .getfield 158, 3), (6, .invokestatic 138, 3), (9, .ifCond .eq 7, 3), (12, .iconst 1, 1), (13, .goto 4, 3), (16, .iconst 0, 1), (17, .putfield 40, 3), (20, .aload_n 0, 1), (21, .getfield 40, 3), (24, .ifCond .le 7, 3), (27, .iconst 0, 1), (28, .goto 38, 3), (31, .aload_n 0, 1), (32, .getfield 16, 3), (35, .aload_n 0, 1), (36, .getfield 158, 3), (39, .iconst 1, 1), (40, .isub, 1), (41, .iload_n 1, 1), (42, .isub, 1), (43, .iaload, 1), (44, .aload_n 0, 1), (45, .getfield 20, 3), (48, .aload_n 0, 1), (49, .getfield 158, 3), (52, .iconst 1, 1), (53, .isub, 1), (54, .iload_n 1, 1), (55, .isub, 1), (56, .baload, 1), (57, .ifCond .eq 7, 3), (60, .iconst 4, 1), (61, .goto 4, 3), (64, .iconst 0, 1), (65, .iadd, 1), (66, .ireturn, 1)]
def m_Mo_kind : ZM := (⟨"StackRealModel", "kind", "(I)I"⟩, prog_9_method_62_code, 2, some .int, [], 7, 0, [], i_Mo_kind)
def i_Mo_exponent : List (Nat × Instr × Nat) := [(0, .aload_n 0, 1), (1, .iload_n 1, 1), (2, .aload_n 0, 1), (3, .getfield 158, 3), (6, .invokestatic 138, 3), (9, .ifCond .eq 7, 3), (12, .iconst 1, 1), (13, .goto 4, 3), (16, .iconst 0, 1), (17, .putfield 40, 3), (20, .aload_n 0, 1), (21, .getfield 40, 3), (24, .ifCond .le 7, 3), (27, .iconst 0, 1), (28, .goto 16, 3), (31, .aload_n 0, 1), (32, .getfield 24, 3), (35, .aload_n 0, 1), (36, .getfield 158, 3), (39, .iconst 1, 1), (40, .isub, 1), (41, .iload_n 1, 1), (42, .isub, 1), (43, .iaload, 1), (44, .ireturn, 1)]
def m_Mo_exponent : ZM := (⟨"StackRealModel", "exponent", "(I)I"⟩, prog_9_method_63_code, 2, some .int, [], 7, 0, [], i_Mo_exponent)
def i_Mo_significand : List (Nat × Instr × Nat) := [(0, .aload_n 0, 1), (1, .iload_n 1, 1), (2, .aload_n 0, 1), (3, .getfield 158, 3), (6, .invokestatic 138, 3), (9, .ifCond .eq 7, 3), (12, .iconst 1, 1), (13, .goto 4, 3), (16, .iconst 0, 1), (17, .putfield 40, 3), (20, .aload_n 0, 1), (21, .getfield 40, 3), (24, .ifCond .le 7, 3), (27, .lconst 0, 1), (28, .goto 16, 3), (31, .aload_n 0, 1), (32, .getfield 27, 3), (35, .aload_n 0, 1), (36, .getfield 158, 3), (39, .iconst 1, 1), (40, .isub, 1), (41, .iload_n 1, 1), (42, .isub, 1), (43, .laload, 1), (44, .lreturn, 1)]
def m_Mo_significand : ZM := (⟨"StackRealModel", "significand", "(I)J"⟩, prog_9_method_64_code, 2, some .long, [], 7, 0, [], i_Mo_significand)
end
section
/-! The same, second part: the law, the pools, and what the tables say of them -/
def i_law_1 : List (Nat × Instr × Nat) := [(0, .new 8, 3), (3, .dup, 1), (4, .invokespecial 49, 3), (7, .astore_n 1, 1), (8, .new 50, 3), (11, .dup, 1), (12, .invokespecial 52, 3), (15, .astore_n 2, 1), (16, .iconst 1, 1), (17, .newarray .long, 2), (19, .astore_n 3, 1), (20, .iconst 0, 1), (21, .istore 4, 2), (23, .iload 4, 2), (25, .aload_n 0, 1), (26, .arraylength, 1), (27, .iconst 4, 1), (28, .isub, 1), (29, .if_icmp .gt 772, 3), (32, .aload_n 0, 1), (33, .iload 4, 2), (35, .iaload, 1), (36, .bipush 15, 2), (38, .iand, 1), (39, .tableswitch 756 0 15 #[77, 137, 205, 273, 341, 421, 476, 512, 525, 539, 552, 563, 576, 589, 645, 701], 77), (116, .aload_n 1, 1), (117, .aload_n 0, 1), (118, .iload 4, 2), (120, .iconst 1, 1), (121, .iadd, 1), (122, .iaload, 1), (123, .aload_n 0, 1), (124, .iload 4, 2), (126, .iconst 2, 1), (127, .iadd, 1), (128, .iaload, 1), (129, .aload_n 0, 1), (130, .iload 4, 2), (132, .iconst 3, 1), (133, .iadd, 1), (134, .iaload, 1), (135, .invokestatic 53, 3), (138, .istore 5, 2), (140, .aload_n 2, 1), (141, .aload_n 0, 1), (142, .iload 4, 2), (144, .iconst 1, 1), (145, .iadd, 1), (146, .iaload, 1), (147, .aload_n 0, 1), (148, .iload 4, 2), (150, .iconst 2, 1), (151, .iadd, 1), (152, .iaload, 1), (153, .aload_n 0, 1), (154, .iload 4, 2), (156, .iconst 3, 1), (157, .iadd, 1)]
def i_law_2 : List (Nat × Instr × Nat) := [(158, .iaload, 1), (159, .invokevirtual 58, 3), (162, .aload_n 2, 1), (163, .invokevirtual 59, 3), (166, .iload 5, 2), (168, .if_icmp .eq 5, 3), (171, .iconst 0, 1), (172, .ireturn, 1), (173, .goto 622, 3), (176, .aload_n 1, 1), (177, .aload_n 0, 1), (178, .iload 4, 2), (180, .iconst 1, 1), (181, .iadd, 1), (182, .iaload, 1), (183, .aload_n 0, 1), (184, .iload 4, 2), (186, .iconst 2, 1), (187, .iadd, 1), (188, .iaload, 1), (189, .aload_n 3, 1), (190, .invokestatic 63, 3), (193, .istore 5, 2), (195, .aload_n 2, 1), (196, .aload_n 0, 1), (197, .iload 4, 2), (199, .iconst 1, 1), (200, .iadd, 1), (201, .iaload, 1), (202, .aload_n 0, 1), (203, .iload 4, 2), (205, .iconst 2, 1), (206, .iadd, 1), (207, .iaload, 1), (208, .invokevirtual 66, 3), (211, .istore 6, 2), (213, .aload_n 2, 1), (214, .invokevirtual 59, 3), (217, .iload 5, 2), (219, .if_icmp .eq 5, 3), (222, .iconst 0, 1), (223, .ireturn, 1), (224, .iload 5, 2), (226, .ifCond .ne 15, 3), (229, .aload_n 3, 1), (230, .iconst 0, 1), (231, .laload, 1), (232, .iload 6, 2), (234, .i2l, 1), (235, .lcmp, 1), (236, .ifCond .eq 5, 3), (239, .iconst 0, 1), (240, .ireturn, 1), (241, .goto 554, 3), (244, .aload_n 1, 1), (245, .aload_n 0, 1), (246, .iload 4, 2), (248, .iconst 1, 1)]
def i_law_3 : List (Nat × Instr × Nat) := [(249, .iadd, 1), (250, .iaload, 1), (251, .aload_n 0, 1), (252, .iload 4, 2), (254, .iconst 2, 1), (255, .iadd, 1), (256, .iaload, 1), (257, .aload_n 3, 1), (258, .invokestatic 67, 3), (261, .istore 5, 2), (263, .aload_n 2, 1), (264, .aload_n 0, 1), (265, .iload 4, 2), (267, .iconst 1, 1), (268, .iadd, 1), (269, .iaload, 1), (270, .aload_n 0, 1), (271, .iload 4, 2), (273, .iconst 2, 1), (274, .iadd, 1), (275, .iaload, 1), (276, .invokevirtual 69, 3), (279, .istore 6, 2), (281, .aload_n 2, 1), (282, .invokevirtual 59, 3), (285, .iload 5, 2), (287, .if_icmp .eq 5, 3), (290, .iconst 0, 1), (291, .ireturn, 1), (292, .iload 5, 2), (294, .ifCond .ne 15, 3), (297, .aload_n 3, 1), (298, .iconst 0, 1), (299, .laload, 1), (300, .iload 6, 2), (302, .i2l, 1), (303, .lcmp, 1), (304, .ifCond .eq 5, 3), (307, .iconst 0, 1), (308, .ireturn, 1), (309, .goto 486, 3), (312, .aload_n 1, 1), (313, .aload_n 0, 1), (314, .iload 4, 2), (316, .iconst 1, 1), (317, .iadd, 1), (318, .iaload, 1), (319, .aload_n 0, 1), (320, .iload 4, 2), (322, .iconst 2, 1), (323, .iadd, 1), (324, .iaload, 1), (325, .aload_n 3, 1), (326, .invokestatic 70, 3), (329, .istore 5, 2), (331, .aload_n 2, 1), (332, .aload_n 0, 1), (333, .iload 4, 2)]
def i_law_4 : List (Nat × Instr × Nat) := [(335, .iconst 1, 1), (336, .iadd, 1), (337, .iaload, 1), (338, .aload_n 0, 1), (339, .iload 4, 2), (341, .iconst 2, 1), (342, .iadd, 1), (343, .iaload, 1), (344, .invokevirtual 72, 3), (347, .istore 6, 2), (349, .aload_n 2, 1), (350, .invokevirtual 59, 3), (353, .iload 5, 2), (355, .if_icmp .eq 5, 3), (358, .iconst 0, 1), (359, .ireturn, 1), (360, .iload 5, 2), (362, .ifCond .ne 15, 3), (365, .aload_n 3, 1), (366, .iconst 0, 1), (367, .laload, 1), (368, .iload 6, 2), (370, .i2l, 1), (371, .lcmp, 1), (372, .ifCond .eq 5, 3), (375, .iconst 0, 1), (376, .ireturn, 1), (377, .goto 418, 3), (380, .aload_n 1, 1), (381, .aload_n 0, 1), (382, .iload 4, 2), (384, .iconst 1, 1), (385, .iadd, 1), (386, .iaload, 1), (387, .aload_n 0, 1), (388, .iload 4, 2), (390, .iconst 2, 1), (391, .iadd, 1), (392, .iaload, 1), (393, .i2l, 1), (394, .bipush 32, 2), (396, .lshl, 1), (397, .aload_n 0, 1), (398, .iload 4, 2), (400, .iconst 3, 1), (401, .iadd, 1), (402, .iaload, 1), (403, .i2l, 1), (404, .ldc2_w 73, 3), (407, .land, 1), (408, .lor, 1), (409, .invokestatic 75, 3), (412, .istore 5, 2), (414, .aload_n 2, 1), (415, .aload_n 0, 1), (416, .iload 4, 2), (418, .iconst 1, 1), (419, .iadd, 1)]
def i_law_5 : List (Nat × Instr × Nat) := [(420, .iaload, 1), (421, .aload_n 0, 1), (422, .iload 4, 2), (424, .iconst 2, 1), (425, .iadd, 1), (426, .iaload, 1), (427, .i2l, 1), (428, .bipush 32, 2), (430, .lshl, 1), (431, .aload_n 0, 1), (432, .iload 4, 2), (434, .iconst 3, 1), (435, .iadd, 1), (436, .iaload, 1), (437, .i2l, 1), (438, .ldc2_w 73, 3), (441, .land, 1), (442, .lor, 1), (443, .invokevirtual 78, 3), (446, .aload_n 2, 1), (447, .invokevirtual 59, 3), (450, .iload 5, 2), (452, .if_icmp .eq 5, 3), (455, .iconst 0, 1), (456, .ireturn, 1), (457, .goto 338, 3), (460, .aload_n 1, 1), (461, .aload_n 0, 1), (462, .iload 4, 2), (464, .iconst 1, 1), (465, .iadd, 1), (466, .iaload, 1), (467, .aload_n 3, 1), (468, .invokestatic 79, 3), (471, .istore 5, 2), (473, .aload_n 2, 1), (474, .aload_n 0, 1), (475, .iload 4, 2), (477, .iconst 1, 1), (478, .iadd, 1), (479, .iaload, 1), (480, .invokevirtual 82, 3), (483, .lstore 6, 2), (485, .aload_n 2, 1), (486, .invokevirtual 59, 3), (489, .iload 5, 2), (491, .if_icmp .eq 5, 3), (494, .iconst 0, 1), (495, .ireturn, 1), (496, .iload 5, 2), (498, .ifCond .ne 14, 3), (501, .aload_n 3, 1), (502, .iconst 0, 1), (503, .laload, 1), (504, .lload 6, 2), (506, .lcmp, 1), (507, .ifCond .eq 5, 3), (510, .iconst 0, 1)]
def i_law_6 : List (Nat × Instr × Nat) := [(511, .ireturn, 1), (512, .goto 283, 3), (515, .aload_n 1, 1), (516, .aload_n 0, 1), (517, .iload 4, 2), (519, .iconst 1, 1), (520, .iadd, 1), (521, .iaload, 1), (522, .invokestatic 83, 3), (525, .istore 5, 2), (527, .aload_n 2, 1), (528, .aload_n 0, 1), (529, .iload 4, 2), (531, .iconst 1, 1), (532, .iadd, 1), (533, .iaload, 1), (534, .invokevirtual 86, 3), (537, .aload_n 2, 1), (538, .invokevirtual 59, 3), (541, .iload 5, 2), (543, .if_icmp .eq 5, 3), (546, .iconst 0, 1), (547, .ireturn, 1), (548, .goto 247, 3), (551, .aload_n 1, 1), (552, .invokevirtual 87, 3), (555, .aload_n 2, 1), (556, .invokevirtual 90, 3), (559, .if_icmp .eq 236, 3), (562, .iconst 0, 1), (563, .ireturn, 1), (564, .aload_n 1, 1), (565, .invokevirtual 91, 3), (568, .aload_n 2, 1), (569, .invokevirtual 95, 3), (572, .lcmp, 1), (573, .ifCond .eq 222, 3), (576, .iconst 0, 1), (577, .ireturn, 1), (578, .aload_n 1, 1), (579, .invokevirtual 96, 3), (582, .aload_n 2, 1), (583, .invokevirtual 99, 3), (586, .if_icmp .eq 209, 3), (589, .iconst 0, 1), (590, .ireturn, 1), (591, .aload_n 1, 1), (592, .invokevirtual 100, 3), (595, .aload_n 2, 1), (596, .invokevirtual 103, 3), (599, .goto 196, 3), (602, .aload_n 1, 1), (603, .invokevirtual 104, 3), (606, .aload_n 2, 1), (607, .invokevirtual 107, 3), (610, .if_icmp .eq 185, 3), (613, .iconst 0, 1), (614, .ireturn, 1)]
def i_law_7 : List (Nat × Instr × Nat) := [(615, .aload_n 1, 1), (616, .invokevirtual 108, 3), (619, .aload_n 2, 1), (620, .invokevirtual 111, 3), (623, .if_icmp .eq 172, 3), (626, .iconst 0, 1), (627, .ireturn, 1), (628, .aload_n 1, 1), (629, .aload_n 0, 1), (630, .iload 4, 2), (632, .iconst 1, 1), (633, .iadd, 1), (634, .iaload, 1), (635, .aload_n 3, 1), (636, .invokestatic 112, 3), (639, .istore 5, 2), (641, .aload_n 2, 1), (642, .aload_n 0, 1), (643, .iload 4, 2), (645, .iconst 1, 1), (646, .iadd, 1), (647, .iaload, 1), (648, .invokevirtual 114, 3), (651, .istore 6, 2), (653, .aload_n 2, 1), (654, .invokevirtual 59, 3), (657, .iload 5, 2), (659, .if_icmp .eq 5, 3), (662, .iconst 0, 1), (663, .ireturn, 1), (664, .iload 5, 2), (666, .ifCond .ne 15, 3), (669, .aload_n 3, 1), (670, .iconst 0, 1), (671, .laload, 1), (672, .iload 6, 2), (674, .i2l, 1), (675, .lcmp, 1), (676, .ifCond .eq 5, 3), (679, .iconst 0, 1), (680, .ireturn, 1), (681, .goto 114, 3), (684, .aload_n 1, 1), (685, .aload_n 0, 1), (686, .iload 4, 2), (688, .iconst 1, 1), (689, .iadd, 1), (690, .iaload, 1), (691, .aload_n 3, 1), (692, .invokestatic 115, 3), (695, .istore 5, 2), (697, .aload_n 2, 1), (698, .aload_n 0, 1), (699, .iload 4, 2), (701, .iconst 1, 1), (702, .iadd, 1), (703, .iaload, 1), (704, .invokevirtual 117, 3)]
def i_law_8 : List (Nat × Instr × Nat) := [(707, .istore 6, 2), (709, .aload_n 2, 1), (710, .invokevirtual 59, 3), (713, .iload 5, 2), (715, .if_icmp .eq 5, 3), (718, .iconst 0, 1), (719, .ireturn, 1), (720, .iload 5, 2), (722, .ifCond .ne 15, 3), (725, .aload_n 3, 1), (726, .iconst 0, 1), (727, .laload, 1), (728, .iload 6, 2), (730, .i2l, 1), (731, .lcmp, 1), (732, .ifCond .eq 5, 3), (735, .iconst 0, 1), (736, .ireturn, 1), (737, .goto 58, 3), (740, .aload_n 1, 1), (741, .aload_n 0, 1), (742, .iload 4, 2), (744, .iconst 1, 1), (745, .iadd, 1), (746, .iaload, 1), (747, .aload_n 3, 1), (748, .invokestatic 118, 3), (751, .istore 5, 2), (753, .aload_n 2, 1), (754, .aload_n 0, 1), (755, .iload 4, 2), (757, .iconst 1, 1), (758, .iadd, 1), (759, .iaload, 1), (760, .invokevirtual 120, 3), (763, .lstore 6, 2), (765, .aload_n 2, 1), (766, .invokevirtual 59, 3), (769, .iload 5, 2), (771, .if_icmp .eq 5, 3), (774, .iconst 0, 1), (775, .ireturn, 1), (776, .iload 5, 2), (778, .ifCond .ne 14, 3), (781, .aload_n 3, 1), (782, .iconst 0, 1), (783, .laload, 1), (784, .lload 6, 2), (786, .lcmp, 1), (787, .ifCond .eq 5, 3), (790, .iconst 0, 1), (791, .ireturn, 1), (792, .goto 3, 3), (795, .iinc 4 4, 3), (798, .goto (-775), 3), (801, .iconst 1, 1), (802, .ireturn, 1)]
def i_law : List (Nat × Instr × Nat) := i_law_1 ++ (i_law_2 ++ (i_law_3 ++ (i_law_4 ++ (i_law_5 ++ (i_law_6 ++ (i_law_7 ++ (i_law_8)))))))
def m_law : ZM := (⟨"StackRealLaw", "law", "([I)Z"⟩, code, 8, some .boolean, [], 8, 600, [], i_law)
/-- words that stay true while the tables warm: see zmov -/
def zmov (w : Jvm.Cond) : Bool := (w.onTables && w.keepsFace) || (match w with
  | .arrayClass _ => true
  | .methodLinkNest _ _ _ _ => true
  | .fieldLinkNest _ _ _ _ _ _ => true
  | .not (.castable _ _) => true
  | _ => false)
def zXtra : List Jvm.Cond := [.not (.castable "java/lang/ArithmeticException" "java/lang/IllegalArgumentException"), .not (.castable "java/lang/IllegalArgumentException" "java/lang/ArithmeticException")]
def zWs : List Jvm.Cond := (lw_tbl ++ zXtra).filter zmov
theorem zW_in {w : Jvm.Cond} (i : Nat) (h : (decide (lw_tbl[i]? = some w) && zmov w) = true) : w ∈ zWs := by
  rw [Bool.and_eq_true, decide_eq_true_eq] at h
  exact List.mem_filter.mpr ⟨List.mem_append_left _ (List.mem_of_getElem? h.1), h.2⟩
theorem zWs_mov : ∀ w ∈ zWs, zmov w = true := fun w h => (List.mem_filter.mp h).2
def zFldT (cn : Nat) : List (Nat × Nat × Nat × Nat) := match cn with
  | 0 => [(11, 0, 0, 231), (16, 0, 1, 232), (20, 0, 2, 233), (26, 0, 3, 234), (35, 0, 4, 235), (42, 0, 5, 236), (49, 0, 6, 237), (53, 0, 7, 238), (57, 0, 8, 239), (60, 0, 9, 240), (63, 0, 10, 241), (77, 3, 0, 133), (80, 3, 1, 135), (122, 6, 0, 210), (142, 5, 3, 192), (162, 6, 1, 212), (170, 1, 1, 104), (174, 1, 0, 98), (177, 1, 2, 110), (180, 1, 3, 116)]
  | 1 => [(9, 1, 0, 96), (15, 1, 1, 100), (19, 1, 2, 106), (22, 1, 3, 112)]
  | 2 => [(9, 1, 1, 99), (15, 2, 0, 154), (18, 1, 2, 105), (22, 2, 1, 156), (23, 1, 3, 111), (27, 2, 2, 159), (30, 2, 3, 161)]
  | 3 => [(9, 3, 0, 132), (15, 3, 1, 134), (22, 2, 3, 162), (28, 2, 2, 160), (31, 2, 1, 157), (34, 2, 0, 155), (61, 1, 2, 107), (62, 1, 3, 113), (65, 1, 1, 102)]
  | 4 => [(9, 4, 0, 172), (18, 4, 1, 173), (22, 1, 0, 95), (35, 1, 1, 101), (39, 3, 1, 136), (92, 1, 2, 109), (95, 1, 3, 114), (100, 2, 1, 158)]
  | 5 => [(9, 5, 0, 189), (18, 5, 1, 190), (25, 5, 2, 191), (74, 5, 3, 193), (78, 1, 0, 97), (82, 1, 2, 108), (91, 1, 1, 103), (118, 1, 3, 115)]
  | 6 => [(9, 6, 0, 209), (15, 6, 1, 211), (19, 6, 3, 214), (23, 6, 2, 213), (26, 6, 4, 215), (30, 6, 5, 216)]
  | 7 => [(7, 7, 1, 740), (13, 7, 3, 742), (16, 7, 8, 747), (20, 7, 9, 748), (24, 7, 10, 749), (27, 7, 11, 750), (31, 7, 12, 751), (34, 7, 14, 753), (37, 7, 17, 756), (40, 7, 0, 739), (62, 7, 5, 744), (69, 7, 2, 741), (142, 7, 16, 755), (146, 7, 13, 752), (149, 7, 15, 754), (155, 7, 4, 743), (158, 7, 7, 746), (211, 7, 6, 745)]
  | _ => []
def zFld (cn x : Nat) : Option (Nat × Nat) := ((zFldT cn).lookup x).map (fun q => (q.1, q.2.1))
def zStaT (cn : Nat) : List (Nat × Nat × Nat) := match cn with
  | 0 => [(91, 1001, 387), (191, 1002, 398)]
  | _ => []
def zSta (cn x : Nat) : Option Nat := ((zStaT cn).lookup x).map (fun q => q.1)
def zIntT (cn : Nat) : List (Nat × Int32 × Nat) := match cn with
  | 4 => [(99, 40000, 585)]
  | 7 => [(61, 65535, 895), (134, 40000, 973)]
  | _ => []
def zInt (cn x : Nat) : Option Int32 := ((zIntT cn).lookup x).map (fun q => q.1)
def zLngT (cn : Nat) : List (Nat × Int64 × Nat) := match cn with
  | 0 => [(251, (-9223372036854775808), 468)]
  | 2 => [(60, (-9223372036854775808), 482), (68, 4294967295, 539)]
  | 3 => [(42, (-9223372036854775808), 507)]
  | 5 => [(45, (-9223372036854775808), 635), (57, 15, 642), (59, 9, 643), (61, 10, 644), (99, (-1), 676), (101, 999999999999999, 677), (103, 1152921504606846976, 678)]
  | 7 => [(47, 65535, 862), (95, (-1), 904), (214, 2, 990), (216, 15, 991), (218, 10, 992), (231, 999999999999999, 1005), (233, (-9223372036854775808), 1006), (235, 9223372036854775807, 1007), (237, 1152921504606846976, 1008)]
  | 8 => [(73, 4294967295, 1057)]
  | _ => []
def zLng (cn x : Nat) : Option Int64 := ((zLngT cn).lookup x).map (fun q => q.1)
def zCalST (cn : Nat) : List (Nat × ZM × Nat × Nat × Nat × Nat × String) := match cn with
  | 0 => [(85, m_SR_namesPlace, 1, 383, 384, 67, ""), (114, m_SR_isCell, 1, 619, 620, 67, ""), (117, m_SR_isForm, 1, 622, 623, 67, ""), (194, m_SR_pushes, 1, 400, 401, 67, ""), (226, m_SR_conditionOf, 2, 604, 605, 67, ""), (241, m_SR_compareReals, 2, 607, 608, 67, ""), (244, m_SR_compareMagnitudes, 2, 610, 463, 67, ""), (247, m_SR_isBelow, 2, 465, 466, 67, "")]
  | 2 => [(33, m_SR_compareMagnitudes, 2, 462, 463, 67, "StackReal"), (45, m_Ex_lowerPart, 2, 474, 475, 71, ""), (56, m_SR_isBelow, 2, 481, 466, 67, "StackReal"), (70, m_Ex_fitsInDouble, 2, 548, 549, 71, "")]
  | 4 => [(64, m_Ar_makeInvalid, 1, 443, 444, 70, "")]
  | 5 => [(33, m_Fo_decodeBinary, 4, 631, 632, 72, ""), (37, m_Fo_decodeDecimal, 2, 639, 640, 72, ""), (114, m_Fo_binaryImage, 3, 669, 670, 72, "")]
  | 7 => [(138, m_Mo_out, 2, 804, 805, 74, ""), (165, m_Mo_cost, 1, 811, 812, 74, "")]
  | 8 => [(53, m_La_control, 4, 297, 298, 66, ""), (63, m_La_operate, 4, 374, 375, 66, ""), (67, m_La_load, 4, 612, 613, 66, ""), (70, m_La_store, 4, 645, 646, 66, ""), (75, m_La_write, 3, 683, 684, 66, ""), (79, m_La_memory, 3, 691, 692, 66, ""), (83, m_La_pass, 2, 698, 699, 66, ""), (112, m_La_kind, 3, 707, 708, 66, ""), (115, m_La_exponent, 3, 719, 720, 66, ""), (118, m_La_significand, 3, 726, 727, 66, "")]
  | _ => []
def zCalS (cn x : Nat) : Option (ZM × Nat) := ((zCalST cn).lookup x).map (fun q => (q.1, q.2.1))
def zCalVT (cn : Nat) : List (Nat × ZM × Nat × Nat × Nat × Nat × String) := match cn with
  | 0 => [(95, m_Me_occupy, 1, 389, 390, 391, ""), (99, m_SR_isPossible, 2, 394, 396, 1, ""), (103, m_SR_raise, 1, 407, 409, 3, ""), (107, m_SR_workOut, 1, 427, 429, 4, ""), (110, m_SR_carryOut, 2, 586, 588, 14, ""), (126, m_Fo_decode, 3, 626, 627, 628, ""), (130, m_SR_push, 1, 596, 598, 16, ""), (134, m_SR_st, 1, 403, 405, 2, ""), (138, m_Fo_encode, 2, 652, 653, 654, ""), (146, m_Me_storeWhenFree, 2, 679, 680, 681, ""), (154, m_Me_goOn, 1, 706, 274, 275, ""), (158, m_Me_waitUntilFree, 0, 269, 270, 271, ""), (165, m_SR_isOnStack, 1, 714, 716, 21, ""), (183, m_Re_copy, 1, 521, 447, 448, ""), (197, m_Ar_add, 3, 431, 432, 433, ""), (201, m_Re_negate, 0, 522, 523, 524, ""), (204, m_Ar_multiply, 3, 526, 527, 528, ""), (207, m_Ar_divide, 3, 540, 541, 542, ""), (210, m_Ar_root, 2, 551, 552, 553, ""), (214, m_Ar_makeWhole, 2, 563, 564, 565, ""), (217, m_Ar_scale, 3, 581, 582, 583, ""), (220, m_SR_extract, 0, 590, 592, 15, ""), (223, m_SR_exchange, 1, 600, 602, 17, ""), (229, m_Re_becomeWhole, 2, 595, 576, 577, ""), (233, m_Re_becomeZero, 1, 611, 451, 452, ""), (237, m_Re_becomeFinite, 3, 594, 513, 514, "")]
  | 1 => [(26, m_Re_becomeZero, 1, 579, 451, 452, ""), (30, m_Re_becomeFinite, 3, 580, 513, 514, "")]
  | 2 => [(37, m_Ex_combine, 2, 469, 471, 6, ""), (41, m_Ex_copy, 1, 473, 455, 456, ""), (49, m_Ex_putOn, 2, 477, 479, 7, ""), (53, m_Ex_takeAway, 2, 483, 485, 8, ""), (62, m_Ex_normalize, 0, 487, 489, 9, ""), (65, m_Ex_multiplyBits, 2, 535, 537, 12, ""), (73, m_Ex_isAbove, 2, 559, 561, 13, "")]
  | 3 => [(18, m_Ro_roundTo, 5, 499, 500, 501, ""), (38, m_Ro_goesAway, 4, 503, 505, 10, ""), (44, m_Ro_staysBelowInfinite, 1, 508, 510, 11, ""), (48, m_Re_becomeFinite, 3, 512, 513, 514, ""), (54, m_Re_becomeInfinite, 1, 516, 517, 518, ""), (58, m_Re_becomeZero, 1, 520, 451, 452, "")]
  | 4 => [(28, m_Re_becomeNan, 0, 435, 436, 437, ""), (31, m_Ar_addInfinite, 3, 439, 441, 5, ""), (44, m_Re_becomeZero, 1, 450, 451, 452, ""), (48, m_Ex_copy, 1, 454, 455, 456, ""), (52, m_Ex_becomeSum, 2, 458, 459, 460, ""), (56, m_Ex_isZero, 0, 491, 492, 493, ""), (60, m_Ro_round, 2, 495, 496, 497, ""), (68, m_Re_copy, 1, 446, 447, 448, ""), (69, m_Re_becomeInfinite, 1, 530, 517, 518, ""), (72, m_Ex_becomeProduct, 2, 531, 532, 533, ""), (75, m_Ex_becomeQuotient, 2, 544, 545, 546, ""), (78, m_Ex_becomeRoot, 1, 555, 556, 557, ""), (81, m_Re_isWhole, 0, 567, 568, 569, ""), (84, m_Ro_wholeMagnitude, 1, 571, 572, 573, ""), (88, m_Re_becomeWhole, 2, 575, 576, 577, "")]
  | 5 => [(29, m_Re_becomeWhole, 2, 630, 576, 577, ""), (41, m_Re_becomeZero, 1, 634, 451, 452, ""), (47, m_Re_becomeFinite, 3, 636, 513, 514, ""), (51, m_Re_becomeInfinite, 1, 637, 517, 518, ""), (54, m_Re_becomeNan, 0, 638, 436, 437, ""), (63, m_Fo_encodeWhole, 1, 656, 658, 18, ""), (67, m_Fo_encodeBinary, 3, 662, 664, 19, ""), (71, m_Fo_encodeDecimal, 1, 672, 674, 20, ""), (85, m_Ro_wholeMagnitude, 1, 660, 572, 573, ""), (95, m_Re_isWhole, 0, 661, 568, 569, ""), (105, m_Re_copy, 1, 666, 447, 448, ""), (109, m_Ex_copy, 1, 667, 455, 456, ""), (110, m_Ro_roundTo, 5, 668, 500, 501, "")]
  | 6 => [(33, m_Me_goOn, 1, 273, 274, 275, ""), (37, m_Me_waitUntilFree, 0, 393, 270, 271, "")]
  | 7 => [(43, m_Mo_blank, 1, 858, 860, 33, ""), (49, m_Mo_bit, 2, 875, 877, 37, ""), (53, m_Mo_top, 1, 871, 873, 36, ""), (57, m_Mo_setBit, 2, 887, 889, 40, ""), (65, m_Mo_special, 2, 846, 848, 30, ""), (72, m_Mo_goesUp, 2, 879, 881, 38, ""), (76, m_Mo_shift, 3, 883, 885, 39, ""), (80, m_Mo_put, 2, 854, 856, 32, ""), (84, m_Mo_add, 3, 891, 893, 41, ""), (87, m_Mo_lowest, 1, 896, 898, 42, ""), (91, m_Mo_tooLarge, 3, 900, 902, 43, ""), (97, m_Mo_round, 4, 867, 869, 35, ""), (101, m_Mo_either, 1, 842, 844, 29, ""), (105, m_Mo_invalid, 0, 850, 852, 31, ""), (108, m_Mo_result, 2, 863, 865, 34, ""), (112, m_Mo_finiteSum, 2, 905, 907, 44, ""), (115, m_Mo_compareRows, 2, 909, 911, 45, ""), (118, m_Mo_times, 3, 917, 919, 47, ""), (121, m_Mo_finiteQuotient, 1, 925, 927, 49, ""), (125, m_Mo_copy, 2, 830, 832, 26, ""), (128, m_Mo_whole, 0, 965, 967, 59, ""), (131, m_Mo_exactly, 1, 945, 947, 54, ""), (135, m_Mo_rank, 1, 941, 943, 53, ""), (152, m_Mo_goOn, 1, 818, 820, 23, ""), (161, m_Mo_throwing, 0, 826, 828, 25, ""), (168, m_Mo_begin, 1, 814, 816, 22, ""), (171, m_Mo_refuse, 0, 822, 824, 24, ""), (175, m_Mo_reckon, 1, 834, 836, 27, ""), (178, m_Mo_change, 1, 929, 931, 50, ""), (181, m_Mo_move, 2, 933, 935, 51, ""), (184, m_Mo_extract, 0, 949, 951, 55, ""), (187, m_Mo_alter, 1, 953, 955, 56, ""), (190, m_Mo_sum, 0, 838, 840, 28, ""), (193, m_Mo_product, 0, 913, 915, 46, ""), (196, m_Mo_quotient, 0, 921, 923, 48, ""), (199, m_Mo_root, 0, 957, 959, 57, ""), (202, m_Mo_integer, 0, 961, 963, 58, ""), (205, m_Mo_scaled, 0, 969, 971, 60, ""), (208, m_Mo_compared, 0, 937, 939, 52, ""), (220, m_Mo_readWhole, 1, 978, 980, 61, ""), (224, m_Mo_readReal, 3, 982, 984, 62, ""), (228, m_Mo_readDecimal, 1, 986, 988, 63, ""), (239, m_Mo_writeReal, 2, 997, 999, 64, ""), (243, m_Mo_writeWhole, 1, 1001, 1003, 65, "")]
  | 8 => [(7, m_SR_control, 3, 301, 302, 303, ""), (15, m_SR_operate, 2, 378, 379, 380, ""), (21, m_SR_load, 2, 615, 616, 617, ""), (24, m_SR_store, 2, 648, 649, 650, ""), (27, m_SR_write, 2, 686, 687, 688, ""), (31, m_SR_memory, 1, 694, 695, 696, ""), (35, m_SR_pass, 1, 701, 702, 703, ""), (39, m_SR_kind, 1, 710, 711, 712, ""), (43, m_SR_exponent, 1, 722, 723, 724, ""), (46, m_SR_significand, 1, 729, 730, 731, ""), (58, m_Mo_control, 3, 800, 801, 802, ""), (59, m_Mo_thrown, 0, 796, 797, 798, ""), (66, m_Mo_operate, 2, 807, 808, 809, ""), (69, m_Mo_load, 2, 974, 975, 976, ""), (72, m_Mo_store, 2, 993, 994, 995, ""), (78, m_Mo_write, 2, 1009, 1010, 1011, ""), (82, m_Mo_memory, 1, 1013, 1014, 1015, ""), (86, m_Mo_pass, 1, 1017, 1018, 1019, ""), (87, m_SR_await, 0, 265, 266, 267, ""), (90, m_Mo_await, 0, 1021, 1022, 1023, ""), (91, m_SR_time, 0, 277, 278, 279, ""), (95, m_Mo_time, 0, 1025, 1026, 1027, ""), (96, m_SR_flags, 0, 281, 282, 283, ""), (99, m_Mo_flags, 0, 1029, 1030, 1031, ""), (100, m_SR_clear, 0, 285, 286, 287, ""), (103, m_Mo_clear, 0, 1033, 1034, 1035, ""), (104, m_SR_condition, 0, 289, 290, 291, ""), (107, m_Mo_condition, 0, 1037, 1038, 1039, ""), (108, m_SR_depth, 0, 293, 294, 295, ""), (111, m_Mo_depth, 0, 1041, 1042, 1043, ""), (114, m_Mo_kind, 1, 1045, 1046, 1047, ""), (117, m_Mo_exponent, 1, 1049, 1050, 1051, ""), (120, m_Mo_significand, 1, 1053, 1054, 1055, "")]
  | _ => []
def zCalV (cn x : Nat) : Option (ZM × Nat) := ((zCalVT cn).lookup x).map (fun q => (q.1, q.2.1))
/-- the static tables -/
def zA_TICKS : List Int32 := [8, 8, 12, 20, 20, 6, 6, 6, 2, 2, 2, 2, 2, 2, 2, 2]
def zA_NEEDED : List Int32 := [2, 2, 2, 2, 1, 1, 2, 1, 1, 1, 1, 1, 1, 2, 0, 0]
def zTab (k : Nat) : Option (Nat × (Nat → Int32)) := if k = 1001 then some (16, fun j => zA_TICKS.getD j 0) else if k = 1002 then some (16, fun j => zA_NEEDED.getD j 0) else none
def zStN : List (Nat × String × String × String) := [(1001, "StackReal", "TICKS", "[I"), (1002, "StackReal", "NEEDED", "[I")]
def zStQ : List (String × String × String) := [("java/lang/Throwable", "UNASSIGNED_STACK", "[Ljava/lang/StackTraceElement;"), ("java/lang/Throwable", "SUPPRESSED_SENTINEL", "Ljava/util/List;")]
def zStr : List (Nat × Nat × String) := [(0, 68, "the precision is 24, 53 or 64"), (0, 73, "the rounding is 0 to 3"), (0, 75, "the mask is 0 to 31"), (0, 83, "there is no such operation"), (0, 89, "i is 0 to 7"), (0, 188, "an exception that is not masked"), (0, 120, "there is no such cell or form"), (0, 150, "there is no such cell"), (0, 152, "0 to 1000 ticks pass"), (0, 168, "there is no such real")]
def zAll : List ZM := [m_SR_await, m_Me_waitUntilFree, m_Me_goOn, m_SR_time, m_SR_flags, m_SR_clear, m_SR_condition, m_SR_depth, m_La_control, m_SR_control, m_La_operate, m_SR_operate, m_SR_namesPlace, m_Me_occupy, m_SR_isPossible, m_SR_pushes, m_SR_st, m_SR_raise, m_SR_workOut, m_Ar_add, m_Re_becomeNan, m_Ar_addInfinite, m_Ar_makeInvalid, m_Re_copy, m_Re_becomeZero, m_Ex_copy, m_Ex_becomeSum, m_SR_compareMagnitudes, m_SR_isBelow, m_Ex_combine, m_Ex_lowerPart, m_Ex_putOn, m_Ex_takeAway, m_Ex_normalize, m_Ex_isZero, m_Ro_round, m_Ro_roundTo, m_Ro_goesAway, m_Ro_staysBelowInfinite, m_Re_becomeFinite, m_Re_becomeInfinite, m_Re_negate, m_Ar_multiply, m_Ex_becomeProduct, m_Ex_multiplyBits, m_Ar_divide, m_Ex_becomeQuotient, m_Ex_fitsInDouble, m_Ar_root, m_Ex_becomeRoot, m_Ex_isAbove, m_Ar_makeWhole, m_Re_isWhole, m_Ro_wholeMagnitude, m_Re_becomeWhole, m_Ar_scale, m_SR_carryOut, m_SR_extract, m_SR_push, m_SR_exchange, m_SR_conditionOf, m_SR_compareReals, m_La_load, m_SR_load, m_SR_isCell, m_SR_isForm, m_Fo_decode, m_Fo_decodeBinary, m_Fo_decodeDecimal, m_La_store, m_SR_store, m_Fo_encode, m_Fo_encodeWhole, m_Fo_encodeBinary, m_Fo_binaryImage, m_Fo_encodeDecimal, m_Me_storeWhenFree, m_La_write, m_SR_write, m_La_memory, m_SR_memory, m_La_pass, m_SR_pass, m_La_kind, m_SR_kind, m_SR_isOnStack, m_La_exponent, m_SR_exponent, m_La_significand, m_SR_significand, m_Mo_thrown, m_Mo_control, m_Mo_out, m_Mo_operate, m_Mo_cost, m_Mo_begin, m_Mo_goOn, m_Mo_refuse, m_Mo_throwing, m_Mo_copy, m_Mo_reckon, m_Mo_sum, m_Mo_either, m_Mo_special, m_Mo_invalid, m_Mo_put, m_Mo_blank, m_Mo_result, m_Mo_round, m_Mo_top, m_Mo_bit, m_Mo_goesUp, m_Mo_shift, m_Mo_setBit, m_Mo_add, m_Mo_lowest, m_Mo_tooLarge, m_Mo_finiteSum, m_Mo_compareRows, m_Mo_product, m_Mo_times, m_Mo_quotient, m_Mo_finiteQuotient, m_Mo_change, m_Mo_move, m_Mo_compared, m_Mo_rank, m_Mo_exactly, m_Mo_extract, m_Mo_alter, m_Mo_root, m_Mo_integer, m_Mo_whole, m_Mo_scaled, m_Mo_load, m_Mo_readWhole, m_Mo_readReal, m_Mo_readDecimal, m_Mo_store, m_Mo_writeReal, m_Mo_writeWhole, m_Mo_write, m_Mo_memory, m_Mo_pass, m_Mo_await, m_Mo_time, m_Mo_flags, m_Mo_clear, m_Mo_condition, m_Mo_depth, m_Mo_kind, m_Mo_exponent, m_Mo_significand]
/-- the kind of a handler's class -/
def zCat (ct : Nat) : Nat := if ct = 13 then 1 else if ct = 19 then 2 else 0
def zHan (m : ZM) (pc x : Nat) : Option Nat := ((zHs m).find? (fun q => decide (q.1 ≤ pc) && decide (pc < q.2.1) && zCat q.2.2.2 == x)).map (fun q => q.2.2.1)
end
section
/-! A starting text out of claim/NAMES.whole.lean.txt: static fields of the JDK, where they lie -/
/-- where a static field lies, its class's statics cell in H -/
def vx_L (C n d : String) (A : Nat → Prop) (U : State) (H : Heap) : Prop := ∃ (c : ClassId) (k : Class) (i : Nat) (f : Field) (a : Nat) (cell : Cell), U.vm.findClass C = some c ∧ U.fieldFound? C n d = some (c, k, i, f) ∧ f.isStatic = true ∧ k.statics = some a ∧ H[a]? = some cell ∧ cell.vm.isStatics = true ∧ cell.cls = c ∧ f.slot < cell.slots.size ∧ k.staticTypes[f.slot]? = some f.type ∧ ¬ A a
theorem vx_L.moved {C n d : String} {A : Nat → Prop} {u U : State} {H : Heap} (hvm : u.vm.Alike U.vm) (h : vx_L C n d A u H) : vx_L C n d A U H := by
  obtain ⟨c, k, i, f, a, cell, h1, h2, h3, h4, h5, h6, h7, h8, h9, h10⟩ := h
  obtain ⟨k', hi', he⟩ := State.fieldFound?_setVm hvm h2
  exact ⟨c, k', i, f, a, cell, by rw [hvm.findClass]; exact h1, hi', h3, by rw [he]; exact h4, h5, h6, h7, h8, by rw [he]; exact h9, h10⟩
theorem vx_L.kept {C n d : String} {A : Nat → Prop} {U : State} {H H1 : Heap} (h : vx_L C n d A U H) (hq : ∀ a : Nat, a < H.size → ¬ A a → H1[a]? = H[a]?) : vx_L C n d A U H1 := by
  obtain ⟨c, k, i, f, a, cell, h1, h2, h3, h4, h5, h6, h7, h8, h9, h10⟩ := h
  exact ⟨c, k, i, f, a, cell, h1, h2, h3, h4, by rw [hq a (Array.getElem?_eq_some_iff.mp h5).1 h10]; exact h5, h6, h7, h8, h9, h10⟩
theorem vx_L.narrow {C n d : String} {A B : Nat → Prop} {U : State} {H : Heap} (h : vx_L C n d A U H) (hAB : ∀ q, B q → A q) : vx_L C n d B U H := by
  obtain ⟨c, k, i, f, a, cell, h1, h2, h3, h4, h5, h6, h7, h8, h9, h10⟩ := h
  exact ⟨c, k, i, f, a, cell, h1, h2, h3, h4, h5, h6, h7, h8, h9, fun z => h10 (hAB _ z)⟩
theorem vx_L.word {C n d : String} {A : Nat → Prop} {s : State} {args : Array Value} (h : vx_L C n d A s s.heap) : (Cond.laysStatic C n d).before args s = true := by
  obtain ⟨c, k, i, f, a, cell, h1, h2, h3, h4, h5, h6, h7, h8, h9, -⟩ := h
  show (Cond.laysStatic C n d).holds args s none s [] = true
  exact Cond.laysStatic_of h1 h2 h3 h4 h5 h6 h7 h8 h9
/-- .. and what it holds: null or some reference -/
def vx_Zq (C n d : String) (A : Nat → Prop) (U : State) (H : Heap) : Prop := va_Zq C n d A U H ∧ vx_L C n d A U H
theorem vx_Zq.moved {C n d : String} {A : Nat → Prop} {u U : State} {H : Heap} (hvm : u.vm.Alike U.vm) (h : vx_Zq C n d A u H) : vx_Zq C n d A U H := ⟨va_Zq.moved hvm h.1, vx_L.moved hvm h.2⟩
theorem vx_Zq.kept {C n d : String} {A : Nat → Prop} {U : State} {H H1 : Heap} (h : vx_Zq C n d A U H) (hq : ∀ a : Nat, a < H.size → ¬ A a → H1[a]? = H[a]?) : vx_Zq C n d A U H1 := ⟨va_Zq.kept h.1 hq, vx_L.kept h.2 hq⟩
theorem vx_Zq.narrow {C n d : String} {A B : Nat → Prop} {U : State} {H : Heap} (h : vx_Zq C n d A U H) (hAB : ∀ q, B q → A q) : vx_Zq C n d B U H := ⟨va_Zq.narrow h.1 hAB, vx_L.narrow h.2 hAB⟩
theorem vx_Zqof {args : Array Value} {s : State} {C n d : String} {A : Nat → Prop} (hl : (Cond.laysStatic C n d).before args s = true) (hini : (Cond.initialized C).before args s = true) (h : (Cond.isRef (.static C n d)).before args s = true) (hA : ∀ a : Nat, a < s.heap.size → ¬ A a) : vx_Zq C n d A s s.heap := by
  refine ⟨va_Zqof hl hini h hA, ?_⟩
  obtain ⟨c, k, i, f, a, cell, h1, h2, h3, h4, h5, h6, h7, h8, h9⟩ := Cond.laysStatic_spec hl
  exact ⟨c, k, i, f, a, cell, h1, h2, h3, h4, h5, h6, h7, h8, h9, hA a (Array.getElem?_eq_some_iff.mp h5).1⟩
end
section
/-! ===== nI under and, xor, >>>, one bit, 65535 ===== -/
theorem nx_and (a b : Nat) : nI a &&& nI b = nI (a &&& b) := by
  apply Int32.toBitVec_inj.1
  show BitVec.ofNat 32 a &&& BitVec.ofNat 32 b = BitVec.ofNat 32 (a &&& b)
  apply BitVec.eq_of_getLsbD_eq
  intro i hi
  simp [hi]
theorem nx_xor (a b : Nat) : nI a ^^^ nI b = nI (a ^^^ b) := by
  apply Int32.toBitVec_inj.1
  show BitVec.ofNat 32 a ^^^ BitVec.ofNat 32 b = BitVec.ofNat 32 (a ^^^ b)
  apply BitVec.eq_of_getLsbD_eq
  intro i hi
  simp [hi]
theorem nx_cnt : ∀ j : Fin 32, (UInt32.ofNat j.val &&& Int32.toUInt32 31).toNat % 32 = j.val := by decide +kernel
theorem nx_ush {k j : Nat} (hk : k < 65536) (hj : j < 32) : ((nI k).toUInt32 >>> ((nI j).toUInt32 &&& Int32.toUInt32 31)).toInt32 = nI (k >>> j) := by
  have hs : k >>> j ≤ k := by
    rw [Nat.shiftRight_eq_div_pow]
    exact Nat.div_le_self _ _
  have e2 : UInt32.ofNat k >>> (UInt32.ofNat j &&& Int32.toUInt32 31) = UInt32.ofNat (k >>> j) := by
    apply UInt32.toNat_inj.1
    have h1 : (UInt32.ofNat k).toNat = k := Nat.mod_eq_of_lt (by omega)
    have h2 : (UInt32.ofNat (k >>> j)).toNat = k >>> j := Nat.mod_eq_of_lt (by omega)
    rw [UInt32.toNat_shiftRight, nx_cnt ⟨j, hj⟩, h1, h2]
  show (UInt32.ofNat k >>> (UInt32.ofNat j &&& Int32.toUInt32 31)).toInt32 = _
  rw [e2]
  rfl
theorem nx_bit {k j : Nat} (hk : k < 65536) (hj : j < 16) : (((nI k).toUInt32 >>> ((nI j).toUInt32 &&& Int32.toUInt32 31)).toInt32 &&& 1) = 0 ↔ k.testBit j = false := by
  rw [nx_ush hk (by omega)]
  show nI (k >>> j) &&& nI 1 = 0 ↔ _
  rw [nx_and, Nat.and_one_is_mod, ← nI_0, nI_eq (by omega) (by omega), Nat.testBit_eq_decide_div_mod_eq, Nat.shiftRight_eq_div_pow, decide_eq_false_iff_not]
  generalize k / 2 ^ j = z
  omega
theorem nx_mod (k : Nat) : nI k &&& 65535 = nI (k % 65536) := by
  show nI k &&& nI 65535 = _
  rw [nx_and, show (65535 : Nat) = 2 ^ 16 - 1 from rfl, Nat.and_two_pow_sub_one_eq_mod]
theorem nx_m16 {k : Nat} (h : k < 65536) : nI k &&& 65535 = nI k := by rw [nx_mod, Nat.mod_eq_of_lt h]
theorem nx_mask (x : Int32) : ∃ k, k < 65536 ∧ x &&& 65535 = nI k := by
  have e : x = nI x.toBitVec.toNat := by
    apply Int32.toBitVec_inj.1
    show x.toBitVec = BitVec.ofNat 32 x.toBitVec.toNat
    simp
  refine ⟨x.toBitVec.toNat % 65536, Nat.mod_lt _ (by omega), ?_⟩
  rw [← nx_mod, ← e]
/-! ===== lN n to 2^64: shifts, and, or, masks, one bit ===== -/
theorem wb_tb (n : Nat) : (lN n).toBitVec = BitVec.ofNat 64 n := rfl
theorem wb_inj {a b : Int64} (h : a.toBitVec = b.toBitVec) : a = b := Int64.toBitVec_inj.mp h
theorem wb_tn {n : Nat} (h : n < 2 ^ 64) : (lN n).toBitVec.toNat = n := by rw [wb_tb, BitVec.toNat_ofNat, Nat.mod_eq_of_lt h]
theorem wb_of (x : Int64) : ∃ n, n < 2 ^ 64 ∧ x = lN n := ⟨x.toBitVec.toNat, x.toBitVec.isLt, wb_inj (by rw [wb_tb]; simp)⟩
theorem wb_of32 (x : Int32) : ∃ n, n < 2 ^ 32 ∧ x = nI n := ⟨x.toBitVec.toNat, x.toBitVec.isLt, Int32.toBitVec_inj.mp (by show _ = BitVec.ofNat 32 _; simp)⟩
theorem wb_c : ∀ k, k < 64 → ((nI k).toInt64 &&& 63) = lN k := by decide +kernel
theorem wb_cu : ∀ k, k < 64 → ((nI k).toInt64.toUInt64 &&& Int64.toUInt64 63) = UInt64.ofNat k := by decide +kernel
theorem wb_sm : ∀ k, k < 64 → (BitVec.ofNat 64 k).smod 64 = BitVec.ofNat 64 k := by decide +kernel
theorem wb_pw {a b : Nat} (h : a ≤ b) : 2 ^ b = 2 ^ a * 2 ^ (b - a) := by rw [← Nat.pow_add]; congr 1; omega
theorem wb_lt2 {a b : Nat} (h : a < b) : 2 ^ a < 2 ^ b := Nat.pow_lt_pow_right (by decide) h
theorem wb_mod (n : Nat) : lN n = lN (n % 2 ^ 64) := wb_inj (by rw [wb_tb, wb_tb]; apply BitVec.eq_of_toNat_eq; rw [BitVec.toNat_ofNat, BitVec.toNat_ofNat, Nat.mod_mod])
theorem wb_shr {n k : Nat} (hn : n < 2 ^ 64) (hk : k < 64) : ((lN n).toUInt64 >>> ((nI k).toInt64.toUInt64 &&& Int64.toUInt64 63)).toInt64 = lN (n / 2 ^ k) := by
  rw [wb_cu k hk]
  apply wb_inj
  apply BitVec.eq_of_toNat_eq
  show ((lN n).toUInt64 >>> UInt64.ofNat k).toNat = (BitVec.ofNat 64 _).toNat
  have h1 : (UInt64.ofNat k).toNat = k := by
    show (BitVec.ofNat 64 k).toNat = k
    rw [BitVec.toNat_ofNat, Nat.mod_eq_of_lt (by omega)]
  have h2 : (lN n).toUInt64.toNat = n := wb_tn hn
  rw [UInt64.toNat_shiftRight, h1, h2, Nat.mod_eq_of_lt hk, Nat.shiftRight_eq_div_pow, BitVec.toNat_ofNat, Nat.mod_eq_of_lt (Nat.lt_of_le_of_lt (Nat.div_le_self _ _) hn)]
theorem wb_shl (n : Nat) {k : Nat} (hk : k < 64) : lN n <<< ((nI k).toInt64 &&& 63) = lN (n * 2 ^ k) := by
  rw [wb_c k hk]
  apply wb_inj
  rw [Int64.toBitVec_shiftLeft, wb_tb, wb_tb, wb_tb, wb_sm k hk]
  apply BitVec.eq_of_toNat_eq
  rw [BitVec.shiftLeft_eq', BitVec.toNat_shiftLeft, BitVec.toNat_ofNat, BitVec.toNat_ofNat, BitVec.toNat_ofNat, Nat.mod_eq_of_lt (show k < 2 ^ 64 by omega), Nat.shiftLeft_eq, Nat.mul_mod, Nat.mod_mod, ← Nat.mul_mod]
theorem wb_and {a b : Nat} (ha : a < 2 ^ 64) (hb : b < 2 ^ 64) : lN a &&& lN b = lN (a &&& b) := by
  apply wb_inj
  rw [Int64.toBitVec_and, wb_tb, wb_tb, wb_tb]
  apply BitVec.eq_of_toNat_eq
  rw [BitVec.toNat_and, BitVec.toNat_ofNat, BitVec.toNat_ofNat, BitVec.toNat_ofNat, Nat.mod_eq_of_lt ha, Nat.mod_eq_of_lt hb, Nat.mod_eq_of_lt (Nat.and_lt_two_pow _ hb)]
theorem wb_or {a b : Nat} (ha : a < 2 ^ 64) (hb : b < 2 ^ 64) : lN a ||| lN b = lN (a ||| b) := by
  apply wb_inj
  rw [Int64.toBitVec_or, wb_tb, wb_tb, wb_tb]
  apply BitVec.eq_of_toNat_eq
  rw [BitVec.toNat_or, BitVec.toNat_ofNat, BitVec.toNat_ofNat, BitVec.toNat_ofNat, Nat.mod_eq_of_lt ha, Nat.mod_eq_of_lt hb, Nat.mod_eq_of_lt (Nat.or_lt_two_pow ha hb)]
theorem wb_mask {n k : Nat} (hn : n < 2 ^ 64) (hk : k < 64) : lN n &&& lN (2 ^ k - 1) = lN (n % 2 ^ k) := by
  rw [wb_and hn (by have := wb_lt2 hk; omega), Nat.and_two_pow_sub_one_eq_mod]
theorem wb_a1 {n : Nat} (hn : n < 2 ^ 64) : lN n &&& 1 = lN (n % 2) := wb_mask (k := 1) hn (by decide)
theorem wb_bit {n k : Nat} (hn : n < 2 ^ 64) (hk : k < 64) : ((lN n).toUInt64 >>> ((nI k).toInt64.toUInt64 &&& Int64.toUInt64 63)).toInt64 &&& 1 = lN (n / 2 ^ k % 2) := by
  rw [wb_shr hn hk, wb_a1 (Nat.lt_of_le_of_lt (Nat.div_le_self _ _) hn)]
theorem wb_xor {q k : Nat} (hk : k < 63) (h : 2 ^ k ≤ q) (h2 : q < 2 ^ (k + 1)) : lN q ^^^ lN (2 ^ k) = lN (q - 2 ^ k) := by
  obtain ⟨r, rfl⟩ : ∃ r, q = 2 ^ k + r := ⟨q - 2 ^ k, by omega⟩
  have hr : r < 2 ^ k := by rw [Nat.pow_succ] at h2; omega
  have hx : (2 ^ k + r) ^^^ 2 ^ k = r := by
    apply Nat.eq_of_testBit_eq
    intro i
    rw [Nat.testBit_xor, Nat.testBit_two_pow]
    rcases Nat.lt_trichotomy i k with h | h | h
    · rw [Nat.testBit_two_pow_add_gt h]
      simp [show ¬ k = i by omega]
    · subst h
      rw [Nat.testBit_two_pow_add_eq]
      simp
    · have a1 : 2 ^ (k + 1) ≤ 2 ^ i := Nat.pow_le_pow_right (by decide) h
      rw [Nat.testBit_lt_two_pow (show 2 ^ k + r < 2 ^ i by omega), Nat.testBit_lt_two_pow (show r < 2 ^ i by omega)]
      simp [show ¬ k = i by omega]
  have b1 := wb_lt2 (show k + 1 < 64 by omega)
  have b2 := wb_lt2 (show k < 64 by omega)
  apply wb_inj
  rw [Int64.toBitVec_xor, wb_tb, wb_tb, wb_tb]
  apply BitVec.eq_of_toNat_eq
  rw [BitVec.toNat_xor, BitVec.toNat_ofNat, BitVec.toNat_ofNat, BitVec.toNat_ofNat, Nat.mod_eq_of_lt (by omega : 2 ^ k + r < 2 ^ 64), Nat.mod_eq_of_lt b2, hx, Nat.add_sub_cancel_left, Nat.mod_eq_of_lt (by omega)]
/-! ===== lN: masks, 'or' of parts that don't overlap is a sum ===== -/
theorem u_tn {n : Nat} (h : n < 2 ^ 64) : (UInt64.ofNat n).toNat = n := Nat.mod_eq_of_lt h
theorem g_and {a b c : Nat} (ha : a < 2 ^ 64) (hb : b < 2 ^ 64) (hc : a &&& b = c) : lN a &&& lN b = lN c := by
  subst hc
  have h : UInt64.ofNat a &&& UInt64.ofNat b = UInt64.ofNat (a &&& b) := UInt64.toNat_inj.mp (by rw [UInt64.toNat_and, u_tn ha, u_tn hb, u_tn (Nat.and_lt_two_pow a hb)])
  have h2 := congrArg UInt64.toInt64 h
  exact h2
theorem g_and1 {a : Nat} (ha : a < 2 ^ 64) : lN a &&& 1 = lN (a % 2) := g_and (b := 1) ha (by decide) (Nat.and_two_pow_sub_one_eq_mod a 1)
theorem g_mask {a s p : Nat} (hp : 2 ^ s = p) (hs : s < 64) (ha : a < 2 ^ 64) : lN a &&& lN (p - 1) = lN (a % p) := by
  subst hp
  have := Nat.pow_lt_pow_right (show 1 < 2 by decide) hs
  exact g_and ha (by omega) (Nat.and_two_pow_sub_one_eq_mod a s)
theorem g_or {k p a b : Nat} (hp : 2 ^ k = p) (ha : a < p) (h : b * p + a < 2 ^ 64) : lN (b * p) ||| lN a = lN (b * p + a) := by
  subst hp
  have h1 : b * 2 ^ k ||| a = b * 2 ^ k + a := by rw [← Nat.shiftLeft_eq, Nat.shiftLeft_add_eq_or_of_lt ha]
  have h3 : UInt64.ofNat (b * 2 ^ k) ||| UInt64.ofNat a = UInt64.ofNat (b * 2 ^ k + a) := UInt64.toNat_inj.mp (by rw [UInt64.toNat_or, u_tn (by omega), u_tn (by omega), u_tn h, h1])
  have h2 := congrArg UInt64.toInt64 h3
  exact h2
theorem g_or' {k p a b : Nat} (hp : 2 ^ k = p) (ha : a < p) (h : a + b * p < 2 ^ 64) : lN a ||| lN (b * p) = lN (a + b * p) := by
  rw [Int64.or_comm, g_or hp ha (by omega), Nat.add_comm]
theorem g_ushr {a k p : Nat} {y : UInt64} (hy : y = UInt64.ofNat k) (hk : k < 64) (hp : 2 ^ k = p) (ha : a < 2 ^ 64) : ((lN a).toUInt64 >>> y).toInt64 = lN (a / p) := by
  subst hy hp
  have h : UInt64.ofNat a >>> UInt64.ofNat k = UInt64.ofNat (a / 2 ^ k) := UInt64.toNat_inj.mp (by rw [UInt64.toNat_shiftRight, u_tn ha, u_tn (by omega), u_tn (Nat.lt_of_le_of_lt (Nat.div_le_self _ _) ha), Nat.mod_eq_of_lt hk, Nat.shiftRight_eq_div_pow])
  have h2 := congrArg UInt64.toInt64 h
  exact h2
theorem g_shl {a k p : Nat} {y : Int64} (hy : y.toBitVec.smod 64 = BitVec.ofNat 64 k) (hk : k < 64) (hp : 2 ^ k = p) (ha : a < 2 ^ 64) : lN a <<< y = lN (a * p) := by
  subst hp
  apply Int64.toBitVec_inj.mp
  rw [Int64.toBitVec_shiftLeft, hy]
  apply BitVec.eq_of_toNat_eq
  have hb : (lN a).toBitVec.toNat = a := Nat.mod_eq_of_lt ha
  have hk' : (BitVec.ofNat 64 k).toNat = k := Nat.mod_eq_of_lt (by omega)
  have h : ((lN a).toBitVec <<< BitVec.ofNat 64 k).toNat = (a * 2 ^ k) % 2 ^ 64 := by simp only [BitVec.shiftLeft_eq', BitVec.toNat_shiftLeft, hb, hk', Nat.shiftLeft_eq]
  exact h
/-! ===== Int64 as an unsigned number: uN x ===== -/
def uN (x : Int64) : Nat := x.toUInt64.toNat
theorem uN_lt (x : Int64) : uN x < 18446744073709551616 := x.toUInt64.toNat_lt
theorem uN_inj {x y : Int64} (h : uN x = uN y) : x = y := congrArg UInt64.toInt64 (UInt64.toNat_inj.mp h)
theorem uN_add (x y : Int64) : uN (x + y) = (uN x + uN y) % 18446744073709551616 := by
  show (x.toUInt64 + y.toUInt64).toNat = _
  exact UInt64.toNat_add _ _
theorem uN_mul (x y : Int64) : uN (x * y) = (uN x * uN y) % 18446744073709551616 := by
  show (x.toUInt64 * y.toUInt64).toNat = _
  exact UInt64.toNat_mul _ _
theorem uN_shl (x : Int64) : uN (x <<< ((1 : Int32).toInt64 &&& 63)) = (2 * uN x) % 18446744073709551616 := by
  have h : (((1 : Int32).toInt64 &&& 63).toBitVec.smod 64).toNat = 1 := by decide
  show (x.toBitVec <<< (((1 : Int32).toInt64 &&& 63).toBitVec.smod 64).toNat).toNat = _
  rw [h, BitVec.toNat_shiftLeft, Nat.shiftLeft_eq, Nat.mul_comm]
  rfl
theorem uN_shr (x : Int64) (s : UInt64) : uN (x.toUInt64 >>> s).toInt64 = uN x / 2 ^ (s.toNat % 64) := by
  show (x.toUInt64 >>> s).toNat = _
  rw [UInt64.toNat_shiftRight, Nat.shiftRight_eq_div_pow]
  rfl
theorem uN_s32 (x : Int64) : uN (x.toUInt64 >>> ((32 : Int32).toInt64.toUInt64 &&& Int64.toUInt64 63)).toInt64 = uN x / 4294967296 := by
  have h : ((32 : Int32).toInt64.toUInt64 &&& Int64.toUInt64 63).toNat % 64 = 32 := by decide
  rw [uN_shr, h]
theorem uN_s63 (x : Int64) : uN (x.toUInt64 >>> ((63 : Int32).toInt64.toUInt64 &&& Int64.toUInt64 63)).toInt64 = uN x / 9223372036854775808 := by
  have h : ((63 : Int32).toInt64.toUInt64 &&& Int64.toUInt64 63).toNat % 64 = 63 := by decide
  rw [uN_shr, h]
theorem uN_lo (x : Int64) : uN (x &&& 4294967295) = uN x % 4294967296 := by
  show (x.toUInt64 &&& Int64.toUInt64 4294967295).toNat = _
  rw [UInt64.toNat_and]
  exact Nat.and_two_pow_sub_one_eq_mod _ 32
theorem uN_bit (x : Int64) : (x &&& 1) = 0 ↔ uN x % 2 = 0 := by
  have h : uN (x &&& 1) = uN x % 2 := by
    show (x.toUInt64 &&& Int64.toUInt64 1).toNat = _
    rw [UInt64.toNat_and]
    exact Nat.and_two_pow_sub_one_eq_mod _ 1
  rw [← h]
  exact ⟨fun z => by rw [z]; rfl, fun z => uN_inj (z.trans rfl)⟩
theorem uN_or {x y : Int64} (hy : uN y < 2) : uN ((x <<< ((1 : Int32).toInt64 &&& 63)) ||| y) = (2 * uN x) % 18446744073709551616 + uN y := by
  have h1 : uN ((x <<< ((1 : Int32).toInt64 &&& 63)) ||| y) = uN (x <<< ((1 : Int32).toInt64 &&& 63)) ||| uN y := UInt64.toNat_or _ _
  have h2 : (2 * uN x) % 18446744073709551616 = 2 ^ 1 * (uN x % 9223372036854775808) := by omega
  rw [h1, uN_shl, h2]
  exact (Nat.two_pow_add_eq_or_of_lt (i := 1) hy _).symm
theorem nat_xor {a : Nat} (h : a < 18446744073709551616) : a ^^^ 2 ^ 63 = (a + 9223372036854775808) % 18446744073709551616 := by
  have h1 : (a ^^^ 2 ^ 63) % 2 ^ 63 = a % 2 ^ 63 := by rw [Nat.xor_mod_two_pow, Nat.mod_self, Nat.xor_zero]
  have h2 : (a ^^^ 2 ^ 63) / 2 ^ 63 = (a / 2 ^ 63) ^^^ 1 := by rw [Nat.xor_div_two_pow, Nat.div_self (Nat.two_pow_pos 63)]
  have h3 : a / 2 ^ 63 = 0 ∨ a / 2 ^ 63 = 1 := by omega
  generalize a ^^^ 2 ^ 63 = t at h1 h2
  rcases h3 with h3 | h3
  · rw [h3] at h2
    have h2 : t / 2 ^ 63 = 1 := h2
    omega
  · rw [h3] at h2
    have h2 : t / 2 ^ 63 = 0 := h2
    omega
theorem uN_xor (x : Int64) : uN (x ^^^ (-9223372036854775808)) = (uN x + 9223372036854775808) % 18446744073709551616 := by
  rw [← nat_xor (uN_lt x)]
  exact UInt64.toNat_xor _ _
theorem uN_int (x : Int64) : x.toInt = if 2 * uN x < 18446744073709551616 then (uN x : Int) else (uN x : Int) - 18446744073709551616 := BitVec.toInt_eq_toNat_cond _
theorem uN_le (x y : Int64) : (x ^^^ (-9223372036854775808)) ≤ (y ^^^ (-9223372036854775808)) ↔ uN x ≤ uN y := by
  have hx := uN_lt x
  have hy := uN_lt y
  rw [Int64.le_iff_toInt_le, uN_int, uN_int, uN_xor, uN_xor]
  omega
theorem uN_sk (x : Int64) {k : Nat} (hk : k < 64) : uN (x.toUInt64 >>> ((nI k).toInt64.toUInt64 &&& Int64.toUInt64 63)).toInt64 = uN x / 2 ^ k := by
  have h : ((nI k).toInt64.toUInt64 &&& Int64.toUInt64 63).toNat % 64 = k := by
    rw [nI_l (by omega), UInt64.toNat_and]
    have e : (lN k).toUInt64.toNat = k % 2 ^ 64 := rfl
    have e2 : (Int64.toUInt64 63).toNat = 2 ^ 6 - 1 := by decide
    rw [e, e2, Nat.and_two_pow_sub_one_eq_mod]
    omega
  rw [uN_shr, h]
/-! ===== unsigned comparison by xor with the least ===== -/
theorem lN_bv (n : Nat) : (lN n).toBitVec = BitVec.ofNat 64 n := rfl
theorem lN_nat {n : Nat} (h : n < 2 ^ 64) : (lN n).toBitVec.toNat = n := by rw [lN_bv, BitVec.toNat_ofNat]; exact Nat.mod_eq_of_lt h
theorem lN_xor (a b : Nat) : lN a ^^^ lN b = lN (a ^^^ b) := by
  apply Int64.toBitVec_inj.mp; rw [Int64.toBitVec_xor, lN_bv, lN_bv, lN_bv]; apply BitVec.eq_of_getLsbD_eq; intro i hi; simp [BitVec.getLsbD_ofNat, Nat.testBit_xor, hi]
theorem lN_ti {m : Nat} (h : m < 2 ^ 64) : (lN m).toInt = if m < 2 ^ 63 then (m : Int) else (m : Int) - 2 ^ 64 := by
  have c := BitVec.toInt_eq_toNat_cond (lN m).toBitVec
  rw [lN_nat h] at c
  show (lN m).toBitVec.toInt = _
  rw [c]
  split <;> split <;> omega
theorem xor63 {x : Nat} (h : x < 2 ^ 63) : x ^^^ 2 ^ 63 = 2 ^ 63 + x := by
  apply Nat.eq_of_testBit_eq
  intro i
  rw [Nat.testBit_xor, Nat.testBit_two_pow]
  rcases Nat.lt_trichotomy i 63 with z | z | z
  · rw [Nat.testBit_two_pow_add_gt z, decide_eq_false (by omega)]; simp
  · subst z; rw [Nat.testBit_two_pow_add_eq]; simp
  · have hp : 2 ^ 64 ≤ 2 ^ i := Nat.pow_le_pow_right (by decide) z
    rw [Nat.testBit_lt_two_pow (show x < 2 ^ i by omega), Nat.testBit_lt_two_pow (show 2 ^ 63 + x < 2 ^ i by omega), decide_eq_false (by omega)]; rfl
theorem xorS {a : Nat} (h : a < 2 ^ 64) : (lN a ^^^ (-9223372036854775808)).toInt = (a : Int) - 2 ^ 63 := by
  rw [show (-9223372036854775808 : Int64) = lN (2 ^ 63) from by decide +kernel, lN_xor]
  rcases Nat.lt_or_ge a (2 ^ 63) with z | z
  · rw [xor63 z, lN_ti (by omega), if_neg (by omega)]; omega
  · obtain ⟨x, rfl⟩ : ∃ x, a = 2 ^ 63 + x := ⟨a - 2 ^ 63, by omega⟩
    rw [← xor63 (by omega), Nat.xor_assoc, Nat.xor_self, Nat.xor_zero, lN_ti (by omega), if_pos (by omega), xor63 (by omega)]; omega
theorem ultL {a b : Nat} (ha : a < 2 ^ 64) (hb : b < 2 ^ 64) : ((lN b ^^^ (-9223372036854775808)) ≤ (lN a ^^^ (-9223372036854775808))) ↔ b ≤ a := by
  rw [Int64.le_iff_toInt_le, xorS ha, xorS hb]; omega
end
section
/-! A pure machine beside the real one: values are the machine's, but a reference names a PLACE in a list of cells; 'ad' says at which address a place lies. Here: values, locals. -/
abbrev zC : Type := (Nat × vp_A) ⊕ (Nat × List Value)
abbrev zH : Type := List zC
abbrev zL : Type := List (Nat × Value)
def tv (ad : Nat → Nat) (v : Value) : Value := match v with
  | .ref k => .ref (ad k)
  | w => w
theorem tv_cat (ad : Nat → Nat) (v : Value) : (tv ad v).category = v.category := by cases v <;> rfl
def tl (ad : Nat → Nat) (lv : zL) : List (Nat × Value) := lv.map (fun q => (q.1, tv ad q.2))
def zget (lv : zL) (i : Nat) : Option Value := (lv.find? (fun q => q.1 == i)).map (fun q => q.2)
def zdrop1 (i : Nat) (lv : zL) : zL := lv.filter (fun q => !(q.1 == i) && !(q.1 + 1 == i && q.2.category == 2))
def zdrop2 (i : Nat) (lv : zL) : zL := lv.filter (fun q => !(q.1 == i) && (!(q.1 == i + 1) && !(q.1 + 1 == i && q.2.category == 2)))
theorem zget_mem {lv : zL} {i : Nat} {v : Value} (h : zget lv i = some v) : (i, v) ∈ lv := by
  unfold zget at h
  cases hf : lv.find? (fun q => q.1 == i) with
  | none => rw [hf] at h; cases h
  | some q =>
    rw [hf] at h
    cases h
    have h1 : q.1 = i := by simpa using List.find?_some hf
    have h2 := List.mem_of_find?_eq_some hf
    rw [← h1]
    exact h2
theorem tl_mem {ad : Nat → Nat} {lv : zL} {i : Nat} {v : Value} (h : (i, v) ∈ lv) : (i, tv ad v) ∈ tl ad lv := List.mem_map.mpr ⟨(i, v), h, rfl⟩
theorem zget_at {ad : Nat → Nat} {ls : Array Slot} {nL : Nat} {lv : zL} {i : Nat} {v : Value} (hl : lv_has ls nL (tl ad lv)) (h : zget lv i = some v) : ls[i]? = some (.val (tv ad v)) := hl.2.2 (i, tv ad v) (tl_mem (zget_mem h))
theorem zget_ix (ad : Nat → Nat) {lv : zL} {i : Nat} {v : Value} (h : zget lv i = some v) : ∃ j : Nat, (tl ad lv)[j]? = some (i, tv ad v) := List.getElem?_of_mem (tl_mem (zget_mem h))
theorem tl_zdrop1 (ad : Nat → Nat) (i : Nat) (v : Value) (lv : zL) {w : Value} (hw : tv ad v = w) : (i, w) :: (tl ad lv).filter (fun q => !(q.1 == i) && !(q.1 + 1 == i && q.2.category == 2)) = tl ad ((i, v) :: zdrop1 i lv) := by
  subst hw
  simp only [tl, zdrop1, List.filter_map, List.map_cons, Function.comp_def, tv_cat]
theorem tl_zdrop2 (ad : Nat → Nat) (i : Nat) (v : Value) (lv : zL) {w : Value} (hw : tv ad v = w) : (i, w) :: (tl ad lv).filter (fun q => !(q.1 == i) && (!(q.1 == i + 1) && !(q.1 + 1 == i && q.2.category == 2))) = tl ad ((i, v) :: zdrop2 i lv) := by
  subst hw
  simp only [tl, zdrop2, List.filter_map, List.map_cons, Function.comp_def, tv_cat]
theorem tl_args (ad : Nat → Nat) : ∀ (vs : List Value) (i : Nat), lv_args i (vs.map (tv ad)) = tl ad (lv_args i vs)
  | [], _ => rfl
  | v :: vs, i => by
    show (i, tv ad v) :: lv_args (if (tv ad v).category = 2 then i + 2 else i + 1) (vs.map (tv ad)) = (i, tv ad v) :: tl ad (lv_args (if v.category = 2 then i + 2 else i + 1) vs)
    rw [tv_cat, tl_args ad vs]
theorem tv_sum (ad : Nat → Nat) (st : List Value) : ((st.map (tv ad)).map fun v => v.category).sum = (st.map fun v => v.category).sum := by
  rw [List.map_map]
  congr 1
  exact List.map_congr_left (fun v _ => tv_cat ad v)
theorem lg_sl_len (ad : Nat → Nat) : ∀ vs : List Value, (lg_sl (vs.map (tv ad))).length = (vs.map fun v => v.category).sum
  | [] => rfl
  | v :: vs => by
    have ih := lg_sl_len ad vs
    unfold lg_sl at ih ⊢
    rw [List.map_cons, List.flatMap_cons, List.length_append, ih, List.map_cons, List.sum_cons, tv_cat]
    rcases lv_cat v with h | h <;> simp [h]
/-! cells and worlds -/
def tA (ad : Nat → Nat) (x : vp_A) : vp_A := (x.1, match x.2 with
  | .inr (.inr (.inr (.inr f))) => .inr (.inr (.inr (.inr (fun i => (f i).map ad))))
  | y => y)
def tc (ad : Nat → Nat) (cA : Nat → ClassId) (x : zC) : va_E := match x with
  | .inl a => .inl (cA a.1, tA ad a.2)
  | .inr o => .inr (o.1, o.2.map (tv ad))
def wd (ad : Nat → Nat) (cA : Nat → ClassId) (h : zH) : va_W := h.mapIdx (fun k c => (ad k, tc ad cA c))
theorem wd_get {ad : Nat → Nat} {cA : Nat → ClassId} {h : zH} {k : Nat} {c : zC} (hk : h[k]? = some c) : (wd ad cA h)[k]? = some (ad k, tc ad cA c) := by
  unfold wd
  rw [List.getElem?_mapIdx, hk]
  rfl
theorem wd_set (ad : Nat → Nat) (cA : Nat → ClassId) (h : zH) (k : Nat) (c : zC) : (wd ad cA h).set k (ad k, tc ad cA c) = wd ad cA (h.set k c) := by
  apply List.ext_getElem?
  intro i
  unfold wd
  rw [List.getElem?_set, List.getElem?_mapIdx, List.getElem?_mapIdx, List.getElem?_set, List.length_mapIdx]
  by_cases hi : k = i
  · subst hi
    by_cases hl : k < h.length
    · simp [hl]
    · simp [hl]
  · simp [hi]
theorem wd_len (ad : Nat → Nat) (cA : Nat → ClassId) (h : zH) : (wd ad cA h).length = h.length := by unfold wd; rw [List.length_mapIdx]
end
section
/-- a switch's offset -/
def zsw (d lo hi : Int) (offs : Array Int) (x : Int) : Int := if x < lo ∨ hi < x then d else (offs[(x - lo).toNat]?).getD d
/-- what a table of instructions promises of each: its length, its stores within the locals, its targets not negative -/
def zok (nL pc : Nat) (i : Instr) (n : Nat) : Bool := match i with
  | .iconst a => n == 1
  | .bipush a => n == 2
  | .sipush a => n == 3
  | .lconst a => n == 1
  | .iload_n a => n == 1
  | .iload a => n == 2
  | .lload_n a => n == 1
  | .lload a => n == 2
  | .aload_n a => n == 1
  | .aload a => n == 2
  | .istore_n a => n == 1 && decide ((a : Nat) < nL)
  | .istore a => n == 2 && decide (a < nL)
  | .lstore_n a => n == 1 && decide ((a : Nat) + 1 < nL)
  | .lstore a => n == 2 && decide (a + 1 < nL)
  | .astore_n a => n == 1 && decide ((a : Nat) < nL)
  | .astore a => n == 2 && decide (a < nL)
  | .iinc a b => n == 3 && decide (a < nL)
  | .iadd => n == 1
  | .isub => n == 1
  | .imul => n == 1
  | .iand => n == 1
  | .ior => n == 1
  | .ixor => n == 1
  | .ishl => n == 1
  | .ishr => n == 1
  | .iushr => n == 1
  | .idiv => n == 1
  | .irem => n == 1
  | .ineg => n == 1
  | .ladd => n == 1
  | .lsub => n == 1
  | .lmul => n == 1
  | .land => n == 1
  | .lor => n == 1
  | .lxor => n == 1
  | .ldiv => n == 1
  | .lrem => n == 1
  | .lneg => n == 1
  | .lshl => n == 1
  | .lshr => n == 1
  | .lushr => n == 1
  | .lcmp => n == 1
  | .i2l => n == 1
  | .l2i => n == 1
  | .dup => n == 1
  | .pop => n == 1
  | .dup_x1 => n == 1
  | .dup2 => n == 1
  | .dup2_x1 => n == 1
  | .pop2 => n == 1
  | .ifCond .eq off => n == 3 && decide (0 ≤ (pc : Int) + off)
  | .if_icmp .eq off => n == 3 && decide (0 ≤ (pc : Int) + off)
  | .ifCond .ne off => n == 3 && decide (0 ≤ (pc : Int) + off)
  | .if_icmp .ne off => n == 3 && decide (0 ≤ (pc : Int) + off)
  | .ifCond .lt off => n == 3 && decide (0 ≤ (pc : Int) + off)
  | .if_icmp .lt off => n == 3 && decide (0 ≤ (pc : Int) + off)
  | .ifCond .ge off => n == 3 && decide (0 ≤ (pc : Int) + off)
  | .if_icmp .ge off => n == 3 && decide (0 ≤ (pc : Int) + off)
  | .ifCond .gt off => n == 3 && decide (0 ≤ (pc : Int) + off)
  | .if_icmp .gt off => n == 3 && decide (0 ≤ (pc : Int) + off)
  | .ifCond .le off => n == 3 && decide (0 ≤ (pc : Int) + off)
  | .if_icmp .le off => n == 3 && decide (0 ≤ (pc : Int) + off)
  | .goto off => n == 3 && decide (0 ≤ (pc : Int) + off)
  | .tableswitch d lo hi offs => decide (0 ≤ (pc : Int) + d) && decide (offs.size = (hi - lo + 1).toNat) && offs.all (fun o => decide (0 ≤ (pc : Int) + o))
  | .lookupswitch d ps => decide (0 ≤ (pc : Int) + d) && (ps.toList.zip (ps.toList.drop 1)).all (fun (a, next) => a.1 < next.1) && ps.toList.all (fun o => decide (0 ≤ (pc : Int) + o.2))
  | .getfield _ => n == 3
  | .putfield _ => n == 3
  | .getstatic _ => n == 3
  | .ldc _ => n == 2
  | .ldc2_w _ => n == 3
  | .iaload => n == 1
  | .laload => n == 1
  | .baload => n == 1
  | .aaload => n == 1
  | .iastore => n == 1
  | .lastore => n == 1
  | .bastore => n == 1
  | .aastore => n == 1
  | .arraylength => n == 1
  | .invokevirtual _ => n == 3
  | .invokestatic _ => n == 3
  | .ireturn => n == 1
  | .lreturn => n == 1
  | .areturn => n == 1
  | .return_ => n == 1
  | _ => true
/-- an instruction that touches neither heap nor tables: the next pc, locals, stack -/
def z1 (pc : Nat) (i : Instr) (lv : zL) (st : List Value) : Option (Nat × zL × List Value) := match i with
  | .iconst a => some (pc + 1, lv, .int (Int32.ofInt a) :: st)
  | .bipush a => some (pc + 2, lv, .int (Int8.ofInt a).toInt32 :: st)
  | .sipush a => some (pc + 3, lv, .int (Int16.ofInt a).toInt32 :: st)
  | .lconst a => some (pc + 1, lv, .long (Int64.ofNat (a : Nat)) :: st)
  | .iload_n a => (match zget lv a with | some (.int x) => some (pc + 1, lv, .int x :: st) | _ => none)
  | .iload a => (match zget lv a with | some (.int x) => some (pc + 2, lv, .int x :: st) | _ => none)
  | .lload_n a => (match zget lv a with | some (.long x) => some (pc + 1, lv, .long x :: st) | _ => none)
  | .lload a => (match zget lv a with | some (.long x) => some (pc + 2, lv, .long x :: st) | _ => none)
  | .aload_n a => (match zget lv a with | some (.ref x) => some (pc + 1, lv, .ref x :: st) | _ => none)
  | .aload a => (match zget lv a with | some (.ref x) => some (pc + 2, lv, .ref x :: st) | _ => none)
  | .istore_n a => (match st with | .int x :: r => some (pc + 1, (a.val, .int x) :: zdrop1 a lv, r) | _ => none)
  | .istore a => (match st with | .int x :: r => some (pc + 2, (a, .int x) :: zdrop1 a lv, r) | _ => none)
  | .lstore_n a => (match st with | .long x :: r => some (pc + 1, (a.val, .long x) :: zdrop2 a lv, r) | _ => none)
  | .lstore a => (match st with | .long x :: r => some (pc + 2, (a, .long x) :: zdrop2 a lv, r) | _ => none)
  | .astore_n a => (match st with | .ref x :: r => some (pc + 1, (a.val, .ref x) :: zdrop1 a lv, r) | _ => none)
  | .astore a => (match st with | .ref x :: r => some (pc + 2, (a, .ref x) :: zdrop1 a lv, r) | _ => none)
  | .iinc a b => (match zget lv a with | some (.int x) => some (pc + 3, (a, .int (x + Int32.ofInt b)) :: zdrop1 a lv, st) | _ => none)
  | .iadd => (match st with | .int y :: .int x :: r => some (pc + 1, lv, .int (x + y) :: r) | _ => none)
  | .isub => (match st with | .int y :: .int x :: r => some (pc + 1, lv, .int (x - y) :: r) | _ => none)
  | .imul => (match st with | .int y :: .int x :: r => some (pc + 1, lv, .int (x * y) :: r) | _ => none)
  | .iand => (match st with | .int y :: .int x :: r => some (pc + 1, lv, .int (x &&& y) :: r) | _ => none)
  | .ior => (match st with | .int y :: .int x :: r => some (pc + 1, lv, .int (x ||| y) :: r) | _ => none)
  | .ixor => (match st with | .int y :: .int x :: r => some (pc + 1, lv, .int (x ^^^ y) :: r) | _ => none)
  | .ishl => (match st with | .int y :: .int x :: r => some (pc + 1, lv, .int (x <<< (y &&& 31)) :: r) | _ => none)
  | .ishr => (match st with | .int y :: .int x :: r => some (pc + 1, lv, .int (x >>> (y &&& 31)) :: r) | _ => none)
  | .iushr => (match st with | .int y :: .int x :: r => some (pc + 1, lv, .int ((x.toUInt32 >>> (y.toUInt32 &&& Int32.toUInt32 31)).toInt32) :: r) | _ => none)
  | .idiv => (match st with | .int y :: .int x :: r => if y = 0 then none else some (pc + 1, lv, .int (x / y) :: r) | _ => none)
  | .irem => (match st with | .int y :: .int x :: r => if y = 0 then none else some (pc + 1, lv, .int (x - x / y * y) :: r) | _ => none)
  | .ineg => (match st with | .int x :: r => some (pc + 1, lv, .int (-x) :: r) | _ => none)
  | .ladd => (match st with | .long y :: .long x :: r => some (pc + 1, lv, .long (x + y) :: r) | _ => none)
  | .lsub => (match st with | .long y :: .long x :: r => some (pc + 1, lv, .long (x - y) :: r) | _ => none)
  | .lmul => (match st with | .long y :: .long x :: r => some (pc + 1, lv, .long (x * y) :: r) | _ => none)
  | .land => (match st with | .long y :: .long x :: r => some (pc + 1, lv, .long (x &&& y) :: r) | _ => none)
  | .lor => (match st with | .long y :: .long x :: r => some (pc + 1, lv, .long (x ||| y) :: r) | _ => none)
  | .lxor => (match st with | .long y :: .long x :: r => some (pc + 1, lv, .long (x ^^^ y) :: r) | _ => none)
  | .ldiv => (match st with | .long y :: .long x :: r => if y = 0 then none else some (pc + 1, lv, .long (x / y) :: r) | _ => none)
  | .lrem => (match st with | .long y :: .long x :: r => if y = 0 then none else some (pc + 1, lv, .long (x - x / y * y) :: r) | _ => none)
  | .lneg => (match st with | .long x :: r => some (pc + 1, lv, .long (-x) :: r) | _ => none)
  | .lshl => (match st with | .int y :: .long x :: r => some (pc + 1, lv, .long (x <<< (y.toInt64 &&& 63)) :: r) | _ => none)
  | .lshr => (match st with | .int y :: .long x :: r => some (pc + 1, lv, .long (x >>> (y.toInt64 &&& 63)) :: r) | _ => none)
  | .lushr => (match st with | .int y :: .long x :: r => some (pc + 1, lv, .long ((x.toUInt64 >>> (y.toInt64.toUInt64 &&& Int64.toUInt64 63)).toInt64) :: r) | _ => none)
  | .lcmp => (match st with | .long y :: .long x :: r => some (pc + 1, lv, .int (lg_cmp x y) :: r) | _ => none)
  | .i2l => (match st with | .int x :: r => some (pc + 1, lv, .long x.toInt64 :: r) | _ => none)
  | .l2i => (match st with | .long x :: r => some (pc + 1, lv, .int x.toInt32 :: r) | _ => none)
  | .dup => (match st with | v :: r => if v.category = 1 then some (pc + 1, lv, v :: v :: r) else none | _ => none)
  | .pop => (match st with | v :: r => if v.category = 1 then some (pc + 1, lv, r) else none | _ => none)
  | .dup_x1 => (match st with | v :: w :: r => if v.category = 1 ∧ w.category = 1 then some (pc + 1, lv, v :: w :: v :: r) else none | _ => none)
  | .dup2 => (match st with | .int v :: .ref w :: r => some (pc + 1, lv, .int v :: .ref w :: .int v :: .ref w :: r) | .long v :: r => some (pc + 1, lv, .long v :: .long v :: r) | _ => none)
  | .dup2_x1 => (match st with | .long v :: w :: r => if w.category = 1 then some (pc + 1, lv, .long v :: w :: .long v :: r) else none | _ => none)
  | .pop2 => (match st with | .long v :: r => some (pc + 1, lv, r) | _ => none)
  | .ifCond .eq off => (match st with | .int x :: r => some (if x = 0 then ((pc : Int) + off).toNat else pc + 3, lv, r) | _ => none)
  | .if_icmp .eq off => (match st with | .int y :: .int x :: r => some (if x = y then ((pc : Int) + off).toNat else pc + 3, lv, r) | _ => none)
  | .ifCond .ne off => (match st with | .int x :: r => some (if ¬ x = 0 then ((pc : Int) + off).toNat else pc + 3, lv, r) | _ => none)
  | .if_icmp .ne off => (match st with | .int y :: .int x :: r => some (if ¬ x = y then ((pc : Int) + off).toNat else pc + 3, lv, r) | _ => none)
  | .ifCond .lt off => (match st with | .int x :: r => some (if x < 0 then ((pc : Int) + off).toNat else pc + 3, lv, r) | _ => none)
  | .if_icmp .lt off => (match st with | .int y :: .int x :: r => some (if x < y then ((pc : Int) + off).toNat else pc + 3, lv, r) | _ => none)
  | .ifCond .ge off => (match st with | .int x :: r => some (if 0 ≤ x then ((pc : Int) + off).toNat else pc + 3, lv, r) | _ => none)
  | .if_icmp .ge off => (match st with | .int y :: .int x :: r => some (if y ≤ x then ((pc : Int) + off).toNat else pc + 3, lv, r) | _ => none)
  | .ifCond .gt off => (match st with | .int x :: r => some (if 0 < x then ((pc : Int) + off).toNat else pc + 3, lv, r) | _ => none)
  | .if_icmp .gt off => (match st with | .int y :: .int x :: r => some (if y < x then ((pc : Int) + off).toNat else pc + 3, lv, r) | _ => none)
  | .ifCond .le off => (match st with | .int x :: r => some (if x ≤ 0 then ((pc : Int) + off).toNat else pc + 3, lv, r) | _ => none)
  | .if_icmp .le off => (match st with | .int y :: .int x :: r => some (if x ≤ y then ((pc : Int) + off).toNat else pc + 3, lv, r) | _ => none)
  | .goto off => some (((pc : Int) + off).toNat, lv, st)
  | .tableswitch d lo hi offs => (match st with | .int x :: r => some (((pc : Int) + zsw d lo hi offs x.toInt).toNat, lv, r) | _ => none)
  | .lookupswitch d ps => (match st with | .int x :: r => some (((pc : Int) + Op.lookupswitch.offset ps.toList d x.toInt).toNat, lv, r) | _ => none)
  | _ => none
section Z1
variable {p : Program} {l : Launch} {e : Env} {R : Room} {s : State} {m : MethodId} {args : Array Value} {below : List Frame} {meth : Method} {c : Code} {H : Heap} {locs : List Loc} {cells slots : Nat} {Q : State → Prop}
variable {cc : ByteArray} {pc : Nat} {ls : Array Slot}
theorem z_tab {rest : List Value} (hx : p.tables.exec = Jvm.exec) (hb : c.code = cc) {d lo hi : Int} {offs : Array Int} {n : Nat} {x : Int32} (hd : decode cc pc = .ok (.tableswitch d lo hi offs, n)) (h0 : 0 ≤ (pc : Int) + d) (hs : offs.size = (hi - lo + 1).toNat) (ha : ∀ (j : Nat) (hj : j < offs.size), 0 ≤ (pc : Int) + offs[j])
    (k : W p l e R s m args below meth c H locs cells slots Q (F0 m (((pc : Int) + zsw d lo hi offs x.toInt).toNat) ls rest)) : W p l e R s m args below meth c H locs cells slots Q (F0 m pc ls (.int x :: rest)) := by
  by_cases h : x.toInt < lo ∨ hi < x.toInt
  · rw [zsw, if_pos h] at k
    exact lv_tableOut hx hb hd h (Int.toNat_of_nonneg h0).symm k
  · rw [zsw, if_neg h] at k
    have h1 : ¬ x.toInt < lo := fun z => h (Or.inl z)
    have h2 : ¬ hi < x.toInt := fun z => h (Or.inr z)
    have hj : (x.toInt - lo).toNat < offs.size := by rw [hs]; omega
    rw [Array.getElem?_eq_getElem hj, Option.getD_some] at k
    exact lv_tableIn hx hb hd h1 h2 (Array.getElem?_eq_getElem hj) (Int.toNat_of_nonneg (ha _ hj)).symm k
theorem z_look {d x : Int} : ∀ (ps : List (Int × Int)), 0 ≤ (pc : Int) + d → (∀ o ∈ ps, 0 ≤ (pc : Int) + o.2) → 0 ≤ (pc : Int) + Op.lookupswitch.offset ps d x
  | [], h, _ => h
  | (a, o) :: ps, h, ha => by
    rw [Op.lookupswitch.offset_cons]
    split
    · exact ha (a, o) List.mem_cons_self
    · exact z_look ps h (fun q hq => ha q (List.mem_cons_of_mem _ hq))
set_option maxHeartbeats 4000000 in
theorem sim1 {ad : Nat → Nat} {nL n : Nat} {i : Instr} {lv lv' : zL} {st st' : List Value} {pc' : Nat} (hx : p.tables.exec = Jvm.exec) (hb : c.code = cc) (hd : decode cc pc = .ok (i, n)) (hz : zok nL pc i n = true) (h1 : z1 pc i lv st = some (pc', lv', st'))
    (hl : lv_has ls nL (tl ad lv)) (k : ∀ ls' : Array Slot, lv_has ls' nL (tl ad lv') → W p l e R s m args below meth c H locs cells slots Q (F0 m pc' ls' (st'.map (tv ad)))) :
    W p l e R s m args below meth c H locs cells slots Q (F0 m pc ls (st.map (tv ad))) := by
  unfold z1 at h1
  split at h1
  · -- .iconst a
    cases h1
    obtain rfl : n = 1 := by simpa [zok] using hz
    exact lv_iconst hx hb hd rfl (k _ hl)
  · -- .bipush a
    cases h1
    obtain rfl : n = 2 := by simpa [zok] using hz
    exact lv_bipush hx hb hd rfl (k _ hl)
  · -- .sipush a
    cases h1
    obtain rfl : n = 3 := by simpa [zok] using hz
    exact lv_sipush hx hb hd rfl (k _ hl)
  · -- .lconst a
    cases h1
    obtain rfl : n = 1 := by simpa [zok] using hz
    exact lv_lconst hx hb hd rfl (k _ hl)
  · -- .iload_n a
    split at h1
    · rename_i x hg
      cases h1
      obtain rfl : n = 1 := by simpa [zok] using hz
      exact lv_iload_n hx hb hd rfl (zget_at hl hg) (k _ hl)
    · cases h1
  · -- .iload a
    split at h1
    · rename_i x hg
      cases h1
      obtain rfl : n = 2 := by simpa [zok] using hz
      exact lv_iload hx hb hd (zget_at hl hg) (k _ hl)
    · cases h1
  · -- .lload_n a
    split at h1
    · rename_i x hg
      cases h1
      obtain rfl : n = 1 := by simpa [zok] using hz
      exact lv_lload_n hx hb hd rfl (zget_at hl hg) (k _ hl)
    · cases h1
  · -- .lload a
    split at h1
    · rename_i x hg
      cases h1
      obtain rfl : n = 2 := by simpa [zok] using hz
      exact lv_lload hx hb hd (zget_at hl hg) (k _ hl)
    · cases h1
  · -- .aload_n a
    split at h1
    · rename_i x hg
      cases h1
      obtain rfl : n = 1 := by simpa [zok] using hz
      exact lv_aload_n hx hb hd rfl (zget_at hl hg) (k _ hl)
    · cases h1
  · -- .aload a
    split at h1
    · rename_i x hg
      cases h1
      obtain rfl : n = 2 := by simpa [zok] using hz
      exact lv_aload hx hb hd (zget_at hl hg) (k _ hl)
    · cases h1
  · -- .istore_n a
    split at h1
    · rename_i x r
      cases h1
      simp only [zok, Bool.and_eq_true, beq_iff_eq, decide_eq_true_eq] at hz
      obtain rfl : n = 1 := hz.1
      exact lv_istore_n hx hb hd rfl hl hz.2 (tl_zdrop1 ad _ (.int _) _ rfl) (fun ls' h => k ls' h)
    · cases h1
  · -- .istore a
    split at h1
    · rename_i x r
      cases h1
      simp only [zok, Bool.and_eq_true, beq_iff_eq, decide_eq_true_eq] at hz
      obtain rfl : n = 2 := hz.1
      exact lv_istore hx hb hd hl hz.2 (tl_zdrop1 ad _ (.int _) _ rfl) (fun ls' h => k ls' h)
    · cases h1
  · -- .lstore_n a
    split at h1
    · rename_i x r
      cases h1
      simp only [zok, Bool.and_eq_true, beq_iff_eq, decide_eq_true_eq] at hz
      obtain rfl : n = 1 := hz.1
      exact lv_lstore_n hx hb hd rfl hl hz.2 (tl_zdrop2 ad _ (.long _) _ rfl) (fun ls' h => k ls' h)
    · cases h1
  · -- .lstore a
    split at h1
    · rename_i x r
      cases h1
      simp only [zok, Bool.and_eq_true, beq_iff_eq, decide_eq_true_eq] at hz
      obtain rfl : n = 2 := hz.1
      exact lv_lstore hx hb hd hl hz.2 (tl_zdrop2 ad _ (.long _) _ rfl) (fun ls' h => k ls' h)
    · cases h1
  · -- .astore_n a
    split at h1
    · rename_i x r
      cases h1
      simp only [zok, Bool.and_eq_true, beq_iff_eq, decide_eq_true_eq] at hz
      obtain rfl : n = 1 := hz.1
      exact lv_astore_n hx hb hd rfl hl hz.2 (tl_zdrop1 ad _ (.ref _) _ rfl) (fun ls' h => k ls' h)
    · cases h1
  · -- .astore a
    split at h1
    · rename_i x r
      cases h1
      simp only [zok, Bool.and_eq_true, beq_iff_eq, decide_eq_true_eq] at hz
      obtain rfl : n = 2 := hz.1
      exact lv_astore hx hb hd hl hz.2 (tl_zdrop1 ad _ (.ref _) _ rfl) (fun ls' h => k ls' h)
    · cases h1
  · -- .iinc a b
    split at h1
    · rename_i x hg
      cases h1
      simp only [zok, Bool.and_eq_true, beq_iff_eq, decide_eq_true_eq] at hz
      obtain rfl : n = 3 := hz.1
      obtain ⟨j, hj⟩ := zget_ix ad hg
      exact lv_iinc hx hb hd hl hj rfl hz.2 (tl_zdrop1 ad _ (.int _) _ rfl) (fun ls' h => k ls' h)
    · cases h1
  · -- .iadd
    split at h1
    · rename_i y x r
      cases h1
      obtain rfl : n = 1 := by simpa [zok] using hz
      exact lv_iadd hx hb hd (k _ hl)
    · cases h1
  · -- .isub
    split at h1
    · rename_i y x r
      cases h1
      obtain rfl : n = 1 := by simpa [zok] using hz
      exact lv_isub hx hb hd (k _ hl)
    · cases h1
  · -- .imul
    split at h1
    · rename_i y x r
      cases h1
      obtain rfl : n = 1 := by simpa [zok] using hz
      exact lv_imul hx hb hd (k _ hl)
    · cases h1
  · -- .iand
    split at h1
    · rename_i y x r
      cases h1
      obtain rfl : n = 1 := by simpa [zok] using hz
      exact lv_iand hx hb hd (k _ hl)
    · cases h1
  · -- .ior
    split at h1
    · rename_i y x r
      cases h1
      obtain rfl : n = 1 := by simpa [zok] using hz
      exact lv_ior hx hb hd (k _ hl)
    · cases h1
  · -- .ixor
    split at h1
    · rename_i y x r
      cases h1
      obtain rfl : n = 1 := by simpa [zok] using hz
      exact lv_ixor hx hb hd (k _ hl)
    · cases h1
  · -- .ishl
    split at h1
    · rename_i y x r
      cases h1
      obtain rfl : n = 1 := by simpa [zok] using hz
      exact lv_ishl hx hb hd (k _ hl)
    · cases h1
  · -- .ishr
    split at h1
    · rename_i y x r
      cases h1
      obtain rfl : n = 1 := by simpa [zok] using hz
      exact lv_ishr hx hb hd (k _ hl)
    · cases h1
  · -- .iushr
    split at h1
    · rename_i y x r
      cases h1
      obtain rfl : n = 1 := by simpa [zok] using hz
      exact lv_iushr hx hb hd rfl (k _ hl)
    · cases h1
  · -- .idiv
    split at h1
    · rename_i y x r
      split at h1
      · cases h1
      · rename_i hy
        cases h1
        obtain rfl : n = 1 := by simpa [zok] using hz
        exact lv_idiv hx hb hd hy (k _ hl)
    · cases h1
  · -- .irem
    split at h1
    · rename_i y x r
      split at h1
      · cases h1
      · rename_i hy
        cases h1
        obtain rfl : n = 1 := by simpa [zok] using hz
        exact lv_irem hx hb hd hy (k _ hl)
    · cases h1
  · -- .ineg
    split at h1
    · rename_i x r
      cases h1
      obtain rfl : n = 1 := by simpa [zok] using hz
      exact lv_ineg hx hb hd (k _ hl)
    · cases h1
  · -- .ladd
    split at h1
    · rename_i y x r
      cases h1
      obtain rfl : n = 1 := by simpa [zok] using hz
      exact lv_ladd hx hb hd (k _ hl)
    · cases h1
  · -- .lsub
    split at h1
    · rename_i y x r
      cases h1
      obtain rfl : n = 1 := by simpa [zok] using hz
      exact lv_lsub hx hb hd (k _ hl)
    · cases h1
  · -- .lmul
    split at h1
    · rename_i y x r
      cases h1
      obtain rfl : n = 1 := by simpa [zok] using hz
      exact lv_lmul hx hb hd (k _ hl)
    · cases h1
  · -- .land
    split at h1
    · rename_i y x r
      cases h1
      obtain rfl : n = 1 := by simpa [zok] using hz
      exact lv_land hx hb hd (k _ hl)
    · cases h1
  · -- .lor
    split at h1
    · rename_i y x r
      cases h1
      obtain rfl : n = 1 := by simpa [zok] using hz
      exact lv_lor hx hb hd (k _ hl)
    · cases h1
  · -- .lxor
    split at h1
    · rename_i y x r
      cases h1
      obtain rfl : n = 1 := by simpa [zok] using hz
      exact lv_lxor hx hb hd (k _ hl)
    · cases h1
  · -- .ldiv
    split at h1
    · rename_i y x r
      split at h1
      · cases h1
      · rename_i hy
        cases h1
        obtain rfl : n = 1 := by simpa [zok] using hz
        exact lv_ldiv hx hb hd hy (k _ hl)
    · cases h1
  · -- .lrem
    split at h1
    · rename_i y x r
      split at h1
      · cases h1
      · rename_i hy
        cases h1
        obtain rfl : n = 1 := by simpa [zok] using hz
        exact lv_lrem hx hb hd hy (k _ hl)
    · cases h1
  · -- .lneg
    split at h1
    · rename_i x r
      cases h1
      obtain rfl : n = 1 := by simpa [zok] using hz
      exact lv_lneg hx hb hd (k _ hl)
    · cases h1
  · -- .lshl
    split at h1
    · rename_i y x r
      cases h1
      obtain rfl : n = 1 := by simpa [zok] using hz
      exact lv_lshl hx hb hd rfl (k _ hl)
    · cases h1
  · -- .lshr
    split at h1
    · rename_i y x r
      cases h1
      obtain rfl : n = 1 := by simpa [zok] using hz
      exact lv_lshr hx hb hd rfl (k _ hl)
    · cases h1
  · -- .lushr
    split at h1
    · rename_i y x r
      cases h1
      obtain rfl : n = 1 := by simpa [zok] using hz
      exact lv_lushr hx hb hd rfl (k _ hl)
    · cases h1
  · -- .lcmp
    split at h1
    · rename_i y x r
      cases h1
      obtain rfl : n = 1 := by simpa [zok] using hz
      exact W.lcmp hx hb hd (k _ hl)
    · cases h1
  · -- .i2l
    split at h1
    · rename_i x r
      cases h1
      obtain rfl : n = 1 := by simpa [zok] using hz
      exact lv_i2l hx hb hd rfl (k _ hl)
    · cases h1
  · -- .l2i
    split at h1
    · rename_i x r
      cases h1
      obtain rfl : n = 1 := by simpa [zok] using hz
      exact lv_l2i hx hb hd rfl (k _ hl)
    · cases h1
  · -- .dup
    split at h1
    · rename_i v r
      split at h1
      · rename_i hc
        cases h1
        obtain rfl : n = 1 := by simpa [zok] using hz
        exact lv_dup hx hb hd (by rw [tv_cat]; exact hc) (k _ hl)
      · cases h1
    · cases h1
  · -- .pop
    split at h1
    · rename_i v r
      split at h1
      · rename_i hc
        cases h1
        obtain rfl : n = 1 := by simpa [zok] using hz
        exact lv_pop hx hb hd (by rw [tv_cat]; exact hc) (k _ hl)
      · cases h1
    · cases h1
  · -- .dup_x1
    split at h1
    · rename_i v w r
      split at h1
      · rename_i hc
        cases h1
        obtain rfl : n = 1 := by simpa [zok] using hz
        exact lv_dup_x1 hx hb hd (by rw [tv_cat]; exact hc.1) (by rw [tv_cat]; exact hc.2) (k _ hl)
      · cases h1
    · cases h1
  · -- .dup2
    split at h1
    · rename_i v w r
      cases h1
      obtain rfl : n = 1 := by simpa [zok] using hz
      exact lv_dup2_11 hx hb hd rfl rfl (k _ hl)
    · rename_i v r
      cases h1
      obtain rfl : n = 1 := by simpa [zok] using hz
      exact lv_dup2_2 hx hb hd rfl (k _ hl)
    · cases h1
  · -- .dup2_x1
    split at h1
    · rename_i v w r
      split at h1
      · rename_i hc
        cases h1
        obtain rfl : n = 1 := by simpa [zok] using hz
        exact lv_dup2_x1_2 hx hb hd rfl (by rw [tv_cat]; exact hc) (k _ hl)
      · cases h1
    · cases h1
  · -- .pop2
    split at h1
    · rename_i v r
      cases h1
      obtain rfl : n = 1 := by simpa [zok] using hz
      exact lv_pop2_2 hx hb hd rfl (k _ hl)
    · cases h1
  · -- .ifCond .eq off
    split at h1
    · rename_i x r
      cases h1
      simp only [zok, Bool.and_eq_true, beq_iff_eq, decide_eq_true_eq] at hz
      obtain rfl : n = 3 := hz.1
      refine lv_if_eq hx hb hd (Int.toNat_of_nonneg hz.2).symm (fun hc => ?_) (fun hc => ?_)
      · have q := k _ hl; rw [if_pos hc] at q; exact q
      · have q := k _ hl; rw [if_neg hc] at q; exact q
    · cases h1
  · -- .if_icmp .eq off
    split at h1
    · rename_i y x r
      cases h1
      simp only [zok, Bool.and_eq_true, beq_iff_eq, decide_eq_true_eq] at hz
      obtain rfl : n = 3 := hz.1
      refine lv_icmp_eq hx hb hd (Int.toNat_of_nonneg hz.2).symm (fun hc => ?_) (fun hc => ?_)
      · have q := k _ hl; rw [if_pos hc] at q; exact q
      · have q := k _ hl; rw [if_neg hc] at q; exact q
    · cases h1
  · -- .ifCond .ne off
    split at h1
    · rename_i x r
      cases h1
      simp only [zok, Bool.and_eq_true, beq_iff_eq, decide_eq_true_eq] at hz
      obtain rfl : n = 3 := hz.1
      refine lv_if_ne hx hb hd (Int.toNat_of_nonneg hz.2).symm (fun hc => ?_) (fun hc => ?_)
      · have q := k _ hl; rw [if_pos hc] at q; exact q
      · have q := k _ hl; rw [if_neg (fun z => z hc)] at q; exact q
    · cases h1
  · -- .if_icmp .ne off
    split at h1
    · rename_i y x r
      cases h1
      simp only [zok, Bool.and_eq_true, beq_iff_eq, decide_eq_true_eq] at hz
      obtain rfl : n = 3 := hz.1
      refine lv_icmp_ne hx hb hd (Int.toNat_of_nonneg hz.2).symm (fun hc => ?_) (fun hc => ?_)
      · have q := k _ hl; rw [if_pos hc] at q; exact q
      · have q := k _ hl; rw [if_neg (fun z => z hc)] at q; exact q
    · cases h1
  · -- .ifCond .lt off
    split at h1
    · rename_i x r
      cases h1
      simp only [zok, Bool.and_eq_true, beq_iff_eq, decide_eq_true_eq] at hz
      obtain rfl : n = 3 := hz.1
      refine lv_if_lt hx hb hd (Int.toNat_of_nonneg hz.2).symm (fun hc => ?_) (fun hc => ?_)
      · have q := k _ hl; rw [if_pos hc] at q; exact q
      · have q := k _ hl; rw [if_neg hc] at q; exact q
    · cases h1
  · -- .if_icmp .lt off
    split at h1
    · rename_i y x r
      cases h1
      simp only [zok, Bool.and_eq_true, beq_iff_eq, decide_eq_true_eq] at hz
      obtain rfl : n = 3 := hz.1
      refine lv_icmp_lt hx hb hd (Int.toNat_of_nonneg hz.2).symm (fun hc => ?_) (fun hc => ?_)
      · have q := k _ hl; rw [if_pos hc] at q; exact q
      · have q := k _ hl; rw [if_neg hc] at q; exact q
    · cases h1
  · -- .ifCond .ge off
    split at h1
    · rename_i x r
      cases h1
      simp only [zok, Bool.and_eq_true, beq_iff_eq, decide_eq_true_eq] at hz
      obtain rfl : n = 3 := hz.1
      refine lv_if_ge hx hb hd (Int.toNat_of_nonneg hz.2).symm (fun hc => ?_) (fun hc => ?_)
      · have q := k _ hl; rw [if_pos hc] at q; exact q
      · have q := k _ hl; rw [if_neg hc] at q; exact q
    · cases h1
  · -- .if_icmp .ge off
    split at h1
    · rename_i y x r
      cases h1
      simp only [zok, Bool.and_eq_true, beq_iff_eq, decide_eq_true_eq] at hz
      obtain rfl : n = 3 := hz.1
      refine lv_icmp_ge hx hb hd (Int.toNat_of_nonneg hz.2).symm (fun hc => ?_) (fun hc => ?_)
      · have q := k _ hl; rw [if_pos hc] at q; exact q
      · have q := k _ hl; rw [if_neg hc] at q; exact q
    · cases h1
  · -- .ifCond .gt off
    split at h1
    · rename_i x r
      cases h1
      simp only [zok, Bool.and_eq_true, beq_iff_eq, decide_eq_true_eq] at hz
      obtain rfl : n = 3 := hz.1
      refine lv_if_gt hx hb hd (Int.toNat_of_nonneg hz.2).symm (fun hc => ?_) (fun hc => ?_)
      · have q := k _ hl; rw [if_pos hc] at q; exact q
      · have q := k _ hl; rw [if_neg hc] at q; exact q
    · cases h1
  · -- .if_icmp .gt off
    split at h1
    · rename_i y x r
      cases h1
      simp only [zok, Bool.and_eq_true, beq_iff_eq, decide_eq_true_eq] at hz
      obtain rfl : n = 3 := hz.1
      refine lv_icmp_gt hx hb hd (Int.toNat_of_nonneg hz.2).symm (fun hc => ?_) (fun hc => ?_)
      · have q := k _ hl; rw [if_pos hc] at q; exact q
      · have q := k _ hl; rw [if_neg hc] at q; exact q
    · cases h1
  · -- .ifCond .le off
    split at h1
    · rename_i x r
      cases h1
      simp only [zok, Bool.and_eq_true, beq_iff_eq, decide_eq_true_eq] at hz
      obtain rfl : n = 3 := hz.1
      refine lv_if_le hx hb hd (Int.toNat_of_nonneg hz.2).symm (fun hc => ?_) (fun hc => ?_)
      · have q := k _ hl; rw [if_pos hc] at q; exact q
      · have q := k _ hl; rw [if_neg hc] at q; exact q
    · cases h1
  · -- .if_icmp .le off
    split at h1
    · rename_i y x r
      cases h1
      simp only [zok, Bool.and_eq_true, beq_iff_eq, decide_eq_true_eq] at hz
      obtain rfl : n = 3 := hz.1
      refine lv_icmp_le hx hb hd (Int.toNat_of_nonneg hz.2).symm (fun hc => ?_) (fun hc => ?_)
      · have q := k _ hl; rw [if_pos hc] at q; exact q
      · have q := k _ hl; rw [if_neg hc] at q; exact q
    · cases h1
  · -- .goto off
    cases h1
    simp only [zok, Bool.and_eq_true, beq_iff_eq, decide_eq_true_eq] at hz
    obtain rfl : n = 3 := hz.1
    exact lv_goto hx hb hd (Int.toNat_of_nonneg hz.2).symm (k _ hl)
  · -- .tableswitch d lo hi offs
    split at h1
    · rename_i x r
      cases h1
      simp only [zok, Bool.and_eq_true, decide_eq_true_eq, Array.all_eq_true] at hz
      exact z_tab hx hb hd hz.1.1 hz.1.2 (fun j hj => by simpa using hz.2 j hj) (k _ hl)
    · cases h1
  · -- .lookupswitch d ps
    split at h1
    · rename_i x r
      cases h1
      simp only [zok, Bool.and_eq_true, decide_eq_true_eq] at hz
      exact lv_lookup hx hb hd hz.1.2 rfl (Int.toNat_of_nonneg (z_look _ hz.1.1 (fun o ho => by have h9 := List.all_eq_true.mp hz.2 o ho; simpa using h9))).symm (k _ hl)
    · cases h1
  · cases h1
end Z1
end
section
/-! The instructions are those of the code (by the kernel), their lengths and targets are right -/
def ckm (m : ZM) : Bool := (zIns m).all (fun q => decide (decode (zCode m) q.1 = .ok (q.2.1, q.2.2)) && zok (zMl m) q.1 q.2.1 q.2.2)
theorem ck_SR_await : ckm m_SR_await = true := by decide +kernel
theorem ck_Me_waitUntilFree : ckm m_Me_waitUntilFree = true := by decide +kernel
theorem ck_Me_goOn : ckm m_Me_goOn = true := by decide +kernel
theorem ck_SR_time : ckm m_SR_time = true := by decide +kernel
theorem ck_SR_flags : ckm m_SR_flags = true := by decide +kernel
theorem ck_SR_clear : ckm m_SR_clear = true := by decide +kernel
theorem ck_SR_condition : ckm m_SR_condition = true := by decide +kernel
theorem ck_SR_depth : ckm m_SR_depth = true := by decide +kernel
theorem ck_La_control : ckm m_La_control = true := by decide +kernel
theorem ck_SR_control : ckm m_SR_control = true := by decide +kernel
theorem ck_La_operate : ckm m_La_operate = true := by decide +kernel
theorem ck_SR_operate : ckm m_SR_operate = true := by decide +kernel
theorem ck_SR_namesPlace : ckm m_SR_namesPlace = true := by decide +kernel
theorem ck_Me_occupy : ckm m_Me_occupy = true := by decide +kernel
theorem ck_SR_isPossible : ckm m_SR_isPossible = true := by decide +kernel
theorem ck_SR_pushes : ckm m_SR_pushes = true := by decide +kernel
theorem ck_SR_st : ckm m_SR_st = true := by decide +kernel
theorem ck_SR_raise : ckm m_SR_raise = true := by decide +kernel
theorem ck_SR_workOut : ckm m_SR_workOut = true := by decide +kernel
theorem ck_Ar_add : ckm m_Ar_add = true := by decide +kernel
theorem ck_Re_becomeNan : ckm m_Re_becomeNan = true := by decide +kernel
theorem ck_Ar_addInfinite : ckm m_Ar_addInfinite = true := by decide +kernel
theorem ck_Ar_makeInvalid : ckm m_Ar_makeInvalid = true := by decide +kernel
theorem ck_Re_copy : ckm m_Re_copy = true := by decide +kernel
theorem ck_Re_becomeZero : ckm m_Re_becomeZero = true := by decide +kernel
theorem ck_Ex_copy : ckm m_Ex_copy = true := by decide +kernel
theorem ck_Ex_becomeSum : ckm m_Ex_becomeSum = true := by decide +kernel
theorem ck_SR_compareMagnitudes : ckm m_SR_compareMagnitudes = true := by decide +kernel
theorem ck_SR_isBelow : ckm m_SR_isBelow = true := by decide +kernel
theorem ck_Ex_combine : ckm m_Ex_combine = true := by decide +kernel
theorem ck_Ex_lowerPart : ckm m_Ex_lowerPart = true := by decide +kernel
theorem ck_Ex_putOn : ckm m_Ex_putOn = true := by decide +kernel
theorem ck_Ex_takeAway : ckm m_Ex_takeAway = true := by decide +kernel
theorem ck_Ex_normalize : ckm m_Ex_normalize = true := by decide +kernel
theorem ck_Ex_isZero : ckm m_Ex_isZero = true := by decide +kernel
theorem ck_Ro_round : ckm m_Ro_round = true := by decide +kernel
end
section
theorem ck_Ro_roundTo : ckm m_Ro_roundTo = true := by decide +kernel
theorem ck_Ro_goesAway : ckm m_Ro_goesAway = true := by decide +kernel
theorem ck_Ro_staysBelowInfinite : ckm m_Ro_staysBelowInfinite = true := by decide +kernel
theorem ck_Re_becomeFinite : ckm m_Re_becomeFinite = true := by decide +kernel
theorem ck_Re_becomeInfinite : ckm m_Re_becomeInfinite = true := by decide +kernel
theorem ck_Re_negate : ckm m_Re_negate = true := by decide +kernel
theorem ck_Ar_multiply : ckm m_Ar_multiply = true := by decide +kernel
theorem ck_Ex_becomeProduct : ckm m_Ex_becomeProduct = true := by decide +kernel
theorem ck_Ex_multiplyBits : ckm m_Ex_multiplyBits = true := by decide +kernel
theorem ck_Ar_divide : ckm m_Ar_divide = true := by decide +kernel
theorem ck_Ex_becomeQuotient : ckm m_Ex_becomeQuotient = true := by decide +kernel
theorem ck_Ex_fitsInDouble : ckm m_Ex_fitsInDouble = true := by decide +kernel
theorem ck_Ar_root : ckm m_Ar_root = true := by decide +kernel
theorem ck_Ex_becomeRoot : ckm m_Ex_becomeRoot = true := by decide +kernel
theorem ck_Ex_isAbove : ckm m_Ex_isAbove = true := by decide +kernel
theorem ck_Ar_makeWhole : ckm m_Ar_makeWhole = true := by decide +kernel
theorem ck_Re_isWhole : ckm m_Re_isWhole = true := by decide +kernel
theorem ck_Ro_wholeMagnitude : ckm m_Ro_wholeMagnitude = true := by decide +kernel
theorem ck_Re_becomeWhole : ckm m_Re_becomeWhole = true := by decide +kernel
end
section
theorem ck_Ar_scale : ckm m_Ar_scale = true := by decide +kernel
theorem ck_SR_carryOut : ckm m_SR_carryOut = true := by decide +kernel
theorem ck_SR_extract : ckm m_SR_extract = true := by decide +kernel
theorem ck_SR_push : ckm m_SR_push = true := by decide +kernel
theorem ck_SR_exchange : ckm m_SR_exchange = true := by decide +kernel
theorem ck_SR_conditionOf : ckm m_SR_conditionOf = true := by decide +kernel
theorem ck_SR_compareReals : ckm m_SR_compareReals = true := by decide +kernel
theorem ck_La_load : ckm m_La_load = true := by decide +kernel
theorem ck_SR_load : ckm m_SR_load = true := by decide +kernel
theorem ck_SR_isCell : ckm m_SR_isCell = true := by decide +kernel
theorem ck_SR_isForm : ckm m_SR_isForm = true := by decide +kernel
theorem ck_Fo_decode : ckm m_Fo_decode = true := by decide +kernel
theorem ck_Fo_decodeBinary : ckm m_Fo_decodeBinary = true := by decide +kernel
theorem ck_Fo_decodeDecimal : ckm m_Fo_decodeDecimal = true := by decide +kernel
theorem ck_La_store : ckm m_La_store = true := by decide +kernel
theorem ck_SR_store : ckm m_SR_store = true := by decide +kernel
theorem ck_Fo_encode : ckm m_Fo_encode = true := by decide +kernel
theorem ck_Fo_encodeWhole : ckm m_Fo_encodeWhole = true := by decide +kernel
theorem ck_Fo_encodeBinary : ckm m_Fo_encodeBinary = true := by decide +kernel
theorem ck_Fo_binaryImage : ckm m_Fo_binaryImage = true := by decide +kernel
theorem ck_Fo_encodeDecimal : ckm m_Fo_encodeDecimal = true := by decide +kernel
theorem ck_Me_storeWhenFree : ckm m_Me_storeWhenFree = true := by decide +kernel
theorem ck_La_write : ckm m_La_write = true := by decide +kernel
theorem ck_SR_write : ckm m_SR_write = true := by decide +kernel
theorem ck_La_memory : ckm m_La_memory = true := by decide +kernel
end
section
theorem ck_SR_memory : ckm m_SR_memory = true := by decide +kernel
theorem ck_La_pass : ckm m_La_pass = true := by decide +kernel
theorem ck_SR_pass : ckm m_SR_pass = true := by decide +kernel
theorem ck_La_kind : ckm m_La_kind = true := by decide +kernel
theorem ck_SR_kind : ckm m_SR_kind = true := by decide +kernel
theorem ck_SR_isOnStack : ckm m_SR_isOnStack = true := by decide +kernel
theorem ck_La_exponent : ckm m_La_exponent = true := by decide +kernel
theorem ck_SR_exponent : ckm m_SR_exponent = true := by decide +kernel
theorem ck_La_significand : ckm m_La_significand = true := by decide +kernel
theorem ck_SR_significand : ckm m_SR_significand = true := by decide +kernel
theorem ck_Mo_thrown : ckm m_Mo_thrown = true := by decide +kernel
theorem ck_Mo_control : ckm m_Mo_control = true := by decide +kernel
theorem ck_Mo_out : ckm m_Mo_out = true := by decide +kernel
theorem ck_Mo_operate : ckm m_Mo_operate = true := by decide +kernel
theorem ck_Mo_cost : ckm m_Mo_cost = true := by decide +kernel
theorem ck_Mo_begin : ckm m_Mo_begin = true := by decide +kernel
theorem ck_Mo_goOn : ckm m_Mo_goOn = true := by decide +kernel
theorem ck_Mo_refuse : ckm m_Mo_refuse = true := by decide +kernel
theorem ck_Mo_throwing : ckm m_Mo_throwing = true := by decide +kernel
theorem ck_Mo_copy : ckm m_Mo_copy = true := by decide +kernel
theorem ck_Mo_reckon : ckm m_Mo_reckon = true := by decide +kernel
theorem ck_Mo_sum : ckm m_Mo_sum = true := by decide +kernel
theorem ck_Mo_either : ckm m_Mo_either = true := by decide +kernel
theorem ck_Mo_special : ckm m_Mo_special = true := by decide +kernel
theorem ck_Mo_invalid : ckm m_Mo_invalid = true := by decide +kernel
theorem ck_Mo_put : ckm m_Mo_put = true := by decide +kernel
theorem ck_Mo_blank : ckm m_Mo_blank = true := by decide +kernel
theorem ck_Mo_result : ckm m_Mo_result = true := by decide +kernel
theorem ck_Mo_round : ckm m_Mo_round = true := by decide +kernel
theorem ck_Mo_top : ckm m_Mo_top = true := by decide +kernel
end
section
theorem ck_Mo_bit : ckm m_Mo_bit = true := by decide +kernel
theorem ck_Mo_goesUp : ckm m_Mo_goesUp = true := by decide +kernel
theorem ck_Mo_shift : ckm m_Mo_shift = true := by decide +kernel
theorem ck_Mo_setBit : ckm m_Mo_setBit = true := by decide +kernel
theorem ck_Mo_add : ckm m_Mo_add = true := by decide +kernel
theorem ck_Mo_lowest : ckm m_Mo_lowest = true := by decide +kernel
theorem ck_Mo_tooLarge : ckm m_Mo_tooLarge = true := by decide +kernel
theorem ck_Mo_finiteSum : ckm m_Mo_finiteSum = true := by decide +kernel
theorem ck_Mo_compareRows : ckm m_Mo_compareRows = true := by decide +kernel
theorem ck_Mo_product : ckm m_Mo_product = true := by decide +kernel
theorem ck_Mo_times : ckm m_Mo_times = true := by decide +kernel
theorem ck_Mo_quotient : ckm m_Mo_quotient = true := by decide +kernel
theorem ck_Mo_finiteQuotient : ckm m_Mo_finiteQuotient = true := by decide +kernel
theorem ck_Mo_change : ckm m_Mo_change = true := by decide +kernel
end
section
theorem ck_Mo_move : ckm m_Mo_move = true := by decide +kernel
theorem ck_Mo_compared : ckm m_Mo_compared = true := by decide +kernel
theorem ck_Mo_rank : ckm m_Mo_rank = true := by decide +kernel
theorem ck_Mo_exactly : ckm m_Mo_exactly = true := by decide +kernel
theorem ck_Mo_extract : ckm m_Mo_extract = true := by decide +kernel
theorem ck_Mo_alter : ckm m_Mo_alter = true := by decide +kernel
theorem ck_Mo_root : ckm m_Mo_root = true := by decide +kernel
theorem ck_Mo_integer : ckm m_Mo_integer = true := by decide +kernel
theorem ck_Mo_whole : ckm m_Mo_whole = true := by decide +kernel
theorem ck_Mo_scaled : ckm m_Mo_scaled = true := by decide +kernel
theorem ck_Mo_load : ckm m_Mo_load = true := by decide +kernel
theorem ck_Mo_readWhole : ckm m_Mo_readWhole = true := by decide +kernel
theorem ck_Mo_readReal : ckm m_Mo_readReal = true := by decide +kernel
end
section
theorem ck_Mo_readDecimal : ckm m_Mo_readDecimal = true := by decide +kernel
theorem ck_Mo_store : ckm m_Mo_store = true := by decide +kernel
theorem ck_Mo_writeReal : ckm m_Mo_writeReal = true := by decide +kernel
theorem ck_Mo_writeWhole : ckm m_Mo_writeWhole = true := by decide +kernel
theorem ck_Mo_write : ckm m_Mo_write = true := by decide +kernel
theorem ck_Mo_memory : ckm m_Mo_memory = true := by decide +kernel
theorem ck_Mo_pass : ckm m_Mo_pass = true := by decide +kernel
theorem ck_Mo_await : ckm m_Mo_await = true := by decide +kernel
theorem ck_Mo_time : ckm m_Mo_time = true := by decide +kernel
theorem ck_Mo_flags : ckm m_Mo_flags = true := by decide +kernel
theorem ck_Mo_clear : ckm m_Mo_clear = true := by decide +kernel
theorem ck_Mo_condition : ckm m_Mo_condition = true := by decide +kernel
theorem ck_Mo_depth : ckm m_Mo_depth = true := by decide +kernel
theorem ck_Mo_kind : ckm m_Mo_kind = true := by decide +kernel
theorem ck_Mo_exponent : ckm m_Mo_exponent = true := by decide +kernel
theorem ck_Mo_significand : ckm m_Mo_significand = true := by decide +kernel
end
section
set_option maxRecDepth 20000 in
theorem ck_law_1 : i_law_1.all (fun q => decide (decode (zCode m_law) q.1 = .ok (q.2.1, q.2.2)) && zok (zMl m_law) q.1 q.2.1 q.2.2) = true := by decide +kernel
set_option maxRecDepth 20000 in
theorem ck_law_2 : i_law_2.all (fun q => decide (decode (zCode m_law) q.1 = .ok (q.2.1, q.2.2)) && zok (zMl m_law) q.1 q.2.1 q.2.2) = true := by decide +kernel
end
section
set_option maxRecDepth 20000 in
theorem ck_law_3 : i_law_3.all (fun q => decide (decode (zCode m_law) q.1 = .ok (q.2.1, q.2.2)) && zok (zMl m_law) q.1 q.2.1 q.2.2) = true := by decide +kernel
set_option maxRecDepth 20000 in
theorem ck_law_4 : i_law_4.all (fun q => decide (decode (zCode m_law) q.1 = .ok (q.2.1, q.2.2)) && zok (zMl m_law) q.1 q.2.1 q.2.2) = true := by decide +kernel
end
section
set_option maxRecDepth 20000 in
theorem ck_law_5 : i_law_5.all (fun q => decide (decode (zCode m_law) q.1 = .ok (q.2.1, q.2.2)) && zok (zMl m_law) q.1 q.2.1 q.2.2) = true := by decide +kernel
set_option maxRecDepth 20000 in
theorem ck_law_6 : i_law_6.all (fun q => decide (decode (zCode m_law) q.1 = .ok (q.2.1, q.2.2)) && zok (zMl m_law) q.1 q.2.1 q.2.2) = true := by decide +kernel
end
section
set_option maxRecDepth 20000 in
theorem ck_law_7 : i_law_7.all (fun q => decide (decode (zCode m_law) q.1 = .ok (q.2.1, q.2.2)) && zok (zMl m_law) q.1 q.2.1 q.2.2) = true := by decide +kernel
set_option maxRecDepth 20000 in
theorem ck_law_8 : i_law_8.all (fun q => decide (decode (zCode m_law) q.1 = .ok (q.2.1, q.2.2)) && zok (zMl m_law) q.1 q.2.1 q.2.2) = true := by decide +kernel
end
section
theorem ck_law : ckm m_law = true := by
  show i_law.all (fun q => decide (decode (zCode m_law) q.1 = .ok (q.2.1, q.2.2)) && zok (zMl m_law) q.1 q.2.1 q.2.2) = true
  simp only [i_law, List.all_append, ck_law_1, ck_law_2, ck_law_3, ck_law_4, ck_law_5, ck_law_6, ck_law_7, ck_law_8, Bool.and_true]
end
section
/-! What the tables say of methods and pools -/
theorem look_mem {α : Type} {l : List (Nat × α)} {k : Nat} {v : α} (h : l.lookup k = some v) : (k, v) ∈ l := by
  induction l with
  | nil => cases h
  | cons q l ih =>
    obtain ⟨a, b⟩ := q
    rw [List.lookup_cons] at h
    by_cases hk : k = a
    · subst hk
      simp at h
      subst h
      exact List.mem_cons_self
    · have h9 : (k == a) = false := by simpa using hk
      rw [h9] at h
      exact List.mem_cons_of_mem _ (ih h)
/-- a method's own words -/
def zMok (y : ZM) : Prop := (zNm y).cls = zCn (zCno y) ∧ plainName (zNm y).cls = true ∧ ((zNm y).cls ≠ "java/lang/invoke/MethodHandle" ∧ (zNm y).cls ≠ "java/lang/invoke/VarHandle") ∧ ((zHs y = [] ∧ Jvm.Cond.code (zNm y) (zCode y) (zMl y) (zRt y) ∈ zWs) ∨ Jvm.Cond.codeWith (zNm y) (zCode y) (zMl y) (zRt y) (zHs y) ∈ zWs)
theorem mo_SR_await : zMok m_SR_await := ⟨by decide +kernel, by decide +kernel, by decide +kernel, Or.inl ⟨rfl, zW_in 268 (by decide +kernel)⟩⟩
theorem mo_Me_waitUntilFree : zMok m_Me_waitUntilFree := ⟨by decide +kernel, by decide +kernel, by decide +kernel, Or.inl ⟨rfl, zW_in 272 (by decide +kernel)⟩⟩
theorem mo_Me_goOn : zMok m_Me_goOn := ⟨by decide +kernel, by decide +kernel, by decide +kernel, Or.inl ⟨rfl, zW_in 276 (by decide +kernel)⟩⟩
theorem mo_SR_time : zMok m_SR_time := ⟨by decide +kernel, by decide +kernel, by decide +kernel, Or.inl ⟨rfl, zW_in 280 (by decide +kernel)⟩⟩
theorem mo_SR_flags : zMok m_SR_flags := ⟨by decide +kernel, by decide +kernel, by decide +kernel, Or.inl ⟨rfl, zW_in 284 (by decide +kernel)⟩⟩
theorem mo_SR_clear : zMok m_SR_clear := ⟨by decide +kernel, by decide +kernel, by decide +kernel, Or.inl ⟨rfl, zW_in 288 (by decide +kernel)⟩⟩
theorem mo_SR_condition : zMok m_SR_condition := ⟨by decide +kernel, by decide +kernel, by decide +kernel, Or.inl ⟨rfl, zW_in 292 (by decide +kernel)⟩⟩
theorem mo_SR_depth : zMok m_SR_depth := ⟨by decide +kernel, by decide +kernel, by decide +kernel, Or.inl ⟨rfl, zW_in 296 (by decide +kernel)⟩⟩
theorem mo_La_control : zMok m_La_control := ⟨by decide +kernel, by decide +kernel, by decide +kernel, Or.inr (zW_in 299 (by decide +kernel))⟩
theorem mo_SR_control : zMok m_SR_control := ⟨by decide +kernel, by decide +kernel, by decide +kernel, Or.inl ⟨rfl, zW_in 304 (by decide +kernel)⟩⟩
theorem mo_La_operate : zMok m_La_operate := ⟨by decide +kernel, by decide +kernel, by decide +kernel, Or.inr (zW_in 376 (by decide +kernel))⟩
theorem mo_SR_operate : zMok m_SR_operate := ⟨by decide +kernel, by decide +kernel, by decide +kernel, Or.inl ⟨rfl, zW_in 381 (by decide +kernel)⟩⟩
theorem mo_SR_namesPlace : zMok m_SR_namesPlace := ⟨by decide +kernel, by decide +kernel, by decide +kernel, Or.inl ⟨rfl, zW_in 385 (by decide +kernel)⟩⟩
theorem mo_Me_occupy : zMok m_Me_occupy := ⟨by decide +kernel, by decide +kernel, by decide +kernel, Or.inl ⟨rfl, zW_in 392 (by decide +kernel)⟩⟩
theorem mo_SR_isPossible : zMok m_SR_isPossible := ⟨by decide +kernel, by decide +kernel, by decide +kernel, Or.inl ⟨rfl, zW_in 397 (by decide +kernel)⟩⟩
theorem mo_SR_pushes : zMok m_SR_pushes := ⟨by decide +kernel, by decide +kernel, by decide +kernel, Or.inl ⟨rfl, zW_in 402 (by decide +kernel)⟩⟩
theorem mo_SR_st : zMok m_SR_st := ⟨by decide +kernel, by decide +kernel, by decide +kernel, Or.inl ⟨rfl, zW_in 406 (by decide +kernel)⟩⟩
theorem mo_SR_raise : zMok m_SR_raise := ⟨by decide +kernel, by decide +kernel, by decide +kernel, Or.inl ⟨rfl, zW_in 410 (by decide +kernel)⟩⟩
theorem mo_SR_workOut : zMok m_SR_workOut := ⟨by decide +kernel, by decide +kernel, by decide +kernel, Or.inl ⟨rfl, zW_in 430 (by decide +kernel)⟩⟩
theorem mo_Ar_add : zMok m_Ar_add := ⟨by decide +kernel, by decide +kernel, by decide +kernel, Or.inl ⟨rfl, zW_in 434 (by decide +kernel)⟩⟩
theorem mo_Re_becomeNan : zMok m_Re_becomeNan := ⟨by decide +kernel, by decide +kernel, by decide +kernel, Or.inl ⟨rfl, zW_in 438 (by decide +kernel)⟩⟩
theorem mo_Ar_addInfinite : zMok m_Ar_addInfinite := ⟨by decide +kernel, by decide +kernel, by decide +kernel, Or.inl ⟨rfl, zW_in 442 (by decide +kernel)⟩⟩
theorem mo_Ar_makeInvalid : zMok m_Ar_makeInvalid := ⟨by decide +kernel, by decide +kernel, by decide +kernel, Or.inl ⟨rfl, zW_in 445 (by decide +kernel)⟩⟩
theorem mo_Re_copy : zMok m_Re_copy := ⟨by decide +kernel, by decide +kernel, by decide +kernel, Or.inl ⟨rfl, zW_in 449 (by decide +kernel)⟩⟩
theorem mo_Re_becomeZero : zMok m_Re_becomeZero := ⟨by decide +kernel, by decide +kernel, by decide +kernel, Or.inl ⟨rfl, zW_in 453 (by decide +kernel)⟩⟩
theorem mo_Ex_copy : zMok m_Ex_copy := ⟨by decide +kernel, by decide +kernel, by decide +kernel, Or.inl ⟨rfl, zW_in 457 (by decide +kernel)⟩⟩
theorem mo_Ex_becomeSum : zMok m_Ex_becomeSum := ⟨by decide +kernel, by decide +kernel, by decide +kernel, Or.inl ⟨rfl, zW_in 461 (by decide +kernel)⟩⟩
theorem mo_SR_compareMagnitudes : zMok m_SR_compareMagnitudes := ⟨by decide +kernel, by decide +kernel, by decide +kernel, Or.inl ⟨rfl, zW_in 464 (by decide +kernel)⟩⟩
theorem mo_SR_isBelow : zMok m_SR_isBelow := ⟨by decide +kernel, by decide +kernel, by decide +kernel, Or.inl ⟨rfl, zW_in 467 (by decide +kernel)⟩⟩
theorem mo_Ex_combine : zMok m_Ex_combine := ⟨by decide +kernel, by decide +kernel, by decide +kernel, Or.inl ⟨rfl, zW_in 472 (by decide +kernel)⟩⟩
theorem mo_Ex_lowerPart : zMok m_Ex_lowerPart := ⟨by decide +kernel, by decide +kernel, by decide +kernel, Or.inl ⟨rfl, zW_in 476 (by decide +kernel)⟩⟩
theorem mo_Ex_putOn : zMok m_Ex_putOn := ⟨by decide +kernel, by decide +kernel, by decide +kernel, Or.inl ⟨rfl, zW_in 480 (by decide +kernel)⟩⟩
theorem mo_Ex_takeAway : zMok m_Ex_takeAway := ⟨by decide +kernel, by decide +kernel, by decide +kernel, Or.inl ⟨rfl, zW_in 486 (by decide +kernel)⟩⟩
theorem mo_Ex_normalize : zMok m_Ex_normalize := ⟨by decide +kernel, by decide +kernel, by decide +kernel, Or.inl ⟨rfl, zW_in 490 (by decide +kernel)⟩⟩
theorem mo_Ex_isZero : zMok m_Ex_isZero := ⟨by decide +kernel, by decide +kernel, by decide +kernel, Or.inl ⟨rfl, zW_in 494 (by decide +kernel)⟩⟩
theorem mo_Ro_round : zMok m_Ro_round := ⟨by decide +kernel, by decide +kernel, by decide +kernel, Or.inl ⟨rfl, zW_in 498 (by decide +kernel)⟩⟩
theorem mo_Ro_roundTo : zMok m_Ro_roundTo := ⟨by decide +kernel, by decide +kernel, by decide +kernel, Or.inl ⟨rfl, zW_in 502 (by decide +kernel)⟩⟩
theorem mo_Ro_goesAway : zMok m_Ro_goesAway := ⟨by decide +kernel, by decide +kernel, by decide +kernel, Or.inl ⟨rfl, zW_in 506 (by decide +kernel)⟩⟩
theorem mo_Ro_staysBelowInfinite : zMok m_Ro_staysBelowInfinite := ⟨by decide +kernel, by decide +kernel, by decide +kernel, Or.inl ⟨rfl, zW_in 511 (by decide +kernel)⟩⟩
theorem mo_Re_becomeFinite : zMok m_Re_becomeFinite := ⟨by decide +kernel, by decide +kernel, by decide +kernel, Or.inl ⟨rfl, zW_in 515 (by decide +kernel)⟩⟩
theorem mo_Re_becomeInfinite : zMok m_Re_becomeInfinite := ⟨by decide +kernel, by decide +kernel, by decide +kernel, Or.inl ⟨rfl, zW_in 519 (by decide +kernel)⟩⟩
theorem mo_Re_negate : zMok m_Re_negate := ⟨by decide +kernel, by decide +kernel, by decide +kernel, Or.inl ⟨rfl, zW_in 525 (by decide +kernel)⟩⟩
theorem mo_Ar_multiply : zMok m_Ar_multiply := ⟨by decide +kernel, by decide +kernel, by decide +kernel, Or.inl ⟨rfl, zW_in 529 (by decide +kernel)⟩⟩
theorem mo_Ex_becomeProduct : zMok m_Ex_becomeProduct := ⟨by decide +kernel, by decide +kernel, by decide +kernel, Or.inl ⟨rfl, zW_in 534 (by decide +kernel)⟩⟩
theorem mo_Ex_multiplyBits : zMok m_Ex_multiplyBits := ⟨by decide +kernel, by decide +kernel, by decide +kernel, Or.inl ⟨rfl, zW_in 538 (by decide +kernel)⟩⟩
theorem mo_Ar_divide : zMok m_Ar_divide := ⟨by decide +kernel, by decide +kernel, by decide +kernel, Or.inl ⟨rfl, zW_in 543 (by decide +kernel)⟩⟩
theorem mo_Ex_becomeQuotient : zMok m_Ex_becomeQuotient := ⟨by decide +kernel, by decide +kernel, by decide +kernel, Or.inl ⟨rfl, zW_in 547 (by decide +kernel)⟩⟩
theorem mo_Ex_fitsInDouble : zMok m_Ex_fitsInDouble := ⟨by decide +kernel, by decide +kernel, by decide +kernel, Or.inl ⟨rfl, zW_in 550 (by decide +kernel)⟩⟩
theorem mo_Ar_root : zMok m_Ar_root := ⟨by decide +kernel, by decide +kernel, by decide +kernel, Or.inl ⟨rfl, zW_in 554 (by decide +kernel)⟩⟩
theorem mo_Ex_becomeRoot : zMok m_Ex_becomeRoot := ⟨by decide +kernel, by decide +kernel, by decide +kernel, Or.inl ⟨rfl, zW_in 558 (by decide +kernel)⟩⟩
theorem mo_Ex_isAbove : zMok m_Ex_isAbove := ⟨by decide +kernel, by decide +kernel, by decide +kernel, Or.inl ⟨rfl, zW_in 562 (by decide +kernel)⟩⟩
theorem mo_Ar_makeWhole : zMok m_Ar_makeWhole := ⟨by decide +kernel, by decide +kernel, by decide +kernel, Or.inl ⟨rfl, zW_in 566 (by decide +kernel)⟩⟩
theorem mo_Re_isWhole : zMok m_Re_isWhole := ⟨by decide +kernel, by decide +kernel, by decide +kernel, Or.inl ⟨rfl, zW_in 570 (by decide +kernel)⟩⟩
theorem mo_Ro_wholeMagnitude : zMok m_Ro_wholeMagnitude := ⟨by decide +kernel, by decide +kernel, by decide +kernel, Or.inl ⟨rfl, zW_in 574 (by decide +kernel)⟩⟩
theorem mo_Re_becomeWhole : zMok m_Re_becomeWhole := ⟨by decide +kernel, by decide +kernel, by decide +kernel, Or.inl ⟨rfl, zW_in 578 (by decide +kernel)⟩⟩
theorem mo_Ar_scale : zMok m_Ar_scale := ⟨by decide +kernel, by decide +kernel, by decide +kernel, Or.inl ⟨rfl, zW_in 584 (by decide +kernel)⟩⟩
theorem mo_SR_carryOut : zMok m_SR_carryOut := ⟨by decide +kernel, by decide +kernel, by decide +kernel, Or.inl ⟨rfl, zW_in 589 (by decide +kernel)⟩⟩
theorem mo_SR_extract : zMok m_SR_extract := ⟨by decide +kernel, by decide +kernel, by decide +kernel, Or.inl ⟨rfl, zW_in 593 (by decide +kernel)⟩⟩
theorem mo_SR_push : zMok m_SR_push := ⟨by decide +kernel, by decide +kernel, by decide +kernel, Or.inl ⟨rfl, zW_in 599 (by decide +kernel)⟩⟩
theorem mo_SR_exchange : zMok m_SR_exchange := ⟨by decide +kernel, by decide +kernel, by decide +kernel, Or.inl ⟨rfl, zW_in 603 (by decide +kernel)⟩⟩
theorem mo_SR_conditionOf : zMok m_SR_conditionOf := ⟨by decide +kernel, by decide +kernel, by decide +kernel, Or.inl ⟨rfl, zW_in 606 (by decide +kernel)⟩⟩
theorem mo_SR_compareReals : zMok m_SR_compareReals := ⟨by decide +kernel, by decide +kernel, by decide +kernel, Or.inl ⟨rfl, zW_in 609 (by decide +kernel)⟩⟩
theorem mo_La_load : zMok m_La_load := ⟨by decide +kernel, by decide +kernel, by decide +kernel, Or.inr (zW_in 614 (by decide +kernel))⟩
theorem mo_SR_load : zMok m_SR_load := ⟨by decide +kernel, by decide +kernel, by decide +kernel, Or.inl ⟨rfl, zW_in 618 (by decide +kernel)⟩⟩
theorem mo_SR_isCell : zMok m_SR_isCell := ⟨by decide +kernel, by decide +kernel, by decide +kernel, Or.inl ⟨rfl, zW_in 621 (by decide +kernel)⟩⟩
theorem mo_SR_isForm : zMok m_SR_isForm := ⟨by decide +kernel, by decide +kernel, by decide +kernel, Or.inl ⟨rfl, zW_in 624 (by decide +kernel)⟩⟩
theorem mo_Fo_decode : zMok m_Fo_decode := ⟨by decide +kernel, by decide +kernel, by decide +kernel, Or.inl ⟨rfl, zW_in 629 (by decide +kernel)⟩⟩
theorem mo_Fo_decodeBinary : zMok m_Fo_decodeBinary := ⟨by decide +kernel, by decide +kernel, by decide +kernel, Or.inl ⟨rfl, zW_in 633 (by decide +kernel)⟩⟩
theorem mo_Fo_decodeDecimal : zMok m_Fo_decodeDecimal := ⟨by decide +kernel, by decide +kernel, by decide +kernel, Or.inl ⟨rfl, zW_in 641 (by decide +kernel)⟩⟩
theorem mo_La_store : zMok m_La_store := ⟨by decide +kernel, by decide +kernel, by decide +kernel, Or.inr (zW_in 647 (by decide +kernel))⟩
theorem mo_SR_store : zMok m_SR_store := ⟨by decide +kernel, by decide +kernel, by decide +kernel, Or.inl ⟨rfl, zW_in 651 (by decide +kernel)⟩⟩
theorem mo_Fo_encode : zMok m_Fo_encode := ⟨by decide +kernel, by decide +kernel, by decide +kernel, Or.inl ⟨rfl, zW_in 655 (by decide +kernel)⟩⟩
theorem mo_Fo_encodeWhole : zMok m_Fo_encodeWhole := ⟨by decide +kernel, by decide +kernel, by decide +kernel, Or.inl ⟨rfl, zW_in 659 (by decide +kernel)⟩⟩
theorem mo_Fo_encodeBinary : zMok m_Fo_encodeBinary := ⟨by decide +kernel, by decide +kernel, by decide +kernel, Or.inl ⟨rfl, zW_in 665 (by decide +kernel)⟩⟩
theorem mo_Fo_binaryImage : zMok m_Fo_binaryImage := ⟨by decide +kernel, by decide +kernel, by decide +kernel, Or.inl ⟨rfl, zW_in 671 (by decide +kernel)⟩⟩
theorem mo_Fo_encodeDecimal : zMok m_Fo_encodeDecimal := ⟨by decide +kernel, by decide +kernel, by decide +kernel, Or.inl ⟨rfl, zW_in 675 (by decide +kernel)⟩⟩
theorem mo_Me_storeWhenFree : zMok m_Me_storeWhenFree := ⟨by decide +kernel, by decide +kernel, by decide +kernel, Or.inl ⟨rfl, zW_in 682 (by decide +kernel)⟩⟩
theorem mo_La_write : zMok m_La_write := ⟨by decide +kernel, by decide +kernel, by decide +kernel, Or.inr (zW_in 685 (by decide +kernel))⟩
theorem mo_SR_write : zMok m_SR_write := ⟨by decide +kernel, by decide +kernel, by decide +kernel, Or.inl ⟨rfl, zW_in 689 (by decide +kernel)⟩⟩
theorem mo_La_memory : zMok m_La_memory := ⟨by decide +kernel, by decide +kernel, by decide +kernel, Or.inr (zW_in 693 (by decide +kernel))⟩
theorem mo_SR_memory : zMok m_SR_memory := ⟨by decide +kernel, by decide +kernel, by decide +kernel, Or.inl ⟨rfl, zW_in 697 (by decide +kernel)⟩⟩
theorem mo_La_pass : zMok m_La_pass := ⟨by decide +kernel, by decide +kernel, by decide +kernel, Or.inr (zW_in 700 (by decide +kernel))⟩
theorem mo_SR_pass : zMok m_SR_pass := ⟨by decide +kernel, by decide +kernel, by decide +kernel, Or.inl ⟨rfl, zW_in 704 (by decide +kernel)⟩⟩
theorem mo_La_kind : zMok m_La_kind := ⟨by decide +kernel, by decide +kernel, by decide +kernel, Or.inr (zW_in 709 (by decide +kernel))⟩
theorem mo_SR_kind : zMok m_SR_kind := ⟨by decide +kernel, by decide +kernel, by decide +kernel, Or.inl ⟨rfl, zW_in 713 (by decide +kernel)⟩⟩
theorem mo_SR_isOnStack : zMok m_SR_isOnStack := ⟨by decide +kernel, by decide +kernel, by decide +kernel, Or.inl ⟨rfl, zW_in 717 (by decide +kernel)⟩⟩
theorem mo_La_exponent : zMok m_La_exponent := ⟨by decide +kernel, by decide +kernel, by decide +kernel, Or.inr (zW_in 721 (by decide +kernel))⟩
theorem mo_SR_exponent : zMok m_SR_exponent := ⟨by decide +kernel, by decide +kernel, by decide +kernel, Or.inl ⟨rfl, zW_in 725 (by decide +kernel)⟩⟩
theorem mo_La_significand : zMok m_La_significand := ⟨by decide +kernel, by decide +kernel, by decide +kernel, Or.inr (zW_in 728 (by decide +kernel))⟩
theorem mo_SR_significand : zMok m_SR_significand := ⟨by decide +kernel, by decide +kernel, by decide +kernel, Or.inl ⟨rfl, zW_in 732 (by decide +kernel)⟩⟩
theorem mo_Mo_thrown : zMok m_Mo_thrown := ⟨by decide +kernel, by decide +kernel, by decide +kernel, Or.inl ⟨rfl, zW_in 799 (by decide +kernel)⟩⟩
theorem mo_Mo_control : zMok m_Mo_control := ⟨by decide +kernel, by decide +kernel, by decide +kernel, Or.inl ⟨rfl, zW_in 803 (by decide +kernel)⟩⟩
theorem mo_Mo_out : zMok m_Mo_out := ⟨by decide +kernel, by decide +kernel, by decide +kernel, Or.inl ⟨rfl, zW_in 806 (by decide +kernel)⟩⟩
theorem mo_Mo_operate : zMok m_Mo_operate := ⟨by decide +kernel, by decide +kernel, by decide +kernel, Or.inl ⟨rfl, zW_in 810 (by decide +kernel)⟩⟩
theorem mo_Mo_cost : zMok m_Mo_cost := ⟨by decide +kernel, by decide +kernel, by decide +kernel, Or.inl ⟨rfl, zW_in 813 (by decide +kernel)⟩⟩
theorem mo_Mo_begin : zMok m_Mo_begin := ⟨by decide +kernel, by decide +kernel, by decide +kernel, Or.inl ⟨rfl, zW_in 817 (by decide +kernel)⟩⟩
theorem mo_Mo_goOn : zMok m_Mo_goOn := ⟨by decide +kernel, by decide +kernel, by decide +kernel, Or.inl ⟨rfl, zW_in 821 (by decide +kernel)⟩⟩
theorem mo_Mo_refuse : zMok m_Mo_refuse := ⟨by decide +kernel, by decide +kernel, by decide +kernel, Or.inl ⟨rfl, zW_in 825 (by decide +kernel)⟩⟩
theorem mo_Mo_throwing : zMok m_Mo_throwing := ⟨by decide +kernel, by decide +kernel, by decide +kernel, Or.inl ⟨rfl, zW_in 829 (by decide +kernel)⟩⟩
theorem mo_Mo_copy : zMok m_Mo_copy := ⟨by decide +kernel, by decide +kernel, by decide +kernel, Or.inl ⟨rfl, zW_in 833 (by decide +kernel)⟩⟩
theorem mo_Mo_reckon : zMok m_Mo_reckon := ⟨by decide +kernel, by decide +kernel, by decide +kernel, Or.inl ⟨rfl, zW_in 837 (by decide +kernel)⟩⟩
theorem mo_Mo_sum : zMok m_Mo_sum := ⟨by decide +kernel, by decide +kernel, by decide +kernel, Or.inl ⟨rfl, zW_in 841 (by decide +kernel)⟩⟩
theorem mo_Mo_either : zMok m_Mo_either := ⟨by decide +kernel, by decide +kernel, by decide +kernel, Or.inl ⟨rfl, zW_in 845 (by decide +kernel)⟩⟩
theorem mo_Mo_special : zMok m_Mo_special := ⟨by decide +kernel, by decide +kernel, by decide +kernel, Or.inl ⟨rfl, zW_in 849 (by decide +kernel)⟩⟩
theorem mo_Mo_invalid : zMok m_Mo_invalid := ⟨by decide +kernel, by decide +kernel, by decide +kernel, Or.inl ⟨rfl, zW_in 853 (by decide +kernel)⟩⟩
theorem mo_Mo_put : zMok m_Mo_put := ⟨by decide +kernel, by decide +kernel, by decide +kernel, Or.inl ⟨rfl, zW_in 857 (by decide +kernel)⟩⟩
theorem mo_Mo_blank : zMok m_Mo_blank := ⟨by decide +kernel, by decide +kernel, by decide +kernel, Or.inl ⟨rfl, zW_in 861 (by decide +kernel)⟩⟩
theorem mo_Mo_result : zMok m_Mo_result := ⟨by decide +kernel, by decide +kernel, by decide +kernel, Or.inl ⟨rfl, zW_in 866 (by decide +kernel)⟩⟩
theorem mo_Mo_round : zMok m_Mo_round := ⟨by decide +kernel, by decide +kernel, by decide +kernel, Or.inl ⟨rfl, zW_in 870 (by decide +kernel)⟩⟩
theorem mo_Mo_top : zMok m_Mo_top := ⟨by decide +kernel, by decide +kernel, by decide +kernel, Or.inl ⟨rfl, zW_in 874 (by decide +kernel)⟩⟩
theorem mo_Mo_bit : zMok m_Mo_bit := ⟨by decide +kernel, by decide +kernel, by decide +kernel, Or.inl ⟨rfl, zW_in 878 (by decide +kernel)⟩⟩
theorem mo_Mo_goesUp : zMok m_Mo_goesUp := ⟨by decide +kernel, by decide +kernel, by decide +kernel, Or.inl ⟨rfl, zW_in 882 (by decide +kernel)⟩⟩
theorem mo_Mo_shift : zMok m_Mo_shift := ⟨by decide +kernel, by decide +kernel, by decide +kernel, Or.inl ⟨rfl, zW_in 886 (by decide +kernel)⟩⟩
theorem mo_Mo_setBit : zMok m_Mo_setBit := ⟨by decide +kernel, by decide +kernel, by decide +kernel, Or.inl ⟨rfl, zW_in 890 (by decide +kernel)⟩⟩
theorem mo_Mo_add : zMok m_Mo_add := ⟨by decide +kernel, by decide +kernel, by decide +kernel, Or.inl ⟨rfl, zW_in 894 (by decide +kernel)⟩⟩
theorem mo_Mo_lowest : zMok m_Mo_lowest := ⟨by decide +kernel, by decide +kernel, by decide +kernel, Or.inl ⟨rfl, zW_in 899 (by decide +kernel)⟩⟩
theorem mo_Mo_tooLarge : zMok m_Mo_tooLarge := ⟨by decide +kernel, by decide +kernel, by decide +kernel, Or.inl ⟨rfl, zW_in 903 (by decide +kernel)⟩⟩
theorem mo_Mo_finiteSum : zMok m_Mo_finiteSum := ⟨by decide +kernel, by decide +kernel, by decide +kernel, Or.inl ⟨rfl, zW_in 908 (by decide +kernel)⟩⟩
theorem mo_Mo_compareRows : zMok m_Mo_compareRows := ⟨by decide +kernel, by decide +kernel, by decide +kernel, Or.inl ⟨rfl, zW_in 912 (by decide +kernel)⟩⟩
theorem mo_Mo_product : zMok m_Mo_product := ⟨by decide +kernel, by decide +kernel, by decide +kernel, Or.inl ⟨rfl, zW_in 916 (by decide +kernel)⟩⟩
theorem mo_Mo_times : zMok m_Mo_times := ⟨by decide +kernel, by decide +kernel, by decide +kernel, Or.inl ⟨rfl, zW_in 920 (by decide +kernel)⟩⟩
theorem mo_Mo_quotient : zMok m_Mo_quotient := ⟨by decide +kernel, by decide +kernel, by decide +kernel, Or.inl ⟨rfl, zW_in 924 (by decide +kernel)⟩⟩
theorem mo_Mo_finiteQuotient : zMok m_Mo_finiteQuotient := ⟨by decide +kernel, by decide +kernel, by decide +kernel, Or.inl ⟨rfl, zW_in 928 (by decide +kernel)⟩⟩
theorem mo_Mo_change : zMok m_Mo_change := ⟨by decide +kernel, by decide +kernel, by decide +kernel, Or.inl ⟨rfl, zW_in 932 (by decide +kernel)⟩⟩
theorem mo_Mo_move : zMok m_Mo_move := ⟨by decide +kernel, by decide +kernel, by decide +kernel, Or.inl ⟨rfl, zW_in 936 (by decide +kernel)⟩⟩
theorem mo_Mo_compared : zMok m_Mo_compared := ⟨by decide +kernel, by decide +kernel, by decide +kernel, Or.inl ⟨rfl, zW_in 940 (by decide +kernel)⟩⟩
theorem mo_Mo_rank : zMok m_Mo_rank := ⟨by decide +kernel, by decide +kernel, by decide +kernel, Or.inl ⟨rfl, zW_in 944 (by decide +kernel)⟩⟩
theorem mo_Mo_exactly : zMok m_Mo_exactly := ⟨by decide +kernel, by decide +kernel, by decide +kernel, Or.inl ⟨rfl, zW_in 948 (by decide +kernel)⟩⟩
theorem mo_Mo_extract : zMok m_Mo_extract := ⟨by decide +kernel, by decide +kernel, by decide +kernel, Or.inl ⟨rfl, zW_in 952 (by decide +kernel)⟩⟩
theorem mo_Mo_alter : zMok m_Mo_alter := ⟨by decide +kernel, by decide +kernel, by decide +kernel, Or.inl ⟨rfl, zW_in 956 (by decide +kernel)⟩⟩
theorem mo_Mo_root : zMok m_Mo_root := ⟨by decide +kernel, by decide +kernel, by decide +kernel, Or.inl ⟨rfl, zW_in 960 (by decide +kernel)⟩⟩
theorem mo_Mo_integer : zMok m_Mo_integer := ⟨by decide +kernel, by decide +kernel, by decide +kernel, Or.inl ⟨rfl, zW_in 964 (by decide +kernel)⟩⟩
theorem mo_Mo_whole : zMok m_Mo_whole := ⟨by decide +kernel, by decide +kernel, by decide +kernel, Or.inl ⟨rfl, zW_in 968 (by decide +kernel)⟩⟩
theorem mo_Mo_scaled : zMok m_Mo_scaled := ⟨by decide +kernel, by decide +kernel, by decide +kernel, Or.inl ⟨rfl, zW_in 972 (by decide +kernel)⟩⟩
theorem mo_Mo_load : zMok m_Mo_load := ⟨by decide +kernel, by decide +kernel, by decide +kernel, Or.inl ⟨rfl, zW_in 977 (by decide +kernel)⟩⟩
theorem mo_Mo_readWhole : zMok m_Mo_readWhole := ⟨by decide +kernel, by decide +kernel, by decide +kernel, Or.inl ⟨rfl, zW_in 981 (by decide +kernel)⟩⟩
theorem mo_Mo_readReal : zMok m_Mo_readReal := ⟨by decide +kernel, by decide +kernel, by decide +kernel, Or.inl ⟨rfl, zW_in 985 (by decide +kernel)⟩⟩
theorem mo_Mo_readDecimal : zMok m_Mo_readDecimal := ⟨by decide +kernel, by decide +kernel, by decide +kernel, Or.inl ⟨rfl, zW_in 989 (by decide +kernel)⟩⟩
theorem mo_Mo_store : zMok m_Mo_store := ⟨by decide +kernel, by decide +kernel, by decide +kernel, Or.inl ⟨rfl, zW_in 996 (by decide +kernel)⟩⟩
theorem mo_Mo_writeReal : zMok m_Mo_writeReal := ⟨by decide +kernel, by decide +kernel, by decide +kernel, Or.inl ⟨rfl, zW_in 1000 (by decide +kernel)⟩⟩
theorem mo_Mo_writeWhole : zMok m_Mo_writeWhole := ⟨by decide +kernel, by decide +kernel, by decide +kernel, Or.inl ⟨rfl, zW_in 1004 (by decide +kernel)⟩⟩
theorem mo_Mo_write : zMok m_Mo_write := ⟨by decide +kernel, by decide +kernel, by decide +kernel, Or.inl ⟨rfl, zW_in 1012 (by decide +kernel)⟩⟩
theorem mo_Mo_memory : zMok m_Mo_memory := ⟨by decide +kernel, by decide +kernel, by decide +kernel, Or.inl ⟨rfl, zW_in 1016 (by decide +kernel)⟩⟩
theorem mo_Mo_pass : zMok m_Mo_pass := ⟨by decide +kernel, by decide +kernel, by decide +kernel, Or.inl ⟨rfl, zW_in 1020 (by decide +kernel)⟩⟩
theorem mo_Mo_await : zMok m_Mo_await := ⟨by decide +kernel, by decide +kernel, by decide +kernel, Or.inl ⟨rfl, zW_in 1024 (by decide +kernel)⟩⟩
theorem mo_Mo_time : zMok m_Mo_time := ⟨by decide +kernel, by decide +kernel, by decide +kernel, Or.inl ⟨rfl, zW_in 1028 (by decide +kernel)⟩⟩
theorem mo_Mo_flags : zMok m_Mo_flags := ⟨by decide +kernel, by decide +kernel, by decide +kernel, Or.inl ⟨rfl, zW_in 1032 (by decide +kernel)⟩⟩
theorem mo_Mo_clear : zMok m_Mo_clear := ⟨by decide +kernel, by decide +kernel, by decide +kernel, Or.inl ⟨rfl, zW_in 1036 (by decide +kernel)⟩⟩
theorem mo_Mo_condition : zMok m_Mo_condition := ⟨by decide +kernel, by decide +kernel, by decide +kernel, Or.inl ⟨rfl, zW_in 1040 (by decide +kernel)⟩⟩
theorem mo_Mo_depth : zMok m_Mo_depth := ⟨by decide +kernel, by decide +kernel, by decide +kernel, Or.inl ⟨rfl, zW_in 1044 (by decide +kernel)⟩⟩
theorem mo_Mo_kind : zMok m_Mo_kind := ⟨by decide +kernel, by decide +kernel, by decide +kernel, Or.inl ⟨rfl, zW_in 1048 (by decide +kernel)⟩⟩
theorem mo_Mo_exponent : zMok m_Mo_exponent := ⟨by decide +kernel, by decide +kernel, by decide +kernel, Or.inl ⟨rfl, zW_in 1052 (by decide +kernel)⟩⟩
theorem mo_Mo_significand : zMok m_Mo_significand := ⟨by decide +kernel, by decide +kernel, by decide +kernel, Or.inl ⟨rfl, zW_in 1056 (by decide +kernel)⟩⟩
set_option maxRecDepth 20000 in
theorem zMeth_ok : ∀ y ∈ zAll, zMok y := List.forall_mem_cons.mpr ⟨mo_SR_await, List.forall_mem_cons.mpr ⟨mo_Me_waitUntilFree, List.forall_mem_cons.mpr ⟨mo_Me_goOn, List.forall_mem_cons.mpr ⟨mo_SR_time, List.forall_mem_cons.mpr ⟨mo_SR_flags, List.forall_mem_cons.mpr ⟨mo_SR_clear, List.forall_mem_cons.mpr ⟨mo_SR_condition, List.forall_mem_cons.mpr ⟨mo_SR_depth, List.forall_mem_cons.mpr ⟨mo_La_control, List.forall_mem_cons.mpr ⟨mo_SR_control, List.forall_mem_cons.mpr ⟨mo_La_operate, List.forall_mem_cons.mpr ⟨mo_SR_operate, List.forall_mem_cons.mpr ⟨mo_SR_namesPlace, List.forall_mem_cons.mpr ⟨mo_Me_occupy, List.forall_mem_cons.mpr ⟨mo_SR_isPossible, List.forall_mem_cons.mpr ⟨mo_SR_pushes, List.forall_mem_cons.mpr ⟨mo_SR_st, List.forall_mem_cons.mpr ⟨mo_SR_raise, List.forall_mem_cons.mpr ⟨mo_SR_workOut, List.forall_mem_cons.mpr ⟨mo_Ar_add, List.forall_mem_cons.mpr ⟨mo_Re_becomeNan, List.forall_mem_cons.mpr ⟨mo_Ar_addInfinite, List.forall_mem_cons.mpr ⟨mo_Ar_makeInvalid, List.forall_mem_cons.mpr ⟨mo_Re_copy, List.forall_mem_cons.mpr ⟨mo_Re_becomeZero, List.forall_mem_cons.mpr ⟨mo_Ex_copy, List.forall_mem_cons.mpr ⟨mo_Ex_becomeSum, List.forall_mem_cons.mpr ⟨mo_SR_compareMagnitudes, List.forall_mem_cons.mpr ⟨mo_SR_isBelow, List.forall_mem_cons.mpr ⟨mo_Ex_combine, List.forall_mem_cons.mpr ⟨mo_Ex_lowerPart, List.forall_mem_cons.mpr ⟨mo_Ex_putOn, List.forall_mem_cons.mpr ⟨mo_Ex_takeAway, List.forall_mem_cons.mpr ⟨mo_Ex_normalize, List.forall_mem_cons.mpr ⟨mo_Ex_isZero, List.forall_mem_cons.mpr ⟨mo_Ro_round, List.forall_mem_cons.mpr ⟨mo_Ro_roundTo, List.forall_mem_cons.mpr ⟨mo_Ro_goesAway, List.forall_mem_cons.mpr ⟨mo_Ro_staysBelowInfinite, List.forall_mem_cons.mpr ⟨mo_Re_becomeFinite, List.forall_mem_cons.mpr ⟨mo_Re_becomeInfinite, List.forall_mem_cons.mpr ⟨mo_Re_negate, List.forall_mem_cons.mpr ⟨mo_Ar_multiply, List.forall_mem_cons.mpr ⟨mo_Ex_becomeProduct, List.forall_mem_cons.mpr ⟨mo_Ex_multiplyBits, List.forall_mem_cons.mpr ⟨mo_Ar_divide, List.forall_mem_cons.mpr ⟨mo_Ex_becomeQuotient, List.forall_mem_cons.mpr ⟨mo_Ex_fitsInDouble, List.forall_mem_cons.mpr ⟨mo_Ar_root, List.forall_mem_cons.mpr ⟨mo_Ex_becomeRoot, List.forall_mem_cons.mpr ⟨mo_Ex_isAbove, List.forall_mem_cons.mpr ⟨mo_Ar_makeWhole, List.forall_mem_cons.mpr ⟨mo_Re_isWhole, List.forall_mem_cons.mpr ⟨mo_Ro_wholeMagnitude, List.forall_mem_cons.mpr ⟨mo_Re_becomeWhole, List.forall_mem_cons.mpr ⟨mo_Ar_scale, List.forall_mem_cons.mpr ⟨mo_SR_carryOut, List.forall_mem_cons.mpr ⟨mo_SR_extract, List.forall_mem_cons.mpr ⟨mo_SR_push, List.forall_mem_cons.mpr ⟨mo_SR_exchange, List.forall_mem_cons.mpr ⟨mo_SR_conditionOf, List.forall_mem_cons.mpr ⟨mo_SR_compareReals, List.forall_mem_cons.mpr ⟨mo_La_load, List.forall_mem_cons.mpr ⟨mo_SR_load, List.forall_mem_cons.mpr ⟨mo_SR_isCell, List.forall_mem_cons.mpr ⟨mo_SR_isForm, List.forall_mem_cons.mpr ⟨mo_Fo_decode, List.forall_mem_cons.mpr ⟨mo_Fo_decodeBinary, List.forall_mem_cons.mpr ⟨mo_Fo_decodeDecimal, List.forall_mem_cons.mpr ⟨mo_La_store, List.forall_mem_cons.mpr ⟨mo_SR_store, List.forall_mem_cons.mpr ⟨mo_Fo_encode, List.forall_mem_cons.mpr ⟨mo_Fo_encodeWhole, List.forall_mem_cons.mpr ⟨mo_Fo_encodeBinary, List.forall_mem_cons.mpr ⟨mo_Fo_binaryImage, List.forall_mem_cons.mpr ⟨mo_Fo_encodeDecimal, List.forall_mem_cons.mpr ⟨mo_Me_storeWhenFree, List.forall_mem_cons.mpr ⟨mo_La_write, List.forall_mem_cons.mpr ⟨mo_SR_write, List.forall_mem_cons.mpr ⟨mo_La_memory, List.forall_mem_cons.mpr ⟨mo_SR_memory, List.forall_mem_cons.mpr ⟨mo_La_pass, List.forall_mem_cons.mpr ⟨mo_SR_pass, List.forall_mem_cons.mpr ⟨mo_La_kind, List.forall_mem_cons.mpr ⟨mo_SR_kind, List.forall_mem_cons.mpr ⟨mo_SR_isOnStack, List.forall_mem_cons.mpr ⟨mo_La_exponent, List.forall_mem_cons.mpr ⟨mo_SR_exponent, List.forall_mem_cons.mpr ⟨mo_La_significand, List.forall_mem_cons.mpr ⟨mo_SR_significand, List.forall_mem_cons.mpr ⟨mo_Mo_thrown, List.forall_mem_cons.mpr ⟨mo_Mo_control, List.forall_mem_cons.mpr ⟨mo_Mo_out, List.forall_mem_cons.mpr ⟨mo_Mo_operate, List.forall_mem_cons.mpr ⟨mo_Mo_cost, List.forall_mem_cons.mpr ⟨mo_Mo_begin, List.forall_mem_cons.mpr ⟨mo_Mo_goOn, List.forall_mem_cons.mpr ⟨mo_Mo_refuse, List.forall_mem_cons.mpr ⟨mo_Mo_throwing, List.forall_mem_cons.mpr ⟨mo_Mo_copy, List.forall_mem_cons.mpr ⟨mo_Mo_reckon, List.forall_mem_cons.mpr ⟨mo_Mo_sum, List.forall_mem_cons.mpr ⟨mo_Mo_either, List.forall_mem_cons.mpr ⟨mo_Mo_special, List.forall_mem_cons.mpr ⟨mo_Mo_invalid, List.forall_mem_cons.mpr ⟨mo_Mo_put, List.forall_mem_cons.mpr ⟨mo_Mo_blank, List.forall_mem_cons.mpr ⟨mo_Mo_result, List.forall_mem_cons.mpr ⟨mo_Mo_round, List.forall_mem_cons.mpr ⟨mo_Mo_top, List.forall_mem_cons.mpr ⟨mo_Mo_bit, List.forall_mem_cons.mpr ⟨mo_Mo_goesUp, List.forall_mem_cons.mpr ⟨mo_Mo_shift, List.forall_mem_cons.mpr ⟨mo_Mo_setBit, List.forall_mem_cons.mpr ⟨mo_Mo_add, List.forall_mem_cons.mpr ⟨mo_Mo_lowest, List.forall_mem_cons.mpr ⟨mo_Mo_tooLarge, List.forall_mem_cons.mpr ⟨mo_Mo_finiteSum, List.forall_mem_cons.mpr ⟨mo_Mo_compareRows, List.forall_mem_cons.mpr ⟨mo_Mo_product, List.forall_mem_cons.mpr ⟨mo_Mo_times, List.forall_mem_cons.mpr ⟨mo_Mo_quotient, List.forall_mem_cons.mpr ⟨mo_Mo_finiteQuotient, List.forall_mem_cons.mpr ⟨mo_Mo_change, List.forall_mem_cons.mpr ⟨mo_Mo_move, List.forall_mem_cons.mpr ⟨mo_Mo_compared, List.forall_mem_cons.mpr ⟨mo_Mo_rank, List.forall_mem_cons.mpr ⟨mo_Mo_exactly, List.forall_mem_cons.mpr ⟨mo_Mo_extract, List.forall_mem_cons.mpr ⟨mo_Mo_alter, List.forall_mem_cons.mpr ⟨mo_Mo_root, List.forall_mem_cons.mpr ⟨mo_Mo_integer, List.forall_mem_cons.mpr ⟨mo_Mo_whole, List.forall_mem_cons.mpr ⟨mo_Mo_scaled, List.forall_mem_cons.mpr ⟨mo_Mo_load, List.forall_mem_cons.mpr ⟨mo_Mo_readWhole, List.forall_mem_cons.mpr ⟨mo_Mo_readReal, List.forall_mem_cons.mpr ⟨mo_Mo_readDecimal, List.forall_mem_cons.mpr ⟨mo_Mo_store, List.forall_mem_cons.mpr ⟨mo_Mo_writeReal, List.forall_mem_cons.mpr ⟨mo_Mo_writeWhole, List.forall_mem_cons.mpr ⟨mo_Mo_write, List.forall_mem_cons.mpr ⟨mo_Mo_memory, List.forall_mem_cons.mpr ⟨mo_Mo_pass, List.forall_mem_cons.mpr ⟨mo_Mo_await, List.forall_mem_cons.mpr ⟨mo_Mo_time, List.forall_mem_cons.mpr ⟨mo_Mo_flags, List.forall_mem_cons.mpr ⟨mo_Mo_clear, List.forall_mem_cons.mpr ⟨mo_Mo_condition, List.forall_mem_cons.mpr ⟨mo_Mo_depth, List.forall_mem_cons.mpr ⟨mo_Mo_kind, List.forall_mem_cons.mpr ⟨mo_Mo_exponent, List.forall_mem_cons.mpr ⟨mo_Mo_significand, fun _ h => absurd h List.not_mem_nil⟩⟩⟩⟩⟩⟩⟩⟩⟩⟩⟩⟩⟩⟩⟩⟩⟩⟩⟩⟩⟩⟩⟩⟩⟩⟩⟩⟩⟩⟩⟩⟩⟩⟩⟩⟩⟩⟩⟩⟩⟩⟩⟩⟩⟩⟩⟩⟩⟩⟩⟩⟩⟩⟩⟩⟩⟩⟩⟩⟩⟩⟩⟩⟩⟩⟩⟩⟩⟩⟩⟩⟩⟩⟩⟩⟩⟩⟩⟩⟩⟩⟩⟩⟩⟩⟩⟩⟩⟩⟩⟩⟩⟩⟩⟩⟩⟩⟩⟩⟩⟩⟩⟩⟩⟩⟩⟩⟩⟩⟩⟩⟩⟩⟩⟩⟩⟩⟩⟩⟩⟩⟩⟩⟩⟩⟩⟩⟩⟩⟩⟩⟩⟩⟩⟩⟩⟩⟩⟩⟩⟩⟩⟩⟩⟩⟩⟩⟩⟩⟩⟩⟩⟩
set_option maxRecDepth 20000 in
theorem zAll_ck : ∀ y ∈ zAll, ckm y = true := List.forall_mem_cons.mpr ⟨ck_SR_await, List.forall_mem_cons.mpr ⟨ck_Me_waitUntilFree, List.forall_mem_cons.mpr ⟨ck_Me_goOn, List.forall_mem_cons.mpr ⟨ck_SR_time, List.forall_mem_cons.mpr ⟨ck_SR_flags, List.forall_mem_cons.mpr ⟨ck_SR_clear, List.forall_mem_cons.mpr ⟨ck_SR_condition, List.forall_mem_cons.mpr ⟨ck_SR_depth, List.forall_mem_cons.mpr ⟨ck_La_control, List.forall_mem_cons.mpr ⟨ck_SR_control, List.forall_mem_cons.mpr ⟨ck_La_operate, List.forall_mem_cons.mpr ⟨ck_SR_operate, List.forall_mem_cons.mpr ⟨ck_SR_namesPlace, List.forall_mem_cons.mpr ⟨ck_Me_occupy, List.forall_mem_cons.mpr ⟨ck_SR_isPossible, List.forall_mem_cons.mpr ⟨ck_SR_pushes, List.forall_mem_cons.mpr ⟨ck_SR_st, List.forall_mem_cons.mpr ⟨ck_SR_raise, List.forall_mem_cons.mpr ⟨ck_SR_workOut, List.forall_mem_cons.mpr ⟨ck_Ar_add, List.forall_mem_cons.mpr ⟨ck_Re_becomeNan, List.forall_mem_cons.mpr ⟨ck_Ar_addInfinite, List.forall_mem_cons.mpr ⟨ck_Ar_makeInvalid, List.forall_mem_cons.mpr ⟨ck_Re_copy, List.forall_mem_cons.mpr ⟨ck_Re_becomeZero, List.forall_mem_cons.mpr ⟨ck_Ex_copy, List.forall_mem_cons.mpr ⟨ck_Ex_becomeSum, List.forall_mem_cons.mpr ⟨ck_SR_compareMagnitudes, List.forall_mem_cons.mpr ⟨ck_SR_isBelow, List.forall_mem_cons.mpr ⟨ck_Ex_combine, List.forall_mem_cons.mpr ⟨ck_Ex_lowerPart, List.forall_mem_cons.mpr ⟨ck_Ex_putOn, List.forall_mem_cons.mpr ⟨ck_Ex_takeAway, List.forall_mem_cons.mpr ⟨ck_Ex_normalize, List.forall_mem_cons.mpr ⟨ck_Ex_isZero, List.forall_mem_cons.mpr ⟨ck_Ro_round, List.forall_mem_cons.mpr ⟨ck_Ro_roundTo, List.forall_mem_cons.mpr ⟨ck_Ro_goesAway, List.forall_mem_cons.mpr ⟨ck_Ro_staysBelowInfinite, List.forall_mem_cons.mpr ⟨ck_Re_becomeFinite, List.forall_mem_cons.mpr ⟨ck_Re_becomeInfinite, List.forall_mem_cons.mpr ⟨ck_Re_negate, List.forall_mem_cons.mpr ⟨ck_Ar_multiply, List.forall_mem_cons.mpr ⟨ck_Ex_becomeProduct, List.forall_mem_cons.mpr ⟨ck_Ex_multiplyBits, List.forall_mem_cons.mpr ⟨ck_Ar_divide, List.forall_mem_cons.mpr ⟨ck_Ex_becomeQuotient, List.forall_mem_cons.mpr ⟨ck_Ex_fitsInDouble, List.forall_mem_cons.mpr ⟨ck_Ar_root, List.forall_mem_cons.mpr ⟨ck_Ex_becomeRoot, List.forall_mem_cons.mpr ⟨ck_Ex_isAbove, List.forall_mem_cons.mpr ⟨ck_Ar_makeWhole, List.forall_mem_cons.mpr ⟨ck_Re_isWhole, List.forall_mem_cons.mpr ⟨ck_Ro_wholeMagnitude, List.forall_mem_cons.mpr ⟨ck_Re_becomeWhole, List.forall_mem_cons.mpr ⟨ck_Ar_scale, List.forall_mem_cons.mpr ⟨ck_SR_carryOut, List.forall_mem_cons.mpr ⟨ck_SR_extract, List.forall_mem_cons.mpr ⟨ck_SR_push, List.forall_mem_cons.mpr ⟨ck_SR_exchange, List.forall_mem_cons.mpr ⟨ck_SR_conditionOf, List.forall_mem_cons.mpr ⟨ck_SR_compareReals, List.forall_mem_cons.mpr ⟨ck_La_load, List.forall_mem_cons.mpr ⟨ck_SR_load, List.forall_mem_cons.mpr ⟨ck_SR_isCell, List.forall_mem_cons.mpr ⟨ck_SR_isForm, List.forall_mem_cons.mpr ⟨ck_Fo_decode, List.forall_mem_cons.mpr ⟨ck_Fo_decodeBinary, List.forall_mem_cons.mpr ⟨ck_Fo_decodeDecimal, List.forall_mem_cons.mpr ⟨ck_La_store, List.forall_mem_cons.mpr ⟨ck_SR_store, List.forall_mem_cons.mpr ⟨ck_Fo_encode, List.forall_mem_cons.mpr ⟨ck_Fo_encodeWhole, List.forall_mem_cons.mpr ⟨ck_Fo_encodeBinary, List.forall_mem_cons.mpr ⟨ck_Fo_binaryImage, List.forall_mem_cons.mpr ⟨ck_Fo_encodeDecimal, List.forall_mem_cons.mpr ⟨ck_Me_storeWhenFree, List.forall_mem_cons.mpr ⟨ck_La_write, List.forall_mem_cons.mpr ⟨ck_SR_write, List.forall_mem_cons.mpr ⟨ck_La_memory, List.forall_mem_cons.mpr ⟨ck_SR_memory, List.forall_mem_cons.mpr ⟨ck_La_pass, List.forall_mem_cons.mpr ⟨ck_SR_pass, List.forall_mem_cons.mpr ⟨ck_La_kind, List.forall_mem_cons.mpr ⟨ck_SR_kind, List.forall_mem_cons.mpr ⟨ck_SR_isOnStack, List.forall_mem_cons.mpr ⟨ck_La_exponent, List.forall_mem_cons.mpr ⟨ck_SR_exponent, List.forall_mem_cons.mpr ⟨ck_La_significand, List.forall_mem_cons.mpr ⟨ck_SR_significand, List.forall_mem_cons.mpr ⟨ck_Mo_thrown, List.forall_mem_cons.mpr ⟨ck_Mo_control, List.forall_mem_cons.mpr ⟨ck_Mo_out, List.forall_mem_cons.mpr ⟨ck_Mo_operate, List.forall_mem_cons.mpr ⟨ck_Mo_cost, List.forall_mem_cons.mpr ⟨ck_Mo_begin, List.forall_mem_cons.mpr ⟨ck_Mo_goOn, List.forall_mem_cons.mpr ⟨ck_Mo_refuse, List.forall_mem_cons.mpr ⟨ck_Mo_throwing, List.forall_mem_cons.mpr ⟨ck_Mo_copy, List.forall_mem_cons.mpr ⟨ck_Mo_reckon, List.forall_mem_cons.mpr ⟨ck_Mo_sum, List.forall_mem_cons.mpr ⟨ck_Mo_either, List.forall_mem_cons.mpr ⟨ck_Mo_special, List.forall_mem_cons.mpr ⟨ck_Mo_invalid, List.forall_mem_cons.mpr ⟨ck_Mo_put, List.forall_mem_cons.mpr ⟨ck_Mo_blank, List.forall_mem_cons.mpr ⟨ck_Mo_result, List.forall_mem_cons.mpr ⟨ck_Mo_round, List.forall_mem_cons.mpr ⟨ck_Mo_top, List.forall_mem_cons.mpr ⟨ck_Mo_bit, List.forall_mem_cons.mpr ⟨ck_Mo_goesUp, List.forall_mem_cons.mpr ⟨ck_Mo_shift, List.forall_mem_cons.mpr ⟨ck_Mo_setBit, List.forall_mem_cons.mpr ⟨ck_Mo_add, List.forall_mem_cons.mpr ⟨ck_Mo_lowest, List.forall_mem_cons.mpr ⟨ck_Mo_tooLarge, List.forall_mem_cons.mpr ⟨ck_Mo_finiteSum, List.forall_mem_cons.mpr ⟨ck_Mo_compareRows, List.forall_mem_cons.mpr ⟨ck_Mo_product, List.forall_mem_cons.mpr ⟨ck_Mo_times, List.forall_mem_cons.mpr ⟨ck_Mo_quotient, List.forall_mem_cons.mpr ⟨ck_Mo_finiteQuotient, List.forall_mem_cons.mpr ⟨ck_Mo_change, List.forall_mem_cons.mpr ⟨ck_Mo_move, List.forall_mem_cons.mpr ⟨ck_Mo_compared, List.forall_mem_cons.mpr ⟨ck_Mo_rank, List.forall_mem_cons.mpr ⟨ck_Mo_exactly, List.forall_mem_cons.mpr ⟨ck_Mo_extract, List.forall_mem_cons.mpr ⟨ck_Mo_alter, List.forall_mem_cons.mpr ⟨ck_Mo_root, List.forall_mem_cons.mpr ⟨ck_Mo_integer, List.forall_mem_cons.mpr ⟨ck_Mo_whole, List.forall_mem_cons.mpr ⟨ck_Mo_scaled, List.forall_mem_cons.mpr ⟨ck_Mo_load, List.forall_mem_cons.mpr ⟨ck_Mo_readWhole, List.forall_mem_cons.mpr ⟨ck_Mo_readReal, List.forall_mem_cons.mpr ⟨ck_Mo_readDecimal, List.forall_mem_cons.mpr ⟨ck_Mo_store, List.forall_mem_cons.mpr ⟨ck_Mo_writeReal, List.forall_mem_cons.mpr ⟨ck_Mo_writeWhole, List.forall_mem_cons.mpr ⟨ck_Mo_write, List.forall_mem_cons.mpr ⟨ck_Mo_memory, List.forall_mem_cons.mpr ⟨ck_Mo_pass, List.forall_mem_cons.mpr ⟨ck_Mo_await, List.forall_mem_cons.mpr ⟨ck_Mo_time, List.forall_mem_cons.mpr ⟨ck_Mo_flags, List.forall_mem_cons.mpr ⟨ck_Mo_clear, List.forall_mem_cons.mpr ⟨ck_Mo_condition, List.forall_mem_cons.mpr ⟨ck_Mo_depth, List.forall_mem_cons.mpr ⟨ck_Mo_kind, List.forall_mem_cons.mpr ⟨ck_Mo_exponent, List.forall_mem_cons.mpr ⟨ck_Mo_significand, fun _ h => absurd h List.not_mem_nil⟩⟩⟩⟩⟩⟩⟩⟩⟩⟩⟩⟩⟩⟩⟩⟩⟩⟩⟩⟩⟩⟩⟩⟩⟩⟩⟩⟩⟩⟩⟩⟩⟩⟩⟩⟩⟩⟩⟩⟩⟩⟩⟩⟩⟩⟩⟩⟩⟩⟩⟩⟩⟩⟩⟩⟩⟩⟩⟩⟩⟩⟩⟩⟩⟩⟩⟩⟩⟩⟩⟩⟩⟩⟩⟩⟩⟩⟩⟩⟩⟩⟩⟩⟩⟩⟩⟩⟩⟩⟩⟩⟩⟩⟩⟩⟩⟩⟩⟩⟩⟩⟩⟩⟩⟩⟩⟩⟩⟩⟩⟩⟩⟩⟩⟩⟩⟩⟩⟩⟩⟩⟩⟩⟩⟩⟩⟩⟩⟩⟩⟩⟩⟩⟩⟩⟩⟩⟩⟩⟩⟩⟩⟩⟩⟩⟩⟩⟩⟩⟩⟩⟩⟩
theorem zfetch_ok {mi : ZM} {pc n : Nat} {i : Instr} (hm : mi = m_law ∨ mi ∈ zAll) (h : zfetch mi pc = some (i, n)) : decode (zCode mi) pc = .ok (i, n) ∧ zok (zMl mi) pc i n = true := by
  have hc : ckm mi = true := by
    rcases hm with rfl | hm
    · exact ck_law
    · exact zAll_ck mi hm
  have h1 := List.all_eq_true.mp hc (pc, i, n) (look_mem h)
  rw [Bool.and_eq_true, decide_eq_true_eq] at h1
  exact h1
/-! classes -/
theorem zReal_ok : zCl[zReal]? = some ("StackReal$Real", F_Re, 4) := rfl
theorem zCl_nm {ci : Nat} {r : vw_C} (h : zCl[ci]? = some r) : r.1 = zCn ci := by
  match ci, h with
  | 0, h => cases h; rfl
  | 1, h => cases h; rfl
  | 2, h => cases h; rfl
  | 3, h => cases h; rfl
  | 4, h => cases h; rfl
  | 5, h => cases h; rfl
  | 6, h => cases h; rfl
  | 7, h => cases h; rfl
  | (n + 8), h => simp at h
def zClok (ci : Nat) (r : vw_C) : Prop := (∀ w ∈ u_ws r.1 r.2.1 r.2.2, w ∈ zWs) ∧ (∀ k, k < r.2.2 → parseFieldDescriptor (r.2.1 k).2.2.1 = some (zTyp ci k)) ∧ (∀ a, a < r.2.2 → ∀ b, b < r.2.2 → a ≠ b → (r.2.1 a).2.1 ≠ (r.2.1 b).2.1) ∧ (∀ k, k < r.2.2 → zFin ci k = (r.2.1 k).2.2.2)
def zLy (l : List Nat) (C : String) (T : u_T) (N : Nat) : Bool := decide (l.length = N) && (List.range N).all (fun k => decide (lw_tbl[l.getD k 0]? = some (u_lay C T k)) && zmov (u_lay C T k))
theorem zLy_in {l : List Nat} {C : String} {T : u_T} {N : Nat} (h : zLy l C T N = true) : ∀ w ∈ u_ws C T N, w ∈ zWs := by
  intro w hw
  obtain ⟨k, hk, rfl⟩ := List.mem_map.mp hw
  unfold zLy at h
  rw [Bool.and_eq_true] at h
  have h1 := List.all_eq_true.mp h.2 k hk
  exact zW_in _ h1
theorem zc_0 : zClok 0 ("StackReal", F_SR, 11) := ⟨zLy_in (l := [242, 244, 246, 248, 250, 252, 254, 256, 258, 260, 262]) (by decide +kernel), by decide +kernel, by decide +kernel, by decide +kernel⟩
theorem zc_1 : zClok 1 ("StackReal$Real", F_Re, 4) := ⟨zLy_in (l := [117, 119, 121, 123]) (by decide +kernel), by decide +kernel, by decide +kernel, by decide +kernel⟩
theorem zc_2 : zClok 2 ("StackReal$Exact", F_Ex, 4) := ⟨zLy_in (l := [163, 165, 167, 169]) (by decide +kernel), by decide +kernel, by decide +kernel, by decide +kernel⟩
theorem zc_3 : zClok 3 ("StackReal$Rounding", F_Ro, 2) := ⟨zLy_in (l := [137, 139]) (by decide +kernel), by decide +kernel, by decide +kernel, by decide +kernel⟩
theorem zc_4 : zClok 4 ("StackReal$Arithmetic", F_Ar, 2) := ⟨zLy_in (l := [174, 176]) (by decide +kernel), by decide +kernel, by decide +kernel, by decide +kernel⟩
theorem zc_5 : zClok 5 ("StackReal$Forms", F_Fo, 4) := ⟨zLy_in (l := [194, 196, 198, 200]) (by decide +kernel), by decide +kernel, by decide +kernel, by decide +kernel⟩
theorem zc_6 : zClok 6 ("StackReal$Memory", F_Me, 6) := ⟨zLy_in (l := [217, 219, 221, 223, 225, 227]) (by decide +kernel), by decide +kernel, by decide +kernel, by decide +kernel⟩
theorem zc_7 : zClok 7 ("StackRealModel", F_Mo, 18) := ⟨zLy_in (l := [757, 759, 761, 763, 765, 767, 769, 771, 773, 775, 777, 779, 781, 783, 785, 787, 789, 791]) (by decide +kernel), by decide +kernel, by decide +kernel, by decide +kernel⟩
theorem zCl_all {ci : Nat} {r : vw_C} (h : zCl[ci]? = some r) : zClok ci r := by
  match ci, h with
  | 0, h => cases h; exact zc_0
  | 1, h => cases h; exact zc_1
  | 2, h => cases h; exact zc_2
  | 3, h => cases h; exact zc_3
  | 4, h => cases h; exact zc_4
  | 5, h => cases h; exact zc_5
  | 6, h => cases h; exact zc_6
  | 7, h => cases h; exact zc_7
  | (n + 8), h => simp at h
theorem zCl_ok {ci : Nat} {C : String} {T : u_T} {N : Nat} (h : zCl[ci]? = some (C, T, N)) : (∀ w ∈ u_ws C T N, w ∈ zWs) ∧ (∀ k, k < N → parseFieldDescriptor (T k).2.2.1 = some (zTyp ci k)) ∧ (∀ a, a < N → ∀ b, b < N → a ≠ b → (T a).2.1 ≠ (T b).2.1) ∧ (∀ k, k < N → zFin ci k = (T k).2.2.2) := zCl_all h
/-! pools -/
def ckF (cn : Nat) : Bool := (zFldT cn).all (fun q => match zCl[q.2.1]? with | some r => decide (q.2.2.1 < r.2.2) && (decide (lw_tbl[q.2.2.2]? = some (.fieldLink (zCn cn) q.1 (r.2.1 q.2.2.1).1 (r.2.1 q.2.2.1).2.1 (r.2.1 q.2.2.1).2.2.1)) && zmov (.fieldLink (zCn cn) q.1 (r.2.1 q.2.2.1).1 (r.2.1 q.2.2.1).2.1 (r.2.1 q.2.2.1).2.2.1)) | none => false)
theorem ckF_0 : ckF 0 = true := by decide +kernel
theorem ckF_1 : ckF 1 = true := by decide +kernel
theorem ckF_2 : ckF 2 = true := by decide +kernel
theorem ckF_3 : ckF 3 = true := by decide +kernel
theorem ckF_4 : ckF 4 = true := by decide +kernel
theorem ckF_5 : ckF 5 = true := by decide +kernel
theorem ckF_6 : ckF 6 = true := by decide +kernel
theorem ckF_7 : ckF 7 = true := by decide +kernel
theorem ckF_8 : ckF 8 = true := by decide +kernel
theorem ckF_all (cn : Nat) : ckF cn = true := by
  match cn with
  | 0 => exact ckF_0
  | 1 => exact ckF_1
  | 2 => exact ckF_2
  | 3 => exact ckF_3
  | 4 => exact ckF_4
  | 5 => exact ckF_5
  | 6 => exact ckF_6
  | 7 => exact ckF_7
  | 8 => exact ckF_8
  | (n + 9) => rfl
theorem zFld_ok {cn x ci j : Nat} (h : zFld cn x = some (ci, j)) : ∃ C T N, zCl[ci]? = some (C, T, N) ∧ j < N ∧ (Jvm.Cond.fieldLink (zCn cn) x (T j).1 (T j).2.1 (T j).2.2.1 ∈ zWs ∨ ∃ host, Jvm.Cond.fieldLinkNest (zCn cn) x (T j).1 (T j).2.1 (T j).2.2.1 host ∈ zWs) := by
  unfold zFld at h
  cases hl : (zFldT cn).lookup x with
  | none => rw [hl] at h; cases h
  | some q =>
    obtain ⟨a, b, ix⟩ := q
    rw [hl] at h
    cases h
    have h1 := List.all_eq_true.mp (ckF_all cn) _ (look_mem hl)
    cases hc : zCl[a]? with
    | none => simp only [hc] at h1; cases h1
    | some r =>
      obtain ⟨C, T, N⟩ := r
      simp only [hc] at h1
      rw [Bool.and_eq_true, decide_eq_true_eq] at h1
      exact ⟨C, T, N, rfl, h1.1, Or.inl (zW_in ix h1.2)⟩
def ck_zInt (cn : Nat) : Bool := (zIntT cn).all (fun q => decide (lw_tbl[q.2.2]? = some (.constant (zCn cn) q.1 q.2.1)) && zmov (.constant (zCn cn) q.1 q.2.1))
theorem ck_zInt_0 : ck_zInt 0 = true := by decide +kernel
theorem ck_zInt_1 : ck_zInt 1 = true := by decide +kernel
theorem ck_zInt_2 : ck_zInt 2 = true := by decide +kernel
theorem ck_zInt_3 : ck_zInt 3 = true := by decide +kernel
theorem ck_zInt_4 : ck_zInt 4 = true := by decide +kernel
theorem ck_zInt_5 : ck_zInt 5 = true := by decide +kernel
theorem ck_zInt_6 : ck_zInt 6 = true := by decide +kernel
theorem ck_zInt_7 : ck_zInt 7 = true := by decide +kernel
theorem ck_zInt_8 : ck_zInt 8 = true := by decide +kernel
theorem ck_zInt_all (cn : Nat) : ck_zInt cn = true := by
  match cn with
  | 0 => exact ck_zInt_0
  | 1 => exact ck_zInt_1
  | 2 => exact ck_zInt_2
  | 3 => exact ck_zInt_3
  | 4 => exact ck_zInt_4
  | 5 => exact ck_zInt_5
  | 6 => exact ck_zInt_6
  | 7 => exact ck_zInt_7
  | 8 => exact ck_zInt_8
  | (n + 9) => rfl
theorem zInt_ok {cn x : Nat} {v : Int32} (h : zInt cn x = some v) : Jvm.Cond.constant (zCn cn) x v ∈ zWs := by
  unfold zInt at h
  cases hl : (zIntT cn).lookup x with
  | none => rw [hl] at h; cases h
  | some q =>
    rw [hl] at h
    cases h
    exact zW_in q.2 (List.all_eq_true.mp (ck_zInt_all cn) _ (look_mem hl))
def ck_zLng (cn : Nat) : Bool := (zLngT cn).all (fun q => decide (lw_tbl[q.2.2]? = some (.constantLong (zCn cn) q.1 q.2.1)) && zmov (.constantLong (zCn cn) q.1 q.2.1))
theorem ck_zLng_0 : ck_zLng 0 = true := by decide +kernel
theorem ck_zLng_1 : ck_zLng 1 = true := by decide +kernel
theorem ck_zLng_2 : ck_zLng 2 = true := by decide +kernel
theorem ck_zLng_3 : ck_zLng 3 = true := by decide +kernel
theorem ck_zLng_4 : ck_zLng 4 = true := by decide +kernel
theorem ck_zLng_5 : ck_zLng 5 = true := by decide +kernel
theorem ck_zLng_6 : ck_zLng 6 = true := by decide +kernel
theorem ck_zLng_7 : ck_zLng 7 = true := by decide +kernel
theorem ck_zLng_8 : ck_zLng 8 = true := by decide +kernel
theorem ck_zLng_all (cn : Nat) : ck_zLng cn = true := by
  match cn with
  | 0 => exact ck_zLng_0
  | 1 => exact ck_zLng_1
  | 2 => exact ck_zLng_2
  | 3 => exact ck_zLng_3
  | 4 => exact ck_zLng_4
  | 5 => exact ck_zLng_5
  | 6 => exact ck_zLng_6
  | 7 => exact ck_zLng_7
  | 8 => exact ck_zLng_8
  | (n + 9) => rfl
theorem zLng_ok {cn x : Nat} {v : Int64} (h : zLng cn x = some v) : Jvm.Cond.constantLong (zCn cn) x v ∈ zWs := by
  unfold zLng at h
  cases hl : (zLngT cn).lookup x with
  | none => rw [hl] at h; cases h
  | some q =>
    rw [hl] at h
    cases h
    exact zW_in q.2 (List.all_eq_true.mp (ck_zLng_all cn) _ (look_mem hl))
theorem zSta_ok {cn x k : Nat} (h : zSta cn x = some k) : ∃ C n d, (k, C, n, d) ∈ zStN ∧ Jvm.Cond.fieldLink (zCn cn) x C n d ∈ zWs := by
  unfold zSta at h
  cases hl : (zStaT cn).lookup x with
  | none => rw [hl] at h; cases h
  | some q =>
    rw [hl] at h
    cases h
    have h1 := look_mem hl
    match cn, h1 with
    | 0, h1 =>
      simp only [zStaT, List.mem_cons, List.not_mem_nil, or_false] at h1
      rcases h1 with h1 | h1
      · cases h1; exact ⟨"StackReal", "TICKS", "[I", by decide +kernel, zW_in 387 (by decide +kernel)⟩
      · cases h1; exact ⟨"StackReal", "NEEDED", "[I", by decide +kernel, zW_in 398 (by decide +kernel)⟩
    | (n + 1), h1 => exact absurd h1 List.not_mem_nil
def zCalSo (cn : Nat) (q : Nat × ZM × Nat × Nat × Nat × Nat × String) : Prop := q.2.1 ∈ zAll ∧ (parseMethodDescriptor (zNm q.2.1).desc).map (fun d => d.parameters.length) = some q.2.2.1 ∧ Jvm.Cond.static (zNm q.2.1) ∈ zWs ∧ Jvm.Cond.initialized (zNm q.2.1).cls ∈ zWs ∧ (Jvm.Cond.methodLink (zCn cn) q.1 (zNm q.2.1) ∈ zWs ∨ ∃ host, Jvm.Cond.methodLinkNest (zCn cn) q.1 (zNm q.2.1) host ∈ zWs)
theorem zCalS_0_85 : zCalSo 0 (85, m_SR_namesPlace, 1, 383, 384, 67, "") := ⟨List.mem_of_getElem? (i := 12) rfl, by decide +kernel, zW_in 384 (by decide +kernel), zW_in 67 (by decide +kernel), Or.inl (zW_in 383 (by decide +kernel))⟩
theorem zCalS_0_114 : zCalSo 0 (114, m_SR_isCell, 1, 619, 620, 67, "") := ⟨List.mem_of_getElem? (i := 64) rfl, by decide +kernel, zW_in 620 (by decide +kernel), zW_in 67 (by decide +kernel), Or.inl (zW_in 619 (by decide +kernel))⟩
theorem zCalS_0_117 : zCalSo 0 (117, m_SR_isForm, 1, 622, 623, 67, "") := ⟨List.mem_of_getElem? (i := 65) rfl, by decide +kernel, zW_in 623 (by decide +kernel), zW_in 67 (by decide +kernel), Or.inl (zW_in 622 (by decide +kernel))⟩
theorem zCalS_0_194 : zCalSo 0 (194, m_SR_pushes, 1, 400, 401, 67, "") := ⟨List.mem_of_getElem? (i := 15) rfl, by decide +kernel, zW_in 401 (by decide +kernel), zW_in 67 (by decide +kernel), Or.inl (zW_in 400 (by decide +kernel))⟩
theorem zCalS_0_226 : zCalSo 0 (226, m_SR_conditionOf, 2, 604, 605, 67, "") := ⟨List.mem_of_getElem? (i := 60) rfl, by decide +kernel, zW_in 605 (by decide +kernel), zW_in 67 (by decide +kernel), Or.inl (zW_in 604 (by decide +kernel))⟩
theorem zCalS_0_241 : zCalSo 0 (241, m_SR_compareReals, 2, 607, 608, 67, "") := ⟨List.mem_of_getElem? (i := 61) rfl, by decide +kernel, zW_in 608 (by decide +kernel), zW_in 67 (by decide +kernel), Or.inl (zW_in 607 (by decide +kernel))⟩
theorem zCalS_0_244 : zCalSo 0 (244, m_SR_compareMagnitudes, 2, 610, 463, 67, "") := ⟨List.mem_of_getElem? (i := 27) rfl, by decide +kernel, zW_in 463 (by decide +kernel), zW_in 67 (by decide +kernel), Or.inl (zW_in 610 (by decide +kernel))⟩
theorem zCalS_0_247 : zCalSo 0 (247, m_SR_isBelow, 2, 465, 466, 67, "") := ⟨List.mem_of_getElem? (i := 28) rfl, by decide +kernel, zW_in 466 (by decide +kernel), zW_in 67 (by decide +kernel), Or.inl (zW_in 465 (by decide +kernel))⟩
set_option maxRecDepth 20000 in
theorem zCalS_0 : ∀ q ∈ zCalST 0, zCalSo 0 q := List.forall_mem_cons.mpr ⟨zCalS_0_85, List.forall_mem_cons.mpr ⟨zCalS_0_114, List.forall_mem_cons.mpr ⟨zCalS_0_117, List.forall_mem_cons.mpr ⟨zCalS_0_194, List.forall_mem_cons.mpr ⟨zCalS_0_226, List.forall_mem_cons.mpr ⟨zCalS_0_241, List.forall_mem_cons.mpr ⟨zCalS_0_244, List.forall_mem_cons.mpr ⟨zCalS_0_247, fun _ h => absurd h List.not_mem_nil⟩⟩⟩⟩⟩⟩⟩⟩
theorem zCalS_2_33 : zCalSo 2 (33, m_SR_compareMagnitudes, 2, 462, 463, 67, "StackReal") := ⟨List.mem_of_getElem? (i := 27) rfl, by decide +kernel, zW_in 463 (by decide +kernel), zW_in 67 (by decide +kernel), Or.inr ⟨"StackReal", zW_in 462 (by decide +kernel)⟩⟩
theorem zCalS_2_45 : zCalSo 2 (45, m_Ex_lowerPart, 2, 474, 475, 71, "") := ⟨List.mem_of_getElem? (i := 30) rfl, by decide +kernel, zW_in 475 (by decide +kernel), zW_in 71 (by decide +kernel), Or.inl (zW_in 474 (by decide +kernel))⟩
theorem zCalS_2_56 : zCalSo 2 (56, m_SR_isBelow, 2, 481, 466, 67, "StackReal") := ⟨List.mem_of_getElem? (i := 28) rfl, by decide +kernel, zW_in 466 (by decide +kernel), zW_in 67 (by decide +kernel), Or.inr ⟨"StackReal", zW_in 481 (by decide +kernel)⟩⟩
theorem zCalS_2_70 : zCalSo 2 (70, m_Ex_fitsInDouble, 2, 548, 549, 71, "") := ⟨List.mem_of_getElem? (i := 47) rfl, by decide +kernel, zW_in 549 (by decide +kernel), zW_in 71 (by decide +kernel), Or.inl (zW_in 548 (by decide +kernel))⟩
set_option maxRecDepth 20000 in
theorem zCalS_2 : ∀ q ∈ zCalST 2, zCalSo 2 q := List.forall_mem_cons.mpr ⟨zCalS_2_33, List.forall_mem_cons.mpr ⟨zCalS_2_45, List.forall_mem_cons.mpr ⟨zCalS_2_56, List.forall_mem_cons.mpr ⟨zCalS_2_70, fun _ h => absurd h List.not_mem_nil⟩⟩⟩⟩
theorem zCalS_4_64 : zCalSo 4 (64, m_Ar_makeInvalid, 1, 443, 444, 70, "") := ⟨List.mem_of_getElem? (i := 22) rfl, by decide +kernel, zW_in 444 (by decide +kernel), zW_in 70 (by decide +kernel), Or.inl (zW_in 443 (by decide +kernel))⟩
set_option maxRecDepth 20000 in
theorem zCalS_4 : ∀ q ∈ zCalST 4, zCalSo 4 q := List.forall_mem_cons.mpr ⟨zCalS_4_64, fun _ h => absurd h List.not_mem_nil⟩
theorem zCalS_5_33 : zCalSo 5 (33, m_Fo_decodeBinary, 4, 631, 632, 72, "") := ⟨List.mem_of_getElem? (i := 67) rfl, by decide +kernel, zW_in 632 (by decide +kernel), zW_in 72 (by decide +kernel), Or.inl (zW_in 631 (by decide +kernel))⟩
theorem zCalS_5_37 : zCalSo 5 (37, m_Fo_decodeDecimal, 2, 639, 640, 72, "") := ⟨List.mem_of_getElem? (i := 68) rfl, by decide +kernel, zW_in 640 (by decide +kernel), zW_in 72 (by decide +kernel), Or.inl (zW_in 639 (by decide +kernel))⟩
theorem zCalS_5_114 : zCalSo 5 (114, m_Fo_binaryImage, 3, 669, 670, 72, "") := ⟨List.mem_of_getElem? (i := 74) rfl, by decide +kernel, zW_in 670 (by decide +kernel), zW_in 72 (by decide +kernel), Or.inl (zW_in 669 (by decide +kernel))⟩
set_option maxRecDepth 20000 in
theorem zCalS_5 : ∀ q ∈ zCalST 5, zCalSo 5 q := List.forall_mem_cons.mpr ⟨zCalS_5_33, List.forall_mem_cons.mpr ⟨zCalS_5_37, List.forall_mem_cons.mpr ⟨zCalS_5_114, fun _ h => absurd h List.not_mem_nil⟩⟩⟩
theorem zCalS_7_138 : zCalSo 7 (138, m_Mo_out, 2, 804, 805, 74, "") := ⟨List.mem_of_getElem? (i := 92) rfl, by decide +kernel, zW_in 805 (by decide +kernel), zW_in 74 (by decide +kernel), Or.inl (zW_in 804 (by decide +kernel))⟩
theorem zCalS_7_165 : zCalSo 7 (165, m_Mo_cost, 1, 811, 812, 74, "") := ⟨List.mem_of_getElem? (i := 94) rfl, by decide +kernel, zW_in 812 (by decide +kernel), zW_in 74 (by decide +kernel), Or.inl (zW_in 811 (by decide +kernel))⟩
set_option maxRecDepth 20000 in
theorem zCalS_7 : ∀ q ∈ zCalST 7, zCalSo 7 q := List.forall_mem_cons.mpr ⟨zCalS_7_138, List.forall_mem_cons.mpr ⟨zCalS_7_165, fun _ h => absurd h List.not_mem_nil⟩⟩
theorem zCalS_8_53 : zCalSo 8 (53, m_La_control, 4, 297, 298, 66, "") := ⟨List.mem_of_getElem? (i := 8) rfl, by decide +kernel, zW_in 298 (by decide +kernel), zW_in 66 (by decide +kernel), Or.inl (zW_in 297 (by decide +kernel))⟩
theorem zCalS_8_63 : zCalSo 8 (63, m_La_operate, 4, 374, 375, 66, "") := ⟨List.mem_of_getElem? (i := 10) rfl, by decide +kernel, zW_in 375 (by decide +kernel), zW_in 66 (by decide +kernel), Or.inl (zW_in 374 (by decide +kernel))⟩
theorem zCalS_8_67 : zCalSo 8 (67, m_La_load, 4, 612, 613, 66, "") := ⟨List.mem_of_getElem? (i := 62) rfl, by decide +kernel, zW_in 613 (by decide +kernel), zW_in 66 (by decide +kernel), Or.inl (zW_in 612 (by decide +kernel))⟩
theorem zCalS_8_70 : zCalSo 8 (70, m_La_store, 4, 645, 646, 66, "") := ⟨List.mem_of_getElem? (i := 69) rfl, by decide +kernel, zW_in 646 (by decide +kernel), zW_in 66 (by decide +kernel), Or.inl (zW_in 645 (by decide +kernel))⟩
theorem zCalS_8_75 : zCalSo 8 (75, m_La_write, 3, 683, 684, 66, "") := ⟨List.mem_of_getElem? (i := 77) rfl, by decide +kernel, zW_in 684 (by decide +kernel), zW_in 66 (by decide +kernel), Or.inl (zW_in 683 (by decide +kernel))⟩
theorem zCalS_8_79 : zCalSo 8 (79, m_La_memory, 3, 691, 692, 66, "") := ⟨List.mem_of_getElem? (i := 79) rfl, by decide +kernel, zW_in 692 (by decide +kernel), zW_in 66 (by decide +kernel), Or.inl (zW_in 691 (by decide +kernel))⟩
theorem zCalS_8_83 : zCalSo 8 (83, m_La_pass, 2, 698, 699, 66, "") := ⟨List.mem_of_getElem? (i := 81) rfl, by decide +kernel, zW_in 699 (by decide +kernel), zW_in 66 (by decide +kernel), Or.inl (zW_in 698 (by decide +kernel))⟩
theorem zCalS_8_112 : zCalSo 8 (112, m_La_kind, 3, 707, 708, 66, "") := ⟨List.mem_of_getElem? (i := 83) rfl, by decide +kernel, zW_in 708 (by decide +kernel), zW_in 66 (by decide +kernel), Or.inl (zW_in 707 (by decide +kernel))⟩
theorem zCalS_8_115 : zCalSo 8 (115, m_La_exponent, 3, 719, 720, 66, "") := ⟨List.mem_of_getElem? (i := 86) rfl, by decide +kernel, zW_in 720 (by decide +kernel), zW_in 66 (by decide +kernel), Or.inl (zW_in 719 (by decide +kernel))⟩
theorem zCalS_8_118 : zCalSo 8 (118, m_La_significand, 3, 726, 727, 66, "") := ⟨List.mem_of_getElem? (i := 88) rfl, by decide +kernel, zW_in 727 (by decide +kernel), zW_in 66 (by decide +kernel), Or.inl (zW_in 726 (by decide +kernel))⟩
set_option maxRecDepth 20000 in
theorem zCalS_8 : ∀ q ∈ zCalST 8, zCalSo 8 q := List.forall_mem_cons.mpr ⟨zCalS_8_53, List.forall_mem_cons.mpr ⟨zCalS_8_63, List.forall_mem_cons.mpr ⟨zCalS_8_67, List.forall_mem_cons.mpr ⟨zCalS_8_70, List.forall_mem_cons.mpr ⟨zCalS_8_75, List.forall_mem_cons.mpr ⟨zCalS_8_79, List.forall_mem_cons.mpr ⟨zCalS_8_83, List.forall_mem_cons.mpr ⟨zCalS_8_112, List.forall_mem_cons.mpr ⟨zCalS_8_115, List.forall_mem_cons.mpr ⟨zCalS_8_118, fun _ h => absurd h List.not_mem_nil⟩⟩⟩⟩⟩⟩⟩⟩⟩⟩
theorem zCalS_all (cn : Nat) : ∀ q ∈ zCalST cn, zCalSo cn q := by
  match cn with
  | 0 => exact zCalS_0
  | 1 => exact fun _ h => absurd h List.not_mem_nil
  | 2 => exact zCalS_2
  | 3 => exact fun _ h => absurd h List.not_mem_nil
  | 4 => exact zCalS_4
  | 5 => exact zCalS_5
  | 6 => exact fun _ h => absurd h List.not_mem_nil
  | 7 => exact zCalS_7
  | 8 => exact zCalS_8
  | (n + 9) => exact fun _ h => absurd h List.not_mem_nil
theorem zCalS_ok {cn x a : Nat} {y : ZM} (h : zCalS cn x = some (y, a)) : y ∈ zAll ∧ (parseMethodDescriptor (zNm y).desc).map (fun d => d.parameters.length) = some a ∧ Jvm.Cond.static (zNm y) ∈ zWs ∧ Jvm.Cond.initialized (zNm y).cls ∈ zWs ∧ (Jvm.Cond.methodLink (zCn cn) x (zNm y) ∈ zWs ∨ ∃ host, Jvm.Cond.methodLinkNest (zCn cn) x (zNm y) host ∈ zWs) := by
  unfold zCalS at h
  cases hl : (zCalST cn).lookup x with
  | none => rw [hl] at h; cases h
  | some q =>
    obtain ⟨y9, a9, q9⟩ := q
    rw [hl] at h
    cases h
    exact zCalS_all cn _ (look_mem hl)
def zCalVo (cn : Nat) (q : Nat × ZM × Nat × Nat × Nat × Nat × String) : Prop := q.2.1 ∈ zAll ∧ (parseMethodDescriptor (zNm q.2.1).desc).map (fun d => d.parameters.length) = some q.2.2.1 ∧ Jvm.Cond.instanceMethod (zNm q.2.1) ∈ zWs ∧ Jvm.Cond.selects (zCn (zCno q.2.1)) (zNm q.2.1) (zNm q.2.1) ∈ zWs ∧ (Jvm.Cond.methodLink (zCn cn) q.1 (zNm q.2.1) ∈ zWs ∨ ∃ host, Jvm.Cond.methodLinkNest (zCn cn) q.1 (zNm q.2.1) host ∈ zWs)
theorem zCalV_0_95 : zCalVo 0 (95, m_Me_occupy, 1, 389, 390, 391, "") := ⟨List.mem_of_getElem? (i := 13) rfl, by decide +kernel, zW_in 390 (by decide +kernel), zW_in 391 (by decide +kernel), Or.inl (zW_in 389 (by decide +kernel))⟩
theorem zCalV_0_99 : zCalVo 0 (99, m_SR_isPossible, 2, 394, 396, 1, "") := ⟨List.mem_of_getElem? (i := 14) rfl, by decide +kernel, zW_in 396 (by decide +kernel), zW_in 1 (by decide +kernel), Or.inl (zW_in 394 (by decide +kernel))⟩
theorem zCalV_0_103 : zCalVo 0 (103, m_SR_raise, 1, 407, 409, 3, "") := ⟨List.mem_of_getElem? (i := 17) rfl, by decide +kernel, zW_in 409 (by decide +kernel), zW_in 3 (by decide +kernel), Or.inl (zW_in 407 (by decide +kernel))⟩
theorem zCalV_0_107 : zCalVo 0 (107, m_SR_workOut, 1, 427, 429, 4, "") := ⟨List.mem_of_getElem? (i := 18) rfl, by decide +kernel, zW_in 429 (by decide +kernel), zW_in 4 (by decide +kernel), Or.inl (zW_in 427 (by decide +kernel))⟩
theorem zCalV_0_110 : zCalVo 0 (110, m_SR_carryOut, 2, 586, 588, 14, "") := ⟨List.mem_of_getElem? (i := 56) rfl, by decide +kernel, zW_in 588 (by decide +kernel), zW_in 14 (by decide +kernel), Or.inl (zW_in 586 (by decide +kernel))⟩
theorem zCalV_0_126 : zCalVo 0 (126, m_Fo_decode, 3, 626, 627, 628, "") := ⟨List.mem_of_getElem? (i := 66) rfl, by decide +kernel, zW_in 627 (by decide +kernel), zW_in 628 (by decide +kernel), Or.inl (zW_in 626 (by decide +kernel))⟩
theorem zCalV_0_130 : zCalVo 0 (130, m_SR_push, 1, 596, 598, 16, "") := ⟨List.mem_of_getElem? (i := 58) rfl, by decide +kernel, zW_in 598 (by decide +kernel), zW_in 16 (by decide +kernel), Or.inl (zW_in 596 (by decide +kernel))⟩
theorem zCalV_0_134 : zCalVo 0 (134, m_SR_st, 1, 403, 405, 2, "") := ⟨List.mem_of_getElem? (i := 16) rfl, by decide +kernel, zW_in 405 (by decide +kernel), zW_in 2 (by decide +kernel), Or.inl (zW_in 403 (by decide +kernel))⟩
theorem zCalV_0_138 : zCalVo 0 (138, m_Fo_encode, 2, 652, 653, 654, "") := ⟨List.mem_of_getElem? (i := 71) rfl, by decide +kernel, zW_in 653 (by decide +kernel), zW_in 654 (by decide +kernel), Or.inl (zW_in 652 (by decide +kernel))⟩
theorem zCalV_0_146 : zCalVo 0 (146, m_Me_storeWhenFree, 2, 679, 680, 681, "") := ⟨List.mem_of_getElem? (i := 76) rfl, by decide +kernel, zW_in 680 (by decide +kernel), zW_in 681 (by decide +kernel), Or.inl (zW_in 679 (by decide +kernel))⟩
theorem zCalV_0_154 : zCalVo 0 (154, m_Me_goOn, 1, 706, 274, 275, "") := ⟨List.mem_of_getElem? (i := 2) rfl, by decide +kernel, zW_in 274 (by decide +kernel), zW_in 275 (by decide +kernel), Or.inl (zW_in 706 (by decide +kernel))⟩
theorem zCalV_0_158 : zCalVo 0 (158, m_Me_waitUntilFree, 0, 269, 270, 271, "") := ⟨List.mem_of_getElem? (i := 1) rfl, by decide +kernel, zW_in 270 (by decide +kernel), zW_in 271 (by decide +kernel), Or.inl (zW_in 269 (by decide +kernel))⟩
theorem zCalV_0_165 : zCalVo 0 (165, m_SR_isOnStack, 1, 714, 716, 21, "") := ⟨List.mem_of_getElem? (i := 85) rfl, by decide +kernel, zW_in 716 (by decide +kernel), zW_in 21 (by decide +kernel), Or.inl (zW_in 714 (by decide +kernel))⟩
theorem zCalV_0_183 : zCalVo 0 (183, m_Re_copy, 1, 521, 447, 448, "") := ⟨List.mem_of_getElem? (i := 23) rfl, by decide +kernel, zW_in 447 (by decide +kernel), zW_in 448 (by decide +kernel), Or.inl (zW_in 521 (by decide +kernel))⟩
theorem zCalV_0_197 : zCalVo 0 (197, m_Ar_add, 3, 431, 432, 433, "") := ⟨List.mem_of_getElem? (i := 19) rfl, by decide +kernel, zW_in 432 (by decide +kernel), zW_in 433 (by decide +kernel), Or.inl (zW_in 431 (by decide +kernel))⟩
theorem zCalV_0_201 : zCalVo 0 (201, m_Re_negate, 0, 522, 523, 524, "") := ⟨List.mem_of_getElem? (i := 41) rfl, by decide +kernel, zW_in 523 (by decide +kernel), zW_in 524 (by decide +kernel), Or.inl (zW_in 522 (by decide +kernel))⟩
theorem zCalV_0_204 : zCalVo 0 (204, m_Ar_multiply, 3, 526, 527, 528, "") := ⟨List.mem_of_getElem? (i := 42) rfl, by decide +kernel, zW_in 527 (by decide +kernel), zW_in 528 (by decide +kernel), Or.inl (zW_in 526 (by decide +kernel))⟩
theorem zCalV_0_207 : zCalVo 0 (207, m_Ar_divide, 3, 540, 541, 542, "") := ⟨List.mem_of_getElem? (i := 45) rfl, by decide +kernel, zW_in 541 (by decide +kernel), zW_in 542 (by decide +kernel), Or.inl (zW_in 540 (by decide +kernel))⟩
theorem zCalV_0_210 : zCalVo 0 (210, m_Ar_root, 2, 551, 552, 553, "") := ⟨List.mem_of_getElem? (i := 48) rfl, by decide +kernel, zW_in 552 (by decide +kernel), zW_in 553 (by decide +kernel), Or.inl (zW_in 551 (by decide +kernel))⟩
theorem zCalV_0_214 : zCalVo 0 (214, m_Ar_makeWhole, 2, 563, 564, 565, "") := ⟨List.mem_of_getElem? (i := 51) rfl, by decide +kernel, zW_in 564 (by decide +kernel), zW_in 565 (by decide +kernel), Or.inl (zW_in 563 (by decide +kernel))⟩
theorem zCalV_0_217 : zCalVo 0 (217, m_Ar_scale, 3, 581, 582, 583, "") := ⟨List.mem_of_getElem? (i := 55) rfl, by decide +kernel, zW_in 582 (by decide +kernel), zW_in 583 (by decide +kernel), Or.inl (zW_in 581 (by decide +kernel))⟩
theorem zCalV_0_220 : zCalVo 0 (220, m_SR_extract, 0, 590, 592, 15, "") := ⟨List.mem_of_getElem? (i := 57) rfl, by decide +kernel, zW_in 592 (by decide +kernel), zW_in 15 (by decide +kernel), Or.inl (zW_in 590 (by decide +kernel))⟩
theorem zCalV_0_223 : zCalVo 0 (223, m_SR_exchange, 1, 600, 602, 17, "") := ⟨List.mem_of_getElem? (i := 59) rfl, by decide +kernel, zW_in 602 (by decide +kernel), zW_in 17 (by decide +kernel), Or.inl (zW_in 600 (by decide +kernel))⟩
theorem zCalV_0_229 : zCalVo 0 (229, m_Re_becomeWhole, 2, 595, 576, 577, "") := ⟨List.mem_of_getElem? (i := 54) rfl, by decide +kernel, zW_in 576 (by decide +kernel), zW_in 577 (by decide +kernel), Or.inl (zW_in 595 (by decide +kernel))⟩
theorem zCalV_0_233 : zCalVo 0 (233, m_Re_becomeZero, 1, 611, 451, 452, "") := ⟨List.mem_of_getElem? (i := 24) rfl, by decide +kernel, zW_in 451 (by decide +kernel), zW_in 452 (by decide +kernel), Or.inl (zW_in 611 (by decide +kernel))⟩
theorem zCalV_0_237 : zCalVo 0 (237, m_Re_becomeFinite, 3, 594, 513, 514, "") := ⟨List.mem_of_getElem? (i := 39) rfl, by decide +kernel, zW_in 513 (by decide +kernel), zW_in 514 (by decide +kernel), Or.inl (zW_in 594 (by decide +kernel))⟩
set_option maxRecDepth 20000 in
theorem zCalV_0 : ∀ q ∈ zCalVT 0, zCalVo 0 q := List.forall_mem_cons.mpr ⟨zCalV_0_95, List.forall_mem_cons.mpr ⟨zCalV_0_99, List.forall_mem_cons.mpr ⟨zCalV_0_103, List.forall_mem_cons.mpr ⟨zCalV_0_107, List.forall_mem_cons.mpr ⟨zCalV_0_110, List.forall_mem_cons.mpr ⟨zCalV_0_126, List.forall_mem_cons.mpr ⟨zCalV_0_130, List.forall_mem_cons.mpr ⟨zCalV_0_134, List.forall_mem_cons.mpr ⟨zCalV_0_138, List.forall_mem_cons.mpr ⟨zCalV_0_146, List.forall_mem_cons.mpr ⟨zCalV_0_154, List.forall_mem_cons.mpr ⟨zCalV_0_158, List.forall_mem_cons.mpr ⟨zCalV_0_165, List.forall_mem_cons.mpr ⟨zCalV_0_183, List.forall_mem_cons.mpr ⟨zCalV_0_197, List.forall_mem_cons.mpr ⟨zCalV_0_201, List.forall_mem_cons.mpr ⟨zCalV_0_204, List.forall_mem_cons.mpr ⟨zCalV_0_207, List.forall_mem_cons.mpr ⟨zCalV_0_210, List.forall_mem_cons.mpr ⟨zCalV_0_214, List.forall_mem_cons.mpr ⟨zCalV_0_217, List.forall_mem_cons.mpr ⟨zCalV_0_220, List.forall_mem_cons.mpr ⟨zCalV_0_223, List.forall_mem_cons.mpr ⟨zCalV_0_229, List.forall_mem_cons.mpr ⟨zCalV_0_233, List.forall_mem_cons.mpr ⟨zCalV_0_237, fun _ h => absurd h List.not_mem_nil⟩⟩⟩⟩⟩⟩⟩⟩⟩⟩⟩⟩⟩⟩⟩⟩⟩⟩⟩⟩⟩⟩⟩⟩⟩⟩
theorem zCalV_1_26 : zCalVo 1 (26, m_Re_becomeZero, 1, 579, 451, 452, "") := ⟨List.mem_of_getElem? (i := 24) rfl, by decide +kernel, zW_in 451 (by decide +kernel), zW_in 452 (by decide +kernel), Or.inl (zW_in 579 (by decide +kernel))⟩
theorem zCalV_1_30 : zCalVo 1 (30, m_Re_becomeFinite, 3, 580, 513, 514, "") := ⟨List.mem_of_getElem? (i := 39) rfl, by decide +kernel, zW_in 513 (by decide +kernel), zW_in 514 (by decide +kernel), Or.inl (zW_in 580 (by decide +kernel))⟩
set_option maxRecDepth 20000 in
theorem zCalV_1 : ∀ q ∈ zCalVT 1, zCalVo 1 q := List.forall_mem_cons.mpr ⟨zCalV_1_26, List.forall_mem_cons.mpr ⟨zCalV_1_30, fun _ h => absurd h List.not_mem_nil⟩⟩
theorem zCalV_2_37 : zCalVo 2 (37, m_Ex_combine, 2, 469, 471, 6, "") := ⟨List.mem_of_getElem? (i := 29) rfl, by decide +kernel, zW_in 471 (by decide +kernel), zW_in 6 (by decide +kernel), Or.inl (zW_in 469 (by decide +kernel))⟩
theorem zCalV_2_41 : zCalVo 2 (41, m_Ex_copy, 1, 473, 455, 456, "") := ⟨List.mem_of_getElem? (i := 25) rfl, by decide +kernel, zW_in 455 (by decide +kernel), zW_in 456 (by decide +kernel), Or.inl (zW_in 473 (by decide +kernel))⟩
theorem zCalV_2_49 : zCalVo 2 (49, m_Ex_putOn, 2, 477, 479, 7, "") := ⟨List.mem_of_getElem? (i := 31) rfl, by decide +kernel, zW_in 479 (by decide +kernel), zW_in 7 (by decide +kernel), Or.inl (zW_in 477 (by decide +kernel))⟩
theorem zCalV_2_53 : zCalVo 2 (53, m_Ex_takeAway, 2, 483, 485, 8, "") := ⟨List.mem_of_getElem? (i := 32) rfl, by decide +kernel, zW_in 485 (by decide +kernel), zW_in 8 (by decide +kernel), Or.inl (zW_in 483 (by decide +kernel))⟩
theorem zCalV_2_62 : zCalVo 2 (62, m_Ex_normalize, 0, 487, 489, 9, "") := ⟨List.mem_of_getElem? (i := 33) rfl, by decide +kernel, zW_in 489 (by decide +kernel), zW_in 9 (by decide +kernel), Or.inl (zW_in 487 (by decide +kernel))⟩
theorem zCalV_2_65 : zCalVo 2 (65, m_Ex_multiplyBits, 2, 535, 537, 12, "") := ⟨List.mem_of_getElem? (i := 44) rfl, by decide +kernel, zW_in 537 (by decide +kernel), zW_in 12 (by decide +kernel), Or.inl (zW_in 535 (by decide +kernel))⟩
theorem zCalV_2_73 : zCalVo 2 (73, m_Ex_isAbove, 2, 559, 561, 13, "") := ⟨List.mem_of_getElem? (i := 50) rfl, by decide +kernel, zW_in 561 (by decide +kernel), zW_in 13 (by decide +kernel), Or.inl (zW_in 559 (by decide +kernel))⟩
set_option maxRecDepth 20000 in
theorem zCalV_2 : ∀ q ∈ zCalVT 2, zCalVo 2 q := List.forall_mem_cons.mpr ⟨zCalV_2_37, List.forall_mem_cons.mpr ⟨zCalV_2_41, List.forall_mem_cons.mpr ⟨zCalV_2_49, List.forall_mem_cons.mpr ⟨zCalV_2_53, List.forall_mem_cons.mpr ⟨zCalV_2_62, List.forall_mem_cons.mpr ⟨zCalV_2_65, List.forall_mem_cons.mpr ⟨zCalV_2_73, fun _ h => absurd h List.not_mem_nil⟩⟩⟩⟩⟩⟩⟩
theorem zCalV_3_18 : zCalVo 3 (18, m_Ro_roundTo, 5, 499, 500, 501, "") := ⟨List.mem_of_getElem? (i := 36) rfl, by decide +kernel, zW_in 500 (by decide +kernel), zW_in 501 (by decide +kernel), Or.inl (zW_in 499 (by decide +kernel))⟩
theorem zCalV_3_38 : zCalVo 3 (38, m_Ro_goesAway, 4, 503, 505, 10, "") := ⟨List.mem_of_getElem? (i := 37) rfl, by decide +kernel, zW_in 505 (by decide +kernel), zW_in 10 (by decide +kernel), Or.inl (zW_in 503 (by decide +kernel))⟩
theorem zCalV_3_44 : zCalVo 3 (44, m_Ro_staysBelowInfinite, 1, 508, 510, 11, "") := ⟨List.mem_of_getElem? (i := 38) rfl, by decide +kernel, zW_in 510 (by decide +kernel), zW_in 11 (by decide +kernel), Or.inl (zW_in 508 (by decide +kernel))⟩
theorem zCalV_3_48 : zCalVo 3 (48, m_Re_becomeFinite, 3, 512, 513, 514, "") := ⟨List.mem_of_getElem? (i := 39) rfl, by decide +kernel, zW_in 513 (by decide +kernel), zW_in 514 (by decide +kernel), Or.inl (zW_in 512 (by decide +kernel))⟩
theorem zCalV_3_54 : zCalVo 3 (54, m_Re_becomeInfinite, 1, 516, 517, 518, "") := ⟨List.mem_of_getElem? (i := 40) rfl, by decide +kernel, zW_in 517 (by decide +kernel), zW_in 518 (by decide +kernel), Or.inl (zW_in 516 (by decide +kernel))⟩
theorem zCalV_3_58 : zCalVo 3 (58, m_Re_becomeZero, 1, 520, 451, 452, "") := ⟨List.mem_of_getElem? (i := 24) rfl, by decide +kernel, zW_in 451 (by decide +kernel), zW_in 452 (by decide +kernel), Or.inl (zW_in 520 (by decide +kernel))⟩
set_option maxRecDepth 20000 in
theorem zCalV_3 : ∀ q ∈ zCalVT 3, zCalVo 3 q := List.forall_mem_cons.mpr ⟨zCalV_3_18, List.forall_mem_cons.mpr ⟨zCalV_3_38, List.forall_mem_cons.mpr ⟨zCalV_3_44, List.forall_mem_cons.mpr ⟨zCalV_3_48, List.forall_mem_cons.mpr ⟨zCalV_3_54, List.forall_mem_cons.mpr ⟨zCalV_3_58, fun _ h => absurd h List.not_mem_nil⟩⟩⟩⟩⟩⟩
theorem zCalV_4_28 : zCalVo 4 (28, m_Re_becomeNan, 0, 435, 436, 437, "") := ⟨List.mem_of_getElem? (i := 20) rfl, by decide +kernel, zW_in 436 (by decide +kernel), zW_in 437 (by decide +kernel), Or.inl (zW_in 435 (by decide +kernel))⟩
theorem zCalV_4_31 : zCalVo 4 (31, m_Ar_addInfinite, 3, 439, 441, 5, "") := ⟨List.mem_of_getElem? (i := 21) rfl, by decide +kernel, zW_in 441 (by decide +kernel), zW_in 5 (by decide +kernel), Or.inl (zW_in 439 (by decide +kernel))⟩
theorem zCalV_4_44 : zCalVo 4 (44, m_Re_becomeZero, 1, 450, 451, 452, "") := ⟨List.mem_of_getElem? (i := 24) rfl, by decide +kernel, zW_in 451 (by decide +kernel), zW_in 452 (by decide +kernel), Or.inl (zW_in 450 (by decide +kernel))⟩
theorem zCalV_4_48 : zCalVo 4 (48, m_Ex_copy, 1, 454, 455, 456, "") := ⟨List.mem_of_getElem? (i := 25) rfl, by decide +kernel, zW_in 455 (by decide +kernel), zW_in 456 (by decide +kernel), Or.inl (zW_in 454 (by decide +kernel))⟩
theorem zCalV_4_52 : zCalVo 4 (52, m_Ex_becomeSum, 2, 458, 459, 460, "") := ⟨List.mem_of_getElem? (i := 26) rfl, by decide +kernel, zW_in 459 (by decide +kernel), zW_in 460 (by decide +kernel), Or.inl (zW_in 458 (by decide +kernel))⟩
theorem zCalV_4_56 : zCalVo 4 (56, m_Ex_isZero, 0, 491, 492, 493, "") := ⟨List.mem_of_getElem? (i := 34) rfl, by decide +kernel, zW_in 492 (by decide +kernel), zW_in 493 (by decide +kernel), Or.inl (zW_in 491 (by decide +kernel))⟩
theorem zCalV_4_60 : zCalVo 4 (60, m_Ro_round, 2, 495, 496, 497, "") := ⟨List.mem_of_getElem? (i := 35) rfl, by decide +kernel, zW_in 496 (by decide +kernel), zW_in 497 (by decide +kernel), Or.inl (zW_in 495 (by decide +kernel))⟩
theorem zCalV_4_68 : zCalVo 4 (68, m_Re_copy, 1, 446, 447, 448, "") := ⟨List.mem_of_getElem? (i := 23) rfl, by decide +kernel, zW_in 447 (by decide +kernel), zW_in 448 (by decide +kernel), Or.inl (zW_in 446 (by decide +kernel))⟩
theorem zCalV_4_69 : zCalVo 4 (69, m_Re_becomeInfinite, 1, 530, 517, 518, "") := ⟨List.mem_of_getElem? (i := 40) rfl, by decide +kernel, zW_in 517 (by decide +kernel), zW_in 518 (by decide +kernel), Or.inl (zW_in 530 (by decide +kernel))⟩
theorem zCalV_4_72 : zCalVo 4 (72, m_Ex_becomeProduct, 2, 531, 532, 533, "") := ⟨List.mem_of_getElem? (i := 43) rfl, by decide +kernel, zW_in 532 (by decide +kernel), zW_in 533 (by decide +kernel), Or.inl (zW_in 531 (by decide +kernel))⟩
theorem zCalV_4_75 : zCalVo 4 (75, m_Ex_becomeQuotient, 2, 544, 545, 546, "") := ⟨List.mem_of_getElem? (i := 46) rfl, by decide +kernel, zW_in 545 (by decide +kernel), zW_in 546 (by decide +kernel), Or.inl (zW_in 544 (by decide +kernel))⟩
theorem zCalV_4_78 : zCalVo 4 (78, m_Ex_becomeRoot, 1, 555, 556, 557, "") := ⟨List.mem_of_getElem? (i := 49) rfl, by decide +kernel, zW_in 556 (by decide +kernel), zW_in 557 (by decide +kernel), Or.inl (zW_in 555 (by decide +kernel))⟩
theorem zCalV_4_81 : zCalVo 4 (81, m_Re_isWhole, 0, 567, 568, 569, "") := ⟨List.mem_of_getElem? (i := 52) rfl, by decide +kernel, zW_in 568 (by decide +kernel), zW_in 569 (by decide +kernel), Or.inl (zW_in 567 (by decide +kernel))⟩
theorem zCalV_4_84 : zCalVo 4 (84, m_Ro_wholeMagnitude, 1, 571, 572, 573, "") := ⟨List.mem_of_getElem? (i := 53) rfl, by decide +kernel, zW_in 572 (by decide +kernel), zW_in 573 (by decide +kernel), Or.inl (zW_in 571 (by decide +kernel))⟩
theorem zCalV_4_88 : zCalVo 4 (88, m_Re_becomeWhole, 2, 575, 576, 577, "") := ⟨List.mem_of_getElem? (i := 54) rfl, by decide +kernel, zW_in 576 (by decide +kernel), zW_in 577 (by decide +kernel), Or.inl (zW_in 575 (by decide +kernel))⟩
set_option maxRecDepth 20000 in
theorem zCalV_4 : ∀ q ∈ zCalVT 4, zCalVo 4 q := List.forall_mem_cons.mpr ⟨zCalV_4_28, List.forall_mem_cons.mpr ⟨zCalV_4_31, List.forall_mem_cons.mpr ⟨zCalV_4_44, List.forall_mem_cons.mpr ⟨zCalV_4_48, List.forall_mem_cons.mpr ⟨zCalV_4_52, List.forall_mem_cons.mpr ⟨zCalV_4_56, List.forall_mem_cons.mpr ⟨zCalV_4_60, List.forall_mem_cons.mpr ⟨zCalV_4_68, List.forall_mem_cons.mpr ⟨zCalV_4_69, List.forall_mem_cons.mpr ⟨zCalV_4_72, List.forall_mem_cons.mpr ⟨zCalV_4_75, List.forall_mem_cons.mpr ⟨zCalV_4_78, List.forall_mem_cons.mpr ⟨zCalV_4_81, List.forall_mem_cons.mpr ⟨zCalV_4_84, List.forall_mem_cons.mpr ⟨zCalV_4_88, fun _ h => absurd h List.not_mem_nil⟩⟩⟩⟩⟩⟩⟩⟩⟩⟩⟩⟩⟩⟩⟩
theorem zCalV_5_29 : zCalVo 5 (29, m_Re_becomeWhole, 2, 630, 576, 577, "") := ⟨List.mem_of_getElem? (i := 54) rfl, by decide +kernel, zW_in 576 (by decide +kernel), zW_in 577 (by decide +kernel), Or.inl (zW_in 630 (by decide +kernel))⟩
theorem zCalV_5_41 : zCalVo 5 (41, m_Re_becomeZero, 1, 634, 451, 452, "") := ⟨List.mem_of_getElem? (i := 24) rfl, by decide +kernel, zW_in 451 (by decide +kernel), zW_in 452 (by decide +kernel), Or.inl (zW_in 634 (by decide +kernel))⟩
theorem zCalV_5_47 : zCalVo 5 (47, m_Re_becomeFinite, 3, 636, 513, 514, "") := ⟨List.mem_of_getElem? (i := 39) rfl, by decide +kernel, zW_in 513 (by decide +kernel), zW_in 514 (by decide +kernel), Or.inl (zW_in 636 (by decide +kernel))⟩
theorem zCalV_5_51 : zCalVo 5 (51, m_Re_becomeInfinite, 1, 637, 517, 518, "") := ⟨List.mem_of_getElem? (i := 40) rfl, by decide +kernel, zW_in 517 (by decide +kernel), zW_in 518 (by decide +kernel), Or.inl (zW_in 637 (by decide +kernel))⟩
theorem zCalV_5_54 : zCalVo 5 (54, m_Re_becomeNan, 0, 638, 436, 437, "") := ⟨List.mem_of_getElem? (i := 20) rfl, by decide +kernel, zW_in 436 (by decide +kernel), zW_in 437 (by decide +kernel), Or.inl (zW_in 638 (by decide +kernel))⟩
theorem zCalV_5_63 : zCalVo 5 (63, m_Fo_encodeWhole, 1, 656, 658, 18, "") := ⟨List.mem_of_getElem? (i := 72) rfl, by decide +kernel, zW_in 658 (by decide +kernel), zW_in 18 (by decide +kernel), Or.inl (zW_in 656 (by decide +kernel))⟩
theorem zCalV_5_67 : zCalVo 5 (67, m_Fo_encodeBinary, 3, 662, 664, 19, "") := ⟨List.mem_of_getElem? (i := 73) rfl, by decide +kernel, zW_in 664 (by decide +kernel), zW_in 19 (by decide +kernel), Or.inl (zW_in 662 (by decide +kernel))⟩
theorem zCalV_5_71 : zCalVo 5 (71, m_Fo_encodeDecimal, 1, 672, 674, 20, "") := ⟨List.mem_of_getElem? (i := 75) rfl, by decide +kernel, zW_in 674 (by decide +kernel), zW_in 20 (by decide +kernel), Or.inl (zW_in 672 (by decide +kernel))⟩
theorem zCalV_5_85 : zCalVo 5 (85, m_Ro_wholeMagnitude, 1, 660, 572, 573, "") := ⟨List.mem_of_getElem? (i := 53) rfl, by decide +kernel, zW_in 572 (by decide +kernel), zW_in 573 (by decide +kernel), Or.inl (zW_in 660 (by decide +kernel))⟩
theorem zCalV_5_95 : zCalVo 5 (95, m_Re_isWhole, 0, 661, 568, 569, "") := ⟨List.mem_of_getElem? (i := 52) rfl, by decide +kernel, zW_in 568 (by decide +kernel), zW_in 569 (by decide +kernel), Or.inl (zW_in 661 (by decide +kernel))⟩
theorem zCalV_5_105 : zCalVo 5 (105, m_Re_copy, 1, 666, 447, 448, "") := ⟨List.mem_of_getElem? (i := 23) rfl, by decide +kernel, zW_in 447 (by decide +kernel), zW_in 448 (by decide +kernel), Or.inl (zW_in 666 (by decide +kernel))⟩
theorem zCalV_5_109 : zCalVo 5 (109, m_Ex_copy, 1, 667, 455, 456, "") := ⟨List.mem_of_getElem? (i := 25) rfl, by decide +kernel, zW_in 455 (by decide +kernel), zW_in 456 (by decide +kernel), Or.inl (zW_in 667 (by decide +kernel))⟩
theorem zCalV_5_110 : zCalVo 5 (110, m_Ro_roundTo, 5, 668, 500, 501, "") := ⟨List.mem_of_getElem? (i := 36) rfl, by decide +kernel, zW_in 500 (by decide +kernel), zW_in 501 (by decide +kernel), Or.inl (zW_in 668 (by decide +kernel))⟩
set_option maxRecDepth 20000 in
theorem zCalV_5 : ∀ q ∈ zCalVT 5, zCalVo 5 q := List.forall_mem_cons.mpr ⟨zCalV_5_29, List.forall_mem_cons.mpr ⟨zCalV_5_41, List.forall_mem_cons.mpr ⟨zCalV_5_47, List.forall_mem_cons.mpr ⟨zCalV_5_51, List.forall_mem_cons.mpr ⟨zCalV_5_54, List.forall_mem_cons.mpr ⟨zCalV_5_63, List.forall_mem_cons.mpr ⟨zCalV_5_67, List.forall_mem_cons.mpr ⟨zCalV_5_71, List.forall_mem_cons.mpr ⟨zCalV_5_85, List.forall_mem_cons.mpr ⟨zCalV_5_95, List.forall_mem_cons.mpr ⟨zCalV_5_105, List.forall_mem_cons.mpr ⟨zCalV_5_109, List.forall_mem_cons.mpr ⟨zCalV_5_110, fun _ h => absurd h List.not_mem_nil⟩⟩⟩⟩⟩⟩⟩⟩⟩⟩⟩⟩⟩
theorem zCalV_6_33 : zCalVo 6 (33, m_Me_goOn, 1, 273, 274, 275, "") := ⟨List.mem_of_getElem? (i := 2) rfl, by decide +kernel, zW_in 274 (by decide +kernel), zW_in 275 (by decide +kernel), Or.inl (zW_in 273 (by decide +kernel))⟩
theorem zCalV_6_37 : zCalVo 6 (37, m_Me_waitUntilFree, 0, 393, 270, 271, "") := ⟨List.mem_of_getElem? (i := 1) rfl, by decide +kernel, zW_in 270 (by decide +kernel), zW_in 271 (by decide +kernel), Or.inl (zW_in 393 (by decide +kernel))⟩
set_option maxRecDepth 20000 in
theorem zCalV_6 : ∀ q ∈ zCalVT 6, zCalVo 6 q := List.forall_mem_cons.mpr ⟨zCalV_6_33, List.forall_mem_cons.mpr ⟨zCalV_6_37, fun _ h => absurd h List.not_mem_nil⟩⟩
theorem zCalV_7_43 : zCalVo 7 (43, m_Mo_blank, 1, 858, 860, 33, "") := ⟨List.mem_of_getElem? (i := 106) rfl, by decide +kernel, zW_in 860 (by decide +kernel), zW_in 33 (by decide +kernel), Or.inl (zW_in 858 (by decide +kernel))⟩
theorem zCalV_7_49 : zCalVo 7 (49, m_Mo_bit, 2, 875, 877, 37, "") := ⟨List.mem_of_getElem? (i := 110) rfl, by decide +kernel, zW_in 877 (by decide +kernel), zW_in 37 (by decide +kernel), Or.inl (zW_in 875 (by decide +kernel))⟩
theorem zCalV_7_53 : zCalVo 7 (53, m_Mo_top, 1, 871, 873, 36, "") := ⟨List.mem_of_getElem? (i := 109) rfl, by decide +kernel, zW_in 873 (by decide +kernel), zW_in 36 (by decide +kernel), Or.inl (zW_in 871 (by decide +kernel))⟩
theorem zCalV_7_57 : zCalVo 7 (57, m_Mo_setBit, 2, 887, 889, 40, "") := ⟨List.mem_of_getElem? (i := 113) rfl, by decide +kernel, zW_in 889 (by decide +kernel), zW_in 40 (by decide +kernel), Or.inl (zW_in 887 (by decide +kernel))⟩
theorem zCalV_7_65 : zCalVo 7 (65, m_Mo_special, 2, 846, 848, 30, "") := ⟨List.mem_of_getElem? (i := 103) rfl, by decide +kernel, zW_in 848 (by decide +kernel), zW_in 30 (by decide +kernel), Or.inl (zW_in 846 (by decide +kernel))⟩
theorem zCalV_7_72 : zCalVo 7 (72, m_Mo_goesUp, 2, 879, 881, 38, "") := ⟨List.mem_of_getElem? (i := 111) rfl, by decide +kernel, zW_in 881 (by decide +kernel), zW_in 38 (by decide +kernel), Or.inl (zW_in 879 (by decide +kernel))⟩
theorem zCalV_7_76 : zCalVo 7 (76, m_Mo_shift, 3, 883, 885, 39, "") := ⟨List.mem_of_getElem? (i := 112) rfl, by decide +kernel, zW_in 885 (by decide +kernel), zW_in 39 (by decide +kernel), Or.inl (zW_in 883 (by decide +kernel))⟩
theorem zCalV_7_80 : zCalVo 7 (80, m_Mo_put, 2, 854, 856, 32, "") := ⟨List.mem_of_getElem? (i := 105) rfl, by decide +kernel, zW_in 856 (by decide +kernel), zW_in 32 (by decide +kernel), Or.inl (zW_in 854 (by decide +kernel))⟩
theorem zCalV_7_84 : zCalVo 7 (84, m_Mo_add, 3, 891, 893, 41, "") := ⟨List.mem_of_getElem? (i := 114) rfl, by decide +kernel, zW_in 893 (by decide +kernel), zW_in 41 (by decide +kernel), Or.inl (zW_in 891 (by decide +kernel))⟩
theorem zCalV_7_87 : zCalVo 7 (87, m_Mo_lowest, 1, 896, 898, 42, "") := ⟨List.mem_of_getElem? (i := 115) rfl, by decide +kernel, zW_in 898 (by decide +kernel), zW_in 42 (by decide +kernel), Or.inl (zW_in 896 (by decide +kernel))⟩
theorem zCalV_7_91 : zCalVo 7 (91, m_Mo_tooLarge, 3, 900, 902, 43, "") := ⟨List.mem_of_getElem? (i := 116) rfl, by decide +kernel, zW_in 902 (by decide +kernel), zW_in 43 (by decide +kernel), Or.inl (zW_in 900 (by decide +kernel))⟩
theorem zCalV_7_97 : zCalVo 7 (97, m_Mo_round, 4, 867, 869, 35, "") := ⟨List.mem_of_getElem? (i := 108) rfl, by decide +kernel, zW_in 869 (by decide +kernel), zW_in 35 (by decide +kernel), Or.inl (zW_in 867 (by decide +kernel))⟩
theorem zCalV_7_101 : zCalVo 7 (101, m_Mo_either, 1, 842, 844, 29, "") := ⟨List.mem_of_getElem? (i := 102) rfl, by decide +kernel, zW_in 844 (by decide +kernel), zW_in 29 (by decide +kernel), Or.inl (zW_in 842 (by decide +kernel))⟩
theorem zCalV_7_105 : zCalVo 7 (105, m_Mo_invalid, 0, 850, 852, 31, "") := ⟨List.mem_of_getElem? (i := 104) rfl, by decide +kernel, zW_in 852 (by decide +kernel), zW_in 31 (by decide +kernel), Or.inl (zW_in 850 (by decide +kernel))⟩
theorem zCalV_7_108 : zCalVo 7 (108, m_Mo_result, 2, 863, 865, 34, "") := ⟨List.mem_of_getElem? (i := 107) rfl, by decide +kernel, zW_in 865 (by decide +kernel), zW_in 34 (by decide +kernel), Or.inl (zW_in 863 (by decide +kernel))⟩
theorem zCalV_7_112 : zCalVo 7 (112, m_Mo_finiteSum, 2, 905, 907, 44, "") := ⟨List.mem_of_getElem? (i := 117) rfl, by decide +kernel, zW_in 907 (by decide +kernel), zW_in 44 (by decide +kernel), Or.inl (zW_in 905 (by decide +kernel))⟩
theorem zCalV_7_115 : zCalVo 7 (115, m_Mo_compareRows, 2, 909, 911, 45, "") := ⟨List.mem_of_getElem? (i := 118) rfl, by decide +kernel, zW_in 911 (by decide +kernel), zW_in 45 (by decide +kernel), Or.inl (zW_in 909 (by decide +kernel))⟩
theorem zCalV_7_118 : zCalVo 7 (118, m_Mo_times, 3, 917, 919, 47, "") := ⟨List.mem_of_getElem? (i := 120) rfl, by decide +kernel, zW_in 919 (by decide +kernel), zW_in 47 (by decide +kernel), Or.inl (zW_in 917 (by decide +kernel))⟩
theorem zCalV_7_121 : zCalVo 7 (121, m_Mo_finiteQuotient, 1, 925, 927, 49, "") := ⟨List.mem_of_getElem? (i := 122) rfl, by decide +kernel, zW_in 927 (by decide +kernel), zW_in 49 (by decide +kernel), Or.inl (zW_in 925 (by decide +kernel))⟩
theorem zCalV_7_125 : zCalVo 7 (125, m_Mo_copy, 2, 830, 832, 26, "") := ⟨List.mem_of_getElem? (i := 99) rfl, by decide +kernel, zW_in 832 (by decide +kernel), zW_in 26 (by decide +kernel), Or.inl (zW_in 830 (by decide +kernel))⟩
theorem zCalV_7_128 : zCalVo 7 (128, m_Mo_whole, 0, 965, 967, 59, "") := ⟨List.mem_of_getElem? (i := 132) rfl, by decide +kernel, zW_in 967 (by decide +kernel), zW_in 59 (by decide +kernel), Or.inl (zW_in 965 (by decide +kernel))⟩
theorem zCalV_7_131 : zCalVo 7 (131, m_Mo_exactly, 1, 945, 947, 54, "") := ⟨List.mem_of_getElem? (i := 127) rfl, by decide +kernel, zW_in 947 (by decide +kernel), zW_in 54 (by decide +kernel), Or.inl (zW_in 945 (by decide +kernel))⟩
theorem zCalV_7_135 : zCalVo 7 (135, m_Mo_rank, 1, 941, 943, 53, "") := ⟨List.mem_of_getElem? (i := 126) rfl, by decide +kernel, zW_in 943 (by decide +kernel), zW_in 53 (by decide +kernel), Or.inl (zW_in 941 (by decide +kernel))⟩
theorem zCalV_7_152 : zCalVo 7 (152, m_Mo_goOn, 1, 818, 820, 23, "") := ⟨List.mem_of_getElem? (i := 96) rfl, by decide +kernel, zW_in 820 (by decide +kernel), zW_in 23 (by decide +kernel), Or.inl (zW_in 818 (by decide +kernel))⟩
theorem zCalV_7_161 : zCalVo 7 (161, m_Mo_throwing, 0, 826, 828, 25, "") := ⟨List.mem_of_getElem? (i := 98) rfl, by decide +kernel, zW_in 828 (by decide +kernel), zW_in 25 (by decide +kernel), Or.inl (zW_in 826 (by decide +kernel))⟩
theorem zCalV_7_168 : zCalVo 7 (168, m_Mo_begin, 1, 814, 816, 22, "") := ⟨List.mem_of_getElem? (i := 95) rfl, by decide +kernel, zW_in 816 (by decide +kernel), zW_in 22 (by decide +kernel), Or.inl (zW_in 814 (by decide +kernel))⟩
theorem zCalV_7_171 : zCalVo 7 (171, m_Mo_refuse, 0, 822, 824, 24, "") := ⟨List.mem_of_getElem? (i := 97) rfl, by decide +kernel, zW_in 824 (by decide +kernel), zW_in 24 (by decide +kernel), Or.inl (zW_in 822 (by decide +kernel))⟩
theorem zCalV_7_175 : zCalVo 7 (175, m_Mo_reckon, 1, 834, 836, 27, "") := ⟨List.mem_of_getElem? (i := 100) rfl, by decide +kernel, zW_in 836 (by decide +kernel), zW_in 27 (by decide +kernel), Or.inl (zW_in 834 (by decide +kernel))⟩
theorem zCalV_7_178 : zCalVo 7 (178, m_Mo_change, 1, 929, 931, 50, "") := ⟨List.mem_of_getElem? (i := 123) rfl, by decide +kernel, zW_in 931 (by decide +kernel), zW_in 50 (by decide +kernel), Or.inl (zW_in 929 (by decide +kernel))⟩
theorem zCalV_7_181 : zCalVo 7 (181, m_Mo_move, 2, 933, 935, 51, "") := ⟨List.mem_of_getElem? (i := 124) rfl, by decide +kernel, zW_in 935 (by decide +kernel), zW_in 51 (by decide +kernel), Or.inl (zW_in 933 (by decide +kernel))⟩
theorem zCalV_7_184 : zCalVo 7 (184, m_Mo_extract, 0, 949, 951, 55, "") := ⟨List.mem_of_getElem? (i := 128) rfl, by decide +kernel, zW_in 951 (by decide +kernel), zW_in 55 (by decide +kernel), Or.inl (zW_in 949 (by decide +kernel))⟩
theorem zCalV_7_187 : zCalVo 7 (187, m_Mo_alter, 1, 953, 955, 56, "") := ⟨List.mem_of_getElem? (i := 129) rfl, by decide +kernel, zW_in 955 (by decide +kernel), zW_in 56 (by decide +kernel), Or.inl (zW_in 953 (by decide +kernel))⟩
theorem zCalV_7_190 : zCalVo 7 (190, m_Mo_sum, 0, 838, 840, 28, "") := ⟨List.mem_of_getElem? (i := 101) rfl, by decide +kernel, zW_in 840 (by decide +kernel), zW_in 28 (by decide +kernel), Or.inl (zW_in 838 (by decide +kernel))⟩
theorem zCalV_7_193 : zCalVo 7 (193, m_Mo_product, 0, 913, 915, 46, "") := ⟨List.mem_of_getElem? (i := 119) rfl, by decide +kernel, zW_in 915 (by decide +kernel), zW_in 46 (by decide +kernel), Or.inl (zW_in 913 (by decide +kernel))⟩
theorem zCalV_7_196 : zCalVo 7 (196, m_Mo_quotient, 0, 921, 923, 48, "") := ⟨List.mem_of_getElem? (i := 121) rfl, by decide +kernel, zW_in 923 (by decide +kernel), zW_in 48 (by decide +kernel), Or.inl (zW_in 921 (by decide +kernel))⟩
theorem zCalV_7_199 : zCalVo 7 (199, m_Mo_root, 0, 957, 959, 57, "") := ⟨List.mem_of_getElem? (i := 130) rfl, by decide +kernel, zW_in 959 (by decide +kernel), zW_in 57 (by decide +kernel), Or.inl (zW_in 957 (by decide +kernel))⟩
theorem zCalV_7_202 : zCalVo 7 (202, m_Mo_integer, 0, 961, 963, 58, "") := ⟨List.mem_of_getElem? (i := 131) rfl, by decide +kernel, zW_in 963 (by decide +kernel), zW_in 58 (by decide +kernel), Or.inl (zW_in 961 (by decide +kernel))⟩
theorem zCalV_7_205 : zCalVo 7 (205, m_Mo_scaled, 0, 969, 971, 60, "") := ⟨List.mem_of_getElem? (i := 133) rfl, by decide +kernel, zW_in 971 (by decide +kernel), zW_in 60 (by decide +kernel), Or.inl (zW_in 969 (by decide +kernel))⟩
theorem zCalV_7_208 : zCalVo 7 (208, m_Mo_compared, 0, 937, 939, 52, "") := ⟨List.mem_of_getElem? (i := 125) rfl, by decide +kernel, zW_in 939 (by decide +kernel), zW_in 52 (by decide +kernel), Or.inl (zW_in 937 (by decide +kernel))⟩
theorem zCalV_7_220 : zCalVo 7 (220, m_Mo_readWhole, 1, 978, 980, 61, "") := ⟨List.mem_of_getElem? (i := 135) rfl, by decide +kernel, zW_in 980 (by decide +kernel), zW_in 61 (by decide +kernel), Or.inl (zW_in 978 (by decide +kernel))⟩
theorem zCalV_7_224 : zCalVo 7 (224, m_Mo_readReal, 3, 982, 984, 62, "") := ⟨List.mem_of_getElem? (i := 136) rfl, by decide +kernel, zW_in 984 (by decide +kernel), zW_in 62 (by decide +kernel), Or.inl (zW_in 982 (by decide +kernel))⟩
theorem zCalV_7_228 : zCalVo 7 (228, m_Mo_readDecimal, 1, 986, 988, 63, "") := ⟨List.mem_of_getElem? (i := 137) rfl, by decide +kernel, zW_in 988 (by decide +kernel), zW_in 63 (by decide +kernel), Or.inl (zW_in 986 (by decide +kernel))⟩
theorem zCalV_7_239 : zCalVo 7 (239, m_Mo_writeReal, 2, 997, 999, 64, "") := ⟨List.mem_of_getElem? (i := 139) rfl, by decide +kernel, zW_in 999 (by decide +kernel), zW_in 64 (by decide +kernel), Or.inl (zW_in 997 (by decide +kernel))⟩
theorem zCalV_7_243 : zCalVo 7 (243, m_Mo_writeWhole, 1, 1001, 1003, 65, "") := ⟨List.mem_of_getElem? (i := 140) rfl, by decide +kernel, zW_in 1003 (by decide +kernel), zW_in 65 (by decide +kernel), Or.inl (zW_in 1001 (by decide +kernel))⟩
set_option maxRecDepth 20000 in
theorem zCalV_7 : ∀ q ∈ zCalVT 7, zCalVo 7 q := List.forall_mem_cons.mpr ⟨zCalV_7_43, List.forall_mem_cons.mpr ⟨zCalV_7_49, List.forall_mem_cons.mpr ⟨zCalV_7_53, List.forall_mem_cons.mpr ⟨zCalV_7_57, List.forall_mem_cons.mpr ⟨zCalV_7_65, List.forall_mem_cons.mpr ⟨zCalV_7_72, List.forall_mem_cons.mpr ⟨zCalV_7_76, List.forall_mem_cons.mpr ⟨zCalV_7_80, List.forall_mem_cons.mpr ⟨zCalV_7_84, List.forall_mem_cons.mpr ⟨zCalV_7_87, List.forall_mem_cons.mpr ⟨zCalV_7_91, List.forall_mem_cons.mpr ⟨zCalV_7_97, List.forall_mem_cons.mpr ⟨zCalV_7_101, List.forall_mem_cons.mpr ⟨zCalV_7_105, List.forall_mem_cons.mpr ⟨zCalV_7_108, List.forall_mem_cons.mpr ⟨zCalV_7_112, List.forall_mem_cons.mpr ⟨zCalV_7_115, List.forall_mem_cons.mpr ⟨zCalV_7_118, List.forall_mem_cons.mpr ⟨zCalV_7_121, List.forall_mem_cons.mpr ⟨zCalV_7_125, List.forall_mem_cons.mpr ⟨zCalV_7_128, List.forall_mem_cons.mpr ⟨zCalV_7_131, List.forall_mem_cons.mpr ⟨zCalV_7_135, List.forall_mem_cons.mpr ⟨zCalV_7_152, List.forall_mem_cons.mpr ⟨zCalV_7_161, List.forall_mem_cons.mpr ⟨zCalV_7_168, List.forall_mem_cons.mpr ⟨zCalV_7_171, List.forall_mem_cons.mpr ⟨zCalV_7_175, List.forall_mem_cons.mpr ⟨zCalV_7_178, List.forall_mem_cons.mpr ⟨zCalV_7_181, List.forall_mem_cons.mpr ⟨zCalV_7_184, List.forall_mem_cons.mpr ⟨zCalV_7_187, List.forall_mem_cons.mpr ⟨zCalV_7_190, List.forall_mem_cons.mpr ⟨zCalV_7_193, List.forall_mem_cons.mpr ⟨zCalV_7_196, List.forall_mem_cons.mpr ⟨zCalV_7_199, List.forall_mem_cons.mpr ⟨zCalV_7_202, List.forall_mem_cons.mpr ⟨zCalV_7_205, List.forall_mem_cons.mpr ⟨zCalV_7_208, List.forall_mem_cons.mpr ⟨zCalV_7_220, List.forall_mem_cons.mpr ⟨zCalV_7_224, List.forall_mem_cons.mpr ⟨zCalV_7_228, List.forall_mem_cons.mpr ⟨zCalV_7_239, List.forall_mem_cons.mpr ⟨zCalV_7_243, fun _ h => absurd h List.not_mem_nil⟩⟩⟩⟩⟩⟩⟩⟩⟩⟩⟩⟩⟩⟩⟩⟩⟩⟩⟩⟩⟩⟩⟩⟩⟩⟩⟩⟩⟩⟩⟩⟩⟩⟩⟩⟩⟩⟩⟩⟩⟩⟩⟩⟩
theorem zCalV_8_7 : zCalVo 8 (7, m_SR_control, 3, 301, 302, 303, "") := ⟨List.mem_of_getElem? (i := 9) rfl, by decide +kernel, zW_in 302 (by decide +kernel), zW_in 303 (by decide +kernel), Or.inl (zW_in 301 (by decide +kernel))⟩
theorem zCalV_8_15 : zCalVo 8 (15, m_SR_operate, 2, 378, 379, 380, "") := ⟨List.mem_of_getElem? (i := 11) rfl, by decide +kernel, zW_in 379 (by decide +kernel), zW_in 380 (by decide +kernel), Or.inl (zW_in 378 (by decide +kernel))⟩
theorem zCalV_8_21 : zCalVo 8 (21, m_SR_load, 2, 615, 616, 617, "") := ⟨List.mem_of_getElem? (i := 63) rfl, by decide +kernel, zW_in 616 (by decide +kernel), zW_in 617 (by decide +kernel), Or.inl (zW_in 615 (by decide +kernel))⟩
theorem zCalV_8_24 : zCalVo 8 (24, m_SR_store, 2, 648, 649, 650, "") := ⟨List.mem_of_getElem? (i := 70) rfl, by decide +kernel, zW_in 649 (by decide +kernel), zW_in 650 (by decide +kernel), Or.inl (zW_in 648 (by decide +kernel))⟩
theorem zCalV_8_27 : zCalVo 8 (27, m_SR_write, 2, 686, 687, 688, "") := ⟨List.mem_of_getElem? (i := 78) rfl, by decide +kernel, zW_in 687 (by decide +kernel), zW_in 688 (by decide +kernel), Or.inl (zW_in 686 (by decide +kernel))⟩
theorem zCalV_8_31 : zCalVo 8 (31, m_SR_memory, 1, 694, 695, 696, "") := ⟨List.mem_of_getElem? (i := 80) rfl, by decide +kernel, zW_in 695 (by decide +kernel), zW_in 696 (by decide +kernel), Or.inl (zW_in 694 (by decide +kernel))⟩
theorem zCalV_8_35 : zCalVo 8 (35, m_SR_pass, 1, 701, 702, 703, "") := ⟨List.mem_of_getElem? (i := 82) rfl, by decide +kernel, zW_in 702 (by decide +kernel), zW_in 703 (by decide +kernel), Or.inl (zW_in 701 (by decide +kernel))⟩
theorem zCalV_8_39 : zCalVo 8 (39, m_SR_kind, 1, 710, 711, 712, "") := ⟨List.mem_of_getElem? (i := 84) rfl, by decide +kernel, zW_in 711 (by decide +kernel), zW_in 712 (by decide +kernel), Or.inl (zW_in 710 (by decide +kernel))⟩
theorem zCalV_8_43 : zCalVo 8 (43, m_SR_exponent, 1, 722, 723, 724, "") := ⟨List.mem_of_getElem? (i := 87) rfl, by decide +kernel, zW_in 723 (by decide +kernel), zW_in 724 (by decide +kernel), Or.inl (zW_in 722 (by decide +kernel))⟩
theorem zCalV_8_46 : zCalVo 8 (46, m_SR_significand, 1, 729, 730, 731, "") := ⟨List.mem_of_getElem? (i := 89) rfl, by decide +kernel, zW_in 730 (by decide +kernel), zW_in 731 (by decide +kernel), Or.inl (zW_in 729 (by decide +kernel))⟩
theorem zCalV_8_58 : zCalVo 8 (58, m_Mo_control, 3, 800, 801, 802, "") := ⟨List.mem_of_getElem? (i := 91) rfl, by decide +kernel, zW_in 801 (by decide +kernel), zW_in 802 (by decide +kernel), Or.inl (zW_in 800 (by decide +kernel))⟩
theorem zCalV_8_59 : zCalVo 8 (59, m_Mo_thrown, 0, 796, 797, 798, "") := ⟨List.mem_of_getElem? (i := 90) rfl, by decide +kernel, zW_in 797 (by decide +kernel), zW_in 798 (by decide +kernel), Or.inl (zW_in 796 (by decide +kernel))⟩
theorem zCalV_8_66 : zCalVo 8 (66, m_Mo_operate, 2, 807, 808, 809, "") := ⟨List.mem_of_getElem? (i := 93) rfl, by decide +kernel, zW_in 808 (by decide +kernel), zW_in 809 (by decide +kernel), Or.inl (zW_in 807 (by decide +kernel))⟩
theorem zCalV_8_69 : zCalVo 8 (69, m_Mo_load, 2, 974, 975, 976, "") := ⟨List.mem_of_getElem? (i := 134) rfl, by decide +kernel, zW_in 975 (by decide +kernel), zW_in 976 (by decide +kernel), Or.inl (zW_in 974 (by decide +kernel))⟩
theorem zCalV_8_72 : zCalVo 8 (72, m_Mo_store, 2, 993, 994, 995, "") := ⟨List.mem_of_getElem? (i := 138) rfl, by decide +kernel, zW_in 994 (by decide +kernel), zW_in 995 (by decide +kernel), Or.inl (zW_in 993 (by decide +kernel))⟩
theorem zCalV_8_78 : zCalVo 8 (78, m_Mo_write, 2, 1009, 1010, 1011, "") := ⟨List.mem_of_getElem? (i := 141) rfl, by decide +kernel, zW_in 1010 (by decide +kernel), zW_in 1011 (by decide +kernel), Or.inl (zW_in 1009 (by decide +kernel))⟩
theorem zCalV_8_82 : zCalVo 8 (82, m_Mo_memory, 1, 1013, 1014, 1015, "") := ⟨List.mem_of_getElem? (i := 142) rfl, by decide +kernel, zW_in 1014 (by decide +kernel), zW_in 1015 (by decide +kernel), Or.inl (zW_in 1013 (by decide +kernel))⟩
theorem zCalV_8_86 : zCalVo 8 (86, m_Mo_pass, 1, 1017, 1018, 1019, "") := ⟨List.mem_of_getElem? (i := 143) rfl, by decide +kernel, zW_in 1018 (by decide +kernel), zW_in 1019 (by decide +kernel), Or.inl (zW_in 1017 (by decide +kernel))⟩
theorem zCalV_8_87 : zCalVo 8 (87, m_SR_await, 0, 265, 266, 267, "") := ⟨List.mem_of_getElem? (i := 0) rfl, by decide +kernel, zW_in 266 (by decide +kernel), zW_in 267 (by decide +kernel), Or.inl (zW_in 265 (by decide +kernel))⟩
theorem zCalV_8_90 : zCalVo 8 (90, m_Mo_await, 0, 1021, 1022, 1023, "") := ⟨List.mem_of_getElem? (i := 144) rfl, by decide +kernel, zW_in 1022 (by decide +kernel), zW_in 1023 (by decide +kernel), Or.inl (zW_in 1021 (by decide +kernel))⟩
theorem zCalV_8_91 : zCalVo 8 (91, m_SR_time, 0, 277, 278, 279, "") := ⟨List.mem_of_getElem? (i := 3) rfl, by decide +kernel, zW_in 278 (by decide +kernel), zW_in 279 (by decide +kernel), Or.inl (zW_in 277 (by decide +kernel))⟩
theorem zCalV_8_95 : zCalVo 8 (95, m_Mo_time, 0, 1025, 1026, 1027, "") := ⟨List.mem_of_getElem? (i := 145) rfl, by decide +kernel, zW_in 1026 (by decide +kernel), zW_in 1027 (by decide +kernel), Or.inl (zW_in 1025 (by decide +kernel))⟩
theorem zCalV_8_96 : zCalVo 8 (96, m_SR_flags, 0, 281, 282, 283, "") := ⟨List.mem_of_getElem? (i := 4) rfl, by decide +kernel, zW_in 282 (by decide +kernel), zW_in 283 (by decide +kernel), Or.inl (zW_in 281 (by decide +kernel))⟩
theorem zCalV_8_99 : zCalVo 8 (99, m_Mo_flags, 0, 1029, 1030, 1031, "") := ⟨List.mem_of_getElem? (i := 146) rfl, by decide +kernel, zW_in 1030 (by decide +kernel), zW_in 1031 (by decide +kernel), Or.inl (zW_in 1029 (by decide +kernel))⟩
theorem zCalV_8_100 : zCalVo 8 (100, m_SR_clear, 0, 285, 286, 287, "") := ⟨List.mem_of_getElem? (i := 5) rfl, by decide +kernel, zW_in 286 (by decide +kernel), zW_in 287 (by decide +kernel), Or.inl (zW_in 285 (by decide +kernel))⟩
theorem zCalV_8_103 : zCalVo 8 (103, m_Mo_clear, 0, 1033, 1034, 1035, "") := ⟨List.mem_of_getElem? (i := 147) rfl, by decide +kernel, zW_in 1034 (by decide +kernel), zW_in 1035 (by decide +kernel), Or.inl (zW_in 1033 (by decide +kernel))⟩
theorem zCalV_8_104 : zCalVo 8 (104, m_SR_condition, 0, 289, 290, 291, "") := ⟨List.mem_of_getElem? (i := 6) rfl, by decide +kernel, zW_in 290 (by decide +kernel), zW_in 291 (by decide +kernel), Or.inl (zW_in 289 (by decide +kernel))⟩
theorem zCalV_8_107 : zCalVo 8 (107, m_Mo_condition, 0, 1037, 1038, 1039, "") := ⟨List.mem_of_getElem? (i := 148) rfl, by decide +kernel, zW_in 1038 (by decide +kernel), zW_in 1039 (by decide +kernel), Or.inl (zW_in 1037 (by decide +kernel))⟩
theorem zCalV_8_108 : zCalVo 8 (108, m_SR_depth, 0, 293, 294, 295, "") := ⟨List.mem_of_getElem? (i := 7) rfl, by decide +kernel, zW_in 294 (by decide +kernel), zW_in 295 (by decide +kernel), Or.inl (zW_in 293 (by decide +kernel))⟩
theorem zCalV_8_111 : zCalVo 8 (111, m_Mo_depth, 0, 1041, 1042, 1043, "") := ⟨List.mem_of_getElem? (i := 149) rfl, by decide +kernel, zW_in 1042 (by decide +kernel), zW_in 1043 (by decide +kernel), Or.inl (zW_in 1041 (by decide +kernel))⟩
theorem zCalV_8_114 : zCalVo 8 (114, m_Mo_kind, 1, 1045, 1046, 1047, "") := ⟨List.mem_of_getElem? (i := 150) rfl, by decide +kernel, zW_in 1046 (by decide +kernel), zW_in 1047 (by decide +kernel), Or.inl (zW_in 1045 (by decide +kernel))⟩
theorem zCalV_8_117 : zCalVo 8 (117, m_Mo_exponent, 1, 1049, 1050, 1051, "") := ⟨List.mem_of_getElem? (i := 151) rfl, by decide +kernel, zW_in 1050 (by decide +kernel), zW_in 1051 (by decide +kernel), Or.inl (zW_in 1049 (by decide +kernel))⟩
theorem zCalV_8_120 : zCalVo 8 (120, m_Mo_significand, 1, 1053, 1054, 1055, "") := ⟨List.mem_of_getElem? (i := 152) rfl, by decide +kernel, zW_in 1054 (by decide +kernel), zW_in 1055 (by decide +kernel), Or.inl (zW_in 1053 (by decide +kernel))⟩
set_option maxRecDepth 20000 in
theorem zCalV_8 : ∀ q ∈ zCalVT 8, zCalVo 8 q := List.forall_mem_cons.mpr ⟨zCalV_8_7, List.forall_mem_cons.mpr ⟨zCalV_8_15, List.forall_mem_cons.mpr ⟨zCalV_8_21, List.forall_mem_cons.mpr ⟨zCalV_8_24, List.forall_mem_cons.mpr ⟨zCalV_8_27, List.forall_mem_cons.mpr ⟨zCalV_8_31, List.forall_mem_cons.mpr ⟨zCalV_8_35, List.forall_mem_cons.mpr ⟨zCalV_8_39, List.forall_mem_cons.mpr ⟨zCalV_8_43, List.forall_mem_cons.mpr ⟨zCalV_8_46, List.forall_mem_cons.mpr ⟨zCalV_8_58, List.forall_mem_cons.mpr ⟨zCalV_8_59, List.forall_mem_cons.mpr ⟨zCalV_8_66, List.forall_mem_cons.mpr ⟨zCalV_8_69, List.forall_mem_cons.mpr ⟨zCalV_8_72, List.forall_mem_cons.mpr ⟨zCalV_8_78, List.forall_mem_cons.mpr ⟨zCalV_8_82, List.forall_mem_cons.mpr ⟨zCalV_8_86, List.forall_mem_cons.mpr ⟨zCalV_8_87, List.forall_mem_cons.mpr ⟨zCalV_8_90, List.forall_mem_cons.mpr ⟨zCalV_8_91, List.forall_mem_cons.mpr ⟨zCalV_8_95, List.forall_mem_cons.mpr ⟨zCalV_8_96, List.forall_mem_cons.mpr ⟨zCalV_8_99, List.forall_mem_cons.mpr ⟨zCalV_8_100, List.forall_mem_cons.mpr ⟨zCalV_8_103, List.forall_mem_cons.mpr ⟨zCalV_8_104, List.forall_mem_cons.mpr ⟨zCalV_8_107, List.forall_mem_cons.mpr ⟨zCalV_8_108, List.forall_mem_cons.mpr ⟨zCalV_8_111, List.forall_mem_cons.mpr ⟨zCalV_8_114, List.forall_mem_cons.mpr ⟨zCalV_8_117, List.forall_mem_cons.mpr ⟨zCalV_8_120, fun _ h => absurd h List.not_mem_nil⟩⟩⟩⟩⟩⟩⟩⟩⟩⟩⟩⟩⟩⟩⟩⟩⟩⟩⟩⟩⟩⟩⟩⟩⟩⟩⟩⟩⟩⟩⟩⟩⟩
theorem zCalV_all (cn : Nat) : ∀ q ∈ zCalVT cn, zCalVo cn q := by
  match cn with
  | 0 => exact zCalV_0
  | 1 => exact zCalV_1
  | 2 => exact zCalV_2
  | 3 => exact zCalV_3
  | 4 => exact zCalV_4
  | 5 => exact zCalV_5
  | 6 => exact zCalV_6
  | 7 => exact zCalV_7
  | 8 => exact zCalV_8
  | (n + 9) => exact fun _ h => absurd h List.not_mem_nil
theorem zCalV_ok {cn x a : Nat} {y : ZM} (h : zCalV cn x = some (y, a)) : y ∈ zAll ∧ (parseMethodDescriptor (zNm y).desc).map (fun d => d.parameters.length) = some a ∧ Jvm.Cond.instanceMethod (zNm y) ∈ zWs ∧ Jvm.Cond.selects (zCn (zCno y)) (zNm y) (zNm y) ∈ zWs ∧ (Jvm.Cond.methodLink (zCn cn) x (zNm y) ∈ zWs ∨ ∃ host, Jvm.Cond.methodLinkNest (zCn cn) x (zNm y) host ∈ zWs) := by
  unfold zCalV at h
  cases hl : (zCalVT cn).lookup x with
  | none => rw [hl] at h; cases h
  | some q =>
    obtain ⟨y9, a9, q9⟩ := q
    rw [hl] at h
    cases h
    exact zCalV_all cn _ (look_mem hl)
/-! throws -/
def zThO (mi : ZM) (pc x : Nat) : Prop := zHs mi = [] ∧ ∃ ia ib ic tx, decode (zCode mi) pc = .ok (.new ia, 3) ∧ decode (zCode mi) (pc + 3) = .ok (.dup, 1) ∧ decode (zCode mi) (pc + 3 + 1) = .ok (.ldc ib, 2) ∧ decode (zCode mi) (pc + 3 + 1 + 2) = .ok (.invokespecial ic, 3) ∧ decode (zCode mi) (pc + 3 + 1 + 2 + 3) = .ok (.athrow, 1) ∧
  Jvm.Cond.classLink (zCn (zCno mi)) ia (zXn x) ∈ zWs ∧ Jvm.Cond.instantiable (zXn x) 6 ∈ zWs ∧ Jvm.Cond.initialized (zXn x) ∈ zWs ∧ (zCno mi, ib, tx) ∈ zStr ∧ Bundle.fit (zXn x) = true ∧ (∀ n ∈ zXs x, Bundle.fit n = true) ∧ (zXs x).length = 2 ∧
  ∀ w ∈ Bundle.ownAtoms (zCn (zCno mi)) ic (zXn x) (zXs x), w ∈ zWs ∨ (∃ C n d, w = .isRef (.static C n d) ∧ (C, n, d) ∈ zStQ) ∨ (∃ C n d, w = .laysStatic C n d ∧ (C, n, d) ∈ zStQ)
def zOw (w : Jvm.Cond) : Bool := decide (w ∈ zWs) || (match w with | .isRef (.static C n d) => decide ((C, n, d) ∈ zStQ) | .laysStatic C n d => decide ((C, n, d) ∈ zStQ) | _ => false)
theorem zOw_spec {w : Jvm.Cond} (h : zOw w = true) : w ∈ zWs ∨ (∃ C n d, w = .isRef (.static C n d) ∧ (C, n, d) ∈ zStQ) ∨ (∃ C n d, w = .laysStatic C n d ∧ (C, n, d) ∈ zStQ) := by
  unfold zOw at h
  rw [Bool.or_eq_true, decide_eq_true_eq] at h
  rcases h with h | h
  · exact Or.inl h
  · split at h
    · exact Or.inr (Or.inl ⟨_, _, _, rfl, by simpa using h⟩)
    · exact Or.inr (Or.inr ⟨_, _, _, rfl, by simpa using h⟩)
    · cases h
set_option maxRecDepth 20000 in
theorem ow_0_1_70 : (Bundle.ownAtoms (zCn 0) 70 (zXn 1) (zXs 1)).all zOw = true := by decide +kernel
set_option maxRecDepth 20000 in
theorem ow_0_2_190 : (Bundle.ownAtoms (zCn 0) 190 (zXn 2) (zXs 2)).all zOw = true := by decide +kernel
theorem th_SR_control_18 : zThO m_SR_control 18 1 := ⟨rfl, 66, 68, 70, "the precision is 24, 53 or 64", by decide +kernel, by decide +kernel, by decide +kernel, by decide +kernel, by decide +kernel, zW_in 305 (by decide +kernel), zW_in 306 (by decide +kernel), zW_in 78 (by decide +kernel), by decide +kernel, by decide +kernel, by decide +kernel, rfl, fun w hw => zOw_spec (List.all_eq_true.mp ow_0_1_70 w hw)⟩
theorem th_SR_control_37 : zThO m_SR_control 37 1 := ⟨rfl, 66, 73, 70, "the rounding is 0 to 3", by decide +kernel, by decide +kernel, by decide +kernel, by decide +kernel, by decide +kernel, zW_in 305 (by decide +kernel), zW_in 306 (by decide +kernel), zW_in 78 (by decide +kernel), by decide +kernel, by decide +kernel, by decide +kernel, rfl, fun w hw => zOw_spec (List.all_eq_true.mp ow_0_1_70 w hw)⟩
theorem th_SR_control_57 : zThO m_SR_control 57 1 := ⟨rfl, 66, 75, 70, "the mask is 0 to 31", by decide +kernel, by decide +kernel, by decide +kernel, by decide +kernel, by decide +kernel, zW_in 305 (by decide +kernel), zW_in 306 (by decide +kernel), zW_in 78 (by decide +kernel), by decide +kernel, by decide +kernel, by decide +kernel, rfl, fun w hw => zOw_spec (List.all_eq_true.mp ow_0_1_70 w hw)⟩
theorem th_SR_operate_10 : zThO m_SR_operate 10 1 := ⟨rfl, 66, 83, 70, "there is no such operation", by decide +kernel, by decide +kernel, by decide +kernel, by decide +kernel, by decide +kernel, zW_in 305 (by decide +kernel), zW_in 306 (by decide +kernel), zW_in 78 (by decide +kernel), by decide +kernel, by decide +kernel, by decide +kernel, rfl, fun w hw => zOw_spec (List.all_eq_true.mp ow_0_1_70 w hw)⟩
theorem th_SR_operate_37 : zThO m_SR_operate 37 1 := ⟨rfl, 66, 89, 70, "i is 0 to 7", by decide +kernel, by decide +kernel, by decide +kernel, by decide +kernel, by decide +kernel, zW_in 305 (by decide +kernel), zW_in 306 (by decide +kernel), zW_in 78 (by decide +kernel), by decide +kernel, by decide +kernel, by decide +kernel, rfl, fun w hw => zOw_spec (List.all_eq_true.mp ow_0_1_70 w hw)⟩
theorem th_SR_raise_21 : zThO m_SR_raise 21 2 := ⟨rfl, 186, 188, 190, "an exception that is not masked", by decide +kernel, by decide +kernel, by decide +kernel, by decide +kernel, by decide +kernel, zW_in 411 (by decide +kernel), zW_in 412 (by decide +kernel), zW_in 79 (by decide +kernel), by decide +kernel, by decide +kernel, by decide +kernel, rfl, fun w hw => zOw_spec (List.all_eq_true.mp ow_0_2_190 w hw)⟩
theorem th_SR_load_14 : zThO m_SR_load 14 1 := ⟨rfl, 66, 120, 70, "there is no such cell or form", by decide +kernel, by decide +kernel, by decide +kernel, by decide +kernel, by decide +kernel, zW_in 305 (by decide +kernel), zW_in 306 (by decide +kernel), zW_in 78 (by decide +kernel), by decide +kernel, by decide +kernel, by decide +kernel, rfl, fun w hw => zOw_spec (List.all_eq_true.mp ow_0_1_70 w hw)⟩
theorem th_SR_store_14 : zThO m_SR_store 14 1 := ⟨rfl, 66, 120, 70, "there is no such cell or form", by decide +kernel, by decide +kernel, by decide +kernel, by decide +kernel, by decide +kernel, zW_in 305 (by decide +kernel), zW_in 306 (by decide +kernel), zW_in 78 (by decide +kernel), by decide +kernel, by decide +kernel, by decide +kernel, rfl, fun w hw => zOw_spec (List.all_eq_true.mp ow_0_1_70 w hw)⟩
theorem th_SR_write_7 : zThO m_SR_write 7 1 := ⟨rfl, 66, 150, 70, "there is no such cell", by decide +kernel, by decide +kernel, by decide +kernel, by decide +kernel, by decide +kernel, zW_in 305 (by decide +kernel), zW_in 306 (by decide +kernel), zW_in 78 (by decide +kernel), by decide +kernel, by decide +kernel, by decide +kernel, rfl, fun w hw => zOw_spec (List.all_eq_true.mp ow_0_1_70 w hw)⟩
theorem th_SR_memory_7 : zThO m_SR_memory 7 1 := ⟨rfl, 66, 150, 70, "there is no such cell", by decide +kernel, by decide +kernel, by decide +kernel, by decide +kernel, by decide +kernel, zW_in 305 (by decide +kernel), zW_in 306 (by decide +kernel), zW_in 78 (by decide +kernel), by decide +kernel, by decide +kernel, by decide +kernel, rfl, fun w hw => zOw_spec (List.all_eq_true.mp ow_0_1_70 w hw)⟩
theorem th_SR_pass_11 : zThO m_SR_pass 11 1 := ⟨rfl, 66, 152, 70, "0 to 1000 ticks pass", by decide +kernel, by decide +kernel, by decide +kernel, by decide +kernel, by decide +kernel, zW_in 305 (by decide +kernel), zW_in 306 (by decide +kernel), zW_in 78 (by decide +kernel), by decide +kernel, by decide +kernel, by decide +kernel, rfl, fun w hw => zOw_spec (List.all_eq_true.mp ow_0_1_70 w hw)⟩
theorem th_SR_kind_8 : zThO m_SR_kind 8 1 := ⟨rfl, 66, 168, 70, "there is no such real", by decide +kernel, by decide +kernel, by decide +kernel, by decide +kernel, by decide +kernel, zW_in 305 (by decide +kernel), zW_in 306 (by decide +kernel), zW_in 78 (by decide +kernel), by decide +kernel, by decide +kernel, by decide +kernel, rfl, fun w hw => zOw_spec (List.all_eq_true.mp ow_0_1_70 w hw)⟩
theorem th_SR_exponent_8 : zThO m_SR_exponent 8 1 := ⟨rfl, 66, 168, 70, "there is no such real", by decide +kernel, by decide +kernel, by decide +kernel, by decide +kernel, by decide +kernel, zW_in 305 (by decide +kernel), zW_in 306 (by decide +kernel), zW_in 78 (by decide +kernel), by decide +kernel, by decide +kernel, by decide +kernel, rfl, fun w hw => zOw_spec (List.all_eq_true.mp ow_0_1_70 w hw)⟩
theorem th_SR_significand_8 : zThO m_SR_significand 8 1 := ⟨rfl, 66, 168, 70, "there is no such real", by decide +kernel, by decide +kernel, by decide +kernel, by decide +kernel, by decide +kernel, zW_in 305 (by decide +kernel), zW_in 306 (by decide +kernel), zW_in 78 (by decide +kernel), by decide +kernel, by decide +kernel, by decide +kernel, rfl, fun w hw => zOw_spec (List.all_eq_true.mp ow_0_1_70 w hw)⟩
def zTok (mi : ZM) : Prop := ∀ q ∈ zThL mi, zThO mi q.1 q.2
theorem to_SR_await : zTok m_SR_await := fun _ h => absurd h List.not_mem_nil
theorem to_Me_waitUntilFree : zTok m_Me_waitUntilFree := fun _ h => absurd h List.not_mem_nil
theorem to_Me_goOn : zTok m_Me_goOn := fun _ h => absurd h List.not_mem_nil
theorem to_SR_time : zTok m_SR_time := fun _ h => absurd h List.not_mem_nil
theorem to_SR_flags : zTok m_SR_flags := fun _ h => absurd h List.not_mem_nil
theorem to_SR_clear : zTok m_SR_clear := fun _ h => absurd h List.not_mem_nil
theorem to_SR_condition : zTok m_SR_condition := fun _ h => absurd h List.not_mem_nil
theorem to_SR_depth : zTok m_SR_depth := fun _ h => absurd h List.not_mem_nil
theorem to_La_control : zTok m_La_control := fun _ h => absurd h List.not_mem_nil
theorem to_SR_control : zTok m_SR_control := List.forall_mem_cons.mpr ⟨th_SR_control_18, List.forall_mem_cons.mpr ⟨th_SR_control_37, List.forall_mem_cons.mpr ⟨th_SR_control_57, fun _ h => absurd h List.not_mem_nil⟩⟩⟩
theorem to_La_operate : zTok m_La_operate := fun _ h => absurd h List.not_mem_nil
theorem to_SR_operate : zTok m_SR_operate := List.forall_mem_cons.mpr ⟨th_SR_operate_10, List.forall_mem_cons.mpr ⟨th_SR_operate_37, fun _ h => absurd h List.not_mem_nil⟩⟩
theorem to_SR_namesPlace : zTok m_SR_namesPlace := fun _ h => absurd h List.not_mem_nil
theorem to_Me_occupy : zTok m_Me_occupy := fun _ h => absurd h List.not_mem_nil
theorem to_SR_isPossible : zTok m_SR_isPossible := fun _ h => absurd h List.not_mem_nil
theorem to_SR_pushes : zTok m_SR_pushes := fun _ h => absurd h List.not_mem_nil
theorem to_SR_st : zTok m_SR_st := fun _ h => absurd h List.not_mem_nil
theorem to_SR_raise : zTok m_SR_raise := List.forall_mem_cons.mpr ⟨th_SR_raise_21, fun _ h => absurd h List.not_mem_nil⟩
theorem to_SR_workOut : zTok m_SR_workOut := fun _ h => absurd h List.not_mem_nil
theorem to_Ar_add : zTok m_Ar_add := fun _ h => absurd h List.not_mem_nil
theorem to_Re_becomeNan : zTok m_Re_becomeNan := fun _ h => absurd h List.not_mem_nil
theorem to_Ar_addInfinite : zTok m_Ar_addInfinite := fun _ h => absurd h List.not_mem_nil
theorem to_Ar_makeInvalid : zTok m_Ar_makeInvalid := fun _ h => absurd h List.not_mem_nil
theorem to_Re_copy : zTok m_Re_copy := fun _ h => absurd h List.not_mem_nil
theorem to_Re_becomeZero : zTok m_Re_becomeZero := fun _ h => absurd h List.not_mem_nil
theorem to_Ex_copy : zTok m_Ex_copy := fun _ h => absurd h List.not_mem_nil
theorem to_Ex_becomeSum : zTok m_Ex_becomeSum := fun _ h => absurd h List.not_mem_nil
theorem to_SR_compareMagnitudes : zTok m_SR_compareMagnitudes := fun _ h => absurd h List.not_mem_nil
theorem to_SR_isBelow : zTok m_SR_isBelow := fun _ h => absurd h List.not_mem_nil
theorem to_Ex_combine : zTok m_Ex_combine := fun _ h => absurd h List.not_mem_nil
theorem to_Ex_lowerPart : zTok m_Ex_lowerPart := fun _ h => absurd h List.not_mem_nil
theorem to_Ex_putOn : zTok m_Ex_putOn := fun _ h => absurd h List.not_mem_nil
theorem to_Ex_takeAway : zTok m_Ex_takeAway := fun _ h => absurd h List.not_mem_nil
theorem to_Ex_normalize : zTok m_Ex_normalize := fun _ h => absurd h List.not_mem_nil
theorem to_Ex_isZero : zTok m_Ex_isZero := fun _ h => absurd h List.not_mem_nil
theorem to_Ro_round : zTok m_Ro_round := fun _ h => absurd h List.not_mem_nil
theorem to_Ro_roundTo : zTok m_Ro_roundTo := fun _ h => absurd h List.not_mem_nil
theorem to_Ro_goesAway : zTok m_Ro_goesAway := fun _ h => absurd h List.not_mem_nil
theorem to_Ro_staysBelowInfinite : zTok m_Ro_staysBelowInfinite := fun _ h => absurd h List.not_mem_nil
theorem to_Re_becomeFinite : zTok m_Re_becomeFinite := fun _ h => absurd h List.not_mem_nil
theorem to_Re_becomeInfinite : zTok m_Re_becomeInfinite := fun _ h => absurd h List.not_mem_nil
theorem to_Re_negate : zTok m_Re_negate := fun _ h => absurd h List.not_mem_nil
theorem to_Ar_multiply : zTok m_Ar_multiply := fun _ h => absurd h List.not_mem_nil
theorem to_Ex_becomeProduct : zTok m_Ex_becomeProduct := fun _ h => absurd h List.not_mem_nil
theorem to_Ex_multiplyBits : zTok m_Ex_multiplyBits := fun _ h => absurd h List.not_mem_nil
theorem to_Ar_divide : zTok m_Ar_divide := fun _ h => absurd h List.not_mem_nil
theorem to_Ex_becomeQuotient : zTok m_Ex_becomeQuotient := fun _ h => absurd h List.not_mem_nil
theorem to_Ex_fitsInDouble : zTok m_Ex_fitsInDouble := fun _ h => absurd h List.not_mem_nil
theorem to_Ar_root : zTok m_Ar_root := fun _ h => absurd h List.not_mem_nil
theorem to_Ex_becomeRoot : zTok m_Ex_becomeRoot := fun _ h => absurd h List.not_mem_nil
theorem to_Ex_isAbove : zTok m_Ex_isAbove := fun _ h => absurd h List.not_mem_nil
theorem to_Ar_makeWhole : zTok m_Ar_makeWhole := fun _ h => absurd h List.not_mem_nil
theorem to_Re_isWhole : zTok m_Re_isWhole := fun _ h => absurd h List.not_mem_nil
theorem to_Ro_wholeMagnitude : zTok m_Ro_wholeMagnitude := fun _ h => absurd h List.not_mem_nil
theorem to_Re_becomeWhole : zTok m_Re_becomeWhole := fun _ h => absurd h List.not_mem_nil
theorem to_Ar_scale : zTok m_Ar_scale := fun _ h => absurd h List.not_mem_nil
theorem to_SR_carryOut : zTok m_SR_carryOut := fun _ h => absurd h List.not_mem_nil
theorem to_SR_extract : zTok m_SR_extract := fun _ h => absurd h List.not_mem_nil
theorem to_SR_push : zTok m_SR_push := fun _ h => absurd h List.not_mem_nil
theorem to_SR_exchange : zTok m_SR_exchange := fun _ h => absurd h List.not_mem_nil
theorem to_SR_conditionOf : zTok m_SR_conditionOf := fun _ h => absurd h List.not_mem_nil
theorem to_SR_compareReals : zTok m_SR_compareReals := fun _ h => absurd h List.not_mem_nil
theorem to_La_load : zTok m_La_load := fun _ h => absurd h List.not_mem_nil
theorem to_SR_load : zTok m_SR_load := List.forall_mem_cons.mpr ⟨th_SR_load_14, fun _ h => absurd h List.not_mem_nil⟩
theorem to_SR_isCell : zTok m_SR_isCell := fun _ h => absurd h List.not_mem_nil
theorem to_SR_isForm : zTok m_SR_isForm := fun _ h => absurd h List.not_mem_nil
theorem to_Fo_decode : zTok m_Fo_decode := fun _ h => absurd h List.not_mem_nil
theorem to_Fo_decodeBinary : zTok m_Fo_decodeBinary := fun _ h => absurd h List.not_mem_nil
theorem to_Fo_decodeDecimal : zTok m_Fo_decodeDecimal := fun _ h => absurd h List.not_mem_nil
theorem to_La_store : zTok m_La_store := fun _ h => absurd h List.not_mem_nil
theorem to_SR_store : zTok m_SR_store := List.forall_mem_cons.mpr ⟨th_SR_store_14, fun _ h => absurd h List.not_mem_nil⟩
theorem to_Fo_encode : zTok m_Fo_encode := fun _ h => absurd h List.not_mem_nil
theorem to_Fo_encodeWhole : zTok m_Fo_encodeWhole := fun _ h => absurd h List.not_mem_nil
theorem to_Fo_encodeBinary : zTok m_Fo_encodeBinary := fun _ h => absurd h List.not_mem_nil
theorem to_Fo_binaryImage : zTok m_Fo_binaryImage := fun _ h => absurd h List.not_mem_nil
theorem to_Fo_encodeDecimal : zTok m_Fo_encodeDecimal := fun _ h => absurd h List.not_mem_nil
theorem to_Me_storeWhenFree : zTok m_Me_storeWhenFree := fun _ h => absurd h List.not_mem_nil
theorem to_La_write : zTok m_La_write := fun _ h => absurd h List.not_mem_nil
theorem to_SR_write : zTok m_SR_write := List.forall_mem_cons.mpr ⟨th_SR_write_7, fun _ h => absurd h List.not_mem_nil⟩
theorem to_La_memory : zTok m_La_memory := fun _ h => absurd h List.not_mem_nil
theorem to_SR_memory : zTok m_SR_memory := List.forall_mem_cons.mpr ⟨th_SR_memory_7, fun _ h => absurd h List.not_mem_nil⟩
theorem to_La_pass : zTok m_La_pass := fun _ h => absurd h List.not_mem_nil
theorem to_SR_pass : zTok m_SR_pass := List.forall_mem_cons.mpr ⟨th_SR_pass_11, fun _ h => absurd h List.not_mem_nil⟩
theorem to_La_kind : zTok m_La_kind := fun _ h => absurd h List.not_mem_nil
theorem to_SR_kind : zTok m_SR_kind := List.forall_mem_cons.mpr ⟨th_SR_kind_8, fun _ h => absurd h List.not_mem_nil⟩
theorem to_SR_isOnStack : zTok m_SR_isOnStack := fun _ h => absurd h List.not_mem_nil
theorem to_La_exponent : zTok m_La_exponent := fun _ h => absurd h List.not_mem_nil
theorem to_SR_exponent : zTok m_SR_exponent := List.forall_mem_cons.mpr ⟨th_SR_exponent_8, fun _ h => absurd h List.not_mem_nil⟩
theorem to_La_significand : zTok m_La_significand := fun _ h => absurd h List.not_mem_nil
theorem to_SR_significand : zTok m_SR_significand := List.forall_mem_cons.mpr ⟨th_SR_significand_8, fun _ h => absurd h List.not_mem_nil⟩
theorem to_Mo_thrown : zTok m_Mo_thrown := fun _ h => absurd h List.not_mem_nil
theorem to_Mo_control : zTok m_Mo_control := fun _ h => absurd h List.not_mem_nil
theorem to_Mo_out : zTok m_Mo_out := fun _ h => absurd h List.not_mem_nil
theorem to_Mo_operate : zTok m_Mo_operate := fun _ h => absurd h List.not_mem_nil
theorem to_Mo_cost : zTok m_Mo_cost := fun _ h => absurd h List.not_mem_nil
theorem to_Mo_begin : zTok m_Mo_begin := fun _ h => absurd h List.not_mem_nil
theorem to_Mo_goOn : zTok m_Mo_goOn := fun _ h => absurd h List.not_mem_nil
theorem to_Mo_refuse : zTok m_Mo_refuse := fun _ h => absurd h List.not_mem_nil
theorem to_Mo_throwing : zTok m_Mo_throwing := fun _ h => absurd h List.not_mem_nil
theorem to_Mo_copy : zTok m_Mo_copy := fun _ h => absurd h List.not_mem_nil
theorem to_Mo_reckon : zTok m_Mo_reckon := fun _ h => absurd h List.not_mem_nil
theorem to_Mo_sum : zTok m_Mo_sum := fun _ h => absurd h List.not_mem_nil
theorem to_Mo_either : zTok m_Mo_either := fun _ h => absurd h List.not_mem_nil
theorem to_Mo_special : zTok m_Mo_special := fun _ h => absurd h List.not_mem_nil
theorem to_Mo_invalid : zTok m_Mo_invalid := fun _ h => absurd h List.not_mem_nil
theorem to_Mo_put : zTok m_Mo_put := fun _ h => absurd h List.not_mem_nil
theorem to_Mo_blank : zTok m_Mo_blank := fun _ h => absurd h List.not_mem_nil
theorem to_Mo_result : zTok m_Mo_result := fun _ h => absurd h List.not_mem_nil
theorem to_Mo_round : zTok m_Mo_round := fun _ h => absurd h List.not_mem_nil
theorem to_Mo_top : zTok m_Mo_top := fun _ h => absurd h List.not_mem_nil
theorem to_Mo_bit : zTok m_Mo_bit := fun _ h => absurd h List.not_mem_nil
theorem to_Mo_goesUp : zTok m_Mo_goesUp := fun _ h => absurd h List.not_mem_nil
theorem to_Mo_shift : zTok m_Mo_shift := fun _ h => absurd h List.not_mem_nil
theorem to_Mo_setBit : zTok m_Mo_setBit := fun _ h => absurd h List.not_mem_nil
theorem to_Mo_add : zTok m_Mo_add := fun _ h => absurd h List.not_mem_nil
theorem to_Mo_lowest : zTok m_Mo_lowest := fun _ h => absurd h List.not_mem_nil
theorem to_Mo_tooLarge : zTok m_Mo_tooLarge := fun _ h => absurd h List.not_mem_nil
theorem to_Mo_finiteSum : zTok m_Mo_finiteSum := fun _ h => absurd h List.not_mem_nil
theorem to_Mo_compareRows : zTok m_Mo_compareRows := fun _ h => absurd h List.not_mem_nil
theorem to_Mo_product : zTok m_Mo_product := fun _ h => absurd h List.not_mem_nil
theorem to_Mo_times : zTok m_Mo_times := fun _ h => absurd h List.not_mem_nil
theorem to_Mo_quotient : zTok m_Mo_quotient := fun _ h => absurd h List.not_mem_nil
theorem to_Mo_finiteQuotient : zTok m_Mo_finiteQuotient := fun _ h => absurd h List.not_mem_nil
theorem to_Mo_change : zTok m_Mo_change := fun _ h => absurd h List.not_mem_nil
theorem to_Mo_move : zTok m_Mo_move := fun _ h => absurd h List.not_mem_nil
theorem to_Mo_compared : zTok m_Mo_compared := fun _ h => absurd h List.not_mem_nil
theorem to_Mo_rank : zTok m_Mo_rank := fun _ h => absurd h List.not_mem_nil
theorem to_Mo_exactly : zTok m_Mo_exactly := fun _ h => absurd h List.not_mem_nil
theorem to_Mo_extract : zTok m_Mo_extract := fun _ h => absurd h List.not_mem_nil
theorem to_Mo_alter : zTok m_Mo_alter := fun _ h => absurd h List.not_mem_nil
theorem to_Mo_root : zTok m_Mo_root := fun _ h => absurd h List.not_mem_nil
theorem to_Mo_integer : zTok m_Mo_integer := fun _ h => absurd h List.not_mem_nil
theorem to_Mo_whole : zTok m_Mo_whole := fun _ h => absurd h List.not_mem_nil
theorem to_Mo_scaled : zTok m_Mo_scaled := fun _ h => absurd h List.not_mem_nil
theorem to_Mo_load : zTok m_Mo_load := fun _ h => absurd h List.not_mem_nil
theorem to_Mo_readWhole : zTok m_Mo_readWhole := fun _ h => absurd h List.not_mem_nil
theorem to_Mo_readReal : zTok m_Mo_readReal := fun _ h => absurd h List.not_mem_nil
theorem to_Mo_readDecimal : zTok m_Mo_readDecimal := fun _ h => absurd h List.not_mem_nil
theorem to_Mo_store : zTok m_Mo_store := fun _ h => absurd h List.not_mem_nil
theorem to_Mo_writeReal : zTok m_Mo_writeReal := fun _ h => absurd h List.not_mem_nil
theorem to_Mo_writeWhole : zTok m_Mo_writeWhole := fun _ h => absurd h List.not_mem_nil
theorem to_Mo_write : zTok m_Mo_write := fun _ h => absurd h List.not_mem_nil
theorem to_Mo_memory : zTok m_Mo_memory := fun _ h => absurd h List.not_mem_nil
theorem to_Mo_pass : zTok m_Mo_pass := fun _ h => absurd h List.not_mem_nil
theorem to_Mo_await : zTok m_Mo_await := fun _ h => absurd h List.not_mem_nil
theorem to_Mo_time : zTok m_Mo_time := fun _ h => absurd h List.not_mem_nil
theorem to_Mo_flags : zTok m_Mo_flags := fun _ h => absurd h List.not_mem_nil
theorem to_Mo_clear : zTok m_Mo_clear := fun _ h => absurd h List.not_mem_nil
theorem to_Mo_condition : zTok m_Mo_condition := fun _ h => absurd h List.not_mem_nil
theorem to_Mo_depth : zTok m_Mo_depth := fun _ h => absurd h List.not_mem_nil
theorem to_Mo_kind : zTok m_Mo_kind := fun _ h => absurd h List.not_mem_nil
theorem to_Mo_exponent : zTok m_Mo_exponent := fun _ h => absurd h List.not_mem_nil
theorem to_Mo_significand : zTok m_Mo_significand := fun _ h => absurd h List.not_mem_nil
set_option maxRecDepth 20000 in
theorem zTok_all : ∀ y ∈ zAll, zTok y := List.forall_mem_cons.mpr ⟨to_SR_await, List.forall_mem_cons.mpr ⟨to_Me_waitUntilFree, List.forall_mem_cons.mpr ⟨to_Me_goOn, List.forall_mem_cons.mpr ⟨to_SR_time, List.forall_mem_cons.mpr ⟨to_SR_flags, List.forall_mem_cons.mpr ⟨to_SR_clear, List.forall_mem_cons.mpr ⟨to_SR_condition, List.forall_mem_cons.mpr ⟨to_SR_depth, List.forall_mem_cons.mpr ⟨to_La_control, List.forall_mem_cons.mpr ⟨to_SR_control, List.forall_mem_cons.mpr ⟨to_La_operate, List.forall_mem_cons.mpr ⟨to_SR_operate, List.forall_mem_cons.mpr ⟨to_SR_namesPlace, List.forall_mem_cons.mpr ⟨to_Me_occupy, List.forall_mem_cons.mpr ⟨to_SR_isPossible, List.forall_mem_cons.mpr ⟨to_SR_pushes, List.forall_mem_cons.mpr ⟨to_SR_st, List.forall_mem_cons.mpr ⟨to_SR_raise, List.forall_mem_cons.mpr ⟨to_SR_workOut, List.forall_mem_cons.mpr ⟨to_Ar_add, List.forall_mem_cons.mpr ⟨to_Re_becomeNan, List.forall_mem_cons.mpr ⟨to_Ar_addInfinite, List.forall_mem_cons.mpr ⟨to_Ar_makeInvalid, List.forall_mem_cons.mpr ⟨to_Re_copy, List.forall_mem_cons.mpr ⟨to_Re_becomeZero, List.forall_mem_cons.mpr ⟨to_Ex_copy, List.forall_mem_cons.mpr ⟨to_Ex_becomeSum, List.forall_mem_cons.mpr ⟨to_SR_compareMagnitudes, List.forall_mem_cons.mpr ⟨to_SR_isBelow, List.forall_mem_cons.mpr ⟨to_Ex_combine, List.forall_mem_cons.mpr ⟨to_Ex_lowerPart, List.forall_mem_cons.mpr ⟨to_Ex_putOn, List.forall_mem_cons.mpr ⟨to_Ex_takeAway, List.forall_mem_cons.mpr ⟨to_Ex_normalize, List.forall_mem_cons.mpr ⟨to_Ex_isZero, List.forall_mem_cons.mpr ⟨to_Ro_round, List.forall_mem_cons.mpr ⟨to_Ro_roundTo, List.forall_mem_cons.mpr ⟨to_Ro_goesAway, List.forall_mem_cons.mpr ⟨to_Ro_staysBelowInfinite, List.forall_mem_cons.mpr ⟨to_Re_becomeFinite, List.forall_mem_cons.mpr ⟨to_Re_becomeInfinite, List.forall_mem_cons.mpr ⟨to_Re_negate, List.forall_mem_cons.mpr ⟨to_Ar_multiply, List.forall_mem_cons.mpr ⟨to_Ex_becomeProduct, List.forall_mem_cons.mpr ⟨to_Ex_multiplyBits, List.forall_mem_cons.mpr ⟨to_Ar_divide, List.forall_mem_cons.mpr ⟨to_Ex_becomeQuotient, List.forall_mem_cons.mpr ⟨to_Ex_fitsInDouble, List.forall_mem_cons.mpr ⟨to_Ar_root, List.forall_mem_cons.mpr ⟨to_Ex_becomeRoot, List.forall_mem_cons.mpr ⟨to_Ex_isAbove, List.forall_mem_cons.mpr ⟨to_Ar_makeWhole, List.forall_mem_cons.mpr ⟨to_Re_isWhole, List.forall_mem_cons.mpr ⟨to_Ro_wholeMagnitude, List.forall_mem_cons.mpr ⟨to_Re_becomeWhole, List.forall_mem_cons.mpr ⟨to_Ar_scale, List.forall_mem_cons.mpr ⟨to_SR_carryOut, List.forall_mem_cons.mpr ⟨to_SR_extract, List.forall_mem_cons.mpr ⟨to_SR_push, List.forall_mem_cons.mpr ⟨to_SR_exchange, List.forall_mem_cons.mpr ⟨to_SR_conditionOf, List.forall_mem_cons.mpr ⟨to_SR_compareReals, List.forall_mem_cons.mpr ⟨to_La_load, List.forall_mem_cons.mpr ⟨to_SR_load, List.forall_mem_cons.mpr ⟨to_SR_isCell, List.forall_mem_cons.mpr ⟨to_SR_isForm, List.forall_mem_cons.mpr ⟨to_Fo_decode, List.forall_mem_cons.mpr ⟨to_Fo_decodeBinary, List.forall_mem_cons.mpr ⟨to_Fo_decodeDecimal, List.forall_mem_cons.mpr ⟨to_La_store, List.forall_mem_cons.mpr ⟨to_SR_store, List.forall_mem_cons.mpr ⟨to_Fo_encode, List.forall_mem_cons.mpr ⟨to_Fo_encodeWhole, List.forall_mem_cons.mpr ⟨to_Fo_encodeBinary, List.forall_mem_cons.mpr ⟨to_Fo_binaryImage, List.forall_mem_cons.mpr ⟨to_Fo_encodeDecimal, List.forall_mem_cons.mpr ⟨to_Me_storeWhenFree, List.forall_mem_cons.mpr ⟨to_La_write, List.forall_mem_cons.mpr ⟨to_SR_write, List.forall_mem_cons.mpr ⟨to_La_memory, List.forall_mem_cons.mpr ⟨to_SR_memory, List.forall_mem_cons.mpr ⟨to_La_pass, List.forall_mem_cons.mpr ⟨to_SR_pass, List.forall_mem_cons.mpr ⟨to_La_kind, List.forall_mem_cons.mpr ⟨to_SR_kind, List.forall_mem_cons.mpr ⟨to_SR_isOnStack, List.forall_mem_cons.mpr ⟨to_La_exponent, List.forall_mem_cons.mpr ⟨to_SR_exponent, List.forall_mem_cons.mpr ⟨to_La_significand, List.forall_mem_cons.mpr ⟨to_SR_significand, List.forall_mem_cons.mpr ⟨to_Mo_thrown, List.forall_mem_cons.mpr ⟨to_Mo_control, List.forall_mem_cons.mpr ⟨to_Mo_out, List.forall_mem_cons.mpr ⟨to_Mo_operate, List.forall_mem_cons.mpr ⟨to_Mo_cost, List.forall_mem_cons.mpr ⟨to_Mo_begin, List.forall_mem_cons.mpr ⟨to_Mo_goOn, List.forall_mem_cons.mpr ⟨to_Mo_refuse, List.forall_mem_cons.mpr ⟨to_Mo_throwing, List.forall_mem_cons.mpr ⟨to_Mo_copy, List.forall_mem_cons.mpr ⟨to_Mo_reckon, List.forall_mem_cons.mpr ⟨to_Mo_sum, List.forall_mem_cons.mpr ⟨to_Mo_either, List.forall_mem_cons.mpr ⟨to_Mo_special, List.forall_mem_cons.mpr ⟨to_Mo_invalid, List.forall_mem_cons.mpr ⟨to_Mo_put, List.forall_mem_cons.mpr ⟨to_Mo_blank, List.forall_mem_cons.mpr ⟨to_Mo_result, List.forall_mem_cons.mpr ⟨to_Mo_round, List.forall_mem_cons.mpr ⟨to_Mo_top, List.forall_mem_cons.mpr ⟨to_Mo_bit, List.forall_mem_cons.mpr ⟨to_Mo_goesUp, List.forall_mem_cons.mpr ⟨to_Mo_shift, List.forall_mem_cons.mpr ⟨to_Mo_setBit, List.forall_mem_cons.mpr ⟨to_Mo_add, List.forall_mem_cons.mpr ⟨to_Mo_lowest, List.forall_mem_cons.mpr ⟨to_Mo_tooLarge, List.forall_mem_cons.mpr ⟨to_Mo_finiteSum, List.forall_mem_cons.mpr ⟨to_Mo_compareRows, List.forall_mem_cons.mpr ⟨to_Mo_product, List.forall_mem_cons.mpr ⟨to_Mo_times, List.forall_mem_cons.mpr ⟨to_Mo_quotient, List.forall_mem_cons.mpr ⟨to_Mo_finiteQuotient, List.forall_mem_cons.mpr ⟨to_Mo_change, List.forall_mem_cons.mpr ⟨to_Mo_move, List.forall_mem_cons.mpr ⟨to_Mo_compared, List.forall_mem_cons.mpr ⟨to_Mo_rank, List.forall_mem_cons.mpr ⟨to_Mo_exactly, List.forall_mem_cons.mpr ⟨to_Mo_extract, List.forall_mem_cons.mpr ⟨to_Mo_alter, List.forall_mem_cons.mpr ⟨to_Mo_root, List.forall_mem_cons.mpr ⟨to_Mo_integer, List.forall_mem_cons.mpr ⟨to_Mo_whole, List.forall_mem_cons.mpr ⟨to_Mo_scaled, List.forall_mem_cons.mpr ⟨to_Mo_load, List.forall_mem_cons.mpr ⟨to_Mo_readWhole, List.forall_mem_cons.mpr ⟨to_Mo_readReal, List.forall_mem_cons.mpr ⟨to_Mo_readDecimal, List.forall_mem_cons.mpr ⟨to_Mo_store, List.forall_mem_cons.mpr ⟨to_Mo_writeReal, List.forall_mem_cons.mpr ⟨to_Mo_writeWhole, List.forall_mem_cons.mpr ⟨to_Mo_write, List.forall_mem_cons.mpr ⟨to_Mo_memory, List.forall_mem_cons.mpr ⟨to_Mo_pass, List.forall_mem_cons.mpr ⟨to_Mo_await, List.forall_mem_cons.mpr ⟨to_Mo_time, List.forall_mem_cons.mpr ⟨to_Mo_flags, List.forall_mem_cons.mpr ⟨to_Mo_clear, List.forall_mem_cons.mpr ⟨to_Mo_condition, List.forall_mem_cons.mpr ⟨to_Mo_depth, List.forall_mem_cons.mpr ⟨to_Mo_kind, List.forall_mem_cons.mpr ⟨to_Mo_exponent, List.forall_mem_cons.mpr ⟨to_Mo_significand, fun _ h => absurd h List.not_mem_nil⟩⟩⟩⟩⟩⟩⟩⟩⟩⟩⟩⟩⟩⟩⟩⟩⟩⟩⟩⟩⟩⟩⟩⟩⟩⟩⟩⟩⟩⟩⟩⟩⟩⟩⟩⟩⟩⟩⟩⟩⟩⟩⟩⟩⟩⟩⟩⟩⟩⟩⟩⟩⟩⟩⟩⟩⟩⟩⟩⟩⟩⟩⟩⟩⟩⟩⟩⟩⟩⟩⟩⟩⟩⟩⟩⟩⟩⟩⟩⟩⟩⟩⟩⟩⟩⟩⟩⟩⟩⟩⟩⟩⟩⟩⟩⟩⟩⟩⟩⟩⟩⟩⟩⟩⟩⟩⟩⟩⟩⟩⟩⟩⟩⟩⟩⟩⟩⟩⟩⟩⟩⟩⟩⟩⟩⟩⟩⟩⟩⟩⟩⟩⟩⟩⟩⟩⟩⟩⟩⟩⟩⟩⟩⟩⟩⟩⟩⟩⟩⟩⟩⟩⟩
theorem zThr_ok {mi : ZM} {pc x : Nat} (hm : mi ∈ zAll) (h : zThr mi pc = some x) : zThO mi pc x := zTok_all mi hm (pc, x) (look_mem h)
theorem zT_in {mi : ZM} {pc x : Nat} (hm : mi = m_law ∨ mi ∈ zAll) (h : zThr mi pc = some x) : mi ∈ zAll := by
  rcases hm with rfl | hm
  · cases h
  · exact hm
theorem zH_in {mi : ZM} {pc x hp : Nat} (hm : mi = m_law ∨ mi ∈ zAll) (h : zHan mi pc x = some hp) : mi ∈ zAll := by
  rcases hm with rfl | hm
  · cases h
  · exact hm
/-! handlers -/
def zHo (mi : ZM) (q : Nat × Nat × Nat × Nat) : Prop := q.2.2.2 ≠ 0 ∧ (zCat q.2.2.2 = 1 ∨ zCat q.2.2.2 = 2) ∧ Jvm.Cond.classLink (zCn (zCno mi)) q.2.2.2 (zXn (zCat q.2.2.2)) ∈ zWs
theorem ha_SR_await : ∀ q ∈ zHs m_SR_await, zHo m_SR_await q := fun _ h => absurd h List.not_mem_nil
theorem ha_Me_waitUntilFree : ∀ q ∈ zHs m_Me_waitUntilFree, zHo m_Me_waitUntilFree q := fun _ h => absurd h List.not_mem_nil
theorem ha_Me_goOn : ∀ q ∈ zHs m_Me_goOn, zHo m_Me_goOn q := fun _ h => absurd h List.not_mem_nil
theorem ha_SR_time : ∀ q ∈ zHs m_SR_time, zHo m_SR_time q := fun _ h => absurd h List.not_mem_nil
theorem ha_SR_flags : ∀ q ∈ zHs m_SR_flags, zHo m_SR_flags q := fun _ h => absurd h List.not_mem_nil
theorem ha_SR_clear : ∀ q ∈ zHs m_SR_clear, zHo m_SR_clear q := fun _ h => absurd h List.not_mem_nil
theorem ha_SR_condition : ∀ q ∈ zHs m_SR_condition, zHo m_SR_condition q := fun _ h => absurd h List.not_mem_nil
theorem ha_SR_depth : ∀ q ∈ zHs m_SR_depth, zHo m_SR_depth q := fun _ h => absurd h List.not_mem_nil
theorem ho_La_control_13 : zHo m_La_control (0, 7, 10, 13) := ⟨by decide, by decide, zW_in 300 (by decide +kernel)⟩
theorem ha_La_control : ∀ q ∈ zHs m_La_control, zHo m_La_control q := List.forall_mem_cons.mpr ⟨ho_La_control_13, fun _ h => absurd h List.not_mem_nil⟩
theorem ha_SR_control : ∀ q ∈ zHs m_SR_control, zHo m_SR_control q := fun _ h => absurd h List.not_mem_nil
theorem ho_La_operate_13 : zHo m_La_operate (0, 10, 13, 13) := ⟨by decide, by decide, zW_in 300 (by decide +kernel)⟩
theorem ho_La_operate_19 : zHo m_La_operate (0, 10, 17, 19) := ⟨by decide, by decide, zW_in 377 (by decide +kernel)⟩
theorem ha_La_operate : ∀ q ∈ zHs m_La_operate, zHo m_La_operate q := List.forall_mem_cons.mpr ⟨ho_La_operate_13, List.forall_mem_cons.mpr ⟨ho_La_operate_19, fun _ h => absurd h List.not_mem_nil⟩⟩
theorem ha_SR_operate : ∀ q ∈ zHs m_SR_operate, zHo m_SR_operate q := fun _ h => absurd h List.not_mem_nil
theorem ha_SR_namesPlace : ∀ q ∈ zHs m_SR_namesPlace, zHo m_SR_namesPlace q := fun _ h => absurd h List.not_mem_nil
theorem ha_Me_occupy : ∀ q ∈ zHs m_Me_occupy, zHo m_Me_occupy q := fun _ h => absurd h List.not_mem_nil
theorem ha_SR_isPossible : ∀ q ∈ zHs m_SR_isPossible, zHo m_SR_isPossible q := fun _ h => absurd h List.not_mem_nil
theorem ha_SR_pushes : ∀ q ∈ zHs m_SR_pushes, zHo m_SR_pushes q := fun _ h => absurd h List.not_mem_nil
theorem ha_SR_st : ∀ q ∈ zHs m_SR_st, zHo m_SR_st q := fun _ h => absurd h List.not_mem_nil
theorem ha_SR_raise : ∀ q ∈ zHs m_SR_raise, zHo m_SR_raise q := fun _ h => absurd h List.not_mem_nil
theorem ha_SR_workOut : ∀ q ∈ zHs m_SR_workOut, zHo m_SR_workOut q := fun _ h => absurd h List.not_mem_nil
theorem ha_Ar_add : ∀ q ∈ zHs m_Ar_add, zHo m_Ar_add q := fun _ h => absurd h List.not_mem_nil
theorem ha_Re_becomeNan : ∀ q ∈ zHs m_Re_becomeNan, zHo m_Re_becomeNan q := fun _ h => absurd h List.not_mem_nil
theorem ha_Ar_addInfinite : ∀ q ∈ zHs m_Ar_addInfinite, zHo m_Ar_addInfinite q := fun _ h => absurd h List.not_mem_nil
theorem ha_Ar_makeInvalid : ∀ q ∈ zHs m_Ar_makeInvalid, zHo m_Ar_makeInvalid q := fun _ h => absurd h List.not_mem_nil
theorem ha_Re_copy : ∀ q ∈ zHs m_Re_copy, zHo m_Re_copy q := fun _ h => absurd h List.not_mem_nil
theorem ha_Re_becomeZero : ∀ q ∈ zHs m_Re_becomeZero, zHo m_Re_becomeZero q := fun _ h => absurd h List.not_mem_nil
theorem ha_Ex_copy : ∀ q ∈ zHs m_Ex_copy, zHo m_Ex_copy q := fun _ h => absurd h List.not_mem_nil
theorem ha_Ex_becomeSum : ∀ q ∈ zHs m_Ex_becomeSum, zHo m_Ex_becomeSum q := fun _ h => absurd h List.not_mem_nil
theorem ha_SR_compareMagnitudes : ∀ q ∈ zHs m_SR_compareMagnitudes, zHo m_SR_compareMagnitudes q := fun _ h => absurd h List.not_mem_nil
theorem ha_SR_isBelow : ∀ q ∈ zHs m_SR_isBelow, zHo m_SR_isBelow q := fun _ h => absurd h List.not_mem_nil
theorem ha_Ex_combine : ∀ q ∈ zHs m_Ex_combine, zHo m_Ex_combine q := fun _ h => absurd h List.not_mem_nil
theorem ha_Ex_lowerPart : ∀ q ∈ zHs m_Ex_lowerPart, zHo m_Ex_lowerPart q := fun _ h => absurd h List.not_mem_nil
theorem ha_Ex_putOn : ∀ q ∈ zHs m_Ex_putOn, zHo m_Ex_putOn q := fun _ h => absurd h List.not_mem_nil
theorem ha_Ex_takeAway : ∀ q ∈ zHs m_Ex_takeAway, zHo m_Ex_takeAway q := fun _ h => absurd h List.not_mem_nil
theorem ha_Ex_normalize : ∀ q ∈ zHs m_Ex_normalize, zHo m_Ex_normalize q := fun _ h => absurd h List.not_mem_nil
theorem ha_Ex_isZero : ∀ q ∈ zHs m_Ex_isZero, zHo m_Ex_isZero q := fun _ h => absurd h List.not_mem_nil
theorem ha_Ro_round : ∀ q ∈ zHs m_Ro_round, zHo m_Ro_round q := fun _ h => absurd h List.not_mem_nil
theorem ha_Ro_roundTo : ∀ q ∈ zHs m_Ro_roundTo, zHo m_Ro_roundTo q := fun _ h => absurd h List.not_mem_nil
theorem ha_Ro_goesAway : ∀ q ∈ zHs m_Ro_goesAway, zHo m_Ro_goesAway q := fun _ h => absurd h List.not_mem_nil
theorem ha_Ro_staysBelowInfinite : ∀ q ∈ zHs m_Ro_staysBelowInfinite, zHo m_Ro_staysBelowInfinite q := fun _ h => absurd h List.not_mem_nil
theorem ha_Re_becomeFinite : ∀ q ∈ zHs m_Re_becomeFinite, zHo m_Re_becomeFinite q := fun _ h => absurd h List.not_mem_nil
theorem ha_Re_becomeInfinite : ∀ q ∈ zHs m_Re_becomeInfinite, zHo m_Re_becomeInfinite q := fun _ h => absurd h List.not_mem_nil
theorem ha_Re_negate : ∀ q ∈ zHs m_Re_negate, zHo m_Re_negate q := fun _ h => absurd h List.not_mem_nil
theorem ha_Ar_multiply : ∀ q ∈ zHs m_Ar_multiply, zHo m_Ar_multiply q := fun _ h => absurd h List.not_mem_nil
theorem ha_Ex_becomeProduct : ∀ q ∈ zHs m_Ex_becomeProduct, zHo m_Ex_becomeProduct q := fun _ h => absurd h List.not_mem_nil
theorem ha_Ex_multiplyBits : ∀ q ∈ zHs m_Ex_multiplyBits, zHo m_Ex_multiplyBits q := fun _ h => absurd h List.not_mem_nil
theorem ha_Ar_divide : ∀ q ∈ zHs m_Ar_divide, zHo m_Ar_divide q := fun _ h => absurd h List.not_mem_nil
theorem ha_Ex_becomeQuotient : ∀ q ∈ zHs m_Ex_becomeQuotient, zHo m_Ex_becomeQuotient q := fun _ h => absurd h List.not_mem_nil
theorem ha_Ex_fitsInDouble : ∀ q ∈ zHs m_Ex_fitsInDouble, zHo m_Ex_fitsInDouble q := fun _ h => absurd h List.not_mem_nil
theorem ha_Ar_root : ∀ q ∈ zHs m_Ar_root, zHo m_Ar_root q := fun _ h => absurd h List.not_mem_nil
theorem ha_Ex_becomeRoot : ∀ q ∈ zHs m_Ex_becomeRoot, zHo m_Ex_becomeRoot q := fun _ h => absurd h List.not_mem_nil
theorem ha_Ex_isAbove : ∀ q ∈ zHs m_Ex_isAbove, zHo m_Ex_isAbove q := fun _ h => absurd h List.not_mem_nil
theorem ha_Ar_makeWhole : ∀ q ∈ zHs m_Ar_makeWhole, zHo m_Ar_makeWhole q := fun _ h => absurd h List.not_mem_nil
theorem ha_Re_isWhole : ∀ q ∈ zHs m_Re_isWhole, zHo m_Re_isWhole q := fun _ h => absurd h List.not_mem_nil
theorem ha_Ro_wholeMagnitude : ∀ q ∈ zHs m_Ro_wholeMagnitude, zHo m_Ro_wholeMagnitude q := fun _ h => absurd h List.not_mem_nil
theorem ha_Re_becomeWhole : ∀ q ∈ zHs m_Re_becomeWhole, zHo m_Re_becomeWhole q := fun _ h => absurd h List.not_mem_nil
theorem ha_Ar_scale : ∀ q ∈ zHs m_Ar_scale, zHo m_Ar_scale q := fun _ h => absurd h List.not_mem_nil
theorem ha_SR_carryOut : ∀ q ∈ zHs m_SR_carryOut, zHo m_SR_carryOut q := fun _ h => absurd h List.not_mem_nil
theorem ha_SR_extract : ∀ q ∈ zHs m_SR_extract, zHo m_SR_extract q := fun _ h => absurd h List.not_mem_nil
theorem ha_SR_push : ∀ q ∈ zHs m_SR_push, zHo m_SR_push q := fun _ h => absurd h List.not_mem_nil
theorem ha_SR_exchange : ∀ q ∈ zHs m_SR_exchange, zHo m_SR_exchange q := fun _ h => absurd h List.not_mem_nil
theorem ha_SR_conditionOf : ∀ q ∈ zHs m_SR_conditionOf, zHo m_SR_conditionOf q := fun _ h => absurd h List.not_mem_nil
theorem ha_SR_compareReals : ∀ q ∈ zHs m_SR_compareReals, zHo m_SR_compareReals q := fun _ h => absurd h List.not_mem_nil
theorem ho_La_load_13 : zHo m_La_load (0, 10, 13, 13) := ⟨by decide, by decide, zW_in 300 (by decide +kernel)⟩
theorem ho_La_load_19 : zHo m_La_load (0, 10, 17, 19) := ⟨by decide, by decide, zW_in 377 (by decide +kernel)⟩
theorem ha_La_load : ∀ q ∈ zHs m_La_load, zHo m_La_load q := List.forall_mem_cons.mpr ⟨ho_La_load_13, List.forall_mem_cons.mpr ⟨ho_La_load_19, fun _ h => absurd h List.not_mem_nil⟩⟩
theorem ha_SR_load : ∀ q ∈ zHs m_SR_load, zHo m_SR_load q := fun _ h => absurd h List.not_mem_nil
theorem ha_SR_isCell : ∀ q ∈ zHs m_SR_isCell, zHo m_SR_isCell q := fun _ h => absurd h List.not_mem_nil
theorem ha_SR_isForm : ∀ q ∈ zHs m_SR_isForm, zHo m_SR_isForm q := fun _ h => absurd h List.not_mem_nil
theorem ha_Fo_decode : ∀ q ∈ zHs m_Fo_decode, zHo m_Fo_decode q := fun _ h => absurd h List.not_mem_nil
theorem ha_Fo_decodeBinary : ∀ q ∈ zHs m_Fo_decodeBinary, zHo m_Fo_decodeBinary q := fun _ h => absurd h List.not_mem_nil
theorem ha_Fo_decodeDecimal : ∀ q ∈ zHs m_Fo_decodeDecimal, zHo m_Fo_decodeDecimal q := fun _ h => absurd h List.not_mem_nil
theorem ho_La_store_13 : zHo m_La_store (0, 10, 13, 13) := ⟨by decide, by decide, zW_in 300 (by decide +kernel)⟩
theorem ho_La_store_19 : zHo m_La_store (0, 10, 17, 19) := ⟨by decide, by decide, zW_in 377 (by decide +kernel)⟩
theorem ha_La_store : ∀ q ∈ zHs m_La_store, zHo m_La_store q := List.forall_mem_cons.mpr ⟨ho_La_store_13, List.forall_mem_cons.mpr ⟨ho_La_store_19, fun _ h => absurd h List.not_mem_nil⟩⟩
theorem ha_SR_store : ∀ q ∈ zHs m_SR_store, zHo m_SR_store q := fun _ h => absurd h List.not_mem_nil
theorem ha_Fo_encode : ∀ q ∈ zHs m_Fo_encode, zHo m_Fo_encode q := fun _ h => absurd h List.not_mem_nil
theorem ha_Fo_encodeWhole : ∀ q ∈ zHs m_Fo_encodeWhole, zHo m_Fo_encodeWhole q := fun _ h => absurd h List.not_mem_nil
theorem ha_Fo_encodeBinary : ∀ q ∈ zHs m_Fo_encodeBinary, zHo m_Fo_encodeBinary q := fun _ h => absurd h List.not_mem_nil
theorem ha_Fo_binaryImage : ∀ q ∈ zHs m_Fo_binaryImage, zHo m_Fo_binaryImage q := fun _ h => absurd h List.not_mem_nil
theorem ha_Fo_encodeDecimal : ∀ q ∈ zHs m_Fo_encodeDecimal, zHo m_Fo_encodeDecimal q := fun _ h => absurd h List.not_mem_nil
theorem ha_Me_storeWhenFree : ∀ q ∈ zHs m_Me_storeWhenFree, zHo m_Me_storeWhenFree q := fun _ h => absurd h List.not_mem_nil
theorem ho_La_write_13 : zHo m_La_write (0, 6, 9, 13) := ⟨by decide, by decide, zW_in 300 (by decide +kernel)⟩
theorem ha_La_write : ∀ q ∈ zHs m_La_write, zHo m_La_write q := List.forall_mem_cons.mpr ⟨ho_La_write_13, fun _ h => absurd h List.not_mem_nil⟩
theorem ha_SR_write : ∀ q ∈ zHs m_SR_write, zHo m_SR_write q := fun _ h => absurd h List.not_mem_nil
theorem ho_La_memory_13 : zHo m_La_memory (0, 8, 11, 13) := ⟨by decide, by decide, zW_in 300 (by decide +kernel)⟩
theorem ha_La_memory : ∀ q ∈ zHs m_La_memory, zHo m_La_memory q := List.forall_mem_cons.mpr ⟨ho_La_memory_13, fun _ h => absurd h List.not_mem_nil⟩
theorem ha_SR_memory : ∀ q ∈ zHs m_SR_memory, zHo m_SR_memory q := fun _ h => absurd h List.not_mem_nil
theorem ho_La_pass_13 : zHo m_La_pass (0, 5, 8, 13) := ⟨by decide, by decide, zW_in 300 (by decide +kernel)⟩
theorem ha_La_pass : ∀ q ∈ zHs m_La_pass, zHo m_La_pass q := List.forall_mem_cons.mpr ⟨ho_La_pass_13, fun _ h => absurd h List.not_mem_nil⟩
theorem ha_SR_pass : ∀ q ∈ zHs m_SR_pass, zHo m_SR_pass q := fun _ h => absurd h List.not_mem_nil
theorem ho_La_kind_13 : zHo m_La_kind (0, 9, 12, 13) := ⟨by decide, by decide, zW_in 300 (by decide +kernel)⟩
theorem ha_La_kind : ∀ q ∈ zHs m_La_kind, zHo m_La_kind q := List.forall_mem_cons.mpr ⟨ho_La_kind_13, fun _ h => absurd h List.not_mem_nil⟩
theorem ha_SR_kind : ∀ q ∈ zHs m_SR_kind, zHo m_SR_kind q := fun _ h => absurd h List.not_mem_nil
theorem ha_SR_isOnStack : ∀ q ∈ zHs m_SR_isOnStack, zHo m_SR_isOnStack q := fun _ h => absurd h List.not_mem_nil
theorem ho_La_exponent_13 : zHo m_La_exponent (0, 9, 12, 13) := ⟨by decide, by decide, zW_in 300 (by decide +kernel)⟩
theorem ha_La_exponent : ∀ q ∈ zHs m_La_exponent, zHo m_La_exponent q := List.forall_mem_cons.mpr ⟨ho_La_exponent_13, fun _ h => absurd h List.not_mem_nil⟩
theorem ha_SR_exponent : ∀ q ∈ zHs m_SR_exponent, zHo m_SR_exponent q := fun _ h => absurd h List.not_mem_nil
theorem ho_La_significand_13 : zHo m_La_significand (0, 8, 11, 13) := ⟨by decide, by decide, zW_in 300 (by decide +kernel)⟩
theorem ha_La_significand : ∀ q ∈ zHs m_La_significand, zHo m_La_significand q := List.forall_mem_cons.mpr ⟨ho_La_significand_13, fun _ h => absurd h List.not_mem_nil⟩
theorem ha_SR_significand : ∀ q ∈ zHs m_SR_significand, zHo m_SR_significand q := fun _ h => absurd h List.not_mem_nil
theorem ha_Mo_thrown : ∀ q ∈ zHs m_Mo_thrown, zHo m_Mo_thrown q := fun _ h => absurd h List.not_mem_nil
theorem ha_Mo_control : ∀ q ∈ zHs m_Mo_control, zHo m_Mo_control q := fun _ h => absurd h List.not_mem_nil
theorem ha_Mo_out : ∀ q ∈ zHs m_Mo_out, zHo m_Mo_out q := fun _ h => absurd h List.not_mem_nil
theorem ha_Mo_operate : ∀ q ∈ zHs m_Mo_operate, zHo m_Mo_operate q := fun _ h => absurd h List.not_mem_nil
theorem ha_Mo_cost : ∀ q ∈ zHs m_Mo_cost, zHo m_Mo_cost q := fun _ h => absurd h List.not_mem_nil
theorem ha_Mo_begin : ∀ q ∈ zHs m_Mo_begin, zHo m_Mo_begin q := fun _ h => absurd h List.not_mem_nil
theorem ha_Mo_goOn : ∀ q ∈ zHs m_Mo_goOn, zHo m_Mo_goOn q := fun _ h => absurd h List.not_mem_nil
theorem ha_Mo_refuse : ∀ q ∈ zHs m_Mo_refuse, zHo m_Mo_refuse q := fun _ h => absurd h List.not_mem_nil
theorem ha_Mo_throwing : ∀ q ∈ zHs m_Mo_throwing, zHo m_Mo_throwing q := fun _ h => absurd h List.not_mem_nil
theorem ha_Mo_copy : ∀ q ∈ zHs m_Mo_copy, zHo m_Mo_copy q := fun _ h => absurd h List.not_mem_nil
theorem ha_Mo_reckon : ∀ q ∈ zHs m_Mo_reckon, zHo m_Mo_reckon q := fun _ h => absurd h List.not_mem_nil
theorem ha_Mo_sum : ∀ q ∈ zHs m_Mo_sum, zHo m_Mo_sum q := fun _ h => absurd h List.not_mem_nil
theorem ha_Mo_either : ∀ q ∈ zHs m_Mo_either, zHo m_Mo_either q := fun _ h => absurd h List.not_mem_nil
theorem ha_Mo_special : ∀ q ∈ zHs m_Mo_special, zHo m_Mo_special q := fun _ h => absurd h List.not_mem_nil
theorem ha_Mo_invalid : ∀ q ∈ zHs m_Mo_invalid, zHo m_Mo_invalid q := fun _ h => absurd h List.not_mem_nil
theorem ha_Mo_put : ∀ q ∈ zHs m_Mo_put, zHo m_Mo_put q := fun _ h => absurd h List.not_mem_nil
theorem ha_Mo_blank : ∀ q ∈ zHs m_Mo_blank, zHo m_Mo_blank q := fun _ h => absurd h List.not_mem_nil
theorem ha_Mo_result : ∀ q ∈ zHs m_Mo_result, zHo m_Mo_result q := fun _ h => absurd h List.not_mem_nil
theorem ha_Mo_round : ∀ q ∈ zHs m_Mo_round, zHo m_Mo_round q := fun _ h => absurd h List.not_mem_nil
theorem ha_Mo_top : ∀ q ∈ zHs m_Mo_top, zHo m_Mo_top q := fun _ h => absurd h List.not_mem_nil
theorem ha_Mo_bit : ∀ q ∈ zHs m_Mo_bit, zHo m_Mo_bit q := fun _ h => absurd h List.not_mem_nil
theorem ha_Mo_goesUp : ∀ q ∈ zHs m_Mo_goesUp, zHo m_Mo_goesUp q := fun _ h => absurd h List.not_mem_nil
theorem ha_Mo_shift : ∀ q ∈ zHs m_Mo_shift, zHo m_Mo_shift q := fun _ h => absurd h List.not_mem_nil
theorem ha_Mo_setBit : ∀ q ∈ zHs m_Mo_setBit, zHo m_Mo_setBit q := fun _ h => absurd h List.not_mem_nil
theorem ha_Mo_add : ∀ q ∈ zHs m_Mo_add, zHo m_Mo_add q := fun _ h => absurd h List.not_mem_nil
theorem ha_Mo_lowest : ∀ q ∈ zHs m_Mo_lowest, zHo m_Mo_lowest q := fun _ h => absurd h List.not_mem_nil
theorem ha_Mo_tooLarge : ∀ q ∈ zHs m_Mo_tooLarge, zHo m_Mo_tooLarge q := fun _ h => absurd h List.not_mem_nil
theorem ha_Mo_finiteSum : ∀ q ∈ zHs m_Mo_finiteSum, zHo m_Mo_finiteSum q := fun _ h => absurd h List.not_mem_nil
theorem ha_Mo_compareRows : ∀ q ∈ zHs m_Mo_compareRows, zHo m_Mo_compareRows q := fun _ h => absurd h List.not_mem_nil
theorem ha_Mo_product : ∀ q ∈ zHs m_Mo_product, zHo m_Mo_product q := fun _ h => absurd h List.not_mem_nil
theorem ha_Mo_times : ∀ q ∈ zHs m_Mo_times, zHo m_Mo_times q := fun _ h => absurd h List.not_mem_nil
theorem ha_Mo_quotient : ∀ q ∈ zHs m_Mo_quotient, zHo m_Mo_quotient q := fun _ h => absurd h List.not_mem_nil
theorem ha_Mo_finiteQuotient : ∀ q ∈ zHs m_Mo_finiteQuotient, zHo m_Mo_finiteQuotient q := fun _ h => absurd h List.not_mem_nil
theorem ha_Mo_change : ∀ q ∈ zHs m_Mo_change, zHo m_Mo_change q := fun _ h => absurd h List.not_mem_nil
theorem ha_Mo_move : ∀ q ∈ zHs m_Mo_move, zHo m_Mo_move q := fun _ h => absurd h List.not_mem_nil
theorem ha_Mo_compared : ∀ q ∈ zHs m_Mo_compared, zHo m_Mo_compared q := fun _ h => absurd h List.not_mem_nil
theorem ha_Mo_rank : ∀ q ∈ zHs m_Mo_rank, zHo m_Mo_rank q := fun _ h => absurd h List.not_mem_nil
theorem ha_Mo_exactly : ∀ q ∈ zHs m_Mo_exactly, zHo m_Mo_exactly q := fun _ h => absurd h List.not_mem_nil
theorem ha_Mo_extract : ∀ q ∈ zHs m_Mo_extract, zHo m_Mo_extract q := fun _ h => absurd h List.not_mem_nil
theorem ha_Mo_alter : ∀ q ∈ zHs m_Mo_alter, zHo m_Mo_alter q := fun _ h => absurd h List.not_mem_nil
theorem ha_Mo_root : ∀ q ∈ zHs m_Mo_root, zHo m_Mo_root q := fun _ h => absurd h List.not_mem_nil
theorem ha_Mo_integer : ∀ q ∈ zHs m_Mo_integer, zHo m_Mo_integer q := fun _ h => absurd h List.not_mem_nil
theorem ha_Mo_whole : ∀ q ∈ zHs m_Mo_whole, zHo m_Mo_whole q := fun _ h => absurd h List.not_mem_nil
theorem ha_Mo_scaled : ∀ q ∈ zHs m_Mo_scaled, zHo m_Mo_scaled q := fun _ h => absurd h List.not_mem_nil
theorem ha_Mo_load : ∀ q ∈ zHs m_Mo_load, zHo m_Mo_load q := fun _ h => absurd h List.not_mem_nil
theorem ha_Mo_readWhole : ∀ q ∈ zHs m_Mo_readWhole, zHo m_Mo_readWhole q := fun _ h => absurd h List.not_mem_nil
theorem ha_Mo_readReal : ∀ q ∈ zHs m_Mo_readReal, zHo m_Mo_readReal q := fun _ h => absurd h List.not_mem_nil
theorem ha_Mo_readDecimal : ∀ q ∈ zHs m_Mo_readDecimal, zHo m_Mo_readDecimal q := fun _ h => absurd h List.not_mem_nil
theorem ha_Mo_store : ∀ q ∈ zHs m_Mo_store, zHo m_Mo_store q := fun _ h => absurd h List.not_mem_nil
theorem ha_Mo_writeReal : ∀ q ∈ zHs m_Mo_writeReal, zHo m_Mo_writeReal q := fun _ h => absurd h List.not_mem_nil
theorem ha_Mo_writeWhole : ∀ q ∈ zHs m_Mo_writeWhole, zHo m_Mo_writeWhole q := fun _ h => absurd h List.not_mem_nil
theorem ha_Mo_write : ∀ q ∈ zHs m_Mo_write, zHo m_Mo_write q := fun _ h => absurd h List.not_mem_nil
theorem ha_Mo_memory : ∀ q ∈ zHs m_Mo_memory, zHo m_Mo_memory q := fun _ h => absurd h List.not_mem_nil
theorem ha_Mo_pass : ∀ q ∈ zHs m_Mo_pass, zHo m_Mo_pass q := fun _ h => absurd h List.not_mem_nil
theorem ha_Mo_await : ∀ q ∈ zHs m_Mo_await, zHo m_Mo_await q := fun _ h => absurd h List.not_mem_nil
theorem ha_Mo_time : ∀ q ∈ zHs m_Mo_time, zHo m_Mo_time q := fun _ h => absurd h List.not_mem_nil
theorem ha_Mo_flags : ∀ q ∈ zHs m_Mo_flags, zHo m_Mo_flags q := fun _ h => absurd h List.not_mem_nil
theorem ha_Mo_clear : ∀ q ∈ zHs m_Mo_clear, zHo m_Mo_clear q := fun _ h => absurd h List.not_mem_nil
theorem ha_Mo_condition : ∀ q ∈ zHs m_Mo_condition, zHo m_Mo_condition q := fun _ h => absurd h List.not_mem_nil
theorem ha_Mo_depth : ∀ q ∈ zHs m_Mo_depth, zHo m_Mo_depth q := fun _ h => absurd h List.not_mem_nil
theorem ha_Mo_kind : ∀ q ∈ zHs m_Mo_kind, zHo m_Mo_kind q := fun _ h => absurd h List.not_mem_nil
theorem ha_Mo_exponent : ∀ q ∈ zHs m_Mo_exponent, zHo m_Mo_exponent q := fun _ h => absurd h List.not_mem_nil
theorem ha_Mo_significand : ∀ q ∈ zHs m_Mo_significand, zHo m_Mo_significand q := fun _ h => absurd h List.not_mem_nil
set_option maxRecDepth 20000 in
theorem zHo_all : ∀ y ∈ zAll, ∀ q ∈ zHs y, zHo y q := List.forall_mem_cons.mpr ⟨ha_SR_await, List.forall_mem_cons.mpr ⟨ha_Me_waitUntilFree, List.forall_mem_cons.mpr ⟨ha_Me_goOn, List.forall_mem_cons.mpr ⟨ha_SR_time, List.forall_mem_cons.mpr ⟨ha_SR_flags, List.forall_mem_cons.mpr ⟨ha_SR_clear, List.forall_mem_cons.mpr ⟨ha_SR_condition, List.forall_mem_cons.mpr ⟨ha_SR_depth, List.forall_mem_cons.mpr ⟨ha_La_control, List.forall_mem_cons.mpr ⟨ha_SR_control, List.forall_mem_cons.mpr ⟨ha_La_operate, List.forall_mem_cons.mpr ⟨ha_SR_operate, List.forall_mem_cons.mpr ⟨ha_SR_namesPlace, List.forall_mem_cons.mpr ⟨ha_Me_occupy, List.forall_mem_cons.mpr ⟨ha_SR_isPossible, List.forall_mem_cons.mpr ⟨ha_SR_pushes, List.forall_mem_cons.mpr ⟨ha_SR_st, List.forall_mem_cons.mpr ⟨ha_SR_raise, List.forall_mem_cons.mpr ⟨ha_SR_workOut, List.forall_mem_cons.mpr ⟨ha_Ar_add, List.forall_mem_cons.mpr ⟨ha_Re_becomeNan, List.forall_mem_cons.mpr ⟨ha_Ar_addInfinite, List.forall_mem_cons.mpr ⟨ha_Ar_makeInvalid, List.forall_mem_cons.mpr ⟨ha_Re_copy, List.forall_mem_cons.mpr ⟨ha_Re_becomeZero, List.forall_mem_cons.mpr ⟨ha_Ex_copy, List.forall_mem_cons.mpr ⟨ha_Ex_becomeSum, List.forall_mem_cons.mpr ⟨ha_SR_compareMagnitudes, List.forall_mem_cons.mpr ⟨ha_SR_isBelow, List.forall_mem_cons.mpr ⟨ha_Ex_combine, List.forall_mem_cons.mpr ⟨ha_Ex_lowerPart, List.forall_mem_cons.mpr ⟨ha_Ex_putOn, List.forall_mem_cons.mpr ⟨ha_Ex_takeAway, List.forall_mem_cons.mpr ⟨ha_Ex_normalize, List.forall_mem_cons.mpr ⟨ha_Ex_isZero, List.forall_mem_cons.mpr ⟨ha_Ro_round, List.forall_mem_cons.mpr ⟨ha_Ro_roundTo, List.forall_mem_cons.mpr ⟨ha_Ro_goesAway, List.forall_mem_cons.mpr ⟨ha_Ro_staysBelowInfinite, List.forall_mem_cons.mpr ⟨ha_Re_becomeFinite, List.forall_mem_cons.mpr ⟨ha_Re_becomeInfinite, List.forall_mem_cons.mpr ⟨ha_Re_negate, List.forall_mem_cons.mpr ⟨ha_Ar_multiply, List.forall_mem_cons.mpr ⟨ha_Ex_becomeProduct, List.forall_mem_cons.mpr ⟨ha_Ex_multiplyBits, List.forall_mem_cons.mpr ⟨ha_Ar_divide, List.forall_mem_cons.mpr ⟨ha_Ex_becomeQuotient, List.forall_mem_cons.mpr ⟨ha_Ex_fitsInDouble, List.forall_mem_cons.mpr ⟨ha_Ar_root, List.forall_mem_cons.mpr ⟨ha_Ex_becomeRoot, List.forall_mem_cons.mpr ⟨ha_Ex_isAbove, List.forall_mem_cons.mpr ⟨ha_Ar_makeWhole, List.forall_mem_cons.mpr ⟨ha_Re_isWhole, List.forall_mem_cons.mpr ⟨ha_Ro_wholeMagnitude, List.forall_mem_cons.mpr ⟨ha_Re_becomeWhole, List.forall_mem_cons.mpr ⟨ha_Ar_scale, List.forall_mem_cons.mpr ⟨ha_SR_carryOut, List.forall_mem_cons.mpr ⟨ha_SR_extract, List.forall_mem_cons.mpr ⟨ha_SR_push, List.forall_mem_cons.mpr ⟨ha_SR_exchange, List.forall_mem_cons.mpr ⟨ha_SR_conditionOf, List.forall_mem_cons.mpr ⟨ha_SR_compareReals, List.forall_mem_cons.mpr ⟨ha_La_load, List.forall_mem_cons.mpr ⟨ha_SR_load, List.forall_mem_cons.mpr ⟨ha_SR_isCell, List.forall_mem_cons.mpr ⟨ha_SR_isForm, List.forall_mem_cons.mpr ⟨ha_Fo_decode, List.forall_mem_cons.mpr ⟨ha_Fo_decodeBinary, List.forall_mem_cons.mpr ⟨ha_Fo_decodeDecimal, List.forall_mem_cons.mpr ⟨ha_La_store, List.forall_mem_cons.mpr ⟨ha_SR_store, List.forall_mem_cons.mpr ⟨ha_Fo_encode, List.forall_mem_cons.mpr ⟨ha_Fo_encodeWhole, List.forall_mem_cons.mpr ⟨ha_Fo_encodeBinary, List.forall_mem_cons.mpr ⟨ha_Fo_binaryImage, List.forall_mem_cons.mpr ⟨ha_Fo_encodeDecimal, List.forall_mem_cons.mpr ⟨ha_Me_storeWhenFree, List.forall_mem_cons.mpr ⟨ha_La_write, List.forall_mem_cons.mpr ⟨ha_SR_write, List.forall_mem_cons.mpr ⟨ha_La_memory, List.forall_mem_cons.mpr ⟨ha_SR_memory, List.forall_mem_cons.mpr ⟨ha_La_pass, List.forall_mem_cons.mpr ⟨ha_SR_pass, List.forall_mem_cons.mpr ⟨ha_La_kind, List.forall_mem_cons.mpr ⟨ha_SR_kind, List.forall_mem_cons.mpr ⟨ha_SR_isOnStack, List.forall_mem_cons.mpr ⟨ha_La_exponent, List.forall_mem_cons.mpr ⟨ha_SR_exponent, List.forall_mem_cons.mpr ⟨ha_La_significand, List.forall_mem_cons.mpr ⟨ha_SR_significand, List.forall_mem_cons.mpr ⟨ha_Mo_thrown, List.forall_mem_cons.mpr ⟨ha_Mo_control, List.forall_mem_cons.mpr ⟨ha_Mo_out, List.forall_mem_cons.mpr ⟨ha_Mo_operate, List.forall_mem_cons.mpr ⟨ha_Mo_cost, List.forall_mem_cons.mpr ⟨ha_Mo_begin, List.forall_mem_cons.mpr ⟨ha_Mo_goOn, List.forall_mem_cons.mpr ⟨ha_Mo_refuse, List.forall_mem_cons.mpr ⟨ha_Mo_throwing, List.forall_mem_cons.mpr ⟨ha_Mo_copy, List.forall_mem_cons.mpr ⟨ha_Mo_reckon, List.forall_mem_cons.mpr ⟨ha_Mo_sum, List.forall_mem_cons.mpr ⟨ha_Mo_either, List.forall_mem_cons.mpr ⟨ha_Mo_special, List.forall_mem_cons.mpr ⟨ha_Mo_invalid, List.forall_mem_cons.mpr ⟨ha_Mo_put, List.forall_mem_cons.mpr ⟨ha_Mo_blank, List.forall_mem_cons.mpr ⟨ha_Mo_result, List.forall_mem_cons.mpr ⟨ha_Mo_round, List.forall_mem_cons.mpr ⟨ha_Mo_top, List.forall_mem_cons.mpr ⟨ha_Mo_bit, List.forall_mem_cons.mpr ⟨ha_Mo_goesUp, List.forall_mem_cons.mpr ⟨ha_Mo_shift, List.forall_mem_cons.mpr ⟨ha_Mo_setBit, List.forall_mem_cons.mpr ⟨ha_Mo_add, List.forall_mem_cons.mpr ⟨ha_Mo_lowest, List.forall_mem_cons.mpr ⟨ha_Mo_tooLarge, List.forall_mem_cons.mpr ⟨ha_Mo_finiteSum, List.forall_mem_cons.mpr ⟨ha_Mo_compareRows, List.forall_mem_cons.mpr ⟨ha_Mo_product, List.forall_mem_cons.mpr ⟨ha_Mo_times, List.forall_mem_cons.mpr ⟨ha_Mo_quotient, List.forall_mem_cons.mpr ⟨ha_Mo_finiteQuotient, List.forall_mem_cons.mpr ⟨ha_Mo_change, List.forall_mem_cons.mpr ⟨ha_Mo_move, List.forall_mem_cons.mpr ⟨ha_Mo_compared, List.forall_mem_cons.mpr ⟨ha_Mo_rank, List.forall_mem_cons.mpr ⟨ha_Mo_exactly, List.forall_mem_cons.mpr ⟨ha_Mo_extract, List.forall_mem_cons.mpr ⟨ha_Mo_alter, List.forall_mem_cons.mpr ⟨ha_Mo_root, List.forall_mem_cons.mpr ⟨ha_Mo_integer, List.forall_mem_cons.mpr ⟨ha_Mo_whole, List.forall_mem_cons.mpr ⟨ha_Mo_scaled, List.forall_mem_cons.mpr ⟨ha_Mo_load, List.forall_mem_cons.mpr ⟨ha_Mo_readWhole, List.forall_mem_cons.mpr ⟨ha_Mo_readReal, List.forall_mem_cons.mpr ⟨ha_Mo_readDecimal, List.forall_mem_cons.mpr ⟨ha_Mo_store, List.forall_mem_cons.mpr ⟨ha_Mo_writeReal, List.forall_mem_cons.mpr ⟨ha_Mo_writeWhole, List.forall_mem_cons.mpr ⟨ha_Mo_write, List.forall_mem_cons.mpr ⟨ha_Mo_memory, List.forall_mem_cons.mpr ⟨ha_Mo_pass, List.forall_mem_cons.mpr ⟨ha_Mo_await, List.forall_mem_cons.mpr ⟨ha_Mo_time, List.forall_mem_cons.mpr ⟨ha_Mo_flags, List.forall_mem_cons.mpr ⟨ha_Mo_clear, List.forall_mem_cons.mpr ⟨ha_Mo_condition, List.forall_mem_cons.mpr ⟨ha_Mo_depth, List.forall_mem_cons.mpr ⟨ha_Mo_kind, List.forall_mem_cons.mpr ⟨ha_Mo_exponent, List.forall_mem_cons.mpr ⟨ha_Mo_significand, fun _ h => absurd h List.not_mem_nil⟩⟩⟩⟩⟩⟩⟩⟩⟩⟩⟩⟩⟩⟩⟩⟩⟩⟩⟩⟩⟩⟩⟩⟩⟩⟩⟩⟩⟩⟩⟩⟩⟩⟩⟩⟩⟩⟩⟩⟩⟩⟩⟩⟩⟩⟩⟩⟩⟩⟩⟩⟩⟩⟩⟩⟩⟩⟩⟩⟩⟩⟩⟩⟩⟩⟩⟩⟩⟩⟩⟩⟩⟩⟩⟩⟩⟩⟩⟩⟩⟩⟩⟩⟩⟩⟩⟩⟩⟩⟩⟩⟩⟩⟩⟩⟩⟩⟩⟩⟩⟩⟩⟩⟩⟩⟩⟩⟩⟩⟩⟩⟩⟩⟩⟩⟩⟩⟩⟩⟩⟩⟩⟩⟩⟩⟩⟩⟩⟩⟩⟩⟩⟩⟩⟩⟩⟩⟩⟩⟩⟩⟩⟩⟩⟩⟩⟩⟩⟩⟩⟩⟩⟩
theorem zCast1 : Jvm.Cond.castable (zXn 1) (zXn 1) ∈ zWs := zW_in 307 (by decide +kernel)
theorem zCast2 : Jvm.Cond.castable (zXn 2) (zXn 2) ∈ zWs := zW_in 413 (by decide +kernel)
theorem zNoCast12 : Jvm.Cond.not (.castable (zXn 1) (zXn 2)) ∈ zWs := List.mem_filter.mpr ⟨List.mem_append_right _ (List.mem_of_getElem? (i := 1) rfl), rfl⟩
theorem zNoCast21 : Jvm.Cond.not (.castable (zXn 2) (zXn 1)) ∈ zWs := List.mem_filter.mpr ⟨List.mem_append_right _ (List.mem_of_getElem? (i := 0) rfl), rfl⟩
theorem zHan_ok {mi : ZM} {pc x hp : Nat} (hm : mi ∈ zAll) (h : zHan mi pc x = some hp) : ∃ pre q post, zHs mi = pre ++ q :: post ∧ q.2.2.1 = hp ∧ ((decide (q.1 ≤ pc) && decide (pc < q.2.1)) = true ∧ q.2.2.2 ≠ 0 ∧ Jvm.Cond.classLink (zCn (zCno mi)) q.2.2.2 (zXn x) ∈ zWs ∧ Jvm.Cond.castable (zXn x) (zXn x) ∈ zWs) ∧
    ∀ r ∈ pre, (decide (r.1 ≤ pc) && decide (pc < r.2.1)) = false ∨ (r.2.2.2 ≠ 0 ∧ ∃ k, Jvm.Cond.classLink (zCn (zCno mi)) r.2.2.2 (zXn k) ∈ zWs ∧ Jvm.Cond.not (.castable (zXn x) (zXn k)) ∈ zWs) := by
  unfold zHan at h
  cases hf : (zHs mi).find? (fun q => decide (q.1 ≤ pc) && decide (pc < q.2.1) && zCat q.2.2.2 == x) with
  | none => rw [hf] at h; cases h
  | some q =>
    rw [hf] at h
    cases h
    obtain ⟨h1, pre, post, h2, h3⟩ := List.find?_eq_some_iff_append.mp hf
    have hall := zHo_all mi hm
    rw [Bool.and_eq_true, beq_iff_eq] at h1
    obtain ⟨h4, h5⟩ := h1
    have hq := hall q (by rw [h2]; simp)
    have hx : x = 1 ∨ x = 2 := by rw [← h5]; exact hq.2.1
    refine ⟨pre, q, post, h2, rfl, ⟨h4, hq.1, by rw [← h5]; exact hq.2.2, ?_⟩, fun r hr => ?_⟩
    · rcases hx with rfl | rfl
      · exact zCast1
      · exact zCast2
    · have hrq := hall r (by rw [h2]; simp [hr])
      have h6 := h3 r hr
      cases hc : (decide (r.1 ≤ pc) && decide (pc < r.2.1)) with
      | false => exact Or.inl rfl
      | true =>
        right
        rw [hc] at h6
        have h7 : zCat r.2.2.2 ≠ x := by simpa using h6
        refine ⟨hrq.1, zCat r.2.2.2, hrq.2.2, ?_⟩
        rcases hx with rfl | rfl <;> rcases hrq.2.1 with h8 | h8
        · exact absurd h8 h7
        · rw [h8]; exact zNoCast12
        · rw [h8]; exact zNoCast21
        · exact absurd h8 h7
end
section
/-! The instructions that touch the heap or the tables (zFld, zInt, zLng, zSta, zTyp, zFin, zCl, zWs: part 01) -/
/-- what may be put into a field -/
def zput (ci j : Nat) (v : Value) : Bool := !zFin ci j && (match zTyp ci j, v with
  | .int, .int _ => true
  | .long, .long _ => true
  | .boolean, .int x => x == 0 || x == 1
  | _, _ => false)
theorem zput_spec {ci j : Nat} {v : Value} (h : zput ci j v = true) (ad : Nat → Nat) : zFin ci j = false ∧ narrow (zTyp ci j) (tv ad v) = tv ad v ∧ fits (zTyp ci j) (tv ad v) = true := by
  unfold zput at h
  rw [Bool.and_eq_true] at h
  obtain ⟨h0, h⟩ := h
  refine ⟨by simpa using h0, ?_⟩
  generalize zTyp ci j = ty at h ⊢
  split at h
  · exact ⟨rfl, rfl⟩
  · exact ⟨rfl, rfl⟩
  · rename_i x
    rw [Bool.or_eq_true, beq_iff_eq, beq_iff_eq] at h
    rcases h with rfl | rfl
    · exact (show narrow FieldType.boolean (.int 0) = .int 0 ∧ fits FieldType.boolean (.int 0) = true from by decide +kernel)
    · exact (show narrow FieldType.boolean (.int 1) = .int 1 ∧ fits FieldType.boolean (.int 1) = true from by decide +kernel)
  · cases h
/-- int arrays that nobody writes: the script, static tables -/
def zEx (L : Nat) (xs : Nat → Int32) (k : Nat) : Option (Nat × (Nat → Int32)) := if k = 1000 then some (L, xs) else zTab k
def z2 (L : Nat) (xs : Nat → Int32) (cn : Nat) (i : Instr) (st : List Value) (h : zH) : Option (Nat × List Value × zH) := match i with
  | .ldc x => (match zInt cn x with | some v => some (2, .int v :: st, h) | none => none)
  | .ldc2_w x => (match zLng cn x with | some v => some (3, .long v :: st, h) | none => none)
  | .getstatic x => (match zSta cn x with | some k => some (3, .ref k :: st, h) | none => none)
  | .getfield x => (match zFld cn x with
      | some (ci, j) => (match st with
        | .ref k :: r => (match h[k]? with
          | some (.inr (cj, fs)) => if cj = ci then (match fs[j]? with | some v => some (3, v :: r, h) | none => none) else none
          | _ => none)
        | _ => none)
      | none => none)
  | .putfield x => (match zFld cn x with
      | some (ci, j) => (match st with
        | v :: .ref k :: r => (match h[k]? with
          | some (.inr (cj, fs)) => if cj = ci ∧ j < fs.length ∧ zput ci j v = true then some (3, r, h.set k (.inr (ci, fs.set j v))) else none
          | _ => none)
        | _ => none)
      | none => none)
  | .arraylength => (match st with
      | .ref k :: r => (match zEx L xs k with | some (N, _) => some (1, .int (Int32.ofNat N) :: r, h) | none => none)
      | _ => none)
  | .iaload => (match st with
      | .int a :: .ref k :: r => (match zEx L xs k with
        | some (N, f) => if 0 ≤ a.toInt ∧ a.toInt < N then some (1, .int (f a.toNatClampNeg) :: r, h) else none
        | none => (match h[k]? with
          | some (.inl (0, N, .inl f)) => if 0 ≤ a.toInt ∧ a.toInt < N then some (1, .int (f a.toNatClampNeg) :: r, h) else none
          | _ => none))
      | _ => none)
  | .laload => (match st with
      | .int a :: .ref k :: r => (match h[k]? with
        | some (.inl (1, N, .inr (.inl f))) => if 0 ≤ a.toInt ∧ a.toInt < N then some (1, .long (f a.toNatClampNeg) :: r, h) else none
        | _ => none)
      | _ => none)
  | .baload => (match st with
      | .int a :: .ref k :: r => (match h[k]? with
        | some (.inl (2, N, .inl f)) => if 0 ≤ a.toInt ∧ a.toInt < N then some (1, .int (f a.toNatClampNeg) :: r, h) else none
        | _ => none)
      | _ => none)
  | .aaload => (match st with
      | .int a :: .ref k :: r => (match h[k]? with
        | some (.inl (3, N, .inr (.inr (.inr (.inr f))))) => if 0 ≤ a.toInt ∧ a.toInt < N then (match f a.toNatClampNeg with | some q => some (1, .ref q :: r, h) | none => none) else none
        | _ => none)
      | _ => none)
  | .iastore => (match st with
      | .int v :: .int a :: .ref k :: r => (match h[k]? with
        | some (.inl (0, N, .inl f)) => if 0 ≤ a.toInt ∧ a.toInt < N then some (1, r, h.set k (.inl (0, N, .inl (upd f a.toNatClampNeg v)))) else none
        | _ => none)
      | _ => none)
  | .lastore => (match st with
      | .long v :: .int a :: .ref k :: r => (match h[k]? with
        | some (.inl (1, N, .inr (.inl f))) => if 0 ≤ a.toInt ∧ a.toInt < N then some (1, r, h.set k (.inl (1, N, .inr (.inl (vp_updL f a.toNatClampNeg v))))) else none
        | _ => none)
      | _ => none)
  | .bastore => (match st with
      | .int v :: .int a :: .ref k :: r => (match h[k]? with
        | some (.inl (2, N, .inl f)) => if 0 ≤ a.toInt ∧ a.toInt < N then some (1, r, h.set k (.inl (2, N, .inl (upd f a.toNatClampNeg (vp_nar .boolean v))))) else none
        | _ => none)
      | _ => none)
  | .aastore => (match st with
      | .ref v :: .int a :: .ref k :: r => (match h[k]? with
        | some (.inl (3, N, .inr (.inr (.inr (.inr f))))) => (match h[v]? with
          | some (.inr (cj, _)) => if cj = zReal ∧ 0 ≤ a.toInt ∧ a.toInt < N then some (1, r, h.set k (.inl (3, N, .inr (.inr (.inr (.inr (va_up f a.toNatClampNeg (some v)))))))) else none
          | _ => none)
        | _ => none)
      | _ => none)
  | _ => none
/-- the array classes of a world -/
def zTt (cA : Nat → ClassId) : List (ClassId × FieldType) := [(cA 0, .int), (cA 1, .long), (cA 2, .boolean), (cA 3, .object zRealN)]
/-- what is true of the heap at any point of a method: the world h at the addresses ad, nothing outside A changed -/
def zI (D : va_G) (ad : Nat → Nat) (cA : Nat → ClassId) (A : Nat → Prop) (s : State) (h : zH) (H : Heap) (locs : List Loc) : Prop :=
  va_P D zCl (wd ad cA h) H ∧ va_D A (wd ad cA h) ∧ va_S A s.heap H locs
/-- what is true of a method's start for all its time: the tables' words, the classes, the arrays that nobody writes, the statics -/
def zS (D : va_G) (ad : Nat → Nat) (cA : Nat → ClassId) (A : Nat → Prop) (L : Nat) (xs : Nat → Int32) (s : State) (args : Array Value) : Prop :=
  (∀ w ∈ zWs, w.before args s = true) ∧ va_K D zCl (zTt cA) s ∧ (∀ (k N : Nat) (f : Nat → Int32), zEx L xs k = some (N, f) → va_T .int (ad k) N (fun j => .int (f j)) A s s.heap) ∧ (∀ (k : Nat) (C n d : String), (k, C, n, d) ∈ zStN → va_Z C n d (.ref (ad k)) A s s.heap) ∧ (∀ q : Nat, s.heap.size ≤ q → A q) ∧
  (∀ (C n d : String), (C, n, d) ∈ zStQ → vx_Zq C n d A s s.heap) ∧ (∀ (cn i : Nat) (tx : String), (cn, i, tx) ∈ zStr → ∃ q, vk_R (zCn cn) i tx q s)
section Z2
variable {p : Program} {l : Launch} {e : Env} {R : Room} {s : State} {m : MethodId} {args : Array Value} {below : List Frame} {meth : Method} {c : Code} {H : Heap} {locs : List Loc} {cells slots : Nat} {Q : State → Prop}
variable {cc : ByteArray} {pc : Nat} {ls : Array Slot} {D : va_G} {ad : Nat → Nat} {cA : Nat → ClassId} {A : Nat → Prop} {L : Nat} {xs : Nat → Int32}
theorem z_in {a : Int32} {N : Nat} (h : 0 ≤ a.toInt ∧ a.toInt < N) : vp_in a N := vp_in_iff.mpr h
set_option maxHeartbeats 4000000 in
theorem sim2 {cn nL n n' : Nat} {i : Instr} {st st' : List Value} {h h' : zH} (hx : p.tables.exec = Jvm.exec) (hb : c.code = cc) (hd : decode cc pc = .ok (i, n)) (hz : zok nL pc i n = true) (hown : s.vm.findClass (zCn cn) = some m.cls)
    (hs : zS D ad cA A L xs s args) (h2 : z2 L xs cn i st h = some (n', st', h')) (hI : zI D ad cA A s h H locs)
    (k : ∀ (H' : Heap) (locs' : List Loc), zI D ad cA A s h' H' locs' → W p l e R s m args below meth c H' locs' cells slots Q (F0 m (pc + n') ls (st'.map (tv ad)))) :
    W p l e R s m args below meth c H locs cells slots Q (F0 m pc ls (st.map (tv ad))) := by
  obtain ⟨hts, hK, hE, hZ, hA, -, -⟩ := hs
  obtain ⟨hP, hD, hS⟩ := id hI
  unfold z2 at h2
  split at h2
  · -- ldc
    obtain rfl : n = 2 := by simpa [zok] using hz
    split at h2
    · rename_i v hv
      cases h2
      exact lv_ldc hx hb hown (hts _ (zInt_ok hv)) hd (k _ _ hI)
    · cases h2
  · -- ldc2_w
    obtain rfl : n = 3 := by simpa [zok] using hz
    split at h2
    · rename_i v hv
      cases h2
      exact lv_ldc2 hx hb hown (hts _ (zLng_ok hv)) hd (k _ _ hI)
    · cases h2
  · -- getstatic
    obtain rfl : n = 3 := by simpa [zok] using hz
    split at h2
    · rename_i q hv
      cases h2
      obtain ⟨C, nm, ds, h1, h3⟩ := zSta_ok hv
      exact va_gets hx hb (hZ _ _ _ _ h1) hS hown (hts _ h3) (fun _ z => z) hd (k _ _ hI)
    · cases h2
  · -- getfield
    obtain rfl : n = 3 := by simpa [zok] using hz
    split at h2
    · rename_i ci j hv
      split at h2
      · rename_i q r
        split at h2
        · rename_i cj fs hq
          split at h2
          · rename_i hc
            subst hc
            split at h2
            · rename_i v hf
              cases h2
              obtain ⟨C, T, N, h1, h3, h4⟩ := zFld_ok hv
              have he := wd_get (ad := ad) (cA := cA) hq
              have hfv : (fs.map (tv ad))[j]? = some (tv ad v) := by rw [List.getElem?_map, hf]; rfl
              rcases h4 with h4 | ⟨host, h4⟩
              · exact va_get hx hb hts (zCl_ok h1).1 hown hK hP q he h1 j h3 (hts _ h4) (fun _ z => z) hfv hd (k _ _ hI)
              · exact va_getN hx hb hts (zCl_ok h1).1 hown hK hP q he h1 j h3 (hts _ h4) (fun _ z => z) hfv hd (k _ _ hI)
            · cases h2
          · cases h2
        · cases h2
      · cases h2
    · cases h2
  · -- putfield
    obtain rfl : n = 3 := by simpa [zok] using hz
    split at h2
    · rename_i ci j hv
      split at h2
      · rename_i v q r
        split at h2
        · rename_i cj fs hq
          split at h2
          · rename_i hc
            obtain ⟨hc, hj, hp⟩ := hc
            subst hc
            cases h2
            obtain ⟨C, T, N, h1, h3, h4⟩ := zFld_ok hv
            obtain ⟨hf, hn, hfit⟩ := zput_spec hp ad
            have he := wd_get (ad := ad) (cA := cA) hq
            have hw : (wd ad cA h).set q (ad q, .inr (cj, (fs.map (tv ad)).set j (tv ad v))) = wd ad cA (h.set q (.inr (cj, fs.set j v))) := by
              rw [← wd_set, show (fs.map (tv ad)).set j (tv ad v) = (fs.set j v).map (tv ad) from List.map_set.symm]
              rfl
            rcases h4 with h4 | ⟨host, h4⟩
            · refine va_put hx hb hts (zCl_ok h1).1 (zTyp cj) (zCl_ok h1).2.1 (zCl_ok h1).2.2.1 hown hK hP hD hS q he h1 j h3 (hts _ h4) (fun _ z => z) (((zCl_ok h1).2.2.2 j h3).symm.trans hf) ((zCl_ok h1).2.1 j h3) hn hfit (by rw [List.length_map]; exact hj) hd (fun H1 locs1 hP1 hD1 hS1 => k H1 locs1 ⟨?_, ?_, hS1⟩)
              · rw [← hw]; exact hP1
              · rw [← hw]; exact hD1
            · refine va_putN hx hb hts (zCl_ok h1).1 (zTyp cj) (zCl_ok h1).2.1 (zCl_ok h1).2.2.1 hown hK hP hD hS q he h1 j h3 (hts _ h4) (fun _ z => z) (((zCl_ok h1).2.2.2 j h3).symm.trans hf) ((zCl_ok h1).2.1 j h3) hn hfit (by rw [List.length_map]; exact hj) hd (fun H1 locs1 hP1 hD1 hS1 => k H1 locs1 ⟨?_, ?_, hS1⟩)
              · rw [← hw]; exact hP1
              · rw [← hw]; exact hD1
          · cases h2
        · cases h2
      · cases h2
    · cases h2
  · -- arraylength
    obtain rfl : n = 1 := by simpa [zok] using hz
    split at h2
    · rename_i q r
      split at h2
      · rename_i N f hf
        cases h2
        obtain ⟨cell, q1, q2, q3, q4, q5, q6, q7⟩ := hE _ _ _ hf
        have hq : H[ad q]? = some cell := by rw [hS.2.1 _ (Array.getElem?_eq_some_iff.mp q1).1 q7]; exact q1
        exact W.alen hx hb hq q2 q5 rfl rfl hd (k _ _ hI)
      · cases h2
    · cases h2
  · -- iaload
    obtain rfl : n = 1 := by simpa [zok] using hz
    split at h2
    · rename_i a q r
      split at h2
      · rename_i N f hf
        split at h2
        · rename_i hin
          cases h2
          exact va_ti hx hb (hE _ _ _ hf) hS (z_in hin) rfl hd (k _ _ hI)
        · cases h2
      · split at h2
        · rename_i N f hq
          split at h2
          · rename_i hin
            cases h2
            exact va_iald hx hb hK hP q 0 (wd_get hq) rfl (z_in hin) hd (k _ _ hI)
          · cases h2
        · cases h2
    · cases h2
  · -- laload
    obtain rfl : n = 1 := by simpa [zok] using hz
    split at h2
    · rename_i a q r
      split at h2
      · rename_i N f hq
        split at h2
        · rename_i hin
          cases h2
          exact va_lald hx hb hK hP q 1 (wd_get hq) rfl (z_in hin) hd (k _ _ hI)
        · cases h2
      · cases h2
    · cases h2
  · -- baload
    obtain rfl : n = 1 := by simpa [zok] using hz
    split at h2
    · rename_i a q r
      split at h2
      · rename_i N f hq
        split at h2
        · rename_i hin
          cases h2
          exact va_zald hx hb hK hP q 2 (wd_get hq) rfl (z_in hin) hd (k _ _ hI)
        · cases h2
      · cases h2
    · cases h2
  · -- aaload
    obtain rfl : n = 1 := by simpa [zok] using hz
    split at h2
    · rename_i a q r
      split at h2
      · rename_i N f hq
        split at h2
        · rename_i hin
          split at h2
          · rename_i y hy
            cases h2
            refine va_aldq hx hb hK hP q 3 (wd_get hq) rfl (z_in hin) hd ?_
            have h9 := k _ _ hI
            rw [hy]
            exact h9
          · cases h2
        · cases h2
      · cases h2
    · cases h2
  · -- iastore
    obtain rfl : n = 1 := by simpa [zok] using hz
    split at h2
    · rename_i v a q r
      split at h2
      · rename_i N f hq
        split at h2
        · rename_i hin
          cases h2
          refine va_iast hx hb hK hP hD hS q 0 (wd_get hq) rfl (z_in hin) hd (fun H1 locs1 hP1 hD1 hS1 => k H1 locs1 ⟨?_, ?_, hS1⟩)
          · rw [← wd_set]; exact hP1
          · rw [← wd_set]; exact hD1
        · cases h2
      · cases h2
    · cases h2
  · -- lastore
    obtain rfl : n = 1 := by simpa [zok] using hz
    split at h2
    · rename_i v a q r
      split at h2
      · rename_i N f hq
        split at h2
        · rename_i hin
          cases h2
          refine va_last hx hb hK hP hD hS q 1 (wd_get hq) rfl (z_in hin) hd (fun H1 locs1 hP1 hD1 hS1 => k H1 locs1 ⟨?_, ?_, hS1⟩)
          · rw [← wd_set]; exact hP1
          · rw [← wd_set]; exact hD1
        · cases h2
      · cases h2
    · cases h2
  · -- bastore
    obtain rfl : n = 1 := by simpa [zok] using hz
    split at h2
    · rename_i v a q r
      split at h2
      · rename_i N f hq
        split at h2
        · rename_i hin
          cases h2
          refine va_zast hx hb hK hP hD hS q 2 (wd_get hq) rfl (z_in hin) hd (fun H1 locs1 hP1 hD1 hS1 => k H1 locs1 ⟨?_, ?_, hS1⟩)
          · rw [← wd_set]; exact hP1
          · rw [← wd_set]; exact hD1
        · cases h2
      · cases h2
    · cases h2
  · -- aastore
    obtain rfl : n = 1 := by simpa [zok] using hz
    split at h2
    · rename_i v a q r
      split at h2
      · rename_i N f hq
        split at h2
        · rename_i cj fs hv
          split at h2
          · rename_i hin
            obtain ⟨rfl, hin⟩ := hin
            cases h2
            have hw : (wd ad cA h).set q (ad q, .inl (cA 3, N, .inr (.inr (.inr (.inr (va_up (fun i => (f i).map ad) a.toNatClampNeg (some (ad v)))))))) = wd ad cA (h.set q (.inl (3, N, .inr (.inr (.inr (.inr (va_up f a.toNatClampNeg (some v)))))))) := by
              rw [← wd_set]
              have e1 : va_up (fun i => (f i).map ad) a.toNatClampNeg (some (ad v)) = (fun i => (va_up f a.toNatClampNeg (some v) i).map ad) := by
                funext i
                unfold va_up
                by_cases hi : i = a.toNatClampNeg
                · rw [if_pos hi, if_pos hi]; rfl
                · rw [if_neg hi, if_neg hi]
              rw [e1]
              rfl
            refine va_astq hx hb hK hP hD hS q 3 v zReal (wd_get hq) rfl (wd_get hv) zReal_ok (z_in hin) hd (fun H1 locs1 hP1 hD1 hS1 => k H1 locs1 ⟨?_, ?_, hS1⟩)
            · rw [← hw]; exact hP1
            · rw [← hw]; exact hD1
          · cases h2
        · cases h2
      · cases h2
    · cases h2
  · cases h2
end Z2
end
section
/-! Calls, returns, throws; the pure machine's run -/
def zcall (cn : Nat) (i : Instr) (st : List Value) (h : zH) : Option (ZM × List Value × List Value) := match i with
  | .invokestatic x => (match zCalS cn x with
      | some (y, a) => if a ≤ st.length ∧ ((st.drop a).map fun v => v.category).sum + zMl y ≤ 19 ∧ ((st.take a).reverse.map fun v => v.category).sum ≤ zMl y then some (y, (st.take a).reverse, st.drop a) else none
      | none => none)
  | .invokevirtual x => (match zCalV cn x with
      | some (y, a) => (match st.drop a with
        | .ref k :: r => (match h[k]? with
          | some (.inr (ci, _)) => if ci = zCno y ∧ (r.map fun v => v.category).sum + zMl y ≤ 19 ∧ ((Value.ref k :: (st.take a).reverse).map fun v => v.category).sum ≤ zMl y then some (y, .ref k :: (st.take a).reverse, r) else none
          | _ => none)
        | _ => none)
      | none => none)
  | _ => none
def zret3 (mi : ZM) (i : Instr) (st : List Value) : Option (Option Value) := match i with
  | .ireturn => (match st with
      | [.int v] => (match zRt mi with | some .int => some (some (.int v)) | some .boolean => if v = 0 ∨ v = 1 then some (some (.int v)) else none | _ => none)
      | _ => none)
  | .lreturn => (match st with | [.long v] => (match zRt mi with | some .long => some (some (.long v)) | _ => none) | _ => none)
  | .areturn => (match st with | [.ref k] => (match zRt mi with | some (.object _) => some (some (.ref k)) | _ => none) | _ => none)
  | .return_ => (match st with | [] => (match zRt mi with | none => some none | _ => none) | _ => none)
  | _ => none
abbrev zO : Type := Option Value ⊕ Nat
def zrun (L : Nat) (xs : Nat → Int32) : Nat → Nat → ZM → Nat → zL → List Value → zH → Nat → Option (zO × zH × Nat)
  | 0, _, _, _, _, _, _, _ => none
  | n + 1, d, mi, pc, lv, st, h, k =>
    match zfetch mi pc with
    | none => none
    | some (i, _) =>
      match z1 pc i lv st with
      | some (pc', lv', st') => zrun L xs n d mi pc' lv' st' h k
      | none =>
      match z2 L xs (zCno mi) i st h with
      | some (w, st', h') => zrun L xs n d mi (pc + w) lv st' h' k
      | none =>
      match zcall (zCno mi) i st h with
      | some (y, as, rest) =>
        (match d with
         | 0 => none
         | d' + 1 => if k + zKm y ≤ zKm mi then
            (match zrun L xs n d' y 0 (lv_args 0 as) [] h 0 with
             | none => none
             | some (.inl v, h', k1) => if k1 ≤ zKm y then zrun L xs n (d' + 1) mi (pc + 3) lv (v.toList ++ rest) h' (k + zKm y) else none
             | some (.inr x, h', k1) => if k1 ≤ zKm y then (match zHs mi with
                | [] => some (.inr x, h', k + zKm y)
                | _ => (match zHan mi pc x with
                  | none => none
                  | some hp => (match zfetch mi hp with
                    | some (.astore j, _) => zrun L xs n (d' + 1) mi (hp + 2) (zdrop1 j lv) [] h' (k + zKm y)
                    | some (.astore_n j, _) => zrun L xs n (d' + 1) mi (hp + 1) (zdrop1 j lv) [] h' (k + zKm y)
                    | _ => none))) else none)
            else none)
      | none =>
      match zret3 mi i st with
      | some v => some (.inl v, h, k)
      | none =>
      match zThr mi pc with
      | some x => if k + 1 ≤ zKm mi ∧ st = [] ∧ 6 ≤ d then some (.inr x, h, k + 1) else none
      | none => none
/-- what is true of a method's frame -/
def zM (mi : ZM) (s : State) (m : MethodId) (meth : Method) (c : Code) : Prop :=
  s.vm.findClass (zCn (zCno mi)) = some m.cls ∧ c.code = zCode mi ∧ c.maxLocals = zMl mi ∧ meth.sig.returnType = zRt mi ∧ meth.locks = false ∧ c.exceptionTable.toList.map (fun h => (h.startPc, h.endPc, h.handlerPc, h.catchType)) = zHs mi
/-- the ends of a method's walk -/
def zQ (D : va_G) (ad : Nat → Nat) (cA : Nat → ClassId) (A : Nat → Prop) (s : State) (below : List Frame) (o : zO) (h : zH) (kc : Nat) : State → Prop := fun t =>
  t.status = .running ∧ s.WarmedH t.vm ∧ ∃ locs, s.sameButNew ({ t with vm := s.vm } : State) locs kc (6 * kc) ∧ zI D ad cA A s h t.heap locs ∧ (match o with
    | .inl v => Ended t below (.returned (v.map (tv ad)))
    | .inr x => ∃ (a : Nat) (ce : Cell), Ended t below (.threw a) ∧ t.heap[a]? = some ce ∧ ce.vm = .none ∧ s.vm.findClass (zXn x) = some ce.cls)
section ZR
variable {p : Program} {l : Launch} {e : Env} {R : Room} {s : State} {m : MethodId} {args : Array Value} {below : List Frame} {meth : Method} {c : Code} {H : Heap} {locs : List Loc} {cells slots : Nat} {Q : State → Prop}
variable {cc : ByteArray} {pc : Nat} {ls : Array Slot} {D : va_G} {ad : Nat → Nat} {cA : Nat → ClassId} {A : Nat → Prop} {L : Nat} {xs : Nat → Int32}
theorem W.mono {Q' : State → Prop} {g : JFrame} (hq : ∀ t, Q t → Q' t) (k : W p l e R s m args below meth c H locs cells slots Q g) : W p l e R s m args below meth c H locs cells slots Q' g := fun T hT X => by
  obtain ⟨t, a, b⟩ := k T hT X
  exact ⟨t, a, hq t b⟩
/-- a return -/
theorem z_ret {mi : ZM} {nL n kc : Nat} {i : Instr} {st : List Value} {v : Option Value} {h : zH} (hx : p.tables.exec = Jvm.exec) (hm : zM mi s m meth c) (hd : decode (zCode mi) pc = .ok (i, n)) (hz : zok nL pc i n = true) (hr : zret3 mi i st = some v) (hI : zI D ad cA A s h H locs) :
    W p l e R s m args below meth c H locs kc (6 * kc) (zQ D ad cA A s below (.inl v) h kc) (F0 m pc ls (st.map (tv ad))) := by
  obtain ⟨-, hb, -, hrt, hlk, -⟩ := hm
  have key : ∀ (o : Option Value) (t : State), MQ below (fun _ _ o' t => o' = .returned o ∧ t.heap = H) args s kc (6 * kc) (fun q => ∃ l9 ∈ locs, l9.base = q) t → o = v.map (tv ad) → zQ D ad cA A s below (.inl v) h kc t := by
    intro o t ht ho
    obtain ⟨o', h1, h2, ⟨h3, h4⟩, L9, ⟨-, h5, h6⟩, h7⟩ := ht
    subst h3
    subst ho
    refine ⟨h1, h5, L9, h6, ⟨by rw [h4]; exact hI.1, hI.2.1, by rw [h4]; exact hI.2.2.1, by rw [h4]; exact hI.2.2.2.1, fun q hq => ?_⟩, h2⟩
    obtain ⟨l9, e1, e2⟩ := h7 q hq
    rw [← e2]
    exact hI.2.2.2.2 l9 e1
  have hf : ∀ q ∈ locs, ∃ l9 ∈ locs, l9.base = q.base := fun q hq => ⟨q, hq, rfl⟩
  unfold zret3 at hr
  split at hr
  · obtain rfl : n = 1 := by simpa [zok] using hz
    split at hr
    · split at hr
      · rename_i hty
        cases hr
        exact W.mono (fun t ht => key _ t ht rfl) (W.iret hx hb (hrt.trans hty) (fun t ht _ => ⟨rfl, ht⟩) hf hd hlk)
      · rename_i hty
        split at hr
        · rename_i hv
          cases hr
          exact W.mono (fun t ht => key _ t ht rfl) (W.zret hx hb (hrt.trans hty) (by rcases hv with rfl | rfl <;> decide +kernel) (fun t ht _ => ⟨rfl, ht⟩) hf hd hlk)
        · cases hr
      · cases hr
    · cases hr
  · obtain rfl : n = 1 := by simpa [zok] using hz
    split at hr
    · split at hr
      · rename_i hty
        cases hr
        exact W.mono (fun t ht => key _ t ht rfl) (W.lret hx hb (hrt.trans hty) (fun t ht _ => ⟨rfl, ht⟩) hf hd hlk)
      · cases hr
    · cases hr
  · obtain rfl : n = 1 := by simpa [zok] using hz
    split at hr
    · split at hr
      · rename_i hty
        cases hr
        exact W.mono (fun t ht => key _ t ht rfl) (W.aret hx hb (hrt.trans hty) (Or.inl ⟨_, rfl⟩) (Or.inr ⟨_, rfl⟩) (fun t ht _ => ⟨rfl, ht⟩) hf hd hlk)
      · cases hr
    · cases hr
  · obtain rfl : n = 1 := by simpa [zok] using hz
    split at hr
    · split at hr
      · rename_i hty
        cases hr
        exact W.mono (fun t ht => key _ t ht rfl) (W.vret hx hb (hrt.trans hty) (fun t ht _ => ⟨rfl, ht⟩) hf hd hlk)
      · cases hr
    · cases hr
  · cases hr
end ZR
end
section
/-! Into a callee and out of it -/
theorem z_castn {s U : State} {args a' : Array Value} {a b : String} (hW : s.WarmedH U.vm) : (Jvm.Cond.not (.castable a b)).before a' U = (Jvm.Cond.not (.castable a b)).before args s := by
  simp only [Cond.before, Cond.holds, Cond.value, hW.alike.findClass, hW.alike.assignable]
theorem zmoved {s U : State} {args a' : Array Value} {w : Jvm.Cond} (hW : s.WarmedH U.vm) (hm : zmov w = true) (h : w.before args s = true) : w.before a' U = true := by
  unfold zmov at hm
  rw [Bool.or_eq_true] at hm
  rcases hm with hm | hm
  · rw [Bool.and_eq_true] at hm
    have h1 : w.before args (s.setVm U.vm) = true := Cond.before_shiftedFace (State.Shifted.of_warmed hW) w hm.2 h
    rw [Cond.onTables_vm (A' := a') (U' := U) U.vm w hm.1] at h1
    exact h1
  · split at hm
    · exact word_at hW (Or.inr ⟨_, rfl⟩) h
    · exact va_Nw.use rfl (va_Nw.warmM hW (va_Nw.of rfl h))
    · exact va_Nw.use rfl (va_Nw.warmF hW (va_Nw.of rfl h))
    · rw [z_castn hW]; exact h
    · cases hm
def zRm (d : Nat) (y : ZM) : Room := { frames := d, cells := zKm y, slots := 6 * zKm y, locals := 30 * d + 90 }
section ZC
variable {p : Program} {l : Launch} {e : Env} {R : Room} {s : State} {m : MethodId} {args : Array Value} {below : List Frame} {meth : Method} {c : Code} {T : State} {H : Heap} {locs : List Loc} {cells slots : Nat} {Q : State → Prop}
variable {pc : Nat} {ls : Array Slot} {D : va_G} {ad : Nat → Nat} {cA : Nat → ClassId} {A : Nat → Prop} {L : Nat} {xs : Nat → Int32}
/-- the code of a method of ours, out of its word -/
theorem z_code {y : ZM} (hy : y ∈ zAll) (hts : ∀ w ∈ zWs, w.before args s = true) : ∃ mk methk ck, s.methodNamed? (zNm y) = some mk ∧ s.vm.method? mk = some methk ∧ methk.code = some ck ∧ zM y s mk methk ck ∧ parseMethodDescriptor (zNm y).desc = some methk.sig := by
  obtain ⟨h1, -, -, h2⟩ := zMeth_ok y hy
  rcases h2 with ⟨h0, h2⟩ | h2
  · have hw := hts _ h2
    obtain ⟨mk, hn⟩ := Cond.code_named hw
    obtain ⟨methk, ck, q1, q2, q3, q4, q5, q6, q7, q8⟩ := Cond.code_spec hn hw
    refine ⟨mk, methk, ck, hn, q1, q2, ⟨by rw [← h1]; exact findClass_of_methodNamed hn, q3, q4, q5, q6, ?_⟩, q8⟩
    have e0 : ck.exceptionTable.size = 0 := by simpa [Array.isEmpty] using q7
    have e1 : ck.exceptionTable.toList = [] := List.eq_nil_of_length_eq_zero (by simpa using e0)
    rw [e1, h0]
    rfl
  · have hw := hts _ h2
    obtain ⟨mk, methk, ck, hn, q1, q2, q3, q4, q5, q6, q7, q8⟩ := Cond.codeWith_spec hw
    exact ⟨mk, methk, ck, hn, q1, q2, ⟨by rw [← h1]; exact findClass_of_methodNamed hn, q3, q4, q6, q7, q5⟩, q8⟩
/-- the invoking instruction -/
theorem z_inv {cn n nL : Nat} {y : ZM} {i : Instr} {st as rest : List Value} {h : zH} (X : Stand p l e R s m args below meth c T locs cells slots) (hx : p.tables.exec = Jvm.exec) (hown : s.vm.findClass (zCn cn) = some m.cls) (hts : ∀ w ∈ zWs, w.before args s = true) (hK : va_K D zCl (zTt cA) s) (hP : va_P D zCl (wd ad cA h) T.heap)
    (hd : decode c.code pc = .ok (i, n)) (hz : zok nL pc i n = true) (hc : zcall cn i st h = some (y, as, rest)) :
    n = 3 ∧ y ∈ zAll ∧ ((rest.map fun v => v.category).sum + zMl y ≤ 19) ∧ ((as.map fun v => v.category).sum ≤ zMl y) ∧ ∃ mk methk ck vm₁, s.methodNamed? (zNm y) = some mk ∧ s.vm.method? mk = some methk ∧ methk.code = some ck ∧ zM y s mk methk ck ∧ Stand p l e R s m args below meth c (T.setVm vm₁) locs cells slots ∧
      ∀ target, (∀ acts, Steps p.tables e below (doInvoke e ((T.setVm vm₁).setTop (F0 m pc ls (rest.map (tv ad)))) acts mk (as.map (tv ad)).toArray).1 target) → Steps p.tables e below (T.setTop (F0 m pc ls (st.map (tv ad)))) target := by
  unfold zcall at hc
  split at hc
  · -- invokestatic
    obtain rfl : n = 3 := by simpa [zok] using hz
    split at hc
    · rename_i x y' a hv
      split at hc
      · rename_i hs
        obtain ⟨hs1, hs2, hs3⟩ := hs
        cases hc
        obtain ⟨hy, hpl, hst, hini, hlk⟩ := zCalS_ok hv
        obtain ⟨h1, -, hne, -⟩ := zMeth_ok y hy
        obtain ⟨mk, methk, ck, hn, q1, q2, hM, q8⟩ := z_code hy hts
        have hstat : methk.isStatic = true := Cond.static_spec hn q1 (hts _ hst)
        obtain ⟨kP, hkP, -⟩ := className_of_methodNamed hn
        have hinit : kP.init = .initialized := Cond.initialized_spec (findClass_of_methodNamed hn) hkP (hts _ hini)
        have hlen : (((st.take a).reverse).map (tv ad)).length = methk.sig.parameters.length := by
          rw [q8] at hpl
          rw [List.length_map, List.length_reverse, List.length_take, Nat.min_eq_left hs1]
          exact (Option.some.inj hpl).symm
        have hstk : (F0 m pc ls (st.map (tv ad))).stack = (((st.take a).reverse).map (tv ad)).reverse ++ (st.drop a).map (tv ad) := by
          show st.map (tv ad) = _
          rw [List.map_reverse, List.reverse_reverse, ← List.map_append, List.take_append_drop]
        refine ⟨rfl, hy, hs2, hs3, mk, methk, ck, ?_⟩
        rcases hlk with hlk | ⟨host, hlk⟩
        · obtain ⟨vm₁, X₁, st₁⟩ := X.invokestatic hx hown (hts _ hlk) hn q1 hstat hkP hinit hne (g := F0 m pc ls (st.map (tv ad))) rfl hlen hstk hd
          exact ⟨vm₁, hn, q1, q2, hM, X₁, st₁⟩
        · obtain ⟨vm₁, X₁, st₁⟩ := X.invokestaticNest hx hown (hts _ hlk) hn q1 hstat hkP hinit hne (g := F0 m pc ls (st.map (tv ad))) rfl hlen hstk hd
          exact ⟨vm₁, hn, q1, q2, hM, X₁, st₁⟩
      · cases hc
    · cases hc
  · -- invokevirtual
    obtain rfl : n = 3 := by simpa [zok] using hz
    split at hc
    · rename_i x y' a hv
      split at hc
      · rename_i q r hr
        split at hc
        · rename_i ci fs hq
          split at hc
          · rename_i hs
            obtain ⟨hs1, hs2, hs3⟩ := hs
            subst hs1
            cases hc
            obtain ⟨hy, hpl, hin, hsel, hlk⟩ := zCalV_ok hv
            obtain ⟨h1, -, hne, -⟩ := zMeth_ok y hy
            obtain ⟨mk, methk, ck, hn, q1, q2, hM, q8⟩ := z_code hy hts
            obtain ⟨mk', methk', hn', hm', hst', hab'⟩ := Cond.instanceMethod_spec (hts _ hin)
            cases hn.symm.trans hn'
            cases q1.symm.trans hm'
            obtain ⟨rr, hcl, -⟩ := hP q _ (wd_get (ad := ad) (cA := cA) hq)
            obtain ⟨cellB, hcB, hoB, hclB⟩ := va_recv hK hP hcl (wd_get (ad := ad) (cA := cA) hq)
            rw [zCl_nm hcl] at hclB
            obtain ⟨c2, r2, m2, w1, w2, w3, w4, kP, hkP, hkPi⟩ := Cond.selects_spec (hts _ hsel)
            cases hclB.symm.trans w1
            cases (State.methodFound?_of_named hn hne).symm.trans w2
            cases hn.symm.trans w3
            have hselP : selectMethod e.platform s.vm cellB.cls mk = .method mk := by rw [Launch.admits_selectMethod X.admits]; exact w4
            have hal : a ≤ st.length := by
              have h9 : (st.drop a).length = rest.length + 1 := by rw [hr]; rfl
              rw [List.length_drop] at h9
              omega
            have hlen : (((st.take a).reverse).map (tv ad)).length = methk.sig.parameters.length := by
              rw [q8] at hpl
              rw [List.length_map, List.length_reverse, List.length_take, Nat.min_eq_left hal]
              exact (Option.some.inj hpl).symm
            have hstk : (F0 m pc ls (st.map (tv ad))).stack = (((st.take a).reverse).map (tv ad)).reverse ++ .ref (ad q) :: rest.map (tv ad) := by
              show st.map (tv ad) = _
              rw [List.map_reverse, List.reverse_reverse]
              show st.map (tv ad) = (st.take a).map (tv ad) ++ (Value.ref q :: rest).map (tv ad)
              rw [← hr, ← List.map_append, List.take_append_drop]
            refine ⟨rfl, hy, hs2, hs3, mk, methk, ck, ?_⟩
            rcases hlk with hlk | ⟨host, hlk⟩
            · obtain ⟨vm₁, X₁, st₁⟩ := X.invokevirtual hx hown (hts _ hlk) hn q1 hst' hkP hkPi hne (a := ad q) (cell := cellB) hcB (fun z h => by rw [h] at hoB; cases hoB) hselP q1 hab' hkP hkPi (g := F0 m pc ls (st.map (tv ad))) rfl hlen hstk hd
              exact ⟨vm₁, hn, q1, q2, hM, X₁, st₁⟩
            · obtain ⟨vm₁, X₁, st₁⟩ := X.invokevirtualNest hx hown (hts _ hlk) hn q1 hst' hkP hkPi hne (a := ad q) (cell := cellB) hcB (fun z h => by rw [h] at hoB; cases hoB) hselP q1 hab' hkP hkPi (g := F0 m pc ls (st.map (tv ad))) rfl hlen hstk hd
              exact ⟨vm₁, hn, q1, q2, hM, X₁, st₁⟩
          · cases hc
        · cases hc
      · cases hc
    · cases hc
  · cases hc
/-- a callee's start holds what the caller's holds -/
theorem zS_into {h : zH} {s' : State} {a' : Array Value} (hs : zS D ad cA A L xs s args) (hI : zI D ad cA A s h H locs) (hW : s.WarmedH s'.vm) (hH : s'.heap = H) :
    zS D ad cA (va_A (wd ad cA h) H.size) L xs s' a' ∧ zI D ad cA (va_A (wd ad cA h) H.size) s' h H [] ∧ ∀ q, va_A (wd ad cA h) H.size q → A q := by
  obtain ⟨hts, hK, hE, hZ, hA, hZq, hStr⟩ := hs
  obtain ⟨hP, hD, hS⟩ := hI
  have hsub : ∀ q, va_A (wd ad cA h) H.size q → A q := by
    intro q hq
    rcases hq with ⟨k, e, hk⟩ | hq
    · exact hD.2 k (q, e) hk
    · exact hA q (Nat.le_trans hS.1 hq)
  refine ⟨⟨fun w hw => zmoved hW (zWs_mov w hw) (hts w hw), hK.moved hW.alike, fun k N f hf => ?_, fun k C n d hk => ?_, fun q hq => Or.inr (by rw [← hH]; exact hq), fun C n d hk => ?_, fun cn i tx hk => ?_⟩, ⟨hP, ⟨hD.1, fun k q hk => Or.inl ⟨k, q.2, hk⟩⟩, ?_⟩, hsub⟩
  · rw [hH]
    exact (((hE k N f hf).kept (fun a h1 h2 => hS.2.1 a h1 h2)).moved hW.alike).narrow hsub
  · rw [hH]
    exact (((hZ k C n d hk).kept (fun a h1 h2 => hS.2.1 a h1 h2)).moved hW.alike).narrow hsub
  · rw [hH]
    exact (((hZq C n d hk).kept (fun a h1 h2 => hS.2.1 a h1 h2)).moved hW.alike).narrow hsub
  · obtain ⟨q, hq⟩ := hStr cn i tx hk
    exact ⟨q, hq.warm hW⟩
  · rw [hH]
    exact va_S.rf
/-- behind a callee, the caller's world -/
theorem zI_back {h h1 : zH} {s' : State} {H1 : Heap} {L1 : List Loc} (hI : zI D ad cA A s h H locs) (hH : s'.heap = H) (hsub : ∀ q, va_A (wd ad cA h) H.size q → A q) (hJ : zI D ad cA (va_A (wd ad cA h) H.size) s' h1 H1 L1) : zI D ad cA A s h1 H1 (locs ++ L1) := by
  obtain ⟨hP, hD, hS⟩ := hI
  obtain ⟨jP, jD, jS⟩ := hJ
  rw [hH] at jS
  refine ⟨jP, jD.weaken (fun k q _ hq => hsub _ hq), Nat.le_trans hS.1 jS.1, fun q h1 h2 => ?_, fun q hq => ?_⟩
  · rw [jS.2.1 q (Nat.lt_of_lt_of_le h1 hS.1) (fun z => h2 (hsub q z))]
    exact hS.2.1 q h1 h2
  · rcases List.mem_append.mp hq with h | h
    · exact hS.2.2 q h
    · exact hsub _ (jS.2.2 q h)
end ZC
end
section
/-! Throws and catches -/
section ZT
variable {p : Program} {l : Launch} {e : Env} {R : Room} {s : State} {m : MethodId} {args : Array Value} {below : List Frame} {meth : Method} {c : Code} {T : State} {H : Heap} {locs : List Loc} {cells slots : Nat} {Q : State → Prop}
variable {pc : Nat} {ls : Array Slot} {D : va_G} {ad : Nat → Nat} {cA : Nat → ClassId} {A : Nat → Prop} {L : Nat} {xs : Nat → Int32}
theorem z_same {U B : State} {F : List Frame} {lc : List Loc} {k n : Nat} (h : (U.setFrames F).sameButNew B lc k n) : U.sameButNew B lc k n := by
  obtain ⟨h1, h2⟩ := h
  rw [State.setFrames_setFrames] at h1
  exact ⟨h1, h2⟩
/-- the point at which a walk stands, as if the method began there -/
theorem z_rebase (X : Stand p l e R s m args below meth c T locs cells slots) (h1 : cells ≤ R.cells) (h2 : slots ≤ R.slots) :
    Stand p l e { R with cells := R.cells - cells, slots := R.slots - slots } (T.setFrames (.invoking m args :: below)) m args below meth c T [] 0 0 := by
  obtain ⟨g₀, hfr⟩ := X.frames_eq
  have hcur : T.cur < T.threads.size := State.cur_lt_of_frames hfr
  obtain ⟨th, hth, -⟩ := State.frames_cons hfr
  have hF : (T.setFrames (.invoking m args :: below)).frames = .invoking m args :: below := State.frames_setFrames _ hcur
  have hal := X.warmed.alike
  have hcode : ∀ x : MethodId, (T.setFrames (.invoking m args :: below)).code? x = s.code? x := by
    intro x
    rw [State.code?_eq, State.code?_eq]
    show (T.vm.method? x).bind _ = (s.vm.method? x).bind _
    rw [hal.method?]
  have hmeth : (T.setFrames (.invoking m args :: below)).vm.method? m = s.vm.method? m := by
    show T.vm.method? m = s.vm.method? m
    rw [hal.method?]
  have hlim : e.platform.stackLimits (T.setFrames (.invoking m args :: below)).me = e.platform.stackLimits s.me := by rw [State.stackLimits_setFrames]; exact X.limits
  have hbyt : (T.setFrames (.invoking m args :: below)).me.stackBytes = s.me.stackBytes := by rw [State.stackBytes_setFrames]; exact X.bytes
  obtain ⟨q1, q2⟩ := X.heapHas (a := R.cells - cells) (b := R.slots - slots) (by omega) (by omega)
  have hself : (T.setFrames (.invoking m args :: below)).setFrames T.frames = T := by rw [State.setFrames_setFrames, State.setFrames_self hth]
  have hth2 : ∃ th2, (T.setFrames (.invoking m args :: below)).threads[(T.setFrames (.invoking m args :: below)).cur]? = some th2 := by
    obtain ⟨t2, h, -⟩ := State.frames_cons hF
    exact ⟨t2, h⟩
  obtain ⟨th2, hth2⟩ := hth2
  refine ⟨X.admits, X.cas, X.clock, hF, ?_, ?_, hmeth.trans X.method, X.code, X.here, X.tail, State.WarmedH.refl _, by rw [State.stackLimits_setFrames], by rw [State.stackBytes_setFrames], ?_⟩
  · have hr := X.room
    simp only [State.hasRoom, Bool.and_eq_true, decide_eq_true_eq] at hr ⊢
    rw [State.localsInUse_invoking X.frames X.method X.code, X.frames] at hr
    rw [State.localsInUse_invoking hF (hmeth.trans X.method) X.code, hF, hlim, hbyt]
    exact ⟨⟨⟨⟨hr.1.1.1.1, hr.1.1.1.2⟩, q1⟩, q2⟩, X.book⟩
  · have hh := X.hears
    unfold State.hears at hh ⊢
    split
    · rename_i g r
      simp only [] at hh
      rw [hcode]
      exact hh
    · rfl
    · rfl
    · rename_i h1 h2 h3
      rw [hmeth]
      split at hh
      · exact absurd rfl (h1 _ _)
      · exact absurd rfl (h2 _ _)
      · exact absurd rfl (h3 _ _)
      · exact hh
  · have h := (State.sameButNew.refl (T.setFrames (.invoking m args :: below)) hth2).setFrames T.frames (State.cur_lt_of_frames hF)
    rw [hself] at h
    exact h
theorem z_static {C n d : String} {v : Value} (h : va_Z C n d v A s s.heap) : (Term.static C n d).eval args s none [] s = some v := by
  obtain ⟨cf, kf, fi, f, a, cell, hi, hst, -, ha, hcell, hs, hv, -⟩ := h
  simp [Term.eval, State.fieldNamed?, hi, hst, ha, hcell, hs, hv]
theorem z_isRef {C n d : String} (h : va_Zq C n d A s s.heap) : (Jvm.Cond.isRef (.static C n d)).before args s = true := by
  rcases h with h | ⟨t, h⟩
  · simp [Cond.before, Cond.holds, Cond.value, z_static (args := args) h]
  · simp [Cond.before, Cond.holds, Cond.value, z_static (args := args) h]
/-- 'throw new X("..")', from 'new' to the method's end -/
theorem z_throw {mi : ZM} {x : Nat} {h : zH} (hmi : mi ∈ zAll) (hx : p.tables.exec = Jvm.exec) (htr : e.platform.stackTraces = false) (hm : zM mi s m meth c) (hs : zS D ad cA A L xs s args) (ht : zThr mi pc = some x) (hI : zI D ad cA A s h H locs) (hls : ls.size = zMl mi)
    (hRf : 6 ≤ R.frames) (hRl : 90 ≤ R.locals) (hRc : cells + 1 ≤ R.cells) (hRs : slots + 6 ≤ R.slots)
    (kt : ∀ (U : State) (a : Nat) (ce : Cell), U.status = .running → Ended U below (.threw a) → s.WarmedH U.vm → s.sameButNew ({ U with vm := s.vm } : State) locs (cells + 1) (slots + 6) → zI D ad cA A s h U.heap locs → U.heap[a]? = some ce → ce.vm = .none → s.vm.findClass (zXn x) = some ce.cls → Q U) :
    W p l e R s m args below meth c H locs cells slots Q (F0 m pc ls []) := by
  obtain ⟨hown, hb, hml, -, hlk, hhs⟩ := hm
  obtain ⟨h0, ia, ib, ic, tx, hd0, hd3, hd4, hd6, hd9, hw1, hw2, hw3, hstr, hfit, hnames, hlen, hat⟩ := zThr_ok hmi ht
  intro T hT X
  subst hT
  have X₂ := z_rebase X (Nat.le_trans (Nat.le_succ _) hRc) (by omega)
  obtain ⟨hs2, hI2, hsub⟩ := zS_into (s' := T.setFrames (.invoking m args :: below)) (a' := args) hs hI X.warmed rfl
  obtain ⟨hts2, -, -, -, -, hZq2, hStr2⟩ := hs2
  have hown2 : (T.setFrames (.invoking m args :: below)).vm.findClass (zCn (zCno mi)) = some m.cls := by
    show T.vm.findClass _ = _
    rw [X.warmed.alike.findClass]
    exact hown
  obtain ⟨q, hq⟩ := hStr2 _ _ _ hstr
  have hout : ∀ y ∈ c.exceptionTable.toList, covers y (pc + 3 + 1 + 2 + 3) = false := by
    rw [h0] at hhs
    have e1 : c.exceptionTable.toList = [] := List.map_eq_nil_iff.mp hhs
    rw [e1]
    intro y hy
    cases hy
  have key : W p l e { R with cells := R.cells - cells, slots := R.slots - slots } (T.setFrames (.invoking m args :: below)) m args below meth c T.heap [] 0 0
      (fun U => U.status = .running ∧ ∃ a ce, Ended U below (.threw a) ∧ T.WarmedH U.vm ∧ (T.setFrames (.invoking m args :: below)).sameButNew ({ U with vm := T.vm } : State) [] 1 6 ∧ U.heap[a]? = some ce ∧ ce.vm = .none ∧ T.vm.findClass (zXn x) = some ce.cls) (F0 m pc ls []) := by
    refine W.newc hx hb hown2 (hts2 _ hw1) (hts2 _ hw2) (hts2 _ hw3) rfl hd0 (show 0 + 1 ≤ R.cells - cells by omega) (show 0 + 6 ≤ R.slots - slots by omega) (fun cC kC f1 f2 f3 f4 => ?_)
    refine W.eq (g2 := F0 m (pc + 3) ls [.ref T.heap.size]) rfl ?_
    refine lv_dup hx hb hd3 rfl ?_
    refine va_ldcS hx hb hown2 hq hd4 ?_
    intro T3 hT3 X3
    obtain ⟨U, st, run, en, wa, sa, ce, hce, ow⟩ := X3.ctorThrowS hx htr (own := zCn (zCno mi)) (cls := zXn x) (names := zXs x) (ic := ic) hown2 hfit hnames
      (fun w hw => by
        rcases hat w hw with h | ⟨C, n, d, rfl, h⟩ | ⟨C, n, d, rfl, h⟩
        · exact hts2 w h
        · exact z_isRef (hZq2 C n d h).1
        · exact (hZq2 C n d h).2.word)
      (fun y hy => by cases hy) (a := T.heap.size) f1 f2 (by rw [hT3]; exact Array.getElem?_push_size) (Nat.le_refl _) (msg := .ref q) rfl
      (g := F0 m (pc + 3 + 1 + 2) ls [.ref q, .ref T.heap.size, .ref T.heap.size]) rfl (hls.trans hml.symm) rfl rfl (rest := []) rfl (by rw [hb]; exact hd6) (by rw [hb]; exact hd9) hout
      (show (zXs x).length + 3 < R.frames by omega) (show 2 * 0 + (1 + 0) + (13 * ((zXs x).length + 1) + 42) ≤ R.locals by omega) hlk
    exact ⟨U, st, run, T.heap.size, ce, en, wa, sa, hce, ow.vm, ow.cls⟩
  obtain ⟨U, st, run, a, ce, en, wa, sa, hce, hvm, hcl⟩ := key T rfl X₂
  refine ⟨U, st, kt U a ce run en (State.WarmedH.trans X.warmed wa) ?_ ?_ hce hvm ?_⟩
  · have h1 := X.same.trans ((z_same sa).setVm s.vm)
    rw [List.append_nil] at h1
    exact h1
  · have hk : ∀ q, q < T.heap.size → U.heap[q]? = T.heap[q]? := by
      intro q hq'
      obtain ⟨cq, hcq⟩ : ∃ cq, T.heap[q]? = some cq := ⟨_, Array.getElem?_eq_getElem hq'⟩
      rw [hcq]
      exact State.sameButNew.old_cell sa hcq
    refine ⟨hI.1.kept (fun k y hy => hk _ (hI.1 k y hy).lt), hI.2.1, Nat.le_trans hI.2.2.1 sa.2.1, fun y h1 h2 => ?_, hI.2.2.2.2⟩
    rw [hk y (Nat.lt_of_lt_of_le h1 hI.2.2.1)]
    exact hI.2.2.2.1 y h1 h2
  · rw [← X.warmed.alike.findClass]
    exact hcl
/-! the search for a handler, its classes linked or not yet -/
def zFinds (e : Env) (u : State) (f : JFrame) (a : Addr) (h : Handler) (vm' : Vm) : Prop :=
  ∀ (Q : Handler → Pre) (E : CtlPost) (d : Bool) (acts : List Action), wp (findHandler f a) Q E e d acts u ↔ Q h d acts (u.setVm vm')
theorem z_goLink {Q : Handler → Pre} {E : CtlPost} {d : Bool} {acts : List Action} {u : State} {f : JFrame} {a : Addr} {x : ExceptionTableEntry} {t : List ExceptionTableEntry} {k : ClassId} {cell : Cell} (hx : covers x f.pc = true) (h0 : x.catchType ≠ 0)
    (hl : u.vm.ClassLinks e.platform f.method.cls x.catchType k) (hcell : u.heap[a]? = some cell) (hobj : ∀ k, cell.vm ≠ .statics k) (hk : ∃ k, u.vm.classes[cell.cls]? = some k) (hc : ∃ k', u.vm.classes[k]? = some k') :
    wp (findHandler.go f a (x :: t)) Q E e d acts u ↔ (if u.vm.assignable cell.cls k = true then Q (.found x.handlerPc) d acts (u.setVm (u.vm.noted f.method.cls x.catchType (.cls k))) else wp (findHandler.go f a t) Q E e d acts (u.setVm (u.vm.noted f.method.cls x.catchType (.cls k)))) := by
  simp only [covers] at hx
  obtain ⟨ha, ht⟩ := (resolveClass_links e.toSetting hl).op (op := VmOp.resolveClass f.method.cls x.catchType) rfl
  have hal : u.vm.Alike (u.vm.noted f.method.cls x.catchType (.cls k)) := (Vm.Alike.refl u.vm).noted _ _ _
  obtain ⟨k1, hk1⟩ := hk
  obtain ⟨k2, hk2⟩ := hc
  obtain ⟨k1', hk1', -⟩ := hal.2.2 _ _ hk1
  obtain ⟨k2', hk2', -⟩ := hal.2.2 _ _ hk2
  cases hfit : u.vm.assignable cell.cls k
  · have hfit' : (u.vm.noted f.method.cls x.catchType (.cls k)).assignable cell.cls k = false := by rw [hal.assignable]; exact hfit
    simp [findHandler.go, hx, h0, ha, ht, hcell, hobj, hk1', hk2', hfit', VmOp.dirties, VmOp.acts]
  · have hfit' : (u.vm.noted f.method.cls x.catchType (.cls k)).assignable cell.cls k = true := by rw [hal.assignable]; exact hfit
    simp [findHandler.go, hx, h0, ha, ht, hcell, hobj, hk1', hk2', hfit', VmOp.dirties, VmOp.acts]
/-- a table's row and an object's class: it lies outside; or it takes it ('true') or not -/
def zRow (pl : Platform) (s₀ : State) (d : ClassId) (thrown : ClassId) (x : ExceptionTableEntry) (b : Bool) : Prop :=
  x.catchType ≠ 0 ∧ ∃ k, s₀.vm.ClassLinks pl d x.catchType k ∧ s₀.vm.assignable thrown k = b
theorem z_go {s₀ : State} {f : JFrame} {a : Addr} {cell : Cell} (hobj : ∀ k, cell.vm ≠ .statics k) (hk0 : ∃ k, s₀.vm.classes[cell.cls]? = some k) (x : ExceptionTableEntry) (rest : List ExceptionTableEntry) (hx : covers x f.pc = true) (hend : zRow e.platform s₀ f.method.cls cell.cls x true) :
    ∀ (pre : List ExceptionTableEntry) (u : State), s₀.WarmedH u.vm → u.heap[a]? = some cell → (∀ y ∈ pre, covers y f.pc = false ∨ zRow e.platform s₀ f.method.cls cell.cls y false) →
      ∃ vm', s₀.WarmedH vm' ∧ ∀ (Q : Handler → Pre) (E : CtlPost) (d : Bool) (acts : List Action), wp (findHandler.go f a (pre ++ x :: rest)) Q E e d acts u ↔ Q (.found x.handlerPc) d acts (u.setVm vm') := by
  obtain ⟨k0, hk0⟩ := hk0
  intro pre
  induction pre with
  | nil =>
    intro u hW hcell _
    obtain ⟨k0', hk0', -⟩ := hW.alike.2.2 _ _ hk0
    obtain ⟨h0, k, hl, hfit⟩ := hend
    obtain ⟨dk, _, _, kt, hd, _, _, _, _, hkt, _, hopen⟩ := hl.here
    obtain ⟨kt', hkt', -⟩ := hW.alike.2.2 _ _ hkt
    refine ⟨_, hW.noted hd hopen (State.rightAt_cls hl), fun Q E d acts => ?_⟩
    rw [List.nil_append, z_goLink hx h0 (hW.classLinks hl) hcell hobj ⟨k0', hk0'⟩ ⟨kt', hkt'⟩, if_pos (by rw [hW.alike.assignable]; exact hfit)]
  | cons y ys ih =>
    intro u hW hcell hpass
    obtain ⟨k0', hk0', -⟩ := hW.alike.2.2 _ _ hk0
    have hrest : ∀ z ∈ ys, covers z f.pc = false ∨ zRow e.platform s₀ f.method.cls cell.cls z false := fun z hz => hpass z (List.mem_cons_of_mem _ hz)
    by_cases hcov : covers y f.pc = true
    · rcases hpass y List.mem_cons_self with h | ⟨h0, k, hl, hno⟩
      · rw [h] at hcov; cases hcov
      · obtain ⟨dk, _, _, kt, hd, _, _, _, _, hkt, _, hopen⟩ := hl.here
        obtain ⟨kt', hkt', -⟩ := hW.alike.2.2 _ _ hkt
        obtain ⟨vm', hW', hq⟩ := ih (u.setVm (u.vm.noted f.method.cls y.catchType (.cls k))) (hW.noted hd hopen (State.rightAt_cls hl)) hcell hrest
        refine ⟨vm', hW', fun Q E d acts => ?_⟩
        rw [List.cons_append, z_goLink hcov h0 (hW.classLinks hl) hcell hobj ⟨k0', hk0'⟩ ⟨kt', hkt'⟩, if_neg (by rw [hW.alike.assignable, hno]; decide)]
        exact hq Q E d acts
    · obtain ⟨vm', hW', hq⟩ := ih u hW hcell hrest
      refine ⟨vm', hW', fun Q E d acts => ?_⟩
      rw [List.cons_append, W.findHandler_go_skip (by simpa using hcov)]
      exact hq Q E d acts
theorem z_stepCatch {u : State} {a : Addr} {f : JFrame} {r : List Frame} {hp : Nat} {vm' : Vm} (hfind : zFinds e u f a (.found hp) vm') :
    (stepThrowing e u a (.java f :: r)).Is ((u.setVm vm').setFrames (.java { f with pc := hp, stack := [.ref a] } :: r)) [] := by
  simp only [stepThrowing, searchFrame, vmDo]
  generalize hr : Sem.go _ e false [] u = res
  obtain ⟨as, rfl, ha⟩ := Sem.eq_ok_of hr (a := Handler.found hp) (s' := u.setVm vm') (acts' := []) (by simp [hfind _ _ _ _])
  exact ⟨rfl, ha⟩
theorem z_framesVm (u : State) (vm' : Vm) (F G : List Frame) : ((u.setFrames F).setVm vm').setFrames G = (u.setVm vm').setFrames G := by
  have h1 : (u.setFrames F).setVm vm' = (u.setVm vm').setFrames F := rfl
  rw [h1, State.setFrames_setFrames]
theorem z_caught {tb : Tables} {u target : State} {g : JFrame} {a : Addr} (h : At u g.method c below) {hp : Nat} {vm' : Vm}
    (hfind : zFinds e ((u.setTop g).pushFrame (.throwing a)) g a (.found hp) vm') (hrest : Steps tb e below ((u.setVm vm').setTop { g with pc := hp, stack := [.ref a] }) target) :
    Steps tb e below ((u.setTop g).pushFrame (.throwing a)) target := by
  obtain ⟨hgo, hw⟩ := h.throwing a
  refine Steps.head hgo hw ?_
  rw [stepThread_throwing (frames_entered h.top _), (z_stepCatch (u := (u.setTop g).pushFrame (.throwing a)) hfind).1]
  obtain ⟨g₀, hg⟩ := Option.isSome_iff_exists.mp h.top
  obtain ⟨r, hr⟩ := State.topJava?_eq_some.mp hg
  have hr' : (u.setVm vm').frames = .java g₀ :: r := hr
  rw [State.setTop_of_frames _ hr'] at hrest
  rw [hr, List.tail_cons, State.pushFrame, z_framesVm, State.setTop_of_frames _ hr, z_framesVm]
  exact hrest
/-- an exception of kind x, thrown by a callee, comes to the handler that zHan names -/
theorem z_catch {mi : ZM} {x hp a : Nat} {ce : Cell} (hmi : mi ∈ zAll) (X : Stand p l e R s m args below meth c T locs cells slots) (hm : zM mi s m meth c) (hts : ∀ w ∈ zWs, w.before args s = true) (hh : zHan mi pc x = some hp)
    (hce : T.heap[a]? = some ce) (hvm : ce.vm = .none) (hcl : s.vm.findClass (zXn x) = some ce.cls) {st : List Value} :
    ∃ vm', Stand p l e R s m args below meth c (T.setVm vm') locs cells slots ∧
      ∀ target, Steps p.tables e below ((T.setVm vm').setTop (F0 m hp ls [.ref a])) target → Steps p.tables e below ((T.setTop (F0 m pc ls st)).pushFrame (.throwing a)) target := by
  obtain ⟨hown, hb, hml, -, hlk, hhs⟩ := hm
  have hpl : e.platform.magicAccessors = ({} : Platform).magicAccessors := by rw [X.admits.platform]
  obtain ⟨pre, q, post, hz, hq1, hq2, hpass⟩ := zHan_ok hmi hh
  rw [hz] at hhs
  obtain ⟨pre', rest', e1, e2, e3⟩ := List.map_eq_append_iff.mp hhs
  obtain ⟨y, post', rfl, e4, e5⟩ := List.map_eq_cons_iff.mp e3
  have row : ∀ (b : Bool) (z : ExceptionTableEntry) (k : Nat), z.catchType ≠ 0 → Jvm.Cond.classLink (zCn (zCno mi)) z.catchType (zXn k) ∈ zWs → (if b then Jvm.Cond.castable (zXn x) (zXn k) ∈ zWs else Jvm.Cond.not (.castable (zXn x) (zXn k)) ∈ zWs) → zRow e.platform s m.cls ce.cls z b := by
    intro b z k h0 hlink hcast
    obtain ⟨c', hc', hlc⟩ := Cond.classLink_spec hown (hts _ hlink) e.platform hpl
    refine ⟨h0, c', hlc, ?_⟩
    cases b with
    | true =>
      have hv := hts _ (by simpa using hcast)
      simp only [Cond.before, Cond.holds, Cond.value, hcl, hc'] at hv
      simpa using hv
    | false =>
      have hv := Cond.holds_not_iff.mp (hts _ (by simpa using hcast))
      simp only [Cond.value, hcl, hc'] at hv
      exact Option.some.inj hv
  have hk0 : ∃ k, s.vm.classes[ce.cls]? = some k := Vm.classAt_of_findClass hcl
  have hy1 : y.catchType = q.2.2.2 := by rw [← e4]
  have hy2 : y.handlerPc = hp := by rw [← hq1, ← e4]
  obtain ⟨hcov, hct, hlink, hcast⟩ := hq2
  obtain ⟨vm', hW', hf⟩ := z_go (e := e) (s₀ := s) (f := F0 m pc ls st) (a := a) (cell := ce) (fun k hk => by rw [hvm] at hk; cases hk) hk0 y post' (by rw [← e4] at hcov; simpa [covers] using hcov)
    (row true y x (by rw [hy1]; exact hct) (by rw [hy1]; exact hlink) (by simpa using hcast)) pre' ((T.setTop (F0 m pc ls st)).pushFrame (.throwing a)) X.warmed hce (fun z hz' => by
      have hzm : (z.startPc, z.endPc, z.handlerPc, z.catchType) ∈ pre := by rw [← e2]; exact List.mem_map.mpr ⟨z, hz', rfl⟩
      rcases hpass _ hzm with h | ⟨h0, k, h1, h2⟩
      · left
        simpa [covers] using h
      · exact Or.inr (row false z k h0 h1 (by simpa using h2)))
  refine ⟨vm', X.noted hW', fun target hrest => ?_⟩
  refine z_caught (g := F0 m pc ls st) X.here (hp := hp) (vm' := vm') ?_ hrest
  intro Q E d acts
  rw [W.findHandler_eq (meth := meth) (code := c) X.method' X.code, e1, ← hy2]
  exact hf Q E d acts
end ZT
end
section
/-! The simulation: what the pure machine does, the real one does -/
section ZZ
variable {p : Program} {l : Launch} {e : Env} {D : va_G} {ad : Nat → Nat} {cA : Nat → ClassId} {L : Nat} {xs : Nat → Int32}
theorem z_weaken {tb : Tables} {mid below : List Frame} {a b : State} (h : Steps tb e (mid ++ below) a b) : Steps tb e below a b := by
  obtain ⟨n, h1, h2⟩ := h
  exact ⟨n, h1, fun k hk => (h2 k hk).weaken⟩
theorem z_tail {ls : Array Slot} {nL j : Nat} {v : Value} {lv : zL} (h : lv_has ls nL ((j, v) :: (tl ad lv).filter (fun q => !(q.1 == j) && !(q.1 + 1 == j && q.2.category == 2)))) : lv_has ls nL (tl ad (zdrop1 j lv)) := by
  rw [(List.cons.inj (tl_zdrop1 ad j (.int 0) lv rfl)).2] at h
  exact ⟨h.1, h.2.1, fun q hq => h.2.2 q (List.mem_cons_of_mem _ hq)⟩
/-- the walk of a frame from (pc, lv, st, h), with k exceptions made so far; c0, s0: what was made before -/
def zGoal (p : Program) (l : Launch) (e : Env) (D : va_G) (ad : Nat → Nat) (cA : Nat → ClassId) (L : Nat) (xs : Nat → Int32) (d : Nat) (mi : ZM) (pc : Nat) (lv : zL) (st : List Value) (h : zH) (k : Nat) (o : zO) (h' : zH) (k' : Nat) : Prop :=
  ∀ {R : Room} {s : State} {m : MethodId} {args : Array Value} {below : List Frame} {meth : Method} {c : Code} {H : Heap} {locs : List Loc} {c0 s0 : Nat} {ls : Array Slot} {A : Nat → Prop} {Q : State → Prop},
    (mi = m_law ∨ mi ∈ zAll) → zM mi s m meth c → zS D ad cA A L xs s args → zI D ad cA A s h H locs → lv_has ls (zMl mi) (tl ad lv) → d ≤ R.frames → 30 * d + 90 ≤ R.locals → c0 + zKm mi ≤ R.cells → s0 + 6 * zKm mi ≤ R.slots →
    (∀ (v : Option Value), o = .inl v → ∀ (pc1 n1 : Nat) (i1 : Instr) (ls1 : Array Slot) (st1 : List Value) (H1 : Heap) (locs1 : List Loc), decode (zCode mi) pc1 = .ok (i1, n1) → zok (zMl mi) pc1 i1 n1 = true → zret3 mi i1 st1 = some v → zI D ad cA A s h' H1 locs1 →
      W p l e R s m args below meth c H1 locs1 (c0 + k') (s0 + 6 * k') Q (F0 m pc1 ls1 (st1.map (tv ad)))) →
    (∀ x, o = .inr x → ∀ (U : State) (a : Nat) (ce : Cell) (locs1 : List Loc), U.status = .running → Ended U below (.threw a) → s.WarmedH U.vm → s.sameButNew ({ U with vm := s.vm } : State) locs1 (c0 + k') (s0 + 6 * k') → zI D ad cA A s h' U.heap locs1 → U.heap[a]? = some ce → ce.vm = .none → s.vm.findClass (zXn x) = some ce.cls → Q U) →
    W p l e R s m args below meth c H locs (c0 + k) (s0 + 6 * k) Q (F0 m pc ls (st.map (tv ad)))
set_option maxHeartbeats 4000000 in
theorem sim (hx : p.tables.exec = Jvm.exec) (htr : e.platform.stackTraces = false) : ∀ (n d : Nat) (mi : ZM) (pc : Nat) (lv : zL) (st : List Value) (h : zH) (k : Nat) (o : zO) (h' : zH) (k' : Nat), zrun L xs n d mi pc lv st h k = some (o, h', k') → zGoal p l e D ad cA L xs d mi pc lv st h k o h' k' := by
  intro n
  induction n with
  | zero =>
    intro d mi pc lv st h k o h' k' hr
    unfold zrun at hr
    cases hr
  | succ n ih =>
    intro d mi pc lv st h k o h' k' hr R s m args below meth c H locs c0 s0 ls A Q hmi hm hs hI hl hRf hRl hRc hRs kret kthr
    unfold zrun at hr
    split at hr
    · cases hr
    · rename_i i nn hf
      obtain ⟨hd, hz⟩ := zfetch_ok hmi hf
      split at hr
      · -- an instruction on locals and stack
        rename_i pc' lv' st' h1
        exact sim1 hx hm.2.1 hd hz h1 hl (fun ls' hl' => ih _ _ _ _ _ _ _ _ _ _ hr hmi hm hs hI hl' hRf hRl hRc hRs kret kthr)
      · split at hr
        · -- one on the heap
          rename_i w st' h1 h2
          exact sim2 hx hm.2.1 hd hz hm.1 hs h2 hI (fun H' locs' hI' => ih _ _ _ _ _ _ _ _ _ _ hr hmi hm hs hI' hl hRf hRl hRc hRs kret kthr)
        · split at hr
          · -- a call
            rename_i y as rest hc
            split at hr
            · cases hr
            · rename_i d'
              split at hr
              · rename_i hk
                intro T hT X
                subst hT
                have hb := hm.2.1
                obtain ⟨rfl, hy, hw8, hwa, mk, methk, ck, vm₁, hn, q1, q2, hMy, X₁, st₁⟩ := z_inv (ls := ls) X hx hm.1 hs.1 hs.2.1 hI.1 (by rw [hb]; exact hd) hz hc
                obtain ⟨-, hpn, -, -⟩ := zMeth_ok y hy
                have hsz : (F0 m pc ls (rest.map (tv ad))).locals.size = c.maxLocals := hl.1.trans hm.2.2.1.symm
                have hmk : (T.setVm vm₁).vm.method? mk = some methk := X₁.warmed.methodAt q1
                have hpk : (T.setVm vm₁).plainMethod mk := X₁.warmed.plainAt (U := T.setVm vm₁) (fun k9 hk9 => by
                  obtain ⟨k8, hk8, hn8⟩ := className_of_methodNamed hn
                  cases hk9.symm.trans hk8
                  rw [hn8]
                  exact hpn)
                have hmr : (F0 m pc ls (rest.map (tv ad))).monitorRoom = 0 := by simp [F0, JFrame.monitorRoom]
                obtain ⟨Y, hin⟩ := X₁.into (g := F0 m pc ls (rest.map (tv ad))) rfl hsz (by rw [hb]; exact hd) (as.map (tv ad)).toArray (R' := zRm d' y) hmk q2 hMy.2.2.2.2.1 hpk
                  (show d' + 1 ≤ R.frames by omega) (by rw [hmr, tv_sum, hMy.2.2.1]; show 2 * 0 + _ + (zMl y + 11) + (30 * d' + 90) ≤ _; omega) (show c0 + k + zKm y ≤ R.cells by omega) (show s0 + 6 * k + 6 * zKm y ≤ R.slots by omega)
                obtain ⟨hs', hI', hsub⟩ := zS_into (s' := (T.setVm vm₁).calling (F0 m pc ls (rest.map (tv ad))) mk (as.map (tv ad)).toArray) (a' := (as.map (tv ad)).toArray) hs hI X₁.warmed rfl
                have hM' : zM y ((T.setVm vm₁).calling (F0 m pc ls (rest.map (tv ad))) mk (as.map (tv ad)).toArray) mk methk ck := ⟨by
                  show (T.setVm vm₁).vm.findClass _ = _
                  rw [X₁.warmed.alike.findClass]
                  exact hMy.1, hMy.2⟩
                have hle := lv_entry (as.map (tv ad)) (n := zMl y) (by rw [lg_sl_len]; exact hwa)
                rw [tl_args] at hle
                -- the callee's walk
                have callee : ∀ (o1 : zO) (h1 : zH) (k1 : Nat), zrun L xs n d' y 0 (lv_args 0 as) [] h 0 = some (o1, h1, k1) → k1 ≤ zKm y →
                    ∃ t, Steps p.tables e (.java (F0 m pc ls (rest.map (tv ad))) :: below) ((((T.setVm vm₁).setTop (F0 m pc ls (rest.map (tv ad)))).pushFrame (.java (entryFrame mk (as.map (tv ad)).toArray ck.maxLocals))).setTop (entryFrame mk (as.map (tv ad)).toArray ck.maxLocals)) t ∧
                      zQ D ad cA (va_A (wd ad cA h) T.heap.size) ((T.setVm vm₁).calling (F0 m pc ls (rest.map (tv ad))) mk (as.map (tv ad)).toArray) (.java (F0 m pc ls (rest.map (tv ad))) :: below) o1 h1 k1 t := by
                  intro o1 h1 k1 hr1 hk1
                  have hW := ih _ _ _ _ _ _ _ _ _ _ hr1 (R := zRm d' y) (c0 := 0) (s0 := 0) (Q := zQ D ad cA (va_A (wd ad cA h) T.heap.size) ((T.setVm vm₁).calling (F0 m pc ls (rest.map (tv ad))) mk (as.map (tv ad)).toArray) (.java (F0 m pc ls (rest.map (tv ad))) :: below) o1 h1 k1)
                    (args := (as.map (tv ad)).toArray) (below := .java (F0 m pc ls (rest.map (tv ad))) :: below) (Or.inr hy) hM' hs' hI' hle (Nat.le_refl _) (Nat.le_refl _) (by rw [Nat.zero_add]; exact Nat.le_refl _) (by rw [Nat.zero_add]; exact Nat.le_refl _)
                    (fun v hv pc1 n1 i1 ls1 st1 H1 locs1 g1 g2 g3 g4 => by subst hv; rw [Nat.zero_add, Nat.zero_add]; exact z_ret hx hM' g1 g2 g3 g4)
                    (fun x hx' U a ce locs1 g1 g2 g3 g4 g5 g6 g7 g8 => by subst hx'; rw [Nat.zero_add, Nat.zero_add] at g4; exact ⟨g1, g3, locs1, g4, g5, a, ce, g2, g6, g7, g8⟩)
                  have e0 : entryFrame mk (as.map (tv ad)).toArray ck.maxLocals = F0 mk 0 ((lg_sl (as.map (tv ad)) ++ List.replicate (zMl y - (lg_sl (as.map (tv ad))).length) Slot.unset).toArray) [] := by rw [hMy.2.2.1]; exact lg_entry_eq _ _ _
                  obtain ⟨t, a1, b1⟩ := hW (((T.setVm vm₁).setTop (F0 m pc ls (rest.map (tv ad)))).pushFrame (.java (entryFrame mk (as.map (tv ad)).toArray ck.maxLocals))) rfl Y
                  refine ⟨t, ?_, b1⟩
                  rw [show F0 mk 0 ((lg_sl (as.map (tv ad)) ++ List.replicate (zMl y - (lg_sl (as.map (tv ad))).length) Slot.unset).toArray) (List.map (tv ad) []) = entryFrame mk (as.map (tv ad)).toArray ck.maxLocals from e0.symm] at a1
                  exact a1
                split at hr
                · cases hr
                · -- it returned
                  rename_i v h1 k1 hr1
                  split at hr
                  · rename_i hk1
                    obtain ⟨t, st2, g1, g2, L1, g3, g4, g5⟩ := callee _ _ _ hr1 hk1
                    obtain ⟨T', X', hW', -, ht⟩ := X₁.outOf (g := F0 m pc ls (rest.map (tv ad))) rfl (by rw [hb]; exact hd) g5 g2 g3
                    have hheap : T'.heap = t.heap := by rw [ht]; rfl
                    have hJ := zI_back hI rfl hsub g4
                    have hgo := ih _ _ _ _ _ _ _ _ _ _ hr (ls := ls) hmi hm hs (by rw [← hheap] at hJ; exact hJ) hl hRf hRl hRc hRs kret kthr
                    obtain ⟨t3, st3, hq3⟩ := hgo T' rfl (stand_widen X' (by omega) (by omega))
                    refine ⟨t3, st₁ _ (fun acts => ?_), hq3⟩
                    rw [hin acts]
                    refine (z_weaken (mid := [.java (F0 m pc ls (rest.map (tv ad)))]) st2).trans ?_
                    rw [ht]
                    have e9 : (v.map (tv ad)).toList ++ rest.map (tv ad) = (v.toList ++ rest).map (tv ad) := by cases v <;> simp
                    show Steps p.tables e below (T'.setTop (F0 m (pc + 3) ls ((v.map (tv ad)).toList ++ rest.map (tv ad)))) t3
                    rw [e9]
                    exact st3
                  · cases hr
                · -- it threw
                  rename_i x h1 k1 hr1
                  split at hr
                  · rename_i hk1
                    obtain ⟨t, st2, g1, g2, L1, g3, g4, a, ce, g5, g6, g7, g8⟩ := callee _ _ _ hr1 hk1
                    obtain ⟨T', X', hW', -, ht⟩ := X₁.outOfThrown (g := F0 m pc ls (rest.map (tv ad))) rfl g5 g2 g3
                    have hheap : T'.heap = t.heap := by rw [ht]; rfl
                    have hJ := zI_back hI rfl hsub g4
                    rw [← hheap] at hJ g6
                    have hcl : s.vm.findClass (zXn x) = some ce.cls := by
                      rw [← X₁.warmed.alike.findClass]
                      exact g8
                    have X'' := stand_widen (k := c0 + (k + zKm y)) (n := s0 + 6 * (k + zKm y)) X' (by omega) (by omega)
                    split at hr
                    · -- nobody catches
                      rename_i h0
                      cases hr
                      have hout : ∀ y9 ∈ c.exceptionTable.toList, covers y9 pc = false := by
                        have h9 := hm.2.2.2.2.2
                        rw [h0] at h9
                        rw [List.map_eq_nil_iff.mp h9]
                        intro y9 hy9
                        cases hy9
                      obtain ⟨w1, w2, w3, w4, w5⟩ := X''.leaveThrown a (g := F0 m pc ls (rest.map (tv ad))) rfl rfl rfl hout hm.2.2.2.2.1
                      refine ⟨_, st₁ _ (fun acts => ?_), kthr x rfl _ a ce _ w2 w3 w4 w5 hJ g6 g7 hcl⟩
                      rw [hin acts]
                      refine (z_weaken (mid := [.java (F0 m pc ls (rest.map (tv ad)))]) st2).trans ?_
                      rw [ht]
                      exact w1
                    · split at hr
                      · cases hr
                      · rename_i hp hh
                        obtain ⟨vm₂, X₂, st3⟩ := z_catch (zH_in hmi hh) (ls := ls) (st := rest.map (tv ad)) X'' hm hs.1 hh g6 g7 hcl
                        split at hr
                        · rename_i j nj hfj
                          obtain ⟨hdj, hzj⟩ := zfetch_ok hmi hfj
                          simp only [zok, Bool.and_eq_true, beq_iff_eq, decide_eq_true_eq] at hzj
                          obtain ⟨rfl, hzj⟩ := hzj
                          have hgo : W p l e R s m args below meth c T'.heap (locs ++ L1) (c0 + (k + zKm y)) (s0 + 6 * (k + zKm y)) Q (F0 m hp ls [.ref a]) :=
                            lv_astore hx hb hdj hl hzj rfl (fun ls' hl' => ih _ _ _ _ _ _ _ _ _ _ hr hmi hm hs hJ (z_tail hl') hRf hRl hRc hRs kret kthr)
                          obtain ⟨t4, st4, hq4⟩ := hgo (T'.setVm vm₂) rfl X₂
                          refine ⟨t4, st₁ _ (fun acts => ?_), hq4⟩
                          rw [hin acts]
                          refine (z_weaken (mid := [.java (F0 m pc ls (rest.map (tv ad)))]) st2).trans ?_
                          rw [ht]
                          exact st3 _ st4
                        · rename_i j nj hfj
                          obtain ⟨hdj, hzj⟩ := zfetch_ok hmi hfj
                          simp only [zok, Bool.and_eq_true, beq_iff_eq, decide_eq_true_eq] at hzj
                          obtain ⟨rfl, hzj⟩ := hzj
                          have hgo : W p l e R s m args below meth c T'.heap (locs ++ L1) (c0 + (k + zKm y)) (s0 + 6 * (k + zKm y)) Q (F0 m hp ls [.ref a]) :=
                            lv_astore_n hx hb hdj rfl hl hzj rfl (fun ls' hl' => ih _ _ _ _ _ _ _ _ _ _ hr hmi hm hs hJ (z_tail hl') hRf hRl hRc hRs kret kthr)
                          obtain ⟨t4, st4, hq4⟩ := hgo (T'.setVm vm₂) rfl X₂
                          refine ⟨t4, st₁ _ (fun acts => ?_), hq4⟩
                          rw [hin acts]
                          refine (z_weaken (mid := [.java (F0 m pc ls (rest.map (tv ad)))]) st2).trans ?_
                          rw [ht]
                          exact st3 _ st4
                        · cases hr
                  · cases hr
              · cases hr
          · split at hr
            · -- a return
              rename_i v hv
              cases hr
              exact kret v rfl _ _ _ _ _ _ _ hd hz hv hI
            · split at hr
              · -- a throw
                rename_i x hx9
                split at hr
                · rename_i hk
                  obtain ⟨hk, hst, hd6⟩ := hk
                  subst hst
                  cases hr
                  exact z_throw (zT_in hmi hx9) hx htr hm hs hx9 hI hl.1 (by omega) (by omega) (show c0 + k + 1 ≤ R.cells by omega) (show s0 + 6 * k + 6 ≤ R.slots by omega) (fun U a ce g1 g2 g3 g4 g5 g6 g7 g8 => kthr x rfl U a ce locs g1 g2 g3 (by
                    have e1 : s0 + 6 * (k + 1) = s0 + 6 * k + 6 := by omega
                    rw [e1]
                    exact g4) g5 g6 g7 g8)
                · cases hr
              · cases hr
end ZZ
end
section
/-! The constructors, as tables (by gen_ini.py) -/
def i_SR_init : List (Nat × Instr × Nat) := [(0, .aload_n 0, 1), (1, .invokespecial 1, 3), (4, .aload_n 0, 1), (5, .bipush 8, 2), (7, .anewarray 9, 3), (10, .putfield 11, 3), (13, .iconst 0, 1), (14, .istore_n 1, 1), (15, .iload_n 1, 1), (16, .bipush 8, 2), (18, .if_icmp .ge 22, 3), (21, .aload_n 0, 1), (22, .getfield 11, 3), (25, .iload_n 1, 1), (26, .new 9, 3), (29, .dup, 1), (30, .invokespecial 15, 3), (33, .aastore, 1), (34, .iinc 1 1, 3), (37, .goto (-22), 3), (40, .aload_n 0, 1), (41, .new 9, 3), (44, .dup, 1), (45, .invokespecial 15, 3), (48, .putfield 16, 3), (51, .aload_n 0, 1), (52, .new 9, 3), (55, .dup, 1), (56, .invokespecial 15, 3), (59, .putfield 20, 3), (62, .new 23, 3), (65, .dup, 1), (66, .invokespecial 25, 3), (69, .astore_n 1, 1), (70, .aload_n 0, 1), (71, .aload_n 1, 1), (72, .putfield 26, 3), (75, .aload_n 0, 1), (76, .new 30, 3), (79, .dup, 1), (80, .aload_n 1, 1), (81, .invokespecial 32, 3), (84, .putfield 35, 3), (87, .aload_n 0, 1), (88, .new 39, 3), (91, .dup, 1), (92, .aload_n 1, 1), (93, .invokespecial 41, 3), (96, .putfield 42, 3), (99, .aload_n 0, 1), (100, .new 46, 3), (103, .dup, 1), (104, .invokespecial 48, 3), (107, .putfield 49, 3), (110, .aload_n 0, 1), (111, .iconst 0, 1), (112, .putfield 53, 3), (115, .aload_n 0, 1), (116, .bipush 31, 2), (118, .putfield 57, 3), (121, .aload_n 0, 1), (122, .iconst 0, 1), (123, .putfield 60, 3), (126, .aload_n 0, 1), (127, .iconst 0, 1), (128, .putfield 63, 3), (131, .return_, 1)]
def m_SR_init : ZM := (⟨"StackReal", "<init>", "()V"⟩, prog_1_method_1_code, 2, none, [], 0, 0, [], i_SR_init)
theorem ck_SR_init : ckm m_SR_init = true := by decide +kernel
theorem mo_SR_init : (zNm m_SR_init).cls = zCn (zCno m_SR_init) ∧ plainName (zNm m_SR_init).cls = true ∧ ((zNm m_SR_init).cls ≠ "java/lang/invoke/MethodHandle" ∧ (zNm m_SR_init).cls ≠ "java/lang/invoke/VarHandle") ∧ Jvm.Cond.code (zNm m_SR_init) (zCode m_SR_init) (zMl m_SR_init) (zRt m_SR_init) ∈ zWs := ⟨by decide +kernel, by decide +kernel, by decide +kernel, zW_in 84 (by decide +kernel)⟩
def i_Re_init : List (Nat × Instr × Nat) := [(0, .aload_n 0, 1), (1, .invokespecial 3, 3), (4, .return_, 1)]
def m_Re_init : ZM := (⟨"StackReal$Real", "<init>", "()V"⟩, prog_6_method_1_code, 1, none, [], 1, 0, [], i_Re_init)
theorem ck_Re_init : ckm m_Re_init = true := by decide +kernel
theorem mo_Re_init : (zNm m_Re_init).cls = zCn (zCno m_Re_init) ∧ plainName (zNm m_Re_init).cls = true ∧ ((zNm m_Re_init).cls ≠ "java/lang/invoke/MethodHandle" ∧ (zNm m_Re_init).cls ≠ "java/lang/invoke/VarHandle") ∧ Jvm.Cond.code (zNm m_Re_init) (zCode m_Re_init) (zMl m_Re_init) (zRt m_Re_init) ∈ zWs := ⟨by decide +kernel, by decide +kernel, by decide +kernel, zW_in 93 (by decide +kernel)⟩
def i_Ro_init : List (Nat × Instr × Nat) := [(0, .aload_n 0, 1), (1, .invokespecial 3, 3), (4, .aload_n 0, 1), (5, .bipush 64, 2), (7, .putfield 9, 3), (10, .aload_n 0, 1), (11, .iconst 0, 1), (12, .putfield 15, 3), (15, .return_, 1)]
def m_Ro_init : ZM := (⟨"StackReal$Rounding", "<init>", "()V"⟩, prog_7_method_1_code, 1, none, [], 3, 0, [], i_Ro_init)
theorem ck_Ro_init : ckm m_Ro_init = true := by decide +kernel
theorem mo_Ro_init : (zNm m_Ro_init).cls = zCn (zCno m_Ro_init) ∧ plainName (zNm m_Ro_init).cls = true ∧ ((zNm m_Ro_init).cls ≠ "java/lang/invoke/MethodHandle" ∧ (zNm m_Ro_init).cls ≠ "java/lang/invoke/VarHandle") ∧ Jvm.Cond.code (zNm m_Ro_init) (zCode m_Ro_init) (zMl m_Ro_init) (zRt m_Ro_init) ∈ zWs := ⟨by decide +kernel, by decide +kernel, by decide +kernel, zW_in 130 (by decide +kernel)⟩
def i_Ar_init : List (Nat × Instr × Nat) := [(0, .aload_n 0, 1), (1, .invokespecial 3, 3), (4, .aload_n 0, 1), (5, .aload_n 1, 1), (6, .putfield 9, 3), (9, .aload_n 0, 1), (10, .new 15, 3), (13, .dup, 1), (14, .invokespecial 17, 3), (17, .putfield 18, 3), (20, .return_, 1)]
def m_Ar_init : ZM := (⟨"StackReal$Arithmetic", "<init>", "(LStackReal$Rounding;)V"⟩, prog_2_method_1_code, 2, none, [], 4, 0, [], i_Ar_init)
theorem ck_Ar_init : ckm m_Ar_init = true := by decide +kernel
theorem mo_Ar_init : (zNm m_Ar_init).cls = zCn (zCno m_Ar_init) ∧ plainName (zNm m_Ar_init).cls = true ∧ ((zNm m_Ar_init).cls ≠ "java/lang/invoke/MethodHandle" ∧ (zNm m_Ar_init).cls ≠ "java/lang/invoke/VarHandle") ∧ Jvm.Cond.code (zNm m_Ar_init) (zCode m_Ar_init) (zMl m_Ar_init) (zRt m_Ar_init) ∈ zWs := ⟨by decide +kernel, by decide +kernel, by decide +kernel, zW_in 146 (by decide +kernel)⟩
def i_Ex_init : List (Nat × Instr × Nat) := [(0, .aload_n 0, 1), (1, .invokespecial 3, 3), (4, .return_, 1)]
def m_Ex_init : ZM := (⟨"StackReal$Exact", "<init>", "()V"⟩, prog_3_method_1_code, 1, none, [], 2, 0, [], i_Ex_init)
theorem ck_Ex_init : ckm m_Ex_init = true := by decide +kernel
theorem mo_Ex_init : (zNm m_Ex_init).cls = zCn (zCno m_Ex_init) ∧ plainName (zNm m_Ex_init).cls = true ∧ ((zNm m_Ex_init).cls ≠ "java/lang/invoke/MethodHandle" ∧ (zNm m_Ex_init).cls ≠ "java/lang/invoke/VarHandle") ∧ Jvm.Cond.code (zNm m_Ex_init) (zCode m_Ex_init) (zMl m_Ex_init) (zRt m_Ex_init) ∈ zWs := ⟨by decide +kernel, by decide +kernel, by decide +kernel, zW_in 152 (by decide +kernel)⟩
def i_Fo_init : List (Nat × Instr × Nat) := [(0, .aload_n 0, 1), (1, .invokespecial 3, 3), (4, .aload_n 0, 1), (5, .aload_n 1, 1), (6, .putfield 9, 3), (9, .aload_n 0, 1), (10, .new 15, 3), (13, .dup, 1), (14, .invokespecial 17, 3), (17, .putfield 18, 3), (20, .aload_n 0, 1), (21, .new 22, 3), (24, .dup, 1), (25, .invokespecial 24, 3), (28, .putfield 25, 3), (31, .return_, 1)]
def m_Fo_init : ZM := (⟨"StackReal$Forms", "<init>", "(LStackReal$Rounding;)V"⟩, prog_4_method_1_code, 2, none, [], 5, 0, [], i_Fo_init)
theorem ck_Fo_init : ckm m_Fo_init = true := by decide +kernel
theorem mo_Fo_init : (zNm m_Fo_init).cls = zCn (zCno m_Fo_init) ∧ plainName (zNm m_Fo_init).cls = true ∧ ((zNm m_Fo_init).cls ≠ "java/lang/invoke/MethodHandle" ∧ (zNm m_Fo_init).cls ≠ "java/lang/invoke/VarHandle") ∧ Jvm.Cond.code (zNm m_Fo_init) (zCode m_Fo_init) (zMl m_Fo_init) (zRt m_Fo_init) ∈ zWs := ⟨by decide +kernel, by decide +kernel, by decide +kernel, zW_in 183 (by decide +kernel)⟩
def i_Me_init : List (Nat × Instr × Nat) := [(0, .aload_n 0, 1), (1, .invokespecial 3, 3), (4, .aload_n 0, 1), (5, .bipush 8, 2), (7, .newarray .long, 2), (9, .putfield 9, 3), (12, .return_, 1)]
def m_Me_init : ZM := (⟨"StackReal$Memory", "<init>", "()V"⟩, prog_5_method_1_code, 1, none, [], 6, 0, [], i_Me_init)
theorem ck_Me_init : ckm m_Me_init = true := by decide +kernel
theorem mo_Me_init : (zNm m_Me_init).cls = zCn (zCno m_Me_init) ∧ plainName (zNm m_Me_init).cls = true ∧ ((zNm m_Me_init).cls ≠ "java/lang/invoke/MethodHandle" ∧ (zNm m_Me_init).cls ≠ "java/lang/invoke/VarHandle") ∧ Jvm.Cond.code (zNm m_Me_init) (zCode m_Me_init) (zMl m_Me_init) (zRt m_Me_init) ∈ zWs := ⟨by decide +kernel, by decide +kernel, by decide +kernel, zW_in 207 (by decide +kernel)⟩
def i_Mo_init : List (Nat × Instr × Nat) := [(0, .aload_n 0, 1), (1, .invokespecial 1, 3), (4, .aload_n 0, 1), (5, .bipush 64, 2), (7, .putfield 7, 3), (10, .aload_n 0, 1), (11, .bipush 31, 2), (13, .putfield 13, 3), (16, .aload_n 0, 1), (17, .bipush 11, 2), (19, .newarray .int, 2), (21, .putfield 16, 3), (24, .aload_n 0, 1), (25, .bipush 11, 2), (27, .newarray .boolean, 2), (29, .putfield 20, 3), (32, .aload_n 0, 1), (33, .bipush 11, 2), (35, .newarray .int, 2), (37, .putfield 24, 3), (40, .aload_n 0, 1), (41, .bipush 11, 2), (43, .newarray .long, 2), (45, .putfield 27, 3), (48, .aload_n 0, 1), (49, .bipush 8, 2), (51, .newarray .long, 2), (53, .putfield 31, 3), (56, .aload_n 0, 1), (57, .iconst (-1), 1), (58, .putfield 34, 3), (61, .aload_n 0, 1), (62, .sipush 160, 3), (65, .newarray .int, 2), (67, .putfield 37, 3), (70, .return_, 1)]
def m_Mo_init : ZM := (⟨"StackRealModel", "<init>", "()V"⟩, prog_9_method_1_code, 1, none, [], 7, 0, [], i_Mo_init)
theorem ck_Mo_init : ckm m_Mo_init = true := by decide +kernel
theorem mo_Mo_init : (zNm m_Mo_init).cls = zCn (zCno m_Mo_init) ∧ plainName (zNm m_Mo_init).cls = true ∧ ((zNm m_Mo_init).cls ≠ "java/lang/invoke/MethodHandle" ∧ (zNm m_Mo_init).cls ≠ "java/lang/invoke/VarHandle") ∧ Jvm.Cond.code (zNm m_Mo_init) (zCode m_Mo_init) (zMl m_Mo_init) (zRt m_Mo_init) ∈ zWs := ⟨by decide +kernel, by decide +kernel, by decide +kernel, zW_in 737 (by decide +kernel)⟩
def zIni : List ZM := [m_SR_init, m_Re_init, m_Ro_init, m_Ar_init, m_Ex_init, m_Fo_init, m_Me_init, m_Mo_init]
theorem zIni_ck : ∀ y ∈ zIni, ckm y = true := List.forall_mem_cons.mpr ⟨ck_SR_init, List.forall_mem_cons.mpr ⟨ck_Re_init, List.forall_mem_cons.mpr ⟨ck_Ro_init, List.forall_mem_cons.mpr ⟨ck_Ar_init, List.forall_mem_cons.mpr ⟨ck_Ex_init, List.forall_mem_cons.mpr ⟨ck_Fo_init, List.forall_mem_cons.mpr ⟨ck_Me_init, List.forall_mem_cons.mpr ⟨ck_Mo_init, fun _ h => absurd h List.not_mem_nil⟩⟩⟩⟩⟩⟩⟩⟩
def zMokI (y : ZM) : Prop := (zNm y).cls = zCn (zCno y) ∧ plainName (zNm y).cls = true ∧ ((zNm y).cls ≠ "java/lang/invoke/MethodHandle" ∧ (zNm y).cls ≠ "java/lang/invoke/VarHandle") ∧ Jvm.Cond.code (zNm y) (zCode y) (zMl y) (zRt y) ∈ zWs
theorem zIni_ok : ∀ y ∈ zIni, zMokI y := List.forall_mem_cons.mpr ⟨mo_SR_init, List.forall_mem_cons.mpr ⟨mo_Re_init, List.forall_mem_cons.mpr ⟨mo_Ro_init, List.forall_mem_cons.mpr ⟨mo_Ar_init, List.forall_mem_cons.mpr ⟨mo_Ex_init, List.forall_mem_cons.mpr ⟨mo_Fo_init, List.forall_mem_cons.mpr ⟨mo_Me_init, List.forall_mem_cons.mpr ⟨mo_Mo_init, fun _ h => absurd h List.not_mem_nil⟩⟩⟩⟩⟩⟩⟩⟩
theorem zIni_nm : ∀ y ∈ zIni, (zNm y).name = "<init>" := List.forall_mem_cons.mpr ⟨rfl, List.forall_mem_cons.mpr ⟨rfl, List.forall_mem_cons.mpr ⟨rfl, List.forall_mem_cons.mpr ⟨rfl, List.forall_mem_cons.mpr ⟨rfl, List.forall_mem_cons.mpr ⟨rfl, List.forall_mem_cons.mpr ⟨rfl, List.forall_mem_cons.mpr ⟨rfl, fun _ h => absurd h List.not_mem_nil⟩⟩⟩⟩⟩⟩⟩⟩
theorem zIni_rt : ∀ y ∈ zIni, zRt y = none := List.forall_mem_cons.mpr ⟨rfl, List.forall_mem_cons.mpr ⟨rfl, List.forall_mem_cons.mpr ⟨rfl, List.forall_mem_cons.mpr ⟨rfl, List.forall_mem_cons.mpr ⟨rfl, List.forall_mem_cons.mpr ⟨rfl, List.forall_mem_cons.mpr ⟨rfl, List.forall_mem_cons.mpr ⟨rfl, fun _ h => absurd h List.not_mem_nil⟩⟩⟩⟩⟩⟩⟩⟩
theorem zIni_hs : ∀ y ∈ zIni, zHs y = [] := List.forall_mem_cons.mpr ⟨rfl, List.forall_mem_cons.mpr ⟨rfl, List.forall_mem_cons.mpr ⟨rfl, List.forall_mem_cons.mpr ⟨rfl, List.forall_mem_cons.mpr ⟨rfl, List.forall_mem_cons.mpr ⟨rfl, List.forall_mem_cons.mpr ⟨rfl, List.forall_mem_cons.mpr ⟨rfl, fun _ h => absurd h List.not_mem_nil⟩⟩⟩⟩⟩⟩⟩⟩
theorem zfetchI {mi : ZM} {pc n : Nat} {i : Instr} (hm : mi = m_law ∨ mi ∈ zIni) (h : zfetch mi pc = some (i, n)) : decode (zCode mi) pc = .ok (i, n) ∧ zok (zMl mi) pc i n = true := by
  have hc : ckm mi = true := by
    rcases hm with rfl | hm
    · exact ck_law
    · exact zIni_ck mi hm
  have h1 := List.all_eq_true.mp hc (pc, i, n) (look_mem h)
  rw [Bool.and_eq_true, decide_eq_true_eq] at h1
  exact h1
def ckl (m : ZM) : Bool := (zIns m).all (fun q => match q.2.1 with | .new _ => q.2.2 == 3 | .newarray _ => q.2.2 == 2 | .anewarray _ => q.2.2 == 3 | .invokespecial _ => q.2.2 == 3 | _ => true)
theorem cl_SR_init : ckl m_SR_init = true := by decide +kernel
theorem cl_Re_init : ckl m_Re_init = true := by decide +kernel
theorem cl_Ro_init : ckl m_Ro_init = true := by decide +kernel
theorem cl_Ar_init : ckl m_Ar_init = true := by decide +kernel
theorem cl_Ex_init : ckl m_Ex_init = true := by decide +kernel
theorem cl_Fo_init : ckl m_Fo_init = true := by decide +kernel
theorem cl_Me_init : ckl m_Me_init = true := by decide +kernel
theorem cl_Mo_init : ckl m_Mo_init = true := by decide +kernel
theorem cl_law : ckl m_law = true := by decide +kernel
theorem zIni_cl : ∀ y ∈ zIni, ckl y = true := List.forall_mem_cons.mpr ⟨cl_SR_init, List.forall_mem_cons.mpr ⟨cl_Re_init, List.forall_mem_cons.mpr ⟨cl_Ro_init, List.forall_mem_cons.mpr ⟨cl_Ar_init, List.forall_mem_cons.mpr ⟨cl_Ex_init, List.forall_mem_cons.mpr ⟨cl_Fo_init, List.forall_mem_cons.mpr ⟨cl_Me_init, List.forall_mem_cons.mpr ⟨cl_Mo_init, fun _ h => absurd h List.not_mem_nil⟩⟩⟩⟩⟩⟩⟩⟩
theorem zLens {mi : ZM} {pc n : Nat} {i : Instr} (hm : mi = m_law ∨ mi ∈ zIni) (h : zfetch mi pc = some (i, n)) : (∀ x, i = .new x → n = 3) ∧ (∀ t, i = .newarray t → n = 2) ∧ (∀ x, i = .anewarray x → n = 3) ∧ (∀ x, i = .invokespecial x → n = 3) := by
  have hc : ckl mi = true := by
    rcases hm with rfl | hm
    · exact cl_law
    · exact zIni_cl mi hm
  have h1 := List.all_eq_true.mp hc (pc, i, n) (look_mem h)
  refine ⟨fun x hx => ?_, fun x hx => ?_, fun x hx => ?_, fun x hx => ?_⟩ <;> (subst hx; simpa using h1)
def zFlIT (cn : Nat) : List (Nat × Nat × Nat × Nat) := match cn with
  | 0 => [(11, 0, 0, 231), (16, 0, 1, 232), (20, 0, 2, 233), (26, 0, 3, 234), (35, 0, 4, 235), (42, 0, 5, 236), (49, 0, 6, 237), (53, 0, 7, 238), (57, 0, 8, 239), (60, 0, 9, 240), (63, 0, 10, 241)]
  | 3 => [(9, 3, 0, 132), (15, 3, 1, 134)]
  | 4 => [(9, 4, 0, 172), (18, 4, 1, 173)]
  | 5 => [(9, 5, 0, 189), (18, 5, 1, 190), (25, 5, 2, 191)]
  | 6 => [(9, 6, 0, 209)]
  | 7 => [(7, 7, 1, 740), (13, 7, 3, 742), (16, 7, 8, 747), (20, 7, 9, 748), (24, 7, 10, 749), (27, 7, 11, 750), (31, 7, 12, 751), (34, 7, 14, 753), (37, 7, 17, 756)]
  | _ => []
def zFlI (cn x : Nat) : Option (Nat × Nat) := ((zFlIT cn).lookup x).map (fun q => (q.1, q.2.1))
def ckFI (cn : Nat) : Bool := (zFlIT cn).all (fun q => match zCl[q.2.1]? with | some r => decide (q.2.2.1 < r.2.2) && (decide (lw_tbl[q.2.2.2]? = some (.fieldLink (zCn cn) q.1 (r.2.1 q.2.2.1).1 (r.2.1 q.2.2.1).2.1 (r.2.1 q.2.2.1).2.2.1)) && zmov (.fieldLink (zCn cn) q.1 (r.2.1 q.2.2.1).1 (r.2.1 q.2.2.1).2.1 (r.2.1 q.2.2.1).2.2.1)) | none => false)
theorem ckFI_0 : ckFI 0 = true := by decide +kernel
theorem ckFI_1 : ckFI 1 = true := by decide +kernel
theorem ckFI_2 : ckFI 2 = true := by decide +kernel
theorem ckFI_3 : ckFI 3 = true := by decide +kernel
theorem ckFI_4 : ckFI 4 = true := by decide +kernel
theorem ckFI_5 : ckFI 5 = true := by decide +kernel
theorem ckFI_6 : ckFI 6 = true := by decide +kernel
theorem ckFI_7 : ckFI 7 = true := by decide +kernel
theorem ckFI_8 : ckFI 8 = true := by decide +kernel
theorem ckFI_all (cn : Nat) : ckFI cn = true := by
  match cn with
  | 0 => exact ckFI_0
  | 1 => exact ckFI_1
  | 2 => exact ckFI_2
  | 3 => exact ckFI_3
  | 4 => exact ckFI_4
  | 5 => exact ckFI_5
  | 6 => exact ckFI_6
  | 7 => exact ckFI_7
  | 8 => exact ckFI_8
  | (n + 9) => rfl
theorem zFlI_ok {cn x ci j : Nat} (h : zFlI cn x = some (ci, j)) : ∃ C T N, zCl[ci]? = some (C, T, N) ∧ j < N ∧ Jvm.Cond.fieldLink (zCn cn) x (T j).1 (T j).2.1 (T j).2.2.1 ∈ zWs := by
  unfold zFlI at h
  cases hl : (zFlIT cn).lookup x with
  | none => rw [hl] at h; cases h
  | some q =>
    obtain ⟨a, b, ix⟩ := q
    rw [hl] at h
    cases h
    have h1 := List.all_eq_true.mp (ckFI_all cn) _ (look_mem hl)
    cases hc : zCl[a]? with
    | none => simp only [hc] at h1; cases h1
    | some r =>
      obtain ⟨C, T, N⟩ := r
      simp only [hc] at h1
      rw [Bool.and_eq_true, decide_eq_true_eq] at h1
      exact ⟨C, T, N, rfl, h1.1, zW_in ix h1.2⟩
def zNewT (cn : Nat) : List (Nat × Nat) := match cn with
  | 0 => [(9, 1), (23, 3), (30, 4), (39, 5), (46, 6)]
  | 4 => [(15, 2)]
  | 5 => [(15, 2), (22, 1)]
  | 8 => [(8, 0), (50, 7)]
  | _ => []
def zNew (cn x : Nat) : Option Nat := (zNewT cn).lookup x
def zNewO (cn : Nat) (q : Nat × Nat) : Prop := ∃ T N, zCl[q.2]? = some (zCn q.2, T, N) ∧ Jvm.Cond.classLink (zCn cn) q.1 (zCn q.2) ∈ zWs ∧ Jvm.Cond.instantiable (zCn q.2) N ∈ zWs ∧ Jvm.Cond.initialized (zCn q.2) ∈ zWs
theorem zNew_0_9 : zNewO 0 (9, 1) := ⟨F_Re, 4, rfl, zW_in 88 (by decide +kernel), zW_in 90 (by decide +kernel), zW_in 68 (by decide +kernel)⟩
theorem zNew_0_23 : zNewO 0 (23, 3) := ⟨F_Ro, 2, rfl, zW_in 126 (by decide +kernel), zW_in 127 (by decide +kernel), zW_in 69 (by decide +kernel)⟩
theorem zNew_0_30 : zNewO 0 (30, 4) := ⟨F_Ar, 2, rfl, zW_in 142 (by decide +kernel), zW_in 143 (by decide +kernel), zW_in 70 (by decide +kernel)⟩
theorem zNew_0_39 : zNewO 0 (39, 5) := ⟨F_Fo, 4, rfl, zW_in 179 (by decide +kernel), zW_in 180 (by decide +kernel), zW_in 72 (by decide +kernel)⟩
theorem zNew_0_46 : zNewO 0 (46, 6) := ⟨F_Me, 6, rfl, zW_in 203 (by decide +kernel), zW_in 204 (by decide +kernel), zW_in 73 (by decide +kernel)⟩
theorem zNew_4_15 : zNewO 4 (15, 2) := ⟨F_Ex, 4, rfl, zW_in 148 (by decide +kernel), zW_in 149 (by decide +kernel), zW_in 71 (by decide +kernel)⟩
theorem zNew_5_15 : zNewO 5 (15, 2) := ⟨F_Ex, 4, rfl, zW_in 185 (by decide +kernel), zW_in 149 (by decide +kernel), zW_in 71 (by decide +kernel)⟩
theorem zNew_5_22 : zNewO 5 (22, 1) := ⟨F_Re, 4, rfl, zW_in 187 (by decide +kernel), zW_in 90 (by decide +kernel), zW_in 68 (by decide +kernel)⟩
theorem zNew_8_8 : zNewO 8 (8, 0) := ⟨F_SR, 11, rfl, zW_in 80 (by decide +kernel), zW_in 81 (by decide +kernel), zW_in 67 (by decide +kernel)⟩
theorem zNew_8_50 : zNewO 8 (50, 7) := ⟨F_Mo, 18, rfl, zW_in 733 (by decide +kernel), zW_in 734 (by decide +kernel), zW_in 74 (by decide +kernel)⟩
theorem zNew_ok {cn x ci : Nat} (h : zNew cn x = some ci) : ∃ T N, zCl[ci]? = some (zCn ci, T, N) ∧ Jvm.Cond.classLink (zCn cn) x (zCn ci) ∈ zWs ∧ Jvm.Cond.instantiable (zCn ci) N ∈ zWs ∧ Jvm.Cond.initialized (zCn ci) ∈ zWs := by
  have h1 := look_mem h
  have h2 : ∀ q ∈ zNewT cn, zNewO cn q := by
    match cn with
    | 0 => exact List.forall_mem_cons.mpr ⟨zNew_0_9, List.forall_mem_cons.mpr ⟨zNew_0_23, List.forall_mem_cons.mpr ⟨zNew_0_30, List.forall_mem_cons.mpr ⟨zNew_0_39, List.forall_mem_cons.mpr ⟨zNew_0_46, fun _ h => absurd h List.not_mem_nil⟩⟩⟩⟩⟩
    | 1 => exact fun _ h => absurd h List.not_mem_nil
    | 2 => exact fun _ h => absurd h List.not_mem_nil
    | 3 => exact fun _ h => absurd h List.not_mem_nil
    | 4 => exact List.forall_mem_cons.mpr ⟨zNew_4_15, fun _ h => absurd h List.not_mem_nil⟩
    | 5 => exact List.forall_mem_cons.mpr ⟨zNew_5_15, List.forall_mem_cons.mpr ⟨zNew_5_22, fun _ h => absurd h List.not_mem_nil⟩⟩
    | 6 => exact fun _ h => absurd h List.not_mem_nil
    | 7 => exact fun _ h => absurd h List.not_mem_nil
    | 8 => exact List.forall_mem_cons.mpr ⟨zNew_8_8, List.forall_mem_cons.mpr ⟨zNew_8_50, fun _ h => absurd h List.not_mem_nil⟩⟩
    | (n + 9) => exact fun _ h => absurd h List.not_mem_nil
  exact h2 _ h1
def zANew (cn x : Nat) : Bool := cn == 0 && x == 9
theorem zANew_ok {cn x : Nat} (h : zANew cn x = true) : Jvm.Cond.classLink (zCn cn) x zRealN ∈ zWs := by
  unfold zANew at h
  rw [Bool.and_eq_true, beq_iff_eq, beq_iff_eq] at h
  obtain ⟨rfl, rfl⟩ := h
  exact zW_in 88 (by decide +kernel)
def zObj (cn x : Nat) : Bool := match cn, x with
  | 0, 1 => true
  | 1, 3 => true
  | 2, 3 => true
  | 3, 3 => true
  | 4, 3 => true
  | 5, 3 => true
  | 6, 3 => true
  | 7, 1 => true
  | _, _ => false
theorem zObj_ok {cn x : Nat} (h : zObj cn x = true) : Jvm.Cond.methodLink (zCn cn) x objectInit ∈ zWs := by
  unfold zObj at h
  split at h
  · exact zW_in 85 (by decide +kernel)
  · exact zW_in 94 (by decide +kernel)
  · exact zW_in 153 (by decide +kernel)
  · exact zW_in 131 (by decide +kernel)
  · exact zW_in 147 (by decide +kernel)
  · exact zW_in 184 (by decide +kernel)
  · exact zW_in 208 (by decide +kernel)
  · exact zW_in 738 (by decide +kernel)
  · cases h
theorem zObj_i : Jvm.Cond.instanceMethod objectInit ∈ zWs := zW_in 86 (by decide +kernel)
theorem zObj_c : Jvm.Cond.code objectInit ⟨#[0xb1]⟩ 1 none ∈ zWs := zW_in 87 (by decide +kernel)
def zCalIT (cn : Nat) : List (Nat × ZM × Nat) := match cn with
  | 0 => [(15, m_Re_init, 0), (25, m_Ro_init, 0), (32, m_Ar_init, 1), (41, m_Fo_init, 1), (48, m_Me_init, 0)]
  | 4 => [(17, m_Ex_init, 0)]
  | 5 => [(17, m_Ex_init, 0), (24, m_Re_init, 0)]
  | 8 => [(49, m_SR_init, 0), (52, m_Mo_init, 0)]
  | _ => []
def zCalI (cn x : Nat) : Option (ZM × Nat) := (zCalIT cn).lookup x
def zCalIo (cn : Nat) (q : Nat × ZM × Nat) : Prop := q.2.1 ∈ zIni ∧ (parseMethodDescriptor (zNm q.2.1).desc).map (fun d => d.parameters.length) = some q.2.2 ∧ Jvm.Cond.instanceMethod (zNm q.2.1) ∈ zWs ∧ (Jvm.Cond.methodLink (zCn cn) q.1 (zNm q.2.1) ∈ zWs ∨ ∃ host, Jvm.Cond.methodLinkNest (zCn cn) q.1 (zNm q.2.1) host ∈ zWs)
theorem zCalI_0_15 : zCalIo 0 (15, m_Re_init, 0) := ⟨List.mem_of_getElem? (i := 1) rfl, by decide +kernel, zW_in 92 (by decide +kernel), Or.inr ⟨"StackReal", zW_in 91 (by decide +kernel)⟩⟩
theorem zCalI_0_25 : zCalIo 0 (25, m_Ro_init, 0) := ⟨List.mem_of_getElem? (i := 2) rfl, by decide +kernel, zW_in 129 (by decide +kernel), Or.inr ⟨"StackReal", zW_in 128 (by decide +kernel)⟩⟩
theorem zCalI_0_32 : zCalIo 0 (32, m_Ar_init, 1) := ⟨List.mem_of_getElem? (i := 3) rfl, by decide +kernel, zW_in 145 (by decide +kernel), Or.inl (zW_in 144 (by decide +kernel))⟩
theorem zCalI_0_41 : zCalIo 0 (41, m_Fo_init, 1) := ⟨List.mem_of_getElem? (i := 5) rfl, by decide +kernel, zW_in 182 (by decide +kernel), Or.inl (zW_in 181 (by decide +kernel))⟩
theorem zCalI_0_48 : zCalIo 0 (48, m_Me_init, 0) := ⟨List.mem_of_getElem? (i := 6) rfl, by decide +kernel, zW_in 206 (by decide +kernel), Or.inr ⟨"StackReal", zW_in 205 (by decide +kernel)⟩⟩
theorem zCalI_4_17 : zCalIo 4 (17, m_Ex_init, 0) := ⟨List.mem_of_getElem? (i := 4) rfl, by decide +kernel, zW_in 151 (by decide +kernel), Or.inr ⟨"StackReal", zW_in 150 (by decide +kernel)⟩⟩
theorem zCalI_5_17 : zCalIo 5 (17, m_Ex_init, 0) := ⟨List.mem_of_getElem? (i := 4) rfl, by decide +kernel, zW_in 151 (by decide +kernel), Or.inr ⟨"StackReal", zW_in 186 (by decide +kernel)⟩⟩
theorem zCalI_5_24 : zCalIo 5 (24, m_Re_init, 0) := ⟨List.mem_of_getElem? (i := 1) rfl, by decide +kernel, zW_in 92 (by decide +kernel), Or.inr ⟨"StackReal", zW_in 188 (by decide +kernel)⟩⟩
theorem zCalI_8_49 : zCalIo 8 (49, m_SR_init, 0) := ⟨List.mem_of_getElem? (i := 0) rfl, by decide +kernel, zW_in 83 (by decide +kernel), Or.inl (zW_in 82 (by decide +kernel))⟩
theorem zCalI_8_52 : zCalIo 8 (52, m_Mo_init, 0) := ⟨List.mem_of_getElem? (i := 7) rfl, by decide +kernel, zW_in 736 (by decide +kernel), Or.inl (zW_in 735 (by decide +kernel))⟩
theorem zCalI_ok {cn x a : Nat} {y : ZM} (h : zCalI cn x = some (y, a)) : y ∈ zIni ∧ (parseMethodDescriptor (zNm y).desc).map (fun d => d.parameters.length) = some a ∧ Jvm.Cond.instanceMethod (zNm y) ∈ zWs ∧ (Jvm.Cond.methodLink (zCn cn) x (zNm y) ∈ zWs ∨ ∃ host, Jvm.Cond.methodLinkNest (zCn cn) x (zNm y) host ∈ zWs) := by
  have h1 := look_mem h
  have h2 : ∀ q ∈ zCalIT cn, zCalIo cn q := by
    match cn with
    | 0 => exact List.forall_mem_cons.mpr ⟨zCalI_0_15, List.forall_mem_cons.mpr ⟨zCalI_0_25, List.forall_mem_cons.mpr ⟨zCalI_0_32, List.forall_mem_cons.mpr ⟨zCalI_0_41, List.forall_mem_cons.mpr ⟨zCalI_0_48, fun _ h => absurd h List.not_mem_nil⟩⟩⟩⟩⟩
    | 1 => exact fun _ h => absurd h List.not_mem_nil
    | 2 => exact fun _ h => absurd h List.not_mem_nil
    | 3 => exact fun _ h => absurd h List.not_mem_nil
    | 4 => exact List.forall_mem_cons.mpr ⟨zCalI_4_17, fun _ h => absurd h List.not_mem_nil⟩
    | 5 => exact List.forall_mem_cons.mpr ⟨zCalI_5_17, List.forall_mem_cons.mpr ⟨zCalI_5_24, fun _ h => absurd h List.not_mem_nil⟩⟩
    | 6 => exact fun _ h => absurd h List.not_mem_nil
    | 7 => exact fun _ h => absurd h List.not_mem_nil
    | 8 => exact List.forall_mem_cons.mpr ⟨zCalI_8_49, List.forall_mem_cons.mpr ⟨zCalI_8_52, fun _ h => absurd h List.not_mem_nil⟩⟩
    | (n + 9) => exact fun _ h => absurd h List.not_mem_nil
  exact h2 _ h1
theorem zArr_int : Jvm.Cond.arrayClass .int ∈ zWs := zW_in 794 (by decide +kernel)
theorem zArr_long : Jvm.Cond.arrayClass .long ∈ zWs := zW_in 230 (by decide +kernel)
theorem zArr_boolean : Jvm.Cond.arrayClass .boolean ∈ zWs := zW_in 795 (by decide +kernel)
theorem zArr_over : Jvm.Cond.arrayOver (.object zRealN) ∈ lw_tbl := List.mem_of_getElem? (i := 89) (by decide +kernel)
def zDef (ci : Nat) : List Value := match ci with
  | 0 => [.null, .null, .null, .null, .null, .null, .null, .int 0, .int 0, .int 0, .int 0]
  | 1 => [.int 0, .int 0, .int 0, .long 0]
  | 2 => [.int 0, .int 0, .long 0, .long 0]
  | 3 => [.int 0, .int 0]
  | 4 => [.null, .null]
  | 5 => [.null, .null, .null, .long 0]
  | 6 => [.null, .long 0, .long 0, .int 0, .int 0, .long 0]
  | 7 => [.int 0, .int 0, .int 0, .int 0, .int 0, .int 0, .int 0, .int 0, .null, .null, .null, .null, .null, .int 0, .int 0, .long 0, .long 0, .null]
  | _ => []
theorem zDef_ok {ci : Nat} {r : vw_C} (h : zCl[ci]? = some r) : (zDef ci).length = r.2.2 ∧ ∀ j, j < r.2.2 → defaultValue (zTyp ci j) = vp_V (zDef ci) j := by
  match ci, h with
  | 0, h => cases h; exact ⟨rfl, by decide +kernel⟩
  | 1, h => cases h; exact ⟨rfl, by decide +kernel⟩
  | 2, h => cases h; exact ⟨rfl, by decide +kernel⟩
  | 3, h => cases h; exact ⟨rfl, by decide +kernel⟩
  | 4, h => cases h; exact ⟨rfl, by decide +kernel⟩
  | 5, h => cases h; exact ⟨rfl, by decide +kernel⟩
  | 6, h => cases h; exact ⟨rfl, by decide +kernel⟩
  | 7, h => cases h; exact ⟨rfl, by decide +kernel⟩
  | (n + 8), h => simp at h
end
section
/-! Making objects: the constructors, and the law up to its loop. Addresses of places come one by one: a list al -/
def zad (ex : Nat → Nat) (al : List Nat) (k : Nat) : Nat := if k < 1000 then al.getD k 0 else ex k
def zwV (n : Nat) (v : Value) : Bool := match v with
  | .ref k => decide (k < n) || decide (1000 ≤ k)
  | _ => true
def zwF (n : Nat) (lv : zL) (st : List Value) : Bool := lv.all (fun q => zwV n q.2) && st.all (zwV n)
def zwH (n : Nat) (h : zH) : Bool := h.all (fun c => match c with
  | .inr o => o.2.all (zwV n)
  | .inl _ => true)
/-- references in arrays lie within the heap -/
def zwA (h : zH) : Prop := ∀ (k t N : Nat) (f : Nat → Option Nat), h[k]? = some (.inl (t, N, .inr (.inr (.inr (.inr f))))) → ∀ i y, f i = some y → y < h.length
/-- al' goes on from al -/
def zPre (al al' : List Nat) : Prop := ∀ k, k < al.length → al'.getD k 0 = al.getD k 0
theorem zPre.refl (al : List Nat) : zPre al al := fun _ _ => rfl
theorem zPre.trans {a b c : List Nat} (h1 : zPre a b) (hl : a.length ≤ b.length) (h2 : zPre b c) : zPre a c := fun k hk => (h2 k (Nat.lt_of_lt_of_le hk hl)).trans (h1 k hk)
theorem zPre.push (al : List Nat) (q : Nat) : zPre al (al ++ [q]) := fun k hk => by
  rw [List.getD_eq_getElem?_getD, List.getD_eq_getElem?_getD, List.getElem?_append_left hk]
section ZW
variable {ex : Nat → Nat} {al al' : List Nat} {cA : Nat → ClassId} {n : Nat}
theorem zad_pre (h : zPre al al') {k : Nat} (hk : k < al.length ∨ 1000 ≤ k) : zad ex al' k = zad ex al k := by
  unfold zad
  by_cases h1 : k < 1000
  · rw [if_pos h1, if_pos h1]
    exact h k (by omega)
  · rw [if_neg h1, if_neg h1]
theorem tv_pre (h : zPre al al') {v : Value} (hv : zwV al.length v = true) : tv (zad ex al') v = tv (zad ex al) v := by
  cases v <;> first | rfl | skip
  rename_i k
  show Value.ref _ = Value.ref _
  rw [zad_pre h (by simpa [zwV] using hv)]
theorem map_pre (h : zPre al al') {st : List Value} (hv : st.all (zwV al.length) = true) : st.map (tv (zad ex al')) = st.map (tv (zad ex al)) :=
  List.map_congr_left (fun v hm => tv_pre h (List.all_eq_true.mp hv v hm))
theorem tl_pre (h : zPre al al') {lv : zL} (hv : lv.all (fun q => zwV al.length q.2) = true) : tl (zad ex al') lv = tl (zad ex al) lv :=
  List.map_congr_left (fun q hm => by rw [tv_pre h (List.all_eq_true.mp hv q hm)])
theorem wd_pre (h : zPre al al') {hh : zH} (hl : hh.length = al.length) (h1 : zwH al.length hh = true) (h2 : zwA hh) : wd (zad ex al') cA hh = wd (zad ex al) cA hh := by
  apply List.ext_getElem?
  intro i
  unfold wd
  rw [List.getElem?_mapIdx, List.getElem?_mapIdx]
  cases hc : hh[i]? with
  | none => rfl
  | some c =>
    have hi : i < al.length := by rw [← hl]; exact (List.getElem?_eq_some_iff.mp hc).1
    have hm := List.all_eq_true.mp h1 c (List.mem_of_getElem? hc)
    have ht : tc (zad ex al') cA c = tc (zad ex al) cA c := by
      cases c with
      | inr o =>
        show Sum.inr _ = Sum.inr _
        rw [map_pre h hm]
      | inl a =>
        obtain ⟨t, N, x⟩ := a
        show Sum.inl (cA t, tA (zad ex al') (N, x)) = Sum.inl (cA t, tA (zad ex al) (N, x))
        rcases x with x | x | x | x | x <;> try rfl
        have hf : (fun i => (x i).map (zad ex al')) = (fun i => (x i).map (zad ex al)) := by
          funext i9
          cases hx : x i9 with
          | none => rfl
          | some y =>
            have := h2 i t N x hc i9 y hx
            show some _ = some _
            rw [zad_pre h (Or.inl (by rw [← hl]; exact this))]
        exact congrArg (fun g => (Sum.inl (cA t, N, Sum.inr (Sum.inr (Sum.inr (Sum.inr g)))) : va_E)) hf
    show some (zad ex al' i, tc (zad ex al') cA c) = some (zad ex al i, tc (zad ex al) cA c)
    rw [zad_pre h (Or.inl hi), ht]
theorem wd_push {hh : zH} {c : zC} {q : Nat} (hl : hh.length = al.length) (h9 : al.length < 1000) (h1 : zwH al.length hh = true) (h2 : zwA hh) (hc : tc (zad ex (al ++ [q])) cA c = tc (zad ex al) cA c) : wd (zad ex (al ++ [q])) cA (hh ++ [c]) = wd (zad ex al) cA hh ++ [(q, tc (zad ex al) cA c)] := by
  have e1 : wd (zad ex (al ++ [q])) cA (hh ++ [c]) = wd (zad ex (al ++ [q])) cA hh ++ [(zad ex (al ++ [q]) hh.length, tc (zad ex (al ++ [q])) cA c)] := by
    unfold wd
    rw [List.mapIdx_append, List.mapIdx_cons, List.mapIdx_nil, Nat.zero_add]
  have e2 : zad ex (al ++ [q]) hh.length = q := by
    unfold zad
    rw [if_pos (by omega), hl, List.getD_eq_getElem?_getD, List.getElem?_append_right (Nat.le_refl _), Nat.sub_self]
    rfl
  rw [e1, e2, hc, wd_pre (zPre.push al q) hl h1 h2]
theorem zwA_push {hh : zH} {c : zC} (h : zwA hh) (hc : ∀ t N f, c = .inl (t, N, .inr (.inr (.inr (.inr f)))) → ∀ i y, f i = some y → y < hh.length) : zwA (hh ++ [c]) := by
  intro k t N f hk i y hy
  rw [List.length_append]
  by_cases hl : k < hh.length
  · rw [List.getElem?_append_left hl] at hk
    have := h k t N f hk i y hy
    omega
  · rw [List.getElem?_append_right (by omega)] at hk
    have hz : k - hh.length < 1 := (List.getElem?_eq_some_iff.mp hk).1
    rw [show k - hh.length = 0 by omega] at hk
    have hk' : c = .inl (t, N, .inr (.inr (.inr (.inr f)))) := Option.some.inj hk
    have := hc t N f hk' i y hy
    omega
theorem zwA_set {hh : zH} {k : Nat} {o : Nat × List Value} (h : zwA hh) : zwA (hh.set k (.inr o)) := by
  intro j t N f hj i y hy
  rw [List.length_set]
  by_cases hjk : k = j
  · subst hjk
    by_cases hl : k < hh.length
    · rw [List.getElem?_set_self hl] at hj
      cases hj
    · rw [List.getElem?_eq_none (by rw [List.length_set]; omega)] at hj
      cases hj
  · rw [List.getElem?_set_ne hjk] at hj
    exact h j t N f hj i y hy
end ZW
def zRef (ci j : Nat) : Bool := match zTyp ci j with
  | .object _ => true
  | .array _ => true
  | _ => false
def zArT (t : ArrayType) : Option (Nat × FieldType × ((Nat → Int32) ⊕ (Nat → Int64) ⊕ (Nat → UInt32) ⊕ (Nat → UInt64) ⊕ (Nat → Option Nat))) := match t with
  | .int => some (0, .int, .inl (fun _ => 0))
  | .long => some (1, .long, .inr (.inl (fun _ => 0)))
  | .boolean => some (2, .boolean, .inl (fun _ => 0))
  | _ => none
def zmk (ini : Bool) (d cn : Nat) (i : Instr) (lv : zL) (st : List Value) (h : zH) (bc bs : Nat) : Option (Nat × List Value × zH × Nat × Nat) := match i with
  | .putfield x => (match zFlI cn x with
    | some (ci, j) => (match st with
      | .ref y :: .ref k :: r => (match h[k]? with
        | some (.inr (cj, fs)) => if cj = ci ∧ ci = cn ∧ j < fs.length ∧ zFin ci j = true ∧ zRef ci j = true ∧ ini = true then some (3, r, h.set k (.inr (ci, fs.set j (.ref y))), bc, bs) else none
        | _ => none)
      | _ => none)
    | none => none)
  | .new x => (match zNew cn x with
    | some ci => if 1 ≤ bc ∧ (zDef ci).length ≤ bs ∧ zwF h.length lv st = true ∧ zwH h.length h = true ∧ h.length < 900 then some (3, .ref h.length :: st, h ++ [.inr (ci, zDef ci)], bc - 1, bs - (zDef ci).length) else none
    | none => none)
  | .newarray t => (match st with
    | .int a :: r => (match zArT t with
      | some (tn, _, x0) => if ¬ a < 0 ∧ a.toNatClampNeg ≤ 1000 ∧ 1 ≤ bc ∧ a.toNatClampNeg ≤ bs ∧ zwF h.length lv r = true ∧ zwH h.length h = true ∧ h.length < 900 then some (2, .ref h.length :: r, h ++ [.inl (tn, a.toNatClampNeg, x0)], bc - 1, bs - a.toNatClampNeg) else none
      | none => none)
    | _ => none)
  | .anewarray x => (match st with
    | .int a :: r => if zANew cn x = true ∧ ¬ a < 0 ∧ a.toNatClampNeg ≤ 1000 ∧ 1 ≤ bc ∧ a.toNatClampNeg ≤ bs ∧ zwF h.length lv r = true ∧ zwH h.length h = true ∧ h.length < 900 then some (3, .ref h.length :: r, h ++ [.inl (3, a.toNatClampNeg, .inr (.inr (.inr (.inr (fun _ => none)))))], bc - 1, bs - a.toNatClampNeg) else none
    | _ => none)
  | .invokespecial x => (match st with
    | .ref _ :: r => if zObj cn x = true ∧ 1 ≤ d ∧ (r.map fun v => v.category).sum ≤ 60 then some (3, r, h, bc, bs) else none
    | _ => none)
  | _ => none
def zbld (L : Nat) (xs : Nat → Int32) : Nat → Option Nat → Nat → ZM → Nat → zL → List Value → zH → Nat → Nat → Option (zL × zH × Nat × Nat)
  | 0, _, _, _, _, _, _, _, _, _ => none
  | n + 1, stop, d, mi, pc, lv, st, h, bc, bs =>
    if stop = some pc then (match st with
      | [] => some (lv, h, bc, bs)
      | _ => none) else
    match zfetch mi pc with
    | none => none
    | some (i, _) =>
      match z1 pc i lv st with
      | some (pc', lv', st') => zbld L xs n stop d mi pc' lv' st' h bc bs
      | none =>
      match z2 L xs (zCno mi) i st h with
      | some (w, st', h') => zbld L xs n stop d mi (pc + w) lv st' h' bc bs
      | none =>
      match zmk (decide ((zNm mi).name = "<init>")) d (zCno mi) i lv st h bc bs with
      | some (w, st', h', bc', bs') => zbld L xs n stop d mi (pc + w) lv st' h' bc' bs'
      | none =>
      match i with
      | .return_ => (match st, zRt mi with
        | [], none => some (lv, h, bc, bs)
        | _, _ => none)
      | .invokespecial x => (match zCalI (zCno mi) x with
        | none => none
        | some (y, a) => (match d with
          | 0 => none
          | d' + 1 => (match st.drop a with
            | .ref k :: r => if a ≤ st.length ∧ (r.map fun v => v.category).sum + zMl y ≤ 19 ∧ ((Value.ref k :: (st.take a).reverse).map fun v => v.category).sum ≤ zMl y ∧ zwF h.length lv r = true ∧ zwH h.length h = true then
                (match zbld L xs n none d' y 0 (lv_args 0 (.ref k :: (st.take a).reverse)) [] h bc bs with
                 | none => none
                 | some (_, h', bc', bs') => if bc' ≤ bc ∧ bs' ≤ bs then zbld L xs n stop (d' + 1) mi (pc + 3) lv r h' bc' bs' else none)
              else none
            | _ => none)))
      | _ => none
theorem zDef_map (ad : Nat → Nat) (ci : Nat) : (zDef ci).map (tv ad) = zDef ci := by
  unfold zDef
  split <;> rfl
theorem zwA_setI {hh : zH} {k t N : Nat} {x : (Nat → Int32) ⊕ (Nat → Int64)} {c : zC} (h : zwA hh) (hc : c = .inl (t, N, match x with | .inl f => .inl f | .inr f => .inr (.inl f))) : zwA (hh.set k c) := by
  subst hc
  intro j t9 N9 f hj i y hy
  rw [List.length_set]
  by_cases hjk : k = j
  · subst hjk
    by_cases hl : k < hh.length
    · rw [List.getElem?_set_self hl] at hj
      cases x <;> cases hj
    · rw [List.getElem?_eq_none (by rw [List.length_set]; omega)] at hj
      cases hj
  · rw [List.getElem?_set_ne hjk] at hj
    exact h j t9 N9 f hj i y hy
theorem zwA_setR {hh : zH} {k t N v a : Nat} {f : Nat → Option Nat} (h : zwA hh) (hk : hh[k]? = some (.inl (t, N, .inr (.inr (.inr (.inr f)))))) (hv : v < hh.length) : zwA (hh.set k (.inl (t, N, .inr (.inr (.inr (.inr (va_up f a (some v)))))))) := by
  intro j t9 N9 g hj i y hy
  rw [List.length_set]
  by_cases hjk : k = j
  · subst hjk
    have hl := (List.getElem?_eq_some_iff.mp hk).1
    rw [List.getElem?_set_self hl] at hj
    cases hj
    unfold va_up at hy
    split at hy
    · cases hy
      exact hv
    · exact h k t N f hk i y hy
  · rw [List.getElem?_set_ne hjk] at hj
    exact h j t9 N9 g hj i y hy
theorem z2_len {L : Nat} {xs : Nat → Int32} {cn w : Nat} {i : Instr} {st st' : List Value} {h h' : zH} (h2 : z2 L xs cn i st h = some (w, st', h')) (hA : zwA h) : h'.length = h.length ∧ zwA h' := by
  unfold z2 at h2
  split at h2
  · split at h2 <;> cases h2
    exact ⟨rfl, hA⟩
  · split at h2 <;> cases h2
    exact ⟨rfl, hA⟩
  · split at h2 <;> cases h2
    exact ⟨rfl, hA⟩
  · repeat' (split at h2)
    all_goals cases h2
    exact ⟨rfl, hA⟩
  · repeat' (split at h2)
    all_goals cases h2
    exact ⟨List.length_set, zwA_set hA⟩
  · repeat' (split at h2)
    all_goals cases h2
    exact ⟨rfl, hA⟩
  · repeat' (split at h2)
    all_goals cases h2
    all_goals exact ⟨rfl, hA⟩
  · repeat' (split at h2)
    all_goals cases h2
    exact ⟨rfl, hA⟩
  · repeat' (split at h2)
    all_goals cases h2
    exact ⟨rfl, hA⟩
  · repeat' (split at h2)
    all_goals cases h2
    exact ⟨rfl, hA⟩
  · repeat' (split at h2)
    all_goals cases h2
    exact ⟨List.length_set, zwA_setI (x := .inl _) hA rfl⟩
  · repeat' (split at h2)
    all_goals cases h2
    exact ⟨List.length_set, zwA_setI (x := .inr _) hA rfl⟩
  · repeat' (split at h2)
    all_goals cases h2
    exact ⟨List.length_set, zwA_setI (x := .inl _) hA rfl⟩
  · split at h2
    · split at h2
      · rename_i hq
        split at h2
        · rename_i hv
          split at h2
          · cases h2
            exact ⟨List.length_set, zwA_setR hA hq (List.getElem?_eq_some_iff.mp hv).1⟩
          · cases h2
        · cases h2
      · cases h2
    · cases h2
  · cases h2
end
section
/-! The simulation of runs that make objects -/
section ZB
variable {p : Program} {l : Launch} {e : Env} {R : Room} {s : State} {m : MethodId} {args : Array Value} {below : List Frame} {meth : Method} {c : Code} {T : State} {H : Heap} {locs : List Loc} {cells slots : Nat} {Q : State → Prop}
variable {pc : Nat} {ls : Array Slot} {D : va_G} {cA : Nat → ClassId} {A : Nat → Prop} {L : Nat} {xs : Nat → Int32} {ex : Nat → Nat} {al al' : List Nat}
theorem zEx_hi {k N : Nat} {f : Nat → Int32} (h : zEx L xs k = some (N, f)) : 1000 ≤ k := by
  unfold zEx zTab at h
  split at h
  · omega
  · split at h
    · omega
    · split at h
      · omega
      · cases h
theorem zStN_hi {k : Nat} {C n d : String} (h : (k, C, n, d) ∈ zStN) : 1000 ≤ k := by
  simp only [zStN, List.mem_cons, List.not_mem_nil, or_false, Prod.mk.injEq] at h
  rcases h with h | h <;> omega
theorem zad_hi {k : Nat} (h : 1000 ≤ k) : zad ex al k = ex k := by
  unfold zad
  rw [if_neg (by omega)]
theorem zS_al (h : zS D (zad ex al) cA A L xs s args) : zS D (zad ex al') cA A L xs s args := by
  obtain ⟨h1, h2, h3, h4, h5⟩ := h
  refine ⟨h1, h2, fun k N f hf => ?_, fun k C n d hk => ?_, h5⟩
  · rw [zad_hi (zEx_hi hf)]
    have := h3 k N f hf
    rwa [zad_hi (zEx_hi hf)] at this
  · rw [zad_hi (zStN_hi hk)]
    have := h4 k C n d hk
    rwa [zad_hi (zStN_hi hk)] at this
theorem zI_back2 {ad ad' : Nat → Nat} {h h1 : zH} {s' : State} {H1 : Heap} {L1 : List Loc} (hI : zI D ad cA A s h H locs) (hH : s'.heap = H) (hsub : ∀ q, va_A (wd ad cA h) H.size q → A q) (hJ : zI D ad' cA (va_A (wd ad cA h) H.size) s' h1 H1 L1) : zI D ad' cA A s h1 H1 (locs ++ L1) := by
  obtain ⟨hP, hD, hS⟩ := hI
  obtain ⟨jP, jD, jS⟩ := hJ
  rw [hH] at jS
  refine ⟨jP, jD.weaken (fun k q _ hq => hsub _ hq), Nat.le_trans hS.1 jS.1, fun q h1 h2 => ?_, fun q hq => ?_⟩
  · rw [jS.2.1 q (Nat.lt_of_lt_of_le h1 hS.1) (fun z => h2 (hsub q z))]
    exact hS.2.1 q h1 h2
  · rcases List.mem_append.mp hq with h | h
    · exact hS.2.2 q h
    · exact hsub _ (jS.2.2 q h)
theorem zRef_fits {ci j y : Nat} (h : zRef ci j = true) : narrow (zTyp ci j) (.ref y) = .ref y ∧ fits (zTyp ci j) (.ref y) = true := by
  unfold zRef at h
  generalize zTyp ci j = ty at h ⊢
  split at h
  · exact ⟨rfl, rfl⟩
  · exact ⟨rfl, rfl⟩
  · cases h
theorem zCl_decl {ci : Nat} {r : vw_C} (h : zCl[ci]? = some r) : ∀ j, j < r.2.2 → (r.2.1 j).1 = r.1 := by
  match ci, h with
  | 0, h => cases h; decide +kernel
  | 1, h => cases h; decide +kernel
  | 2, h => cases h; decide +kernel
  | 3, h => cases h; decide +kernel
  | 4, h => cases h; decide +kernel
  | 5, h => cases h; decide +kernel
  | 6, h => cases h; decide +kernel
  | 7, h => cases h; decide +kernel
  | (n + 8), h => simp at h
theorem z_cA {ty : FieldType} {c1 c2 : ClassId} (h3 : ty = .int ∨ ty = .long ∨ ty = .boolean) (h1 : va_RA s c1 ty) (h2 : va_RA s c2 ty) : c1 = c2 := by
  rcases h3 with rfl | rfl | rfl <;> exact Option.some.inj (Eq.trans (Eq.symm h1) h2)
theorem z_cAo {C : String} {c1 c2 : ClassId} (h1 : va_RA s c1 (.object C)) (h2 : va_RA s c2 (.object C)) : c1 = c2 := by
  obtain ⟨_, _, _, _, _, q1⟩ := h1
  obtain ⟨_, _, _, _, _, q2⟩ := h2
  exact Option.some.inj (q1.symm.trans q2)
theorem zArT_ok {t : ArrayType} {tn : Nat} {ty : FieldType} {x0 : (Nat → Int32) ⊕ (Nat → Int64) ⊕ (Nat → UInt32) ⊕ (Nat → UInt64) ⊕ (Nat → Option Nat)} (h : zArT t = some (tn, ty, x0)) :
    newarray.typeOf t = ty ∧ (ty = .int ∨ ty = .long ∨ ty = .boolean) ∧ Jvm.Cond.arrayClass ty ∈ zWs ∧ (∀ (N : Nat) (k : ClassId), vp_cell k (N, x0) = arrV k N (fun _ => defaultValue ty)) ∧ componentBytes ty ≤ 8 ∧ (∀ k : Nat → ClassId, (zTt k)[tn]? = some (k tn, ty)) ∧ (∀ (ad : Nat → Nat) (N : Nat), tA ad (N, x0) = (N, x0)) ∧ (∀ f, x0 ≠ .inr (.inr (.inr (.inr f)))) := by
  unfold zArT at h
  split at h <;> cases h
  · exact ⟨rfl, Or.inl rfl, zArr_int, fun _ _ => rfl, by decide, fun _ => rfl, fun _ _ => rfl, fun _ h => by cases h⟩
  · exact ⟨rfl, Or.inr (Or.inl rfl), zArr_long, fun _ _ => rfl, by decide, fun _ => rfl, fun _ _ => rfl, fun _ h => by cases h⟩
  · exact ⟨rfl, Or.inr (Or.inr rfl), zArr_boolean, fun _ _ => rfl, by decide, fun _ => rfl, fun _ _ => rfl, fun _ h => by cases h⟩
theorem z_new_st {q : Nat} {h : zH} {st : List Value} (hal : al.length = h.length) (h9 : h.length < 900) (hst : st.all (zwV al.length) = true) : (Value.ref h.length :: st).map (tv (zad ex (al ++ [q]))) = .ref q :: st.map (tv (zad ex al)) := by
  rw [List.map_cons, map_pre (zPre.push _ _) hst]
  congr 1
  show Value.ref (zad ex (al ++ [q]) h.length) = _
  unfold zad
  rw [if_pos (by omega), ← hal, List.getD_eq_getElem?_getD, List.getElem?_append_right (Nat.le_refl _), Nat.sub_self]
  rfl
/-- an instruction that makes an object, or puts a reference into a final field, or calls Object() -/
theorem simM {mi : ZM} {d n w bc bs bc' bs' : Nat} {i : Instr} {lv : zL} {st st' : List Value} {h h' : zH} (hx : p.tables.exec = Jvm.exec) (hm : zM mi s m meth c) (hd : decode (zCode mi) pc = .ok (i, n)) (hml : ls.size = zMl mi)
    (hnm : (zNm mi).name = "<init>" → meth.name = "<init>") (hAO : va_AO zRealN s) (hs : zS D (zad ex al) cA A L xs s args) (hI : zI D (zad ex al) cA A s h H locs) (hal : al.length = h.length) (hwA : zwA h)
    (hk : zmk (decide ((zNm mi).name = "<init>")) d (zCno mi) i lv st h bc bs = some (w, st', h', bc', bs')) (hRf : d ≤ R.frames) (hRl : 30 * d + 90 ≤ R.locals) (hRc : cells + bc ≤ R.cells) (hRs : slots + bs ≤ R.slots) (hlen : n = w)
    (k : ∀ (al' : List Nat) (H' : Heap) (locs' : List Loc) (cells' slots' : Nat), zPre al al' → al.length ≤ al'.length → zI D (zad ex al') cA A s h' H' locs' → al'.length = h'.length → zwA h' → tl (zad ex al') lv = tl (zad ex al) lv → cells' + bc' = cells + bc → slots' + bs' = slots + bs → W p l e R s m args below meth c H' locs' cells' slots' Q (F0 m (pc + w) ls (st'.map (tv (zad ex al'))))) :
    W p l e R s m args below meth c H locs cells slots Q (F0 m pc ls (st.map (tv (zad ex al)))) := by
  subst hlen
  obtain ⟨hown, hb, hmx, -, -, -⟩ := hm
  obtain ⟨hts, hK, -, -, hA, -, -⟩ := id hs
  obtain ⟨hP, hD, hS⟩ := id hI
  unfold zmk at hk
  split at hk
  · -- a final field
    split at hk
    · rename_i ci j hv
      split at hk
      · rename_i y q r
        split at hk
        · rename_i cj fs hq
          split at hk
          · rename_i hc
            obtain ⟨hc, hcn, hj, hfin, href, hini⟩ := hc
            subst hc
            subst hcn
            cases hk
            obtain ⟨C, T9, N, h1, h3, h4⟩ := zFlI_ok hv
            have he := wd_get (ad := zad ex al) (cA := cA) hq
            obtain ⟨hn9, hf9⟩ := zRef_fits (y := zad ex al y) href
            have hw : (wd (zad ex al) cA h).set q (zad ex al q, .inr (zCno mi, (fs.map (tv (zad ex al))).set j (.ref (zad ex al y)))) = wd (zad ex al) cA (h.set q (.inr (zCno mi, fs.set j (.ref y)))) := by
              rw [← wd_set, show (fs.map (tv (zad ex al))).set j (.ref (zad ex al y)) = (fs.set j (.ref y)).map (tv (zad ex al)) from by rw [List.map_set]; rfl]
              rfl
            refine va_putF hx hb hts (zCl_ok h1).1 (zTyp (zCno mi)) (zCl_ok h1).2.1 (zCl_ok h1).2.2.1 hown hK hP hD hS q he h1 j h3 (hts _ h4) (fun _ z => z) (((zCl_ok h1).2.2.2 j h3).symm.trans hfin) (hnm (by simpa using hini)) ((zCl_decl h1 j h3).trans (zCl_nm h1)) ((zCl_ok h1).2.1 j h3) hn9 hf9 (by rw [List.length_map]; exact hj) hd (fun H1 locs1 hP1 hD1 hS1 => ?_)
            exact k al H1 locs1 cells slots (zPre.refl _) (Nat.le_refl _) ⟨by rw [← hw]; exact hP1, by rw [← hw]; exact hD1, hS1⟩ (by rw [List.length_set]; exact hal) (zwA_set hwA) rfl rfl rfl
          · cases hk
        · cases hk
      · cases hk
    · cases hk
  · -- new
    split at hk
    · rename_i ci hv
      split at hk
      · rename_i hc
        obtain ⟨hc1, hc2, hc3, hc4, hc5⟩ := hc
        cases hk
        obtain ⟨T9, N, h1, g1, g2, g3⟩ := zNew_ok hv
        obtain ⟨hdl, hdf⟩ := zDef_ok h1
        replace hdl : (zDef ci).length = N := hdl
        unfold zwF at hc3
        rw [Bool.and_eq_true] at hc3
        rw [← hal] at hc3 hc4
        refine va_new hx hb hts (zCl_ok h1).1 (zTyp ci) (zCl_ok h1).2.1 hown (hts _ g1) (hts _ g2) (hts _ g3) hK hP hD hS hA h1 (fs := zDef ci) hdf (by omega) (by omega) hd (fun q H1 hP1 hD1 hS1 => ?_)
        have hw : wd (zad ex (al ++ [q])) cA (h ++ [.inr (ci, zDef ci)]) = wd (zad ex al) cA h ++ [(q, .inr (ci, zDef ci))] := by
          rw [wd_push hal.symm (by omega) hc4 hwA (by show Sum.inr _ = Sum.inr _; rw [zDef_map, zDef_map])]
          show _ ++ [(q, Sum.inr (ci, (zDef ci).map _))] = _
          rw [zDef_map]
        rw [← hw] at hP1 hD1
        have h9 := k (al ++ [q]) H1 locs (cells + 1) (slots + N) (zPre.push _ _) (by rw [List.length_append]; omega) ⟨hP1, hD1, hS1⟩ (by rw [List.length_append, List.length_append, hal]; rfl) (zwA_push hwA (fun _ _ _ hz => by cases hz)) (tl_pre (zPre.push _ _) hc3.1) (by omega) (by omega)
        rw [z_new_st hal hc5 hc3.2] at h9
        exact h9
      · cases hk
    · cases hk
  · -- newarray
    split at hk
    · rename_i a r
      split at hk
      · rename_i tn ty x0 hv
        split at hk
        · rename_i hc
          obtain ⟨hc0, hc1, hc2, hc3, hc4, hc5, hc6⟩ := hc
          cases hk
          obtain ⟨g1, g2, g3, g4, g5, g6, g7, g8⟩ := zArT_ok hv
          unfold zwF at hc4
          rw [Bool.and_eq_true] at hc4
          rw [← hal] at hc4 hc5
          refine va_newa hx hb (by rw [g1]; exact hts _ g3) g1 hK hP hD hS hA (a0 := (a.toNatClampNeg, x0)) (fun k => g4 _ k) hc0 rfl (Nat.le_trans (Nat.mul_le_mul hc1 g5) (by decide)) (by omega) (by omega) hd (fun q cX H1 hK1 hP1 hD1 hS1 => ?_)
          have e0 : cX = cA tn := z_cA g2 (hK1.2 4 (cX, ty) rfl).2 (hK.2 tn _ (g6 cA)).2
          subst e0
          have hw : wd (zad ex (al ++ [q])) cA (h ++ [.inl (tn, a.toNatClampNeg, x0)]) = wd (zad ex al) cA h ++ [(q, .inl (cA tn, a.toNatClampNeg, x0))] := by
            rw [wd_push hal.symm (by omega) hc5 hwA (by show Sum.inl (cA tn, tA _ _) = Sum.inl (cA tn, tA _ _); rw [g7, g7])]
            show _ ++ [(q, Sum.inl (cA tn, tA _ _))] = _
            rw [g7]
          rw [← hw] at hP1 hD1
          have h9 := k (al ++ [q]) H1 locs (cells + 1) (slots + a.toNatClampNeg) (zPre.push _ _) (by rw [List.length_append]; omega) ⟨hP1, hD1, hS1⟩ (by rw [List.length_append, List.length_append, hal]; rfl) (zwA_push hwA (fun _ _ f hz => by cases hz; exact absurd rfl (g8 f))) (tl_pre (zPre.push _ _) hc4.1) (by omega) (by omega)
          rw [z_new_st hal hc6 hc4.2] at h9
          exact h9
        · cases hk
      · cases hk
    · cases hk
  · -- anewarray
    split at hk
    · rename_i a r
      split at hk
      · rename_i hc
        obtain ⟨hcn, hc0, hc1, hc2, hc3, hc4, hc5, hc6⟩ := hc
        cases hk
        unfold zwF at hc4
        rw [Bool.and_eq_true] at hc4
        rw [← hal] at hc4 hc5
        refine va_newq hx hb hown (hts _ (zANew_ok hcn)) hAO hK hP hD hS hA hc0 rfl (Nat.le_trans (Nat.mul_le_mul_right 4 hc1) (by decide)) (by omega) (by omega) hd (fun q cX H1 hK1 hP1 hD1 hS1 => ?_)
        have e0 : cX = cA 3 := z_cAo (hK1.2 4 (cX, .object zRealN) rfl).2 (hK.2 3 (cA 3, .object zRealN) rfl).2
        subst e0
        have hw : wd (zad ex (al ++ [q])) cA (h ++ [.inl (3, a.toNatClampNeg, .inr (.inr (.inr (.inr (fun _ => none)))))]) = wd (zad ex al) cA h ++ [(q, .inl (cA 3, a.toNatClampNeg, .inr (.inr (.inr (.inr (fun _ => none))))))] := wd_push hal.symm (by omega) hc5 hwA rfl
        rw [← hw] at hP1 hD1
        have h9 := k (al ++ [q]) H1 locs (cells + 1) (slots + a.toNatClampNeg) (zPre.push _ _) (by rw [List.length_append]; omega) ⟨hP1, hD1, hS1⟩ (by rw [List.length_append, List.length_append, hal]; rfl) (zwA_push hwA (fun _ _ f hz i y hy => by cases hz; cases hy)) (tl_pre (zPre.push _ _) hc4.1) (by omega) (by omega)
        rw [z_new_st hal hc6 hc4.2] at h9
        exact h9
      · cases hk
    · cases hk
  · -- Object()
    split at hk
    · rename_i q r
      split at hk
      · rename_i hc
        obtain ⟨hc1, hc2, hc3⟩ := hc
        cases hk
        refine W.objInit hx hb hown (hts _ (zObj_ok hc1)) (hts _ zObj_i) (hts _ zObj_c) rfl (hml.trans hmx.symm) (rest := st'.map (tv (zad ex al))) rfl hd (by omega) ?_ ?_
        · have : (F0 m pc ls ((Value.ref q :: st').map (tv (zad ex al)))).monitorRoom = 0 := by simp [F0, JFrame.monitorRoom]
          rw [this, tv_sum]
          omega
        · exact k al H locs cells slots (zPre.refl _) (Nat.le_refl _) hI hal hwA rfl rfl rfl
      · cases hk
    · cases hk
  · cases hk
/-- a constructor's invoking instruction -/
theorem z_invI {cn x n a q : Nat} {y : ZM} {st r : List Value} {ad : Nat → Nat} (X : Stand p l e R s m args below meth c T locs cells slots) (hx : p.tables.exec = Jvm.exec) (hown : s.vm.findClass (zCn cn) = some m.cls) (hts : ∀ w ∈ zWs, w.before args s = true)
    (hd : decode c.code pc = .ok (.invokespecial x, n)) (hz : n = 3) (hc : zCalI cn x = some (y, a)) (hal : a ≤ st.length) (hr : st.drop a = .ref q :: r) :
    y ∈ zIni ∧ ∃ mk methk ck vm₁, s.methodNamed? (zNm y) = some mk ∧ s.vm.method? mk = some methk ∧ methk.code = some ck ∧ zM y s mk methk ck ∧ methk.name = "<init>" ∧ Stand p l e R s m args below meth c (T.setVm vm₁) locs cells slots ∧
      ∀ target, (∀ acts, Steps p.tables e below (doInvoke e ((T.setVm vm₁).setTop (F0 m pc ls (r.map (tv ad)))) acts mk ((Value.ref q :: (st.take a).reverse).map (tv ad)).toArray).1 target) → Steps p.tables e below (T.setTop (F0 m pc ls (st.map (tv ad)))) target := by
  subst hz
  obtain ⟨hy, hpl, hin, hlk⟩ := zCalI_ok hc
  obtain ⟨h1, -, hne, h2⟩ := zIni_ok y hy
  have hni := zIni_nm y hy
  have hpl' : e.platform.magicAccessors = ({} : Platform).magicAccessors := by rw [X.admits.platform]
  have h0 := zIni_hs y hy
  have hrt := zIni_rt y hy
  have hcode : (Jvm.Cond.code (zNm y) (zCode y) (zMl y) none).before args s = true := by
    rw [← hrt]
    exact hts _ h2
  have hlen : ∀ sig, parseMethodDescriptor (zNm y).desc = some sig → (((st.take a).reverse).map (tv ad)).length = sig.parameters.length := by
    intro sig hsig
    rw [hsig] at hpl
    rw [List.length_map, List.length_reverse, List.length_take, Nat.min_eq_left hal]
    exact (Option.some.inj hpl).symm
  have hstk : (F0 m pc ls (st.map (tv ad))).stack = (((st.take a).reverse).map (tv ad)).reverse ++ .ref (ad q) :: r.map (tv ad) := by
    show st.map (tv ad) = _
    rw [List.map_reverse, List.reverse_reverse]
    show st.map (tv ad) = (st.take a).map (tv ad) ++ (Value.ref q :: r).map (tv ad)
    rw [← hr, ← List.map_append, List.take_append_drop]
  refine ⟨hy, ?_⟩
  have fin : ∀ {tm : MethodId} {mth : Method} {cd : Code} {k9 : Class} {vm' : Vm}, s.methodNamed? (zNm y) = some tm → s.vm.method? tm = some mth → mth.code = some cd → s.WarmedH vm' →
      (∀ target, (∀ acts, Steps p.tables e below (doInvoke e ((T.setVm vm').setTop { (F0 m pc ls (st.map (tv ad))) with stack := r.map (tv ad) }) acts tm (Value.ref (ad q) :: ((st.take a).reverse).map (tv ad)).toArray).1 target) → Steps p.tables e below (T.setTop (F0 m pc ls (st.map (tv ad)))) target) →
      ∃ mk methk ck vm₁, s.methodNamed? (zNm y) = some mk ∧ s.vm.method? mk = some methk ∧ methk.code = some ck ∧ zM y s mk methk ck ∧ methk.name = "<init>" ∧ Stand p l e R s m args below meth c (T.setVm vm₁) locs cells slots ∧
        ∀ target, (∀ acts, Steps p.tables e below (doInvoke e ((T.setVm vm₁).setTop (F0 m pc ls (r.map (tv ad)))) acts mk ((Value.ref q :: (st.take a).reverse).map (tv ad)).toArray).1 target) → Steps p.tables e below (T.setTop (F0 m pc ls (st.map (tv ad)))) target := by
    intro tm mth cd k9 vm' e1 e2 e3 e4 e5
    obtain ⟨methk, ck, q1, q2, q3, q4, q5, q6, q7, q8⟩ := Cond.code_spec e1 hcode
    cases e2.symm.trans q1
    cases e3.symm.trans q2
    refine ⟨tm, mth, cd, vm', e1, e2, e3, ⟨by rw [← h1]; exact findClass_of_methodNamed e1, q3, q4, by rw [hrt]; exact q5, q6, ?_⟩, by rw [← hni]; exact (name_of_methodNamed e1 e2).1, X.noted e4, e5⟩
    have z0 : cd.exceptionTable.size = 0 := by simpa [Array.isEmpty] using q7
    have z9 : cd.exceptionTable.toList = [] := List.eq_nil_of_length_eq_zero (by simpa using z0)
    rw [z9, h0]
    rfl
  rcases hlk with hlk | ⟨host, hlk⟩
  · obtain ⟨tm, mth, cd, k9, vm', e1, e2, e3, -, -, -, -, -, e4, e5⟩ := Steps.initColdArgs (e := e) X.here hx X.warmed hpl' hown hni hne (hts _ hlk) (hts _ hin) hcode (f := F0 m pc ls (st.map (tv ad))) rfl hlen hstk hd
    exact fin (k9 := k9) e1 e2 e3 e4 e5
  · obtain ⟨tm, mth, cd, k9, vm', e1, e2, e3, -, -, -, -, -, e4, e5⟩ := Steps.initColdArgsNest (e := e) X.here hx X.warmed hpl' hown hni hne (hts _ hlk) (hts _ hin) hcode (f := F0 m pc ls (st.map (tv ad))) rfl hlen hstk hd
    exact fin (k9 := k9) e1 e2 e3 e4 e5
end ZB
end
section
/-! .. the whole of such a run -/
section ZD
variable {p : Program} {l : Launch} {e : Env} {D : va_G} {cA : Nat → ClassId} {L : Nat} {xs : Nat → Int32} {ex : Nat → Nat}
/-- the end of a constructor's walk -/
def zQB (D : va_G) (cA : Nat → ClassId) (ex : Nat → Nat) (al : List Nat) (A : Nat → Prop) (s : State) (below : List Frame) (h' : zH) (kc ks : Nat) : State → Prop := fun t =>
  t.status = .running ∧ s.WarmedH t.vm ∧ ∃ locs al', s.sameButNew ({ t with vm := s.vm } : State) locs kc ks ∧ zPre al al' ∧ al.length ≤ al'.length ∧ al'.length = h'.length ∧ zwA h' ∧ zI D (zad ex al') cA A s h' t.heap locs ∧ Ended t below (.returned none)
def zGoalB (p : Program) (l : Launch) (e : Env) (D : va_G) (cA : Nat → ClassId) (L : Nat) (xs : Nat → Int32) (ex : Nat → Nat) (stop : Option Nat) (d : Nat) (mi : ZM) (pc : Nat) (lv : zL) (st : List Value) (h : zH) (bc bs : Nat) (lv' : zL) (h' : zH) (bc' bs' : Nat) : Prop :=
  ∀ {R : Room} {s : State} {m : MethodId} {args : Array Value} {below : List Frame} {meth : Method} {c : Code} {H : Heap} {locs : List Loc} {cells slots : Nat} {ls : Array Slot} {A : Nat → Prop} {Q : State → Prop} {al : List Nat},
    (mi = m_law ∨ mi ∈ zIni) → zM mi s m meth c → ((zNm mi).name = "<init>" → meth.name = "<init>") → va_AO zRealN s → zS D (zad ex al) cA A L xs s args → zI D (zad ex al) cA A s h H locs → al.length = h.length → zwA h → lv_has ls (zMl mi) (tl (zad ex al) lv) → d ≤ R.frames → 30 * d + 90 ≤ R.locals → cells + bc ≤ R.cells → slots + bs ≤ R.slots →
    (∀ (al' : List Nat) (ls' : Array Slot) (H' : Heap) (locs' : List Loc) (pcE cells' slots' : Nat), (stop = some pcE ∨ (decode (zCode mi) pcE = .ok (.return_, 1) ∧ zRt mi = none)) → zPre al al' → al.length ≤ al'.length → zI D (zad ex al') cA A s h' H' locs' → al'.length = h'.length → zwA h' → lv_has ls' (zMl mi) (tl (zad ex al') lv') → cells' + bc' = cells + bc → slots' + bs' = slots + bs →
      W p l e R s m args below meth c H' locs' cells' slots' Q (F0 m pcE ls' [])) →
    W p l e R s m args below meth c H locs cells slots Q (F0 m pc ls (st.map (tv (zad ex al))))
theorem zmk_w {ini : Bool} {d cn n nL pc w bc bs bc' bs' : Nat} {i : Instr} {lv : zL} {st st' : List Value} {h h' : zH} (hz : zok nL pc i n = true) (hn : (∀ x, i = .new x → n = 3) ∧ (∀ t, i = .newarray t → n = 2) ∧ (∀ x, i = .anewarray x → n = 3) ∧ (∀ x, i = .invokespecial x → n = 3)) (hk : zmk ini d cn i lv st h bc bs = some (w, st', h', bc', bs')) : n = w := by
  unfold zmk at hk
  split at hk
  · obtain rfl : n = 3 := by simpa [zok] using hz
    repeat' (split at hk)
    all_goals cases hk
    rfl
  · have := hn.1 _ rfl
    repeat' (split at hk)
    all_goals cases hk
    exact this
  · have := hn.2.1 _ rfl
    repeat' (split at hk)
    all_goals cases hk
    exact this
  · have := hn.2.2.1 _ rfl
    repeat' (split at hk)
    all_goals cases hk
    exact this
  · have := hn.2.2.2 _ rfl
    repeat' (split at hk)
    all_goals cases hk
    exact this
  · cases hk
set_option maxHeartbeats 4000000 in
theorem simB (hx : p.tables.exec = Jvm.exec) : ∀ (n : Nat) (stop : Option Nat) (d : Nat) (mi : ZM) (pc : Nat) (lv : zL) (st : List Value) (h : zH) (bc bs : Nat) (lv' : zL) (h' : zH) (bc' bs' : Nat), zbld L xs n stop d mi pc lv st h bc bs = some (lv', h', bc', bs') → zGoalB p l e D cA L xs ex stop d mi pc lv st h bc bs lv' h' bc' bs' := by
  intro n
  induction n with
  | zero =>
    intro stop d mi pc lv st h bc bs lv' h' bc' bs' hr
    unfold zbld at hr
    cases hr
  | succ n ih =>
    intro stop d mi pc lv st h bc bs lv' h' bc' bs' hr R s m args below meth c H locs cells slots ls A Q al hmi hm hnm hAO hs hI hal hwA hl hRf hRl hRc hRs kend
    unfold zbld at hr
    split at hr
    · -- the stop
      rename_i hpc
      split at hr
      · cases hr
        exact kend al ls H locs pc cells slots (Or.inl hpc) (zPre.refl _) (Nat.le_refl _) hI hal hwA hl rfl rfl
      · cases hr
    · split at hr
      · cases hr
      · rename_i i nn hf
        obtain ⟨hd, hz⟩ := zfetchI hmi hf
        have hlens := zLens hmi hf
        split at hr
        · rename_i pc' lv2 st2 h1
          exact sim1 hx hm.2.1 hd hz h1 hl (fun ls' hl' => ih _ _ _ _ _ _ _ _ _ _ _ _ _ hr hmi hm hnm hAO hs hI hal hwA hl' hRf hRl hRc hRs kend)
        · split at hr
          · rename_i w st2 h2' h2
            obtain ⟨q1, q2⟩ := z2_len h2 hwA
            exact sim2 hx hm.2.1 hd hz hm.1 hs h2 hI (fun H' locs' hI' => ih _ _ _ _ _ _ _ _ _ _ _ _ _ hr hmi hm hnm hAO hs hI' (by rw [q1]; exact hal) q2 hl hRf hRl hRc hRs kend)
          · split at hr
            · rename_i w st2 h2' bc2 bs2 hk
              refine simM hx hm hd hl.1 hnm hAO hs hI hal hwA hk hRf hRl hRc hRs (zmk_w hz hlens hk) (fun al2 H' locs' cells' slots' g1 g2 g3 g4 g5 g6 g7 g8 => ?_)
              refine ih _ _ _ _ _ _ _ _ _ _ _ _ _ hr hmi hm hnm hAO (zS_al hs) g3 g4 g5 (by rw [g6]; exact hl) hRf hRl (by omega) (by omega) (fun al3 ls3 H3 locs3 pcE c3 s3 k1 k2 k3 k4 k5 k6 k7 k8 k9 => ?_)
              exact kend al3 ls3 H3 locs3 pcE c3 s3 k1 (g1.trans g2 k2) (Nat.le_trans g2 k3) k4 k5 k6 k7 (by omega) (by omega)
            · split at hr
              · -- return
                obtain rfl : nn = 1 := by simpa [zok] using hz
                split at hr
                · cases hr
                  exact kend al ls H locs pc cells slots (Or.inr ⟨hd, by assumption⟩) (zPre.refl _) (Nat.le_refl _) hI hal hwA hl rfl rfl
                · cases hr
              · -- a constructor's call
                rename_i x
                split at hr
                · cases hr
                · rename_i y a hc
                  split at hr
                  · cases hr
                  · rename_i d'
                    split at hr
                    · rename_i q r hdr
                      split at hr
                      · rename_i hcc
                        obtain ⟨hc1, hc2, hc3, hc4, hc5⟩ := hcc
                        split at hr
                        · cases hr
                        · rename_i lv1 h1 bc1 bs1 hr1
                          split at hr
                          · rename_i hbb
                            have hn3 : nn = 3 := hlens.2.2.2 _ rfl
                            intro T hT X
                            subst hT
                            have hb := hm.2.1
                            obtain ⟨hy, mk, methk, ck, vm₁, hn, q1, q2, hMy, hnmy, X₁, st₁⟩ := z_invI (ls := ls) (ad := zad ex al) X hx hm.1 hs.1 (by rw [hb]; exact hd) hn3 hc hc1 hdr
                            subst hn3
                            obtain ⟨hcy, hpn, -, -⟩ := zIni_ok y hy
                            have hsz : (F0 m pc ls (r.map (tv (zad ex al)))).locals.size = c.maxLocals := hl.1.trans hm.2.2.1.symm
                            have hmk : (T.setVm vm₁).vm.method? mk = some methk := X₁.warmed.methodAt q1
                            have hpk : (T.setVm vm₁).plainMethod mk := X₁.warmed.plainAt (U := T.setVm vm₁) (fun k9 hk9 => by
                              obtain ⟨k8, hk8, hn8⟩ := className_of_methodNamed hn
                              cases hk9.symm.trans hk8
                              rw [hn8]
                              exact hpn)
                            have hmr : (F0 m pc ls (r.map (tv (zad ex al)))).monitorRoom = 0 := by simp [F0, JFrame.monitorRoom]
                            generalize has : (Value.ref q :: (st.take a).reverse) = as at hr1 hc3 st₁
                            obtain ⟨Y, hin⟩ := X₁.into (g := F0 m pc ls (r.map (tv (zad ex al)))) rfl hsz (by rw [hb]; exact hd) (as.map (tv (zad ex al))).toArray (R' := { frames := d', cells := bc, slots := bs, locals := 30 * d' + 90 }) hmk q2 hMy.2.2.2.2.1 hpk
                              (show d' + 1 ≤ R.frames by omega) (by rw [hmr, tv_sum, hMy.2.2.1]; show 2 * 0 + _ + (zMl y + 11) + (30 * d' + 90) ≤ _; omega) (show cells + bc ≤ R.cells by omega) (show slots + bs ≤ R.slots by omega)
                            obtain ⟨hs', hI', hsub⟩ := zS_into (s' := (T.setVm vm₁).calling (F0 m pc ls (r.map (tv (zad ex al)))) mk (as.map (tv (zad ex al))).toArray) (a' := (as.map (tv (zad ex al))).toArray) hs hI X₁.warmed rfl
                            have hM' : zM y ((T.setVm vm₁).calling (F0 m pc ls (r.map (tv (zad ex al)))) mk (as.map (tv (zad ex al))).toArray) mk methk ck := ⟨by
                              show (T.setVm vm₁).vm.findClass _ = _
                              rw [X₁.warmed.alike.findClass]
                              exact hMy.1, hMy.2⟩
                            have hle := lv_entry (as.map (tv (zad ex al))) (n := zMl y) (by rw [lg_sl_len]; exact hc3)
                            rw [tl_args] at hle
                            have hW := ih _ _ _ _ _ _ _ _ _ _ _ _ _ hr1 (R := { frames := d', cells := bc, slots := bs, locals := 30 * d' + 90 }) (cells := 0) (slots := 0) (Q := zQB D cA ex al (va_A (wd (zad ex al) cA h) T.heap.size) ((T.setVm vm₁).calling (F0 m pc ls (r.map (tv (zad ex al)))) mk (as.map (tv (zad ex al))).toArray) (.java (F0 m pc ls (r.map (tv (zad ex al)))) :: below) h1 (bc - bc1) (bs - bs1))
                              (args := (as.map (tv (zad ex al))).toArray) (below := .java (F0 m pc ls (r.map (tv (zad ex al)))) :: below) (Or.inr hy) hM' (fun _ => hnmy) (va_AO.moved X₁.warmed.alike hAO) hs' hI' hal hwA hle (Nat.le_refl _) (Nat.le_refl _) (by rw [Nat.zero_add]; exact Nat.le_refl _) (by rw [Nat.zero_add]; exact Nat.le_refl _)
                              (fun al2 ls2 H2 locs2 pcE c2 s2 k1 k2 k3 k4 k5 k6 k7 k8 k9 => by
                                have k1' : decode (zCode y) pcE = .ok (.return_, 1) ∧ zRt y = none := by
                                  rcases k1 with k1 | k1
                                  · cases k1
                                  · exact k1
                                have z1 : bc - bc1 = c2 := by omega
                                have z2 : bs - bs1 = s2 := by omega
                                rw [z1, z2]
                                refine W.mono (Q := MQ (.java (F0 m pc ls (r.map (tv (zad ex al)))) :: below) (fun _ _ o' t => o' = .returned none ∧ t.heap = H2) (as.map (tv (zad ex al))).toArray ((T.setVm vm₁).calling (F0 m pc ls (r.map (tv (zad ex al)))) mk (as.map (tv (zad ex al))).toArray) c2 s2 (fun q => ∃ l9 ∈ locs2, l9.base = q)) (fun t ht => ?_) (W.vret hx hM'.2.1 (hM'.2.2.2.1.trans k1'.2) (fun t ht _ => ⟨rfl, ht⟩) (fun q hq => ⟨q, hq, rfl⟩) k1'.1 hM'.2.2.2.2.1)
                                obtain ⟨o', w1, w2, ⟨w3, w4⟩, L9, ⟨-, w5, w6⟩, w7⟩ := ht
                                subst w3
                                refine ⟨w1, w5, L9, al2, w6, k2, k3, k5, k6, ⟨by rw [w4]; exact k4.1, k4.2.1, by rw [w4]; exact k4.2.2.1, by rw [w4]; exact k4.2.2.2.1, fun q9 hq9 => ?_⟩, w2⟩
                                obtain ⟨l9, e1, e2⟩ := w7 q9 hq9
                                rw [← e2]
                                exact k4.2.2.2.2 l9 e1)
                            have e0 : entryFrame mk (as.map (tv (zad ex al))).toArray ck.maxLocals = F0 mk 0 ((lg_sl (as.map (tv (zad ex al))) ++ List.replicate (zMl y - (lg_sl (as.map (tv (zad ex al)))).length) Slot.unset).toArray) [] := by rw [hMy.2.2.1]; exact lg_entry_eq _ _ _
                            obtain ⟨t, a1, g1, g2, L1, al2, g3, g4, g4', g5, g6, g7, g8⟩ := hW (((T.setVm vm₁).setTop (F0 m pc ls (r.map (tv (zad ex al))))).pushFrame (.java (entryFrame mk (as.map (tv (zad ex al))).toArray ck.maxLocals))) rfl Y
                            obtain ⟨T', X', hW', -, ht⟩ := X₁.outOf (g := F0 m pc ls (r.map (tv (zad ex al)))) rfl (by rw [hb]; exact hd) g8 g2 g3
                            have hheap : T'.heap = t.heap := by rw [ht]; rfl
                            have hJ := zI_back2 hI rfl hsub g7
                            rw [← hheap] at hJ
                            unfold zwF at hc4
                            rw [Bool.and_eq_true] at hc4
                            rw [← hal] at hc4
                            have hgo := ih _ _ _ _ _ _ _ _ _ _ _ _ _ hr (ls := ls) (cells := cells + (bc - bc1)) (slots := slots + (bs - bs1)) hmi hm hnm hAO (zS_al (al' := al2) hs) hJ g5 g6 (by rw [tl_pre g4 hc4.1]; exact hl) hRf hRl (by omega) (by omega) (fun al3 ls3 H3 locs3 pcE c3 s3 k1 k2 k3 k4 k5 k6 k7 k8 k9 =>
                              kend al3 ls3 H3 locs3 pcE c3 s3 k1 (g4.trans g4' k2) (Nat.le_trans g4' k3) k4 k5 k6 k7 (by omega) (by omega))
                            obtain ⟨t3, st3, hq3⟩ := hgo T' rfl X'
                            refine ⟨t3, st₁ _ (fun acts => ?_), hq3⟩
                            rw [hin acts]
                            refine (z_weaken (b := t) (mid := [.java (F0 m pc ls (r.map (tv (zad ex al))))]) ?_).trans ?_
                            · rw [show F0 mk 0 ((lg_sl (as.map (tv (zad ex al))) ++ List.replicate (zMl y - (lg_sl (as.map (tv (zad ex al)))).length) Slot.unset).toArray) (List.map (tv (zad ex al)) []) = entryFrame mk (as.map (tv (zad ex al))).toArray ck.maxLocals from e0.symm] at a1
                              exact a1
                            · rw [ht]
                              rw [map_pre g4 hc4.2] at st3
                              exact st3
                          · cases hr
                      · cases hr
                    · cases hr
              · cases hr
end ZD
end
section
/-! The pure machine's own rows: 'from here the run ends with o, h'' -/
section ZP
variable {L : Nat} {xs : Nat → Int32}
theorem zrun_mono : ∀ (n d : Nat) (mi : ZM) (pc : Nat) (lv : zL) (st : List Value) (h : zH) (k : Nat) (r : zO × zH × Nat), zrun L xs n d mi pc lv st h k = some r → zrun L xs (n + 1) d mi pc lv st h k = some r := by
  intro n
  induction n with
  | zero =>
    intro d mi pc lv st h k r hr
    unfold zrun at hr
    cases hr
  | succ n ih =>
    intro d mi pc lv st h k r hr
    rw [zrun] at hr ⊢
    cases hf : zfetch mi pc with
    | none => rw [hf] at hr; cases hr
    | some q =>
      obtain ⟨i, nn⟩ := q
      rw [hf] at hr
      simp only [] at hr ⊢
      cases h1 : z1 pc i lv st with
      | some q => obtain ⟨a, b, c⟩ := q; rw [h1] at hr; simp only [] at hr ⊢; exact ih _ _ _ _ _ _ _ _ hr
      | none =>
        rw [h1] at hr
        simp only [] at hr ⊢
        cases h2 : z2 L xs (zCno mi) i st h with
        | some q => obtain ⟨a, b, c⟩ := q; rw [h2] at hr; simp only [] at hr ⊢; exact ih _ _ _ _ _ _ _ _ hr
        | none =>
          rw [h2] at hr
          simp only [] at hr ⊢
          cases hc : zcall (zCno mi) i st h with
          | none => rw [hc] at hr; exact hr
          | some q =>
            obtain ⟨y, as, rest⟩ := q
            rw [hc] at hr
            simp only [] at hr ⊢
            cases d with
            | zero => cases hr
            | succ d' =>
              simp only [] at hr ⊢
              by_cases hk : k + zKm y ≤ zKm mi
              · rw [if_pos hk] at hr ⊢
                cases hr1 : zrun L xs n d' y 0 (lv_args 0 as) [] h 0 with
                | none => rw [hr1] at hr; cases hr
                | some q =>
                  obtain ⟨o1, h1', k1⟩ := q
                  rw [hr1] at hr
                  rw [ih _ _ _ _ _ _ _ _ hr1]
                  cases o1 with
                  | inl v =>
                    simp only [] at hr ⊢
                    by_cases hk1 : k1 ≤ zKm y
                    · rw [if_pos hk1] at hr ⊢
                      exact ih _ _ _ _ _ _ _ _ hr
                    · rw [if_neg hk1] at hr; cases hr
                  | inr x =>
                    simp only [] at hr ⊢
                    by_cases hk1 : k1 ≤ zKm y
                    · rw [if_pos hk1] at hr ⊢
                      cases hh : zHs mi with
                      | nil => rw [hh] at hr; exact hr
                      | cons q qs =>
                        rw [hh] at hr
                        simp only [] at hr ⊢
                        cases hp : zHan mi pc x with
                        | none => rw [hp] at hr; cases hr
                        | some pcH =>
                          rw [hp] at hr
                          simp only [] at hr ⊢
                          split at hr
                          · exact ih _ _ _ _ _ _ _ _ hr
                          · exact ih _ _ _ _ _ _ _ _ hr
                          · cases hr
                    · rw [if_neg hk1] at hr; cases hr
              · rw [if_neg hk] at hr; cases hr
theorem zrun_le {n n' d : Nat} {mi : ZM} {pc : Nat} {lv : zL} {st : List Value} {h : zH} {k : Nat} {r : zO × zH × Nat} (hn : n ≤ n') (hr : zrun L xs n d mi pc lv st h k = some r) : zrun L xs n' d mi pc lv st h k = some r := by
  induction hn with
  | refl => exact hr
  | step _ ih => exact zrun_mono _ _ _ _ _ _ _ _ _ ih
/-- from here the run ends so -/
def zR (L : Nat) (xs : Nat → Int32) (d : Nat) (mi : ZM) (pc : Nat) (lv : zL) (st : List Value) (h : zH) (k : Nat) (o : zO) (h' : zH) (k' : Nat) : Prop := ∃ n, zrun L xs n d mi pc lv st h k = some (o, h', k')
/-- a call ends so -/
def zE (L : Nat) (xs : Nat → Int32) (d : Nat) (y : ZM) (as : List Value) (h : zH) (o : zO) (h' : zH) : Prop := ∃ k1, k1 ≤ zKm y ∧ zR L xs d y 0 (lv_args 0 as) [] h 0 o h' k1
variable {d : Nat} {mi : ZM} {pc nn : Nat} {i : Instr} {lv lv' : zL} {st st' : List Value} {h h1 h' : zH} {k k' : Nat} {o : zO} {pc' : Nat}
theorem zR_s (hf : zfetch mi pc = some (i, nn)) (h1 : z1 pc i lv st = some (pc', lv', st')) (hR : zR L xs d mi pc' lv' st' h k o h' k') : zR L xs d mi pc lv st h k o h' k' := by
  obtain ⟨n, hn⟩ := hR
  refine ⟨n + 1, ?_⟩
  rw [zrun, hf]
  simp only [h1]
  exact hn
theorem zR_h {w : Nat} (hf : zfetch mi pc = some (i, nn)) (hn1 : z1 pc i lv st = none) (h2 : z2 L xs (zCno mi) i st h = some (w, st', h1)) (hw : pc + w = pc') (hR : zR L xs d mi pc' lv st' h1 k o h' k') : zR L xs d mi pc lv st h k o h' k' := by
  subst hw
  obtain ⟨n, hn⟩ := hR
  refine ⟨n + 1, ?_⟩
  rw [zrun, hf]
  simp only [hn1, h2]
  exact hn
theorem zR_c {y : ZM} {as rest : List Value} {v : Option Value} {k1 : Nat} (hf : zfetch mi pc = some (i, nn)) (hn1 : z1 pc i lv st = none) (hn2 : z2 L xs (zCno mi) i st h = none) (hc : zcall (zCno mi) i st h = some (y, as, rest)) (hk : k + zKm y = k1) (hk1 : k1 ≤ zKm mi) (hw : pc + 3 = pc') (hC : zE L xs d y as h (.inl v) h1)
    (hs : v.toList ++ rest = st') (hR : zR L xs (d + 1) mi pc' lv st' h1 k1 o h' k') : zR L xs (d + 1) mi pc lv st h k o h' k' := by
  subst hk; subst hw; subst hs
  obtain ⟨n, hn⟩ := hR
  obtain ⟨j, hj, n2, hn2'⟩ := hC
  refine ⟨max n n2 + 1, ?_⟩
  rw [zrun, hf]
  simp only [hn1, hn2, hc]
  rw [if_pos hk1, zrun_le (Nat.le_max_right n n2) hn2']
  simp only []
  rw [if_pos hj]
  exact zrun_le (Nat.le_max_left n n2) hn
/-- a call that throws, in a method without handlers -/
theorem zR_ct {y : ZM} {x : Nat} {as rest : List Value} (hf : zfetch mi pc = some (i, nn)) (hn1 : z1 pc i lv st = none) (hn2 : z2 L xs (zCno mi) i st h = none) (hc : zcall (zCno mi) i st h = some (y, as, rest)) (hk1 : k + zKm y ≤ zKm mi) (hC : zE L xs d y as h (.inr x) h1) (hh : zHs mi = []) : zR L xs (d + 1) mi pc lv st h k (.inr x) h1 (k + zKm y) := by
  obtain ⟨j, hj, n2, hn2'⟩ := hC
  refine ⟨n2 + 1, ?_⟩
  rw [zrun, hf]
  simp only [hn1, hn2, hc]
  rw [if_pos hk1, hn2']
  simp only []
  rw [if_pos hj, hh]
/-- a call that throws, caught -/
theorem zR_cc {y : ZM} {x hp j nj : Nat} {as rest : List Value} (hf : zfetch mi pc = some (i, nn)) (hn1 : z1 pc i lv st = none) (hn2 : z2 L xs (zCno mi) i st h = none) (hc : zcall (zCno mi) i st h = some (y, as, rest)) (hk1 : k + zKm y ≤ zKm mi) (hC : zE L xs d y as h (.inr x) h1) (hh : (zHs mi).isEmpty = false) (hH : zHan mi pc x = some hp) (hfj : zfetch mi hp = some (.astore j, nj))
    (hR : zR L xs (d + 1) mi (hp + 2) (zdrop1 j lv) [] h1 (k + zKm y) o h' k') : zR L xs (d + 1) mi pc lv st h k o h' k' := by
  obtain ⟨n, hn⟩ := hR
  obtain ⟨j9, hj, n2, hn2'⟩ := hC
  refine ⟨max n n2 + 1, ?_⟩
  rw [zrun, hf]
  simp only [hn1, hn2, hc]
  rw [if_pos hk1, zrun_le (Nat.le_max_right n n2) hn2']
  simp only []
  rw [if_pos hj]
  cases hz : zHs mi with
  | nil => rw [hz] at hh; cases hh
  | cons q qs =>
    simp only [hH, hfj]
    exact zrun_le (Nat.le_max_left n n2) hn
theorem zR_cn {y : ZM} {x hp nj : Nat} {j : Fin 4} {as rest : List Value} (hf : zfetch mi pc = some (i, nn)) (hn1 : z1 pc i lv st = none) (hn2 : z2 L xs (zCno mi) i st h = none) (hc : zcall (zCno mi) i st h = some (y, as, rest)) (hk1 : k + zKm y ≤ zKm mi) (hC : zE L xs d y as h (.inr x) h1) (hh : (zHs mi).isEmpty = false) (hH : zHan mi pc x = some hp) (hfj : zfetch mi hp = some (.astore_n j, nj))
    (hR : zR L xs (d + 1) mi (hp + 1) (zdrop1 j lv) [] h1 (k + zKm y) o h' k') : zR L xs (d + 1) mi pc lv st h k o h' k' := by
  obtain ⟨n, hn⟩ := hR
  obtain ⟨j9, hj, n2, hn2'⟩ := hC
  refine ⟨max n n2 + 1, ?_⟩
  rw [zrun, hf]
  simp only [hn1, hn2, hc]
  rw [if_pos hk1, zrun_le (Nat.le_max_right n n2) hn2']
  simp only []
  rw [if_pos hj]
  cases hz : zHs mi with
  | nil => rw [hz] at hh; cases hh
  | cons q qs =>
    simp only [hH, hfj]
    exact zrun_le (Nat.le_max_left n n2) hn
theorem zR_r {v : Option Value} (hf : zfetch mi pc = some (i, nn)) (hn1 : z1 pc i lv st = none) (hn2 : z2 L xs (zCno mi) i st h = none) (hc : zcall (zCno mi) i st h = none) (hr : zret3 mi i st = some v) : zR L xs d mi pc lv st h k (.inl v) h k := by
  refine ⟨1, ?_⟩
  rw [zrun, hf]
  simp only [hn1, hn2, hc, hr]
theorem zR_t {x : Nat} (hf : zfetch mi pc = some (i, nn)) (hn1 : z1 pc i lv st = none) (hn2 : z2 L xs (zCno mi) i st h = none) (hc : zcall (zCno mi) i st h = none) (hr : zret3 mi i st = none) (ht : zThr mi pc = some x) (hk : k + 1 ≤ zKm mi ∧ st = [] ∧ 6 ≤ d) : zR L xs d mi pc lv st h k (.inr x) h (k + 1) := by
  refine ⟨1, ?_⟩
  rw [zrun, hf]
  simp only [hn1, hn2, hc, hr, ht]
  rw [if_pos hk]
/-- a branch -/
theorem zR_if {P : Prop} [Decidable P] {a b : Nat} (ht : P → zR L xs d mi a lv st h k o h' k') (hf : ¬ P → zR L xs d mi b lv st h k o h' k') : zR L xs d mi (if P then a else b) lv st h k o h' k' := by
  by_cases hP : P
  · rw [if_pos hP]; exact ht hP
  · rw [if_neg hP]; exact hf hP
/-! many instructions of locals and stack at once -/
def zst (mi : ZM) : Nat → Nat → zL → List Value → Option (Nat × zL × List Value)
  | 0, pc, lv, st => some (pc, lv, st)
  | n + 1, pc, lv, st => match zfetch mi pc with
    | some (i, _) => (match z1 pc i lv st with
      | some (pc', lv', st') => zst mi n pc' lv' st'
      | none => none)
    | none => none
theorem zR_n : ∀ (n : Nat) {pc : Nat} {lv : zL} {st : List Value}, zst mi n pc lv st = some (pc', lv', st') → zR L xs d mi pc' lv' st' h k o h' k' → zR L xs d mi pc lv st h k o h' k'
  | 0, pc, lv, st, h0, hR => by
    unfold zst at h0
    cases h0
    exact hR
  | n + 1, pc, lv, st, h0, hR => by
    unfold zst at h0
    split at h0
    · rename_i i nn hf
      split at h0
      · rename_i a b c h1
        exact zR_s hf h1 (zR_n n h0 hR)
      · cases h0
    · cases h0
end ZP
end
section
/-! Rows for heap and calls with what is known of the cells -/
def bI (b : Bool) : Int32 := match b with
  | true => 1
  | false => 0
theorem gs {h : zH} {k : Nat} {c C : zC} (hk : h[k]? = some c) : (h.set k C)[k]? = some C := by
  have h1 := (List.getElem?_eq_some_iff.mp hk).1
  rw [List.getElem?_set_self h1]
theorem gn {h : zH} {k j : Nat} {c C : zC} (hne : k ≠ j) (hj : h[j]? = some c) : (h.set k C)[j]? = some c := by
  rw [List.getElem?_set_ne hne]
  exact hj
theorem gself {h : zH} {k : Nat} {c : zC} (hk : h[k]? = some c) : h.set k c = h := by
  apply List.ext_getElem?
  intro i
  by_cases hi : k = i
  · subst hi
    rw [gs hk, hk]
  · rw [List.getElem?_set_ne hi]
section ZV
variable {L : Nat} {xs : Nat → Int32} {d : Nat} {mi : ZM} {pc : Nat} {lv : zL} {st st' r : List Value} {h h1 h' : zH} {k k' k1 : Nat} {o : zO} {pc' : Nat}
theorem zR_g {x ci j q : Nat} {fs : List Value} {v : Value} (hf : zfetch mi pc = some (.getfield x, 3)) (hx : zFld (zCno mi) x = some (ci, j)) (hk : h[q]? = some (.inr (ci, fs))) (hv : fs[j]? = some v) (hp : pc + 3 = pc') (hR : zR L xs d mi pc' lv (v :: r) h k o h' k') : zR L xs d mi pc lv (.ref q :: r) h k o h' k' :=
  zR_h hf rfl (by simp only [z2, hx, hk, hv, if_true]) hp hR
theorem zR_p {x ci j q : Nat} {fs fs' : List Value} {v : Value} (hf : zfetch mi pc = some (.putfield x, 3)) (hx : zFld (zCno mi) x = some (ci, j)) (hk : h[q]? = some (.inr (ci, fs))) (hj : j < fs.length) (hv : zput ci j v = true) (hfs : fs.set j v = fs') (hp : pc + 3 = pc') (hR : zR L xs d mi pc' lv r (h.set q (.inr (ci, fs'))) k o h' k') : zR L xs d mi pc lv (v :: .ref q :: r) h k o h' k' := by
  subst hfs
  exact zR_h hf rfl (by simp only [z2, hx, hk]; rw [if_pos ⟨trivial, hj, hv⟩]) hp hR
theorem zR_ia {q N : Nat} {a : Int32} {f : Nat → Int32} {v : Int32} (hf : zfetch mi pc = some (.iaload, 1)) (hn : zEx L xs q = none) (hk : h[q]? = some (.inl (0, N, .inl f))) (hi : 0 ≤ a.toInt ∧ a.toInt < N) (hv : f a.toNatClampNeg = v) (hp : pc + 1 = pc') (hR : zR L xs d mi pc' lv (.int v :: r) h k o h' k') : zR L xs d mi pc lv (.int a :: .ref q :: r) h k o h' k' := by
  subst hv
  exact zR_h hf rfl (by simp only [z2, hn, hk]; rw [if_pos hi]) hp hR
theorem zR_xa {q N : Nat} {a : Int32} {f : Nat → Int32} {v : Int32} (hf : zfetch mi pc = some (.iaload, 1)) (hn : zEx L xs q = some (N, f)) (hi : 0 ≤ a.toInt ∧ a.toInt < N) (hv : f a.toNatClampNeg = v) (hp : pc + 1 = pc') (hR : zR L xs d mi pc' lv (.int v :: r) h k o h' k') : zR L xs d mi pc lv (.int a :: .ref q :: r) h k o h' k' := by
  subst hv
  exact zR_h hf rfl (by simp only [z2, hn]; rw [if_pos hi]) hp hR
theorem zR_la {q N : Nat} {a : Int32} {f : Nat → Int64} {v : Int64} (hf : zfetch mi pc = some (.laload, 1)) (hk : h[q]? = some (.inl (1, N, .inr (.inl f)))) (hi : 0 ≤ a.toInt ∧ a.toInt < N) (hv : f a.toNatClampNeg = v) (hp : pc + 1 = pc') (hR : zR L xs d mi pc' lv (.long v :: r) h k o h' k') : zR L xs d mi pc lv (.int a :: .ref q :: r) h k o h' k' := by
  subst hv
  exact zR_h hf rfl (by simp only [z2, hk]; rw [if_pos hi]) hp hR
theorem zR_ba {q N : Nat} {a : Int32} {f : Nat → Int32} {v : Int32} (hf : zfetch mi pc = some (.baload, 1)) (hk : h[q]? = some (.inl (2, N, .inl f))) (hi : 0 ≤ a.toInt ∧ a.toInt < N) (hv : f a.toNatClampNeg = v) (hp : pc + 1 = pc') (hR : zR L xs d mi pc' lv (.int v :: r) h k o h' k') : zR L xs d mi pc lv (.int a :: .ref q :: r) h k o h' k' := by
  subst hv
  exact zR_h hf rfl (by simp only [z2, hk]; rw [if_pos hi]) hp hR
theorem zR_aa {q N y : Nat} {a : Int32} {f : Nat → Option Nat} (hf : zfetch mi pc = some (.aaload, 1)) (hk : h[q]? = some (.inl (3, N, .inr (.inr (.inr (.inr f)))))) (hi : 0 ≤ a.toInt ∧ a.toInt < N) (hv : f a.toNatClampNeg = some y) (hp : pc + 1 = pc') (hR : zR L xs d mi pc' lv (.ref y :: r) h k o h' k') : zR L xs d mi pc lv (.int a :: .ref q :: r) h k o h' k' :=
  zR_h hf rfl (by simp only [z2, hk]; rw [if_pos hi]; simp only [hv]) hp hR
theorem zR_is {q N : Nat} {a v : Int32} {f : Nat → Int32} (hf : zfetch mi pc = some (.iastore, 1)) (hk : h[q]? = some (.inl (0, N, .inl f))) (hi : 0 ≤ a.toInt ∧ a.toInt < N) (hp : pc + 1 = pc') (hR : zR L xs d mi pc' lv r (h.set q (.inl (0, N, .inl (upd f a.toNatClampNeg v)))) k o h' k') : zR L xs d mi pc lv (.int v :: .int a :: .ref q :: r) h k o h' k' :=
  zR_h hf rfl (by simp only [z2, hk]; rw [if_pos hi]) hp hR
theorem zR_ls {q N : Nat} {a : Int32} {v : Int64} {f : Nat → Int64} (hf : zfetch mi pc = some (.lastore, 1)) (hk : h[q]? = some (.inl (1, N, .inr (.inl f)))) (hi : 0 ≤ a.toInt ∧ a.toInt < N) (hp : pc + 1 = pc') (hR : zR L xs d mi pc' lv r (h.set q (.inl (1, N, .inr (.inl (vp_updL f a.toNatClampNeg v))))) k o h' k') : zR L xs d mi pc lv (.long v :: .int a :: .ref q :: r) h k o h' k' :=
  zR_h hf rfl (by simp only [z2, hk]; rw [if_pos hi]) hp hR
theorem zR_bs {q N : Nat} {a v : Int32} {f : Nat → Int32} (hf : zfetch mi pc = some (.bastore, 1)) (hk : h[q]? = some (.inl (2, N, .inl f))) (hi : 0 ≤ a.toInt ∧ a.toInt < N) (hp : pc + 1 = pc') (hR : zR L xs d mi pc' lv r (h.set q (.inl (2, N, .inl (upd f a.toNatClampNeg (vp_nar .boolean v))))) k o h' k') : zR L xs d mi pc lv (.int v :: .int a :: .ref q :: r) h k o h' k' :=
  zR_h hf rfl (by simp only [z2, hk]; rw [if_pos hi]) hp hR
theorem zR_as {q N v : Nat} {a : Int32} {f : Nat → Option Nat} {fs : List Value} (hf : zfetch mi pc = some (.aastore, 1)) (hk : h[q]? = some (.inl (3, N, .inr (.inr (.inr (.inr f)))))) (hv : h[v]? = some (.inr (zReal, fs))) (hi : 0 ≤ a.toInt ∧ a.toInt < N) (hp : pc + 1 = pc') (hR : zR L xs d mi pc' lv r (h.set q (.inl (3, N, .inr (.inr (.inr (.inr (va_up f a.toNatClampNeg (some v)))))))) k o h' k') : zR L xs d mi pc lv (.ref v :: .int a :: .ref q :: r) h k o h' k' :=
  zR_h hf rfl (by simp only [z2, hk, hv]; rw [if_pos ⟨trivial, hi⟩]) hp hR
/-- a call of an instance method that returns -/
theorem zR_v {x a q ci : Nat} {y : ZM} {as fs : List Value} {v : Option Value} (hf : zfetch mi pc = some (.invokevirtual x, 3)) (hx : zCalV (zCno mi) x = some (y, a)) (hd : st.drop a = .ref q :: r) (ha : (.ref q :: (st.take a).reverse) = as) (hk : h[q]? = some (.inr (ci, fs)))
    (hc : ci = zCno y ∧ (r.map fun v => v.category).sum + zMl y ≤ 19 ∧ ((Value.ref q :: (st.take a).reverse).map fun v => v.category).sum ≤ zMl y) (hkk : k + zKm y = k1) (hk1 : k1 ≤ zKm mi) (hC : zE L xs d y as h (.inl v) h1) (hs : v.toList ++ r = st') (hp : pc + 3 = pc') (hR : zR L xs (d + 1) mi pc' lv st' h1 k1 o h' k') : zR L xs (d + 1) mi pc lv st h k o h' k' := by
  subst ha
  exact zR_c hf rfl rfl (by simp only [zcall, hx, hd, hk]; rw [if_pos hc]) hkk hk1 hp hC hs hR
/-- .. of a static one -/
theorem zR_i {x a : Nat} {y : ZM} {as : List Value} {v : Option Value} (hf : zfetch mi pc = some (.invokestatic x, 3)) (hx : zCalS (zCno mi) x = some (y, a)) (hd : st.drop a = r) (ha : (st.take a).reverse = as)
    (hc : a ≤ st.length ∧ (r.map fun v => v.category).sum + zMl y ≤ 19 ∧ (as.map fun v => v.category).sum ≤ zMl y) (hkk : k + zKm y = k1) (hk1 : k1 ≤ zKm mi) (hC : zE L xs d y as h (.inl v) h1) (hs : v.toList ++ r = st') (hp : pc + 3 = pc') (hR : zR L xs (d + 1) mi pc' lv st' h1 k1 o h' k') : zR L xs (d + 1) mi pc lv st h k o h' k' := by
  subst ha
  subst hd
  exact zR_c hf rfl rfl (by simp only [zcall, hx]; rw [if_pos hc]) hkk hk1 hp hC hs hR
/-- a return, the heap in another form -/
theorem zR_e {v : Option Value} {i : Instr} {nn : Nat} (hf : zfetch mi pc = some (i, nn)) (hn1 : z1 pc i lv st = none) (hn2 : z2 L xs (zCno mi) i st h = none) (hc : zcall (zCno mi) i st h = none) (hr : zret3 mi i st = some v) (hh : h = h') : zR L xs d mi pc lv st h k (.inl v) h' k := by
  subst hh
  exact zR_r hf hn1 hn2 hc hr
end ZV
end
section
/-! The run depends on what the locals say, not on their order -/
def zNod : zL → Bool
  | [] => true
  | q :: r => r.all (fun p => !(p.1 == q.1)) && zNod r
def zSub (lv lv' : zL) : Prop := ∀ j v, zget lv j = some v → zget lv' j = some v
def zSubL : zL → zL → Prop
  | [], _ => True
  | q :: r, lv' => zget lv' q.1 = some q.2 ∧ zSubL r lv'
theorem zget_cons (q : Nat × Value) (r : zL) (j : Nat) : zget (q :: r) j = if q.1 = j then some q.2 else zget r j := by
  unfold zget
  rw [List.find?_cons]
  by_cases h : q.1 = j
  · rw [if_pos h, show (q.1 == j) = true by simpa using h]; rfl
  · rw [if_neg h, show (q.1 == j) = false by simpa using h]
theorem zSubL_sub : ∀ {lv lv' : zL}, zSubL lv lv' → zSub lv lv'
  | [], _, _ => fun j v h => by cases h
  | q :: r, lv', h => fun j v hv => by
    rw [zget_cons] at hv
    split at hv
    · rename_i hq
      cases hv
      rw [← hq]
      exact h.1
    · exact zSubL_sub h.2 j v hv
theorem zNod_mem : ∀ {lv : zL} {j : Nat} {v : Value}, zNod lv = true → (j, v) ∈ lv → zget lv j = some v
  | [], _, _, _, h => by cases h
  | q :: r, j, v, hn, h => by
    unfold zNod at hn
    rw [Bool.and_eq_true] at hn
    rw [zget_cons]
    rcases List.mem_cons.mp h with h | h
    · rw [← h, if_pos rfl]
    · have := List.all_eq_true.mp hn.1 _ h
      rw [if_neg (by intro h9; simp [h9] at this)]
      exact zNod_mem hn.2 h
theorem zNod_filter (P : Nat × Value → Bool) : ∀ {lv : zL}, zNod lv = true → zNod (lv.filter P) = true
  | [], _ => rfl
  | q :: r, hn => by
    unfold zNod at hn
    rw [Bool.and_eq_true] at hn
    rw [List.filter_cons]
    split
    · unfold zNod
      rw [Bool.and_eq_true]
      refine ⟨List.all_eq_true.mpr (fun p hp => List.all_eq_true.mp hn.1 p (List.mem_filter.mp hp).1), zNod_filter P hn.2⟩
    · exact zNod_filter P hn.2
theorem zget_filter (P : Nat × Value → Bool) : ∀ {lv : zL} {j : Nat} {v : Value}, zget lv j = some v → P (j, v) = true → zget (lv.filter P) j = some v
  | [], _, _, h, _ => by cases h
  | q :: r, j, v, h, hP => by
    rw [zget_cons] at h
    rw [List.filter_cons]
    split at h
    · rename_i hq
      cases h
      rw [show q = (j, q.2) from by rw [← hq], if_pos hP, zget_cons, if_pos rfl]
    · rename_i hq
      split
      · rw [zget_cons, if_neg hq]
        exact zget_filter P h hP
      · exact zget_filter P h hP
theorem zSub_st (P : Nat × Value → Bool) {lv lv' : zL} {a : Nat} {v : Value} (hn : zNod lv = true) (hs : zSub lv lv') (hP : ∀ w, P (a, w) = false) : zSub ((a, v) :: lv.filter P) ((a, v) :: lv'.filter P) ∧ zNod ((a, v) :: lv.filter P) = true := by
  constructor
  · intro j w hw
    rw [zget_cons] at hw ⊢
    split at hw
    · rename_i hq
      rw [if_pos hq]
      exact hw
    · rename_i hq
      rw [if_neg hq]
      have h1 := zget_mem hw
      obtain ⟨h2, h3⟩ := List.mem_filter.mp h1
      exact zget_filter P (hs j w (zNod_mem hn h2)) h3
  · unfold zNod
    rw [Bool.and_eq_true]
    refine ⟨List.all_eq_true.mpr (fun p hp => ?_), zNod_filter P hn⟩
    obtain ⟨h2, h3⟩ := List.mem_filter.mp hp
    cases hpa : p.1 == a with
    | false => rfl
    | true =>
      have : p = (a, p.2) := by rw [← show p.1 = a by simpa using hpa]
      rw [this, hP] at h3
      cases h3
theorem zSub_1 {lv lv' : zL} {a : Nat} {v : Value} (hn : zNod lv = true) (hs : zSub lv lv') : zSub ((a, v) :: zdrop1 a lv) ((a, v) :: zdrop1 a lv') ∧ zNod ((a, v) :: zdrop1 a lv) = true := zSub_st _ hn hs (fun w => by simp)
theorem zSub_2 {lv lv' : zL} {a : Nat} {v : Value} (hn : zNod lv = true) (hs : zSub lv lv') : zSub ((a, v) :: zdrop2 a lv) ((a, v) :: zdrop2 a lv') ∧ zNod ((a, v) :: zdrop2 a lv) = true := zSub_st _ hn hs (fun w => by simp)
theorem zSub_d {lv lv' : zL} {a : Nat} (hn : zNod lv = true) (hs : zSub lv lv') : zSub (zdrop1 a lv) (zdrop1 a lv') ∧ zNod (zdrop1 a lv) = true := by
  refine ⟨fun j w hw => ?_, zNod_filter _ hn⟩
  have h1 := zget_mem hw
  obtain ⟨h2, h3⟩ := List.mem_filter.mp h1
  exact zget_filter _ (hs j w (zNod_mem hn h2)) h3
/-- does the instruction look at the locals? -/
def zloc (i : Instr) : Bool := match i with
  | .iload_n _ | .iload _ | .lload_n _ | .lload _ | .aload_n _ | .aload _ | .istore_n _ | .istore _ | .lstore_n _ | .lstore _ | .astore_n _ | .astore _ | .iinc _ _ => true
  | _ => false
set_option maxHeartbeats 4000000 in
theorem z1_free {pc : Nat} {i : Instr} {lv lv' : zL} {st : List Value} (h : zloc i = false) : z1 pc i lv' st = (z1 pc i lv st).map (fun q => (q.1, lv', q.2.2)) := by
  unfold z1
  split <;> first
    | (cases h; done)
    | rfl
    | (repeat' split) <;> first | rfl | simp_all
set_option maxHeartbeats 4000000 in
theorem z1_free2 {pc pc' : Nat} {i : Instr} {lv lv1 : zL} {st st' : List Value} (h : zloc i = false) (h1 : z1 pc i lv st = some (pc', lv1, st')) : lv1 = lv := by
  have h2 := z1_free (pc := pc) (lv := lv) (lv' := lv) (st := st) h
  rw [h1] at h2
  exact congrArg (fun q : Nat × zL × List Value => q.2.1) (Option.some.inj h2)
theorem z1_sub {pc pc' : Nat} {i : Instr} {lv lv' lv1 : zL} {st st' : List Value} (hn : zNod lv = true) (hs : zSub lv lv') (h1 : z1 pc i lv st = some (pc', lv1, st')) : ∃ lv1', z1 pc i lv' st = some (pc', lv1', st') ∧ zSub lv1 lv1' ∧ zNod lv1 = true := by
  cases hz : zloc i with
  | false =>
    have e := z1_free2 hz h1
    subst e
    refine ⟨lv', ?_, hs, hn⟩
    rw [z1_free (lv := lv1) (lv' := lv') hz, h1]
    rfl
  | true =>
    unfold zloc at hz
    split at hz
    all_goals first | (cases hz; done) | skip
    all_goals simp only [z1] at h1 ⊢
    all_goals (split at h1)
    all_goals first | (cases h1; done) | skip
    all_goals first
      | (rename_i hg; rw [hs _ _ hg]; simp only [] at h1 ⊢; cases h1; first | exact ⟨_, rfl, hs, hn⟩ | exact ⟨_, rfl, zSub_1 hn hs⟩)
      | (cases h1; first | exact ⟨_, rfl, zSub_1 hn hs⟩ | exact ⟨_, rfl, zSub_2 hn hs⟩)
theorem z1_none {L : Nat} {xs : Nat → Int32} {cn pc : Nat} {i : Instr} {lv : zL} {st : List Value} {h : zH} {mi : ZM} (hz : zloc i = true) : z2 L xs cn i st h = none ∧ zcall cn i st h = none ∧ zret3 mi i st = none := by
  unfold zloc at hz
  split at hz
  all_goals first | (cases hz; done) | exact ⟨rfl, rfl, rfl⟩
/-- the throws stand at no instruction of locals -/
def zTl (mi : ZM) : Prop := ∀ pc i n, zfetch mi pc = some (i, n) → zloc i = true → zThr mi pc = none
theorem zrun_sub {L : Nat} {xs : Nat → Int32} : ∀ (n d : Nat) (mi : ZM) (pc : Nat) (lv lv' : zL) (st : List Value) (h : zH) (k : Nat) (r : zO × zH × Nat), zTl mi → zNod lv = true → zSub lv lv' → zrun L xs n d mi pc lv st h k = some r → zrun L xs n d mi pc lv' st h k = some r := by
  intro n
  induction n with
  | zero =>
    intro d mi pc lv lv' st h k r _ _ _ hr
    unfold zrun at hr
    cases hr
  | succ n ih =>
    intro d mi pc lv lv' st h k r hT hn hs hr
    rw [zrun] at hr ⊢
    cases hf : zfetch mi pc with
    | none => rw [hf] at hr; cases hr
    | some q =>
      obtain ⟨i, nn⟩ := q
      rw [hf] at hr
      simp only [] at hr ⊢
      cases h1 : z1 pc i lv st with
      | some q =>
        obtain ⟨a, b, c⟩ := q
        obtain ⟨b', e1, e2, e3⟩ := z1_sub hn hs h1
        rw [h1] at hr
        rw [e1]
        simp only [] at hr ⊢
        exact ih _ _ _ _ _ _ _ _ _ hT e3 e2 hr
      | none =>
        rw [h1] at hr
        cases hz : zloc i with
        | true =>
          obtain ⟨e1, e2, e3⟩ := z1_none (L := L) (xs := xs) (cn := zCno mi) (pc := pc) (lv := lv) (st := st) (h := h) (mi := mi) hz
          simp only [e1, e2, e3, hT pc i nn hf hz] at hr
          cases hr
        | false =>
          rw [z1_free (lv := lv) (lv' := lv') hz, h1]
          simp only [Option.map_none] at hr ⊢
          cases h2 : z2 L xs (zCno mi) i st h with
          | some q => obtain ⟨a, b, c⟩ := q; rw [h2] at hr; simp only [] at hr ⊢; exact ih _ _ _ _ _ _ _ _ _ hT hn hs hr
          | none =>
            rw [h2] at hr
            simp only [] at hr ⊢
            cases hc : zcall (zCno mi) i st h with
            | none => rw [hc] at hr; exact hr
            | some q =>
              obtain ⟨y, as, rest⟩ := q
              rw [hc] at hr
              simp only [] at hr ⊢
              cases d with
              | zero => cases hr
              | succ d' =>
                simp only [] at hr ⊢
                by_cases hk : k + zKm y ≤ zKm mi
                · rw [if_pos hk] at hr ⊢
                  cases hr1 : zrun L xs n d' y 0 (lv_args 0 as) [] h 0 with
                  | none => rw [hr1] at hr; cases hr
                  | some q =>
                    obtain ⟨o1, h1', k1⟩ := q
                    rw [hr1] at hr
                    cases o1 with
                    | inl v =>
                      simp only [] at hr ⊢
                      by_cases hk1 : k1 ≤ zKm y
                      · rw [if_pos hk1] at hr ⊢
                        exact ih _ _ _ _ _ _ _ _ _ hT hn hs hr
                      · rw [if_neg hk1] at hr; cases hr
                    | inr x =>
                      simp only [] at hr ⊢
                      by_cases hk1 : k1 ≤ zKm y
                      · rw [if_pos hk1] at hr ⊢
                        cases hh : zHs mi with
                        | nil => rw [hh] at hr; exact hr
                        | cons q qs =>
                          rw [hh] at hr
                          simp only [] at hr ⊢
                          cases hp : zHan mi pc x with
                          | none => rw [hp] at hr; cases hr
                          | some pcH =>
                            rw [hp] at hr
                            simp only [] at hr ⊢
                            split at hr
                            · exact ih _ _ _ _ _ _ _ _ _ hT (zSub_d hn hs).2 (zSub_d hn hs).1 hr
                            · exact ih _ _ _ _ _ _ _ _ _ hT (zSub_d hn hs).2 (zSub_d hn hs).1 hr
                            · cases hr
                      · rw [if_neg hk1] at hr; cases hr
                · rw [if_neg hk] at hr; cases hr
/-- the locals in another form -/
theorem zR_lv {L : Nat} {xs : Nat → Int32} {d : Nat} {mi : ZM} {pc : Nat} (lv : zL) {lv' : zL} {st : List Value} {h h' : zH} {k k' : Nat} {o : zO} (hT : zTl mi) (hn : zNod lv = true) (hs : zSubL lv lv') (hR : zR L xs d mi pc lv st h k o h' k') : zR L xs d mi pc lv' st h k o h' k' := by
  obtain ⟨n, hr⟩ := hR
  exact ⟨n, zrun_sub _ _ _ _ _ _ _ _ _ _ hT hn (zSubL_sub hs) hr⟩
theorem zTl_nil {mi : ZM} (h : zThL mi = []) : zTl mi := fun pc i n _ _ => by
  unfold zThr
  rw [h]
  rfl
/-! many instructions at once, with the heap -/
def zst2 (L : Nat) (xs : Nat → Int32) (mi : ZM) : Nat → Nat → zL → List Value → zH → Option (Nat × zL × List Value × zH)
  | 0, pc, lv, st, h => some (pc, lv, st, h)
  | n + 1, pc, lv, st, h => match zfetch mi pc with
    | some (i, _) => (match z1 pc i lv st with
      | some (pc', lv', st') => zst2 L xs mi n pc' lv' st' h
      | none => (match z2 L xs (zCno mi) i st h with
        | some (w, st', h') => zst2 L xs mi n (pc + w) lv st' h'
        | none => none))
    | none => none
theorem zR_m {L : Nat} {xs : Nat → Int32} {d : Nat} {mi : ZM} {pc' : Nat} {lv' : zL} {st' : List Value} {h1 h' : zH} {k k' : Nat} {o : zO} : ∀ (n : Nat) {pc : Nat} {lv : zL} {st : List Value} {h : zH}, zst2 L xs mi n pc lv st h = some (pc', lv', st', h1) → zR L xs d mi pc' lv' st' h1 k o h' k' → zR L xs d mi pc lv st h k o h' k'
  | 0, pc, lv, st, h, h0, hR => by
    unfold zst2 at h0
    cases h0
    exact hR
  | n + 1, pc, lv, st, h, h0, hR => by
    unfold zst2 at h0
    split at h0
    · rename_i i nn hf
      split at h0
      · rename_i a b c h1
        exact zR_s hf h1 (zR_m n h0 hR)
      · rename_i hn
        split at h0
        · rename_i a b c h2
          exact zR_h hf hn h2 rfl (zR_m n h0 hR)
        · cases h0
    · cases h0
/-- a whole run, once and for all -/
theorem zE_m {L : Nat} {xs : Nat → Int32} {d n : Nat} {y : ZM} {as : List Value} {h h' : zH} {o : zO} {k1 : Nat} (hr : zrun L xs n d y 0 (lv_args 0 as) [] h 0 = some (o, h', k1)) (hk : k1 ≤ zKm y) : zE L xs d y as h o h' := ⟨k1, hk, n, hr⟩
end
section
/-! StackReal$Real -/
abbrev cReal (kd : Int32) (ng : Bool) (ex : Int32) (sg : Int64) : zC := .inr (1, [.int kd, .int (bI ng), .int ex, .long sg])
abbrev cExact (ng : Bool) (ex : Int32) (hi lo : Int64) : zC := .inr (2, [.int (bI ng), .int ex, .long hi, .long lo])
theorem bI_put (ci j : Nat) (b : Bool) (h1 : zFin ci j = false) (h2 : zTyp ci j = .boolean) : zput ci j (.int (bI b)) = true := by
  unfold zput
  rw [h1, h2]
  cases b <;> rfl
section RE
variable {L : Nat} {xs : Nat → Int32} {d : Nat} {h : zH} {q j : Nat}
set_option maxRecDepth 10000 in
theorem e_Re_copy {kd ex kd' ex' : Int32} {ng ng' : Bool} {sg sg' : Int64} (hq : h[q]? = some (cReal kd ng ex sg)) (hj : h[j]? = some (cReal kd' ng' ex' sg')) (hne : q ≠ j) : zE L xs d m_Re_copy [.ref q, .ref j] h (.inl none) (h.set q (cReal kd' ng' ex' sg')) := by
  refine ⟨0, Nat.zero_le _, ?_⟩
  refine zR_n 2 rfl ?_
  refine zR_g rfl rfl hj rfl rfl ?_
  refine zR_p rfl rfl hq (Nat.le_of_ble_eq_true rfl) rfl rfl rfl ?_
  refine zR_n 2 rfl ?_
  refine zR_g rfl rfl (gn hne hj) rfl rfl ?_
  refine zR_p rfl rfl (gs hq) (Nat.le_of_ble_eq_true rfl) (bI_put _ _ _ rfl rfl) rfl rfl ?_
  refine zR_n 2 rfl ?_
  refine zR_g rfl rfl (gn hne (gn hne hj)) rfl rfl ?_
  refine zR_p rfl rfl (gs (gs hq)) (Nat.le_of_ble_eq_true rfl) rfl rfl rfl ?_
  refine zR_n 2 rfl ?_
  refine zR_g rfl rfl (gn hne (gn hne (gn hne hj))) rfl rfl ?_
  refine zR_p rfl rfl (gs (gs (gs hq))) (Nat.le_of_ble_eq_true rfl) rfl rfl rfl ?_
  exact zR_e rfl rfl rfl rfl rfl (by simp only [List.set_set]; rfl)
set_option maxRecDepth 10000 in
theorem e_Re_becomeNan {kd ex : Int32} {ng : Bool} {sg : Int64} (hq : h[q]? = some (cReal kd ng ex sg)) : zE L xs d m_Re_becomeNan [.ref q] h (.inl none) (h.set q (cReal 3 false 0 0)) := by
  refine ⟨0, Nat.zero_le _, ?_⟩
  refine zR_n 2 rfl ?_
  refine zR_p rfl rfl hq (Nat.le_of_ble_eq_true rfl) rfl rfl rfl ?_
  refine zR_n 2 rfl ?_
  refine zR_p rfl rfl (gs hq) (Nat.le_of_ble_eq_true rfl) rfl rfl rfl ?_
  refine zR_n 2 rfl ?_
  refine zR_p rfl rfl (gs (gs hq)) (Nat.le_of_ble_eq_true rfl) rfl rfl rfl ?_
  refine zR_n 2 rfl ?_
  refine zR_p rfl rfl (gs (gs (gs hq))) (Nat.le_of_ble_eq_true rfl) rfl rfl rfl ?_
  exact zR_e rfl rfl rfl rfl rfl (by simp only [List.set_set]; rfl)
end RE
end
section
/-! Function updates; a row of digits as a number -/
def fu {α : Type} (f : Nat → α) (k : Nat) (x : α) : Nat → α := fun j => if j = k then x else f j
section FU
variable {α : Type} {f : Nat → α} {k j : Nat} {x y : α}
theorem fu_s : fu f k x k = x := if_pos rfl
theorem fu_n (h : j ≠ k) : fu f k x j = f j := if_neg h
theorem fu_fu : fu (fu f k x) k y = fu f k y := by
  funext i
  unfold fu
  split <;> rfl
theorem fu_self (h : f k = x) : fu f k x = f := by
  funext i
  unfold fu
  split
  · rename_i hi; rw [hi, h]
  · rfl
theorem fu_comm (h : j ≠ k) : fu (fu f j x) k y = fu (fu f k y) j x := by
  funext i
  unfold fu
  split
  · rename_i hi; rw [if_neg (by omega)]
  · rfl
end FU
def dd (x j : Nat) : Nat := x / 65536 ^ j % 65536
theorem dd_lt (x j : Nat) : dd x j < 65536 := Nat.mod_lt _ (by decide)
theorem Bp (k : Nat) : 0 < 65536 ^ k := Nat.pow_pos (by decide)
theorem B2 (k : Nat) : 65536 ^ k = 2 ^ (16 * k) := by rw [Nat.pow_mul]
theorem dd_low (x : Nat) {j k : Nat} (h : j < k) : dd (x % 65536 ^ k) j = dd x j := by
  unfold dd
  have e : 65536 ^ k = 65536 ^ j * 65536 ^ (k - j) := by rw [← Nat.pow_add]; congr 1; omega
  rw [e, Nat.mod_mul_right_div_self]
  exact Nat.mod_mod_of_dvd _ ⟨65536 ^ (k - j - 1), by rw [← Nat.pow_succ']; congr 1; omega⟩
theorem dd_small {x j k : Nat} (hx : x < 65536 ^ k) (h : k ≤ j) : dd x j = 0 := by
  unfold dd
  rw [Nat.div_eq_of_lt (Nat.lt_of_lt_of_le hx (Nat.pow_le_pow_right (by decide) h))]
theorem dd_low0 (x : Nat) {j k : Nat} (h : k ≤ j) : dd (x % 65536 ^ k) j = 0 := dd_small (Nat.mod_lt _ (Bp k)) h
theorem dd_high0 (x : Nat) {j k : Nat} (h : j < k) : dd (x * 65536 ^ k) j = 0 := by
  unfold dd
  have e : 65536 ^ k = 65536 ^ (k - j) * 65536 ^ j := by rw [← Nat.pow_add]; congr 1; omega
  rw [e, ← Nat.mul_assoc, Nat.mul_div_cancel _ (Bp j)]
  have e2 : 65536 ^ (k - j) = 65536 ^ (k - j - 1) * 65536 := by rw [← Nat.pow_succ]; congr 1; omega
  rw [e2, ← Nat.mul_assoc]
  exact Nat.mul_mod_left _ _
theorem dd_high (x : Nat) {j k : Nat} (h : k ≤ j) : dd (x / 65536 ^ k * 65536 ^ k) j = dd x j := by
  unfold dd
  have e : 65536 ^ j = 65536 ^ k * 65536 ^ (j - k) := by rw [← Nat.pow_add]; congr 1; omega
  rw [e, ← Nat.div_div_eq_div_mul, ← Nat.div_div_eq_div_mul, Nat.mul_div_cancel _ (Bp k)]
/-- low part and high part put together -/
theorem dd_join {a b k : Nat} (ha : a < 65536 ^ k) (j : Nat) : dd (a + b * 65536 ^ k) j = if j < k then dd a j else dd b (j - k) := by
  split
  · rename_i h
    rw [← dd_low (a + b * 65536 ^ k) h, Nat.add_mul_mod_self_right, Nat.mod_eq_of_lt ha]
  · rename_i h
    unfold dd
    have e : 65536 ^ j = 65536 ^ k * 65536 ^ (j - k) := by rw [← Nat.pow_add]; congr 1; omega
    rw [e, ← Nat.div_div_eq_div_mul, Nat.add_mul_div_right _ _ (Bp k), Nat.div_eq_of_lt ha, Nat.zero_add]
theorem dd_ext {x y : Nat} : ∀ {k : Nat}, x < 65536 ^ k → y < 65536 ^ k → (∀ j, j < k → dd x j = dd y j) → x = y := by
  intro k
  induction k generalizing x y with
  | zero => intro hx hy _; simp at hx hy; omega
  | succ k ih =>
    intro hx hy h
    have h0 := h 0 (by omega)
    simp only [dd, Nat.pow_zero, Nat.div_one] at h0
    have h1 : x / 65536 = y / 65536 := ih (by rw [Nat.pow_succ] at hx; exact Nat.div_lt_of_lt_mul (by omega)) (by rw [Nat.pow_succ] at hy; exact Nat.div_lt_of_lt_mul (by omega)) (fun j hj => by
      have := h (j + 1) (by omega)
      simp only [dd, Nat.pow_succ'] at this
      rw [← Nat.div_div_eq_div_mul, ← Nat.div_div_eq_div_mul] at this
      exact this)
    omega
theorem dd_testBit (x j i : Nat) (hi : i < 16) : (dd x j).testBit i = x.testBit (16 * j + i) := by
  unfold dd
  rw [show 65536 = 2 ^ 16 from rfl, Nat.testBit_mod_two_pow, ← Nat.pow_mul, Nat.testBit_div_two_pow]
  simp [hi, Nat.add_comm]
theorem mod_split (x k : Nat) : x % 65536 ^ (k + 1) = x % 65536 ^ k + dd x k * 65536 ^ k := by
  unfold dd
  rw [Nat.pow_succ, Nat.mod_mul, Nat.mul_comm (65536 ^ k)]
def dg (R : Nat → Nat) : Nat → Int32 := fun i => nI (dd (R (i / 32)) (i % 32))
theorem dg_at (R : Nat → Nat) {r k : Nat} (hk : k < 32) : dg R (32 * r + k) = nI (dd (R r) k) := by
  unfold dg
  rw [show (32 * r + k) / 32 = r by omega, show (32 * r + k) % 32 = k by omega]
theorem dg_up {R : Nat → Nat} {r k v y : Nat} (hk : k < 32) (hy : ∀ j, j < 32 → dd y j = if j = k then v else dd (R r) j) : upd (dg R) (32 * r + k) (nI v) = dg (fu R r y) := by
  funext i
  unfold upd dg fu
  by_cases h1 : i / 32 = r
  · rw [if_pos h1, hy _ (Nat.mod_lt _ (by decide))]
    by_cases h2 : i % 32 = k
    · rw [if_pos h2, if_pos (by omega)]
    · rw [if_neg h2, if_neg (by omega), h1]
  · rw [if_neg h1, if_neg (by omega)]
theorem dg_0 : dg (fun _ => 0) = fun _ => 0 := by
  funext i
  show nI (dd 0 _) = 0
  unfold dd
  rw [Nat.zero_div]
  rfl
/-- all digits within bounds -/
def Rok (R : Nat → Nat) : Prop := ∀ r, R r < 65536 ^ 32
theorem Rok.fu {R : Nat → Nat} {r y : Nat} (h : Rok R) (hy : y < 65536 ^ 32) : Rok (fu R r y) := fun i => by
  show (if i = r then y else R i) < _
  split
  · exact hy
  · exact h i
/-! ints that may be negative -/
def iZ (z : Int) : Int32 := Int32.ofInt z
theorem iZ_nat (n : Nat) : iZ (n : Int) = nI n := Int32.ofInt_eq_ofNat
theorem iZ_add (x y : Int) : iZ x + iZ y = iZ (x + y) := (Int32.ofInt_add x y).symm
theorem iZ_sub (x y : Int) : iZ x - iZ y = iZ (x - y) := (Int32.ofInt_sub x y).symm
theorem iZ_mul (x y : Int) : iZ x * iZ y = iZ (x * y) := (Int32.ofInt_mul x y).symm
theorem iZ_neg (x : Int) : - iZ x = iZ (-x) := (Int32.ofInt_neg x).symm
theorem iZ_toInt {z : Int} (h1 : -2147483648 ≤ z) (h2 : z < 2147483648) : (iZ z).toInt = z := by
  show (Int32.ofInt z).toInt = z
  rw [Int32.toInt_ofInt]
  exact Int.bmod_eq_of_le (by show -(4294967296 / 2 : Int) ≤ z; omega) (by show z < (4294967296 + 1) / 2; omega)
theorem iZ_of (x : Int32) : x = iZ x.toInt := (Int32.ofInt_toInt x).symm
theorem iZ_rng (x : Int32) : -2147483648 ≤ x.toInt ∧ x.toInt < 2147483648 := ⟨Int32.le_toInt x, Int32.toInt_lt x⟩
section IZ
variable {x y : Int} (h1 : -2147483648 ≤ x) (h2 : x < 2147483648) (h3 : -2147483648 ≤ y) (h4 : y < 2147483648)
theorem iZ_lt {x y : Int} (h1 : -2147483648 ≤ x ∧ x < 2147483648) (h3 : -2147483648 ≤ y ∧ y < 2147483648) : iZ x < iZ y ↔ x < y := by
  rw [Int32.lt_iff_toInt_lt, iZ_toInt h1.1 h1.2, iZ_toInt h3.1 h3.2]
theorem iZ_le {x y : Int} (h1 : -2147483648 ≤ x ∧ x < 2147483648) (h3 : -2147483648 ≤ y ∧ y < 2147483648) : iZ x ≤ iZ y ↔ x ≤ y := by
  rw [Int32.le_iff_toInt_le, iZ_toInt h1.1 h1.2, iZ_toInt h3.1 h3.2]
theorem iZ_eq {x y : Int} (h1 : -2147483648 ≤ x ∧ x < 2147483648) (h3 : -2147483648 ≤ y ∧ y < 2147483648) : iZ x = iZ y ↔ x = y := by
  rw [← Int32.toInt_inj, iZ_toInt h1.1 h1.2, iZ_toInt h3.1 h3.2]
end IZ
end
section
/-! The reference's heap: twenty cells of the class (C), the model's fields (a, b), its arrays, the law's out -/
def mF (a : Nat → Int32) (b : Nat → Int64) : List Value := [.int (a 0), .int (a 1), .int (a 2), .int (a 3), .int (a 4), .int (a 5), .int (a 6), .int (a 7), .ref 21, .ref 22, .ref 23, .ref 24, .ref 25, .int (a 13), .int (a 14), .long (b 15), .long (b 16), .ref 26]
def nB (B : Nat → Bool) : Nat → Int32 := fun i => bI (B i)
def mH (C : Nat → zC) (o : zC) (a : Nat → Int32) (b : Nat → Int64) (K : Nat → Int32) (B : Nat → Bool) (E : Nat → Int32) (S M : Nat → Int64) (R : Nat → Nat) : zH :=
  [C 0, C 1, C 2, C 3, C 4, C 5, C 6, C 7, C 8, C 9, C 10, C 11, C 12, C 13, C 14, C 15, C 16, C 17, C 18, C 19, .inr (7, mF a b), .inl (0, 11, .inl K), .inl (2, 11, .inl (nB B)), .inl (0, 11, .inl E), .inl (1, 11, .inr (.inl S)), .inl (1, 8, .inr (.inl M)), .inl (0, 160, .inl (dg R)), o]
section MO
variable {L : Nat} {xs : Nat → Int32} {d : Nat} {mi : ZM} {pc : Nat} {lv : zL} {st st' : List Value} {h' : zH} {k k' : Nat} {o : zO} {pc' : Nat}
variable {C : Nat → zC} {u : zC} {a : Nat → Int32} {b : Nat → Int64} {K : Nat → Int32} {B : Nat → Bool} {E : Nat → Int32} {S M : Nat → Int64} {R : Nat → Nat}
theorem in_nI {n N : Nat} (h : n < N) (hN : N < 2 ^ 31) : 0 ≤ (nI n).toInt ∧ (nI n).toInt < (N : Int) := by
  rw [nI_toInt (by omega)]
  omega
theorem zD_get {x : Int32} {r j : Nat} (hf : zfetch mi pc = some (.iaload, 1)) (hx : x = nI (32 * r + j)) (hr : r < 5) (hj : j < 32) (hp : pc + 1 = pc') (hR : zR L xs d mi pc' lv (.int (nI (dd (R r) j)) :: st) (mH C u a b K B E S M R) k o h' k') : zR L xs d mi pc lv (.int x :: .ref 26 :: st) (mH C u a b K B E S M R) k o h' k' := by
  subst hx
  refine zR_ia hf rfl rfl (in_nI (by omega) (by decide)) ?_ hp hR
  rw [nI_clamp (by omega), dg_at R hj]
theorem zD_put {x w : Int32} {r j v y : Nat} (hf : zfetch mi pc = some (.iastore, 1)) (hx : x = nI (32 * r + j)) (hr : r < 5) (hj : j < 32) (hw : w = nI v) (hy : ∀ i, i < 32 → dd y i = if i = j then v else dd (R r) i) (hp : pc + 1 = pc') (hR : zR L xs d mi pc' lv st (mH C u a b K B E S M (fu R r y)) k o h' k') : zR L xs d mi pc lv (.int w :: .int x :: .ref 26 :: st) (mH C u a b K B E S M R) k o h' k' := by
  subst hx
  subst hw
  refine zR_is hf rfl (in_nI (by omega) (by decide)) hp ?_
  rw [nI_clamp (by omega), dg_up hj hy]
  exact hR
theorem ix (r j : Nat) : (32 : Int32) * nI r + nI j = nI (32 * r + j) := by
  rw [← nI_add, ← pk_mul]
  rfl
theorem ic_ge {n m : Nat} (h : n < m) (hm : m < 2 ^ 31) : ¬ (nI m ≤ nI n) := nI_ge h hm
set_option maxRecDepth 10000 in
theorem l_Mo_blank {r : Nat} (hr : r < 5) : ∀ (n : Nat) {j x : Nat}, n + j = 32 → x < 65536 ^ 32 → R r = x / 65536 ^ j * 65536 ^ j → zR L xs d m_Mo_blank 2 [(2, .int (nI j)), (0, .ref 20), (1, .int (nI r))] [] (mH C u a b K B E S M R) 0 (.inl none) (mH C u a b K B E S M (fu R r 0)) 0 := by
  intro n
  induction n generalizing R with
  | zero =>
    intro j x hn hx hR
    obtain rfl : j = 32 := by omega
    rw [Nat.div_eq_of_lt hx, Nat.zero_mul] at hR
    refine zR_m 3 (pc' := 26) (lv' := [(2, .int (nI 32)), (0, .ref 20), (1, .int (nI r))]) (st' := []) rfl ?_
    exact zR_e rfl rfl rfl rfl rfl (by rw [fu_self hR])
  | succ n ih =>
    intro j x hn hx hR
    refine zR_m 3 rfl ?_
    refine zR_if (fun h => absurd h (nI_ge (a := j) (b := 32) (by omega) (by decide))) (fun _ => ?_)
    refine zR_m 8 rfl ?_
    refine zD_put (y := x / 65536 ^ (j + 1) * 65536 ^ (j + 1)) rfl (ix r j) hr (by omega) rfl (fun i hi => ?_) rfl ?_
    · by_cases h : i < j + 1
      · rw [dd_high0 _ h]
        by_cases h2 : i = j
        · rw [if_pos h2]
        · rw [if_neg h2, hR, dd_high0 _ (by omega)]
      · rw [dd_high _ (by omega), if_neg (by omega), hR, dd_high _ (by omega)]
    · refine zR_m 2 (pc' := 2) (lv' := [(2, .int (nI (j + 1))), (0, .ref 20), (1, .int (nI r))]) (by rw [nI_succ]; rfl) ?_
      have h9 := ih (R := fu R r (x / 65536 ^ (j + 1) * 65536 ^ (j + 1))) (j := j + 1) (x := x) (by omega) hx fu_s
      rw [fu_fu] at h9
      exact h9
theorem e_Mo_blank {r : Nat} (hr : r < 5) (hR : Rok R) : zE L xs d m_Mo_blank [.ref 20, .int (nI r)] (mH C u a b K B E S M R) (.inl none) (mH C u a b K B E S M (fu R r 0)) := by
  refine ⟨0, Nat.zero_le _, ?_⟩
  refine zR_m 2 (pc' := 2) (lv' := [(2, .int (nI 0)), (0, .ref 20), (1, .int (nI r))]) rfl ?_
  exact l_Mo_blank hr 32 (j := 0) (x := R r) (by omega) (hR r) (by simp)
end MO
end
section
section MO
variable {L : Nat} {xs : Nat → Int32} {d : Nat} {mi : ZM} {pc : Nat} {lv : zL} {st st' : List Value} {h' : zH} {k k' : Nat} {o : zO} {pc' : Nat}
variable {C : Nat → zC} {u : zC} {a : Nat → Int32} {b : Nat → Int64} {K : Nat → Int32} {B : Nat → Bool} {E : Nat → Int32} {S M : Nat → Int64} {R : Nat → Nat}
theorem put_dig {n j : Nat} (hn : n < 2 ^ 64) (hj : j < 4) : (((lN n).toUInt64 >>> (((16 : Int32) * nI j).toInt64.toUInt64 &&& Int64.toUInt64 63)).toInt64 &&& 65535).toInt32 = nI (dd n j) := by
  rw [show (16 : Int32) * nI j = nI (16 * j) from by rw [← pk_mul]; rfl, wb_shr hn (by omega), show (65535 : Int64) = lN (2 ^ 16 - 1) from rfl, wb_mask (Nat.lt_of_le_of_lt (Nat.div_le_self _ _) hn) (by decide), lN_i]
  unfold dd
  rw [B2]
set_option maxRecDepth 10000 in
theorem l_Mo_put {r n : Nat} (hr : r < 5) (hn : n < 2 ^ 64) : ∀ (t : Nat) {j : Nat}, t + j = 4 → R r = n % 65536 ^ j → zR L xs d m_Mo_put 8 [(4, .int (nI j)), (0, .ref 20), (1, .int (nI r)), (2, .long (lN n))] [] (mH C u a b K B E S M R) 0 (.inl none) (mH C u a b K B E S M (fu R r n)) 0 := by
  intro t
  induction t generalizing R with
  | zero =>
    intro j ht hR
    obtain rfl : j = 4 := by omega
    rw [Nat.mod_eq_of_lt (show n < 65536 ^ 4 from hn)] at hR
    refine zR_m 3 (pc' := 44) rfl ?_
    exact zR_e rfl rfl rfl rfl rfl (by rw [fu_self hR])
  | succ t ih =>
    intro j ht hR
    refine zR_m 3 rfl ?_
    refine zR_if (fun h => absurd h (nI_ge (a := j) (b := 4) (by omega) (by decide))) (fun _ => ?_)
    refine zR_m 15 rfl ?_
    refine zD_put (y := n % 65536 ^ (j + 1)) rfl (ix r j) hr (by omega) (put_dig (j := j) hn (by omega)) (fun i hi => ?_) rfl ?_
    · by_cases h2 : i = j
      · rw [if_pos h2, h2, dd_low _ (by omega)]
      · rw [if_neg h2, hR]
        by_cases h : i < j
        · rw [dd_low _ (by omega), dd_low _ h]
        · rw [dd_low0 _ (by omega), dd_low0 _ (by omega)]
    · refine zR_m 2 (pc' := 8) (lv' := [(4, .int (nI (j + 1))), (0, .ref 20), (1, .int (nI r)), (2, .long (lN n))]) (by rw [nI_succ]; rfl) ?_
      have h9 := ih (R := fu R r (n % 65536 ^ (j + 1))) (j := j + 1) (by omega) fu_s
      rw [fu_fu] at h9
      exact h9
theorem e_Mo_put {r n : Nat} (hr : r < 5) (hn : n < 2 ^ 64) (hR : Rok R) : zE L xs (d + 1) m_Mo_put [.ref 20, .int (nI r), .long (lN n)] (mH C u a b K B E S M R) (.inl none) (mH C u a b K B E S M (fu R r n)) := by
  refine ⟨0, Nat.zero_le _, ?_⟩
  refine zR_m 2 rfl ?_
  refine zR_v rfl rfl rfl rfl rfl ⟨rfl, Nat.le_of_ble_eq_true rfl, Nat.le_of_ble_eq_true rfl⟩ rfl (Nat.le_refl _) (e_Mo_blank hr hR) rfl rfl ?_
  refine zR_m 2 (pc' := 8) (lv' := [(4, .int (nI 0)), (0, .ref 20), (1, .int (nI r)), (2, .long (lN n))]) rfl ?_
  have h9 := l_Mo_put (L := L) (xs := xs) (d := d + 1) (C := C) (u := u) (a := a) (b := b) (K := K) (B := B) (E := E) (S := S) (M := M) (R := fu R r 0) hr hn 4 (j := 0) (by omega) (by rw [fu_s]; simp [Nat.mod_one])
  rw [fu_fu] at h9
  exact h9
theorem dv16 {n : Nat} (h : n < 2 ^ 31) : nI n / (16 : Int32) = nI (n / 16) := pk_div (d := 16) h (by decide) (by decide)
theorem rm16 {n : Nat} (h : n < 2 ^ 31) : nI n - nI n / (16 : Int32) * (16 : Int32) = nI (n % 16) := pk_rem (d := 16) h (by decide) (by decide)
theorem bit_val {x n : Nat} : dd x (n / 16) / 2 ^ (n % 16) % 2 = x / 2 ^ n % 2 := by
  have h := dd_testBit x (n / 16) (n % 16) (Nat.mod_lt _ (by decide))
  rw [show 16 * (n / 16) + n % 16 = n by omega, Nat.testBit_eq_decide_div_mod_eq, Nat.testBit_eq_decide_div_mod_eq, decide_eq_decide] at h
  have h1 := Nat.mod_lt (dd x (n / 16) / 2 ^ (n % 16)) (show 2 > 0 by decide)
  have h2 := Nat.mod_lt (x / 2 ^ n) (show 2 > 0 by decide)
  omega
theorem sl32 : ∀ n, n < 32 → ((nI n &&& 31).toBitVec.smod 32).toNat = n := by decide +kernel
theorem bit_sh {x n : Nat} (hn : n < 512) : nI (dd x (n / 16)) >>> ((nI n - nI n / (16 : Int32) * (16 : Int32)) &&& 31) &&& 1 = nI (x / 2 ^ n % 2) := by
  have h1 := dd_lt x (n / 16)
  rw [rm16 (by omega), pk_shrN (by omega) _ (n % 16) (sl32 _ (by omega)), pk_andN (Nat.lt_of_le_of_lt (Nat.div_le_self _ _) (by omega)) 1 rfl]
  exact congrArg nI bit_val
/-- a return, value and heap in another form -/
theorem zR_q {v v' : Option Value} {i : Instr} {nn : Nat} {h : zH} (hf : zfetch mi pc = some (i, nn)) (hn1 : z1 pc i lv st = none) (hn2 : z2 L xs (zCno mi) i st h = none) (hc : zcall (zCno mi) i st h = none) (hr : zret3 mi i st = some v) (hv : v = v') (hh : h = h') : zR L xs d mi pc lv st h k (.inl v') h' k := by
  subst hv
  exact zR_e hf hn1 hn2 hc hr hh
set_option maxRecDepth 10000 in
theorem e_Mo_bit {r n : Nat} (hr : r < 5) (hn : n < 512) : zE L xs d m_Mo_bit [.ref 20, .int (nI r), .int (nI n)] (mH C u a b K B E S M R) (.inl (some (.int (nI (R r / 2 ^ n % 2))))) (mH C u a b K B E S M R) := by
  refine ⟨0, Nat.zero_le _, ?_⟩
  refine zR_m 2 rfl ?_
  refine zR_if (fun _ => ?_) (fun h => absurd (nI_pos' (n := n) (by omega)) h)
  refine zR_m 9 rfl ?_
  refine zD_get (r := r) (j := n / 16) rfl ?_ hr (by omega) rfl ?_
  · exact (congrArg (fun z => (32 : Int32) * nI r + z) (dv16 (n := n) (by omega))).trans (ix r (n / 16))
  · refine zR_m 6 rfl ?_
    exact zR_q rfl rfl rfl rfl rfl (congrArg (fun z => some (Value.int z)) (bit_sh hn)) rfl
/-- below the row's first bit stands 0 -/
theorem e_Mo_bitn {r : Nat} {x : Int32} (hx : x < 0) : zE L xs d m_Mo_bit [.ref 20, .int (nI r), .int x] (mH C u a b K B E S M R) (.inl (some (.int 0))) (mH C u a b K B E S M R) := by
  refine ⟨0, Nat.zero_le _, ?_⟩
  refine zR_m 2 rfl ?_
  refine zR_if (fun h => absurd hx (Int32.not_lt.mpr h)) (fun _ => ?_)
  refine zR_m 2 rfl ?_
  exact zR_e rfl rfl rfl rfl rfl rfl
theorem sb_or {x n : Nat} (hn : n < 512) : nI (dd x (n / 16)) ||| ((1 : Int32) <<< ((nI n - nI n / (16 : Int32) * (16 : Int32)) &&& 31)) = nI (dd x (n / 16) ||| 2 ^ (n % 16)) := by
  have h2 : 1 * 2 ^ (n % 16) < 2 ^ 32 := by rw [Nat.one_mul]; exact Nat.pow_lt_pow_right (by decide) (by omega)
  rw [rm16 (by omega), show (1 : Int32) = nI 1 from rfl, pk_shlN _ (n % 16) (sl32 _ (by omega)) h2, Nat.one_mul]
  apply Int32.toBitVec_inj.1
  show BitVec.ofNat 32 _ ||| BitVec.ofNat 32 _ = BitVec.ofNat 32 _
  apply BitVec.eq_of_getLsbD_eq
  intro i hi
  simp [hi]
theorem sb_dd {x n : Nat} (i : Nat) : dd (x ||| 2 ^ n) i = if i = n / 16 then dd x (n / 16) ||| 2 ^ (n % 16) else dd x i := by
  apply Nat.eq_of_testBit_eq
  intro j
  by_cases hj : j < 16
  · rw [dd_testBit _ _ _ hj, Nat.testBit_or, Nat.testBit_two_pow]
    by_cases h : i = n / 16
    · rw [if_pos h, Nat.testBit_or, dd_testBit _ _ _ hj, Nat.testBit_two_pow, h]
      congr 1
      rw [decide_eq_decide]
      omega
    · rw [if_neg h, dd_testBit _ _ _ hj, decide_eq_false (by omega), Bool.or_false]
  · have h0 : ∀ y, y < 65536 → y.testBit j = false := fun y hy => Nat.testBit_lt_two_pow (Nat.lt_of_lt_of_le hy (show (2 : Nat) ^ 16 ≤ 2 ^ j from Nat.pow_le_pow_right (by decide) (by omega)))
    rw [h0 _ (dd_lt _ _)]
    by_cases h : i = n / 16
    · rw [if_pos h, Nat.testBit_or, h0 _ (dd_lt _ _), Nat.testBit_two_pow, decide_eq_false (by omega)]
      rfl
    · rw [if_neg h, h0 _ (dd_lt _ _)]
set_option maxRecDepth 10000 in
theorem e_Mo_setBit {r n : Nat} (hr : r < 5) (hn : n < 512) : zE L xs d m_Mo_setBit [.ref 20, .int (nI r), .int (nI n)] (mH C u a b K B E S M R) (.inl none) (mH C u a b K B E S M (fu R r (R r ||| 2 ^ n))) := by
  have hi : (32 : Int32) * nI r + nI n / 16 = nI (32 * r + n / 16) := (congrArg (fun z => (32 : Int32) * nI r + z) (dv16 (n := n) (by omega))).trans (ix r (n / 16))
  refine ⟨0, Nat.zero_le _, ?_⟩
  refine zR_m 18 rfl ?_
  refine zD_get (r := r) (j := n / 16) rfl hi hr (by omega) rfl ?_
  refine zR_m 6 rfl ?_
  refine zD_put (r := r) (j := n / 16) rfl hi hr (by omega) (sb_or hn) (fun i _ => sb_dd i) rfl ?_
  exact zR_e rfl rfl rfl rfl rfl rfl
/-! the highest bit -/
theorem bit0_lt {x n : Nat} (h : x < 2 ^ (n + 1)) (hb : x / 2 ^ n % 2 = 0) : x < 2 ^ n := by
  have h1 : x / 2 ^ n < 2 := Nat.div_lt_of_lt_mul (by rw [Nat.pow_succ] at h; exact h)
  have h2 : x / 2 ^ n = 0 := by generalize x / 2 ^ n = t at *; omega
  exact (Nat.div_eq_zero_iff_lt (Nat.pow_pos (by decide))).mp h2
theorem bit1_le {x n : Nat} (hb : x / 2 ^ n % 2 ≠ 0) : 2 ^ n ≤ x := by
  rcases Nat.lt_or_ge x (2 ^ n) with h | h
  · rw [Nat.div_eq_of_lt h] at hb
    exact absurd rfl hb
  · exact h
/-- the number of bits -/
def nb : Nat → Nat := fun x => if x = 0 then 0 else x.log2 + 1
theorem nb_lt (x : Nat) : x < 2 ^ nb x := by
  unfold nb
  split
  · rename_i h; rw [h]; decide
  · exact Nat.lt_log2_self
theorem nb_le {x : Nat} (h : x ≠ 0) : 2 ^ (nb x - 1) ≤ x := by
  unfold nb
  rw [if_neg h]
  exact Nat.log2_self_le h
theorem nb_uniq {x n : Nat} (h1 : 2 ^ n ≤ x) (h2 : x < 2 ^ (n + 1)) : nb x = n + 1 := by
  have hx : x ≠ 0 := by have := Nat.pow_pos (n := n) (show 0 < 2 by decide); omega
  have h3 := nb_lt x
  have h4 := nb_le hx
  rcases Nat.lt_trichotomy (nb x) (n + 1) with h | h | h
  · have := Nat.pow_le_pow_right (n := 2) (by decide) (show nb x ≤ n by omega)
    omega
  · exact h
  · have := Nat.pow_le_pow_right (n := 2) (by decide) (show n + 1 ≤ nb x - 1 by omega)
    omega
theorem nb_0 : nb 0 = 0 := rfl
theorem nb_bd {x n : Nat} (h : x < 2 ^ n) : nb x ≤ n := by
  by_cases hx : x = 0
  · rw [hx, nb_0]; omega
  · rcases Nat.lt_or_ge n (nb x) with h1 | h1
    · have := Nat.pow_le_pow_right (n := 2) (by decide) (show n ≤ nb x - 1 by omega)
      have := nb_le hx
      omega
    · exact h1
set_option maxRecDepth 10000 in
theorem l_Mo_top {r : Nat} (hr : r < 5) : ∀ (n : Nat), n ≤ 512 → R r < 2 ^ n → zR L xs (d + 1) m_Mo_top 4 [(2, .int (iZ ((n : Int) - 1))), (0, .ref 20), (1, .int (nI r))] [] (mH C u a b K B E S M R) 0 (.inl (some (.int (iZ ((nb (R r) : Int) - 1))))) (mH C u a b K B E S M R) 0 := by
  intro n
  induction n with
  | zero =>
    intro hn hR
    have h0 : R r = 0 := by simpa using hR
    rw [h0]
    refine zR_m 2 (pc' := 23) rfl ?_
    refine zR_m 1 rfl ?_
    exact zR_e rfl rfl rfl rfl rfl rfl
  | succ n ih =>
    intro hn hR
    rw [show (((n + 1 : Nat) : Int) - 1) = (n : Int) by omega, iZ_nat]
    refine zR_m 2 rfl ?_
    refine zR_if (fun h => absurd h (nI_pos (n := n) (by omega))) (fun _ => ?_)
    refine zR_m 3 rfl ?_
    refine zR_v rfl rfl rfl rfl rfl ⟨rfl, Nat.le_of_ble_eq_true rfl, Nat.le_of_ble_eq_true rfl⟩ rfl (Nat.le_refl _) (e_Mo_bit (n := n) hr (by omega)) rfl rfl ?_
    refine zR_m 1 rfl ?_
    by_cases hb : R r / 2 ^ n % 2 = 0
    · rw [hb]
      refine zR_m 2 (pc' := 4) (lv' := [(2, .int (nI n + iZ (-1))), (0, .ref 20), (1, .int (nI r))]) rfl ?_
      rw [← iZ_nat, iZ_add]
      exact ih (by omega) (bit0_lt hR hb)
    · have h1 : R r / 2 ^ n % 2 = 1 := by have := Nat.mod_lt (R r / 2 ^ n) (show 2 > 0 by decide); omega
      rw [h1]
      refine zR_m 1 rfl ?_
      refine zR_q rfl rfl rfl rfl rfl ?_ rfl
      rw [nb_uniq (bit1_le hb) hR, ← iZ_nat, show (((n + 1 : Nat) : Int) - 1) = (n : Int) by omega]
theorem e_Mo_top {r : Nat} (hr : r < 5) (hR : Rok R) : zE L xs (d + 1) m_Mo_top [.ref 20, .int (nI r)] (mH C u a b K B E S M R) (.inl (some (.int (iZ ((nb (R r) : Int) - 1))))) (mH C u a b K B E S M R) := by
  refine ⟨0, Nat.zero_le _, ?_⟩
  refine zR_m 2 (pc' := 4) (lv' := [(2, .int (iZ (((512 : Nat) : Int) - 1))), (0, .ref 20), (1, .int (nI r))]) rfl ?_
  exact l_Mo_top hr 512 (Nat.le_refl _) (by have := hR r; rw [B2] at this; exact this)
end MO
end
section
/-- the locals in another form, the known run first -/
theorem zR_w {L : Nat} {xs : Nat → Int32} {d : Nat} {mi : ZM} {pc : Nat} {lv lv' : zL} {st : List Value} {h h' : zH} {k k' : Nat} {o : zO} (hR : zR L xs d mi pc lv st h k o h' k') (hT : zThL mi = []) (hn : zNod lv = true) (hs : zSubL lv lv') : zR L xs d mi pc lv' st h k o h' k' := zR_lv lv (zTl_nil hT) hn hs hR
/-! shift -/
def shZ (X : Nat) (n : Int) : Nat := X * 2 ^ n.toNat / 2 ^ (-n).toNat
theorem shZ_pos (X : Nat) (m : Nat) : shZ X (m : Int) = X * 2 ^ m := by
  unfold shZ
  rw [show (m : Int).toNat = m by omega, show (-(m : Int)).toNat = 0 by omega, Nat.pow_zero, Nat.div_one]
theorem shZ_neg (X : Nat) (m : Nat) : shZ X (-(m : Int)) = X / 2 ^ m := by
  unfold shZ
  rw [show (-(m : Int)).toNat = 0 by omega, show (-(-(m : Int))).toNat = m by omega, Nat.pow_zero, Nat.mul_one]
theorem shZ_step (X : Nat) {n : Int} {k p : Nat} (hp : (p : Int) = k + n) : shZ (X % 2 ^ (k + 1)) n = shZ (X % 2 ^ k) n + (X / 2 ^ k % 2) * 2 ^ p ∧ shZ (X % 2 ^ k) n < 2 ^ p := by
  have e : X % 2 ^ (k + 1) = X % 2 ^ k + 2 ^ k * (X / 2 ^ k % 2) := by rw [Nat.pow_succ, Nat.mod_mul]
  have hl : X % 2 ^ k < 2 ^ k := Nat.mod_lt _ (Nat.pow_pos (by decide))
  rw [e]
  generalize X / 2 ^ k % 2 = c
  generalize X % 2 ^ k = A at hl ⊢
  rcases Int.le_total 0 n with h | h
  · obtain ⟨m, rfl⟩ := Int.eq_ofNat_of_zero_le h
    obtain rfl : p = k + m := by omega
    rw [shZ_pos, shZ_pos, Nat.add_mul, Nat.pow_add]
    constructor
    · rw [Nat.mul_comm (2 ^ k) c, Nat.mul_assoc]
    · exact Nat.mul_lt_mul_of_pos_right hl (Nat.pow_pos (by decide))
  · obtain ⟨m, hm⟩ := Int.eq_ofNat_of_zero_le (show 0 ≤ -n by omega)
    obtain rfl : n = -(m : Int) := by omega
    obtain rfl : k = p + m := by omega
    rw [shZ_neg, shZ_neg, Nat.pow_add]
    constructor
    · rw [Nat.mul_comm (2 ^ p), Nat.mul_assoc, Nat.add_mul_div_left _ _ (Nat.pow_pos (by decide)), Nat.mul_comm (2 ^ p)]
    · apply Nat.div_lt_of_lt_mul
      rw [Nat.mul_comm, ← Nat.pow_add]
      exact hl
section MO
variable {L : Nat} {xs : Nat → Int32} {d : Nat} {mi : ZM} {pc : Nat} {lv : zL} {st st' : List Value} {h' : zH} {k k' : Nat} {o : zO} {pc' : Nat}
variable {C : Nat → zC} {u : zC} {a : Nat → Int32} {b : Nat → Int64} {K : Nat → Int32} {B : Nat → Bool} {E : Nat → Int32} {S M : Nat → Int64} {R : Nat → Nat}
set_option maxRecDepth 10000 in
theorem l_Mo_shift {f t X : Nat} {n : Int} (hf : f < 5) (ht : t < 5) (hft : f ≠ t) (hX : (nb X : Int) + n ≤ 512) (hn : -512 ≤ n) (hX5 : nb X ≤ 512) : ∀ (c : Nat) {j p : Nat}, nb X ≤ j + c → (p : Int) = j + n → j ≤ 1024 → R f = X → R t = shZ (X % 2 ^ j) n →
    zR L xs (d + 1) m_Mo_shift 24 [(5, .int (nI j)), (4, .int (iZ ((nb X : Int) - 1))), (0, .ref 20), (1, .int (nI f)), (2, .int (nI t)), (3, .int (iZ n))] [] (mH C u a b K B E S M R) 0 (.inl none) (mH C u a b K B E S M (fu R t (shZ X n))) 0 := by
  intro c
  induction c generalizing R with
  | zero =>
    intro j p hc hp hj hF hT
    have h0 : X % 2 ^ j = X := Nat.mod_eq_of_lt (Nat.lt_of_lt_of_le (nb_lt X) (Nat.pow_le_pow_right (by decide) hc))
    rw [h0] at hT
    refine zR_m 3 rfl ?_
    refine zR_if (fun _ => ?_) (fun h => absurd ?_ h)
    · exact zR_e rfl rfl rfl rfl rfl (by rw [fu_self hT])
    · show iZ _ < nI j
      rw [← iZ_nat, iZ_lt (by omega) (by omega)]
      omega
  | succ c ih =>
    intro j p hc hp hj hF hT
    by_cases hjj : nb X ≤ j
    · have h0 : X % 2 ^ j = X := Nat.mod_eq_of_lt (Nat.lt_of_lt_of_le (nb_lt X) (Nat.pow_le_pow_right (by decide) hjj))
      rw [h0] at hT
      refine zR_m 3 rfl ?_
      refine zR_if (fun _ => ?_) (fun h => absurd ?_ h)
      · exact zR_e rfl rfl rfl rfl rfl (by rw [fu_self hT])
      · show iZ _ < nI j
        rw [← iZ_nat, iZ_lt (by omega) (by omega)]
        omega
    · obtain ⟨s1, s2⟩ := shZ_step X (k := j) hp
      refine zR_m 3 rfl ?_
      refine zR_if (fun h => absurd (show iZ _ < nI j from h) ?_) (fun _ => ?_)
      · rw [← iZ_nat, iZ_lt (by omega) (by omega)]
        omega
      refine zR_m 3 rfl ?_
      refine zR_v rfl rfl rfl rfl rfl ⟨rfl, Nat.le_of_ble_eq_true rfl, Nat.le_of_ble_eq_true rfl⟩ rfl (Nat.le_refl _) (e_Mo_bit (n := j) hf (by omega)) rfl rfl ?_
      rw [hF]
      by_cases hb : X / 2 ^ j % 2 = 0
      · rw [hb] at s1 ⊢
        refine zR_m 2 rfl ?_
        refine zR_m 2 (pc' := 24) (lv' := [(5, .int (nI (j + 1))), (4, .int (iZ ((nb X : Int) - 1))), (0, .ref 20), (1, .int (nI f)), (2, .int (nI t)), (3, .int (iZ n))]) (by rw [nI_succ j]; rfl) ?_
        exact ih (j := j + 1) (p := p + 1) (by omega) (by omega) (by omega) hF (by rw [s1, hT]; omega)
      · have h1 : X / 2 ^ j % 2 = 1 := by have := Nat.mod_lt (X / 2 ^ j) (show 2 > 0 by decide); omega
        rw [h1] at s1 ⊢
        refine zR_m 2 rfl ?_
        refine zR_m 5 rfl ?_
        rw [show nI j + iZ n = nI p from by rw [← iZ_nat, iZ_add, ← hp, iZ_nat]]
        refine zR_v rfl rfl rfl rfl rfl ⟨rfl, Nat.le_of_ble_eq_true rfl, Nat.le_of_ble_eq_true rfl⟩ rfl (Nat.le_refl _) (e_Mo_setBit (n := p) ht (by omega)) rfl rfl ?_
        refine zR_m 2 (pc' := 24) (lv' := [(5, .int (nI (j + 1))), (4, .int (iZ ((nb X : Int) - 1))), (0, .ref 20), (1, .int (nI f)), (2, .int (nI t)), (3, .int (iZ n))]) (by rw [nI_succ j]; rfl) ?_
        have h9 := ih (R := fu R t (R t ||| 2 ^ p)) (j := j + 1) (p := p + 1) (by omega) (by omega) (by omega) (by rw [fu_n hft]; exact hF) (by
          have e9 := Nat.two_pow_add_eq_or_of_lt s2 1
          rw [Nat.mul_one] at e9
          rw [fu_s, s1, hT, Nat.one_mul, Nat.or_comm, ← e9, Nat.add_comm])
        rw [fu_fu] at h9
        exact h9
set_option maxRecDepth 10000 in
theorem e_Mo_shift {f t : Nat} {n : Int} (hf : f < 5) (ht : t < 5) (hft : f ≠ t) (hR : Rok R) (hX : (nb (R f) : Int) + n ≤ 512) (hn : -512 ≤ n) : zE L xs (d + 2) m_Mo_shift [.ref 20, .int (nI f), .int (nI t), .int (iZ n)] (mH C u a b K B E S M R) (.inl none) (mH C u a b K B E S M (fu R t (shZ (R f) n))) := by
  have hX5 : nb (R f) ≤ 512 := nb_bd (by have := hR f; rw [B2] at this; exact this)
  refine ⟨0, Nat.zero_le _, ?_⟩
  refine zR_m 2 rfl ?_
  refine zR_v rfl rfl rfl rfl rfl ⟨rfl, Nat.le_of_ble_eq_true rfl, Nat.le_of_ble_eq_true rfl⟩ rfl (Nat.le_refl _) (e_Mo_blank ht hR) rfl rfl ?_
  refine zR_m 2 rfl ?_
  refine zR_v rfl rfl rfl rfl rfl ⟨rfl, Nat.le_of_ble_eq_true rfl, Nat.le_of_ble_eq_true rfl⟩ rfl (Nat.le_refl _) (e_Mo_top hf (hR.fu (Bp 32))) rfl rfl ?_
  rw [fu_n hft]
  refine zR_m 3 rfl ?_
  have fin : ∀ s : Nat, (0 : Int) ≤ s + n → s ≤ 512 → shZ (R f % 2 ^ s) n = 0 → zR L xs (d + 2) m_Mo_shift 24 [(5, .int (nI s)), (4, .int (iZ ((nb (R f) : Int) - 1))), (0, .ref 20), (1, .int (nI f)), (2, .int (nI t)), (3, .int (iZ n))] [] (mH C u a b K B E S M (fu R t 0)) 0 (.inl none) (mH C u a b K B E S M (fu R t (shZ (R f) n))) 0 := by
    intro s h1 h2 h3
    have h9 := l_Mo_shift (L := L) (xs := xs) (d := d + 1) (C := C) (u := u) (a := a) (b := b) (K := K) (B := B) (E := E) (S := S) (M := M) (R := fu R t 0) (X := R f) hf ht hft hX hn hX5 (nb (R f)) (j := s) (p := ((s : Int) + n).toNat) (by omega) (by omega) (by omega) (fu_n hft) (by rw [fu_s, h3])
    rw [fu_fu] at h9
    exact h9
  refine zR_if (fun h => ?_) (fun h => ?_)
  · have h0 : (0 : Int) ≤ n := (iZ_le (x := 0) (y := n) (by omega) (by omega)).mp h
    refine zR_m 2 (pc' := 24) (lv' := [(5, .int (nI 0)), (4, .int (iZ ((nb (R f) : Int) - 1))), (0, .ref 20), (1, .int (nI f)), (2, .int (nI t)), (3, .int (iZ n))]) rfl ?_
    refine fin 0 (by omega) (by omega) ?_
    rw [Nat.pow_zero, Nat.mod_one]
    unfold shZ
    rw [Nat.zero_mul, Nat.zero_div]
  · have h0 : n < 0 := by
      rcases Int.lt_or_le n 0 with h9 | h9
      · exact h9
      · exact absurd ((iZ_le (x := 0) (y := n) (by omega) (by omega)).mpr h9) h
    obtain ⟨m, hm⟩ := Int.eq_ofNat_of_zero_le (show 0 ≤ -n by omega)
    refine zR_m 4 (pc' := 24) (lv' := [(5, .int (- iZ n)), (4, .int (iZ ((nb (R f) : Int) - 1))), (0, .ref 20), (1, .int (nI f)), (2, .int (nI t)), (3, .int (iZ n))]) rfl ?_
    rw [iZ_neg, hm, iZ_nat]
    refine fin m (by omega) (by omega) ?_
    rw [show n = -(m : Int) by omega, shZ_neg]
    exact Nat.div_eq_of_lt (Nat.mod_lt _ (Nat.pow_pos (by decide)))
/-! comparing rows -/
def cmpZ (x y : Nat) : Int := if x = y then 0 else if y < x then 1 else -1
theorem cmpZ_step (x y k : Nat) : cmpZ (x % 65536 ^ (k + 1)) (y % 65536 ^ (k + 1)) = if dd x k = dd y k then cmpZ (x % 65536 ^ k) (y % 65536 ^ k) else if dd y k < dd x k then 1 else -1 := by
  have hx : x % 65536 ^ k < 65536 ^ k := Nat.mod_lt _ (Bp k)
  have hy : y % 65536 ^ k < 65536 ^ k := Nat.mod_lt _ (Bp k)
  rw [mod_split, mod_split]
  generalize x % 65536 ^ k = A at *
  generalize y % 65536 ^ k = D at *
  generalize dd x k = p at *
  generalize dd y k = q at *
  generalize 65536 ^ k = W at *
  unfold cmpZ
  by_cases h : p = q
  · rw [if_pos h, h]
    by_cases h2 : A = D
    · rw [if_pos (by omega), if_pos h2]
    · rw [if_neg (by omega), if_neg h2]
      by_cases h3 : D < A
      · rw [if_pos h3, if_pos (by omega)]
      · rw [if_neg h3, if_neg (by omega)]
  · rw [if_neg h]
    by_cases h3 : q < p
    · have : (q + 1) * W ≤ p * W := Nat.mul_le_mul_right _ h3
      rw [Nat.add_mul, Nat.one_mul] at this
      rw [if_pos h3, if_neg (by omega), if_pos (by omega)]
    · have : (p + 1) * W ≤ q * W := Nat.mul_le_mul_right _ (by omega)
      rw [Nat.add_mul, Nat.one_mul] at this
      rw [if_neg h3, if_neg (by omega), if_neg (by omega)]
set_option maxRecDepth 10000 in
theorem l_Mo_compareRows {p q : Nat} (hp : p < 5) (hq : q < 5) (hR : Rok R) : ∀ (t : Nat) {j : Nat}, t + j = 32 →
    zR L xs d m_Mo_compareRows 5 [(4, .int (nI j)), (3, .int (iZ (cmpZ (R p % 65536 ^ j) (R q % 65536 ^ j)))), (0, .ref 20), (1, .int (nI p)), (2, .int (nI q))] [] (mH C u a b K B E S M R) 0 (.inl (some (.int (iZ (cmpZ (R p) (R q)))))) (mH C u a b K B E S M R) 0 := by
  intro t
  induction t with
  | zero =>
    intro j ht
    obtain rfl : j = 32 := by omega
    rw [Nat.mod_eq_of_lt (hR p), Nat.mod_eq_of_lt (hR q)]
    refine zR_m 3 (pc' := 65) rfl ?_
    refine zR_m 1 rfl ?_
    exact zR_e rfl rfl rfl rfl rfl rfl
  | succ t ih =>
    intro j ht
    have h9 := ih (j := j + 1) (by omega)
    rw [cmpZ_step] at h9
    have d1 := dd_lt (R p) j
    have d2 := dd_lt (R q) j
    refine zR_m 3 rfl ?_
    refine zR_if (fun h => absurd h (nI_ge (a := j) (b := 32) (by omega) (by decide))) (fun _ => ?_)
    refine zR_m 7 rfl ?_
    refine zD_get (r := p) (j := j) rfl (ix p j) hp (by omega) rfl ?_
    refine zR_m 7 rfl ?_
    refine zD_get (r := q) (j := j) rfl (ix q j) hq (by omega) rfl ?_
    refine zR_m 1 (pc' := 37) rfl ?_
    rw [show nI (dd (R p) j) - nI (dd (R q) j) = iZ ((dd (R p) j : Int) - dd (R q) j) from by rw [← iZ_nat, ← iZ_nat, iZ_sub]]
    refine zR_m 3 rfl ?_
    refine zR_if (fun h => ?_) (fun h => ?_)
    · have h1 : ¬ (dd (R p) j : Int) - dd (R q) j = 0 := fun h8 => h (by rw [h8]; rfl)
      rw [if_neg (by omega)] at h9
      refine zR_m 2 rfl ?_
      refine zR_if (fun h2 => ?_) (fun h2 => ?_)
      · have h3 := (iZ_le (y := 0) (by omega) (by omega)).mp h2
        rw [if_neg (by omega)] at h9
        refine zR_m 4 (pc' := 5) rfl ?_
        refine zR_w h9 rfl rfl ⟨?_, rfl, rfl, rfl, rfl, trivial⟩
        rw [nI_succ j]
        rfl
      · have h3 : ¬ (dd (R p) j : Int) - dd (R q) j ≤ 0 := fun h8 => h2 ((iZ_le (y := 0) (by omega) (by omega)).mpr h8)
        rw [if_pos (by omega)] at h9
        refine zR_m 5 (pc' := 5) rfl ?_
        refine zR_w h9 rfl rfl ⟨?_, rfl, rfl, rfl, rfl, trivial⟩
        rw [nI_succ j]
        rfl
    · have h1 : (dd (R p) j : Int) - dd (R q) j = 0 := by
        rcases Decidable.em ((dd (R p) j : Int) - dd (R q) j = 0) with h8 | h8
        · exact h8
        · exact absurd (fun h7 => h8 ((iZ_eq (y := 0) (by omega) (by omega)).mp h7)) h
      rw [if_pos (by omega)] at h9
      refine zR_m 5 (pc' := 5) rfl ?_
      refine zR_w h9 rfl rfl ⟨?_, rfl, rfl, rfl, rfl, trivial⟩
      rw [nI_succ j]
      rfl
theorem e_Mo_compareRows {p q : Nat} (hp : p < 5) (hq : q < 5) (hR : Rok R) : zE L xs d m_Mo_compareRows [.ref 20, .int (nI p), .int (nI q)] (mH C u a b K B E S M R) (.inl (some (.int (iZ (cmpZ (R p) (R q)))))) (mH C u a b K B E S M R) := by
  refine ⟨0, Nat.zero_le _, ?_⟩
  refine zR_m 4 (pc' := 5) rfl ?_
  refine zR_w (l_Mo_compareRows hp hq hR 32 (j := 0) (by omega)) rfl rfl ⟨rfl, ?_, rfl, rfl, rfl, trivial⟩
  rw [Nat.pow_zero, Nat.mod_one, Nat.mod_one]
  rfl
/-! the lowest 64 bits -/
theorem lw_or {x y : Nat} (hy : y < 65536) (hx : x * 65536 + y < 2 ^ 64) : lN x <<< ((nI 16).toInt64 &&& 63) ||| (nI y).toInt64 = lN (x * 65536 + y) := by
  rw [wb_shl x (by decide), nI_l (by omega)]
  exact g_or (k := 16) rfl hy hx
theorem lw4 (x : Nat) : ((dd x 3 * 65536 + dd x 2) * 65536 + dd x 1) * 65536 + dd x 0 = x % 2 ^ 64 := by
  have e : x % 2 ^ 64 = x % 65536 ^ 4 := rfl
  rw [e, mod_split, mod_split, mod_split, mod_split, Nat.pow_zero, Nat.mod_one]
  omega
set_option maxRecDepth 10000 in
theorem e_Mo_lowest {r : Nat} (hr : r < 5) : zE L xs d m_Mo_lowest [.ref 20, .int (nI r)] (mH C u a b K B E S M R) (.inl (some (.long (lN (R r % 2 ^ 64))))) (mH C u a b K B E S M R) := by
  have d0 := dd_lt (R r) 0
  have d1 := dd_lt (R r) 1
  have d2 := dd_lt (R r) 2
  have d3 := dd_lt (R r) 3
  refine ⟨0, Nat.zero_le _, ?_⟩
  refine zR_m 4 (pc' := 5) (lv' := [(4, .int (nI 3)), (2, .long (lN 0)), (0, .ref 20), (1, .int (nI r))]) rfl ?_
  refine zR_m 12 (pc' := 25) rfl ?_
  refine zD_get (r := r) (j := 3) rfl (ix r 3) hr (by omega) rfl ?_
  refine zR_m 2 (pc' := 28) (st' := [.long (lN 0 <<< ((nI 16).toInt64 &&& 63) ||| (nI (dd (R r) 3)).toInt64)]) rfl ?_
  rw [lw_or d3 (by omega)]
  refine zR_m 15 (pc' := 25) rfl ?_
  refine zD_get (r := r) (j := 2) rfl (ix r 2) hr (by omega) rfl ?_
  refine zR_m 2 (pc' := 28) (st' := [.long (lN (0 * 65536 + dd (R r) 3) <<< ((nI 16).toInt64 &&& 63) ||| (nI (dd (R r) 2)).toInt64)]) rfl ?_
  rw [lw_or d2 (by omega)]
  refine zR_m 15 (pc' := 25) rfl ?_
  refine zD_get (r := r) (j := 1) rfl (ix r 1) hr (by omega) rfl ?_
  refine zR_m 2 (pc' := 28) (st' := [.long (lN ((0 * 65536 + dd (R r) 3) * 65536 + dd (R r) 2) <<< ((nI 16).toInt64 &&& 63) ||| (nI (dd (R r) 1)).toInt64)]) rfl ?_
  rw [lw_or d1 (by omega)]
  refine zR_m 15 (pc' := 25) rfl ?_
  refine zD_get (r := r) (j := 0) rfl (ix r 0) hr (by omega) rfl ?_
  refine zR_m 2 (pc' := 28) (st' := [.long (lN (((0 * 65536 + dd (R r) 3) * 65536 + dd (R r) 2) * 65536 + dd (R r) 1) <<< ((nI 16).toInt64 &&& 63) ||| (nI (dd (R r) 0)).toInt64)]) rfl ?_
  rw [lw_or d0 (by omega)]
  refine zR_m 6 (pc' := 36) rfl ?_
  refine zR_q rfl rfl rfl rfl rfl ?_ rfl
  rw [Nat.zero_mul, Nat.zero_add, lw4]
end MO
end
section
/-! adding and subtracting rows -/
theorem iZ_and16 {v : Int} : iZ v &&& 65535 = nI (v % 65536).toNat := by
  rw [pk_and (iZ v) (m := 65535) 16 rfl]
  congr 1
  show (BitVec.ofInt 32 v).toNat % 2 ^ 16 = _
  rw [BitVec.toNat_ofInt]
  omega
theorem iZ_shr16 {v : Int} (h1 : -2147483648 ≤ v) (h2 : v < 2147483648) : iZ v >>> ((16 : Int32) &&& 31) = iZ (v / 65536) := by
  have h := pk_shr (iZ v) ((16 : Int32) &&& 31) 16 rfl
  rw [iZ_toInt h1 h2, Int.shiftRight_eq_div_pow] at h
  rw [iZ_of (iZ v >>> ((16 : Int32) &&& 31)), h]
  rfl
theorem dd_div (x k i : Nat) : dd (x / 65536 ^ k) i = dd x (k + i) := by
  unfold dd
  rw [Nat.div_div_eq_div_mul, ← Nat.pow_add]
theorem dd_0 {v : Nat} (h : v < 65536) : dd v 0 = v := by
  unfold dd
  rw [Nat.pow_zero, Nat.div_one, Nat.mod_eq_of_lt h]
/-- the digits below k are of y, those from k on of x -/
def mix (k y x : Nat) : Nat := y + x / 65536 ^ k * 65536 ^ k
theorem dd_mix {k y x : Nat} (hy : y < 65536 ^ k) (j : Nat) : dd (mix k y x) j = if j < k then dd y j else dd x j := by
  unfold mix
  rw [dd_join hy]
  split
  · rfl
  · rw [dd_div]; congr 1; omega
theorem mix_lt {k y x : Nat} (hk : k ≤ 32) (hy : y < 65536 ^ k) (hx : x < 65536 ^ 32) : mix k y x < 65536 ^ 32 := by
  unfold mix
  have e : 65536 ^ 32 = 65536 ^ (32 - k) * 65536 ^ k := by rw [← Nat.pow_add]; congr 1; omega
  have h1 : x / 65536 ^ k < 65536 ^ (32 - k) := Nat.div_lt_of_lt_mul (by rw [Nat.mul_comm, ← e]; exact hx)
  have h2 : (x / 65536 ^ k + 1) * 65536 ^ k ≤ 65536 ^ (32 - k) * 65536 ^ k := Nat.mul_le_mul_right _ h1
  rw [Nat.add_mul, Nat.one_mul] at h2
  rw [e]
  omega
/-- one more digit -/
theorem mix_dd {k y x v : Nat} (hy : y < 65536 ^ k) (hv : v < 65536) (i : Nat) : dd (mix (k + 1) (y + v * 65536 ^ k) x) i = if i = k then v else dd (mix k y x) i := by
  have h1 : y + v * 65536 ^ k < 65536 ^ (k + 1) := by
    have : (v + 1) * 65536 ^ k ≤ 65536 * 65536 ^ k := Nat.mul_le_mul_right _ hv
    rw [Nat.add_mul, Nat.one_mul] at this
    rw [Nat.pow_succ, Nat.mul_comm (65536 ^ k)]
    omega
  rw [dd_mix h1, dd_mix hy]
  by_cases h : i = k
  · rw [if_pos h, if_pos (by omega), dd_join hy, if_neg (by omega), h, Nat.sub_self, dd_0 hv]
  · rw [if_neg h]
    by_cases h2 : i < k
    · rw [if_pos (by omega), if_pos h2, dd_join hy, if_pos h2]
    · rw [if_neg (by omega), if_neg h2]
/-- what stands below digit k -/
def adT (s : Int) (x y k : Nat) : Int := (x % 65536 ^ k : Nat) + s * (y % 65536 ^ k : Nat)
def adL (s : Int) (x y k : Nat) : Nat := (adT s x y k % (65536 ^ k : Nat)).toNat
def adC (s : Int) (x y k : Nat) : Int := adT s x y k / (65536 ^ k : Nat)
theorem adL_lt (s : Int) (x y k : Nat) : adL s x y k < 65536 ^ k := by
  have := Bp k
  have h1 := Int.emod_lt_of_pos (adT s x y k) (b := (65536 ^ k : Nat)) (by omega)
  have h2 := Int.emod_nonneg (adT s x y k) (b := (65536 ^ k : Nat)) (by omega)
  unfold adL
  omega
theorem adC_rng {s : Int} (hs : s = 1 ∨ s = -1) (x y k : Nat) : -1 ≤ adC s x y k ∧ adC s x y k ≤ 1 := by
  have hp := Bp k
  have h1 : x % 65536 ^ k < 65536 ^ k := Nat.mod_lt _ hp
  have h2 : y % 65536 ^ k < 65536 ^ k := Nat.mod_lt _ hp
  unfold adC adT
  generalize x % 65536 ^ k = p at *
  generalize y % 65536 ^ k = q at *
  generalize 65536 ^ k = w at *
  constructor
  · rw [Int.le_ediv_iff_mul_le (by omega)]
    rcases hs with rfl | rfl <;> omega
  · have : ((p : Int) + s * q) / (w : Int) < 2 := by
      rw [Int.ediv_lt_iff_lt_mul (by omega)]
      rcases hs with rfl | rfl <;> omega
    omega
theorem ad1 {T v : Int} {l w : Nat} (hl : l < w) (e : T = (l : Int) + v * (w : Int)) : (T % ((w * 65536 : Nat) : Int)).toNat = l + (v % 65536).toNat * w ∧ T / ((w * 65536 : Nat) : Int) = v / 65536 := by
  have hv1 := Int.emod_nonneg v (b := 65536) (by decide)
  have hv2 := Int.emod_lt_of_pos v (b := 65536) (by decide)
  have hv3 := Int.emod_add_mul_ediv v 65536
  obtain ⟨r, hr⟩ := Int.eq_ofNat_of_zero_le hv1
  rw [hr] at hv2 hv3 ⊢
  generalize v / 65536 = m at *
  have e4 : T = ((l + r * w : Nat) : Int) + m * ((w * 65536 : Nat) : Int) := by
    rw [e, ← hv3, Int.natCast_add, Int.natCast_mul, Int.natCast_mul, Int.add_mul, Int.mul_comm 65536 m, Int.mul_assoc, Int.mul_comm 65536 (w : Int)]
    exact (Int.add_assoc _ _ _).symm
  have hlt : l + r * w < w * 65536 := by
    have : (r + 1) * w ≤ 65536 * w := Nat.mul_le_mul_right _ (by omega)
    rw [Nat.add_mul, Nat.one_mul] at this
    omega
  rw [e4]
  generalize w * 65536 = W at *
  have hy : ((r : Int)).toNat = r := rfl
  rw [hy]
  generalize l + r * w = y at *
  constructor
  · rw [Int.add_mul_emod_self_right, Int.emod_eq_of_lt (by omega) (by omega)]
    rfl
  · rw [Int.add_mul_ediv_right _ _ (by omega), Int.ediv_eq_zero_of_lt (by omega) (by omega)]
    omega
theorem ad2 {A D p q w : Nat} {s : Int} : ((A + p * w : Nat) : Int) + s * ((D + q * w : Nat) : Int) = ((A : Int) + s * (D : Int)) + ((p : Int) + s * (q : Int)) * (w : Int) := by
  rw [Int.natCast_add, Int.natCast_add, Int.natCast_mul, Int.natCast_mul, Int.mul_add, Int.add_mul, Int.mul_assoc]
  generalize s * ((q : Int) * (w : Int)) = x
  generalize (p : Int) * (w : Int) = y
  omega
theorem ad_step (s : Int) (x y k : Nat) : adL s x y (k + 1) = adL s x y k + (((dd x k : Int) + s * dd y k + adC s x y k) % 65536).toNat * 65536 ^ k ∧ adC s x y (k + 1) = ((dd x k : Int) + s * dd y k + adC s x y k) / 65536 := by
  have hp := Bp k
  have hl := adL_lt s x y k
  have e2 : adT s x y k = (adL s x y k : Int) + adC s x y k * (65536 ^ k : Nat) := by
    have h1 := Int.emod_nonneg (adT s x y k) (b := (65536 ^ k : Nat)) (by omega)
    have h2 := Int.emod_add_mul_ediv (adT s x y k) (65536 ^ k : Nat)
    unfold adL adC
    rw [Int.mul_comm] at h2
    omega
  have e3 : adT s x y (k + 1) = (adL s x y k : Int) + ((dd x k : Int) + s * dd y k + adC s x y k) * (65536 ^ k : Nat) := by
    have e : adT s x y (k + 1) = adT s x y k + ((dd x k : Int) + s * dd y k) * (65536 ^ k : Nat) := by
      unfold adT
      rw [mod_split, mod_split]
      exact ad2
    rw [e, e2, Int.add_mul ((dd x k : Int) + s * dd y k)]
    generalize ((dd x k : Int) + s * dd y k) * (65536 ^ k : Nat) = z1
    generalize adC s x y k * (65536 ^ k : Nat) = z2
    omega
  have h9 := ad1 hl e3
  rw [← Nat.pow_succ] at h9
  exact h9
section MO
variable {L : Nat} {xs : Nat → Int32} {d : Nat} {mi : ZM} {pc : Nat} {lv : zL} {st st' : List Value} {h' : zH} {k k' : Nat} {o : zO} {pc' : Nat}
variable {C : Nat → zC} {u : zC} {a : Nat → Int32} {b : Nat → Int64} {K : Nat → Int32} {B : Nat → Bool} {E : Nat → Int32} {S M : Nat → Int64} {R : Nat → Nat}
set_option maxRecDepth 10000 in
theorem l_Mo_add {p q X Y : Nat} {s : Int} (hs : s = 1 ∨ s = -1) (hp : p < 5) (hq : q < 5) (hpq : q ≠ p) (hX : X < 65536 ^ 32) : ∀ (t : Nat) {j : Nat}, t + j = 32 → R p = mix j (adL s X Y j) X → R q = Y →
    zR L xs d m_Mo_add 6 [(5, .int (nI j)), (4, .int (iZ (adC s X Y j))), (0, .ref 20), (1, .int (nI p)), (2, .int (nI q)), (3, .int (iZ s))] [] (mH C u a b K B E S M R) 0 (.inl none) (mH C u a b K B E S M (fu R p (adL s X Y 32))) 0 := by
  intro t
  induction t generalizing R with
  | zero =>
    intro j ht h1 h2
    obtain rfl : j = 32 := by omega
    unfold mix at h1
    rw [Nat.div_eq_of_lt hX, Nat.zero_mul, Nat.add_zero] at h1
    refine zR_m 3 (pc' := 75) rfl ?_
    exact zR_e rfl rfl rfl rfl rfl (by rw [fu_self h1])
  | succ t ih =>
    intro j ht h1 h2
    have hl := adL_lt s X Y j
    obtain ⟨s1, s2⟩ := ad_step s X Y j
    have hc := adC_rng hs X Y j
    have d1 := dd_lt X j
    have d2 := dd_lt Y j
    refine zR_m 3 rfl ?_
    refine zR_if (fun h => absurd h (nI_ge (a := j) (b := 32) (by omega) (by decide))) (fun _ => ?_)
    refine zR_m 7 (pc' := 24) rfl ?_
    refine zD_get (r := p) (j := j) rfl (ix p j) hp (by omega) rfl ?_
    refine zR_m 8 (pc' := 37) rfl ?_
    refine zD_get (r := q) (j := j) rfl (ix q j) hq (by omega) rfl ?_
    rw [h1, dd_mix hl, if_neg (Nat.lt_irrefl _), h2]
    refine zR_m 4 (pc' := 43) (st' := [.int (nI (dd X j) + iZ s * nI (dd Y j) + iZ (adC s X Y j))]) rfl ?_
    rw [show nI (dd X j) + iZ s * nI (dd Y j) + iZ (adC s X Y j) = iZ ((dd X j : Int) + s * dd Y j + adC s X Y j) from by rw [← iZ_nat, ← iZ_nat, iZ_mul, iZ_add, iZ_add]]
    have hv : -200000 ≤ (dd X j : Int) + s * dd Y j + adC s X Y j ∧ (dd X j : Int) + s * dd Y j + adC s X Y j ≤ 200000 := by
      rcases hs with rfl | rfl <;> omega
    generalize (dd X j : Int) + s * dd Y j + adC s X Y j = v at *
    refine zR_m 11 (pc' := 61) rfl ?_
    refine zD_put (r := p) (j := j) (v := (v % 65536).toNat) (y := mix (j + 1) (adL s X Y (j + 1)) X) rfl (ix p j) hp (by omega) iZ_and16 (fun i hi => ?_) rfl ?_
    · rw [s1, mix_dd hl (by omega), h1]
    · refine zR_m 3 (pc' := 67) (st' := [.int (iZ v >>> ((16 : Int32) &&& 31))]) rfl ?_
      rw [iZ_shr16 (by omega) (by omega), ← s2]
      refine zR_m 3 (pc' := 6) rfl ?_
      have h9 := ih (R := fu R p (mix (j + 1) (adL s X Y (j + 1)) X)) (j := j + 1) (by omega) fu_s (by rw [fu_n hpq]; exact h2)
      rw [fu_fu] at h9
      refine zR_w h9 rfl rfl ⟨?_, rfl, rfl, rfl, rfl, rfl, trivial⟩
      rw [nI_succ j]
      rfl
theorem e_Mo_add {p q : Nat} {s : Int} (hs : s = 1 ∨ s = -1) (hp : p < 5) (hq : q < 5) (hpq : q ≠ p) (hR : Rok R) : zE L xs d m_Mo_add [.ref 20, .int (nI p), .int (nI q), .int (iZ s)] (mH C u a b K B E S M R) (.inl none) (mH C u a b K B E S M (fu R p (adL s (R p) (R q) 32))) := by
  refine ⟨0, Nat.zero_le _, ?_⟩
  refine zR_m 4 (pc' := 6) rfl ?_
  refine zR_w (l_Mo_add (X := R p) (Y := R q) hs hp hq hpq (hR p) 32 (j := 0) (by omega) ?_ rfl) rfl rfl ⟨rfl, ?_, rfl, rfl, rfl, rfl, trivial⟩
  · unfold mix adL adT
    simp [Nat.mod_one]
  · show some (Value.int 0) = _
    unfold adC adT
    simp [Nat.mod_one]
    rfl
theorem adL_add {x y : Nat} (h : x + y < 65536 ^ 32) : adL 1 x y 32 = x + y := by
  unfold adL adT
  rw [Nat.mod_eq_of_lt (show x < 65536 ^ 32 by omega), Nat.mod_eq_of_lt (show y < 65536 ^ 32 by omega)]
  generalize 65536 ^ 32 = W at *
  rw [Int.emod_eq_of_lt (by omega) (by omega)]
  omega
theorem adL_sub {x y : Nat} (hx : x < 65536 ^ 32) (h : y ≤ x) : adL (-1) x y 32 = x - y := by
  unfold adL adT
  rw [Nat.mod_eq_of_lt hx, Nat.mod_eq_of_lt (show y < 65536 ^ 32 by omega)]
  generalize 65536 ^ 32 = W at *
  rw [Int.emod_eq_of_lt (by omega) (by omega)]
  omega
end MO
end
section
/-! ===== lN to 2^62 under >> and >>> ===== -/
theorem pf_lI {a : Nat} (h : a < 2 ^ 63) : (lN a).toInt = (a : Int) := lg_ofNat_toInt h
theorem pf_shr {a d : Nat} {D : Int64} (hD : (D.toBitVec.smod 64).toNat = d) (h : a < 2 ^ 62) : lN a >>> D = lN (a / 2 ^ d) := by
  have hd : a / 2 ^ d ≤ a := Nat.div_le_self _ _
  apply Int64.toInt_inj.mp
  have e : (lN a >>> D).toInt = (lN a).toInt >>> d := by
    rw [← hD]
    exact BitVec.toInt_sshiftRight ..
  rw [e, Int.shiftRight_eq_div_pow, pf_lI (by omega), pf_lI (by omega)]
  rfl
end
section
/-! the product of two rows -/
def tmS (D x y i j : Nat) : Nat := D % 65536 ^ (i + j) + dd x i * (y % 65536 ^ j) * 65536 ^ i
theorem tm_step (D x y i j : Nat) : tmS D x y i (j + 1) = tmS D x y i j + (dd D (i + j) + dd x i * dd y j) * 65536 ^ (i + j) := by
  unfold tmS
  rw [← Nat.add_assoc i j 1, mod_split, mod_split, Nat.mul_add, Nat.add_mul, Nat.add_mul, Nat.pow_add]
  have e : dd x i * (dd y j * 65536 ^ j) * 65536 ^ i = dd x i * dd y j * (65536 ^ i * 65536 ^ j) := by
    rw [← Nat.mul_assoc, Nat.mul_assoc, Nat.mul_comm (65536 ^ j)]
  rw [e]
  omega
theorem tm1 {T v l w : Nat} (hw : 0 < w) (e : T = l + v * w) (hl : l < w) : T % (w * 65536) = l + v % 65536 * w ∧ T / (w * 65536) = v / 65536 := by
  have h1 : v % 65536 + 65536 * (v / 65536) = v := Nat.mod_add_div v 65536
  have h2 := Nat.mod_lt v (show 65536 > 0 by decide)
  have e4 : T = (l + v % 65536 * w) + v / 65536 * (w * 65536) := by
    have : v * w = v % 65536 * w + v / 65536 * (w * 65536) := by
      conv => lhs; rw [← h1]
      rw [Nat.add_mul, Nat.mul_comm 65536, Nat.mul_assoc, Nat.mul_comm 65536 w]
    omega
  have hlt : l + v % 65536 * w < w * 65536 := by
    have : (v % 65536 + 1) * w ≤ 65536 * w := Nat.mul_le_mul_right _ h2
    rw [Nat.add_mul, Nat.one_mul] at this
    omega
  have hW : 0 < w * 65536 := by omega
  rw [e4]
  generalize w * 65536 = W at *
  exact ⟨by rw [Nat.add_mul_mod_self_right, Nat.mod_eq_of_lt hlt], by rw [Nat.add_mul_div_right _ _ hW, Nat.div_eq_of_lt hlt, Nat.zero_add]⟩
theorem tm_next (D x y i j : Nat) : let v := dd x i * dd y j + dd D (i + j) + tmS D x y i j / 65536 ^ (i + j)
    tmS D x y i (j + 1) % 65536 ^ (i + j + 1) = tmS D x y i j % 65536 ^ (i + j) + v % 65536 * 65536 ^ (i + j) ∧ tmS D x y i (j + 1) / 65536 ^ (i + j + 1) = v / 65536 := by
  intro v
  have hw := Bp (i + j)
  have e : tmS D x y i (j + 1) = tmS D x y i j % 65536 ^ (i + j) + v * 65536 ^ (i + j) := by
    rw [tm_step]
    have h1 := Nat.mod_add_div (tmS D x y i j) (65536 ^ (i + j))
    show _ = _ + (dd x i * dd y j + dd D (i + j) + tmS D x y i j / 65536 ^ (i + j)) * _
    rw [Nat.add_mul (dd x i * dd y j + dd D (i + j)), Nat.add_comm (dd x i * dd y j)]
    rw [Nat.mul_comm] at h1
    omega
  have h9 := tm1 hw e (Nat.mod_lt _ hw)
  rw [← Nat.pow_succ] at h9
  exact h9
theorem tm_c (D x y i : Nat) : ∀ j, tmS D x y i j / 65536 ^ (i + j) < 65536 := by
  intro j
  induction j with
  | zero =>
    unfold tmS
    rw [Nat.pow_zero, Nat.mod_one, Nat.mul_zero, Nat.zero_mul, Nat.add_zero, Nat.add_zero, Nat.div_eq_of_lt (Nat.mod_lt _ (Bp i))]
    decide
  | succ j ih =>
    have h := (tm_next D x y i j).2
    rw [← Nat.add_assoc, h]
    have d1 := dd_lt x i
    have d2 := dd_lt y j
    have d3 := dd_lt D (i + j)
    have : dd x i * dd y j ≤ 65535 * 65535 := Nat.mul_le_mul (by omega) (by omega)
    omega
theorem tm_end {D x y i : Nat} (hD : D = (x % 65536 ^ i) * y % 65536 ^ 32) (hi : i ≤ 32) : tmS D x y i (32 - i) % 65536 ^ 32 = (x % 65536 ^ (i + 1)) * y % 65536 ^ 32 := by
  unfold tmS
  rw [show i + (32 - i) = 32 by omega, hD, Nat.mod_mod, mod_split x i, Nat.add_mul]
  have e : dd x i * (y % 65536 ^ (32 - i)) * 65536 ^ i % 65536 ^ 32 = dd x i * 65536 ^ i * y % 65536 ^ 32 := by
    have e1 : 65536 ^ 32 = 65536 ^ (32 - i) * 65536 ^ i := by rw [← Nat.pow_add]; congr 1; omega
    have e2 : y = y % 65536 ^ (32 - i) + 65536 ^ (32 - i) * (y / 65536 ^ (32 - i)) := (Nat.mod_add_div _ _).symm
    have e3 : dd x i * 65536 ^ i * y = dd x i * (y % 65536 ^ (32 - i)) * 65536 ^ i + dd x i * (y / 65536 ^ (32 - i)) * 65536 ^ 32 := by
      rw [e1]
      conv => lhs; rw [e2]
      generalize y % 65536 ^ (32 - i) = m
      generalize y / 65536 ^ (32 - i) = q
      generalize 65536 ^ (32 - i) = w
      generalize 65536 ^ i = z
      generalize dd x i = t
      rw [Nat.mul_add]
      congr 1
      · rw [Nat.mul_assoc, Nat.mul_assoc, Nat.mul_comm z]
      · rw [Nat.mul_assoc, Nat.mul_assoc]
        congr 1
        rw [Nat.mul_comm w q, ← Nat.mul_assoc, Nat.mul_comm z q, Nat.mul_assoc, Nat.mul_comm z w]
    rw [e3, Nat.add_mul_mod_self_right]
  rw [Nat.add_mod, Nat.mod_mod, e, ← Nat.add_mod]
section MO
variable {L : Nat} {xs : Nat → Int32} {d : Nat} {mi : ZM} {pc : Nat} {lv : zL} {st st' : List Value} {h' : zH} {k k' : Nat} {o : zO} {pc' : Nat}
variable {C : Nat → zC} {u : zC} {a : Nat → Int32} {b : Nat → Int64} {K : Nat → Int32} {B : Nat → Bool} {E : Nat → Int32} {S M : Nat → Int64} {R : Nat → Nat}
theorem tm_v {x y z c : Nat} (hx : x < 65536) (hy : y < 65536) (hz : z < 65536) : (nI x).toInt64 * (nI y).toInt64 + (nI z).toInt64 + lN c = lN (x * y + z + c) := by
  rw [nI_l (by omega), nI_l (by omega), nI_l (by omega), lN_mul, lN_add, lN_add]
theorem tm_and {v : Nat} (h : v < 2 ^ 64) : (lN v &&& 65535).toInt32 = nI (v % 65536) := by
  rw [show (65535 : Int64) = lN (65536 - 1) from rfl, g_mask (s := 16) rfl (by decide) h, lN_i]
theorem ix3 (r i j : Nat) : (32 : Int32) * nI r + nI i + nI j = nI (32 * r + (i + j)) := by
  rw [ix, nI_add, Nat.add_assoc]
theorem ij_lt {i j : Nat} (h : i + j < 32) : ¬ (nI 32 ≤ nI j + nI i) := by
  rw [nI_add]
  exact nI_ge (by omega) (by decide)
set_option maxRecDepth 10000 in
/-- the inner loop -/
theorem l_Mo_times {p q c i X Y D : Nat} (hp : p < 5) (hq : q < 5) (hc : c < 5) (hpc : p ≠ c) (hqc : q ≠ c) (hi : i < 16) {R9 : Nat → Nat} {h9 : zH}
    (kk : ∀ R' : Nat → Nat, R' c = tmS D X Y i (32 - i) % 65536 ^ 32 → (∀ r, r ≠ c → R' r = R9 r) → zR L xs d m_Mo_times 115 [(4, .int (nI i)), (0, .ref 20), (1, .int (nI p)), (2, .int (nI q)), (3, .int (nI c))] [] (mH C u a b K B E S M R') 0 (.inl none) h9 0) (hD : D < 65536 ^ 32) (hX : R9 p = X) (hY : R9 q = Y) :
    ∀ (t : Nat) {j : Nat}, t + (i + j) = 32 → R c = mix (i + j) (tmS D X Y i j % 65536 ^ (i + j)) D → (∀ r, r ≠ c → R r = R9 r) →
    zR L xs d m_Mo_times 21 [(7, .int (nI j)), (5, .long (lN (tmS D X Y i j / 65536 ^ (i + j)))), (4, .int (nI i)), (0, .ref 20), (1, .int (nI p)), (2, .int (nI q)), (3, .int (nI c))] [] (mH C u a b K B E S M R) 0 (.inl none) h9 0 := by
  intro t
  induction t generalizing R with
  | zero =>
    intro j ht h1 h2
    obtain rfl : j = 32 - i := by omega
    rw [show i + (32 - i) = 32 by omega] at h1 ⊢
    unfold mix at h1
    rw [Nat.div_eq_of_lt hD, Nat.zero_mul, Nat.add_zero] at h1
    refine zR_m 5 (pc' := _) rfl ?_
    refine zR_if (fun _ => ?_) (fun h => absurd ?_ h)
    · refine zR_w (kk R h1 h2) rfl rfl ⟨rfl, rfl, rfl, rfl, rfl, trivial⟩
    · show nI 32 ≤ nI (32 - i) + nI i
      rw [nI_add]
      exact nI_le (by omega) (by omega)
  | succ t ih =>
    intro j ht h1 h2
    have hl : tmS D X Y i j % 65536 ^ (i + j) < 65536 ^ (i + j) := Nat.mod_lt _ (Bp _)
    obtain ⟨s1, s2⟩ := tm_next D X Y i j
    have hcy := tm_c D X Y i j
    have d1 := dd_lt X i
    have d2 := dd_lt Y j
    have d3 := dd_lt D (i + j)
    have hm : dd X i * dd Y j ≤ 65535 * 65535 := Nat.mul_le_mul (by omega) (by omega)
    refine zR_m 5 rfl ?_
    refine zR_if (fun h => absurd h (ij_lt (by omega))) (fun _ => ?_)
    refine zR_m 7 (pc' := 42) rfl ?_
    refine zD_get (r := p) (j := i) rfl (ix p i) hp (by omega) rfl ?_
    refine zR_m 8 (pc' := 55) rfl ?_
    refine zD_get (r := q) (j := j) rfl (ix q j) hq (by omega) rfl ?_
    refine zR_m 11 (pc' := 72) rfl ?_
    refine zD_get (r := c) (j := i + j) rfl (ix3 c i j) hc (by omega) rfl ?_
    rw [h2 p hpc, h2 q hqc, hX, hY, h1, dd_mix hl, if_neg (Nat.lt_irrefl _)]
    refine zR_m 4 (pc' := 78) (st' := [.long ((nI (dd X i)).toInt64 * (nI (dd Y j)).toInt64 + (nI (dd D (i + j))).toInt64 + lN (tmS D X Y i j / 65536 ^ (i + j)))]) rfl ?_
    rw [tm_v d1 d2 d3]
    generalize hv : dd X i * dd Y j + dd D (i + j) + tmS D X Y i j / 65536 ^ (i + j) = v at *
    refine zR_m 14 (pc' := 101) rfl ?_
    refine zD_put (r := c) (j := i + j) (v := v % 65536) (y := mix (i + j + 1) (tmS D X Y i (j + 1) % 65536 ^ (i + j + 1)) D) rfl (ix3 c i j) hc (by omega) (tm_and (by omega)) (fun e he => ?_) rfl ?_
    · rw [s1, mix_dd hl (Nat.mod_lt _ (by decide)), h1]
    · refine zR_m 3 (pc' := 107) (st' := [.long (lN v >>> ((nI 16).toInt64 &&& 63))]) rfl ?_
      rw [pf_shr (d := 16) (by decide) (by omega), show (2 : Nat) ^ 16 = 65536 from rfl, ← s2]
      refine zR_m 3 (pc' := 21) rfl ?_
      have h8 := ih (R := fu R c (mix (i + j + 1) (tmS D X Y i (j + 1) % 65536 ^ (i + j + 1)) D)) (j := j + 1) (by omega) (by rw [fu_s, Nat.add_assoc]) (fun r hr => by rw [fu_n hr]; exact h2 r hr)
      refine zR_w h8 rfl rfl ⟨?_, rfl, rfl, rfl, rfl, rfl, rfl, trivial⟩
      rw [nI_succ j]
      rfl
set_option maxRecDepth 10000 in
/-- the outer loop -/
theorem l_Mo_times2 {p q c X Y : Nat} (hp : p < 5) (hq : q < 5) (hc : c < 5) (hpc : p ≠ c) (hqc : q ≠ c) {R9 : Nat → Nat} (hX : R9 p = X) (hY : R9 q = Y) :
    ∀ (t : Nat) {i : Nat} {R : Nat → Nat}, t + i = 16 → R c = (X % 65536 ^ i) * Y % 65536 ^ 32 → (∀ r, r ≠ c → R r = R9 r) →
    zR L xs d m_Mo_times 8 [(4, .int (nI i)), (0, .ref 20), (1, .int (nI p)), (2, .int (nI q)), (3, .int (nI c))] [] (mH C u a b K B E S M R) 0 (.inl none) (mH C u a b K B E S M (fu R9 c ((X % 65536 ^ 16) * Y % 65536 ^ 32))) 0 := by
  intro t
  induction t with
  | zero =>
    intro i R ht h1 h2
    obtain rfl : i = 16 := by omega
    refine zR_m 3 (pc' := 121) rfl ?_
    refine zR_e rfl rfl rfl rfl rfl ?_
    congr 1
    funext r
    by_cases hr : r = c
    · rw [hr, fu_s, h1]
    · rw [fu_n hr, h2 r hr]
  | succ t ih =>
    intro i R ht h1 h2
    refine zR_m 3 rfl ?_
    refine zR_if (fun h => absurd h (nI_ge (a := i) (b := 16) (by omega) (by decide))) (fun _ => ?_)
    refine zR_m 4 (pc' := 21) rfl ?_
    have hD : R c < 65536 ^ 32 := by rw [h1]; exact Nat.mod_lt _ (Bp 32)
    have h8 := l_Mo_times (L := L) (xs := xs) (d := d) (C := C) (u := u) (a := a) (b := b) (K := K) (B := B) (E := E) (S := S) (M := M) (R := R) (R9 := R9) (h9 := mH C u a b K B E S M (fu R9 c ((X % 65536 ^ 16) * Y % 65536 ^ 32))) (D := R c) (X := X) (Y := Y) (i := i) hp hq hc hpc hqc (by omega) (fun R' e1 e2 => by
      refine zR_m 2 (pc' := 8) rfl ?_
      refine zR_w (ih (i := i + 1) (R := R') (by omega) (by rw [e1, tm_end h1 (by omega)]) e2) rfl rfl ⟨?_, rfl, rfl, rfl, rfl, trivial⟩
      rw [nI_succ i]
      rfl) hD hX hY (32 - i) (j := 0) (by omega) (by
        unfold mix tmS
        rw [Nat.pow_zero, Nat.mod_one, Nat.mul_zero, Nat.zero_mul, Nat.add_zero, Nat.add_zero, Nat.mod_mod, Nat.mul_comm]
        exact (Nat.mod_add_div _ _).symm) h2
    refine zR_w h8 rfl rfl ⟨rfl, ?_, rfl, rfl, rfl, rfl, rfl, trivial⟩
    show some (Value.long 0) = _
    unfold tmS
    rw [Nat.pow_zero, Nat.mod_one, Nat.mul_zero, Nat.zero_mul, Nat.add_zero, Nat.add_zero, Nat.div_eq_of_lt (Nat.mod_lt _ (Bp i))]
    rfl
theorem e_Mo_times {p q c : Nat} (hp : p < 5) (hq : q < 5) (hc : c < 5) (hpc : p ≠ c) (hqc : q ≠ c) (hR : Rok R) (hX : R p < 65536 ^ 16) : zE L xs (d + 1) m_Mo_times [.ref 20, .int (nI p), .int (nI q), .int (nI c)] (mH C u a b K B E S M R) (.inl none) (mH C u a b K B E S M (fu R c (R p * R q % 65536 ^ 32))) := by
  refine ⟨0, Nat.zero_le _, ?_⟩
  refine zR_m 2 rfl ?_
  refine zR_v rfl rfl rfl rfl rfl ⟨rfl, Nat.le_of_ble_eq_true rfl, Nat.le_of_ble_eq_true rfl⟩ rfl (Nat.le_refl _) (e_Mo_blank hc hR) rfl rfl ?_
  refine zR_m 2 (pc' := 8) rfl ?_
  have h8 := l_Mo_times2 (L := L) (xs := xs) (d := d + 1) (C := C) (u := u) (a := a) (b := b) (K := K) (B := B) (E := E) (S := S) (M := M) (R9 := R) (X := R p) (Y := R q) hp hq hc hpc hqc rfl rfl 16 (i := 0) (R := fu R c 0) (by omega) (by rw [fu_s, Nat.pow_zero, Nat.mod_one, Nat.zero_mul, Nat.zero_mod]) (fun r hr => fu_n hr)
  rw [Nat.mod_eq_of_lt hX] at h8
  exact zR_w h8 rfl rfl ⟨rfl, rfl, rfl, rfl, rfl, trivial⟩
end MO
end
section
/-! The reference's values: kind, sign, exponent, significand of eleven places -/
abbrev RV : Type := Int32 × Bool × Int32 × Int64
abbrev mV (C : Nat → zC) (u : zC) (a : Nat → Int32) (b : Nat → Int64) (V : Nat → RV) (M : Nat → Int64) (R : Nat → Nat) : zH := mH C u a b (fun i => (V i).1) (fun i => (V i).2.1) (fun i => (V i).2.2.1) (fun i => (V i).2.2.2) M R
theorem nar_bI (x : Bool) : vp_nar .boolean (bI x) = bI x := by cases x <;> rfl
theorem nB_up {B : Nat → Bool} {n : Nat} {x : Bool} : upd (nB B) n (bI x) = nB (fu B n x) := by
  funext i
  unfold upd nB fu
  split <;> rfl
section VA
variable {L : Nat} {xs : Nat → Int32} {d : Nat} {mi : ZM} {pc : Nat} {lv : zL} {st st' : List Value} {h' : zH} {k k' : Nat} {o : zO} {pc' : Nat}
variable {C : Nat → zC} {u : zC} {a : Nat → Int32} {b : Nat → Int64} {K : Nat → Int32} {B : Nat → Bool} {E : Nat → Int32} {S M : Nat → Int64} {R : Nat → Nat} {V : Nat → RV}
theorem zK_get {x : Int32} {n : Nat} (hf : zfetch mi pc = some (.iaload, 1)) (hx : x = nI n) (hn : n < 11) (hp : pc + 1 = pc') (hR : zR L xs d mi pc' lv (.int (K n) :: st) (mH C u a b K B E S M R) k o h' k') : zR L xs d mi pc lv (.int x :: .ref 21 :: st) (mH C u a b K B E S M R) k o h' k' := by
  subst hx
  refine zR_ia hf rfl rfl (in_nI hn (by decide)) ?_ hp hR
  rw [nI_clamp (by omega)]
theorem zX_get {x : Int32} {n : Nat} (hf : zfetch mi pc = some (.iaload, 1)) (hx : x = nI n) (hn : n < 11) (hp : pc + 1 = pc') (hR : zR L xs d mi pc' lv (.int (E n) :: st) (mH C u a b K B E S M R) k o h' k') : zR L xs d mi pc lv (.int x :: .ref 23 :: st) (mH C u a b K B E S M R) k o h' k' := by
  subst hx
  refine zR_ia hf rfl rfl (in_nI hn (by decide)) ?_ hp hR
  rw [nI_clamp (by omega)]
theorem zB_get {x : Int32} {n : Nat} (hf : zfetch mi pc = some (.baload, 1)) (hx : x = nI n) (hn : n < 11) (hp : pc + 1 = pc') (hR : zR L xs d mi pc' lv (.int (bI (B n)) :: st) (mH C u a b K B E S M R) k o h' k') : zR L xs d mi pc lv (.int x :: .ref 22 :: st) (mH C u a b K B E S M R) k o h' k' := by
  subst hx
  refine zR_ba hf rfl (in_nI hn (by decide)) ?_ hp hR
  rw [nI_clamp (by omega)]
  rfl
theorem zS_get {x : Int32} {n : Nat} (hf : zfetch mi pc = some (.laload, 1)) (hx : x = nI n) (hn : n < 11) (hp : pc + 1 = pc') (hR : zR L xs d mi pc' lv (.long (S n) :: st) (mH C u a b K B E S M R) k o h' k') : zR L xs d mi pc lv (.int x :: .ref 24 :: st) (mH C u a b K B E S M R) k o h' k' := by
  subst hx
  refine zR_la hf rfl (in_nI hn (by decide)) ?_ hp hR
  rw [nI_clamp (by omega)]
theorem zM_get {x : Int32} {n : Nat} (hf : zfetch mi pc = some (.laload, 1)) (hx : x = nI n) (hn : n < 8) (hp : pc + 1 = pc') (hR : zR L xs d mi pc' lv (.long (M n) :: st) (mH C u a b K B E S M R) k o h' k') : zR L xs d mi pc lv (.int x :: .ref 25 :: st) (mH C u a b K B E S M R) k o h' k' := by
  subst hx
  refine zR_la hf rfl (in_nI hn (by decide)) ?_ hp hR
  rw [nI_clamp (by omega)]
theorem zK_put {x w : Int32} {n : Nat} (hf : zfetch mi pc = some (.iastore, 1)) (hx : x = nI n) (hn : n < 11) (hp : pc + 1 = pc') (hR : zR L xs d mi pc' lv st (mH C u a b (fu K n w) B E S M R) k o h' k') : zR L xs d mi pc lv (.int w :: .int x :: .ref 21 :: st) (mH C u a b K B E S M R) k o h' k' := by
  subst hx
  refine zR_is hf rfl (in_nI hn (by decide)) hp ?_
  rw [nI_clamp (by omega)]
  exact hR
theorem zX_put {x w : Int32} {n : Nat} (hf : zfetch mi pc = some (.iastore, 1)) (hx : x = nI n) (hn : n < 11) (hp : pc + 1 = pc') (hR : zR L xs d mi pc' lv st (mH C u a b K B (fu E n w) S M R) k o h' k') : zR L xs d mi pc lv (.int w :: .int x :: .ref 23 :: st) (mH C u a b K B E S M R) k o h' k' := by
  subst hx
  refine zR_is hf rfl (in_nI hn (by decide)) hp ?_
  rw [nI_clamp (by omega)]
  exact hR
theorem zB_put {x : Int32} {w : Bool} {n : Nat} (hf : zfetch mi pc = some (.bastore, 1)) (hx : x = nI n) (hn : n < 11) (hp : pc + 1 = pc') (hR : zR L xs d mi pc' lv st (mH C u a b K (fu B n w) E S M R) k o h' k') : zR L xs d mi pc lv (.int (bI w) :: .int x :: .ref 22 :: st) (mH C u a b K B E S M R) k o h' k' := by
  subst hx
  refine zR_bs hf rfl (in_nI hn (by decide)) hp ?_
  rw [nI_clamp (by omega), nar_bI, nB_up]
  exact hR
theorem zS_put {x : Int32} {w : Int64} {n : Nat} (hf : zfetch mi pc = some (.lastore, 1)) (hx : x = nI n) (hn : n < 11) (hp : pc + 1 = pc') (hR : zR L xs d mi pc' lv st (mH C u a b K B E (fu S n w) M R) k o h' k') : zR L xs d mi pc lv (.long w :: .int x :: .ref 24 :: st) (mH C u a b K B E S M R) k o h' k' := by
  subst hx
  refine zR_ls hf rfl (in_nI hn (by decide)) hp ?_
  rw [nI_clamp (by omega)]
  exact hR
theorem zM_put {x : Int32} {w : Int64} {n : Nat} (hf : zfetch mi pc = some (.lastore, 1)) (hx : x = nI n) (hn : n < 8) (hp : pc + 1 = pc') (hR : zR L xs d mi pc' lv st (mH C u a b K B E S (fu M n w) R) k o h' k') : zR L xs d mi pc lv (.long w :: .int x :: .ref 25 :: st) (mH C u a b K B E S M R) k o h' k' := by
  subst hx
  refine zR_ls hf rfl (in_nI hn (by decide)) hp ?_
  rw [nI_clamp (by omega)]
  exact hR
theorem fu_fst {α β : Type} {f : Nat → α} {g : α → β} {n : Nat} {r : α} {x : β} (hx : g r = x) : fu (fun i => g (f i)) n x = fun i => g (fu f n r i) := by
  subst hx
  funext i
  unfold fu
  split <;> rfl
theorem mV_fu {n : Nat} {k9 : Int32} {b9 : Bool} {e9 : Int32} {s9 : Int64} : mH C u a b (fu (fun i => (V i).1) n k9) (fu (fun i => (V i).2.1) n b9) (fu (fun i => (V i).2.2.1) n e9) (fu (fun i => (V i).2.2.2) n s9) M R = mV C u a b (fu V n (k9, b9, e9, s9)) M R := by
  rw [fu_fst (f := V) (g := fun r => r.1) (r := (k9, b9, e9, s9)) rfl, fu_fst (f := V) (g := fun r => r.2.1) (r := (k9, b9, e9, s9)) rfl, fu_fst (f := V) (g := fun r => r.2.2.1) (r := (k9, b9, e9, s9)) rfl, fu_fst (f := V) (g := fun r => r.2.2.2) (r := (k9, b9, e9, s9)) rfl]
set_option maxRecDepth 10000 in
theorem e_Mo_copy {f t : Nat} (hf : f < 11) (ht : t < 11) : zE L xs d m_Mo_copy [.ref 20, .int (nI f), .int (nI t)] (mV C u a b V M R) (.inl none) (mV C u a b (fu V t (V f)) M R) := by
  refine ⟨0, Nat.zero_le _, ?_⟩
  refine zR_m 6 (pc' := 10) rfl ?_
  refine zK_get rfl rfl hf rfl ?_
  refine zK_put rfl rfl ht rfl ?_
  refine zR_m 6 (pc' := 22) rfl ?_
  refine zB_get rfl rfl hf rfl ?_
  refine zB_put rfl rfl ht rfl ?_
  refine zR_m 6 (pc' := 34) rfl ?_
  refine zX_get rfl rfl hf rfl ?_
  refine zX_put rfl rfl ht rfl ?_
  refine zR_m 6 (pc' := 46) rfl ?_
  refine zS_get rfl rfl hf rfl ?_
  refine zS_put rfl rfl ht rfl ?_
  refine zR_e rfl rfl rfl rfl rfl ?_
  exact mV_fu
set_option maxRecDepth 10000 in
theorem e_Mo_special {kd : Int32} {mb : Bool} : zE L xs d m_Mo_special [.ref 20, .int kd, .int (bI mb)] (mV C u a b V M R) (.inl none) (mV C u a b (fu V 10 (kd, decide (kd ≠ 3) && mb, 0, 0)) M R) := by
  have fin : ∀ w : Bool, (decide (kd ≠ 3) && mb) = w → zR L xs d m_Mo_special 28 [(0, .ref 20), (1, .int kd), (2, .int (bI mb))] [.int (bI w), .int (nI 10), .ref 22] (mH C u a b (fu (fun i => (V i).1) 10 kd) (fun i => (V i).2.1) (fun i => (V i).2.2.1) (fun i => (V i).2.2.2) M R) 0 (.inl none) (mV C u a b (fu V 10 (kd, decide (kd ≠ 3) && mb, 0, 0)) M R) 0 := by
    intro w hw
    refine zB_put rfl rfl (by decide) rfl ?_
    refine zR_m 4 (pc' := 36) rfl ?_
    refine zX_put (n := 10) rfl rfl (by decide) rfl ?_
    refine zR_m 4 (pc' := 44) rfl ?_
    refine zS_put (n := 10) rfl rfl (by decide) rfl ?_
    refine zR_e rfl rfl rfl rfl rfl ?_
    rw [hw]
    exact mV_fu
  refine ⟨0, Nat.zero_le _, ?_⟩
  refine zR_m 4 (pc' := 7) rfl ?_
  refine zK_put (n := 10) rfl rfl (by decide) rfl ?_
  refine zR_m 6 rfl ?_
  refine zR_if (fun h => ?_) (fun h => ?_)
  · have h9 := fin false (by rw [show kd = 3 from h]; rfl)
    exact zR_m 1 (pc' := 28) rfl h9
  · have h9 := fin mb (by rw [decide_eq_true (show kd ≠ 3 from h)]; rfl)
    cases mb with
    | false => exact zR_m 3 (pc' := 28) rfl h9
    | true => exact zR_m 4 (pc' := 28) rfl h9
set_option maxRecDepth 10000 in
theorem e_Mo_invalid : zE L xs (d + 1) m_Mo_invalid [.ref 20] (mV C u a b V M R) (.inl none) (mV C u (fu a 5 (a 5 ||| 1)) b (fu V 10 (3, false, 0, 0)) M R) := by
  refine ⟨0, Nat.zero_le _, ?_⟩
  refine zR_m 9 (pc' := 13) (st' := [.int (bI false), .int 3, .ref 20]) (h1 := mV C u (fu a 5 (a 5 ||| 1)) b V M R) rfl ?_
  refine zR_v rfl rfl rfl rfl rfl ⟨rfl, Nat.le_of_ble_eq_true rfl, Nat.le_of_ble_eq_true rfl⟩ rfl (Nat.le_refl _) e_Mo_special rfl rfl ?_
  exact zR_e rfl rfl rfl rfl rfl rfl
end VA
end
section
/-! .. until a place in the code -/
def zto (L : Nat) (xs : Nat → Int32) (mi : ZM) (tg : Nat) : Nat → Nat → zL → List Value → zH → Option (zL × List Value × zH)
  | 0, _, _, _, _ => none
  | n + 1, pc, lv, st, h => if pc = tg then some (lv, st, h) else match zfetch mi pc with
    | some (i, _) => (match z1 pc i lv st with
      | some (pc', lv', st') => zto L xs mi tg n pc' lv' st' h
      | none => (match z2 L xs (zCno mi) i st h with
        | some (w, st', h') => zto L xs mi tg n (pc + w) lv st' h'
        | none => none))
    | none => none
theorem zR_to' {L : Nat} {xs : Nat → Int32} {d : Nat} {mi : ZM} {tg : Nat} {lv' : zL} {st' : List Value} {h1 h' : zH} {k k' : Nat} {o : zO} : ∀ (n : Nat) {pc : Nat} {lv : zL} {st : List Value} {h : zH}, zto L xs mi tg n pc lv st h = some (lv', st', h1) → zR L xs d mi tg lv' st' h1 k o h' k' → zR L xs d mi pc lv st h k o h' k'
  | 0, pc, lv, st, h, h0, hR => by
    unfold zto at h0
    cases h0
  | n + 1, pc, lv, st, h, h0, hR => by
    unfold zto at h0
    split at h0
    · rename_i hp
      subst hp
      cases h0
      exact hR
    · split at h0
      · rename_i i nn hf
        split at h0
        · rename_i a b c h1
          exact zR_s hf h1 (zR_to' n h0 hR)
        · rename_i hn
          split at h0
          · rename_i a b c h2
            exact zR_h hf hn h2 rfl (zR_to' n h0 hR)
          · cases h0
      · cases h0
theorem zR_to {L : Nat} {xs : Nat → Int32} {d : Nat} {mi : ZM} (tg : Nat) {lv' : zL} {st' : List Value} {h1 h' : zH} {k k' : Nat} {o : zO} {pc : Nat} {lv : zL} {st : List Value} {h : zH} (h0 : zto L xs mi tg 80 pc lv st h = some (lv', st', h1)) (hR : zR L xs d mi tg lv' st' h1 k o h' k') : zR L xs d mi pc lv st h k o h' k' := zR_to' 80 h0 hR
end
section
/-! What rounding is: a positive number M * 2^q by its exponent e, its first 65 bits W, and whether there is more below (s) -/
def Can (M : Nat) (q e : Int) (W : Nat) (s : Bool) : Prop := ∃ t r : Nat, M * 2 ^ 64 = W * 2 ^ t + r ∧ r < 2 ^ t ∧ 2 ^ 64 ≤ W ∧ W < 2 ^ 65 ∧ e = (t : Int) + q ∧ s = decide (r ≠ 0)
theorem pow_pos2 (t : Nat) : 0 < 2 ^ t := Nat.pow_pos (by decide)
theorem top_uniq {M t t' : Nat} (h1 : 2 ^ t ≤ M) (h2 : M < 2 ^ (t + 1)) (h3 : 2 ^ t' ≤ M) (h4 : M < 2 ^ (t' + 1)) : t = t' := by
  rcases Nat.lt_trichotomy t t' with h | h | h
  · have := Nat.pow_le_pow_right (n := 2) (by decide) (show t + 1 ≤ t' by omega)
    omega
  · exact h
  · have := Nat.pow_le_pow_right (n := 2) (by decide) (show t' + 1 ≤ t by omega)
    omega
theorem Can.top {M : Nat} {W t r : Nat} (h : M * 2 ^ 64 = W * 2 ^ t + r) (hr : r < 2 ^ t) (h1 : 2 ^ 64 ≤ W) (h2 : W < 2 ^ 65) : 2 ^ t ≤ M ∧ M < 2 ^ (t + 1) := by
  have hp := pow_pos2 t
  constructor
  · have h3 : 2 ^ 64 * 2 ^ t ≤ W * 2 ^ t := Nat.mul_le_mul_right _ h1
    have h4 : 2 ^ t * 2 ^ 64 ≤ M * 2 ^ 64 := by rw [h, Nat.mul_comm (2 ^ t)]; omega
    exact Nat.le_of_mul_le_mul_right h4 (by decide)
  · have h3 : (W + 1) * 2 ^ t ≤ 2 ^ 65 * 2 ^ t := Nat.mul_le_mul_right _ h2
    have h4 : M * 2 ^ 64 < 2 ^ (t + 1) * 2 ^ 64 := by
      rw [h]
      have e1 : 2 ^ (t + 1) * 2 ^ 64 = 2 ^ 65 * 2 ^ t := by rw [← Nat.pow_add, ← Nat.pow_add]; congr 1; omega
      rw [e1]
      rw [Nat.add_mul, Nat.one_mul] at h3
      omega
    exact Nat.lt_of_mul_lt_mul_right h4
theorem Can.uniq {M W W' : Nat} {q e e' : Int} {s s' : Bool} (h : Can M q e W s) (h' : Can M q e' W' s') : e = e' ∧ W = W' ∧ s = s' := by
  obtain ⟨t, r, a1, a2, a3, a4, a5, a6⟩ := h
  obtain ⟨t', r', b1, b2, b3, b4, b5, b6⟩ := h'
  obtain ⟨c1, c2⟩ := Can.top a1 a2 a3 a4
  obtain ⟨d1, d2⟩ := Can.top b1 b2 b3 b4
  have ht := top_uniq c1 c2 d1 d2
  subst ht
  have hW : W = M * 2 ^ 64 / 2 ^ t := by
    rw [a1, Nat.add_comm, Nat.add_mul_div_right _ _ (pow_pos2 t), Nat.div_eq_of_lt a2, Nat.zero_add]
  have hW' : W' = M * 2 ^ 64 / 2 ^ t := by
    rw [b1, Nat.add_comm, Nat.add_mul_div_right _ _ (pow_pos2 t), Nat.div_eq_of_lt b2, Nat.zero_add]
  have hr : r = M * 2 ^ 64 % 2 ^ t := by rw [a1, Nat.add_comm, Nat.add_mul_mod_self_right, Nat.mod_eq_of_lt a2]
  have hr' : r' = M * 2 ^ 64 % 2 ^ t := by rw [b1, Nat.add_comm, Nat.add_mul_mod_self_right, Nat.mod_eq_of_lt b2]
  exact ⟨by omega, by omega, by rw [a6, b6, hr, hr']⟩
/-- taken upwards in magnitude? way: 0 nearest, 1 down, 2 up, 3 towards zero -/
def rUp (way : Nat) (neg odd half rest : Bool) : Bool := if way = 0 then half && (rest || odd) else if way = 1 then neg && (half || rest) else if way = 2 then !neg && (half || rest) else false
def rBelow (way : Nat) (neg : Bool) : Bool := way == 3 || (if neg then way == 2 else way == 1)
/-- the rounding to p bits with exponents from 1 - g to g: (kind, sign, exponent, significand), exceptions -/
def RND (way p : Nat) (g : Int) (neg : Bool) (e : Int) (W : Nat) (s : Bool) : (Nat × Bool × Int × Nat) × Nat :=
  let K := W / 2 ^ (65 - p)
  let half := W / 2 ^ (64 - p) % 2 == 1
  let rest := W % 2 ^ (64 - p) != 0 || s
  let K1 := if rUp way neg (K % 2 == 1) half rest then K + 1 else K
  let e1 := if K1 = 2 ^ p then e + 1 else e
  let sg := if K1 = 2 ^ p then 2 ^ 63 else K1 * 2 ^ (64 - p)
  if e1 > g then ((if rBelow way neg then (1, neg, g, 2 ^ 64 - 2 ^ (64 - p)) else (2, neg, 0, 0)), 20)
  else if e1 < 1 - g then ((0, neg, 0, 0), 24)
  else ((1, neg, e1, sg), if half || rest then 16 else 0)
end
section
section UP
variable {L : Nat} {xs : Nat → Int32} {d : Nat} {mi : ZM} {pc : Nat} {lv : zL} {st st' : List Value} {h' : zH} {k k' : Nat} {o : zO} {pc' : Nat}
variable {C : Nat → zC} {u : zC} {a : Nat → Int32} {b : Nat → Int64} {K : Nat → Int32} {B : Nat → Bool} {E : Nat → Int32} {S M : Nat → Int64} {R : Nat → Nat} {V : Nat → RV}
theorem below_step (X j : Nat) : decide (X % 2 ^ (j + 1) ≠ 0) = (decide (X % 2 ^ j ≠ 0) || decide (X / 2 ^ j % 2 = 1)) := by
  have e : X % 2 ^ (j + 1) = X % 2 ^ j + 2 ^ j * (X / 2 ^ j % 2) := by rw [Nat.pow_succ, Nat.mod_mul]
  have hp : 0 < 2 ^ j := Nat.pow_pos (by decide)
  have h2 := Nat.mod_lt (X / 2 ^ j) (show 2 > 0 by decide)
  rw [e]
  generalize X % 2 ^ j = p at *
  generalize X / 2 ^ j % 2 = q at *
  generalize 2 ^ j = w at *
  rcases (show q = 0 ∨ q = 1 by omega) with rfl | rfl
  · simp
  · rw [Nat.mul_one, decide_eq_true (show p + w ≠ 0 by omega)]
    simp
theorem bit01 (X n : Nat) : X / 2 ^ n % 2 = 0 ∨ X / 2 ^ n % 2 = 1 := by
  have := Nat.mod_lt (X / 2 ^ n) (show 2 > 0 by decide)
  omega
set_option maxRecDepth 10000 in
theorem l_Mo_goesUp {n X : Nat} {mb half : Bool} {a9 : Nat → Int32} {r9 : Option Value} (hn : 1 ≤ n) (hn2 : n < 512) (hX : R 0 = X)
    (kk : zR L xs (d + 1) m_Mo_goesUp 61 [(4, .int (bI (decide (X % 2 ^ (n - 1) ≠ 0)))), (3, .int (bI half)), (0, .ref 20), (1, .int (nI n)), (2, .int (bI mb))] [] (mH C u a b K B E S M R) 0 (.inl r9) (mH C u a9 b K B E S M R) 0) : ∀ (t : Nat) {j : Nat}, t + j = n - 1 →
    zR L xs (d + 1) m_Mo_goesUp 24 [(5, .int (nI j)), (4, .int (bI (decide (X % 2 ^ j ≠ 0)))), (3, .int (bI half)), (0, .ref 20), (1, .int (nI n)), (2, .int (bI mb))] [] (mH C u a b K B E S M R) 0 (.inl r9) (mH C u a9 b K B E S M R) 0 := by
  have hn1 : nI n - 1 = nI (n - 1) := by
    obtain ⟨m, rfl⟩ : ∃ m, n = m + 1 := ⟨n - 1, by omega⟩
    exact nI_pred m
  intro t
  induction t with
  | zero =>
    intro j ht
    obtain rfl : j = n - 1 := by omega
    refine zR_m 4 (pc' := 29) (st' := [.int (nI n - 1), .int (nI (n - 1))]) rfl ?_
    rw [hn1]
    refine zR_m 1 rfl ?_
    refine zR_if (fun _ => ?_) (fun h => absurd (nI_le (Nat.le_refl _) (by omega)) h)
    exact zR_w kk rfl rfl ⟨rfl, rfl, rfl, rfl, rfl, trivial⟩
  | succ t ih =>
    intro j ht
    have h9 := ih (j := j + 1) (by omega)
    rw [below_step] at h9
    refine zR_m 4 (pc' := 29) (st' := [.int (nI n - 1), .int (nI j)]) rfl ?_
    rw [hn1]
    refine zR_m 1 rfl ?_
    refine zR_if (fun h => absurd h (nI_ge (a := j) (b := n - 1) (by omega) (by omega))) (fun _ => ?_)
    cases hb : decide (X % 2 ^ j ≠ 0) with
    | true =>
      rw [hb] at h9
      refine zR_m 7 (pc' := 24) rfl ?_
      refine zR_w h9 rfl rfl ⟨?_, rfl, rfl, rfl, rfl, rfl, trivial⟩
      rw [nI_succ j]
      rfl
    | false =>
      rw [hb] at h9
      refine zR_m 5 (pc' := 41) rfl ?_
      refine zR_v rfl rfl rfl rfl rfl ⟨rfl, Nat.le_of_ble_eq_true rfl, Nat.le_of_ble_eq_true rfl⟩ rfl (Nat.le_refl _) (e_Mo_bit (r := 0) (n := j) (by decide) (by omega)) rfl rfl ?_
      rw [hX]
      rcases bit01 X j with h1 | h1
      · rw [h1] at h9 ⊢
        refine zR_m 6 (pc' := 24) rfl ?_
        refine zR_w h9 rfl rfl ⟨?_, rfl, rfl, rfl, rfl, rfl, trivial⟩
        rw [nI_succ j]
        rfl
      · rw [h1] at h9 ⊢
        refine zR_m 7 (pc' := 24) rfl ?_
        refine zR_w h9 rfl rfl ⟨?_, rfl, rfl, rfl, rfl, rfl, trivial⟩
        rw [nI_succ j]
        rfl
/-- what goesUp answers, and whether it notes INEXACT -/
def gH (X n : Nat) : Bool := decide (X / 2 ^ (n - 1) % 2 = 1)
def gB (X n : Nat) : Bool := decide (X % 2 ^ (n - 1) ≠ 0)
def gO (X n : Nat) : Bool := decide (X / 2 ^ n % 2 = 1)
def nt (a : Nat → Int32) (x : Int32) : Nat → Int32 := fu a 5 (a 5 ||| x)
set_option maxRecDepth 10000 in
theorem t_Mo_goesUp {n X w : Nat} {mb half rest : Bool} (hn2 : n < 512) (hX : R 0 = X) (hw : a 2 = nI w) (hw4 : w < 4) :
    zR L xs (d + 1) m_Mo_goesUp 61 [(4, .int (bI rest)), (3, .int (bI half)), (0, .ref 20), (1, .int (nI n)), (2, .int (bI mb))] [] (mH C u a b K B E S M R) 0 (.inl (some (.int (bI (rUp w mb (gO X n) half rest))))) (mH C u (if half || rest then nt a 16 else a) b K B E S M R) 0 := by
  have ha : a = fu a 2 (nI w) := (fu_self hw).symm
  rw [ha]
  clear ha hw
  match w, hw4 with
  | 0, _ =>
    cases half with
    | false =>
      cases rest with
      | false => exact ⟨40, by rfl⟩
      | true => exact ⟨40, by rfl⟩
    | true =>
      cases rest with
      | false =>
        refine zR_m 18 (pc' := 102) (h1 := mH C u (nt (fu a 2 (nI 0)) 16) b K B E S M R) rfl ?_
        refine zR_v rfl rfl rfl rfl rfl ⟨rfl, Nat.le_of_ble_eq_true rfl, Nat.le_of_ble_eq_true rfl⟩ rfl (Nat.le_refl _) (e_Mo_bit (r := 0) (n := n) (by decide) hn2) rfl rfl ?_
        unfold gO
        rw [hX]
        rcases bit01 X n with h1 | h1
        · rw [h1]
          exact ⟨40, by rfl⟩
        · rw [h1]
          exact ⟨40, by rfl⟩
      | true => exact ⟨40, by rfl⟩
  | 1, _ => cases half <;> cases rest <;> cases mb <;> exact ⟨40, by rfl⟩
  | 2, _ => cases half <;> cases rest <;> cases mb <;> exact ⟨40, by rfl⟩
  | 3, _ => cases half <;> cases rest <;> cases mb <;> exact ⟨40, by rfl⟩
  | (m + 4), h => omega
set_option maxRecDepth 10000 in
theorem e_Mo_goesUp {n X w : Nat} {mb : Bool} (hn : 1 ≤ n) (hn2 : n < 512) (hX : R 0 = X) (hw : a 2 = nI w) (hw4 : w < 4) :
    zE L xs (d + 1) m_Mo_goesUp [.ref 20, .int (nI n), .int (bI mb)] (mH C u a b K B E S M R) (.inl (some (.int (bI (rUp w mb (gO X n) (gH X n) (gB X n)))))) (mH C u (if gH X n || gB X n then nt a 16 else a) b K B E S M R) := by
  have hn1 : nI n - 1 = nI (n - 1) := by
    obtain ⟨m, rfl⟩ : ∃ m, n = m + 1 := ⟨n - 1, by omega⟩
    exact nI_pred m
  refine ⟨0, Nat.zero_le _, ?_⟩
  refine zR_m 5 (pc' := 5) (st' := [.int (nI n - 1), .int (nI 0), .ref 20]) rfl ?_
  rw [hn1]
  refine zR_v rfl rfl rfl rfl rfl ⟨rfl, Nat.le_of_ble_eq_true rfl, Nat.le_of_ble_eq_true rfl⟩ rfl (Nat.le_refl _) (e_Mo_bit (r := 0) (n := n - 1) (by decide) (by omega)) rfl rfl ?_
  have h9 := l_Mo_goesUp (L := L) (xs := xs) (d := d) (C := C) (u := u) (b := b) (K := K) (B := B) (E := E) (S := S) (M := M) (half := gH X n) hn hn2 hX (t_Mo_goesUp (L := L) (xs := xs) (d := d) (C := C) (u := u) (b := b) (K := K) (B := B) (E := E) (S := S) (M := M) (mb := mb) (half := gH X n) (rest := decide (X % 2 ^ (n - 1) ≠ 0)) hn2 hX hw hw4) (n - 1) (j := 0) (by omega)
  rw [show decide (X % 2 ^ 0 ≠ 0) = false from by rw [Nat.pow_zero, Nat.mod_one]; rfl] at h9
  rw [hX]
  have hh : gH X n = decide (X / 2 ^ (n - 1) % 2 = 1) := rfl
  rcases bit01 X (n - 1) with h1 | h1
  · rw [h1]
    rw [show decide (X / 2 ^ (n - 1) % 2 = 1) = false from by rw [h1]; rfl] at hh
    refine zR_m 8 (pc' := 24) rfl ?_
    refine zR_w h9 rfl rfl ⟨rfl, rfl, ?_, rfl, rfl, rfl, trivial⟩
    rw [hh]
    rfl
  · rw [h1]
    rw [show decide (X / 2 ^ (n - 1) % 2 = 1) = true from by rw [h1]; rfl] at hh
    refine zR_m 9 (pc' := 24) rfl ?_
    refine zR_w h9 rfl rfl ⟨rfl, rfl, ?_, rfl, rfl, rfl, trivial⟩
    rw [hh]
    rfl
end UP
end
section
section RO
variable {L : Nat} {xs : Nat → Int32} {d : Nat} {mi : ZM} {pc : Nat} {lv : zL} {st st' : List Value} {h' : zH} {k k' : Nat} {o : zO} {pc' : Nat}
variable {C : Nat → zC} {u : zC} {a : Nat → Int32} {b : Nat → Int64} {M : Nat → Int64} {R : Nat → Nat} {V : Nat → RV}
theorem nt_nt (x y : Int32) : nt (nt a x) y = nt a (x ||| y) := by
  unfold nt
  rw [fu_fu, fu_s, Int32.or_assoc]
theorem nt_0 : nt a 0 = a := by
  unfold nt
  rw [Int32.or_zero]
  exact fu_self rfl
theorem nt_2 {x : Int32} : nt a x 2 = a 2 := rfl
/-- the greatest significand -/
def sgM (p : Nat) : Int64 := lN (2 ^ 64 - 2 ^ (64 - p))
def pOk (p : Nat) : Prop := p = 24 ∨ p = 53 ∨ p = 64
set_option maxRecDepth 10000 in
theorem e_Mo_tooLarge {p w : Nat} {g : Int32} {mb : Bool} (hp : pOk p) (hw : a 2 = nI w) (hw4 : w < 4) : zE L xs (d + 1) m_Mo_tooLarge [.ref 20, .int (bI mb), .int (nI p), .int g] (mV C u a b V M R) (.inl none) (mV C u (nt a 20) b (fu V 10 (if rBelow w mb then (1, mb, g, sgM p) else (2, mb, 0, 0))) M R) := by
  have ha : a = fu a 2 (nI w) := (fu_self hw).symm
  have hnt : nt a 20 = nt (nt a 4) 16 := (nt_nt 4 16).symm
  rw [hnt, ha]
  clear ha hw hnt
  have fin0 : ∀ (mb : Bool) (w : Nat), zR L xs (d + 1) m_Mo_tooLarge 58 [(4, .int (bI false)), (0, .ref 20), (1, .int (bI mb)), (2, .int (nI p)), (3, .int g)] [] (mV C u (nt (nt (fu a 2 (nI w)) 4) 16) b (fu V 10 (2, mb, 0, 0)) M R) 0 (.inl none) (mV C u (nt (nt (fu a 2 (nI w)) 4) 16) b (fu V 10 (2, mb, 0, 0)) M R) 0 := fun mb w => by
    refine zR_m 2 (pc' := 63) rfl ?_
    exact zR_e rfl rfl rfl rfl rfl rfl
  have fin1 : ∀ (mb : Bool) (w : Nat), zR L xs (d + 1) m_Mo_tooLarge 58 [(4, .int (bI true)), (0, .ref 20), (1, .int (bI mb)), (2, .int (nI p)), (3, .int g)] [] (mV C u (nt (nt (fu a 2 (nI w)) 4) 16) b (fu V 10 (2, mb, 0, 0)) M R) 0 (.inl none) (mV C u (nt (nt (fu a 2 (nI w)) 4) 16) b (fu V 10 (1, mb, g, sgM p)) M R) 0 := fun mb w => by
    refine zR_m 6 (pc' := 71) rfl ?_
    refine zK_put (n := 10) rfl rfl (by decide) rfl ?_
    refine zR_m 4 (pc' := 79) rfl ?_
    refine zX_put (n := 10) rfl rfl (by decide) rfl ?_
    refine zR_m 8 (pc' := 94) (st' := [.long ((-1 : Int64) <<< (((64 : Int32) - nI p).toInt64 &&& 63)), .int (nI 10), .ref 24]) rfl ?_
    refine zS_put (n := 10) rfl rfl (by decide) rfl ?_
    refine zR_e rfl rfl rfl rfl rfl ?_
    have hs : (-1 : Int64) <<< (((64 : Int32) - nI p).toInt64 &&& 63) = sgM p := by
      rcases hp with rfl | rfl | rfl <;> decide +kernel
    rw [hs]
    have h9 := mV_fu (C := C) (u := u) (a := nt (nt (fu a 2 (nI w)) 4) 16) (b := b) (V := fu V 10 (2, mb, 0, 0)) (M := M) (R := R) (n := 10) (k9 := 1) (b9 := mb) (e9 := g) (s9 := sgM p)
    rw [fu_fu] at h9
    rw [← h9]
    congr 1
    exact (fu_self rfl).symm
  refine ⟨0, Nat.zero_le _, ?_⟩
  match w, hw4 with
  | 0, _ =>
    cases mb with
    | false =>
      refine zR_to 55 (h1 := mV C u (nt (nt (fu a 2 (nI 0)) 4) 16) b V M R) rfl ?_
      refine zR_v rfl rfl rfl rfl rfl ⟨rfl, Nat.le_of_ble_eq_true rfl, Nat.le_of_ble_eq_true rfl⟩ rfl (Nat.le_refl _) (e_Mo_special (mb := false)) rfl rfl ?_
      exact zR_w (fin0 false 0) rfl rfl ⟨rfl, rfl, rfl, rfl, rfl, trivial⟩
    | true =>
      refine zR_to 55 (h1 := mV C u (nt (nt (fu a 2 (nI 0)) 4) 16) b V M R) rfl ?_
      refine zR_v rfl rfl rfl rfl rfl ⟨rfl, Nat.le_of_ble_eq_true rfl, Nat.le_of_ble_eq_true rfl⟩ rfl (Nat.le_refl _) (e_Mo_special (mb := true)) rfl rfl ?_
      exact zR_w (fin0 true 0) rfl rfl ⟨rfl, rfl, rfl, rfl, rfl, trivial⟩
  | 1, _ =>
    cases mb with
    | false =>
      refine zR_to 55 (h1 := mV C u (nt (nt (fu a 2 (nI 1)) 4) 16) b V M R) rfl ?_
      refine zR_v rfl rfl rfl rfl rfl ⟨rfl, Nat.le_of_ble_eq_true rfl, Nat.le_of_ble_eq_true rfl⟩ rfl (Nat.le_refl _) (e_Mo_special (mb := false)) rfl rfl ?_
      exact zR_w (fin1 false 1) rfl rfl ⟨rfl, rfl, rfl, rfl, rfl, trivial⟩
    | true =>
      refine zR_to 55 (h1 := mV C u (nt (nt (fu a 2 (nI 1)) 4) 16) b V M R) rfl ?_
      refine zR_v rfl rfl rfl rfl rfl ⟨rfl, Nat.le_of_ble_eq_true rfl, Nat.le_of_ble_eq_true rfl⟩ rfl (Nat.le_refl _) (e_Mo_special (mb := true)) rfl rfl ?_
      exact zR_w (fin0 true 1) rfl rfl ⟨rfl, rfl, rfl, rfl, rfl, trivial⟩
  | 2, _ =>
    cases mb with
    | false =>
      refine zR_to 55 (h1 := mV C u (nt (nt (fu a 2 (nI 2)) 4) 16) b V M R) rfl ?_
      refine zR_v rfl rfl rfl rfl rfl ⟨rfl, Nat.le_of_ble_eq_true rfl, Nat.le_of_ble_eq_true rfl⟩ rfl (Nat.le_refl _) (e_Mo_special (mb := false)) rfl rfl ?_
      exact zR_w (fin0 false 2) rfl rfl ⟨rfl, rfl, rfl, rfl, rfl, trivial⟩
    | true =>
      refine zR_to 55 (h1 := mV C u (nt (nt (fu a 2 (nI 2)) 4) 16) b V M R) rfl ?_
      refine zR_v rfl rfl rfl rfl rfl ⟨rfl, Nat.le_of_ble_eq_true rfl, Nat.le_of_ble_eq_true rfl⟩ rfl (Nat.le_refl _) (e_Mo_special (mb := true)) rfl rfl ?_
      exact zR_w (fin1 true 2) rfl rfl ⟨rfl, rfl, rfl, rfl, rfl, trivial⟩
  | 3, _ =>
    cases mb with
    | false =>
      refine zR_to 55 (h1 := mV C u (nt (nt (fu a 2 (nI 3)) 4) 16) b V M R) rfl ?_
      refine zR_v rfl rfl rfl rfl rfl ⟨rfl, Nat.le_of_ble_eq_true rfl, Nat.le_of_ble_eq_true rfl⟩ rfl (Nat.le_refl _) (e_Mo_special (mb := false)) rfl rfl ?_
      exact zR_w (fin1 false 3) rfl rfl ⟨rfl, rfl, rfl, rfl, rfl, trivial⟩
    | true =>
      refine zR_to 55 (h1 := mV C u (nt (nt (fu a 2 (nI 3)) 4) 16) b V M R) rfl ?_
      refine zR_v rfl rfl rfl rfl rfl ⟨rfl, Nat.le_of_ble_eq_true rfl, Nat.le_of_ble_eq_true rfl⟩ rfl (Nat.le_refl _) (e_Mo_special (mb := true)) rfl rfl ?_
      exact zR_w (fin1 true 3) rfl rfl ⟨rfl, rfl, rfl, rfl, rfl, trivial⟩
  | (m + 4), h => omega
end RO
end
section
theorem nb_shZ {X : Nat} (hX : X ≠ 0) {n : Int} (h : 1 ≤ (nb X : Int) + n) : (nb (shZ X n) : Int) = nb X + n := by
  have h1 := nb_lt X
  have h2 := nb_le hX
  rcases Int.le_total 0 n with h0 | h0
  · obtain ⟨m, rfl⟩ := Int.eq_ofNat_of_zero_le h0
    rw [shZ_pos]
    have hT : nb X ≠ 0 := by
      intro h9
      rw [h9] at h1
      exact hX (by simpa using h1)
    have e : nb (X * 2 ^ m) = nb X - 1 + m + 1 := by
      apply nb_uniq
      · rw [Nat.pow_add]
        exact Nat.mul_le_mul_right _ h2
      · rw [show nb X - 1 + m + 1 = nb X + m by omega, Nat.pow_add]
        exact Nat.mul_lt_mul_of_pos_right h1 (Nat.pow_pos (by decide))
    omega
  · obtain ⟨m, hm⟩ := Int.eq_ofNat_of_zero_le (show 0 ≤ -n by omega)
    obtain rfl : n = -(m : Int) := by omega
    rw [shZ_neg]
    have e : nb (X / 2 ^ m) = nb X - 1 - m + 1 := by
      apply nb_uniq
      · rw [Nat.le_div_iff_mul_le (Nat.pow_pos (by decide)), ← Nat.pow_add, show nb X - 1 - m + m = nb X - 1 by omega]
        exact h2
      · apply Nat.div_lt_of_lt_mul
        rw [← Nat.pow_add, show m + (nb X - 1 - m + 1) = nb X by omega]
        exact h1
    omega
def rK (X p : Nat) : Nat := shZ X (-((nb X : Int) - p))
def rHf (X p : Nat) : Bool := decide (p < nb X) && gH X (nb X - p)
def rRs (X p : Nat) : Bool := decide (p < nb X) && gB X (nb X - p)
def rUq (w : Nat) (mb : Bool) (X p : Nat) : Bool := rUp w mb (gO X (nb X - p)) (rHf X p) (rRs X p)
def rK1 (w : Nat) (mb : Bool) (X p : Nat) : Nat := rK X p + (if rUq w mb X p then 1 else 0)
def rEx (w : Nat) (mb : Bool) (X p : Nat) (q : Int) : Int := (nb X : Int) - 1 + q + (if rK1 w mb X p = 2 ^ p then 1 else 0)
def rSg (K1 : Nat) : Nat := shZ K1 (64 - (nb K1 : Int))
def rVal (w : Nat) (mb : Bool) (X p : Nat) (g q : Int) : RV := if g < rEx w mb X p q then (if rBelow w mb then (1, mb, iZ g, sgM p) else (2, mb, 0, 0)) else if rEx w mb X p q < 1 - g then (0, mb, 0, 0) else (1, mb, iZ (rEx w mb X p q), lN (rSg (rK1 w mb X p)))
def rNt (w : Nat) (mb : Bool) (X p : Nat) (g q : Int) : Int32 := if g < rEx w mb X p q then 20 else if rEx w mb X p q < 1 - g then 24 else if rHf X p || rRs X p then 16 else 0
theorem rK_nb {X p : Nat} (hX : X ≠ 0) (hp : 1 ≤ p) : nb (rK X p) = p := by
  unfold rK
  have := nb_shZ hX (n := -((nb X : Int) - p)) (by omega)
  omega
theorem rK_rng {X p : Nat} (hX : X ≠ 0) (hp : 1 ≤ p) : 2 ^ (p - 1) ≤ rK X p ∧ rK X p < 2 ^ p := by
  have h := rK_nb hX hp
  have h1 := nb_lt (rK X p)
  have h2 := nb_le (x := rK X p) (fun h9 => by rw [h9, nb_0] at h; omega)
  rw [h] at h1 h2
  exact ⟨h2, h1⟩
theorem rK1_nb {X p w : Nat} {mb : Bool} (hX : X ≠ 0) (hp : 1 ≤ p) : nb (rK1 w mb X p) = if rK1 w mb X p = 2 ^ p then p + 1 else p := by
  obtain ⟨h1, h2⟩ := rK_rng hX hp
  have hb : rK X p ≤ rK1 w mb X p ∧ rK1 w mb X p ≤ rK X p + 1 := by
    unfold rK1
    split <;> omega
  obtain ⟨m, rfl⟩ : ∃ m, p = m + 1 := ⟨p - 1, by omega⟩
  split
  · rename_i h
    rw [h]
    exact nb_uniq (Nat.le_refl _) (Nat.pow_lt_pow_right (by decide) (by omega))
  · rename_i h
    exact nb_uniq (n := m) (by rw [Nat.add_sub_cancel] at h1; omega) (by omega)
section RO
variable {L : Nat} {xs : Nat → Int32} {d : Nat} {mi : ZM} {pc : Nat} {lv : zL} {st st' : List Value} {h' : zH} {k k' : Nat} {o : zO} {pc' : Nat}
variable {C : Nat → zC} {u : zC} {a : Nat → Int32} {b : Nat → Int64} {M : Nat → Int64} {R : Nat → Nat} {V : Nat → RV}
set_option maxRecDepth 10000 in
/-- the end: from the storing of the real on -/
theorem f_Mo_round {p w s : Nat} {g e : Int} {mb : Bool} {z : zL} (hp : pOk p) (hw : a 2 = nI w) (hw4 : w < 4) (hg : 1 ≤ g ∧ g ≤ 20000) (he : -200000 ≤ e ∧ e ≤ 200000) (hR2 : R 2 = s) (hs : s < 2 ^ 64) :
    zR L xs (d + 2) m_Mo_round 104 [(7, .int (iZ e)), (0, .ref 20), (1, .int (bI mb)), (3, .int (nI p)), (4, .int (iZ g))] [] (mV C u a b V M R) 0 (.inl none) (mV C u (nt a (if g < e then 20 else if e < 1 - g then 24 else 0)) b (fu V 10 (if g < e then (if rBelow w mb then (1, mb, iZ g, sgM p) else (2, mb, 0, 0)) else if e < 1 - g then (0, mb, 0, 0) else (1, mb, iZ e, lN s))) M R) 0 := by
  refine zR_to 111 rfl ?_
  refine zK_put (n := 10) rfl rfl (by decide) rfl ?_
  refine zR_to 119 rfl ?_
  refine zB_put (n := 10) rfl rfl (by decide) rfl ?_
  refine zR_to 128 rfl ?_
  refine zX_put (n := 10) rfl rfl (by decide) rfl ?_
  refine zR_to 137 rfl ?_
  refine zR_v rfl rfl rfl rfl rfl ⟨rfl, Nat.le_of_ble_eq_true rfl, Nat.le_of_ble_eq_true rfl⟩ rfl (Nat.le_refl _) (e_Mo_lowest (r := 2) (by decide)) rfl rfl ?_
  rw [hR2, Nat.mod_eq_of_lt hs]
  refine zS_put (n := 10) rfl rfl (by decide) rfl ?_
  rw [mV_fu]
  refine zR_to 147 (st' := [.int (iZ 1 - iZ g), .int (iZ e)]) rfl ?_
  rw [iZ_sub]
  refine zR_m 1 rfl ?_
  refine zR_if (fun h => ?_) (fun h => ?_)
  · have h1 := (iZ_le (by omega) (by omega)).mp h
    rw [if_neg (show ¬ e < 1 - g by omega), if_neg (show ¬ e < 1 - g by omega)]
    refine zR_to 174 rfl ?_
    refine zR_m 1 rfl ?_
    refine zR_if (fun h2 => ?_) (fun h2 => ?_)
    · have h3 := (iZ_le (by omega) (by omega)).mp h2
      rw [if_neg (show ¬ g < e by omega), if_neg (show ¬ g < e by omega), nt_0]
      exact zR_e rfl rfl rfl rfl rfl rfl
    · have h3 : ¬ e ≤ g := fun h4 => h2 ((iZ_le (by omega) (by omega)).mpr h4)
      rw [if_pos (show g < e by omega), if_pos (show g < e by omega)]
      refine zR_to 182 rfl ?_
      refine zR_v rfl rfl rfl rfl rfl ⟨rfl, Nat.le_of_ble_eq_true rfl, Nat.le_of_ble_eq_true rfl⟩ rfl (Nat.le_refl _) (e_Mo_tooLarge hp hw hw4) rfl rfl ?_
      rw [fu_fu]
      exact zR_e rfl rfl rfl rfl rfl rfl
  · have h1 : ¬ 1 - g ≤ e := fun h4 => h ((iZ_le (by omega) (by omega)).mpr h4)
    rw [if_neg (show ¬ g < e by omega), if_pos (show e < 1 - g by omega), if_neg (show ¬ g < e by omega), if_pos (show e < 1 - g by omega)]
    refine zR_to 167 (st' := [.int (bI mb), .int 0, .ref 20]) (h1 := mV C u (nt (nt a 8) 16) b (fu V 10 (1, mb, iZ e, lN s)) M R) rfl ?_
    refine zR_v rfl rfl rfl rfl rfl ⟨rfl, Nat.le_of_ble_eq_true rfl, Nat.le_of_ble_eq_true rfl⟩ rfl (Nat.le_refl _) (e_Mo_special (mb := mb)) rfl rfl ?_
    rw [nt_nt, fu_fu]
    refine zR_to 174 rfl ?_
    refine zR_m 1 rfl ?_
    refine zR_if (fun h2 => ?_) (fun h2 => ?_)
    · exact zR_e rfl rfl rfl rfl rfl rfl
    · exact absurd ((iZ_le (by omega) (by omega)).mpr (show e ≤ g by omega)) h2
end RO
end
section
theorem lt512 {x n : Nat} (h : nb x ≤ n) (hn : n ≤ 512) : x < 65536 ^ 32 := by
  rw [B2]
  exact Nat.lt_of_lt_of_le (nb_lt x) (Nat.pow_le_pow_right (by decide) (by omega))
theorem rSg_lt {K : Nat} (h : K ≠ 0) : rSg K < 2 ^ 64 := by
  unfold rSg
  have h1 := nb_shZ h (n := 64 - (nb K : Int)) (by omega)
  have h2 := nb_lt (shZ K (64 - (nb K : Int)))
  rw [show nb (shZ K (64 - (nb K : Int))) = 64 by omega] at h2
  exact h2
section RO
variable {L : Nat} {xs : Nat → Int32} {d : Nat} {mi : ZM} {pc : Nat} {lv : zL} {st st' : List Value} {h' : zH} {k k' : Nat} {o : zO} {pc' : Nat}
variable {C : Nat → zC} {u : zC} {a : Nat → Int32} {b : Nat → Int64} {M : Nat → Int64} {R : Nat → Nat} {V : Nat → RV}
set_option maxRecDepth 10000 in
/-- from pc 90: the significand -/
theorem g_Mo_round {K1 : Nat} {e : Int} {p : Nat} {g : Int} {mb : Bool} {h9 : zH} (hR : Rok R) (hK : R 1 = K1) (h0 : K1 ≠ 0)
    (kk : zR L xs (d + 3) m_Mo_round 104 [(7, .int (iZ e)), (0, .ref 20), (1, .int (bI mb)), (3, .int (nI p)), (4, .int (iZ g))] [] (mV C u a b V M (fu R 2 (rSg K1))) 0 (.inl none) h9 0) :
    zR L xs (d + 3) m_Mo_round 90 [(7, .int (iZ e)), (0, .ref 20), (1, .int (bI mb)), (3, .int (nI p)), (4, .int (iZ g))] [] (mV C u a b V M R) 0 (.inl none) h9 0 := by
  refine zR_to 97 rfl ?_
  refine zR_v rfl rfl rfl rfl rfl ⟨rfl, Nat.le_of_ble_eq_true rfl, Nat.le_of_ble_eq_true rfl⟩ rfl (Nat.le_refl _) (e_Mo_top (r := 1) (by decide) hR) rfl rfl ?_
  refine zR_to 101 (st' := [.int (iZ 63 - iZ ((nb (R 1) : Int) - 1)), .int (nI 2), .int (nI 1), .ref 20]) rfl ?_
  have hn := nb_bd (x := R 1) (n := 512) (by have := hR 1; rw [B2] at this; exact this)
  rw [iZ_sub, show (63 : Int) - ((nb (R 1) : Int) - 1) = 64 - (nb K1 : Int) by rw [hK]; omega]
  refine zR_v rfl rfl rfl rfl rfl ⟨rfl, Nat.le_of_ble_eq_true rfl, Nat.le_of_ble_eq_true rfl⟩ rfl (Nat.le_refl _) (e_Mo_shift (f := 1) (t := 2) (by decide) (by decide) (by decide) hR (by rw [hK]; omega) (by rw [← hK]; omega)) rfl rfl ?_
  rw [hK]
  exact kk
set_option maxRecDepth 10000 in
/-- from pc 43 -/
theorem h_Mo_round {X p : Nat} {e g : Int} {mb up : Bool} {z : Int32} {h9 : zH} (hp : pOk p) (hX : X ≠ 0) (hX4 : nb X ≤ 400) (hR : Rok R) (hR0 : R 0 = X) (hz : - z = iZ (-((nb X : Int) - p)))
    (kk : zR L xs (d + 3) m_Mo_round 104 [(7, .int (iZ (e + if rK X p + (if up then 1 else 0) = 2 ^ p then 1 else 0))), (0, .ref 20), (1, .int (bI mb)), (3, .int (nI p)), (4, .int (iZ g))] [] (mV C u a b V M (fu (fu R 1 (rK X p + (if up then 1 else 0))) 2 (rSg (rK X p + (if up then 1 else 0))))) 0 (.inl none) h9 0) :
    zR L xs (d + 3) m_Mo_round 43 [(8, .int (bI up)), (7, .int (iZ e)), (6, .int z), (0, .ref 20), (1, .int (bI mb)), (3, .int (nI p)), (4, .int (iZ g))] [] (mV C u a b V M R) 0 (.inl none) h9 0 := by
  have hp1 : 1 ≤ p ∧ p ≤ 64 := by rcases hp with rfl | rfl | rfl <;> decide
  have hKn := rK_nb hX hp1.1
  obtain ⟨hK1, hK2⟩ := rK_rng hX hp1.1
  have hK0 : rK X p ≠ 0 := by have := Nat.pow_pos (n := p - 1) (show 0 < 2 by decide); omega
  have hKlt : rK X p < 65536 ^ 32 := lt512 (n := 64) (by omega) (by decide)
  have hR1 : Rok (fu R 1 (rK X p)) := hR.fu hKlt
  refine zR_to 49 (st' := [.int (- z), .int (nI 1), .int (nI 0), .ref 20]) rfl ?_
  rw [hz]
  refine zR_v rfl rfl rfl rfl rfl ⟨rfl, Nat.le_of_ble_eq_true rfl, Nat.le_of_ble_eq_true rfl⟩ rfl (Nat.le_refl _) (e_Mo_shift (f := 0) (t := 1) (by decide) (by decide) (by decide) hR (by rw [hR0]; omega) (by omega)) rfl rfl ?_
  rw [hR0, show shZ X (-((nb X : Int) - p)) = rK X p from rfl]
  cases up with
  | false =>
    simp only [Bool.false_eq_true, if_false, Nat.add_zero] at kk
    rw [if_neg (show ¬ rK X p = 2 ^ p by omega), Int.add_zero] at kk
    refine zR_to 90 rfl ?_
    exact zR_w (g_Mo_round hR1 fu_s hK0 kk) rfl rfl ⟨rfl, rfl, rfl, rfl, rfl, trivial⟩
  | true =>
    simp only [if_true] at kk
    have h1k : rK X p + 1 < 65536 ^ 32 := by
      have : (2 : Nat) ^ p < 65536 ^ 32 := by rw [B2]; exact Nat.pow_lt_pow_right (by decide) (by omega)
      omega
    refine zR_to 60 (st' := [.long (lN 1), .int (nI 2), .ref 20]) rfl ?_
    refine zR_v rfl rfl rfl rfl rfl ⟨rfl, Nat.le_of_ble_eq_true rfl, Nat.le_of_ble_eq_true rfl⟩ rfl (Nat.le_refl _) (e_Mo_put (r := 2) (n := 1) (by decide) (by decide) hR1) rfl rfl ?_
    refine zR_to 67 (st' := [.int (iZ 1), .int (nI 2), .int (nI 1), .ref 20]) rfl ?_
    have hR2 : Rok (fu (fu R 1 (rK X p)) 2 1) := hR1.fu (Nat.lt_of_lt_of_le (show 1 < 65536 by decide) (Nat.pow_le_pow_right (n := 65536) (i := 1) (by decide) (by decide)))
    refine zR_v rfl rfl rfl rfl rfl ⟨rfl, Nat.le_of_ble_eq_true rfl, Nat.le_of_ble_eq_true rfl⟩ rfl (Nat.le_refl _) (e_Mo_add (p := 1) (q := 2) (s := 1) (Or.inl rfl) (by decide) (by decide) (by decide) hR2) rfl rfl ?_
    rw [fu_s, fu_n (show (1 : Nat) ≠ 2 by decide), fu_s, adL_add h1k, fu_comm (show (2 : Nat) ≠ 1 by decide), fu_fu]
    have hR3 : Rok (fu (fu R 1 (rK X p + 1)) 2 1) := (hR.fu h1k).fu (Nat.lt_of_lt_of_le (show 1 < 65536 by decide) (Nat.pow_le_pow_right (n := 65536) (i := 1) (by decide) (by decide)))
    have hv1 : fu (fu R 1 (rK X p + 1)) 2 1 1 = rK X p + 1 := by rw [fu_n (by decide), fu_s]
    refine zR_to 72 rfl ?_
    refine zR_v rfl rfl rfl rfl rfl ⟨rfl, Nat.le_of_ble_eq_true rfl, Nat.le_of_ble_eq_true rfl⟩ rfl (Nat.le_refl _) (e_Mo_top (r := 1) (by decide) hR3) rfl rfl ?_
    rw [hv1]
    have hb1 : nb (rK X p + 1) = if rK X p + 1 = 2 ^ p then p + 1 else p := by
      obtain ⟨m, rfl⟩ : ∃ m, p = m + 1 := ⟨p - 1, by omega⟩
      split
      · rename_i h
        rw [h]
        exact nb_uniq (Nat.le_refl _) (Nat.pow_lt_pow_right (by decide) (by omega))
      · rename_i h
        exact nb_uniq (n := m) (by rw [Nat.add_sub_cancel] at hK1; omega) (by omega)
    have hgo := g_Mo_round (L := L) (xs := xs) (d := d) (C := C) (u := u) (a := a) (b := b) (V := V) (M := M) (h9 := h9) hR3 hv1 (by omega) (by rw [fu_fu]; exact kk)
    refine zR_to 76 rfl ?_
    refine zR_m 1 rfl ?_
    by_cases hb : rK X p + 1 = 2 ^ p
    · rw [if_pos hb] at hb1 hgo
      refine zR_if (fun h => absurd ?_ h) (fun _ => ?_)
      · rw [hb1, show ((p + 1 : Nat) : Int) - 1 = (p : Int) by omega, iZ_nat]
      · refine zR_to 90 rfl ?_
        refine zR_w hgo rfl rfl ⟨?_, rfl, rfl, rfl, rfl, trivial⟩
        rw [← iZ_add]
        rfl
    · rw [if_neg hb] at hb1 hgo
      refine zR_if (fun _ => ?_) (fun h => absurd (fun h9 => ?_) h)
      · refine zR_to 90 rfl ?_
        refine zR_w hgo rfl rfl ⟨?_, rfl, rfl, rfl, rfl, trivial⟩
        rw [Int.add_zero]
        rfl
      · rw [hb1, ← iZ_nat, iZ_eq (by omega) (by omega)] at h9
        omega
set_option maxRecDepth 10000 in
theorem e_Mo_round {X p w : Nat} {q g : Int} {mb : Bool} (hp : pOk p) (hw : a 2 = nI w) (hw4 : w < 4) (hg : 1 ≤ g ∧ g ≤ 20000) (hq : -100000 ≤ q ∧ q ≤ 100000) (hX : X ≠ 0) (hX4 : nb X ≤ 400) (hR : Rok R) (hR0 : R 0 = X) :
    zE L xs (d + 3) m_Mo_round [.ref 20, .int (bI mb), .int (iZ q), .int (nI p), .int (iZ g)] (mV C u a b V M R) (.inl none) (mV C u (nt a (rNt w mb X p g q)) b (fu V 10 (rVal w mb X p g q)) M (fu (fu R 1 (rK1 w mb X p)) 2 (rSg (rK1 w mb X p)))) := by
  have hp1 : 1 ≤ p ∧ p ≤ 64 := by rcases hp with rfl | rfl | rfl <;> decide
  have hK0 : rK1 w mb X p ≠ 0 := by
    obtain ⟨h1, -⟩ := rK_rng hX hp1.1
    have := Nat.pow_pos (n := p - 1) (show 0 < 2 by decide)
    unfold rK1
    omega
  have hE : -200000 ≤ rEx w mb X p q ∧ rEx w mb X p q ≤ 200000 := by
    unfold rEx
    split <;> omega
  -- the end, with what goesUp noted
  have fin : ∀ (a' : Nat → Int32), a' 2 = nI w → nt a' (if g < rEx w mb X p q then 20 else if rEx w mb X p q < 1 - g then 24 else 0) = nt a (rNt w mb X p g q) →
      zR L xs (d + 3) m_Mo_round 104 [(7, .int (iZ (((nb X : Int) - 1 + q) + if rK X p + (if rUq w mb X p then 1 else 0) = 2 ^ p then 1 else 0))), (0, .ref 20), (1, .int (bI mb)), (3, .int (nI p)), (4, .int (iZ g))] [] (mV C u a' b V M (fu (fu R 1 (rK X p + (if rUq w mb X p then 1 else 0))) 2 (rSg (rK X p + (if rUq w mb X p then 1 else 0))))) 0 (.inl none) (mV C u (nt a (rNt w mb X p g q)) b (fu V 10 (rVal w mb X p g q)) M (fu (fu R 1 (rK1 w mb X p)) 2 (rSg (rK1 w mb X p)))) 0 := by
    intro a' h1 h2
    have h9 := f_Mo_round (L := L) (xs := xs) (d := d + 1) (C := C) (u := u) (a := a') (b := b) (V := V) (M := M) (R := fu (fu R 1 (rK1 w mb X p)) 2 (rSg (rK1 w mb X p))) (z := []) (mb := mb) hp h1 hw4 hg hE fu_s (rSg_lt hK0)
    rw [h2] at h9
    exact h9
  refine ⟨0, Nat.zero_le _, ?_⟩
  refine zR_to 2 rfl ?_
  refine zR_v rfl rfl rfl rfl rfl ⟨rfl, Nat.le_of_ble_eq_true rfl, Nat.le_of_ble_eq_true rfl⟩ rfl (Nat.le_refl _) (e_Mo_top (r := 0) (by decide) hR) rfl rfl ?_
  rw [hR0]
  refine zR_to 13 (st' := [.int (iZ ((nb X : Int) - 1) + iZ 1 - nI p)]) rfl ?_
  rw [← iZ_nat p, iZ_add, iZ_sub, show (nb X : Int) - 1 + 1 - (p : Int) = (nb X : Int) - p by omega]
  refine zR_to 19 (st' := [.int (iZ ((nb X : Int) - 1) + iZ q)]) rfl ?_
  rw [iZ_add]
  refine zR_to 23 rfl ?_
  refine zR_m 1 rfl ?_
  refine zR_if (fun h => ?_) (fun h => ?_)
  · -- no bits go
    have h1 := (iZ_le (y := 0) (by omega) (by omega)).mp h
    have hu : rUq w mb X p = false ∧ (rHf X p || rRs X p) = false := by
      unfold rUq rHf rRs
      rw [decide_eq_false (show ¬ p < nb X by omega)]
      simp only [Bool.false_and, Bool.or_false]
      unfold rUp
      simp
    have h9 := h_Mo_round (L := L) (xs := xs) (d := d) (C := C) (u := u) (a := a) (b := b) (V := V) (M := M) (up := rUq w mb X p) (z := iZ ((nb X : Int) - p)) hp hX hX4 hR hR0 (iZ_neg _) (fin a hw (by
      unfold rNt
      rw [hu.2]
      rfl))
    rw [hu.1] at h9
    refine zR_to 43 rfl ?_
    refine zR_w h9 rfl rfl ⟨rfl, rfl, rfl, rfl, rfl, ?_, rfl, trivial⟩
    rw [← iZ_nat p]
    rfl
  · have h1 : ¬ (nb X : Int) - p ≤ 0 := fun h4 => h ((iZ_le (y := 0) (by omega) (by omega)).mpr h4)
    have hc : (nb X : Int) - p = ((nb X - p : Nat) : Int) := by omega
    have hH : rHf X p = gH X (nb X - p) := by
      unfold rHf
      rw [decide_eq_true (show p < nb X by omega)]
      rfl
    have hB : rRs X p = gB X (nb X - p) := by
      unfold rRs
      rw [decide_eq_true (show p < nb X by omega)]
      rfl
    have hU : rUq w mb X p = rUp w mb (gO X (nb X - p)) (gH X (nb X - p)) (gB X (nb X - p)) := by
      unfold rUq
      rw [hH, hB]
    have h9 := h_Mo_round (L := L) (xs := xs) (d := d) (C := C) (u := u) (a := if gH X (nb X - p) || gB X (nb X - p) then nt a 16 else a) (b := b) (V := V) (M := M) (up := rUq w mb X p) (z := nI (nb X - p)) hp hX hX4 hR hR0 (by rw [← iZ_nat, iZ_neg, hc]) (fin _ (by split <;> exact hw) (by
      unfold rNt
      rw [hH, hB]
      split
      · rw [nt_nt]
        split
        · rfl
        · split <;> rfl
      · rfl))
    rw [hc, iZ_nat]
    refine zR_to 30 rfl ?_
    refine zR_v rfl rfl rfl rfl rfl ⟨rfl, Nat.le_of_ble_eq_true rfl, Nat.le_of_ble_eq_true rfl⟩ rfl (Nat.le_refl _) (e_Mo_goesUp (n := nb X - p) (by omega) (by omega) hR0 hw hw4) rfl rfl ?_
    rw [← hU]
    cases hu : rUq w mb X p with
    | false =>
      rw [hu] at h9
      refine zR_to 43 rfl ?_
      refine zR_w h9 rfl rfl ⟨rfl, rfl, rfl, rfl, rfl, ?_, rfl, trivial⟩
      rw [← iZ_nat p]
      rfl
    | true =>
      rw [hu] at h9
      refine zR_to 43 rfl ?_
      refine zR_w h9 rfl rfl ⟨rfl, rfl, rfl, rfl, rfl, ?_, rfl, trivial⟩
      rw [← iZ_nat p]
      rfl
end RO
end
section
theorem lN_uN (x : Int64) : lN (uN x) = x := by
  obtain ⟨n, hn, rfl⟩ := wb_of x
  have : uN (lN n) = n := by
    show (lN n).toBitVec.toNat = n
    exact wb_tn hn
  rw [this]
/-- the control's precision and way of rounding -/
def cOk (a : Nat → Int32) (p w : Nat) : Prop := a 1 = nI p ∧ a 2 = nI w ∧ pOk p ∧ w < 4
abbrev rk (v : RV) : Int32 := v.1
abbrev rn (v : RV) : Bool := v.2.1
abbrev re (v : RV) : Int32 := v.2.2.1
abbrev rs (v : RV) : Nat := uN v.2.2.2
def vNan : RV := (3, false, 0, 0)
def eit (x y : RV) (kd : Int32) : Bool := decide (rk x = kd) || decide (rk y = kd)
section SU
variable {L : Nat} {xs : Nat → Int32} {d : Nat} {mi : ZM} {pc : Nat} {lv : zL} {st st' : List Value} {h' : zH} {k k' : Nat} {o : zO} {pc' : Nat}
variable {C : Nat → zC} {u : zC} {a : Nat → Int32} {b : Nat → Int64} {M : Nat → Int64} {R : Nat → Nat} {V : Nat → RV}
set_option maxRecDepth 10000 in
theorem e_Mo_either {kd : Int32} : zE L xs d m_Mo_either [.ref 20, .int kd] (mV C u a b V M R) (.inl (some (.int (bI (eit (V 8) (V 9) kd))))) (mV C u a b V M R) := by
  have fin : ∀ x : Bool, eit (V 8) (V 9) kd = x → zR L xs d m_Mo_either 27 [(0, .ref 20), (1, .int kd)] [.int (bI x)] (mV C u a b V M R) 0 (.inl (some (.int (bI (eit (V 8) (V 9) kd))))) (mV C u a b V M R) 0 := by
    intro x hx
    rw [hx]
    cases x <;> exact zR_e rfl rfl rfl rfl rfl rfl
  refine ⟨0, Nat.zero_le _, ?_⟩
  refine zR_to 6 rfl ?_
  refine zK_get (n := 8) rfl rfl (by decide) rfl ?_
  refine zR_to 8 rfl ?_
  refine zR_m 1 rfl ?_
  refine zR_if (fun h => ?_) (fun h => ?_)
  · refine zR_to 27 rfl (fin true ?_)
    unfold eit
    rw [decide_eq_true (show rk (V 8) = kd from h)]
    rfl
  · refine zR_to 17 rfl ?_
    refine zK_get (n := 9) rfl rfl (by decide) rfl ?_
    refine zR_to 19 rfl ?_
    refine zR_m 1 rfl ?_
    refine zR_if (fun h2 => ?_) (fun h2 => ?_)
    · refine zR_to 27 rfl (fin false ?_)
      unfold eit
      rw [decide_eq_false (show ¬ rk (V 8) = kd from h), decide_eq_false (show ¬ rk (V 9) = kd from h2)]
      rfl
    · refine zR_to 27 rfl (fin true ?_)
      unfold eit
      rw [decide_eq_false (show ¬ rk (V 8) = kd from h), decide_eq_true (show rk (V 9) = kd from Decidable.of_not_not h2)]
      rfl
set_option maxRecDepth 10000 in
theorem e_Mo_result {X p w : Nat} {q : Int} {mb : Bool} (hc : cOk a p w) (hq : -100000 ≤ q ∧ q ≤ 100000) (hX : X ≠ 0) (hX4 : nb X ≤ 400) (hR : Rok R) (hR0 : R 0 = X) :
    zE L xs (d + 4) m_Mo_result [.ref 20, .int (bI mb), .int (iZ q)] (mV C u a b V M R) (.inl none) (mV C u (nt a (rNt w mb X p 16383 q)) b (fu V 10 (rVal w mb X p 16383 q)) M (fu (fu R 1 (rK1 w mb X p)) 2 (rSg (rK1 w mb X p)))) := by
  obtain ⟨h1, h2, h3, h4⟩ := hc
  refine ⟨0, Nat.zero_le _, ?_⟩
  refine zR_to 10 (st' := [.int (iZ 16383), .int (a 1), .int (iZ q), .int (bI mb), .ref 20]) rfl ?_
  rw [h1]
  refine zR_v rfl rfl rfl rfl rfl ⟨rfl, Nat.le_of_ble_eq_true rfl, Nat.le_of_ble_eq_true rfl⟩ rfl (Nat.le_refl _) (e_Mo_round h3 h2 h4 (by decide) hq hX hX4 hR hR0) rfl rfl ?_
  exact zR_e rfl rfl rfl rfl rfl rfl
/-- some rows of digits, all within bounds -/
def zEr (L : Nat) (xs : Nat → Int32) (d : Nat) (m : ZM) (as : List Value) (h : zH) (o : zO) (C : Nat → zC) (u : zC) (a : Nat → Int32) (b : Nat → Int64) (V : Nat → RV) (M : Nat → Int64) : Prop := ∃ R', Rok R' ∧ zE L xs d m as h o (mV C u a b V M R')
theorem rok_round {X p w : Nat} {mb : Bool} (hX : X ≠ 0) (hp : pOk p) (hR : Rok R) : Rok (fu (fu R 1 (rK1 w mb X p)) 2 (rSg (rK1 w mb X p))) := by
  have hp1 : 1 ≤ p ∧ p ≤ 64 := by rcases hp with rfl | rfl | rfl <;> decide
  have h1 := rK1_nb (w := w) (mb := mb) hX hp1.1
  have hK0 : rK1 w mb X p ≠ 0 := by
    obtain ⟨h1, -⟩ := rK_rng hX hp1.1
    have := Nat.pow_pos (n := p - 1) (show 0 < 2 by decide)
    unfold rK1
    omega
  refine (hR.fu (lt512 (n := 65) ?_ (by decide))).fu (Nat.lt_of_lt_of_le (rSg_lt hK0) ?_)
  · split at h1 <;> omega
  · rw [B2]
    exact Nat.pow_le_pow_right (by decide) (by decide)
theorem r_Mo_result {X p w : Nat} {q : Int} {mb : Bool} (hc : cOk a p w) (hq : -100000 ≤ q ∧ q ≤ 100000) (hX : X ≠ 0) (hX4 : nb X ≤ 400) (hR : Rok R) (hR0 : R 0 = X) :
    zEr L xs (d + 4) m_Mo_result [.ref 20, .int (bI mb), .int (iZ q)] (mV C u a b V M R) (.inl none) C u (nt a (rNt w mb X p 16383 q)) b (fu V 10 (rVal w mb X p 16383 q)) M := ⟨_, rok_round hX hc.2.2.1 hR, e_Mo_result hc hq hX hX4 hR hR0⟩
/-- a finite real of the stack -/
def vFin (v : RV) : Prop := rk v = 1 ∧ (∃ e : Int, re v = iZ e ∧ -17000 ≤ e ∧ e ≤ 17000) ∧ 2 ^ 63 ≤ rs v
theorem uN_lt2 (x : Int64) : uN x < 2 ^ 64 := uN_lt x
theorem nb64 {x : Nat} (h1 : 2 ^ 63 ≤ x) (h2 : x < 2 ^ 64) : nb x = 64 := nb_uniq h1 h2
end SU
end
section
/-! the finite sum -/
/-- the two numbers that are added or compared, over the lowest exponent -/
def fsA (x : RV) (ex ey : Int) : Nat := shZ (rs x) (if 70 < ex - ey then 10 else ex - ey)
def fsD (y : RV) (ex ey : Int) : Nat := if 70 < ex - ey then 1 else rs y
def fsQ (ex ey : Int) : Int := if 70 < ex - ey then ex - 73 else ey - 63
/-- a sum's result: magnitude N, sign mb -/
def nRes (w p : Nat) (mb : Bool) (N : Nat) (q : Int) : RV × Int32 := if N = 0 then ((0, decide (w = 1), 0, 0), 0) else (rVal w mb N p 16383 q, rNt w mb N p 16383 q)
def fsR (w p : Nat) (x y : RV) (ex ey : Int) : RV × Int32 := if rn x = rn y then nRes w p (rn x) (fsA x ex ey + fsD y ex ey) (fsQ ex ey)
  else if fsD y ex ey ≤ fsA x ex ey then nRes w p (rn x) (fsA x ex ey - fsD y ex ey) (fsQ ex ey) else nRes w p (rn y) (fsD y ex ey - fsA x ex ey) (fsQ ex ey)
theorem cmpZ_ge {x y : Nat} : 0 ≤ cmpZ x y ↔ y ≤ x := by
  unfold cmpZ
  split
  · omega
  · split <;> omega
theorem cmpZ_rng (x y : Nat) : -1 ≤ cmpZ x y ∧ cmpZ x y ≤ 1 := by
  unfold cmpZ
  split
  · omega
  · split <;> omega
theorem bI_eq {x y : Bool} : bI x = bI y ↔ x = y := by cases x <;> cases y <;> decide
section FS
variable {L : Nat} {xs : Nat → Int32} {d : Nat} {mi : ZM} {pc : Nat} {lv : zL} {st st' : List Value} {h' : zH} {k k' : Nat} {o : zO} {pc' : Nat}
variable {C : Nat → zC} {u : zC} {a : Nat → Int32} {b : Nat → Int64} {M : Nat → Int64} {R : Nat → Nat} {V : Nat → RV}
set_option maxRecDepth 10000 in
theorem f_Mo_finiteSum {N p w : Nat} {q : Int} {mb : Bool} (hc : cOk a p w) (hq : -100000 ≤ q ∧ q ≤ 100000) (hN : nb N ≤ 400) (hR : Rok R) (hR0 : R 0 = N) : ∃ R', Rok R' ∧ zR L xs (d + 5) m_Mo_finiteSum 177 [(6, .int (bI mb)), (5, .int (iZ q)), (0, .ref 20)] [] (mV C u a b V M R) 0 (.inl none) (mV C u (nt a (nRes w p mb N q).2) b (fu V 10 (nRes w p mb N q).1) M R') 0 := by
  unfold nRes
  by_cases h0 : N = 0
  · rw [if_pos h0, nt_0]
    refine ⟨R, hR, ?_⟩
    refine zR_to 179 rfl ?_
    refine zR_v rfl rfl rfl rfl rfl ⟨rfl, Nat.le_of_ble_eq_true rfl, Nat.le_of_ble_eq_true rfl⟩ rfl (Nat.le_refl _) (e_Mo_top (r := 0) (by decide) hR) rfl rfl ?_
    rw [hR0, h0, nb_0]
    refine zR_to 192 (st' := [.int 1, .int (a 2), .int 0, .ref 20]) rfl ?_
    rw [hc.2.1]
    obtain ⟨-, -, -, hw⟩ := hc
    refine zR_m 1 rfl ?_
    refine zR_if (fun h => ?_) (fun h => ?_)
    · have h1 : ¬ w = 1 := fun h9 => h (by rw [h9]; rfl)
      rw [decide_eq_false h1]
      refine zR_to 200 rfl ?_
      refine zR_v rfl rfl rfl rfl rfl ⟨rfl, Nat.le_of_ble_eq_true rfl, Nat.le_of_ble_eq_true rfl⟩ rfl (Nat.le_refl _) (e_Mo_special (mb := false)) rfl rfl ?_
      refine zR_to 214 rfl ?_
      exact zR_e rfl rfl rfl rfl rfl rfl
    · have h1 : w = 1 := by
        rcases Decidable.em (w = 1) with h9 | h9
        · exact h9
        · exact absurd (fun h8 => h9 ((nI_eq (by omega) (by omega)).mp h8)) h
      rw [decide_eq_true h1]
      refine zR_to 200 rfl ?_
      refine zR_v rfl rfl rfl rfl rfl ⟨rfl, Nat.le_of_ble_eq_true rfl, Nat.le_of_ble_eq_true rfl⟩ rfl (Nat.le_refl _) (e_Mo_special (mb := true)) rfl rfl ?_
      refine zR_to 214 rfl ?_
      exact zR_e rfl rfl rfl rfl rfl rfl
  · rw [if_neg h0]
    refine ⟨_, rok_round (w := w) (mb := mb) h0 hc.2.2.1 hR, ?_⟩
    refine zR_to 179 rfl ?_
    refine zR_v rfl rfl rfl rfl rfl ⟨rfl, Nat.le_of_ble_eq_true rfl, Nat.le_of_ble_eq_true rfl⟩ rfl (Nat.le_refl _) (e_Mo_top (r := 0) (by decide) hR) rfl rfl ?_
    rw [hR0]
    have hn : 1 ≤ nb N := by
      rcases Nat.eq_zero_or_pos (nb N) with h9 | h9
      · have := nb_lt N
        rw [h9] at this
        omega
      · exact h9
    refine zR_m 1 rfl ?_
    refine zR_if (fun h => ?_) (fun h => absurd ((iZ_le (x := 0) (by omega) (by omega)).mpr (show (0 : Int) ≤ (nb N : Int) - 1 by omega)) h)
    refine zR_to 211 rfl ?_
    refine zR_v rfl rfl rfl rfl rfl ⟨rfl, Nat.le_of_ble_eq_true rfl, Nat.le_of_ble_eq_true rfl⟩ rfl (Nat.le_refl _) (e_Mo_result hc hq h0 hN hR hR0) rfl rfl ?_
    exact zR_e rfl rfl rfl rfl rfl rfl
theorem e_Mo_putU {r : Nat} {s : Int64} (hr : r < 5) (hR : Rok R) : zE L xs (d + 1) m_Mo_put [.ref 20, .int (nI r), .long s] (mV C u a b V M R) (.inl none) (mV C u a b V M (fu R r (uN s))) := by
  have h9 := e_Mo_put (L := L) (xs := xs) (d := d) (C := C) (u := u) (a := a) (b := b) (K := fun i => (V i).1) (B := fun i => (V i).2.1) (E := fun i => (V i).2.2.1) (S := fun i => (V i).2.2.2) (M := M) (R := R) (r := r) (n := uN s) hr (uN_lt2 s) hR
  rw [lN_uN] at h9
  exact h9
theorem uN_rok (s : Int64) : uN s < 65536 ^ 32 := Nat.lt_of_lt_of_le (uN_lt2 s) (by rw [B2]; exact Nat.pow_le_pow_right (by decide) (by decide))
theorem add_nb {x y n : Nat} (h1 : nb x ≤ n) (h2 : nb y ≤ n) : nb (x + y) ≤ n + 1 := nb_bd (by
  have e1 := Nat.lt_of_lt_of_le (nb_lt x) (Nat.pow_le_pow_right (n := 2) (by decide) h1)
  have e2 := Nat.lt_of_lt_of_le (nb_lt y) (Nat.pow_le_pow_right (n := 2) (by decide) h2)
  rw [Nat.pow_succ]
  omega)
theorem sub_nb {x y n : Nat} (h1 : nb x ≤ n) : nb (x - y) ≤ n := nb_bd (by
  have e1 := Nat.lt_of_lt_of_le (nb_lt x) (Nat.pow_le_pow_right (n := 2) (by decide) h1)
  omega)
theorem fsA_nb {x : RV} {ex ey : Int} (hs : 2 ^ 63 ≤ rs x) (h : ey ≤ ex) : nb (fsA x ex ey) ≤ 134 := by
  have h1 := nb64 hs (uN_lt2 _)
  have h0 : rs x ≠ 0 := by omega
  unfold fsA
  split
  · have := nb_shZ h0 (n := 10) (by omega)
    omega
  · have := nb_shZ h0 (n := ex - ey) (by omega)
    omega
theorem fsD_nb {y : RV} {ex ey : Int} : nb (fsD y ex ey) ≤ 64 := by
  unfold fsD
  split
  · decide
  · exact nb_bd (uN_lt2 _)
set_option maxRecDepth 10000 in
/-- from the signs on -/
theorem g_Mo_finiteSum {i j p w : Nat} {q : Int} {A D : Nat} (hi : i < 11) (hj : j < 11) (hc : cOk a p w) (hq : -100000 ≤ q ∧ q ≤ 100000) (hA : nb A ≤ 134) (hD : nb D ≤ 64) (hR : Rok R) (hR0 : R 0 = A) (hR1 : R 1 = D) : ∃ R', Rok R' ∧
    zR L xs (d + 5) m_Mo_finiteSum 103 [(5, .int (iZ q)), (0, .ref 20), (1, .int (nI i)), (2, .int (nI j))] [] (mV C u a b V M R) 0 (.inl none)
      (mV C u (nt a (if rn (V i) = rn (V j) then nRes w p (rn (V i)) (A + D) q else if D ≤ A then nRes w p (rn (V i)) (A - D) q else nRes w p (rn (V j)) (D - A) q).2) b (fu V 10 (if rn (V i) = rn (V j) then nRes w p (rn (V i)) (A + D) q else if D ≤ A then nRes w p (rn (V i)) (A - D) q else nRes w p (rn (V j)) (D - A) q).1) M R') 0 := by
  have hA5 : A < 65536 ^ 32 := lt512 hA (by decide)
  have hD5 : D < 65536 ^ 32 := lt512 hD (by decide)
  have hAD : nb (A + D) ≤ 135 := add_nb hA (by omega)
  by_cases hs : rn (V i) = rn (V j)
  · rw [if_pos hs]
    have hAD5 : A + D < 65536 ^ 32 := lt512 hAD (by decide)
    obtain ⟨R', hR', hgo⟩ := f_Mo_finiteSum (L := L) (xs := xs) (d := d) (C := C) (u := u) (a := a) (b := b) (V := V) (M := M) (R := fu R 0 (A + D)) (mb := rn (V i)) (N := A + D) hc hq (by omega) (hR.fu hAD5) fu_s
    refine ⟨R', hR', ?_⟩
    refine zR_to 108 rfl ?_
    refine zB_get rfl rfl hi rfl ?_
    refine zR_to 116 rfl ?_
    refine zB_get rfl rfl hi rfl ?_
    refine zR_to 122 rfl ?_
    refine zB_get rfl rfl hj rfl ?_
    refine zR_m 1 rfl ?_
    refine zR_if (fun h => absurd (bI_eq.mpr hs) h) (fun _ => ?_)
    refine zR_to 130 (st' := [.int (iZ 1), .int (nI 1), .int (nI 0), .ref 20]) rfl ?_
    refine zR_v rfl rfl rfl rfl rfl ⟨rfl, Nat.le_of_ble_eq_true rfl, Nat.le_of_ble_eq_true rfl⟩ rfl (Nat.le_refl _) (e_Mo_add (p := 0) (q := 1) (s := 1) (Or.inl rfl) (by decide) (by decide) (by decide) hR) rfl rfl ?_
    rw [hR0, hR1, adL_add hAD5]
    refine zR_to 177 rfl ?_
    exact zR_w hgo rfl rfl ⟨rfl, rfl, rfl, trivial⟩
  · rw [if_neg hs]
    have hcr := cmpZ_rng A D
    by_cases hl : D ≤ A
    · rw [if_pos hl]
      have hAD5 : A - D < 65536 ^ 32 := by omega
      obtain ⟨R', hR', hgo⟩ := f_Mo_finiteSum (L := L) (xs := xs) (d := d) (C := C) (u := u) (a := a) (b := b) (V := V) (M := M) (R := fu R 0 (A - D)) (mb := rn (V i)) (N := A - D) hc hq (by have := sub_nb (y := D) hA; omega) (hR.fu hAD5) fu_s
      refine ⟨R', hR', ?_⟩
      refine zR_to 108 rfl ?_
      refine zB_get rfl rfl hi rfl ?_
      refine zR_to 116 rfl ?_
      refine zB_get rfl rfl hi rfl ?_
      refine zR_to 122 rfl ?_
      refine zB_get rfl rfl hj rfl ?_
      refine zR_m 1 rfl ?_
      refine zR_if (fun _ => ?_) (fun h => absurd (fun h9 => hs (bI_eq.mp h9)) h)
      refine zR_to 139 rfl ?_
      refine zR_v rfl rfl rfl rfl rfl ⟨rfl, Nat.le_of_ble_eq_true rfl, Nat.le_of_ble_eq_true rfl⟩ rfl (Nat.le_refl _) (e_Mo_compareRows (p := 0) (q := 1) (by decide) (by decide) hR) rfl rfl ?_
      rw [hR0, hR1]
      refine zR_m 1 rfl ?_
      refine zR_if (fun h => ?_) (fun _ => ?_)
      · have := (iZ_lt (y := 0) (by omega) (by omega)).mp h
        have := cmpZ_ge.mpr hl
        omega
      refine zR_to 149 (st' := [.int (iZ (-1)), .int (nI 1), .int (nI 0), .ref 20]) rfl ?_
      refine zR_v rfl rfl rfl rfl rfl ⟨rfl, Nat.le_of_ble_eq_true rfl, Nat.le_of_ble_eq_true rfl⟩ rfl (Nat.le_refl _) (e_Mo_add (p := 0) (q := 1) (s := -1) (Or.inr rfl) (by decide) (by decide) (by decide) hR) rfl rfl ?_
      rw [hR0, hR1, adL_sub hA5 hl]
      refine zR_to 177 rfl ?_
      exact zR_w hgo rfl rfl ⟨rfl, rfl, rfl, trivial⟩
    · rw [if_neg hl]
      have hAD5 : D - A < 65536 ^ 32 := by omega
      have hR2 : Rok (fu R 1 (D - A)) := hR.fu hAD5
      have hDn : nb (D - A) ≤ 64 := sub_nb hD
      obtain ⟨R', hR', hgo⟩ := f_Mo_finiteSum (L := L) (xs := xs) (d := d) (C := C) (u := u) (a := a) (b := b) (V := V) (M := M) (R := fu (fu R 1 (D - A)) 0 (D - A)) (mb := rn (V j)) (N := D - A) hc hq (by omega) (hR2.fu hAD5) fu_s
      refine ⟨R', hR', ?_⟩
      refine zR_to 108 rfl ?_
      refine zB_get rfl rfl hi rfl ?_
      refine zR_to 116 rfl ?_
      refine zB_get rfl rfl hi rfl ?_
      refine zR_to 122 rfl ?_
      refine zB_get rfl rfl hj rfl ?_
      refine zR_m 1 rfl ?_
      refine zR_if (fun _ => ?_) (fun h => absurd (fun h9 => hs (bI_eq.mp h9)) h)
      refine zR_to 139 rfl ?_
      refine zR_v rfl rfl rfl rfl rfl ⟨rfl, Nat.le_of_ble_eq_true rfl, Nat.le_of_ble_eq_true rfl⟩ rfl (Nat.le_refl _) (e_Mo_compareRows (p := 0) (q := 1) (by decide) (by decide) hR) rfl rfl ?_
      rw [hR0, hR1]
      refine zR_m 1 rfl ?_
      refine zR_if (fun _ => ?_) (fun h => absurd ((iZ_lt (y := 0) (by omega) (by omega)).mpr (by
        rcases Int.lt_or_le (cmpZ A D) 0 with h9 | h9
        · exact h9
        · exact absurd (cmpZ_ge.mp h9) hl)) h)
      refine zR_to 159 (st' := [.int (iZ (-1)), .int (nI 0), .int (nI 1), .ref 20]) rfl ?_
      refine zR_v rfl rfl rfl rfl rfl ⟨rfl, Nat.le_of_ble_eq_true rfl, Nat.le_of_ble_eq_true rfl⟩ rfl (Nat.le_refl _) (e_Mo_add (p := 1) (q := 0) (s := -1) (Or.inr rfl) (by decide) (by decide) (by decide) hR) rfl rfl ?_
      rw [hR0, hR1, adL_sub hD5 (by omega)]
      refine zR_to 166 (st' := [.int (iZ 0), .int (nI 0), .int (nI 1), .ref 20]) rfl ?_
      refine zR_v rfl rfl rfl rfl rfl ⟨rfl, Nat.le_of_ble_eq_true rfl, Nat.le_of_ble_eq_true rfl⟩ rfl (Nat.le_refl _) (e_Mo_shift (f := 1) (t := 0) (n := 0) (by decide) (by decide) (by decide) hR2 (by rw [fu_s]; omega) (by omega)) rfl rfl ?_
      rw [fu_s, show shZ (D - A) 0 = D - A from by rw [show (0 : Int) = ((0 : Nat) : Int) from rfl, shZ_pos, Nat.pow_zero, Nat.mul_one]]
      refine zR_to 174 rfl ?_
      refine zB_get rfl rfl hj rfl ?_
      refine zR_to 177 rfl ?_
      exact zR_w hgo rfl rfl ⟨rfl, rfl, rfl, trivial⟩
set_option maxRecDepth 10000 in
theorem e_Mo_finiteSum {i j p w : Nat} {ex ey : Int} (hi : i < 11) (hj : j < 11) (hc : cOk a p w) (hx : re (V i) = iZ ex) (hy : re (V j) = iZ ey) (hs : 2 ^ 63 ≤ rs (V i)) (hl : ey ≤ ex) (hex : -17000 ≤ ey ∧ ex ≤ 17000) (hR : Rok R) :
    zEr L xs (d + 5) m_Mo_finiteSum [.ref 20, .int (nI i), .int (nI j)] (mV C u a b V M R) (.inl none) C u (nt a (fsR w p (V i) (V j) ex ey).2) b (fu V 10 (fsR w p (V i) (V j) ex ey).1) M := by
  have hA := fsA_nb hs hl
  have hD := fsD_nb (y := V j) (ex := ex) (ey := ey)
  have hA5 : fsA (V i) ex ey < 65536 ^ 32 := lt512 hA (by decide)
  have hD5 : fsD (V j) ex ey < 65536 ^ 32 := lt512 hD (by decide)
  have h64 := nb64 hs (uN_lt2 _)
  have hR1 : Rok (fu R 1 (rs (V i))) := hR.fu (uN_rok _)
  have hR2 : Rok (fu (fu R 1 (rs (V i))) 0 (fsA (V i) ex ey)) := hR1.fu hA5
  have hR3 : Rok (fu (fu (fu R 1 (rs (V i))) 0 (fsA (V i) ex ey)) 1 (fsD (V j) ex ey)) := hR2.fu hD5
  obtain ⟨R', hR', hgo⟩ := g_Mo_finiteSum (L := L) (xs := xs) (d := d) (C := C) (u := u) (a := a) (b := b) (V := V) (M := M) (i := i) (j := j) (q := fsQ ex ey) (A := fsA (V i) ex ey) (D := fsD (V j) ex ey) hi hj hc (by unfold fsQ; split <;> omega) hA hD hR3 (by rw [fu_n (by decide), fu_s]) fu_s
  refine ⟨R', hR', 0, Nat.zero_le _, ?_⟩
  refine zR_to 5 rfl ?_
  refine zX_get rfl rfl hi rfl ?_
  refine zR_to 11 rfl ?_
  refine zX_get rfl rfl hj rfl ?_
  refine zR_to 13 (st' := [.int (re (V i) - re (V j))]) rfl ?_
  rw [hx, hy, iZ_sub]
  refine zR_to 17 (st' := [.int (iZ 70), .int (iZ (ex - ey))]) rfl ?_
  refine zR_m 1 rfl ?_
  refine zR_if (fun h => ?_) (fun h => ?_)
  · have h1 := (iZ_le (by omega) (by omega)).mp h
    refine zR_to 34 rfl ?_
    refine zS_get rfl rfl hi rfl ?_
    refine zR_v rfl rfl rfl rfl rfl ⟨rfl, Nat.le_of_ble_eq_true rfl, Nat.le_of_ble_eq_true rfl⟩ rfl (Nat.le_refl _) (e_Mo_putU (r := 1) (by decide) hR) rfl rfl ?_
    refine zR_to 52 (st' := [.int (iZ (ex - ey)), .int (nI 0), .int (nI 1), .ref 20]) rfl ?_
    refine zR_v rfl rfl rfl rfl rfl ⟨rfl, Nat.le_of_ble_eq_true rfl, Nat.le_of_ble_eq_true rfl⟩ rfl (Nat.le_refl _) (e_Mo_shift (f := 1) (t := 0) (n := ex - ey) (by decide) (by decide) (by decide) hR1 (by rw [fu_s]; show (nb (rs (V i)) : Int) + (ex - ey) ≤ 512; omega) (by omega)) rfl rfl ?_
    rw [fu_s, show shZ (uN (V i).2.2.2) (ex - ey) = fsA (V i) ex ey from by unfold fsA; rw [if_neg (by omega)]]
    refine zR_to 71 rfl ?_
    refine zS_get rfl rfl hj rfl ?_
    refine zR_v rfl rfl rfl rfl rfl ⟨rfl, Nat.le_of_ble_eq_true rfl, Nat.le_of_ble_eq_true rfl⟩ rfl (Nat.le_refl _) (e_Mo_putU (r := 1) (by decide) hR2) rfl rfl ?_
    rw [show uN (V j).2.2.2 = fsD (V j) ex ey from by unfold fsD; rw [if_neg (by omega)]]
    refine zR_to 97 rfl ?_
    refine zX_get rfl rfl hj rfl ?_
    refine zR_to 101 (st' := [.int (re (V j) - iZ 63)]) rfl ?_
    rw [hy, iZ_sub, show ey - 63 = fsQ ex ey from by unfold fsQ; rw [if_neg (by omega)]]
    refine zR_to 103 rfl ?_
    exact zR_w hgo rfl rfl ⟨rfl, rfl, rfl, rfl, trivial⟩
  · have h1 : ¬ ex - ey ≤ 70 := fun h9 => h ((iZ_le (by omega) (by omega)).mpr h9)
    refine zR_to 34 rfl ?_
    refine zS_get rfl rfl hi rfl ?_
    refine zR_v rfl rfl rfl rfl rfl ⟨rfl, Nat.le_of_ble_eq_true rfl, Nat.le_of_ble_eq_true rfl⟩ rfl (Nat.le_refl _) (e_Mo_putU (r := 1) (by decide) hR) rfl rfl ?_
    refine zR_to 52 (st' := [.int (iZ 10), .int (nI 0), .int (nI 1), .ref 20]) rfl ?_
    refine zR_v rfl rfl rfl rfl rfl ⟨rfl, Nat.le_of_ble_eq_true rfl, Nat.le_of_ble_eq_true rfl⟩ rfl (Nat.le_refl _) (e_Mo_shift (f := 1) (t := 0) (n := 10) (by decide) (by decide) (by decide) hR1 (by rw [fu_s]; show (nb (rs (V i)) : Int) + 10 ≤ 512; omega) (by omega)) rfl rfl ?_
    rw [fu_s, show shZ (uN (V i).2.2.2) 10 = fsA (V i) ex ey from by unfold fsA; rw [if_pos (by omega)]]
    have hd1 : fsD (V j) ex ey = 1 := by unfold fsD; rw [if_pos (by omega)]
    refine zR_to 72 (st' := [.long (lN (fsD (V j) ex ey)), .int (nI 1), .ref 20]) (by rw [hd1]; rfl) ?_
    refine zR_v rfl rfl rfl rfl rfl ⟨rfl, Nat.le_of_ble_eq_true rfl, Nat.le_of_ble_eq_true rfl⟩ rfl (Nat.le_refl _) (e_Mo_put (r := 1) (n := fsD (V j) ex ey) (by decide) (by rw [hd1]; decide) hR2) rfl rfl ?_
    refine zR_to 85 rfl ?_
    refine zX_get rfl rfl hi rfl ?_
    refine zR_to 101 (st' := [.int (re (V i) - iZ 73)]) rfl ?_
    rw [hx, iZ_sub, show ex - 73 = fsQ ex ey from by unfold fsQ; rw [if_pos (by omega)]]
    refine zR_to 103 rfl ?_
    exact zR_w hgo rfl rfl ⟨rfl, rfl, rfl, rfl, trivial⟩
end FS
end
section
/-! sum and product of the reference, as functions of the two reals -/
def zr (v : RV) : Int := (re v).toInt
theorem re_zr (v : RV) : re v = iZ (zr v) := iZ_of _
/-- a real as the stack holds it -/
def vOk (v : RV) : Prop := (rk v = 0 ∨ rk v = 1 ∨ rk v = 2 ∨ rk v = 3) ∧ (rk v = 1 → 2 ^ 63 ≤ rs v ∧ -17000 ≤ zr v ∧ zr v ≤ 17000) ∧ (rk v ≠ 1 → re v = 0 ∧ v.2.2.2 = 0) ∧ (rk v = 3 → rn v = false)
def oneR (w p : Nat) (v : RV) : RV × Int32 := (rVal w (rn v) (rs v) p 16383 (zr v - 63), rNt w (rn v) (rs v) p 16383 (zr v - 63))
def sumR (w p : Nat) (x y : RV) : RV × Int32 := if eit x y 3 then (vNan, 0)
  else if eit x y 2 then (if rk x = rk y ∧ rn x ≠ rn y then (vNan, 1) else ((2, (if rk x = 2 then rn x else rn y), 0, 0), 0))
  else if rk x = 0 ∧ rk y = 0 then ((0, (if rn x = rn y then rn x else decide (w = 1)), 0, 0), 0)
  else if eit x y 0 then oneR w p (if rk x = 0 then y else x)
  else if zr x < zr y then fsR w p y x (zr y) (zr x) else fsR w p x y (zr x) (zr y)
def mulR (w p : Nat) (x y : RV) : RV × Int32 := if eit x y 3 then (vNan, 0)
  else if eit x y 0 && eit x y 2 then (vNan, 1)
  else if eit x y 2 then ((2, decide (rn x ≠ rn y), 0, 0), 0)
  else if eit x y 0 then ((0, decide (rn x ≠ rn y), 0, 0), 0)
  else (rVal w (decide (rn x ≠ rn y)) (rs x * rs y) p 16383 (zr x + zr y - 126), rNt w (decide (rn x ≠ rn y)) (rs x * rs y) p 16383 (zr x + zr y - 126))
section SU
variable {L : Nat} {xs : Nat → Int32} {d : Nat} {mi : ZM} {pc : Nat} {lv : zL} {st st' : List Value} {h' : zH} {k k' : Nat} {o : zO} {pc' : Nat}
variable {C : Nat → zC} {u : zC} {a : Nat → Int32} {b : Nat → Int64} {M : Nat → Int64} {R : Nat → Nat} {V : Nat → RV}
theorem eit_f {x y : RV} {kd : Int32} (h : eit x y kd = false) : rk x ≠ kd ∧ rk y ≠ kd := by
  unfold eit at h
  rw [Bool.or_eq_false_iff] at h
  exact ⟨of_decide_eq_false h.1, of_decide_eq_false h.2⟩
theorem eit_fin {x y : RV} (hx : vOk x) (hy : vOk y) (h3 : eit x y 3 = false) (h2 : eit x y 2 = false) (h0 : eit x y 0 = false) : rk x = 1 ∧ rk y = 1 := by
  obtain ⟨a1, a2⟩ := eit_f h3
  obtain ⟨b1, b2⟩ := eit_f h2
  obtain ⟨c1, c2⟩ := eit_f h0
  constructor
  · rcases hx.1 with h | h | h | h
    · exact absurd h c1
    · exact h
    · exact absurd h b1
    · exact absurd h a1
  · rcases hy.1 with h | h | h | h
    · exact absurd h c2
    · exact h
    · exact absurd h b2
    · exact absurd h a2
set_option maxRecDepth 10000 in
/-- one real, rounded: the common end of sum and scaled -/
theorem t_Mo_sum {kk p w : Nat} (hk : kk < 11) (hc : cOk a p w) (hf : rk (V kk) = 1) (hv : vOk (V kk)) (hR : Rok R) : ∃ R', Rok R' ∧ zR L xs (d + 5) m_Mo_sum 206 [(1, .int (nI kk)), (0, .ref 20)] [] (mV C u a b V M R) 0 (.inl none) (mV C u (nt a (oneR w p (V kk)).2) b (fu V 10 (oneR w p (V kk)).1) M R') 0 := by
  obtain ⟨h1, h2, h3⟩ := hv.2.1 hf
  have hX : rs (V kk) ≠ 0 := by omega
  have h64 := nb64 h1 (uN_lt2 _)
  refine ⟨_, rok_round (w := w) (mb := rn (V kk)) hX hc.2.2.1 (hR.fu (uN_rok _) : Rok (fu R 0 (rs (V kk)))), ?_⟩
  refine zR_to 213 rfl ?_
  refine zS_get rfl rfl hk rfl ?_
  refine zR_v rfl rfl rfl rfl rfl ⟨rfl, Nat.le_of_ble_eq_true rfl, Nat.le_of_ble_eq_true rfl⟩ rfl (Nat.le_refl _) (e_Mo_putU (r := 0) (by decide) hR) rfl rfl ?_
  refine zR_to 223 rfl ?_
  refine zB_get rfl rfl hk rfl ?_
  refine zR_to 229 rfl ?_
  refine zX_get rfl rfl hk rfl ?_
  refine zR_to 233 (st' := [.int (re (V kk) - iZ 63), .int (bI (rn (V kk))), .ref 20]) rfl ?_
  rw [re_zr, iZ_sub]
  refine zR_v rfl rfl rfl rfl rfl ⟨rfl, Nat.le_of_ble_eq_true rfl, Nat.le_of_ble_eq_true rfl⟩ rfl (Nat.le_refl _) (e_Mo_result (X := rs (V kk)) hc (by omega) hX (by omega) (hR.fu (uN_rok _)) fu_s) rfl rfl ?_
  refine zR_to 291 rfl ?_
  exact zR_e rfl rfl rfl rfl rfl rfl
set_option maxRecDepth 10000 in
set_option maxHeartbeats 4000000 in
theorem e_Mo_sum {p w : Nat} (hc : cOk a p w) (hx : vOk (V 8)) (hy : vOk (V 9)) (hR : Rok R) : zEr L xs (d + 6) m_Mo_sum [.ref 20] (mV C u a b V M R) (.inl none) C u (nt a (sumR w p (V 8) (V 9)).2) b (fu V 10 (sumR w p (V 8) (V 9)).1) M := by
  -- the run's head
  have go : ∀ {h9 : zH}, zR L xs (d + 6) m_Mo_sum 5 [(0, .ref 20)] [.int (bI (eit (V 8) (V 9) 3))] (mV C u a b V M R) 0 (.inl none) h9 0 → zE L xs (d + 6) m_Mo_sum [.ref 20] (mV C u a b V M R) (.inl none) h9 := fun hr => by
    refine ⟨0, Nat.zero_le _, ?_⟩
    refine zR_to 2 rfl ?_
    exact zR_v rfl rfl rfl rfl rfl ⟨rfl, Nat.le_of_ble_eq_true rfl, Nat.le_of_ble_eq_true rfl⟩ rfl (Nat.le_refl _) e_Mo_either rfl rfl hr
  unfold sumR
  cases h3 : eit (V 8) (V 9) 3 with
  | true =>
    rw [if_pos rfl, nt_0]
    refine ⟨R, hR, go ?_⟩
    rw [h3]
    refine zR_to 11 (st' := [.int (bI false), .int 3, .ref 20]) rfl ?_
    refine zR_v rfl rfl rfl rfl rfl ⟨rfl, Nat.le_of_ble_eq_true rfl, Nat.le_of_ble_eq_true rfl⟩ rfl (Nat.le_refl _) e_Mo_special rfl rfl ?_
    refine zR_to 291 rfl ?_
    exact zR_e rfl rfl rfl rfl rfl rfl
  | false =>
    rw [if_neg (by decide)]
    -- the second question
    have go2 : ∀ {h9 : zH}, zR L xs (d + 6) m_Mo_sum 22 [(0, .ref 20)] [.int (bI (eit (V 8) (V 9) 2))] (mV C u a b V M R) 0 (.inl none) h9 0 → zE L xs (d + 6) m_Mo_sum [.ref 20] (mV C u a b V M R) (.inl none) h9 := fun hr => by
      refine go ?_
      rw [h3]
      refine zR_to 19 rfl ?_
      exact zR_v rfl rfl rfl rfl rfl ⟨rfl, Nat.le_of_ble_eq_true rfl, Nat.le_of_ble_eq_true rfl⟩ rfl (Nat.le_refl _) e_Mo_either rfl rfl hr
    clear go
    cases h2 : eit (V 8) (V 9) 2 with
    | true =>
      rw [if_pos rfl]
      -- infinite, and no fault
      have inf : ¬ (rk (V 8) = rk (V 9) ∧ rn (V 8) ≠ rn (V 9)) → ∀ z : Int32, zR L xs (d + 6) m_Mo_sum 76 [(1, .int z), (0, .ref 20)] [] (mV C u a b V M R) 0 (.inl none) (mV C u a b (fu V 10 (2, (if rk (V 8) = 2 then rn (V 8) else rn (V 9)), 0, 0)) M R) 0 := by
        intro _ z
        refine zR_to 86 (st' := [.int 2, .int (rk (V 8)), .int 2, .ref 20]) rfl ?_
        refine zR_m 1 rfl ?_
        refine zR_if (fun h => ?_) (fun h => ?_)
        · rw [if_neg (show ¬ rk (V 8) = 2 from h)]
          refine zR_to 106 (st' := [.int (bI (rn (V 9))), .int 2, .ref 20]) rfl ?_
          refine zR_v rfl rfl rfl rfl rfl ⟨rfl, Nat.le_of_ble_eq_true rfl, Nat.le_of_ble_eq_true rfl⟩ rfl (Nat.le_refl _) e_Mo_special rfl rfl ?_
          refine zR_to 291 rfl ?_
          exact zR_e rfl rfl rfl rfl rfl rfl
        · rw [if_pos (show rk (V 8) = 2 from Decidable.of_not_not h)]
          refine zR_to 106 (st' := [.int (bI (rn (V 8))), .int 2, .ref 20]) rfl ?_
          refine zR_v rfl rfl rfl rfl rfl ⟨rfl, Nat.le_of_ble_eq_true rfl, Nat.le_of_ble_eq_true rfl⟩ rfl (Nat.le_refl _) e_Mo_special rfl rfl ?_
          refine zR_to 291 rfl ?_
          exact zR_e rfl rfl rfl rfl rfl rfl
      by_cases hb : rk (V 8) = rk (V 9) ∧ rn (V 8) ≠ rn (V 9)
      · rw [if_pos hb]
        refine ⟨R, hR, go2 ?_⟩
        rw [h2]
        refine zR_to 39 (st' := [.int (rk (V 9)), .int (rk (V 8))]) rfl ?_
        refine zR_m 1 rfl ?_
        refine zR_if (fun h => absurd hb.1 h) (fun _ => ?_)
        refine zR_to 66 (st' := [.int (bI (rn (V 9))), .int (bI (rn (V 8)))]) rfl ?_
        refine zR_m 1 rfl ?_
        refine zR_if (fun h => absurd (bI_eq.mp h) hb.2) (fun _ => ?_)
        refine zR_to 70 rfl ?_
        refine zR_v rfl rfl rfl rfl rfl ⟨rfl, Nat.le_of_ble_eq_true rfl, Nat.le_of_ble_eq_true rfl⟩ rfl (Nat.le_refl _) e_Mo_invalid rfl rfl ?_
        refine zR_to 291 rfl ?_
        exact zR_e rfl rfl rfl rfl rfl rfl
      · rw [if_neg hb, nt_0]
        refine ⟨R, hR, go2 ?_⟩
        rw [h2]
        refine zR_to 39 (st' := [.int (rk (V 9)), .int (rk (V 8))]) rfl ?_
        refine zR_m 1 rfl ?_
        refine zR_if (fun h => ?_) (fun h => ?_)
        · refine zR_to 76 rfl ?_
          exact zR_w (inf hb 0) rfl rfl ⟨rfl, rfl, trivial⟩
        · refine zR_to 66 (st' := [.int (bI (rn (V 9))), .int (bI (rn (V 8)))]) rfl ?_
          refine zR_m 1 rfl ?_
          refine zR_if (fun h4 => ?_) (fun h4 => absurd ⟨Decidable.of_not_not h, fun h5 => h4 (bI_eq.mpr h5)⟩ hb)
          refine zR_to 76 rfl ?_
          exact zR_w (inf hb 1) rfl rfl ⟨rfl, rfl, trivial⟩
    | false =>
      rw [if_neg (by decide)]
      have go3 : ∀ {h9 : zH}, zR L xs (d + 6) m_Mo_sum 119 [(0, .ref 20)] [.int (rk (V 8))] (mV C u a b V M R) 0 (.inl none) h9 0 → zE L xs (d + 6) m_Mo_sum [.ref 20] (mV C u a b V M R) (.inl none) h9 := fun hr => by
        refine go2 ?_
        rw [h2]
        exact zR_to 119 rfl hr
      clear go2
      by_cases hz : rk (V 8) = 0 ∧ rk (V 9) = 0
      · rw [if_pos hz, nt_0]
        refine ⟨R, hR, go3 ?_⟩
        rw [hz.1]
        refine zR_to 129 (st' := [.int (rk (V 9))]) rfl ?_
        rw [hz.2]
        have fin : ∀ x : Bool, zR L xs (d + 6) m_Mo_sum 174 [(0, .ref 20)] [.int (bI x), .int 0, .ref 20] (mV C u a b V M R) 0 (.inl none) (mV C u a b (fu V 10 (0, x, 0, 0)) M R) 0 := by
          intro x
          refine zR_v rfl rfl rfl rfl rfl ⟨rfl, Nat.le_of_ble_eq_true rfl, Nat.le_of_ble_eq_true rfl⟩ rfl (Nat.le_refl _) e_Mo_special rfl rfl ?_
          refine zR_to 291 rfl ?_
          exact zR_e rfl rfl rfl rfl rfl rfl
        refine zR_to 148 (st' := [.int (bI (rn (V 9))), .int (bI (rn (V 8))), .int 0, .ref 20]) rfl ?_
        refine zR_m 1 rfl ?_
        refine zR_if (fun h => ?_) (fun h => ?_)
        · rw [if_neg (fun h5 => h (bI_eq.mpr h5))]
          refine zR_to 166 (st' := [.int 1, .int (a 2), .int 0, .ref 20]) rfl ?_
          rw [hc.2.1]
          refine zR_m 1 rfl ?_
          have hw := hc.2.2.2
          refine zR_if (fun h6 => ?_) (fun h6 => ?_)
          · rw [decide_eq_false (fun h9 => h6 (by rw [h9]; rfl))]
            exact zR_to 174 rfl (fin false)
          · have h1 : w = 1 := by
              rcases Decidable.em (w = 1) with h9 | h9
              · exact h9
              · exact absurd (fun h8 => h9 ((nI_eq (by omega) (by omega)).mp h8)) h6
            rw [decide_eq_true h1]
            exact zR_to 174 rfl (fin true)
        · rw [if_pos (bI_eq.mp (Decidable.of_not_not h))]
          exact zR_to 174 rfl (fin _)
      · rw [if_neg hz]
        have go4 : ∀ {h9 : zH}, zR L xs (d + 6) m_Mo_sum 185 [(0, .ref 20)] [.int (bI (eit (V 8) (V 9) 0))] (mV C u a b V M R) 0 (.inl none) h9 0 → zE L xs (d + 6) m_Mo_sum [.ref 20] (mV C u a b V M R) (.inl none) h9 := fun {h9} hr => by
          refine go3 ?_
          have hr' : zR L xs (d + 6) m_Mo_sum 180 [(0, .ref 20)] [] (mV C u a b V M R) 0 (.inl none) h9 0 := by
            refine zR_to 182 rfl ?_
            exact zR_v rfl rfl rfl rfl rfl ⟨rfl, Nat.le_of_ble_eq_true rfl, Nat.le_of_ble_eq_true rfl⟩ rfl (Nat.le_refl _) e_Mo_either rfl rfl hr
          refine zR_m 1 rfl ?_
          refine zR_if (fun h => ?_) (fun h => ?_)
          · exact hr'
          · refine zR_to 129 (st' := [.int (rk (V 9))]) rfl ?_
            refine zR_m 1 rfl ?_
            refine zR_if (fun h5 => hr') (fun h5 => absurd ⟨Decidable.of_not_not h, Decidable.of_not_not h5⟩ hz)
        clear go3
        cases h0 : eit (V 8) (V 9) 0 with
        | true =>
          rw [if_pos rfl]
          by_cases hk : rk (V 8) = 0
          · rw [if_pos hk]
            have hf : rk (V 9) = 1 := by
              obtain ⟨-, a2⟩ := eit_f h3
              obtain ⟨-, b2⟩ := eit_f h2
              rcases hy.1 with h | h | h | h
              · exact absurd ⟨hk, h⟩ hz
              · exact h
              · exact absurd h b2
              · exact absurd h a2
            obtain ⟨R', hR', hgo⟩ := t_Mo_sum (L := L) (xs := xs) (d := d + 1) (C := C) (u := u) (a := a) (b := b) (V := V) (M := M) (R := R) (kk := 9) (by decide) hc hf hy hR
            refine ⟨R', hR', go4 ?_⟩
            rw [h0]
            refine zR_to 195 (st' := [.int (rk (V 8))]) rfl ?_
            rw [hk]
            refine zR_to 206 rfl ?_
            exact zR_w hgo rfl rfl ⟨rfl, rfl, trivial⟩
          · rw [if_neg hk]
            have hf : rk (V 8) = 1 := by
              obtain ⟨a2, -⟩ := eit_f h3
              obtain ⟨b2, -⟩ := eit_f h2
              rcases hx.1 with h | h | h | h
              · exact absurd h hk
              · exact h
              · exact absurd h b2
              · exact absurd h a2
            obtain ⟨R', hR', hgo⟩ := t_Mo_sum (L := L) (xs := xs) (d := d + 1) (C := C) (u := u) (a := a) (b := b) (V := V) (M := M) (R := R) (kk := 8) (by decide) hc hf hx hR
            refine ⟨R', hR', go4 ?_⟩
            rw [h0]
            refine zR_to 195 (st' := [.int (rk (V 8))]) rfl ?_
            rw [hf]
            refine zR_to 206 rfl ?_
            exact zR_w hgo rfl rfl ⟨rfl, rfl, trivial⟩
        | false =>
          rw [if_neg (by decide)]
          obtain ⟨f8, f9⟩ := eit_fin hx hy h3 h2 h0
          obtain ⟨x1, x2, x3⟩ := hx.2.1 f8
          obtain ⟨y1, y2, y3⟩ := hy.2.1 f9
          by_cases hl : zr (V 8) < zr (V 9)
          · rw [if_pos hl]
            obtain ⟨R', hR', hgo⟩ := e_Mo_finiteSum (L := L) (xs := xs) (d := d) (C := C) (u := u) (a := a) (b := b) (V := V) (M := M) (R := R) (i := 9) (j := 8) (by decide) (by decide) hc (re_zr _) (re_zr _) y1 (by omega) (by omega) hR
            refine ⟨R', hR', go4 ?_⟩
            rw [h0]
            refine zR_to 254 (st' := [.int (re (V 9)), .int (re (V 8)), .ref 20]) rfl ?_
            refine zR_m 1 rfl ?_
            have hlt : re (V 8) < re (V 9) := by rw [re_zr (V 8), re_zr (V 9), iZ_lt (by omega) (by omega)]; exact hl
            refine zR_if (fun h => absurd hlt (Int32.not_lt.mpr h)) (fun _ => ?_)
            refine zR_to 278 (st' := [.int (re (V 9)), .int (re (V 8)), .int (nI 9), .ref 20]) rfl ?_
            refine zR_m 1 rfl ?_
            refine zR_if (fun h => absurd hlt (Int32.not_lt.mpr h)) (fun _ => ?_)
            refine zR_to 288 rfl ?_
            refine zR_v rfl rfl rfl rfl rfl ⟨rfl, Nat.le_of_ble_eq_true rfl, Nat.le_of_ble_eq_true rfl⟩ rfl (Nat.le_refl _) hgo rfl rfl ?_
            exact zR_e rfl rfl rfl rfl rfl rfl
          · rw [if_neg hl]
            obtain ⟨R', hR', hgo⟩ := e_Mo_finiteSum (L := L) (xs := xs) (d := d) (C := C) (u := u) (a := a) (b := b) (V := V) (M := M) (R := R) (i := 8) (j := 9) (by decide) (by decide) hc (re_zr _) (re_zr _) x1 (by omega) (by omega) hR
            refine ⟨R', hR', go4 ?_⟩
            rw [h0]
            refine zR_to 254 (st' := [.int (re (V 9)), .int (re (V 8)), .ref 20]) rfl ?_
            refine zR_m 1 rfl ?_
            have hlt : re (V 9) ≤ re (V 8) := by rw [re_zr (V 8), re_zr (V 9), iZ_le (by omega) (by omega)]; omega
            refine zR_if (fun _ => ?_) (fun h => absurd hlt h)
            refine zR_to 278 (st' := [.int (re (V 9)), .int (re (V 8)), .int (nI 8), .ref 20]) rfl ?_
            refine zR_m 1 rfl ?_
            refine zR_if (fun _ => ?_) (fun h => absurd hlt h)
            refine zR_to 288 rfl ?_
            refine zR_v rfl rfl rfl rfl rfl ⟨rfl, Nat.le_of_ble_eq_true rfl, Nat.le_of_ble_eq_true rfl⟩ rfl (Nat.le_refl _) hgo rfl rfl ?_
            exact zR_e rfl rfl rfl rfl rfl rfl
end SU
end
section
section MU
variable {L : Nat} {xs : Nat → Int32} {d : Nat} {mi : ZM} {pc : Nat} {lv : zL} {st st' : List Value} {h' : zH} {k k' : Nat} {o : zO} {pc' : Nat}
variable {C : Nat → zC} {u : zC} {a : Nat → Int32} {b : Nat → Int64} {M : Nat → Int64} {R : Nat → Nat} {V : Nat → RV}
theorem mul_nb {x y m n : Nat} (h1 : nb x ≤ m) (h2 : nb y ≤ n) : nb (x * y) ≤ m + n := nb_bd (by
  have e1 := Nat.lt_of_lt_of_le (nb_lt x) (Nat.pow_le_pow_right (n := 2) (by decide) h1)
  have e2 := Nat.lt_of_lt_of_le (nb_lt y) (Nat.pow_le_pow_right (n := 2) (by decide) h2)
  rw [Nat.pow_add]
  exact Nat.mul_lt_mul'' e1 e2)
set_option maxRecDepth 10000 in
set_option maxHeartbeats 4000000 in
theorem e_Mo_product {p w : Nat} (hc : cOk a p w) (hx : vOk (V 8)) (hy : vOk (V 9)) (hR : Rok R) : zEr L xs (d + 6) m_Mo_product [.ref 20] (mV C u a b V M R) (.inl none) C u (nt a (mulR w p (V 8) (V 9)).2) b (fu V 10 (mulR w p (V 8) (V 9)).1) M := by
  generalize hmb : decide (rn (V 8) ≠ rn (V 9)) = mb
  have go : ∀ {h9 : zH}, zR L xs (d + 6) m_Mo_product 28 [(1, .int (bI mb)), (0, .ref 20)] [.int (bI (eit (V 8) (V 9) 3))] (mV C u a b V M R) 0 (.inl none) h9 0 → zE L xs (d + 6) m_Mo_product [.ref 20] (mV C u a b V M R) (.inl none) h9 := fun {h9} hr => by
    have hr' : zR L xs (d + 6) m_Mo_product 23 [(1, .int (bI mb)), (0, .ref 20)] [] (mV C u a b V M R) 0 (.inl none) h9 0 := by
      refine zR_to 25 rfl ?_
      exact zR_v rfl rfl rfl rfl rfl ⟨rfl, Nat.le_of_ble_eq_true rfl, Nat.le_of_ble_eq_true rfl⟩ rfl (Nat.le_refl _) e_Mo_either rfl rfl hr
    refine ⟨0, Nat.zero_le _, ?_⟩
    refine zR_to 14 (st' := [.int (bI (rn (V 9))), .int (bI (rn (V 8)))]) rfl ?_
    refine zR_m 1 rfl ?_
    refine zR_if (fun h => ?_) (fun h => ?_)
    · have : mb = false := by rw [← hmb, decide_eq_false (fun h9 => h9 (bI_eq.mp h))]
      subst this
      refine zR_to 23 rfl ?_
      exact zR_w hr' rfl rfl ⟨rfl, rfl, trivial⟩
    · have : mb = true := by rw [← hmb, decide_eq_true (show rn (V 8) ≠ rn (V 9) from fun h9 => h (bI_eq.mpr h9))]
      subst this
      refine zR_to 23 rfl ?_
      exact zR_w hr' rfl rfl ⟨rfl, rfl, trivial⟩
  unfold mulR
  rw [hmb]
  cases h3 : eit (V 8) (V 9) 3 with
  | true =>
    rw [if_pos rfl, nt_0]
    refine ⟨R, hR, go ?_⟩
    rw [h3]
    refine zR_to 34 (st' := [.int (bI false), .int 3, .ref 20]) rfl ?_
    refine zR_v rfl rfl rfl rfl rfl ⟨rfl, Nat.le_of_ble_eq_true rfl, Nat.le_of_ble_eq_true rfl⟩ rfl (Nat.le_refl _) e_Mo_special rfl rfl ?_
    refine zR_to 151 rfl ?_
    exact zR_e rfl rfl rfl rfl rfl rfl
  | false =>
    rw [if_neg (by decide)]
    have go2 : ∀ {h9 : zH}, zR L xs (d + 6) m_Mo_product 45 [(1, .int (bI mb)), (0, .ref 20)] [.int (bI (eit (V 8) (V 9) 0))] (mV C u a b V M R) 0 (.inl none) h9 0 → zE L xs (d + 6) m_Mo_product [.ref 20] (mV C u a b V M R) (.inl none) h9 := fun {h9} hr => by
      refine go ?_
      rw [h3]
      refine zR_to 42 rfl ?_
      exact zR_v rfl rfl rfl rfl rfl ⟨rfl, Nat.le_of_ble_eq_true rfl, Nat.le_of_ble_eq_true rfl⟩ rfl (Nat.le_refl _) e_Mo_either rfl rfl hr
    -- the third question, with the answer to the second
    have go3 : ∀ {h9 : zH}, (eit (V 8) (V 9) 0 && eit (V 8) (V 9) 2) = false → zR L xs (d + 6) m_Mo_product 68 [(1, .int (bI mb)), (0, .ref 20)] [.int (bI (eit (V 8) (V 9) 2))] (mV C u a b V M R) 0 (.inl none) h9 0 → zE L xs (d + 6) m_Mo_product [.ref 20] (mV C u a b V M R) (.inl none) h9 := fun {h9} hz hr => by
      have hr' : zR L xs (d + 6) m_Mo_product 63 [(1, .int (bI mb)), (0, .ref 20)] [] (mV C u a b V M R) 0 (.inl none) h9 0 := by
        refine zR_to 65 rfl ?_
        exact zR_v rfl rfl rfl rfl rfl ⟨rfl, Nat.le_of_ble_eq_true rfl, Nat.le_of_ble_eq_true rfl⟩ rfl (Nat.le_refl _) e_Mo_either rfl rfl hr
      refine go2 ?_
      cases h0 : eit (V 8) (V 9) 0 with
      | false => exact zR_to 63 rfl hr'
      | true =>
        rw [h0, Bool.true_and] at hz
        refine zR_to 50 rfl ?_
        refine zR_v rfl rfl rfl rfl rfl ⟨rfl, Nat.le_of_ble_eq_true rfl, Nat.le_of_ble_eq_true rfl⟩ rfl (Nat.le_refl _) (e_Mo_either (kd := 2)) rfl rfl ?_
        rw [hz]
        exact zR_to 63 rfl hr'
    cases h02 : (eit (V 8) (V 9) 0 && eit (V 8) (V 9) 2) with
    | true =>
      rw [if_pos rfl]
      refine ⟨R, hR, go2 ?_⟩
      rw [Bool.and_eq_true] at h02
      rw [h02.1]
      refine zR_to 50 rfl ?_
      refine zR_v rfl rfl rfl rfl rfl ⟨rfl, Nat.le_of_ble_eq_true rfl, Nat.le_of_ble_eq_true rfl⟩ rfl (Nat.le_refl _) (e_Mo_either (kd := 2)) rfl rfl ?_
      rw [h02.2]
      refine zR_to 57 rfl ?_
      refine zR_v rfl rfl rfl rfl rfl ⟨rfl, Nat.le_of_ble_eq_true rfl, Nat.le_of_ble_eq_true rfl⟩ rfl (Nat.le_refl _) e_Mo_invalid rfl rfl ?_
      refine zR_to 151 rfl ?_
      exact zR_e rfl rfl rfl rfl rfl rfl
    | false =>
      rw [if_neg (by decide)]
      cases h2 : eit (V 8) (V 9) 2 with
      | true =>
        rw [if_pos rfl, nt_0]
        refine ⟨R, hR, go3 h02 ?_⟩
        rw [h2]
        refine zR_to 74 rfl ?_
        refine zR_v rfl rfl rfl rfl rfl ⟨rfl, Nat.le_of_ble_eq_true rfl, Nat.le_of_ble_eq_true rfl⟩ rfl (Nat.le_refl _) e_Mo_special rfl rfl ?_
        refine zR_to 151 rfl ?_
        exact zR_e rfl rfl rfl rfl rfl rfl
      | false =>
        rw [if_neg (by decide)]
        have go4 : ∀ {h9 : zH}, zR L xs (d + 6) m_Mo_product 85 [(1, .int (bI mb)), (0, .ref 20)] [.int (bI (eit (V 8) (V 9) 0))] (mV C u a b V M R) 0 (.inl none) h9 0 → zE L xs (d + 6) m_Mo_product [.ref 20] (mV C u a b V M R) (.inl none) h9 := fun {h9} hr => by
          refine go3 h02 ?_
          rw [h2]
          refine zR_to 82 rfl ?_
          exact zR_v rfl rfl rfl rfl rfl ⟨rfl, Nat.le_of_ble_eq_true rfl, Nat.le_of_ble_eq_true rfl⟩ rfl (Nat.le_refl _) e_Mo_either rfl rfl hr
        cases h0 : eit (V 8) (V 9) 0 with
        | true =>
          rw [if_pos rfl, nt_0]
          refine ⟨R, hR, go4 ?_⟩
          rw [h0]
          refine zR_to 91 rfl ?_
          refine zR_v rfl rfl rfl rfl rfl ⟨rfl, Nat.le_of_ble_eq_true rfl, Nat.le_of_ble_eq_true rfl⟩ rfl (Nat.le_refl _) e_Mo_special rfl rfl ?_
          refine zR_to 151 rfl ?_
          exact zR_e rfl rfl rfl rfl rfl rfl
        | false =>
          rw [if_neg (by decide)]
          obtain ⟨f8, f9⟩ := eit_fin hx hy h3 h2 h0
          obtain ⟨x1, x2, x3⟩ := hx.2.1 f8
          obtain ⟨y1, y2, y3⟩ := hy.2.1 f9
          have hX0 : rs (V 8) * rs (V 9) ≠ 0 := Nat.ne_of_gt (Nat.mul_pos (by omega) (by omega))
          have hXn : nb (rs (V 8) * rs (V 9)) ≤ 128 := mul_nb (m := 64) (n := 64) (nb_bd (uN_lt2 _)) (nb_bd (uN_lt2 _))
          have hX5 : rs (V 8) * rs (V 9) < 65536 ^ 32 := lt512 hXn (by decide)
          have hR1 : Rok (fu R 1 (rs (V 8))) := hR.fu (uN_rok _)
          have hR2 : Rok (fu (fu R 1 (rs (V 8))) 2 (rs (V 9))) := hR1.fu (uN_rok _)
          have hR3 : Rok (fu (fu (fu R 1 (rs (V 8))) 2 (rs (V 9))) 0 (rs (V 8) * rs (V 9))) := hR2.fu hX5
          refine ⟨_, rok_round (w := w) (mb := mb) hX0 hc.2.2.1 hR3, go4 ?_⟩
          rw [h0]
          refine zR_to 106 (st' := [.long (V 8).2.2.2, .int (nI 1), .ref 20]) rfl ?_
          refine zR_v rfl rfl rfl rfl rfl ⟨rfl, Nat.le_of_ble_eq_true rfl, Nat.le_of_ble_eq_true rfl⟩ rfl (Nat.le_refl _) (e_Mo_putU (r := 1) (by decide) hR) rfl rfl ?_
          refine zR_to 118 (st' := [.long (V 9).2.2.2, .int (nI 2), .ref 20]) rfl ?_
          refine zR_v rfl rfl rfl rfl rfl ⟨rfl, Nat.le_of_ble_eq_true rfl, Nat.le_of_ble_eq_true rfl⟩ rfl (Nat.le_refl _) (e_Mo_putU (r := 2) (by decide) hR1) rfl rfl ?_
          refine zR_to 125 (st' := [.int (nI 0), .int (nI 2), .int (nI 1), .ref 20]) rfl ?_
          refine zR_v rfl rfl rfl rfl rfl ⟨rfl, Nat.le_of_ble_eq_true rfl, Nat.le_of_ble_eq_true rfl⟩ rfl (Nat.le_refl _) (e_Mo_times (p := 1) (q := 2) (c := 0) (by decide) (by decide) (by decide) (by decide) (by decide) hR2 (by
            rw [fu_n (by decide), fu_s]
            exact Nat.lt_of_lt_of_le (uN_lt2 _) (by rw [B2]; exact Nat.pow_le_pow_right (by decide) (by decide)))) rfl rfl ?_
          rw [fu_s, fu_n (show (1 : Nat) ≠ 2 by decide), fu_s, Nat.mod_eq_of_lt hX5]
          refine zR_to 148 (st' := [.int (re (V 8) + re (V 9) - iZ 126), .int (bI mb), .ref 20]) rfl ?_
          rw [re_zr (V 8), re_zr (V 9), iZ_add, iZ_sub]
          refine zR_v rfl rfl rfl rfl rfl ⟨rfl, Nat.le_of_ble_eq_true rfl, Nat.le_of_ble_eq_true rfl⟩ rfl (Nat.le_refl _) (e_Mo_result (X := rs (V 8) * rs (V 9)) hc (by omega) hX0 (by omega) hR3 fu_s) rfl rfl ?_
          exact zR_e rfl rfl rfl rfl rfl rfl
end MU
end
section
/-! the quotient -/
def dvX (N D : Nat) : Nat := 2 * (N * 2 ^ 79 / D) + (if N * 2 ^ 79 % D = 0 then 0 else 1)
/-- after k steps: quotient and rest -/
def dvI (N D k Q r : Nat) : Prop := N * 2 ^ k = 2 * (Q * D) + r ∧ r < 2 * D ∧ Q < 2 ^ k
theorem dv_step {N D k Q r : Nat} (h : dvI N D k Q r) : (D ≤ r → dvI N D (k + 1) (2 * Q + 1) (2 * (r - D))) ∧ (r < D → dvI N D (k + 1) (2 * Q) (2 * r)) := by
  obtain ⟨h1, h2, h3⟩ := h
  unfold dvI
  rw [Nat.pow_succ, ← Nat.mul_assoc, h1]
  constructor
  · intro hl
    refine ⟨?_, by omega, by omega⟩
    rw [Nat.add_mul (2 * Q), Nat.one_mul, Nat.mul_assoc]
    omega
  · intro hl
    refine ⟨?_, by omega, by omega⟩
    rw [Nat.mul_assoc]
    omega
theorem dv_end {N D Q r : Nat} (hD : 0 < D) (h : dvI N D 80 Q r) : dvX N D = 2 * Q + (if r = 0 then 0 else 1) := by
  obtain ⟨h1, h2, h3⟩ := h
  have e : N * 2 ^ 79 = Q * D + r / 2 ∧ r % 2 = 0 := by
    have : N * 2 ^ 80 = 2 * (N * 2 ^ 79) := by rw [Nat.pow_succ 2 79, ← Nat.mul_assoc, Nat.mul_comm]
    omega
  have hr : r / 2 < D := by omega
  unfold dvX
  rw [e.1, Nat.add_comm (Q * D), Nat.add_mul_div_right _ _ hD, Nat.div_eq_of_lt hr, Nat.zero_add, Nat.add_mul_mod_self_right, Nat.mod_eq_of_lt hr]
  by_cases h0 : r = 0
  · rw [if_pos h0, if_pos (by omega)]
  · rw [if_neg h0, if_neg (by omega)]
theorem or_1 (x : Nat) : 2 * x ||| 2 ^ 0 = 2 * x + 1 := by
  have h := Nat.two_pow_add_eq_or_of_lt (i := 1) (b := 1) (by decide) x
  rw [Nat.pow_one] at h
  exact h.symm
theorem sh1 (x : Nat) : shZ x 1 = 2 * x := by
  rw [show (1 : Int) = ((1 : Nat) : Int) from rfl, shZ_pos, Nat.pow_one, Nat.mul_comm]
theorem sh0 (x : Nat) : shZ x 0 = x := by
  rw [show (0 : Int) = ((0 : Nat) : Int) from rfl, shZ_pos, Nat.pow_zero, Nat.mul_one]
def divR (w p : Nat) (x y : RV) : RV × Int32 := if eit x y 3 then (vNan, 0)
  else if rk x = rk y ∧ rk x ≠ 1 then (vNan, 1)
  else if rk x = 2 then ((2, decide (rn x ≠ rn y), 0, 0), 0)
  else if rk y = 2 ∨ rk x = 0 then ((0, decide (rn x ≠ rn y), 0, 0), 0)
  else if rk y = 0 then ((2, decide (rn x ≠ rn y), 0, 0), 2)
  else (rVal w (decide (rn x ≠ rn y)) (dvX (rs x) (rs y)) p 16383 (zr x - zr y - 80), rNt w (decide (rn x ≠ rn y)) (dvX (rs x) (rs y)) p 16383 (zr x - zr y - 80))
section DI
variable {L : Nat} {xs : Nat → Int32} {d : Nat} {mi : ZM} {pc : Nat} {lv : zL} {st st' : List Value} {h' : zH} {k k' : Nat} {o : zO} {pc' : Nat}
variable {C : Nat → zC} {u : zC} {a : Nat → Int32} {b : Nat → Int64} {M : Nat → Int64} {R : Nat → Nat} {V : Nat → RV}
theorem nb_lt512 {x : Nat} (h : x < 2 ^ 200) : nb x ≤ 200 := nb_bd h
theorem rok200 {x : Nat} (h : x < 2 ^ 200) : x < 65536 ^ 32 := lt512 (nb_bd h) (by decide)
set_option maxRecDepth 10000 in
/-- a row doubled: two shifts by way of row 3 -/
theorem dbl {r : Nat} (hr : r = 0 ∨ r = 1) (hR : Rok R) (hx : R r < 2 ^ 180) : ∃ R', Rok R' ∧ R' r = 2 * R r ∧ (∀ i, i ≠ r → i ≠ 3 → R' i = R i) ∧ zE L xs (d + 2) m_Mo_shift [.ref 20, .int (nI r), .int (nI 3), .int (iZ 1)] (mV C u a b V M R) (.inl none) (mV C u a b V M (fu R 3 (2 * R r))) ∧ zE L xs (d + 2) m_Mo_shift [.ref 20, .int (nI 3), .int (nI r), .int (iZ 0)] (mV C u a b V M (fu R 3 (2 * R r))) (.inl none) (mV C u a b V M R') := by
  have hn : nb (R r) ≤ 180 := nb_bd hx
  have h2 : 2 * R r < 2 ^ 200 := by
    have : (2 : Nat) ^ 200 = 2 ^ 20 * 2 ^ 180 := by rw [← Nat.pow_add]
    have h3 : (2 : Nat) ^ 20 = 1048576 := rfl
    rw [this, h3]
    omega
  have hR1 : Rok (fu R 3 (2 * R r)) := hR.fu (rok200 h2)
  have hr3 : r ≠ 3 := by omega
  refine ⟨fu (fu R 3 (2 * R r)) r (2 * R r), hR1.fu (rok200 h2), fu_s, fun i h1 h3 => by rw [fu_n h1, fu_n h3], ?_, ?_⟩
  · have h9 := e_Mo_shift (L := L) (xs := xs) (d := d) (C := C) (u := u) (a := a) (b := b) (K := fun i => (V i).1) (B := fun i => (V i).2.1) (E := fun i => (V i).2.2.1) (S := fun i => (V i).2.2.2) (M := M) (f := r) (t := 3) (n := 1) (by omega) (by decide) hr3 hR (by omega) (by omega)
    rw [sh1] at h9
    exact h9
  · have h9 := e_Mo_shift (L := L) (xs := xs) (d := d) (C := C) (u := u) (a := a) (b := b) (K := fun i => (V i).1) (B := fun i => (V i).2.1) (E := fun i => (V i).2.2.1) (S := fun i => (V i).2.2.2) (M := M) (f := 3) (t := r) (n := 0) (by decide) (by omega) (fun h => hr3 h.symm) hR1 (by rw [fu_s]; have := nb_bd h2; omega) (by omega)
    rw [sh0, fu_s] at h9
    exact h9
theorem dvI_r {N D k Q r : Nat} (h : dvI N D k Q r) (hk : k ≤ 80) (hD : D < 2 ^ 64) : Q < 2 ^ 180 ∧ r < 2 ^ 180 := by
  obtain ⟨h1, h2, h3⟩ := h
  have e1 : (2 : Nat) ^ k ≤ 2 ^ 180 := Nat.pow_le_pow_right (by decide) (by omega)
  have e2 : (2 : Nat) ^ 65 ≤ 2 ^ 180 := Nat.pow_le_pow_right (by decide) (by omega)
  have e3 : (2 : Nat) ^ 65 = 2 * 2 ^ 64 := rfl
  omega
set_option maxRecDepth 10000 in
set_option maxHeartbeats 4000000 in
theorem l_Mo_finiteQuotient {N D : Nat} {mb : Bool} {a9 : Nat → Int32} {V9 : Nat → RV} (hD : D < 2 ^ 64)
    (kk : ∀ (R' : Nat → Nat) (Q' r' : Nat), Rok R' → R' 0 = Q' → R' 1 = r' → dvI N D 80 Q' r' → ∃ R'', Rok R'' ∧ zR L xs (d + 3) m_Mo_finiteQuotient 93 [(0, .ref 20), (1, .int (bI mb))] [] (mV C u a b V M R') 0 (.inl none) (mV C u a9 b V9 M R'') 0) :
    ∀ (t : Nat) {k Q r : Nat} {R : Nat → Nat}, t + k = 80 → dvI N D k Q r → Rok R → R 0 = Q → R 1 = r → R 2 = D → ∃ R'', Rok R'' ∧ zR L xs (d + 3) m_Mo_finiteQuotient 31 [(2, .int (nI k)), (0, .ref 20), (1, .int (bI mb))] [] (mV C u a b V M R) 0 (.inl none) (mV C u a9 b V9 M R'') 0 := by
  intro t
  induction t with
  | zero =>
    intro k Q r R ht hI hR h0 h1 h2
    obtain rfl : k = 80 := by omega
    obtain ⟨R'', hR'', hgo⟩ := kk R Q r hR h0 h1 hI
    refine ⟨R'', hR'', ?_⟩
    refine zR_to 93 rfl ?_
    exact zR_w hgo rfl rfl ⟨rfl, rfl, trivial⟩
  | succ t ih =>
    intro k Q r R ht hI hR h0 h1 h2
    obtain ⟨b1, b2⟩ := dvI_r hI (by omega) hD
    obtain ⟨s1, s2⟩ := dv_step hI
    obtain ⟨Ra, hRa, a1, a2, a3, a4⟩ := dbl (L := L) (xs := xs) (d := d) (C := C) (u := u) (a := a) (b := b) (V := V) (M := M) (r := 0) (Or.inl rfl) hR (by rw [h0]; exact b1)
    rw [h0] at a1
    -- the head of a step
    have hd : ∀ {h9 : zH}, zR L xs (d + 3) m_Mo_finiteQuotient 57 [(2, .int (nI k)), (0, .ref 20), (1, .int (bI mb))] [.int (iZ (cmpZ r D))] (mV C u a b V M Ra) 0 (.inl none) h9 0 → zR L xs (d + 3) m_Mo_finiteQuotient 31 [(2, .int (nI k)), (0, .ref 20), (1, .int (bI mb))] [] (mV C u a b V M R) 0 (.inl none) h9 0 := fun {h9} hr => by
      refine zR_m 3 rfl ?_
      refine zR_if (fun h => absurd h (nI_ge (a := k) (b := 80) (by omega) (by decide))) (fun _ => ?_)
      refine zR_to 41 (st' := [.int (iZ 1), .int (nI 3), .int (nI 0), .ref 20]) rfl ?_
      refine zR_v rfl rfl rfl rfl rfl ⟨rfl, Nat.le_of_ble_eq_true rfl, Nat.le_of_ble_eq_true rfl⟩ rfl (Nat.le_refl _) a3 rfl rfl ?_
      refine zR_to 48 (st' := [.int (iZ 0), .int (nI 0), .int (nI 3), .ref 20]) rfl ?_
      refine zR_v rfl rfl rfl rfl rfl ⟨rfl, Nat.le_of_ble_eq_true rfl, Nat.le_of_ble_eq_true rfl⟩ rfl (Nat.le_refl _) a4 rfl rfl ?_
      refine zR_to 54 rfl ?_
      refine zR_v rfl rfl rfl rfl rfl ⟨rfl, Nat.le_of_ble_eq_true rfl, Nat.le_of_ble_eq_true rfl⟩ rfl (Nat.le_refl _) (e_Mo_compareRows (p := 1) (q := 2) (by decide) (by decide) hRa) rfl rfl ?_
      rw [a2 1 (by decide) (by decide), a2 2 (by decide) (by decide), h1, h2]
      exact hr
    -- the tail of a step
    have tl9 : ∀ (Q1 r1 : Nat) (Rb : Nat → Nat), dvI N D (k + 1) Q1 (2 * r1) → Rok Rb → Rb 0 = Q1 → Rb 1 = r1 → Rb 2 = D → ∃ R'', Rok R'' ∧ zR L xs (d + 3) m_Mo_finiteQuotient 73 [(2, .int (nI k)), (0, .ref 20), (1, .int (bI mb))] [] (mV C u a b V M Rb) 0 (.inl none) (mV C u a9 b V9 M R'') 0 := by
      intro Q1 r1 Rb hI1 hRb c0 c1 c2
      obtain ⟨-, e2⟩ := dvI_r hI1 (by omega) hD
      obtain ⟨Rc, hRc, d1, d2, d3, d4⟩ := dbl (L := L) (xs := xs) (d := d) (C := C) (u := u) (a := a) (b := b) (V := V) (M := M) (r := 1) (Or.inr rfl) hRb (by rw [c1]; omega)
      rw [c1] at d1
      obtain ⟨R'', hR'', hgo⟩ := ih (k := k + 1) (Q := Q1) (r := 2 * r1) (R := Rc) (by omega) hI1 hRc (by rw [d2 0 (by decide) (by decide)]; exact c0) d1 (by rw [d2 2 (by decide) (by decide)]; exact c2)
      refine ⟨R'', hR'', ?_⟩
      refine zR_to 77 (st' := [.int (iZ 1), .int (nI 3), .int (nI 1), .ref 20]) rfl ?_
      refine zR_v rfl rfl rfl rfl rfl ⟨rfl, Nat.le_of_ble_eq_true rfl, Nat.le_of_ble_eq_true rfl⟩ rfl (Nat.le_refl _) d3 rfl rfl ?_
      refine zR_to 84 (st' := [.int (iZ 0), .int (nI 1), .int (nI 3), .ref 20]) rfl ?_
      refine zR_v rfl rfl rfl rfl rfl ⟨rfl, Nat.le_of_ble_eq_true rfl, Nat.le_of_ble_eq_true rfl⟩ rfl (Nat.le_refl _) d4 rfl rfl ?_
      refine zR_to 31 rfl ?_
      refine zR_w hgo rfl rfl ⟨?_, rfl, rfl, trivial⟩
      rw [nI_succ k]
      rfl
    have hcr := cmpZ_rng r D
    by_cases hl : D ≤ r
    · have hI1 := s1 hl
      have q1 : Rok (fu Ra 1 (r - D)) := hRa.fu (rok200 (by
        have : (2 : Nat) ^ 180 ≤ 2 ^ 200 := Nat.pow_le_pow_right (by decide) (by decide)
        omega))
      obtain ⟨b3, -⟩ := dvI_r hI1 (by omega) hD
      have q2 : Rok (fu (fu Ra 1 (r - D)) 0 (2 * Q + 1)) := q1.fu (rok200 (by
        have : (2 : Nat) ^ 180 ≤ 2 ^ 200 := Nat.pow_le_pow_right (by decide) (by decide)
        omega))
      obtain ⟨R'', hR'', hgo⟩ := tl9 (2 * Q + 1) (r - D) (fu (fu Ra 1 (r - D)) 0 (2 * Q + 1)) hI1 q2 fu_s (by rw [fu_n (by decide), fu_s]) (by rw [fu_n (by decide), fu_n (by decide), a2 2 (by decide) (by decide)]; exact h2)
      refine ⟨R'', hR'', hd ?_⟩
      refine zR_m 1 rfl ?_
      refine zR_if (fun h => ?_) (fun _ => ?_)
      · have := (iZ_lt (y := 0) (by omega) (by omega)).mp h
        have := cmpZ_ge.mpr hl
        omega
      refine zR_to 64 (st' := [.int (iZ (-1)), .int (nI 2), .int (nI 1), .ref 20]) rfl ?_
      refine zR_v rfl rfl rfl rfl rfl ⟨rfl, Nat.le_of_ble_eq_true rfl, Nat.le_of_ble_eq_true rfl⟩ rfl (Nat.le_refl _) (e_Mo_add (p := 1) (q := 2) (s := -1) (Or.inr rfl) (by decide) (by decide) (by decide) hRa) rfl rfl ?_
      rw [a2 1 (by decide) (by decide), a2 2 (by decide) (by decide), h1, h2, adL_sub (by rw [← h1]; exact hR 1) hl]
      refine zR_to 70 (st' := [.int (nI 0), .int (nI 0), .ref 20]) rfl ?_
      refine zR_v rfl rfl rfl rfl rfl ⟨rfl, Nat.le_of_ble_eq_true rfl, Nat.le_of_ble_eq_true rfl⟩ rfl (Nat.le_refl _) (e_Mo_setBit (r := 0) (n := 0) (by decide) (by decide)) rfl rfl ?_
      rw [fu_n (show (0 : Nat) ≠ 1 by decide), a1, or_1]
      exact hgo
    · have hI1 := s2 (by omega)
      obtain ⟨R'', hR'', hgo⟩ := tl9 (2 * Q) r Ra hI1 hRa a1 (by rw [a2 1 (by decide) (by decide)]; exact h1) (by rw [a2 2 (by decide) (by decide)]; exact h2)
      refine ⟨R'', hR'', hd ?_⟩
      refine zR_m 1 rfl ?_
      refine zR_if (fun _ => hgo) (fun h => absurd ((iZ_lt (y := 0) (by omega) (by omega)).mpr (by
        rcases Int.lt_or_le (cmpZ r D) 0 with h9 | h9
        · exact h9
        · exact absurd (cmpZ_ge.mp h9) hl)) h)
theorem dvX_nb {N D : Nat} (h1 : 2 ^ 63 ≤ N) (h2 : N < 2 ^ 64) (h3 : 2 ^ 63 ≤ D) : dvX N D ≠ 0 ∧ nb (dvX N D) ≤ 150 := by
  have hD : 0 < D := by omega
  have e1 : N * 2 ^ 79 / D ≤ N * 2 ^ 79 := Nat.div_le_self _ _
  have e2 : N * 2 ^ 79 < 2 ^ 64 * 2 ^ 79 := Nat.mul_lt_mul_of_pos_right h2 (Nat.pow_pos (by decide))
  have e4 : (2 : Nat) ^ 64 * 2 ^ 79 = 2 ^ 143 := by rw [← Nat.pow_add]
  have e5 : (2 : Nat) ^ 150 = 2 ^ 7 * 2 ^ 143 := by rw [← Nat.pow_add]
  have hp : 0 < (2 : Nat) ^ 143 := Nat.pow_pos (by decide)
  constructor
  · unfold dvX
    by_cases h0 : N * 2 ^ 79 / D = 0
    · have := (Nat.div_eq_zero_iff_lt hD).mp h0
      have h9 : N * 2 ^ 79 ≠ 0 := Nat.ne_of_gt (Nat.mul_pos (by omega) (Nat.pow_pos (by decide)))
      rw [Nat.mod_eq_of_lt this, if_neg h9]
      omega
    · omega
  · apply nb_bd
    unfold dvX
    rw [e5, show (2 : Nat) ^ 7 = 128 from rfl]
    rw [e4] at e2
    generalize (2 : Nat) ^ 143 = W at *
    generalize N * 2 ^ 79 / D = T at *
    split <;> omega
set_option maxRecDepth 10000 in
theorem e_Mo_finiteQuotient {p w : Nat} {mb : Bool} (hc : cOk a p w) (h8 : rk (V 8) = 1) (h9 : rk (V 9) = 1) (hx : vOk (V 8)) (hy : vOk (V 9)) (hR : Rok R) : zEr L xs (d + 5) m_Mo_finiteQuotient [.ref 20, .int (bI mb)] (mV C u a b V M R) (.inl none) C u (nt a (rNt w mb (dvX (rs (V 8)) (rs (V 9))) p 16383 (zr (V 8) - zr (V 9) - 80))) b (fu V 10 (rVal w mb (dvX (rs (V 8)) (rs (V 9))) p 16383 (zr (V 8) - zr (V 9) - 80))) M := by
  obtain ⟨x1, x2, x3⟩ := hx.2.1 h8
  obtain ⟨y1, y2, y3⟩ := hy.2.1 h9
  have hxl : rs (V 8) < 2 ^ 64 := uN_lt2 _
  have hyl : rs (V 9) < 2 ^ 64 := uN_lt2 _
  obtain ⟨n1, n2⟩ := dvX_nb x1 hxl y1
  have hR0 : Rok (fu R 0 0) := hR.fu (Bp 32)
  have hR1 : Rok (fu (fu R 0 0) 1 (rs (V 8))) := hR0.fu (uN_rok _)
  have hR2 : Rok (fu (fu (fu R 0 0) 1 (rs (V 8))) 2 (rs (V 9))) := hR1.fu (uN_rok _)
  obtain ⟨R'', hR'', hgo⟩ := l_Mo_finiteQuotient (L := L) (xs := xs) (d := d + 2) (C := C) (u := u) (a := a) (b := b) (V := V) (M := M) (N := rs (V 8)) (D := rs (V 9)) (mb := mb) (a9 := nt a (rNt w mb (dvX (rs (V 8)) (rs (V 9))) p 16383 (zr (V 8) - zr (V 9) - 80))) (V9 := fu V 10 (rVal w mb (dvX (rs (V 8)) (rs (V 9))) p 16383 (zr (V 8) - zr (V 9) - 80))) hyl (fun R' Q' r' hR' c0 c1 hI => by
    have he := dv_end (by omega) hI
    obtain ⟨b1, b2⟩ := dvI_r hI (Nat.le_refl _) hyl
    obtain ⟨Ra, hRa, a1, a2, a3, a4⟩ := dbl (L := L) (xs := xs) (d := d + 2) (C := C) (u := u) (a := a) (b := b) (V := V) (M := M) (r := 0) (Or.inl rfl) hR' (by rw [c0]; exact b1)
    rw [c0] at a1
    have hr1 : nb r' ≤ 180 := nb_bd b2
    have hX5 : dvX (rs (V 8)) (rs (V 9)) < 65536 ^ 32 := lt512 n2 (by decide)
    -- the end
    have fin : ∀ Rb : Nat → Nat, Rok Rb → Rb 0 = dvX (rs (V 8)) (rs (V 9)) → ∃ R'', Rok R'' ∧ zR L xs (d + 5) m_Mo_finiteQuotient 121 [(0, .ref 20), (1, .int (bI mb))] [] (mV C u a b V M Rb) 0 (.inl none) (mV C u (nt a (rNt w mb (dvX (rs (V 8)) (rs (V 9))) p 16383 (zr (V 8) - zr (V 9) - 80))) b (fu V 10 (rVal w mb (dvX (rs (V 8)) (rs (V 9))) p 16383 (zr (V 8) - zr (V 9) - 80))) M R'') 0 := by
      intro Rb hRb hb0
      refine ⟨_, rok_round (w := w) (mb := mb) n1 hc.2.2.1 hRb, ?_⟩
      refine zR_to 141 (st' := [.int (re (V 8) - re (V 9) - iZ 80), .int (bI mb), .ref 20]) rfl ?_
      rw [re_zr (V 8), re_zr (V 9), iZ_sub, iZ_sub]
      refine zR_v rfl rfl rfl rfl rfl ⟨rfl, Nat.le_of_ble_eq_true rfl, Nat.le_of_ble_eq_true rfl⟩ rfl (Nat.le_refl _) (e_Mo_result (X := dvX (rs (V 8)) (rs (V 9))) hc (by omega) n1 (by omega) hRb hb0) rfl rfl ?_
      exact zR_e rfl rfl rfl rfl rfl rfl
    have hd : ∀ {h9 : zH}, zR L xs (d + 5) m_Mo_finiteQuotient 112 [(0, .ref 20), (1, .int (bI mb))] [.int (iZ ((nb r' : Int) - 1))] (mV C u a b V M Ra) 0 (.inl none) h9 0 → zR L xs (d + 5) m_Mo_finiteQuotient 93 [(0, .ref 20), (1, .int (bI mb))] [] (mV C u a b V M R') 0 (.inl none) h9 0 := fun {h9} hr => by
      refine zR_to 97 (st' := [.int (iZ 1), .int (nI 3), .int (nI 0), .ref 20]) rfl ?_
      refine zR_v rfl rfl rfl rfl rfl ⟨rfl, Nat.le_of_ble_eq_true rfl, Nat.le_of_ble_eq_true rfl⟩ rfl (Nat.le_refl _) a3 rfl rfl ?_
      refine zR_to 104 (st' := [.int (iZ 0), .int (nI 0), .int (nI 3), .ref 20]) rfl ?_
      refine zR_v rfl rfl rfl rfl rfl ⟨rfl, Nat.le_of_ble_eq_true rfl, Nat.le_of_ble_eq_true rfl⟩ rfl (Nat.le_refl _) a4 rfl rfl ?_
      refine zR_to 109 rfl ?_
      refine zR_v rfl rfl rfl rfl rfl ⟨rfl, Nat.le_of_ble_eq_true rfl, Nat.le_of_ble_eq_true rfl⟩ rfl (Nat.le_refl _) (e_Mo_top (r := 1) (by decide) hRa) rfl rfl ?_
      rw [a2 1 (by decide) (by decide), c1]
      exact hr
    by_cases hr0 : r' = 0
    · rw [if_pos hr0, Nat.add_zero] at he
      obtain ⟨R'', q1, q2⟩ := fin Ra hRa (by rw [a1, he])
      refine ⟨R'', q1, hd ?_⟩
      rw [hr0, nb_0]
      exact zR_to 121 rfl q2
    · rw [if_neg hr0] at he
      obtain ⟨R'', q1, q2⟩ := fin (fu Ra 0 (2 * Q' + 1)) (hRa.fu (by rw [← he]; exact hX5)) (by rw [fu_s, he])
      refine ⟨R'', q1, hd ?_⟩
      have hn : 1 ≤ nb r' := by
        rcases Nat.eq_zero_or_pos (nb r') with h9 | h9
        · have := nb_lt r'
          rw [h9] at this
          omega
        · exact h9
      refine zR_m 1 rfl ?_
      refine zR_if (fun h => ?_) (fun _ => ?_)
      · have := (iZ_lt (y := 0) (by omega) (by omega)).mp h
        omega
      refine zR_to 118 (st' := [.int (nI 0), .int (nI 0), .ref 20]) rfl ?_
      refine zR_v rfl rfl rfl rfl rfl ⟨rfl, Nat.le_of_ble_eq_true rfl, Nat.le_of_ble_eq_true rfl⟩ rfl (Nat.le_refl _) (e_Mo_setBit (r := 0) (n := 0) (by decide) (by decide)) rfl rfl ?_
      rw [a1, or_1]
      exact q2) 80 (k := 0) (Q := 0) (r := rs (V 8)) (R := fu (fu (fu R 0 0) 1 (rs (V 8))) 2 (rs (V 9))) (by omega) ⟨by rw [Nat.pow_zero, Nat.mul_one, Nat.zero_mul, Nat.mul_zero, Nat.zero_add], by omega, by decide⟩ hR2 (by rw [fu_n (by decide), fu_n (by decide), fu_s]) (by rw [fu_n (by decide), fu_s]) fu_s
  refine ⟨R'', hR'', 0, Nat.zero_le _, ?_⟩
  refine zR_to 2 rfl ?_
  refine zR_v rfl rfl rfl rfl rfl ⟨rfl, Nat.le_of_ble_eq_true rfl, Nat.le_of_ble_eq_true rfl⟩ rfl (Nat.le_refl _) (e_Mo_blank (r := 0) (by decide) hR) rfl rfl ?_
  refine zR_to 14 (st' := [.long (V 8).2.2.2, .int (nI 1), .ref 20]) rfl ?_
  refine zR_v rfl rfl rfl rfl rfl ⟨rfl, Nat.le_of_ble_eq_true rfl, Nat.le_of_ble_eq_true rfl⟩ rfl (Nat.le_refl _) (e_Mo_putU (r := 1) (by decide) hR0) rfl rfl ?_
  refine zR_to 26 (st' := [.long (V 9).2.2.2, .int (nI 2), .ref 20]) rfl ?_
  refine zR_v rfl rfl rfl rfl rfl ⟨rfl, Nat.le_of_ble_eq_true rfl, Nat.le_of_ble_eq_true rfl⟩ rfl (Nat.le_refl _) (e_Mo_putU (r := 2) (by decide) hR1) rfl rfl ?_
  refine zR_to 31 rfl ?_
  exact zR_w hgo rfl rfl ⟨rfl, rfl, rfl, trivial⟩
end DI
end
section
section QU
variable {L : Nat} {xs : Nat → Int32} {d : Nat} {mi : ZM} {pc : Nat} {lv : zL} {st st' : List Value} {h' : zH} {k k' : Nat} {o : zO} {pc' : Nat}
variable {C : Nat → zC} {u : zC} {a : Nat → Int32} {b : Nat → Int64} {M : Nat → Int64} {R : Nat → Nat} {V : Nat → RV}
set_option maxRecDepth 10000 in
set_option maxHeartbeats 4000000 in
theorem e_Mo_quotient {p w : Nat} (hc : cOk a p w) (hx : vOk (V 8)) (hy : vOk (V 9)) (hR : Rok R) : zEr L xs (d + 6) m_Mo_quotient [.ref 20] (mV C u a b V M R) (.inl none) C u (nt a (divR w p (V 8) (V 9)).2) b (fu V 10 (divR w p (V 8) (V 9)).1) M := by
  generalize hmb : decide (rn (V 8) ≠ rn (V 9)) = mb
  have go : ∀ {h9 : zH}, zR L xs (d + 6) m_Mo_quotient 28 [(1, .int (bI mb)), (0, .ref 20)] [.int (bI (eit (V 8) (V 9) 3))] (mV C u a b V M R) 0 (.inl none) h9 0 → zE L xs (d + 6) m_Mo_quotient [.ref 20] (mV C u a b V M R) (.inl none) h9 := fun {h9} hr => by
    have hr' : zR L xs (d + 6) m_Mo_quotient 23 [(1, .int (bI mb)), (0, .ref 20)] [] (mV C u a b V M R) 0 (.inl none) h9 0 := by
      refine zR_to 25 rfl ?_
      exact zR_v rfl rfl rfl rfl rfl ⟨rfl, Nat.le_of_ble_eq_true rfl, Nat.le_of_ble_eq_true rfl⟩ rfl (Nat.le_refl _) e_Mo_either rfl rfl hr
    refine ⟨0, Nat.zero_le _, ?_⟩
    refine zR_to 14 (st' := [.int (bI (rn (V 9))), .int (bI (rn (V 8)))]) rfl ?_
    refine zR_m 1 rfl ?_
    refine zR_if (fun h => ?_) (fun h => ?_)
    · have : mb = false := by rw [← hmb, decide_eq_false (fun h9 => h9 (bI_eq.mp h))]
      subst this
      refine zR_to 23 rfl ?_
      exact zR_w hr' rfl rfl ⟨rfl, rfl, trivial⟩
    · have : mb = true := by rw [← hmb, decide_eq_true (show rn (V 8) ≠ rn (V 9) from fun h9 => h (bI_eq.mpr h9))]
      subst this
      refine zR_to 23 rfl ?_
      exact zR_w hr' rfl rfl ⟨rfl, rfl, trivial⟩
  unfold divR
  rw [hmb]
  cases h3 : eit (V 8) (V 9) 3 with
  | true =>
    rw [if_pos rfl, nt_0]
    refine ⟨R, hR, go ?_⟩
    rw [h3]
    refine zR_to 34 (st' := [.int (bI false), .int 3, .ref 20]) rfl ?_
    refine zR_v rfl rfl rfl rfl rfl ⟨rfl, Nat.le_of_ble_eq_true rfl, Nat.le_of_ble_eq_true rfl⟩ rfl (Nat.le_refl _) e_Mo_special rfl rfl ?_
    refine zR_to 159 rfl ?_
    exact zR_e rfl rfl rfl rfl rfl rfl
  | false =>
    rw [if_neg (by decide)]
    have go1 : ∀ {h9 : zH}, zR L xs (d + 6) m_Mo_quotient 54 [(1, .int (bI mb)), (0, .ref 20)] [.int (rk (V 9)), .int (rk (V 8))] (mV C u a b V M R) 0 (.inl none) h9 0 → zE L xs (d + 6) m_Mo_quotient [.ref 20] (mV C u a b V M R) (.inl none) h9 := fun {h9} hr => by
      refine go ?_
      rw [h3]
      exact zR_to 54 rfl hr
    by_cases hb : rk (V 8) = rk (V 9) ∧ rk (V 8) ≠ 1
    · rw [if_pos hb]
      refine ⟨R, hR, go1 ?_⟩
      refine zR_m 1 rfl ?_
      refine zR_if (fun h => absurd hb.1 h) (fun _ => ?_)
      refine zR_to 65 (st' := [.int 1, .int (rk (V 8))]) rfl ?_
      refine zR_m 1 rfl ?_
      refine zR_if (fun h => absurd h hb.2) (fun _ => ?_)
      refine zR_to 69 rfl ?_
      refine zR_v rfl rfl rfl rfl rfl ⟨rfl, Nat.le_of_ble_eq_true rfl, Nat.le_of_ble_eq_true rfl⟩ rfl (Nat.le_refl _) e_Mo_invalid rfl rfl ?_
      refine zR_to 159 rfl ?_
      exact zR_e rfl rfl rfl rfl rfl rfl
    · rw [if_neg hb]
      have go2 : ∀ {h9 : zH}, zR L xs (d + 6) m_Mo_quotient 83 [(1, .int (bI mb)), (0, .ref 20)] [.int 2, .int (rk (V 8))] (mV C u a b V M R) 0 (.inl none) h9 0 → zE L xs (d + 6) m_Mo_quotient [.ref 20] (mV C u a b V M R) (.inl none) h9 := fun {h9} hr => by
        refine go1 ?_
        refine zR_m 1 rfl ?_
        refine zR_if (fun h => ?_) (fun h => ?_)
        · exact zR_to 83 rfl hr
        · refine zR_to 65 (st' := [.int 1, .int (rk (V 8))]) rfl ?_
          refine zR_m 1 rfl ?_
          refine zR_if (fun h5 => zR_to 83 rfl hr) (fun h5 => absurd ⟨Decidable.of_not_not h, h5⟩ hb)
      by_cases h82 : rk (V 8) = 2
      · rw [if_pos h82, nt_0]
        refine ⟨R, hR, go2 ?_⟩
        refine zR_m 1 rfl ?_
        refine zR_if (fun h => absurd h82 h) (fun _ => ?_)
        refine zR_to 89 rfl ?_
        refine zR_v rfl rfl rfl rfl rfl ⟨rfl, Nat.le_of_ble_eq_true rfl, Nat.le_of_ble_eq_true rfl⟩ rfl (Nat.le_refl _) e_Mo_special rfl rfl ?_
        refine zR_to 159 rfl ?_
        exact zR_e rfl rfl rfl rfl rfl rfl
      · rw [if_neg h82]
        have go3 : ∀ {h9 : zH}, zR L xs (d + 6) m_Mo_quotient 103 [(1, .int (bI mb)), (0, .ref 20)] [.int 2, .int (rk (V 9))] (mV C u a b V M R) 0 (.inl none) h9 0 → zE L xs (d + 6) m_Mo_quotient [.ref 20] (mV C u a b V M R) (.inl none) h9 := fun {h9} hr => by
          refine go2 ?_
          refine zR_m 1 rfl ?_
          refine zR_if (fun h => zR_to 103 rfl hr) (fun h => absurd (Decidable.of_not_not h) h82)
        by_cases hz : rk (V 9) = 2 ∨ rk (V 8) = 0
        · rw [if_pos hz, nt_0]
          refine ⟨R, hR, go3 ?_⟩
          have fin : zR L xs (d + 6) m_Mo_quotient 116 [(1, .int (bI mb)), (0, .ref 20)] [] (mV C u a b V M R) 0 (.inl none) (mV C u a b (fu V 10 (0, mb, 0, 0)) M R) 0 := by
            refine zR_to 119 rfl ?_
            refine zR_v rfl rfl rfl rfl rfl ⟨rfl, Nat.le_of_ble_eq_true rfl, Nat.le_of_ble_eq_true rfl⟩ rfl (Nat.le_refl _) e_Mo_special rfl rfl ?_
            refine zR_to 159 rfl ?_
            exact zR_e rfl rfl rfl rfl rfl rfl
          refine zR_m 1 rfl ?_
          refine zR_if (fun _ => fin) (fun h => ?_)
          refine zR_to 113 (st' := [.int (rk (V 8))]) rfl ?_
          refine zR_m 1 rfl ?_
          refine zR_if (fun h5 => ?_) (fun _ => fin)
          rcases hz with h6 | h6
          · exact absurd h6 h
          · exact absurd h6 h5
        · rw [if_neg hz]
          have go4 : ∀ {h9 : zH}, zR L xs (d + 6) m_Mo_quotient 132 [(1, .int (bI mb)), (0, .ref 20)] [.int (rk (V 9))] (mV C u a b V M R) 0 (.inl none) h9 0 → zE L xs (d + 6) m_Mo_quotient [.ref 20] (mV C u a b V M R) (.inl none) h9 := fun {h9} hr => by
            refine go3 ?_
            refine zR_m 1 rfl ?_
            refine zR_if (fun h => absurd (Or.inl h) hz) (fun _ => ?_)
            refine zR_to 113 (st' := [.int (rk (V 8))]) rfl ?_
            refine zR_m 1 rfl ?_
            refine zR_if (fun _ => zR_to 132 rfl hr) (fun h => absurd (Or.inr (Decidable.of_not_not h)) hz)
          by_cases h90 : rk (V 9) = 0
          · rw [if_pos h90]
            refine ⟨R, hR, go4 ?_⟩
            rw [h90]
            refine zR_to 148 (st' := [.int (bI mb), .int 2, .ref 20]) (h1 := mV C u (nt a 2) b V M R) rfl ?_
            refine zR_v rfl rfl rfl rfl rfl ⟨rfl, Nat.le_of_ble_eq_true rfl, Nat.le_of_ble_eq_true rfl⟩ rfl (Nat.le_refl _) e_Mo_special rfl rfl ?_
            refine zR_to 159 rfl ?_
            exact zR_e rfl rfl rfl rfl rfl rfl
          · rw [if_neg h90]
            obtain ⟨a1, a2⟩ := eit_f h3
            have f8 : rk (V 8) = 1 := by
              rcases hx.1 with h | h | h | h
              · exact absurd (Or.inr h) hz
              · exact h
              · exact absurd h h82
              · exact absurd h a1
            have f9 : rk (V 9) = 1 := by
              rcases hy.1 with h | h | h | h
              · exact absurd h h90
              · exact h
              · exact absurd (Or.inl h) hz
              · exact absurd h a2
            obtain ⟨R', hR', hgo⟩ := e_Mo_finiteQuotient (L := L) (xs := xs) (d := d) (C := C) (u := u) (a := a) (b := b) (V := V) (M := M) (R := R) (mb := mb) hc f8 f9 hx hy hR
            refine ⟨R', hR', go4 ?_⟩
            rw [f9]
            refine zR_to 156 rfl ?_
            refine zR_v rfl rfl rfl rfl rfl ⟨rfl, Nat.le_of_ble_eq_true rfl, Nat.le_of_ble_eq_true rfl⟩ rfl (Nat.le_refl _) hgo rfl rfl ?_
            exact zR_e rfl rfl rfl rfl rfl rfl
end QU
/-! the root -/
def sqB (A : Nat) : Nat → Nat → Nat
  | 0, Q => Q
  | k + 1, Q => if (Q + 2 ^ k) * (Q + 2 ^ k) ≤ A then sqB A k (Q + 2 ^ k) else sqB A k Q
def sqN (A : Nat) : Nat := sqB A 85 0
theorem sqB_lt {A : Nat} : ∀ (k Q : Nat), Q + 2 ^ k ≤ 2 ^ 85 → sqB A k Q < 2 ^ 85 ∧ Q ≤ sqB A k Q
  | 0, Q, h => by unfold sqB; rw [Nat.pow_zero] at h; omega
  | k + 1, Q, h => by
    unfold sqB
    rw [Nat.pow_succ] at h
    split
    · have := sqB_lt (A := A) k (Q + 2 ^ k) (by omega)
      have hp : 0 < 2 ^ k := Nat.pow_pos (by decide)
      omega
    · have hp : 0 < 2 ^ k := Nat.pow_pos (by decide)
      exact sqB_lt k Q (by omega)
theorem sqB_sq {A : Nat} : ∀ (k Q : Nat), Q * Q ≤ A → A < (Q + 2 ^ k) * (Q + 2 ^ k) → sqB A k Q * sqB A k Q ≤ A ∧ A < (sqB A k Q + 1) * (sqB A k Q + 1)
  | 0, Q, h1, h2 => by unfold sqB; exact ⟨h1, h2⟩
  | k + 1, Q, h1, h2 => by
    unfold sqB
    split
    · rename_i h
      exact sqB_sq k (Q + 2 ^ k) h (by rw [Nat.add_assoc, ← Nat.mul_two, ← Nat.pow_succ]; exact h2)
    · rename_i h
      exact sqB_sq k Q h1 (by omega)
def rtX (A : Nat) : Nat := 2 * sqN A + (if sqN A * sqN A = A then 0 else 1)
def rtN (e : Int) : Nat := if e % 2 = 1 then 100 else 101
def rootR (w p : Nat) (x : RV) : RV × Int32 := if rk x = 3 ∨ rk x = 0 ∨ (rk x = 2 ∧ rn x = false) then (x, 0)
  else if rn x then (vNan, 1)
  else (rVal w false (rtX (rs x * 2 ^ rtN (zr x))) p 16383 ((zr x - 63 - rtN (zr x)) / 2 - 1), rNt w false (rtX (rs x * 2 ^ rtN (zr x))) p 16383 ((zr x - 63 - rtN (zr x)) / 2 - 1))
end
section
theorem cmpZ_le {x y : Nat} : cmpZ x y ≤ 0 ↔ x ≤ y := by
  unfold cmpZ
  split
  · omega
  · split <;> omega
theorem cmpZ_0 {x y : Nat} : cmpZ x y = 0 ↔ x = y := by
  unfold cmpZ
  split
  · omega
  · split <;> omega
section RT
variable {L : Nat} {xs : Nat → Int32} {d : Nat} {mi : ZM} {pc : Nat} {lv : zL} {st st' : List Value} {h' : zH} {k k' : Nat} {o : zO} {pc' : Nat}
variable {C : Nat → zC} {u : zC} {a : Nat → Int32} {b : Nat → Int64} {M : Nat → Int64} {R : Nat → Nat} {V : Nat → RV}
theorem or_pow {Q k : Nat} (h : Q % 2 ^ (k + 1) = 0) : Q ||| 2 ^ k = Q + 2 ^ k := by
  have h1 : Q = 2 ^ (k + 1) * (Q / 2 ^ (k + 1)) := by
    have := Nat.mod_add_div Q (2 ^ (k + 1))
    omega
  have h2 : (2 : Nat) ^ k < 2 ^ (k + 1) := Nat.pow_lt_pow_right (by decide) (by omega)
  have h3 := Nat.two_pow_add_eq_or_of_lt h2 (Q / 2 ^ (k + 1))
  rw [← h1] at h3
  exact h3.symm
theorem e_Mo_sh0 {f t : Nat} (hf : f < 5) (ht : t < 5) (hft : f ≠ t) (hR : Rok R) : zE L xs (d + 2) m_Mo_shift [.ref 20, .int (nI f), .int (nI t), .int (iZ 0)] (mV C u a b V M R) (.inl none) (mV C u a b V M (fu R t (R f))) := by
  have hn := nb_bd (x := R f) (n := 512) (by have := hR f; rw [B2] at this; exact this)
  have h9 := e_Mo_shift (L := L) (xs := xs) (d := d) (C := C) (u := u) (a := a) (b := b) (K := fun i => (V i).1) (B := fun i => (V i).2.1) (E := fun i => (V i).2.2.1) (S := fun i => (V i).2.2.2) (M := M) (R := R) (f := f) (t := t) (n := 0) hf ht hft hR (by omega) (by omega)
  rw [sh0] at h9
  exact h9
set_option maxRecDepth 10000 in
set_option maxHeartbeats 4000000 in
theorem l_Mo_root {A : Nat} {z : Int32} {a9 : Nat → Int32} {V9 : Nat → RV}
    (kk : ∀ (R' : Nat → Nat) (Q : Nat), Rok R' → Q < 2 ^ 85 → R' 0 = Q → R' 4 = A → Q = sqN A → ∃ R'', Rok R'' ∧ zR L xs (d + 3) m_Mo_root 159 [(1, .int z), (0, .ref 20)] [] (mV C u a b V M R') 0 (.inl none) (mV C u a9 b V9 M R'') 0) :
    ∀ (t : Nat) {Q : Nat} {R : Nat → Nat}, t ≤ 85 → Q + 2 ^ t ≤ 2 ^ 85 → Q % 2 ^ t = 0 → sqB A t Q = sqN A → Rok R → R 0 = Q → R 4 = A → ∃ R'', Rok R'' ∧ zR L xs (d + 3) m_Mo_root 114 [(2, .int (iZ ((t : Int) - 1))), (1, .int z), (0, .ref 20)] [] (mV C u a b V M R) 0 (.inl none) (mV C u a9 b V9 M R'') 0 := by
  intro t
  induction t with
  | zero =>
    intro Q R ht hQ hm hs hR h0 h4
    obtain ⟨R'', q1, q2⟩ := kk R Q hR (by rw [Nat.pow_zero] at hQ; omega) h0 h4 hs
    refine ⟨R'', q1, ?_⟩
    refine zR_to 159 rfl ?_
    exact zR_w q2 rfl rfl ⟨rfl, rfl, trivial⟩
  | succ t ih =>
    intro Q R ht hQ hm hs hR h0 h4
    have hC : Q + 2 ^ t < 2 ^ 85 := by
      have : 0 < 2 ^ t := Nat.pow_pos (by decide)
      rw [Nat.pow_succ] at hQ
      omega
    have hCn : nb (Q + 2 ^ t) ≤ 85 := nb_bd hC
    have hCC : nb ((Q + 2 ^ t) * (Q + 2 ^ t)) ≤ 170 := mul_nb hCn hCn
    have hC5 : (Q + 2 ^ t) < 65536 ^ 32 := lt512 hCn (by decide)
    have hCC5 : (Q + 2 ^ t) * (Q + 2 ^ t) < 65536 ^ 32 := lt512 hCC (by decide)
    have hmt : Q % 2 ^ t = 0 ∧ (Q + 2 ^ t) % 2 ^ t = 0 := by
      have h1 : Q % 2 ^ t = 0 := Nat.mod_eq_zero_of_dvd (Nat.dvd_trans (Nat.pow_dvd_pow 2 (by omega)) (Nat.dvd_of_mod_eq_zero hm))
      exact ⟨h1, by rw [Nat.add_mod_right]; exact h1⟩
    have hQ5 : Q < 65536 ^ 32 := by rw [← h0]; exact hR 0
    have hR1 : Rok (fu R 1 Q) := hR.fu hQ5
    have hR2 : Rok (fu R 1 (Q + 2 ^ t)) := hR.fu hC5
    have hR3 : Rok (fu (fu R 1 (Q + 2 ^ t)) 2 ((Q + 2 ^ t) * (Q + 2 ^ t))) := hR2.fu hCC5
    have hcr := cmpZ_rng ((Q + 2 ^ t) * (Q + 2 ^ t)) A
    have hd : ∀ {h9 : zH}, zR L xs (d + 3) m_Mo_root 144 [(2, .int (nI t)), (1, .int z), (0, .ref 20)] [.int (iZ (cmpZ ((Q + 2 ^ t) * (Q + 2 ^ t)) A))] (mV C u a b V M (fu (fu R 1 (Q + 2 ^ t)) 2 ((Q + 2 ^ t) * (Q + 2 ^ t)))) 0 (.inl none) h9 0 → zR L xs (d + 3) m_Mo_root 114 [(2, .int (iZ (((t + 1 : Nat) : Int) - 1))), (1, .int z), (0, .ref 20)] [] (mV C u a b V M R) 0 (.inl none) h9 0 := fun {h9} hr => by
      rw [show (((t + 1 : Nat) : Int) - 1) = (t : Int) by omega, iZ_nat]
      refine zR_m 2 rfl ?_
      refine zR_if (fun h => absurd h (nI_pos (n := t) (by omega))) (fun _ => ?_)
      refine zR_to 122 (st' := [.int (iZ 0), .int (nI 1), .int (nI 0), .ref 20]) rfl ?_
      refine zR_v rfl rfl rfl rfl rfl ⟨rfl, Nat.le_of_ble_eq_true rfl, Nat.le_of_ble_eq_true rfl⟩ rfl (Nat.le_refl _) (e_Mo_sh0 (f := 0) (t := 1) (by decide) (by decide) (by decide) hR) rfl rfl ?_
      rw [h0]
      refine zR_to 128 (st' := [.int (nI t), .int (nI 1), .ref 20]) rfl ?_
      refine zR_v rfl rfl rfl rfl rfl ⟨rfl, Nat.le_of_ble_eq_true rfl, Nat.le_of_ble_eq_true rfl⟩ rfl (Nat.le_refl _) (e_Mo_setBit (r := 1) (n := t) (by decide) (by omega)) rfl rfl ?_
      rw [fu_s, fu_fu, or_pow hm]
      refine zR_to 135 (st' := [.int (nI 2), .int (nI 1), .int (nI 1), .ref 20]) rfl ?_
      refine zR_v rfl rfl rfl rfl rfl ⟨rfl, Nat.le_of_ble_eq_true rfl, Nat.le_of_ble_eq_true rfl⟩ rfl (Nat.le_refl _) (e_Mo_times (p := 1) (q := 1) (c := 2) (by decide) (by decide) (by decide) (by decide) (by decide) hR2 (by
        rw [fu_s, B2]
        exact Nat.lt_of_lt_of_le hC (Nat.pow_le_pow_right (by decide) (by decide)))) rfl rfl ?_
      rw [fu_s, Nat.mod_eq_of_lt hCC5]
      refine zR_to 141 rfl ?_
      refine zR_v rfl rfl rfl rfl rfl ⟨rfl, Nat.le_of_ble_eq_true rfl, Nat.le_of_ble_eq_true rfl⟩ rfl (Nat.le_refl _) (e_Mo_compareRows (p := 2) (q := 4) (by decide) (by decide) hR3) rfl rfl ?_
      rw [fu_s, fu_n (show (4 : Nat) ≠ 2 by decide), fu_n (show (4 : Nat) ≠ 1 by decide), h4]
      exact hr
    have tl9 : ∀ (Q1 : Nat) (Rb : Nat → Nat), Q1 + 2 ^ t ≤ 2 ^ 85 → Q1 % 2 ^ t = 0 → sqB A t Q1 = sqN A → Rok Rb → Rb 0 = Q1 → Rb 4 = A → ∃ R'', Rok R'' ∧ zR L xs (d + 3) m_Mo_root 153 [(2, .int (nI t)), (1, .int z), (0, .ref 20)] [] (mV C u a b V M Rb) 0 (.inl none) (mV C u a9 b V9 M R'') 0 := by
      intro Q1 Rb e1 e2 e3 e4 e5 e6
      obtain ⟨R'', q1, q2⟩ := ih (Q := Q1) (R := Rb) (by omega) e1 e2 e3 e4 e5 e6
      refine ⟨R'', q1, ?_⟩
      refine zR_to 114 rfl ?_
      refine zR_w q2 rfl rfl ⟨?_, rfl, rfl, trivial⟩
      show some (Value.int (nI t + iZ (-1))) = _
      rw [← iZ_nat, iZ_add]
      rfl
    by_cases hl : (Q + 2 ^ t) * (Q + 2 ^ t) ≤ A
    · have hs' : sqB A t (Q + 2 ^ t) = sqN A := by
        rw [← hs]
        conv => rhs; unfold sqB
        rw [if_pos hl]
      obtain ⟨R'', q1, q2⟩ := tl9 (Q + 2 ^ t) (fu (fu (fu R 1 (Q + 2 ^ t)) 2 ((Q + 2 ^ t) * (Q + 2 ^ t))) 0 (Q + 2 ^ t)) (by rw [Nat.add_assoc, ← Nat.mul_two, ← Nat.pow_succ]; exact hQ) hmt.2 hs' (hR3.fu hC5) fu_s (by rw [fu_n (by decide), fu_n (by decide), fu_n (by decide)]; exact h4)
      refine ⟨R'', q1, hd ?_⟩
      refine zR_m 1 rfl ?_
      refine zR_if (fun h => ?_) (fun _ => ?_)
      · have h1 := (iZ_lt (x := 0) (by omega) (by omega)).mp h
        have := cmpZ_le.mpr hl
        omega
      refine zR_to 150 (st' := [.int (nI t), .int (nI 0), .ref 20]) rfl ?_
      refine zR_v rfl rfl rfl rfl rfl ⟨rfl, Nat.le_of_ble_eq_true rfl, Nat.le_of_ble_eq_true rfl⟩ rfl (Nat.le_refl _) (e_Mo_setBit (r := 0) (n := t) (by decide) (by omega)) rfl rfl ?_
      rw [fu_n (show (0 : Nat) ≠ 2 by decide), fu_n (show (0 : Nat) ≠ 1 by decide), h0, or_pow hm]
      exact q2
    · have hs' : sqB A t Q = sqN A := by
        rw [← hs]
        conv => rhs; unfold sqB
        rw [if_neg hl]
      obtain ⟨R'', q1, q2⟩ := tl9 Q (fu (fu R 1 (Q + 2 ^ t)) 2 ((Q + 2 ^ t) * (Q + 2 ^ t))) (by rw [Nat.pow_succ] at hQ; omega) hmt.1 hs' hR3 (by rw [fu_n (by decide), fu_n (by decide)]; exact h0) (by rw [fu_n (by decide), fu_n (by decide)]; exact h4)
      refine ⟨R'', q1, hd ?_⟩
      refine zR_m 1 rfl ?_
      refine zR_if (fun _ => q2) (fun h => absurd ((iZ_lt (x := 0) (by omega) (by omega)).mpr (by
        rcases Int.lt_or_le 0 (cmpZ ((Q + 2 ^ t) * (Q + 2 ^ t)) A) with h9 | h9
        · exact h9
        · exact absurd (cmpZ_le.mp h9) hl)) h)
theorem iZ_and1 {v : Int} : iZ v &&& 1 = nI (v % 2).toNat := by
  rw [pk_and (iZ v) (m := 1) 1 rfl]
  congr 1
  show (BitVec.ofInt 32 v).toNat % 2 ^ 1 = _
  rw [BitVec.toNat_ofInt]
  omega
theorem iZ_half {m : Int} (h1 : -1000000 ≤ m) (h2 : m ≤ 1000000) : iZ (2 * m) / (2 : Int32) = iZ m := by
  have h := Int32.toInt_div (iZ (2 * m)) 2
  rw [iZ_toInt (by omega) (by omega), show (2 : Int32).toInt = 2 from rfl, Int.mul_tdiv_cancel_left m (by decide)] at h
  rw [iZ_of (iZ (2 * m) / 2), h]
  congr 1
  exact Int.bmod_eq_of_le (by show -(4294967296 / 2 : Int) ≤ m; omega) (by show m < (4294967296 + 1) / 2; omega)
end RT
end
section
section RT
variable {L : Nat} {xs : Nat → Int32} {d : Nat} {mi : ZM} {pc : Nat} {lv : zL} {st st' : List Value} {h' : zH} {k k' : Nat} {o : zO} {pc' : Nat}
variable {C : Nat → zC} {u : zC} {a : Nat → Int32} {b : Nat → Int64} {M : Nat → Int64} {R : Nat → Nat} {V : Nat → RV}
theorem rtX_nb {A : Nat} (hA : A ≠ 0) : rtX A ≠ 0 ∧ nb (rtX A) ≤ 90 := by
  have h1 := (sqB_lt (A := A) 85 0 (by omega)).1
  have h2 : sqN A < 2 ^ 85 := h1
  constructor
  · unfold rtX
    by_cases h0 : sqN A = 0
    · rw [h0, if_neg (by omega)]
      omega
    · omega
  · apply nb_bd
    unfold rtX
    have e : (2 : Nat) ^ 90 = 32 * 2 ^ 85 := rfl
    split <;> omega
set_option maxRecDepth 10000 in
set_option maxHeartbeats 4000000 in
/-- the finite root, from pc 66 -/
theorem f_Mo_root {p w : Nat} (hc : cOk a p w) (h8 : rk (V 8) = 1) (hx : vOk (V 8)) (hR : Rok R) : ∃ R'', Rok R'' ∧ zR L xs (d + 5) m_Mo_root 66 [(0, .ref 20)] [] (mV C u a b V M R) 0 (.inl none) (mV C u (nt a (rNt w false (rtX (rs (V 8) * 2 ^ rtN (zr (V 8)))) p 16383 ((zr (V 8) - 63 - rtN (zr (V 8))) / 2 - 1))) b (fu V 10 (rVal w false (rtX (rs (V 8) * 2 ^ rtN (zr (V 8)))) p 16383 ((zr (V 8) - 63 - rtN (zr (V 8))) / 2 - 1))) M R'') 0 := by
  obtain ⟨x1, x2, x3⟩ := hx.2.1 h8
  have hxl : rs (V 8) < 2 ^ 64 := uN_lt2 _
  have hn : rtN (zr (V 8)) = 100 ∨ rtN (zr (V 8)) = 101 := by
    unfold rtN
    split
    · exact Or.inl rfl
    · exact Or.inr rfl
  have hpar : (zr (V 8) - 63 - (rtN (zr (V 8)) : Int)) % 2 = 0 := by
    unfold rtN
    split <;> omega
  generalize hnn : rtN (zr (V 8)) = n at *
  generalize hAA : rs (V 8) * 2 ^ n = A at *
  have hA0 : A ≠ 0 := by
    rw [← hAA]
    exact Nat.ne_of_gt (Nat.mul_pos (by omega) (Nat.pow_pos (by decide)))
  have hAn : nb A ≤ 165 := by
    rw [← hAA]
    have h1 : nb (2 ^ n) ≤ 101 + 1 := nb_bd (Nat.pow_lt_pow_right (by decide) (by omega))
    have e : (rs (V 8)) * 2 ^ n < 2 ^ 64 * 2 ^ n := Nat.mul_lt_mul_of_pos_right hxl (Nat.pow_pos (by decide))
    rw [← Nat.pow_add] at e
    exact nb_bd (Nat.lt_of_lt_of_le e (Nat.pow_le_pow_right (by decide) (by omega)))
  obtain ⟨n1, n2⟩ := rtX_nb hA0
  have hX5 : rtX A < 65536 ^ 32 := lt512 n2 (by decide)
  have hA5 : A < 65536 ^ 32 := lt512 hAn (by decide)
  -- the end
  have fin : ∀ Rb : Nat → Nat, Rok Rb → Rb 0 = rtX A → ∃ R'', Rok R'' ∧ zR L xs (d + 5) m_Mo_root 205 [(1, .int (iZ n)), (0, .ref 20)] [] (mV C u a b V M Rb) 0 (.inl none) (mV C u (nt a (rNt w false (rtX A) p 16383 ((zr (V 8) - 63 - n) / 2 - 1))) b (fu V 10 (rVal w false (rtX A) p 16383 ((zr (V 8) - 63 - n) / 2 - 1))) M R'') 0 := by
    intro Rb hRb hb0
    refine ⟨_, rok_round (w := w) (mb := false) n1 hc.2.2.1 hRb, ?_⟩
    refine zR_to 219 (st' := [.int (re (V 8) - iZ 63 - iZ n), .int (bI false), .ref 20]) rfl ?_
    rw [re_zr (V 8), iZ_sub, iZ_sub, show zr (V 8) - 63 - (n : Int) = 2 * ((zr (V 8) - 63 - (n : Int)) / 2) by omega]
    refine zR_to 221 (st' := [.int (iZ (2 * ((zr (V 8) - 63 - (n : Int)) / 2)) / (2 : Int32)), .int (bI false), .ref 20]) rfl ?_
    rw [iZ_half (by omega) (by omega)]
    refine zR_to 223 (st' := [.int (iZ ((zr (V 8) - 63 - (n : Int)) / 2) - iZ 1), .int (bI false), .ref 20]) rfl ?_
    rw [iZ_sub, show 2 * ((zr (V 8) - 63 - (n : Int)) / 2) = zr (V 8) - 63 - (n : Int) by omega]
    refine zR_v rfl rfl rfl rfl rfl ⟨rfl, Nat.le_of_ble_eq_true rfl, Nat.le_of_ble_eq_true rfl⟩ rfl (Nat.le_refl _) (e_Mo_result (X := rtX A) hc (by omega) n1 (by omega) hRb hb0) rfl rfl ?_
    exact zR_e rfl rfl rfl rfl rfl rfl
  have hR1 : Rok (fu R 1 (rs (V 8))) := hR.fu (uN_rok _)
  have hR4 : Rok (fu (fu R 1 (rs (V 8))) 4 A) := hR1.fu hA5
  obtain ⟨R'', hR'', hgo⟩ := l_Mo_root (L := L) (xs := xs) (d := d + 2) (C := C) (u := u) (a := a) (b := b) (V := V) (M := M) (A := A) (z := iZ n) (a9 := nt a (rNt w false (rtX A) p 16383 ((zr (V 8) - 63 - n) / 2 - 1))) (V9 := fu V 10 (rVal w false (rtX A) p 16383 ((zr (V 8) - 63 - n) / 2 - 1))) (fun R' Q hR' hQ c0 c4 hq => by
    have hQn : nb Q ≤ 85 := nb_bd hQ
    have hQQ : nb (Q * Q) ≤ 170 := mul_nb hQn hQn
    have hQQ5 : Q * Q < 65536 ^ 32 := lt512 hQQ (by decide)
    have hX : rtX A = 2 * Q + (if Q * Q = A then 0 else 1) := by rw [hq]; rfl
    have h2Q : 2 * Q < 65536 ^ 32 := by omega
    have hRa : Rok (fu R' 2 (Q * Q)) := hR'.fu hQQ5
    have hRb : Rok (fu (fu R' 2 (Q * Q)) 1 (2 * Q)) := hRa.fu h2Q
    have hRc : Rok (fu (fu (fu R' 2 (Q * Q)) 1 (2 * Q)) 0 (2 * Q)) := hRb.fu h2Q
    have hcr := cmpZ_rng (Q * Q) A
    have hd : ∀ {h9 : zH}, zR L xs (d + 5) m_Mo_root 172 [(1, .int (iZ n)), (0, .ref 20)] [.int (iZ (cmpZ (Q * Q) A))] (mV C u a b V M (fu R' 2 (Q * Q))) 0 (.inl none) h9 0 → zR L xs (d + 5) m_Mo_root 159 [(1, .int (iZ n)), (0, .ref 20)] [] (mV C u a b V M R') 0 (.inl none) h9 0 := fun {h9} hr => by
      refine zR_to 163 (st' := [.int (nI 2), .int (nI 0), .int (nI 0), .ref 20]) rfl ?_
      refine zR_v rfl rfl rfl rfl rfl ⟨rfl, Nat.le_of_ble_eq_true rfl, Nat.le_of_ble_eq_true rfl⟩ rfl (Nat.le_refl _) (e_Mo_times (p := 0) (q := 0) (c := 2) (by decide) (by decide) (by decide) (by decide) (by decide) hR' (by
        rw [c0, B2]
        exact Nat.lt_of_lt_of_le hQ (Nat.pow_le_pow_right (by decide) (by decide)))) rfl rfl ?_
      rw [c0, Nat.mod_eq_of_lt hQQ5]
      refine zR_to 169 rfl ?_
      refine zR_v rfl rfl rfl rfl rfl ⟨rfl, Nat.le_of_ble_eq_true rfl, Nat.le_of_ble_eq_true rfl⟩ rfl (Nat.le_refl _) (e_Mo_compareRows (p := 2) (q := 4) (by decide) (by decide) hRa) rfl rfl ?_
      rw [fu_s, fu_n (show (4 : Nat) ≠ 2 by decide), c4]
      exact hr
    have md : ∀ (e : Int32) {h9 : zH}, zR L xs (d + 5) m_Mo_root 195 [(2, .int e), (1, .int (iZ n)), (0, .ref 20)] [] (mV C u a b V M (fu (fu (fu R' 2 (Q * Q)) 1 (2 * Q)) 0 (2 * Q))) 0 (.inl none) h9 0 → zR L xs (d + 5) m_Mo_root 181 [(2, .int e), (1, .int (iZ n)), (0, .ref 20)] [] (mV C u a b V M (fu R' 2 (Q * Q))) 0 (.inl none) h9 0 := fun e {h9} hr => by
      refine zR_to 185 (st' := [.int (iZ 1), .int (nI 1), .int (nI 0), .ref 20]) rfl ?_
      refine zR_v rfl rfl rfl rfl rfl ⟨rfl, Nat.le_of_ble_eq_true rfl, Nat.le_of_ble_eq_true rfl⟩ rfl (Nat.le_refl _) (e_Mo_shift (f := 0) (t := 1) (n := 1) (by decide) (by decide) (by decide) hRa (by rw [fu_n (by decide), c0]; omega) (by omega)) rfl rfl ?_
      rw [fu_n (show (0 : Nat) ≠ 2 by decide), c0, sh1]
      refine zR_to 192 (st' := [.int (iZ 0), .int (nI 0), .int (nI 1), .ref 20]) rfl ?_
      refine zR_v rfl rfl rfl rfl rfl ⟨rfl, Nat.le_of_ble_eq_true rfl, Nat.le_of_ble_eq_true rfl⟩ rfl (Nat.le_refl _) (e_Mo_sh0 (f := 1) (t := 0) (by decide) (by decide) (by decide) hRb) rfl rfl ?_
      rw [fu_s]
      exact hr
    by_cases he : Q * Q = A
    · rw [if_pos he, Nat.add_zero] at hX
      obtain ⟨R'', q1, q2⟩ := fin (fu (fu (fu R' 2 (Q * Q)) 1 (2 * Q)) 0 (2 * Q)) hRc (by rw [fu_s, hX])
      refine ⟨R'', q1, hd ?_⟩
      rw [cmpZ_0.mpr he]
      refine zR_to 181 rfl ?_
      refine zR_w (md 1 ?_) rfl rfl ⟨rfl, rfl, rfl, trivial⟩
      refine zR_to 205 rfl ?_
      exact zR_w q2 rfl rfl ⟨rfl, rfl, trivial⟩
    · rw [if_neg he] at hX
      obtain ⟨R'', q1, q2⟩ := fin (fu (fu (fu R' 2 (Q * Q)) 1 (2 * Q)) 0 (2 * Q + 1)) (hRb.fu (by rw [← hX]; exact hX5)) (by rw [fu_s, hX])
      refine ⟨R'', q1, hd ?_⟩
      refine zR_m 1 rfl ?_
      refine zR_if (fun _ => ?_) (fun h => absurd (fun h7 => he (cmpZ_0.mp ((iZ_eq (y := 0) (by omega) (by omega)).mp h7))) h)
      refine zR_to 181 rfl ?_
      refine zR_w (md 0 ?_) rfl rfl ⟨rfl, rfl, rfl, trivial⟩
      refine zR_to 202 (st' := [.int (nI 0), .int (nI 0), .ref 20]) rfl ?_
      refine zR_v rfl rfl rfl rfl rfl ⟨rfl, Nat.le_of_ble_eq_true rfl, Nat.le_of_ble_eq_true rfl⟩ rfl (Nat.le_refl _) (e_Mo_setBit (r := 0) (n := 0) (by decide) (by decide)) rfl rfl ?_
      rw [fu_s, fu_fu, or_1]
      exact zR_w q2 rfl rfl ⟨rfl, rfl, trivial⟩) 85 (Q := 0) (R := fu (fu (fu R 1 (rs (V 8))) 4 A) 0 0) (Nat.le_refl _) (by omega) (Nat.zero_mod _) rfl (hR4.fu (Bp 32)) fu_s (by rw [fu_n (by decide), fu_s])
  refine ⟨R'', hR'', ?_⟩
  have hgo' : zR L xs (d + 5) m_Mo_root 87 [(1, .int (iZ n)), (0, .ref 20)] [] (mV C u a b V M R) 0 (.inl none) (mV C u (nt a (rNt w false (rtX A) p 16383 ((zr (V 8) - 63 - n) / 2 - 1))) b (fu V 10 (rVal w false (rtX A) p 16383 ((zr (V 8) - 63 - n) / 2 - 1))) M R'') 0 := by
    refine zR_to 96 (st' := [.long (V 8).2.2.2, .int (nI 1), .ref 20]) rfl ?_
    refine zR_v rfl rfl rfl rfl rfl ⟨rfl, Nat.le_of_ble_eq_true rfl, Nat.le_of_ble_eq_true rfl⟩ rfl (Nat.le_refl _) (e_Mo_putU (r := 1) (by decide) hR) rfl rfl ?_
    refine zR_to 103 (st' := [.int (iZ n), .int (nI 4), .int (nI 1), .ref 20]) rfl ?_
    refine zR_v rfl rfl rfl rfl rfl ⟨rfl, Nat.le_of_ble_eq_true rfl, Nat.le_of_ble_eq_true rfl⟩ rfl (Nat.le_refl _) (e_Mo_shift (f := 1) (t := 4) (n := n) (by decide) (by decide) (by decide) hR1 (by rw [fu_s]; have := nb_bd (n := 64) hxl; show (nb (rs (V 8)) : Int) + n ≤ 512; omega) (by omega)) rfl rfl ?_
    rw [fu_s, shZ_pos, show uN (V 8).2.2.2 * 2 ^ n = A from hAA]
    refine zR_to 108 rfl ?_
    refine zR_v rfl rfl rfl rfl rfl ⟨rfl, Nat.le_of_ble_eq_true rfl, Nat.le_of_ble_eq_true rfl⟩ rfl (Nat.le_refl _) (e_Mo_blank (r := 0) (by decide) hR4) rfl rfl ?_
    refine zR_to 114 rfl ?_
    exact zR_w hgo rfl rfl ⟨rfl, rfl, rfl, trivial⟩
  refine zR_to 75 (st' := [.int (re (V 8) &&& 1)]) rfl ?_
  rw [re_zr (V 8), iZ_and1]
  refine zR_m 2 rfl ?_
  refine zR_if (fun h => ?_) (fun h => ?_)
  · have h1 : ¬ zr (V 8) % 2 = 1 := fun h9 => h (by rw [h9]; rfl)
    have h2 : n = 101 := by rw [← hnn]; unfold rtN; rw [if_neg h1]
    rw [h2] at hgo'
    rw [h2]
    refine zR_to 87 rfl ?_
    exact zR_w hgo' rfl rfl ⟨rfl, rfl, trivial⟩
  · have h1 : zr (V 8) % 2 = 1 := by
      rcases (show zr (V 8) % 2 = 0 ∨ zr (V 8) % 2 = 1 by omega) with h9 | h9
      · rw [h9] at h
        exact absurd (by decide) h
      · exact h9
    have h2 : n = 100 := by rw [← hnn]; unfold rtN; rw [if_pos h1]
    rw [h2] at hgo'
    rw [h2]
    refine zR_to 87 rfl ?_
    exact zR_w hgo' rfl rfl ⟨rfl, rfl, trivial⟩
end RT
end
section
/-! whole numbers -/
def exV (mb : Bool) (N : Nat) : RV := if N = 0 then (0, mb, 0, 0) else (1, mb, iZ ((nb N : Int) - 1), lN (rSg N))
def whC (e : Int) : Nat := if 90 < 63 - e then 90 else (63 - e).toNat
def whN (w : Nat) (mb : Bool) (X : Nat) (e : Int) : Nat := if 63 ≤ e then shZ X (e - 63) else X / 2 ^ whC e + (if rUp w mb (gO X (whC e)) (gH X (whC e)) (gB X (whC e)) then 1 else 0)
def whI (X : Nat) (e : Int) : Bool := if 63 ≤ e then false else (gH X (whC e) || gB X (whC e))
def intR (w : Nat) (x : RV) : RV × Int32 := if rk x = 1 ∧ zr x < 63 then (exV (rn x) (whN w (rn x) (rs x) (zr x)), if whI (rs x) (zr x) then 16 else 0) else (x, 0)
section IN
variable {L : Nat} {xs : Nat → Int32} {d : Nat} {mi : ZM} {pc : Nat} {lv : zL} {st st' : List Value} {h' : zH} {k k' : Nat} {o : zO} {pc' : Nat}
variable {C : Nat → zC} {u : zC} {a : Nat → Int32} {b : Nat → Int64} {M : Nat → Int64} {R : Nat → Nat} {V : Nat → RV}
set_option maxRecDepth 10000 in
theorem e_Mo_root {p w : Nat} (hc : cOk a p w) (hx : vOk (V 8)) (hR : Rok R) : zEr L xs (d + 6) m_Mo_root [.ref 20] (mV C u a b V M R) (.inl none) C u (nt a (rootR w p (V 8)).2) b (fu V 10 (rootR w p (V 8)).1) M := by
  have cp : zR L xs (d + 6) m_Mo_root 42 [(0, .ref 20)] [] (mV C u a b V M R) 0 (.inl none) (mV C u a b (fu V 10 (V 8)) M R) 0 := by
    refine zR_to 47 (st' := [.int (nI 10), .int (nI 8), .ref 20]) rfl ?_
    refine zR_v rfl rfl rfl rfl rfl ⟨rfl, Nat.le_of_ble_eq_true rfl, Nat.le_of_ble_eq_true rfl⟩ rfl (Nat.le_refl _) (e_Mo_copy (f := 8) (t := 10) (by decide) (by decide)) rfl rfl ?_
    exact zR_e rfl rfl rfl rfl rfl rfl
  unfold rootR
  by_cases h1 : rk (V 8) = 3 ∨ rk (V 8) = 0 ∨ (rk (V 8) = 2 ∧ rn (V 8) = false)
  · rw [if_pos h1, nt_0]
    refine ⟨R, hR, 0, Nat.zero_le _, ?_⟩
    refine zR_to 8 (st' := [.int 3, .int (rk (V 8))]) rfl ?_
    refine zR_m 1 rfl ?_
    refine zR_if (fun _ => cp) (fun h3 => ?_)
    refine zR_to 18 (st' := [.int (rk (V 8))]) rfl ?_
    refine zR_m 1 rfl ?_
    refine zR_if (fun _ => cp) (fun h0 => ?_)
    have h2 : rk (V 8) = 2 ∧ rn (V 8) = false := by
      rcases h1 with h | h | h
      · exact absurd h h3
      · exact absurd h h0
      · exact h
    refine zR_to 29 (st' := [.int 2, .int (rk (V 8))]) rfl ?_
    refine zR_m 1 rfl ?_
    refine zR_if (fun h => absurd h2.1 h) (fun _ => ?_)
    refine zR_to 39 (st' := [.int (bI (rn (V 8)))]) rfl ?_
    rw [h2.2]
    exact zR_to 42 rfl cp
  · rw [if_neg h1]
    have go : ∀ {h9 : zH}, zR L xs (d + 6) m_Mo_root 58 [(0, .ref 20)] [.int (bI (rn (V 8)))] (mV C u a b V M R) 0 (.inl none) h9 0 → zE L xs (d + 6) m_Mo_root [.ref 20] (mV C u a b V M R) (.inl none) h9 := fun {h9} hr => by
      refine ⟨0, Nat.zero_le _, ?_⟩
      refine zR_to 8 (st' := [.int 3, .int (rk (V 8))]) rfl ?_
      refine zR_m 1 rfl ?_
      refine zR_if (fun h => absurd (Or.inl h) h1) (fun _ => ?_)
      refine zR_to 18 (st' := [.int (rk (V 8))]) rfl ?_
      refine zR_m 1 rfl ?_
      refine zR_if (fun h => absurd (Or.inr (Or.inl h)) h1) (fun _ => ?_)
      refine zR_to 29 (st' := [.int 2, .int (rk (V 8))]) rfl ?_
      refine zR_m 1 rfl ?_
      refine zR_if (fun _ => zR_to 58 rfl hr) (fun h2 => ?_)
      refine zR_to 39 (st' := [.int (bI (rn (V 8)))]) rfl ?_
      cases hn : rn (V 8) with
      | false => exact absurd (Or.inr (Or.inr ⟨Decidable.of_not_not h2, hn⟩)) h1
      | true =>
        rw [hn] at hr
        exact zR_to 51 rfl (zR_to 58 (st' := [.int (bI true)]) (by rw [← hn]; rfl) hr)
    cases hn : rn (V 8) with
    | true =>
      rw [if_pos rfl]
      refine ⟨R, hR, go ?_⟩
      rw [hn]
      refine zR_to 62 rfl ?_
      refine zR_v rfl rfl rfl rfl rfl ⟨rfl, Nat.le_of_ble_eq_true rfl, Nat.le_of_ble_eq_true rfl⟩ rfl (Nat.le_refl _) e_Mo_invalid rfl rfl ?_
      exact zR_e rfl rfl rfl rfl rfl rfl
    | false =>
      rw [if_neg (by decide)]
      have f8 : rk (V 8) = 1 := by
        rcases hx.1 with h | h | h | h
        · exact absurd (Or.inr (Or.inl h)) h1
        · exact h
        · exact absurd (Or.inr (Or.inr ⟨h, hn⟩)) h1
        · exact absurd (Or.inl h) h1
      obtain ⟨R', hR', hgo⟩ := f_Mo_root (L := L) (xs := xs) (d := d + 1) (C := C) (u := u) (a := a) (b := b) (V := V) (M := M) (R := R) hc f8 hx hR
      refine ⟨R', hR', go ?_⟩
      rw [hn]
      exact zR_to 66 rfl hgo
set_option maxRecDepth 10000 in
theorem e_Mo_exactly {N : Nat} {mb : Bool} (hN : nb N ≤ 400) (hR : Rok R) (hR0 : R 0 = N) : zEr L xs (d + 3) m_Mo_exactly [.ref 20, .int (bI mb)] (mV C u a b V M R) (.inl none) C u a b (fu V 10 (exV mb N)) M := by
  unfold exV
  by_cases h0 : N = 0
  · rw [if_pos h0]
    refine ⟨R, hR, 0, Nat.zero_le _, ?_⟩
    refine zR_to 2 rfl ?_
    refine zR_v rfl rfl rfl rfl rfl ⟨rfl, Nat.le_of_ble_eq_true rfl, Nat.le_of_ble_eq_true rfl⟩ rfl (Nat.le_refl _) (e_Mo_top (r := 0) (by decide) hR) rfl rfl ?_
    rw [hR0, h0, nb_0]
    refine zR_to 13 rfl ?_
    refine zR_v rfl rfl rfl rfl rfl ⟨rfl, Nat.le_of_ble_eq_true rfl, Nat.le_of_ble_eq_true rfl⟩ rfl (Nat.le_refl _) e_Mo_special rfl rfl ?_
    exact zR_e rfl rfl rfl rfl rfl rfl
  · rw [if_neg h0]
    have hn : 1 ≤ nb N := by
      rcases Nat.eq_zero_or_pos (nb N) with h9 | h9
      · have := nb_lt N
        rw [h9] at this
        omega
      · exact h9
    have hS := rSg_lt h0
    have hS5 : rSg N < 65536 ^ 32 := Nat.lt_of_lt_of_le hS (by rw [B2]; exact Nat.pow_le_pow_right (by decide) (by decide))
    refine ⟨fu R 1 (rSg N), hR.fu hS5, 0, Nat.zero_le _, ?_⟩
    refine zR_to 2 rfl ?_
    refine zR_v rfl rfl rfl rfl rfl ⟨rfl, Nat.le_of_ble_eq_true rfl, Nat.le_of_ble_eq_true rfl⟩ rfl (Nat.le_refl _) (e_Mo_top (r := 0) (by decide) hR) rfl rfl ?_
    rw [hR0]
    refine zR_to 7 rfl ?_
    refine zR_m 1 rfl ?_
    refine zR_if (fun _ => ?_) (fun h => absurd ((iZ_le (x := 0) (by omega) (by omega)).mpr (show (0 : Int) ≤ (nb N : Int) - 1 by omega)) h)
    refine zR_to 24 (st' := [.int (iZ 63 - iZ ((nb N : Int) - 1)), .int (nI 1), .int (nI 0), .ref 20]) rfl ?_
    rw [iZ_sub, show (63 : Int) - ((nb N : Int) - 1) = 64 - (nb N : Int) by omega]
    refine zR_v rfl rfl rfl rfl rfl ⟨rfl, Nat.le_of_ble_eq_true rfl, Nat.le_of_ble_eq_true rfl⟩ rfl (Nat.le_refl _) (e_Mo_shift (f := 0) (t := 1) (n := 64 - (nb N : Int)) (by decide) (by decide) (by decide) hR (by rw [hR0]; omega) (by omega)) rfl rfl ?_
    rw [hR0, show shZ N (64 - (nb N : Int)) = rSg N from rfl]
    refine zR_to 34 rfl ?_
    refine zK_put (n := 10) rfl rfl (by decide) rfl ?_
    refine zR_to 42 rfl ?_
    refine zB_put (n := 10) rfl rfl (by decide) rfl ?_
    refine zR_to 50 rfl ?_
    refine zX_put (n := 10) rfl rfl (by decide) rfl ?_
    refine zR_to 59 rfl ?_
    refine zR_v rfl rfl rfl rfl rfl ⟨rfl, Nat.le_of_ble_eq_true rfl, Nat.le_of_ble_eq_true rfl⟩ rfl (Nat.le_refl _) (e_Mo_lowest (r := 1) (by decide)) rfl rfl ?_
    rw [fu_s, Nat.mod_eq_of_lt hS]
    refine zS_put (n := 10) rfl rfl (by decide) rfl ?_
    rw [mV_fu]
    exact zR_e rfl rfl rfl rfl rfl rfl
set_option maxRecDepth 10000 in
theorem e_Mo_whole {w : Nat} (hw : a 2 = nI w) (hw4 : w < 4) (he : -17000 ≤ zr (V 8) ∧ zr (V 8) ≤ 70) (hR : Rok R) : ∃ R', Rok R' ∧ R' 0 = whN w (rn (V 8)) (rs (V 8)) (zr (V 8)) ∧ zE L xs (d + 3) m_Mo_whole [.ref 20] (mV C u a b V M R) (.inl none) (mV C u (nt a (if whI (rs (V 8)) (zr (V 8)) then 16 else 0)) b V M R') := by
  have hxl : rs (V 8) < 2 ^ 64 := uN_lt2 _
  have hxn : nb (rs (V 8)) ≤ 64 := nb_bd hxl
  have hR1 : Rok (fu R 0 (rs (V 8))) := hR.fu (uN_rok _)
  have go : ∀ {h9 : zH}, zR L xs (d + 3) m_Mo_whole 24 [(1, .int (iZ (63 - zr (V 8)))), (0, .ref 20)] [.int (iZ (63 - zr (V 8)))] (mV C u a b V M (fu R 0 (rs (V 8)))) 0 (.inl none) h9 0 → zE L xs (d + 3) m_Mo_whole [.ref 20] (mV C u a b V M R) (.inl none) h9 := fun {h9} hr => by
    refine ⟨0, Nat.zero_le _, ?_⟩
    refine zR_to 9 (st' := [.long (V 8).2.2.2, .int (nI 0), .ref 20]) rfl ?_
    refine zR_v rfl rfl rfl rfl rfl ⟨rfl, Nat.le_of_ble_eq_true rfl, Nat.le_of_ble_eq_true rfl⟩ rfl (Nat.le_refl _) (e_Mo_putU (r := 0) (by decide) hR) rfl rfl ?_
    refine zR_to 22 (st' := [.int (iZ 63 - re (V 8))]) rfl ?_
    rw [re_zr (V 8), iZ_sub]
    exact zR_to 24 rfl hr
  unfold whN whI
  by_cases h63 : 63 ≤ zr (V 8)
  · rw [if_pos h63, if_pos h63, if_neg (by decide), nt_0]
    have hS : (nb (shZ (rs (V 8)) (zr (V 8) - 63)) : Int) ≤ 80 := by
      by_cases h0 : rs (V 8) = 0
      · rw [h0]
        unfold shZ
        rw [Nat.zero_mul, Nat.zero_div, nb_0]
        decide
      · have hn : 1 ≤ nb (rs (V 8)) := by
          rcases Nat.eq_zero_or_pos (nb (rs (V 8))) with h9 | h9
          · have := nb_lt (rs (V 8))
            rw [h9] at this
            omega
          · exact h9
        have := nb_shZ h0 (n := zr (V 8) - 63) (by omega)
        omega
    have hS5 : shZ (rs (V 8)) (zr (V 8) - 63) < 65536 ^ 32 := lt512 (n := 80) (by omega) (by decide)
    have hR2 : Rok (fu (fu R 0 (rs (V 8))) 1 (shZ (rs (V 8)) (zr (V 8) - 63))) := hR1.fu hS5
    refine ⟨fu (fu (fu R 0 (rs (V 8))) 1 (shZ (rs (V 8)) (zr (V 8) - 63))) 0 (shZ (rs (V 8)) (zr (V 8) - 63)), hR2.fu hS5, fu_s, go ?_⟩
    refine zR_m 1 rfl ?_
    refine zR_if (fun h => ?_) (fun _ => ?_)
    · have := (iZ_lt (x := 0) (by omega) (by omega)).mp h
      omega
    refine zR_to 32 (st' := [.int (- iZ (63 - zr (V 8))), .int (nI 1), .int (nI 0), .ref 20]) rfl ?_
    rw [iZ_neg, show -(63 - zr (V 8)) = zr (V 8) - 63 by omega]
    refine zR_v rfl rfl rfl rfl rfl ⟨rfl, Nat.le_of_ble_eq_true rfl, Nat.le_of_ble_eq_true rfl⟩ rfl (Nat.le_refl _) (e_Mo_shift (f := 0) (t := 1) (n := zr (V 8) - 63) (by decide) (by decide) (by decide) hR1 (by rw [fu_s]; omega) (by omega)) rfl rfl ?_
    rw [fu_s]
    refine zR_to 39 (st' := [.int (iZ 0), .int (nI 0), .int (nI 1), .ref 20]) rfl ?_
    refine zR_v rfl rfl rfl rfl rfl ⟨rfl, Nat.le_of_ble_eq_true rfl, Nat.le_of_ble_eq_true rfl⟩ rfl (Nat.le_refl _) (e_Mo_sh0 (f := 1) (t := 0) (by decide) (by decide) (by decide) hR2) rfl rfl ?_
    rw [fu_s]
    exact zR_e rfl rfl rfl rfl rfl rfl
  · rw [if_neg h63, if_neg h63]
    have hcc : 1 ≤ whC (zr (V 8)) ∧ whC (zr (V 8)) ≤ 90 := by
      unfold whC
      split <;> omega
    generalize hcd : whC (zr (V 8)) = c at *
    generalize hup : rUp w (rn (V 8)) (gO (rs (V 8)) c) (gH (rs (V 8)) c) (gB (rs (V 8)) c) = up at *
    have hQ : rs (V 8) / 2 ^ c < 2 ^ 64 := Nat.lt_of_le_of_lt (Nat.div_le_self _ _) hxl
    have h64 : (2 : Nat) ^ 64 + 1 < 65536 ^ 32 := by decide
    have hQ5 : rs (V 8) / 2 ^ c < 65536 ^ 32 := by omega
    have hu1 : (if up then 1 else 0 : Nat) ≤ 1 := by split <;> omega
    have hR2 : Rok (fu (fu R 0 (rs (V 8))) 1 (rs (V 8) / 2 ^ c)) := hR1.fu hQ5
    have hR3 : Rok (fu (fu (fu R 0 (rs (V 8))) 1 (rs (V 8) / 2 ^ c)) 2 (if up then 1 else 0)) := hR2.fu (by omega)
    have hR4 : Rok (fu (fu (fu (fu R 0 (rs (V 8))) 1 (rs (V 8) / 2 ^ c)) 2 (if up then 1 else 0)) 1 (rs (V 8) / 2 ^ c + (if up then 1 else 0))) := hR3.fu (by omega)
    refine ⟨fu (fu (fu (fu (fu R 0 (rs (V 8))) 1 (rs (V 8) / 2 ^ c)) 2 (if up then 1 else 0)) 1 (rs (V 8) / 2 ^ c + (if up then 1 else 0))) 0 (rs (V 8) / 2 ^ c + (if up then 1 else 0)), hR4.fu (by omega), fu_s, go ?_⟩
    have ha : (if gH (rs (V 8)) c || gB (rs (V 8)) c then nt a 16 else a) = nt a (if (gH (rs (V 8)) c || gB (rs (V 8)) c) = true then 16 else 0) := by
      split
      · rfl
      · exact nt_0.symm
    -- from the cut on
    have mid : zR L xs (d + 3) m_Mo_whole 56 [(2, .int (nI c)), (0, .ref 20)] [] (mV C u a b V M (fu R 0 (rs (V 8)))) 0 (.inl none) (mV C u (nt a (if (gH (rs (V 8)) c || gB (rs (V 8)) c) = true then 16 else 0)) b V M (fu (fu (fu (fu (fu R 0 (rs (V 8))) 1 (rs (V 8) / 2 ^ c)) 2 (if up then 1 else 0)) 1 (rs (V 8) / 2 ^ c + (if up then 1 else 0))) 0 (rs (V 8) / 2 ^ c + (if up then 1 else 0)))) 0 := by
      refine zR_to 65 (st' := [.int (bI (rn (V 8))), .int (nI c), .ref 20]) rfl ?_
      refine zR_v rfl rfl rfl rfl rfl ⟨rfl, Nat.le_of_ble_eq_true rfl, Nat.le_of_ble_eq_true rfl⟩ rfl (Nat.le_refl _) (e_Mo_goesUp (n := c) (X := rs (V 8)) hcc.1 (by omega) fu_s hw hw4) rfl rfl ?_
      rw [hup, ha]
      refine zR_to 74 (st' := [.int (- nI c), .int (nI 1), .int (nI 0), .ref 20]) rfl ?_
      rw [← iZ_nat c, iZ_neg]
      refine zR_v rfl rfl rfl rfl rfl ⟨rfl, Nat.le_of_ble_eq_true rfl, Nat.le_of_ble_eq_true rfl⟩ rfl (Nat.le_refl _) (e_Mo_shift (f := 0) (t := 1) (n := -(c : Int)) (by decide) (by decide) (by decide) hR1 (by rw [fu_s]; omega) (by omega)) rfl rfl ?_
      rw [fu_s, shZ_neg]
      refine zR_to 88 (lv' := [(3, .int (bI up)), (2, .int (iZ c)), (0, .ref 20)]) (st' := [.long (lN (if up then 1 else 0)), .int (nI 2), .ref 20]) (h1 := mV C u (nt a (if (gH (rs (V 8)) c || gB (rs (V 8)) c) = true then 16 else 0)) b V M (fu (fu R 0 (rs (V 8))) 1 (rs (V 8) / 2 ^ c))) (by cases up <;> rfl) ?_
      refine zR_v rfl rfl rfl rfl rfl ⟨rfl, Nat.le_of_ble_eq_true rfl, Nat.le_of_ble_eq_true rfl⟩ rfl (Nat.le_refl _) (e_Mo_put (r := 2) (n := if up then 1 else 0) (by decide) (by omega) hR2) rfl rfl ?_
      refine zR_to 95 (st' := [.int (iZ 1), .int (nI 2), .int (nI 1), .ref 20]) rfl ?_
      refine zR_v rfl rfl rfl rfl rfl ⟨rfl, Nat.le_of_ble_eq_true rfl, Nat.le_of_ble_eq_true rfl⟩ rfl (Nat.le_refl _) (e_Mo_add (p := 1) (q := 2) (s := 1) (Or.inl rfl) (by decide) (by decide) (by decide) hR3) rfl rfl ?_
      rw [fu_s, fu_n (show (1 : Nat) ≠ 2 by decide), fu_s, adL_add (by omega)]
      refine zR_to 102 (st' := [.int (iZ 0), .int (nI 0), .int (nI 1), .ref 20]) rfl ?_
      refine zR_v rfl rfl rfl rfl rfl ⟨rfl, Nat.le_of_ble_eq_true rfl, Nat.le_of_ble_eq_true rfl⟩ rfl (Nat.le_refl _) (e_Mo_sh0 (f := 1) (t := 0) (by decide) (by decide) (by decide) hR4) rfl rfl ?_
      rw [fu_s]
      exact zR_e rfl rfl rfl rfl rfl rfl
    refine zR_m 1 rfl ?_
    refine zR_if (fun _ => ?_) (fun h => absurd ((iZ_lt (x := 0) (by omega) (by omega)).mpr (show (0 : Int) < 63 - zr (V 8) by omega)) h)
    refine zR_to 46 (st' := [.int (iZ 90), .int (iZ (63 - zr (V 8)))]) rfl ?_
    refine zR_m 1 rfl ?_
    refine zR_if (fun h => ?_) (fun h => ?_)
    · have h1 := (iZ_le (by omega) (by omega)).mp h
      have h2 : 63 - zr (V 8) = (c : Int) := by rw [← hcd]; unfold whC; rw [if_neg (by omega)]; omega
      rw [h2, iZ_nat]
      refine zR_to 56 rfl ?_
      exact zR_w mid rfl rfl ⟨rfl, rfl, trivial⟩
    · have h1 : ¬ 63 - zr (V 8) ≤ 90 := fun h9 => h ((iZ_le (by omega) (by omega)).mpr h9)
      have h2 : c = 90 := by rw [← hcd]; unfold whC; rw [if_pos (by omega)]
      subst h2
      refine zR_to 56 rfl ?_
      exact zR_w mid rfl rfl ⟨rfl, rfl, trivial⟩
end IN
end
section
section SM
variable {L : Nat} {xs : Nat → Int32} {d : Nat} {mi : ZM} {pc : Nat} {lv : zL} {st st' : List Value} {h' : zH} {k k' : Nat} {o : zO} {pc' : Nat}
variable {C : Nat → zC} {u : zC} {a : Nat → Int32} {b : Nat → Int64} {M : Nat → Int64} {R : Nat → Nat} {V : Nat → RV}
set_option maxRecDepth 10000 in
theorem e_Mo_integer {w : Nat} (hw : a 2 = nI w) (hw4 : w < 4) (hx : vOk (V 8)) (hR : Rok R) : zEr L xs (d + 4) m_Mo_integer [.ref 20] (mV C u a b V M R) (.inl none) C u (nt a (intR w (V 8)).2) b (fu V 10 (intR w (V 8)).1) M := by
  have go : ∀ {h9 : zH}, zR L xs (d + 4) m_Mo_integer 16 [(0, .ref 20)] [.int 1, .int (rk (V 8))] (mV C u a b (fu V 10 (V 8)) M R) 0 (.inl none) h9 0 → zE L xs (d + 4) m_Mo_integer [.ref 20] (mV C u a b V M R) (.inl none) h9 := fun {h9} hr => by
    refine ⟨0, Nat.zero_le _, ?_⟩
    refine zR_to 5 (st' := [.int (nI 10), .int (nI 8), .ref 20]) rfl ?_
    refine zR_v rfl rfl rfl rfl rfl ⟨rfl, Nat.le_of_ble_eq_true rfl, Nat.le_of_ble_eq_true rfl⟩ rfl (Nat.le_refl _) (e_Mo_copy (f := 8) (t := 10) (by decide) (by decide)) rfl rfl ?_
    exact zR_to 16 rfl hr
  unfold intR
  by_cases h : rk (V 8) = 1 ∧ zr (V 8) < 63
  · rw [if_pos h]
    obtain ⟨x1, x2, x3⟩ := hx.2.1 h.1
    obtain ⟨R1, hR1, c0, hwh⟩ := e_Mo_whole (L := L) (xs := xs) (d := d) (C := C) (u := u) (a := a) (b := b) (V := fu V 10 (V 8)) (M := M) (R := R) (w := w) hw hw4 (by show -17000 ≤ zr (V 8) ∧ zr (V 8) ≤ 70; omega) hR
    have hN : nb (whN w (rn (V 8)) (rs (V 8)) (zr (V 8))) ≤ 400 := by
      have h1 := hR1 0
      unfold whN
      rw [if_neg (by omega)]
      have hQ : rs (V 8) / 2 ^ whC (zr (V 8)) < 2 ^ 64 := Nat.lt_of_le_of_lt (Nat.div_le_self _ _) (uN_lt2 _)
      have hp : (2 : Nat) ^ 64 + 1 < 2 ^ 400 := by decide
      refine nb_bd ?_
      split <;> omega
    obtain ⟨R2, hR2, hex⟩ := e_Mo_exactly (L := L) (xs := xs) (d := d) (C := C) (u := u) (a := nt a (if whI (rs (V 8)) (zr (V 8)) then 16 else 0)) (b := b) (V := fu V 10 (V 8)) (M := M) (R := R1) (mb := rn (V 8)) hN hR1 c0
    refine ⟨R2, hR2, go ?_⟩
    rw [h.1]
    refine zR_to 28 (st' := [.int (iZ 63), .int (re (V 8))]) rfl ?_
    rw [re_zr (V 8)]
    refine zR_m 1 rfl ?_
    refine zR_if (fun _ => ?_) (fun h5 => absurd ((iZ_lt (by omega) (by omega)).mpr h.2) h5)
    refine zR_to 33 rfl ?_
    refine zR_v rfl rfl rfl rfl rfl ⟨rfl, Nat.le_of_ble_eq_true rfl, Nat.le_of_ble_eq_true rfl⟩ rfl (Nat.le_refl _) hwh rfl rfl ?_
    refine zR_to 44 (st' := [.int (bI (rn (V 8))), .ref 20]) rfl ?_
    refine zR_v rfl rfl rfl rfl rfl ⟨rfl, Nat.le_of_ble_eq_true rfl, Nat.le_of_ble_eq_true rfl⟩ rfl (Nat.le_refl _) hex rfl rfl ?_
    rw [fu_fu]
    exact zR_e rfl rfl rfl rfl rfl rfl
  · rw [if_neg h, nt_0]
    refine ⟨R, hR, go ?_⟩
    refine zR_m 1 rfl ?_
    refine zR_if (fun _ => zR_e rfl rfl rfl rfl rfl rfl) (fun h1 => ?_)
    have f8 : rk (V 8) = 1 := Decidable.of_not_not h1
    obtain ⟨x1, x2, x3⟩ := hx.2.1 f8
    refine zR_to 28 (st' := [.int (iZ 63), .int (re (V 8))]) rfl ?_
    rw [re_zr (V 8)]
    refine zR_m 1 rfl ?_
    refine zR_if (fun h5 => absurd ⟨f8, (iZ_lt (by omega) (by omega)).mp h5⟩ h) (fun _ => zR_e rfl rfl rfl rfl rfl rfl)
end SM
end
section
/-! the reference's state: flags, throws, time -/
def thB (a : Nat → Int32) : Bool := decide (a 5 &&& (a 3 ^^^ (-1)) ≠ 0)
def thA (a : Nat → Int32) : Nat → Int32 := fu (fu a 4 (a 4 ||| a 5)) 0 (if thB a then 2 else 0)
/-- time goes on by n ticks; busy still B -/
def goA (a : Nat → Int32) (B n : Nat) : Nat → Int32 := if B = 0 then a else if B ≤ n ∧ 0 ≤ a 14 then fu (fu a 13 0) 14 (-1) else fu a 13 (nI (B - n))
def goM (a : Nat → Int32) (b : Nat → Int64) (M : Nat → Int64) (B n : Nat) : Nat → Int64 := if B ≠ 0 ∧ B ≤ n ∧ 0 ≤ a 14 then fu M (a 14).toNatClampNeg (b 15) else M
def goB (b : Nat → Int64) (n : Nat) : Nat → Int64 := fu b 16 (b 16 + lN n)
section ST
variable {L : Nat} {xs : Nat → Int32} {d : Nat} {mi : ZM} {pc : Nat} {lv : zL} {st st' : List Value} {h' : zH} {k k' : Nat} {o : zO} {pc' : Nat}
variable {C : Nat → zC} {u : zC} {a : Nat → Int32} {b : Nat → Int64} {M : Nat → Int64} {R : Nat → Nat} {V : Nat → RV}
set_option maxRecDepth 10000 in
theorem e_Mo_throwing : zE L xs d m_Mo_throwing [.ref 20] (mV C u a b V M R) (.inl (some (.int (bI (thB a))))) (mV C u (thA a) b V M R) := by
  refine ⟨0, Nat.zero_le _, ?_⟩
  refine zR_to 25 (st' := [.int (a 5 &&& (a 3 ^^^ (-1))), .ref 20]) (h1 := mV C u (fu a 4 (a 4 ||| a 5)) b V M R) rfl ?_
  unfold thA
  refine zR_m 1 rfl ?_
  refine zR_if (fun h => ?_) (fun h => ?_)
  · have h1 : thB a = false := decide_eq_false (fun h9 => h9 h)
    rw [h1]
    refine zR_to 48 (st' := [.int (bI false)]) (h1 := mV C u (fu (fu a 4 (a 4 ||| a 5)) 0 0) b V M R) rfl ?_
    exact zR_e rfl rfl rfl rfl rfl rfl
  · have h1 : thB a = true := decide_eq_true h
    rw [h1]
    refine zR_to 48 (st' := [.int (bI true)]) (h1 := mV C u (fu (fu a 4 (a 4 ||| a 5)) 0 2) b V M R) rfl ?_
    exact zR_e rfl rfl rfl rfl rfl rfl
set_option maxRecDepth 10000 in
theorem e_Mo_refuse : zE L xs (d + 1) m_Mo_refuse [.ref 20] (mV C u a b V M R) (.inl (some (.int (if thB (fu a 5 1) then 0 else 1)))) (mV C u (thA (fu a 5 1)) b V M R) := by
  refine ⟨0, Nat.zero_le _, ?_⟩
  refine zR_to 6 (h1 := mV C u (fu a 5 1) b V M R) rfl ?_
  refine zR_v rfl rfl rfl rfl rfl ⟨rfl, Nat.le_of_ble_eq_true rfl, Nat.le_of_ble_eq_true rfl⟩ rfl (Nat.le_refl _) e_Mo_throwing rfl rfl ?_
  cases h : thB (fu a 5 1) with
  | true =>
    refine zR_to 20 rfl ?_
    exact zR_e rfl rfl rfl rfl rfl rfl
  | false =>
    refine zR_to 20 (st' := [.int 1]) rfl ?_
    exact zR_e rfl rfl rfl rfl rfl rfl
set_option maxRecDepth 10000 in
theorem e_Mo_goOn {B n : Nat} (hB : a 13 = nI B) (hB2 : B ≤ 1000) (hn : n ≤ 1000) (hce : ∀ c, a 14 = c → ¬ c < 0 → ∃ j : Nat, j < 8 ∧ c = nI j) : zE L xs d m_Mo_goOn [.ref 20, .int (nI n)] (mV C u a b V M R) (.inl none) (mV C u (goA a B n) (goB b n) V (goM a b M B n) R) := by
  have hl : (nI n).toInt64 = lN n := nI_l (by omega)
  refine ⟨0, Nat.zero_le _, ?_⟩
  refine zR_to 7 (st' := [.long (nI n).toInt64, .long (b 16), .ref 20]) rfl ?_
  rw [hl]
  refine zR_to 15 (st' := [.int (a 13)]) (h1 := mV C u a (goB b n) V M R) rfl ?_
  unfold goA goM
  by_cases h0 : B = 0
  · rw [if_pos h0, if_neg (fun h => h.1 h0), hB, h0]
    refine zR_to 18 rfl ?_
    exact zR_e rfl rfl rfl rfl rfl rfl
  · rw [if_neg h0, hB]
    refine zR_m 1 rfl ?_
    refine zR_if (fun _ => ?_) (fun h => absurd (Decidable.of_not_not h) (nI_ne0 (by omega) (by omega)))
    refine zR_to 25 (st' := [.int (nI n), .int (a 13), .ref 20]) rfl ?_
    rw [hB]
    refine zR_m 1 rfl ?_
    refine zR_if (fun h => ?_) (fun h => ?_)
    · have hle : B ≤ n := (nI_leI (by omega) (by omega)).mp h
      refine zR_to 52 (st' := [.int (a 14)]) (h1 := mV C u (fu a 13 0) (goB b n) V M R) rfl ?_
      refine zR_m 1 rfl ?_
      refine zR_if (fun hc => ?_) (fun hc => ?_)
      · have h14 : ¬ (0 ≤ a 14) := fun h9 => absurd hc (Int32.not_lt.mpr h9)
        rw [if_neg (fun h9 => h14 h9.2), if_neg (fun h9 => h14 h9.2.2), show B - n = 0 by omega]
        exact zR_e rfl rfl rfl rfl rfl rfl
      · have h14 : 0 ≤ a 14 := Int32.not_lt.mp hc
        obtain ⟨j, hj, hcj⟩ := hce (a 14) rfl hc
        rw [if_pos ⟨hle, h14⟩, if_pos ⟨h0, hle, h14⟩, hcj, nI_clamp (by omega)]
        refine zR_to 67 (st' := [.long (b 15), .int (a 14), .ref 25]) rfl ?_
        refine zM_put (n := j) rfl hcj hj rfl ?_
        refine zR_to 73 (h1 := mV C u (fu (fu a 13 0) 14 (-1)) (goB b n) V (fu M j (b 15)) R) rfl ?_
        exact zR_e rfl rfl rfl rfl rfl rfl
    · have hlt : ¬ B ≤ n := fun h9 => h ((nI_leI (by omega) (by omega)).mpr h9)
      rw [if_neg (fun h9 => hlt h9.1), if_neg (fun h9 => hlt h9.2.1)]
      refine zR_to 34 (st' := [.int (a 13 - nI n), .ref 20]) rfl ?_
      rw [hB, pk_sub (show n ≤ B by omega)]
      refine zR_to 45 (st' := [.int (nI (B - n))]) (h1 := mV C u (fu a 13 (nI (B - n))) (goB b n) V M R) rfl ?_
      refine zR_m 1 rfl ?_
      refine zR_if (fun _ => zR_e rfl rfl rfl rfl rfl rfl) (fun h9 => absurd (Decidable.of_not_not h9) (nI_ne0 (by omega) (by omega)))
set_option maxRecDepth 10000 in
theorem e_Mo_begin {B t : Nat} (hB : a 13 = nI B) (hB2 : B ≤ 1000) (hce : ∀ c, a 14 = c → ¬ c < 0 → ∃ j : Nat, j < 8 ∧ c = nI j) : zE L xs (d + 1) m_Mo_begin [.ref 20, .int (nI t)] (mV C u a b V M R) (.inl none) (mV C u (fu (fu (goA a B B) 13 (nI t)) 5 0) (goB b B) V (goM a b M B B) R) := by
  refine ⟨0, Nat.zero_le _, ?_⟩
  refine zR_to 5 (st' := [.int (a 13), .ref 20]) rfl ?_
  rw [hB]
  refine zR_v rfl rfl rfl rfl rfl ⟨rfl, Nat.le_of_ble_eq_true rfl, Nat.le_of_ble_eq_true rfl⟩ rfl (Nat.le_refl _) (e_Mo_goOn hB hB2 hB2 hce) rfl rfl ?_
  refine zR_to 18 (h1 := mV C u (fu (fu (goA a B B) 13 (nI t)) 5 0) (goB b B) V (goM a b M B B) R) rfl ?_
  exact zR_e rfl rfl rfl rfl rfl rfl
/-- a new top of the stack, or a full one refused: answer, ints, values -/
def chA (a : Nat → Int32) (n g : Nat) : Nat → Int32 := if n - g = 8 then thA (fu a 5 1) else if thB a then thA a else fu (thA a) 7 (nI (n - g + 1))
def chO (a : Nat → Int32) (n g : Nat) : Int32 := if n - g = 8 then (if thB (fu a 5 1) then 0 else 1) else if thB a then 0 else a 5
def chV (a : Nat → Int32) (V : Nat → RV) (n g : Nat) : Nat → RV := if n - g = 8 then V else if thB a then V else fu V (n - g) (V 10)
set_option maxRecDepth 10000 in
theorem e_Mo_change {n g : Nat} (hn : a 7 = nI n) (hn8 : n ≤ 8) (hg : g ≤ n) : zE L xs (d + 1) m_Mo_change [.ref 20, .int (nI g)] (mV C u a b V M R) (.inl (some (.int (chO a n g)))) (mV C u (chA a n g) b (chV a V n g) M R) := by
  unfold chO chA chV
  refine ⟨0, Nat.zero_le _, ?_⟩
  refine zR_to 6 (st' := [.int (a 7 - nI g)]) rfl ?_
  rw [hn, pk_sub hg]
  refine zR_m 2 rfl ?_
  refine zR_if (fun h => ?_) (fun h => ?_)
  · have h8 : ¬ n - g = 8 := fun h9 => h (by rw [h9]; rfl)
    rw [if_neg h8, if_neg h8, if_neg h8]
    refine zR_to 27 rfl ?_
    refine zR_v rfl rfl rfl rfl rfl ⟨rfl, Nat.le_of_ble_eq_true rfl, Nat.le_of_ble_eq_true rfl⟩ rfl (Nat.le_refl _) e_Mo_throwing rfl rfl ?_
    cases ht : thB a with
    | true =>
      refine zR_to 34 rfl ?_
      exact zR_e rfl rfl rfl rfl rfl rfl
    | false =>
      refine zR_to 51 (st' := [.int (a 7 - nI g), .ref 20]) rfl ?_
      rw [hn, pk_sub hg]
      refine zR_to 61 (st' := [.int (nI (n - g)), .int (nI 10), .ref 20]) (h1 := mV C u (fu (thA a) 7 (nI (n - g))) b V M R) rfl ?_
      refine zR_v rfl rfl rfl rfl rfl ⟨rfl, Nat.le_of_ble_eq_true rfl, Nat.le_of_ble_eq_true rfl⟩ rfl (Nat.le_refl _) (e_Mo_copy (f := 10) (t := n - g) (by decide) (by omega)) rfl rfl ?_
      refine zR_to 71 (st' := [.int (nI (n - g) + 1), .ref 20]) rfl ?_
      rw [nI_1]
      refine zR_to 78 (st' := [.int (a 5)]) (h1 := mV C u (fu (thA a) 7 (nI (n - g + 1))) b (fu V (n - g) (V 10)) M R) (by
        have e : fu (thA a) 7 (nI (n - g + 1)) = fu (fu (thA a) 7 (nI (n - g))) 7 (nI (n - g + 1)) := fu_fu.symm
        rw [e]
        rfl) ?_
      exact zR_e rfl rfl rfl rfl rfl rfl
  · have h8 : n - g = 8 := by
      rcases Decidable.em (n - g = 8) with h9 | h9
      · exact h9
      · exact absurd (fun h7 => h9 ((nI_eq (by omega) (by omega)).mp h7)) h
    rw [if_pos h8, if_pos h8, if_pos h8]
    refine zR_to 27 (h1 := mV C u (fu a 5 1) b V M R) rfl ?_
    refine zR_v rfl rfl rfl rfl rfl ⟨rfl, Nat.le_of_ble_eq_true rfl, Nat.le_of_ble_eq_true rfl⟩ rfl (Nat.le_refl _) e_Mo_throwing rfl rfl ?_
    cases ht : thB (fu a 5 1) with
    | true =>
      refine zR_to 34 rfl ?_
      exact zR_e rfl rfl rfl rfl rfl rfl
    | false =>
      refine zR_to 43 (st' := [.int 1]) rfl ?_
      exact zR_e rfl rfl rfl rfl rfl rfl
end ST
end
section
def costN (n : Nat) : Nat := if n < 2 then 8 else if n = 2 then 12 else if n < 5 then 20 else if n < 8 then 6 else 2
def rkS (v : RV) : Int := if rk v = 0 then 0 else if rk v = 1 then 1 else 2
def rankZ (v : RV) : Int := if rn v then - rkS v else rkS v
theorem rankZ_rng (v : RV) : -2 ≤ rankZ v ∧ rankZ v ≤ 2 := by
  unfold rankZ rkS
  repeat' split
  all_goals omega
def cmC (x y : RV) : Int := if zr x = zr y then cmpZ (rs x) (rs y) else zr x - zr y
def cmpR (x y : RV) : Int32 := if eit x y 3 then 3 else if rankZ x ≠ rankZ y then (if rankZ y < rankZ x then 0 else 1) else if rk x ≠ 1 then 2
  else if cmC x y = 0 then 2 else if decide (0 < cmC x y) ≠ rn x then 0 else 1
section CM
variable {L : Nat} {xs : Nat → Int32} {d : Nat} {mi : ZM} {pc : Nat} {lv : zL} {st st' : List Value} {h h' : zH} {k k' : Nat} {o : zO} {pc' : Nat}
variable {C : Nat → zC} {u : zC} {a : Nat → Int32} {b : Nat → Int64} {M : Nat → Int64} {R : Nat → Nat} {V : Nat → RV}
theorem e_Mo_cost {n : Nat} (hn : n < 16) : zE L xs d m_Mo_cost [.int (nI n)] h (.inl (some (.int (nI (costN n))))) h := by
  match n, hn with
  | 0, _ => exact zE_m (n := 20) rfl (Nat.le_refl _)
  | 1, _ => exact zE_m (n := 20) rfl (Nat.le_refl _)
  | 2, _ => exact zE_m (n := 20) rfl (Nat.le_refl _)
  | 3, _ => exact zE_m (n := 20) rfl (Nat.le_refl _)
  | 4, _ => exact zE_m (n := 20) rfl (Nat.le_refl _)
  | 5, _ => exact zE_m (n := 20) rfl (Nat.le_refl _)
  | 6, _ => exact zE_m (n := 20) rfl (Nat.le_refl _)
  | 7, _ => exact zE_m (n := 20) rfl (Nat.le_refl _)
  | 8, _ => exact zE_m (n := 20) rfl (Nat.le_refl _)
  | 9, _ => exact zE_m (n := 20) rfl (Nat.le_refl _)
  | 10, _ => exact zE_m (n := 20) rfl (Nat.le_refl _)
  | 11, _ => exact zE_m (n := 20) rfl (Nat.le_refl _)
  | 12, _ => exact zE_m (n := 20) rfl (Nat.le_refl _)
  | 13, _ => exact zE_m (n := 20) rfl (Nat.le_refl _)
  | 14, _ => exact zE_m (n := 20) rfl (Nat.le_refl _)
  | 15, _ => exact zE_m (n := 20) rfl (Nat.le_refl _)
  | (m + 16), h => omega
theorem e_Mo_out {x y : Int32} : zE L xs d m_Mo_out [.int x, .int y] h (.inl (some (.int (bI (decide (x < 0 ∨ y ≤ x)))))) h := by
  refine ⟨0, Nat.zero_le _, ?_⟩
  refine zR_m 2 rfl ?_
  refine zR_if (fun h1 => ?_) (fun h1 => ?_)
  · rw [decide_eq_true (Or.inl h1)]
    refine zR_to 14 rfl ?_
    exact zR_e rfl rfl rfl rfl rfl rfl
  · refine zR_to 6 rfl ?_
    refine zR_m 1 rfl ?_
    refine zR_if (fun h2 => ?_) (fun h2 => ?_)
    · rw [decide_eq_false (fun h9 => by
        rcases h9 with h9 | h9
        · exact h1 h9
        · exact absurd h2 (Int32.not_lt.mpr h9))]
      refine zR_to 14 rfl ?_
      exact zR_e rfl rfl rfl rfl rfl rfl
    · rw [decide_eq_true (Or.inr (Int32.not_lt.mp h2))]
      refine zR_to 14 rfl ?_
      exact zR_e rfl rfl rfl rfl rfl rfl
set_option maxRecDepth 10000 in
theorem e_Mo_rank {j : Nat} (hj : j < 11) : zE L xs d m_Mo_rank [.ref 20, .int (nI j)] (mV C u a b V M R) (.inl (some (.int (iZ (rankZ (V j)))))) (mV C u a b V M R) := by
  have fin : zR L xs d m_Mo_rank 29 [(2, .int (iZ (rkS (V j)))), (0, .ref 20), (1, .int (nI j))] [] (mV C u a b V M R) 0 (.inl (some (.int (iZ (rankZ (V j)))))) (mV C u a b V M R) 0 := by
    refine zR_to 34 rfl ?_
    refine zB_get rfl rfl hj rfl ?_
    unfold rankZ
    show zR _ _ _ _ _ _ [Value.int (bI (rn (V j)))] _ _ _ _ _
    cases hn : rn (V j) with
    | true =>
      refine zR_to 44 (st' := [.int (- iZ (rkS (V j)))]) rfl ?_
      rw [iZ_neg]
      exact zR_e rfl rfl rfl rfl rfl rfl
    | false =>
      refine zR_to 44 (st' := [.int (iZ (rkS (V j)))]) rfl ?_
      exact zR_e rfl rfl rfl rfl rfl rfl
  refine ⟨0, Nat.zero_le _, ?_⟩
  refine zR_to 5 rfl ?_
  refine zK_get rfl rfl hj rfl ?_
  refine zR_m 1 rfl ?_
  refine zR_if (fun h0 => ?_) (fun h0 => ?_)
  · refine zR_to 18 rfl ?_
    refine zK_get rfl rfl hj rfl ?_
    refine zR_m 2 rfl ?_
    refine zR_if (fun h1 => ?_) (fun h1 => ?_)
    · have e : rkS (V j) = 2 := by unfold rkS; rw [if_neg (show ¬ rk (V j) = 0 from h0), if_neg (show ¬ rk (V j) = 1 from h1)]
      rw [e] at fin
      refine zR_to 29 rfl ?_
      exact zR_w fin rfl rfl ⟨rfl, rfl, rfl, trivial⟩
    · have e : rkS (V j) = 1 := by unfold rkS; rw [if_neg (show ¬ rk (V j) = 0 from h0), if_pos (show rk (V j) = 1 from Decidable.of_not_not h1)]
      rw [e] at fin
      refine zR_to 29 rfl ?_
      exact zR_w fin rfl rfl ⟨rfl, rfl, rfl, trivial⟩
  · have e : rkS (V j) = 0 := by unfold rkS; rw [if_pos (show rk (V j) = 0 from Decidable.of_not_not h0)]
    rw [e] at fin
    refine zR_to 29 rfl ?_
    exact zR_w fin rfl rfl ⟨rfl, rfl, rfl, trivial⟩
set_option maxRecDepth 10000 in
set_option maxHeartbeats 4000000 in
theorem e_Mo_compared (hx : vOk (V 8)) (hy : vOk (V 9)) (hR : Rok R) : zEr L xs (d + 2) m_Mo_compared [.ref 20] (mV C u a b V M R) (.inl (some (.int (cmpR (V 8) (V 9))))) C u (if eit (V 8) (V 9) 3 then nt a 1 else a) b V M := by
  have go : ∀ {o9 : zO} {h9 : zH}, zR L xs (d + 2) m_Mo_compared 5 [(0, .ref 20)] [.int (bI (eit (V 8) (V 9) 3))] (mV C u a b V M R) 0 o9 h9 0 → zE L xs (d + 2) m_Mo_compared [.ref 20] (mV C u a b V M R) o9 h9 := fun {o9 h9} hr => by
    refine ⟨0, Nat.zero_le _, ?_⟩
    refine zR_to 2 rfl ?_
    exact zR_v rfl rfl rfl rfl rfl ⟨rfl, Nat.le_of_ble_eq_true rfl, Nat.le_of_ble_eq_true rfl⟩ rfl (Nat.le_refl _) e_Mo_either rfl rfl hr
  have r8 := rankZ_rng (V 8)
  have r9 := rankZ_rng (V 9)
  unfold cmpR
  cases h3 : eit (V 8) (V 9) 3 with
  | true =>
    rw [if_pos rfl, if_pos rfl]
    refine ⟨R, hR, go ?_⟩
    rw [h3]
    refine zR_to 19 (h1 := mV C u (nt a 1) b V M R) rfl ?_
    exact zR_e rfl rfl rfl rfl rfl rfl
  | false =>
    rw [if_neg (show ¬ (false = true) by decide), if_neg (show ¬ (false = true) by decide)]
    have go2 : ∀ {o9 : zO} {h9 : zH}, zR L xs (d + 2) m_Mo_compared 32 [(0, .ref 20)] [.int (iZ (rankZ (V 9))), .int (iZ (rankZ (V 8)))] (mV C u a b V M R) 0 o9 h9 0 → zE L xs (d + 2) m_Mo_compared [.ref 20] (mV C u a b V M R) o9 h9 := fun {o9 h9} hr => by
      refine go ?_
      rw [h3]
      refine zR_to 23 (st' := [.int (nI 8), .ref 20]) rfl ?_
      refine zR_v rfl rfl rfl rfl rfl ⟨rfl, Nat.le_of_ble_eq_true rfl, Nat.le_of_ble_eq_true rfl⟩ rfl (Nat.le_refl _) (e_Mo_rank (j := 8) (by decide)) rfl rfl ?_
      refine zR_to 29 (st' := [.int (nI 9), .ref 20, .int (iZ (rankZ (V 8)))]) rfl ?_
      exact zR_v rfl rfl rfl rfl rfl ⟨rfl, Nat.le_of_ble_eq_true rfl, Nat.le_of_ble_eq_true rfl⟩ rfl (Nat.le_refl _) (e_Mo_rank (j := 9) (by decide)) rfl rfl hr
    by_cases hrk : rankZ (V 8) = rankZ (V 9)
    · rw [if_neg (fun h9 => h9 hrk)]
      have go3 : ∀ {o9 : zO} {h9 : zH}, zR L xs (d + 2) m_Mo_compared 64 [(0, .ref 20)] [.int 1, .int (rk (V 8))] (mV C u a b V M R) 0 o9 h9 0 → zE L xs (d + 2) m_Mo_compared [.ref 20] (mV C u a b V M R) o9 h9 := fun {o9 h9} hr => by
        refine go2 ?_
        refine zR_m 1 rfl ?_
        refine zR_if (fun _ => zR_to 64 rfl hr) (fun h => absurd (by rw [hrk]) h)
      by_cases h81 : rk (V 8) = 1
      · rw [if_neg (fun h9 => h9 h81)]
        have h91 : rk (V 9) = 1 := by
          obtain ⟨a1, a2⟩ := eit_f h3
          unfold rankZ rkS at hrk
          rw [h81] at hrk
          rcases hy.1 with h | h | h | h
          · rw [h] at hrk
            exfalso
            revert hrk
            cases rn (V 8) <;> cases rn (V 9) <;> decide
          · exact h
          · rw [h] at hrk
            exfalso
            revert hrk
            cases rn (V 8) <;> cases rn (V 9) <;> decide
          · exact absurd h a2
        obtain ⟨x1, x2, x3⟩ := hx.2.1 h81
        obtain ⟨y1, y2, y3⟩ := hy.2.1 h91
        have hR1 : Rok (fu R 0 (rs (V 8))) := hR.fu (uN_rok _)
        have hR2 : Rok (fu (fu R 0 (rs (V 8))) 1 (rs (V 9))) := hR1.fu (uN_rok _)
        have hcr := cmpZ_rng (rs (V 8)) (rs (V 9))
        have hcm : -40000 ≤ cmC (V 8) (V 9) ∧ cmC (V 8) (V 9) ≤ 40000 := by
          unfold cmC
          split <;> omega
        refine ⟨fu (fu R 0 (rs (V 8))) 1 (rs (V 9)), hR2, go3 ?_⟩
        rw [h81]
        refine zR_to 78 (st' := [.long (V 8).2.2.2, .int (nI 0), .ref 20]) rfl ?_
        refine zR_v rfl rfl rfl rfl rfl ⟨rfl, Nat.le_of_ble_eq_true rfl, Nat.le_of_ble_eq_true rfl⟩ rfl (Nat.le_refl _) (e_Mo_putU (r := 0) (by decide) hR) rfl rfl ?_
        refine zR_to 90 (st' := [.long (V 9).2.2.2, .int (nI 1), .ref 20]) rfl ?_
        refine zR_v rfl rfl rfl rfl rfl ⟨rfl, Nat.le_of_ble_eq_true rfl, Nat.le_of_ble_eq_true rfl⟩ rfl (Nat.le_refl _) (e_Mo_putU (r := 1) (by decide) hR1) rfl rfl ?_
        -- the sign of the comparison
        have fin : zR L xs (d + 2) m_Mo_compared 134 [(0, .ref 20)] [.int (iZ (cmC (V 8) (V 9)))] (mV C u a b V M (fu (fu R 0 (rs (V 8))) 1 (rs (V 9)))) 0 (.inl (some (.int (if cmC (V 8) (V 9) = 0 then 2 else if decide (0 < cmC (V 8) (V 9)) ≠ rn (V 8) then 0 else 1)))) (mV C u a b V M (fu (fu R 0 (rs (V 8))) 1 (rs (V 9)))) 0 := by
          generalize cmC (V 8) (V 9) = c at *
          refine zR_m 3 rfl ?_
          refine zR_if (fun h => ?_) (fun h => ?_)
          · have hc0 : ¬ c = 0 := fun h9 => h (by rw [h9]; rfl)
            rw [if_neg hc0]
            refine zR_m 2 rfl ?_
            have tail : ∀ x : Bool, decide (0 < c) = x → ∀ z : zL, zR L xs (d + 2) m_Mo_compared 150 [(0, .ref 20)] [.int (bI x)] (mV C u a b V M (fu (fu R 0 (rs (V 8))) 1 (rs (V 9)))) 0 (.inl (some (.int (if decide (0 < c) ≠ rn (V 8) then 0 else 1)))) (mV C u a b V M (fu (fu R 0 (rs (V 8))) 1 (rs (V 9)))) 0 := by
              intro x hx9 _
              rw [hx9]
              refine zR_to 157 (st' := [.int (bI (rn (V 8))), .int (bI x)]) rfl ?_
              refine zR_m 1 rfl ?_
              refine zR_if (fun h5 => ?_) (fun h5 => ?_)
              · rw [if_neg (fun h9 => h9 (bI_eq.mp h5))]
                refine zR_to 165 rfl ?_
                exact zR_e rfl rfl rfl rfl rfl rfl
              · rw [if_pos (fun h9 => h5 (bI_eq.mpr h9))]
                refine zR_to 165 rfl ?_
                exact zR_e rfl rfl rfl rfl rfl rfl
            refine zR_if (fun h2 => ?_) (fun h2 => ?_)
            · have h6 := (iZ_le (y := 0) (by omega) (by omega)).mp h2
              refine zR_to 150 (st' := [.int (bI false)]) rfl ?_
              exact zR_w (tail false (decide_eq_false (by omega)) []) rfl rfl ⟨rfl, trivial⟩
            · have h6 : ¬ c ≤ 0 := fun h9 => h2 ((iZ_le (y := 0) (by omega) (by omega)).mpr h9)
              refine zR_to 150 (st' := [.int (bI true)]) rfl ?_
              exact zR_w (tail true (decide_eq_true (by omega)) []) rfl rfl ⟨rfl, trivial⟩
          · have hc0 : c = 0 := by
              rcases Decidable.em (c = 0) with h9 | h9
              · exact h9
              · exact absurd (fun h7 => h9 ((iZ_eq (y := 0) (by omega) (by omega)).mp h7)) h
            rw [if_pos hc0]
            refine zR_to 140 rfl ?_
            exact zR_e rfl rfl rfl rfl rfl rfl
        refine zR_to 107 (st' := [.int (re (V 9)), .int (re (V 8))]) rfl ?_
        refine zR_m 1 rfl ?_
        refine zR_if (fun h => ?_) (fun h => ?_)
        · have hz : zr (V 8) = zr (V 9) := congrArg Int32.toInt h
          have e : cmC (V 8) (V 9) = cmpZ (rs (V 8)) (rs (V 9)) := by unfold cmC; rw [if_pos hz]
          rw [e] at fin ⊢
          refine zR_to 131 rfl ?_
          refine zR_v rfl rfl rfl rfl rfl ⟨rfl, Nat.le_of_ble_eq_true rfl, Nat.le_of_ble_eq_true rfl⟩ rfl (Nat.le_refl _) (e_Mo_compareRows (p := 0) (q := 1) (by decide) (by decide) hR2) rfl rfl ?_
          rw [fu_s, fu_n (show (0 : Nat) ≠ 1 by decide), fu_s]
          exact fin
        · have hz : ¬ zr (V 8) = zr (V 9) := fun h9 => h (by
            show re (V 8) = re (V 9)
            rw [re_zr (V 8), re_zr (V 9), h9])
          have e : cmC (V 8) (V 9) = zr (V 8) - zr (V 9) := by unfold cmC; rw [if_neg hz]
          rw [e] at fin ⊢
          refine zR_to 125 (st' := [.int (re (V 8) - re (V 9))]) rfl ?_
          rw [re_zr (V 8), re_zr (V 9), iZ_sub]
          exact zR_to 134 rfl fin
      · rw [if_pos h81]
        refine ⟨R, hR, go3 ?_⟩
        refine zR_m 1 rfl ?_
        refine zR_if (fun h => absurd h h81) (fun _ => ?_)
        refine zR_to 68 rfl ?_
        exact zR_e rfl rfl rfl rfl rfl rfl
    · rw [if_pos hrk]
      refine ⟨R, hR, go2 ?_⟩
      refine zR_m 1 rfl ?_
      refine zR_if (fun h => absurd ((iZ_eq (by omega) (by omega)).mp h) hrk) (fun _ => ?_)
      refine zR_to 38 (st' := [.int (nI 8), .ref 20]) rfl ?_
      refine zR_v rfl rfl rfl rfl rfl ⟨rfl, Nat.le_of_ble_eq_true rfl, Nat.le_of_ble_eq_true rfl⟩ rfl (Nat.le_refl _) (e_Mo_rank (j := 8) (by decide)) rfl rfl ?_
      refine zR_to 44 (st' := [.int (nI 9), .ref 20, .int (iZ (rankZ (V 8)))]) rfl ?_
      refine zR_v rfl rfl rfl rfl rfl ⟨rfl, Nat.le_of_ble_eq_true rfl, Nat.le_of_ble_eq_true rfl⟩ rfl (Nat.le_refl _) (e_Mo_rank (j := 9) (by decide)) rfl rfl ?_
      refine zR_m 1 rfl ?_
      refine zR_if (fun h => ?_) (fun h => ?_)
      · have h1 := (iZ_le (by omega) (by omega)).mp h
        rw [if_neg (show ¬ rankZ (V 9) < rankZ (V 8) by omega)]
        refine zR_to 55 rfl ?_
        exact zR_e rfl rfl rfl rfl rfl rfl
      · have h1 : ¬ rankZ (V 8) ≤ rankZ (V 9) := fun h9 => h ((iZ_le (by omega) (by omega)).mpr h9)
        rw [if_pos (show rankZ (V 9) < rankZ (V 8) by omega)]
        refine zR_to 55 rfl ?_
        exact zR_e rfl rfl rfl rfl rfl rfl
end CM
end
section
/-! scaled -/
def scK (y : RV) : Nat := (63 - zr y).toNat
def scN (y : RV) : Nat := if rk y = 1 then rs y / 2 ^ scK y else 0
def scOk (y : RV) : Prop := rk y = 0 ∨ (rk y = 1 ∧ (0 ≤ zr y ∧ zr y < 16) ∧ rs y / 2 ^ scK y ≤ 40000 ∧ rs y / 2 ^ scK y * 2 ^ scK y = rs y)
def scQ (x y : RV) : Int := zr x - 63 + (if rn y then -(scN y : Int) else (scN y : Int))
section SC
variable {L : Nat} {xs : Nat → Int32} {d : Nat} {mi : ZM} {pc : Nat} {lv : zL} {st st' : List Value} {h h' : zH} {k k' : Nat} {o : zO} {pc' : Nat}
variable {C : Nat → zC} {u : zC} {a : Nat → Int32} {b : Nat → Int64} {M : Nat → Int64} {R : Nat → Nat} {V : Nat → RV}
theorem lN_eq64 {x y : Nat} (hx : x < 2 ^ 64) (hy : y < 2 ^ 64) : lN x = lN y ↔ x = y := by
  constructor
  · intro h
    have := congrArg (fun z : Int64 => z.toBitVec.toNat) h
    simp only [wb_tn hx, wb_tn hy] at this
    exact this
  · intro h
    rw [h]
theorem sc_n {s k : Nat} (hs : s < 2 ^ 64) (hk : k < 64) : ((lN s).toUInt64 >>> ((nI k).toInt64.toUInt64 &&& Int64.toUInt64 63)).toInt64.toInt32 = nI (s / 2 ^ k) := by
  rw [wb_shr hs hk, lN_i]
theorem sc_b {n k : Nat} (hn : n < 2 ^ 31) (hk : k < 64) : (nI n).toInt64 <<< ((nI k).toInt64 &&& 63) = lN (n * 2 ^ k) := by
  rw [nI_l hn, wb_shl n hk]
theorem sc_k {e : Int} (h1 : 0 ≤ e) (h2 : e < 16) : (iZ 63 - iZ e) = nI (63 - e).toNat := by
  rw [iZ_sub, ← iZ_nat]
  congr 1
  omega
set_option maxRecDepth 10000 in
/-- from the answer on whether the scale is good -/
theorem f_Mo_scaled {p w n : Nat} (hc : cOk a p w) (hx : vOk (V 8)) (hR : Rok R) (hn : n ≤ 40000) : ∃ R', Rok R' ∧ zR L xs (d + 5) m_Mo_scaled 137 [(1, .int (bI true)), (2, .int (nI n)), (0, .ref 20)] [] (mV C u a b V M R) 0 (.inl none)
    (mV C u (nt a (if rk (V 8) = 1 then rNt w (rn (V 8)) (rs (V 8)) p 16383 (zr (V 8) - 63 + (if rn (V 9) then -(n : Int) else (n : Int))) else 0)) b (fu V 10 (if rk (V 8) = 1 then rVal w (rn (V 8)) (rs (V 8)) p 16383 (zr (V 8) - 63 + (if rn (V 9) then -(n : Int) else (n : Int))) else V 8)) M R') 0 := by
  by_cases h8 : rk (V 8) = 1
  · rw [if_pos h8, if_pos h8]
    obtain ⟨x1, x2, x3⟩ := hx.2.1 h8
    have hX : rs (V 8) ≠ 0 := by omega
    have h64 := nb64 x1 (uN_lt2 _)
    refine ⟨_, rok_round (w := w) (mb := rn (V 8)) hX hc.2.2.1 (hR.fu (uN_rok _) : Rok (fu R 0 (rs (V 8)))), ?_⟩
    refine zR_to 156 (st' := [.int 1, .int (rk (V 8))]) rfl ?_
    rw [h8]
    refine zR_to 179 (st' := [.long (V 8).2.2.2, .int (nI 0), .ref 20]) rfl ?_
    refine zR_v rfl rfl rfl rfl rfl ⟨rfl, Nat.le_of_ble_eq_true rfl, Nat.le_of_ble_eq_true rfl⟩ rfl (Nat.le_refl _) (e_Mo_putU (r := 0) (by decide) hR) rfl rfl ?_
    refine zR_to 207 (st' := [.int (bI (rn (V 9))), .int (re (V 8) - iZ 63), .int (bI (rn (V 8))), .ref 20]) rfl ?_
    rw [re_zr (V 8), iZ_sub]
    have fin : ∀ z : Int, -40000 ≤ z ∧ z ≤ 40000 → zR L xs (d + 5) m_Mo_scaled 217 [(0, .ref 20)] [.int (iZ (zr (V 8) - 63 + z)), .int (bI (rn (V 8))), .ref 20] (mV C u a b V M (fu R 0 (rs (V 8)))) 0 (.inl none) (mV C u (nt a (rNt w (rn (V 8)) (rs (V 8)) p 16383 (zr (V 8) - 63 + z))) b (fu V 10 (rVal w (rn (V 8)) (rs (V 8)) p 16383 (zr (V 8) - 63 + z))) M (fu (fu (fu R 0 (rs (V 8))) 1 (rK1 w (rn (V 8)) (rs (V 8)) p)) 2 (rSg (rK1 w (rn (V 8)) (rs (V 8)) p)))) 0 := by
      intro z hz
      refine zR_v rfl rfl rfl rfl rfl ⟨rfl, Nat.le_of_ble_eq_true rfl, Nat.le_of_ble_eq_true rfl⟩ rfl (Nat.le_refl _) (e_Mo_result (X := rs (V 8)) hc (by omega) hX (by omega) (hR.fu (uN_rok _)) fu_s) rfl rfl ?_
      exact zR_e rfl rfl rfl rfl rfl rfl
    cases h9 : rn (V 9) with
    | true =>
      rw [if_pos rfl]
      refine zR_to 216 (st' := [.int (- nI n), .int (iZ (zr (V 8) - 63)), .int (bI (rn (V 8))), .ref 20]) rfl ?_
      rw [← iZ_nat, iZ_neg]
      refine zR_to 217 (st' := [.int (iZ (zr (V 8) - 63) + iZ (-(n : Int))), .int (bI (rn (V 8))), .ref 20]) rfl ?_
      rw [iZ_add]
      exact zR_w (fin _ (by omega)) rfl rfl ⟨rfl, trivial⟩
    | false =>
      rw [if_neg (by decide)]
      refine zR_to 216 (st' := [.int (nI n), .int (iZ (zr (V 8) - 63)), .int (bI (rn (V 8))), .ref 20]) rfl ?_
      rw [← iZ_nat]
      refine zR_to 217 (st' := [.int (iZ (zr (V 8) - 63) + iZ (n : Int)), .int (bI (rn (V 8))), .ref 20]) rfl ?_
      rw [iZ_add]
      exact zR_w (fin _ (by omega)) rfl rfl ⟨rfl, trivial⟩
  · rw [if_neg h8, if_neg h8, nt_0]
    refine ⟨R, hR, ?_⟩
    refine zR_to 156 (st' := [.int 1, .int (rk (V 8))]) rfl ?_
    refine zR_m 1 rfl ?_
    refine zR_if (fun h => absurd h h8) (fun _ => ?_)
    refine zR_to 164 (st' := [.int (nI 10), .int (nI 8), .ref 20]) rfl ?_
    refine zR_v rfl rfl rfl rfl rfl ⟨rfl, Nat.le_of_ble_eq_true rfl, Nat.le_of_ble_eq_true rfl⟩ rfl (Nat.le_refl _) (e_Mo_copy (f := 8) (t := 10) (by decide) (by decide)) rfl rfl ?_
    refine zR_to 220 rfl ?_
    exact zR_e rfl rfl rfl rfl rfl rfl
end SC
end
section
section SC
variable {L : Nat} {xs : Nat → Int32} {d : Nat} {mi : ZM} {pc : Nat} {lv : zL} {st st' : List Value} {h h' : zH} {k k' : Nat} {o : zO} {pc' : Nat}
variable {C : Nat → zC} {u : zC} {a : Nat → Int32} {b : Nat → Int64} {M : Nat → Int64} {R : Nat → Nat} {V : Nat → RV}
/-- x scaled by the power n (signed as y is) -/
def sclN (w p n : Nat) (x y : RV) : RV × Int32 := if rk x = 1 then (rVal w (rn x) (rs x) p 16383 (zr x - 63 + (if rn y then -(n : Int) else (n : Int))), rNt w (rn x) (rs x) p 16383 (zr x - 63 + (if rn y then -(n : Int) else (n : Int)))) else (x, 0)
/-- a finite scale of whole magnitude -/
def scFin (y : RV) : Prop := rk y = 1 ∧ (0 ≤ zr y ∧ zr y < 16) ∧ rs y / 2 ^ scK y ≤ 40000 ∧ rs y / 2 ^ scK y * 2 ^ scK y = rs y
theorem sclN_1 (w p n : Nat) (x y : RV) : (sclN w p n x y).1 = (if rk x = 1 then rVal w (rn x) (rs x) p 16383 (zr x - 63 + (if rn y then -(n : Int) else (n : Int))) else x) ∧ (sclN w p n x y).2 = (if rk x = 1 then rNt w (rn x) (rs x) p 16383 (zr x - 63 + (if rn y then -(n : Int) else (n : Int))) else 0) := by
  unfold sclN
  split <;> exact ⟨rfl, rfl⟩
set_option maxRecDepth 10000 in
set_option maxHeartbeats 4000000 in
theorem e_Mo_scaled {p w : Nat} {r9 : RV × Int32} (hc : cOk a p w) (hx : vOk (V 8)) (hR : Rok R)
    (h3r : eit (V 8) (V 9) 3 = true → r9 = (vNan, 0)) (h0r : eit (V 8) (V 9) 3 = false → rk (V 9) = 0 → r9 = sclN w p 0 (V 8) (V 9)) (h1r : eit (V 8) (V 9) 3 = false → scFin (V 9) → r9 = sclN w p (rs (V 9) / 2 ^ scK (V 9)) (V 8) (V 9)) (hbr : eit (V 8) (V 9) 3 = false → rk (V 9) ≠ 0 → ¬ scFin (V 9) → r9 = (vNan, 1)) :
    zEr L xs (d + 5) m_Mo_scaled [.ref 20] (mV C u a b V M R) (.inl none) C u (nt a r9.2) b (fu V 10 r9.1) M := by
  have go : ∀ {h9 : zH}, zR L xs (d + 5) m_Mo_scaled 5 [(0, .ref 20)] [.int (bI (eit (V 8) (V 9) 3))] (mV C u a b V M R) 0 (.inl none) h9 0 → zE L xs (d + 5) m_Mo_scaled [.ref 20] (mV C u a b V M R) (.inl none) h9 := fun {h9} hr => by
    refine ⟨0, Nat.zero_le _, ?_⟩
    refine zR_to 2 rfl ?_
    exact zR_v rfl rfl rfl rfl rfl ⟨rfl, Nat.le_of_ble_eq_true rfl, Nat.le_of_ble_eq_true rfl⟩ rfl (Nat.le_refl _) e_Mo_either rfl rfl hr
  cases h3 : eit (V 8) (V 9) 3 with
  | true =>
    rw [h3r h3, nt_0]
    refine ⟨R, hR, go ?_⟩
    rw [h3]
    refine zR_to 11 (st' := [.int (bI false), .int 3, .ref 20]) rfl ?_
    refine zR_v rfl rfl rfl rfl rfl ⟨rfl, Nat.le_of_ble_eq_true rfl, Nat.le_of_ble_eq_true rfl⟩ rfl (Nat.le_refl _) e_Mo_special rfl rfl ?_
    exact zR_e rfl rfl rfl rfl rfl rfl
  | false =>
    have go2 : ∀ {h9 : zH}, zR L xs (d + 5) m_Mo_scaled 22 [(0, .ref 20)] [.int (rk (V 9))] (mV C u a b V M R) 0 (.inl none) h9 0 → zE L xs (d + 5) m_Mo_scaled [.ref 20] (mV C u a b V M R) (.inl none) h9 := fun {h9} hr => by
      refine go ?_
      rw [h3]
      exact zR_to 22 rfl hr
    have bad : ∀ z : Int32, zR L xs (d + 5) m_Mo_scaled 137 [(1, .int (bI false)), (2, .int z), (0, .ref 20)] [] (mV C u a b V M R) 0 (.inl none) (mV C u (nt a 1) b (fu V 10 vNan) M R) 0 := by
      intro z
      refine zR_to 142 rfl ?_
      refine zR_v rfl rfl rfl rfl rfl ⟨rfl, Nat.le_of_ble_eq_true rfl, Nat.le_of_ble_eq_true rfl⟩ rfl (Nat.le_refl _) e_Mo_invalid rfl rfl ?_
      refine zR_to 220 rfl ?_
      exact zR_e rfl rfl rfl rfl rfl rfl
    by_cases h0 : rk (V 9) = 0
    · rw [h0r h3 h0]
      obtain ⟨R', hR', hgo⟩ := f_Mo_scaled (L := L) (xs := xs) (d := d) (C := C) (u := u) (a := a) (b := b) (V := V) (M := M) (R := R) (p := p) (w := w) (n := 0) hc hx hR (by decide)
      rw [← (sclN_1 w p 0 (V 8) (V 9)).1, ← (sclN_1 w p 0 (V 8) (V 9)).2] at hgo
      refine ⟨R', hR', go2 ?_⟩
      rw [h0]
      refine zR_to 78 (st' := [.int 1, .int (rk (V 9))]) rfl ?_
      rw [h0]
      refine zR_to 137 rfl ?_
      exact zR_w hgo rfl rfl ⟨rfl, rfl, rfl, trivial⟩
    · have go3 : ∀ {h9 : zH}, zR L xs (d + 5) m_Mo_scaled 33 [(0, .ref 20)] [.int 1, .int (rk (V 9))] (mV C u a b V M R) 0 (.inl none) h9 0 → zE L xs (d + 5) m_Mo_scaled [.ref 20] (mV C u a b V M R) (.inl none) h9 := fun {h9} hr => by
        refine go2 ?_
        refine zR_m 1 rfl ?_
        refine zR_if (fun h => absurd h h0) (fun _ => zR_to 33 rfl hr)
      have bad62 : zR L xs (d + 5) m_Mo_scaled 62 [(0, .ref 20)] [] (mV C u a b V M R) 0 (.inl none) (mV C u (nt a 1) b (fu V 10 vNan) M R) 0 := by
        refine zR_to 137 rfl ?_
        exact zR_w (bad 0) rfl rfl ⟨rfl, rfl, rfl, trivial⟩
      by_cases h1 : rk (V 9) = 1 ∧ (0 ≤ zr (V 9) ∧ zr (V 9) < 16)
      · obtain ⟨h91, he⟩ := h1
        have hr9 := iZ_rng (re (V 9))
        have hk : scK (V 9) < 64 ∧ 48 ≤ scK (V 9) := by unfold scK; omega
        have hsl : rs (V 9) < 2 ^ 64 := uN_lt2 _
        have hq : rs (V 9) / 2 ^ scK (V 9) < 2 ^ 16 := by
          apply Nat.div_lt_of_lt_mul
          rw [← Nat.pow_add]
          exact Nat.lt_of_lt_of_le hsl (Nat.pow_le_pow_right (by decide) (by omega))
        have hqk : rs (V 9) / 2 ^ scK (V 9) * 2 ^ scK (V 9) < 2 ^ 64 := Nat.lt_of_le_of_lt (Nat.div_mul_le_self _ _) hsl
        have go4 : ∀ {h9 : zH}, zR L xs (d + 5) m_Mo_scaled 101 [(2, .int (nI (rs (V 9) / 2 ^ scK (V 9)))), (1, .int (bI true)), (0, .ref 20)] [] (mV C u a b V M R) 0 (.inl none) h9 0 → zE L xs (d + 5) m_Mo_scaled [.ref 20] (mV C u a b V M R) (.inl none) h9 := fun {h9} hr => by
          refine go3 ?_
          rw [h91]
          refine zR_to 43 (st' := [.int (re (V 9))]) rfl ?_
          rw [re_zr (V 9)]
          refine zR_m 1 rfl ?_
          refine zR_if (fun h => ?_) (fun _ => ?_)
          · have := (iZ_lt (y := 0) (by omega) (by omega)).mp h
            omega
          refine zR_to 55 (st' := [.int (iZ 16), .int (re (V 9))]) rfl ?_
          rw [re_zr (V 9)]
          refine zR_m 1 rfl ?_
          refine zR_if (fun h => ?_) (fun _ => ?_)
          · have := (iZ_le (by omega) (by omega)).mp h
            omega
          refine zR_to 78 (st' := [.int 1, .int (rk (V 9))]) rfl ?_
          rw [h91]
          refine zR_to 98 (st' := [.int (iZ 63 - re (V 9)), .long (V 9).2.2.2]) rfl ?_
          rw [re_zr (V 9), sc_k he.1 he.2, ← lN_uN (V 9).2.2.2]
          refine zR_to 100 (st' := [.int ((lN (uN (V 9).2.2.2)).toUInt64 >>> ((nI (63 - zr (V 9)).toNat).toInt64.toUInt64 &&& Int64.toUInt64 63)).toInt64.toInt32]) rfl ?_
          rw [sc_n hsl (show (63 - zr (V 9)).toNat < 64 by omega)]
          refine zR_to 101 rfl ?_
          exact zR_w hr rfl rfl ⟨rfl, rfl, rfl, trivial⟩
        by_cases hl : rs (V 9) / 2 ^ scK (V 9) ≤ 40000
        · have go5 : ∀ {h9 : zH}, zR L xs (d + 5) m_Mo_scaled 128 [(2, .int (nI (rs (V 9) / 2 ^ scK (V 9)))), (1, .int (bI true)), (0, .ref 20)] [.int (lg_cmp (lN (rs (V 9) / 2 ^ scK (V 9) * 2 ^ scK (V 9))) (lN (rs (V 9))))] (mV C u a b V M R) 0 (.inl none) h9 0 → zE L xs (d + 5) m_Mo_scaled [.ref 20] (mV C u a b V M R) (.inl none) h9 := fun {h9} hr => by
            refine go4 ?_
            refine zR_to 104 (st' := [.int (nI 40000), .int (nI (rs (V 9) / 2 ^ scK (V 9)))]) rfl ?_
            refine zR_m 1 rfl ?_
            refine zR_if (fun h => absurd h (nI_nlt (a := 40000) (b := rs (V 9) / 2 ^ scK (V 9)) hl (by omega))) (fun _ => ?_)
            refine zR_to 119 (st' := [.int (iZ 63 - re (V 9)), .long (nI (rs (V 9) / 2 ^ scK (V 9))).toInt64]) rfl ?_
            rw [re_zr (V 9), sc_k he.1 he.2]
            refine zR_to 120 (st' := [.long ((nI (rs (V 9) / 2 ^ scK (V 9))).toInt64 <<< ((nI (63 - zr (V 9)).toNat).toInt64 &&& 63))]) rfl ?_
            rw [sc_b (by omega) (show (63 - zr (V 9)).toNat < 64 by omega)]
            refine zR_to 127 (st' := [.long (V 9).2.2.2, .long (lN (rs (V 9) / 2 ^ scK (V 9) * 2 ^ (63 - zr (V 9)).toNat))]) rfl ?_
            rw [← lN_uN (V 9).2.2.2]
            exact zR_to 128 rfl hr
          by_cases heq : rs (V 9) / 2 ^ scK (V 9) * 2 ^ scK (V 9) = rs (V 9)
          · rw [h1r h3 ⟨h91, he, hl, heq⟩]
            obtain ⟨R', hR', hgo⟩ := f_Mo_scaled (L := L) (xs := xs) (d := d) (C := C) (u := u) (a := a) (b := b) (V := V) (M := M) (R := R) (p := p) (w := w) (n := rs (V 9) / 2 ^ scK (V 9)) hc hx hR hl
            rw [← (sclN_1 w p (rs (V 9) / 2 ^ scK (V 9)) (V 8) (V 9)).1, ← (sclN_1 w p (rs (V 9) / 2 ^ scK (V 9)) (V 8) (V 9)).2] at hgo
            refine ⟨R', hR', go5 ?_⟩
            rw [(lg_cmp_eq _ _).mpr (by rw [heq])]
            refine zR_to 137 rfl ?_
            exact zR_w hgo rfl rfl ⟨rfl, rfl, rfl, trivial⟩
          · rw [hbr h3 h0 (fun h9 => heq h9.2.2.2)]
            refine ⟨R, hR, go5 ?_⟩
            refine zR_m 1 rfl ?_
            refine zR_if (fun _ => ?_) (fun h => absurd (fun h7 => heq ((lN_eq64 hqk hsl).mp ((lg_cmp_eq _ _).mp h7))) h)
            refine zR_to 137 rfl ?_
            exact zR_w (bad _) rfl rfl ⟨rfl, rfl, rfl, trivial⟩
        · rw [hbr h3 h0 (fun h9 => hl h9.2.2.1)]
          refine ⟨R, hR, go4 ?_⟩
          refine zR_to 104 (st' := [.int (nI 40000), .int (nI (rs (V 9) / 2 ^ scK (V 9)))]) rfl ?_
          refine zR_m 1 rfl ?_
          refine zR_if (fun _ => ?_) (fun h => absurd (nI_lt (a := 40000) (b := rs (V 9) / 2 ^ scK (V 9)) (by omega) (by omega)) h)
          refine zR_to 137 rfl ?_
          exact zR_w (bad _) rfl rfl ⟨rfl, rfl, rfl, trivial⟩
      · rw [hbr h3 h0 (fun h9 => h1 ⟨h9.1, h9.2.1⟩)]
        refine ⟨R, hR, go3 ?_⟩
        have hr9 := iZ_rng (re (V 9))
        have hzr : zr (V 9) = (re (V 9)).toInt := rfl
        refine zR_m 1 rfl ?_
        refine zR_if (fun _ => bad62) (fun h => ?_)
        have h91 : rk (V 9) = 1 := Decidable.of_not_not h
        refine zR_to 43 (st' := [.int (re (V 9))]) rfl ?_
        rw [re_zr (V 9)]
        refine zR_m 1 rfl ?_
        refine zR_if (fun _ => bad62) (fun h2 => ?_)
        have h4 : 0 ≤ zr (V 9) := by
          rcases Int.lt_or_le (zr (V 9)) 0 with h9 | h9
          · exact absurd ((iZ_lt (y := 0) (by omega) (by omega)).mpr h9) h2
          · exact h9
        refine zR_to 55 (st' := [.int (iZ 16), .int (re (V 9))]) rfl ?_
        rw [re_zr (V 9)]
        refine zR_m 1 rfl ?_
        refine zR_if (fun _ => bad62) (fun h5 => absurd ((iZ_le (by omega) (by omega)).mpr (by
          rcases Int.lt_or_le (zr (V 9)) 16 with h9 | h9
          · exact absurd ⟨h91, h4, h9⟩ h1
          · exact h9)) h5)
end SC
end
section
/-! reckon: the four operations on two reals -/
def negR (v : RV) : RV := (rk v, decide (rk v ≠ 3) && !rn v, re v, v.2.2.2)
theorem negR_ok {v : RV} (h : vOk v) : vOk (negR v) := by
  obtain ⟨h1, h2, h3, h4⟩ := h
  refine ⟨h1, h2, h3, fun h5 => ?_⟩
  show (decide (rk v ≠ 3) && !rn v) = false
  rw [decide_eq_false (fun h9 => h9 h5)]
  rfl
def reckR (w p op : Nat) (x y : RV) : RV × Int32 := if op = 0 then sumR w p x y else if op = 1 then sumR w p (negR x) y else if op = 2 then mulR w p x y else divR w p y x
section RC
variable {L : Nat} {xs : Nat → Int32} {d : Nat} {mi : ZM} {pc : Nat} {lv : zL} {st st' : List Value} {h h' : zH} {k k' : Nat} {o : zO} {pc' : Nat}
variable {C : Nat → zC} {u : zC} {a : Nat → Int32} {b : Nat → Int64} {M : Nat → Int64} {R : Nat → Nat} {V : Nat → RV}
set_option maxRecDepth 10000 in
theorem e_Mo_reckon0 {p w : Nat} (hc : cOk a p w) (hx : vOk (V 8)) (hy : vOk (V 9)) (hR : Rok R) : ∃ R' V', Rok R' ∧ V' 10 = (sumR w p (V 8) (V 9)).1 ∧ (∀ i, i < 8 → V' i = V i) ∧ zE L xs (d + 7) m_Mo_reckon [.ref 20, .int (nI 0)] (mV C u a b V M R) (.inl none) (mV C u (nt a (sumR w p (V 8) (V 9)).2) b V' M R') := by
  obtain ⟨R', hR', hgo⟩ := e_Mo_sum (L := L) (xs := xs) (d := d) (C := C) (u := u) (a := a) (b := b) (V := V) (M := M) (R := R) hc hx hy hR
  refine ⟨R', fu V 10 (sumR w p (V 8) (V 9)).1, hR', fu_s, fun i hi => fu_n (by omega), 0, Nat.zero_le _, ?_⟩
  refine zR_to 44 rfl ?_
  refine zR_v rfl rfl rfl rfl rfl ⟨rfl, Nat.le_of_ble_eq_true rfl, Nat.le_of_ble_eq_true rfl⟩ rfl (Nat.le_refl _) hgo rfl rfl ?_
  refine zR_to 61 rfl ?_
  exact zR_e rfl rfl rfl rfl rfl rfl
set_option maxRecDepth 10000 in
theorem e_Mo_reckon1 {p w : Nat} (hc : cOk a p w) (hx : vOk (V 8)) (hy : vOk (V 9)) (hR : Rok R) : ∃ R' V', Rok R' ∧ V' 10 = (sumR w p (negR (V 8)) (V 9)).1 ∧ (∀ i, i < 8 → V' i = V i) ∧ zE L xs (d + 7) m_Mo_reckon [.ref 20, .int (nI 1)] (mV C u a b V M R) (.inl none) (mV C u (nt a (sumR w p (negR (V 8)) (V 9)).2) b V' M R') := by
  obtain ⟨R', hR', hgo⟩ := e_Mo_sum (L := L) (xs := xs) (d := d) (C := C) (u := u) (a := a) (b := b) (V := fu V 8 (negR (V 8))) (M := M) (R := R) hc (by rw [fu_s]; exact negR_ok hx) (by rw [fu_n (by decide)]; exact hy) hR
  rw [fu_s, fu_n (show (9 : Nat) ≠ 8 by decide)] at hgo
  refine ⟨R', fu (fu V 8 (negR (V 8))) 10 (sumR w p (negR (V 8)) (V 9)).1, hR', fu_s, fun i hi => by rw [fu_n (by omega), fu_n (by omega)], 0, Nat.zero_le _, ?_⟩
  have fin : ∀ x : Bool, (decide (rk (V 8) ≠ 3) && !rn (V 8)) = x → zR L xs (d + 7) m_Mo_reckon 37 [(0, .ref 20), (1, .int (nI 1))] [.int (bI x), .int (nI 8), .ref 22] (mV C u a b V M R) 0 (.inl none) (mV C u (nt a (sumR w p (negR (V 8)) (V 9)).2) b (fu (fu V 8 (negR (V 8))) 10 (sumR w p (negR (V 8)) (V 9)).1) M R') 0 := by
    intro x hx9
    refine zB_put rfl rfl (by decide) rfl ?_
    have e : mH C u a b (fun i => (V i).1) (fu (fun i => (V i).2.1) 8 x) (fun i => (V i).2.2.1) (fun i => (V i).2.2.2) M R = mV C u a b (fu V 8 (negR (V 8))) M R := by
      have h9 := mV_fu (C := C) (u := u) (a := a) (b := b) (V := V) (M := M) (R := R) (n := 8) (k9 := (V 8).1) (b9 := x) (e9 := (V 8).2.2.1) (s9 := (V 8).2.2.2)
      rw [fu_self (f := fun i => (V i).1) rfl, fu_self (f := fun i => (V i).2.2.1) rfl, fu_self (f := fun i => (V i).2.2.2) rfl] at h9
      rw [h9]
      unfold negR
      rw [hx9]
    rw [e]
    refine zR_to 44 rfl ?_
    refine zR_v rfl rfl rfl rfl rfl ⟨rfl, Nat.le_of_ble_eq_true rfl, Nat.le_of_ble_eq_true rfl⟩ rfl (Nat.le_refl _) hgo rfl rfl ?_
    refine zR_to 61 rfl ?_
    exact zR_e rfl rfl rfl rfl rfl rfl
  refine zR_to 19 (st' := [.int 3, .int (rk (V 8)), .int (nI 8), .ref 22]) rfl ?_
  refine zR_m 1 rfl ?_
  refine zR_if (fun h => ?_) (fun h => ?_)
  · refine zR_to 37 rfl (fin false ?_)
    rw [decide_eq_false (show ¬ rk (V 8) ≠ 3 from fun h9 => h9 h)]
    rfl
  · refine zR_to 29 (st' := [.int (bI (rn (V 8))), .int (nI 8), .ref 22]) rfl ?_
    have h9 : (decide (rk (V 8) ≠ 3) && !rn (V 8)) = !rn (V 8) := by
      rw [decide_eq_true (show rk (V 8) ≠ 3 from h)]
      rfl
    cases hn : rn (V 8) with
    | true => exact zR_to 37 rfl (fin false (by rw [h9, hn]; rfl))
    | false => exact zR_to 37 rfl (fin true (by rw [h9, hn]; rfl))
set_option maxRecDepth 10000 in
theorem e_Mo_reckon2 {p w : Nat} (hc : cOk a p w) (hx : vOk (V 8)) (hy : vOk (V 9)) (hR : Rok R) : ∃ R' V', Rok R' ∧ V' 10 = (mulR w p (V 8) (V 9)).1 ∧ (∀ i, i < 8 → V' i = V i) ∧ zE L xs (d + 7) m_Mo_reckon [.ref 20, .int (nI 2)] (mV C u a b V M R) (.inl none) (mV C u (nt a (mulR w p (V 8) (V 9)).2) b V' M R') := by
  obtain ⟨R', hR', hgo⟩ := e_Mo_product (L := L) (xs := xs) (d := d) (C := C) (u := u) (a := a) (b := b) (V := V) (M := M) (R := R) hc hx hy hR
  refine ⟨R', fu V 10 (mulR w p (V 8) (V 9)).1, hR', fu_s, fun i hi => fu_n (by omega), 0, Nat.zero_le _, ?_⟩
  refine zR_to 53 rfl ?_
  refine zR_v rfl rfl rfl rfl rfl ⟨rfl, Nat.le_of_ble_eq_true rfl, Nat.le_of_ble_eq_true rfl⟩ rfl (Nat.le_refl _) hgo rfl rfl ?_
  refine zR_to 61 rfl ?_
  exact zR_e rfl rfl rfl rfl rfl rfl
set_option maxRecDepth 10000 in
theorem e_Mo_reckon3 {p w : Nat} (hc : cOk a p w) (hx : vOk (V 8)) (hy : vOk (V 9)) (hR : Rok R) : ∃ R' V', Rok R' ∧ V' 10 = (divR w p (V 9) (V 8)).1 ∧ (∀ i, i < 8 → V' i = V i) ∧ zE L xs (d + 7) m_Mo_reckon [.ref 20, .int (nI 3)] (mV C u a b V M R) (.inl none) (mV C u (nt a (divR w p (V 9) (V 8)).2) b V' M R') := by
  have e8 : fu (fu (fu V 10 (V 8)) 8 (V 9)) 9 (V 8) 8 = V 9 := by rw [fu_n (by decide), fu_s]
  obtain ⟨R', hR', hgo⟩ := e_Mo_quotient (L := L) (xs := xs) (d := d) (C := C) (u := u) (a := a) (b := b) (V := fu (fu (fu V 10 (V 8)) 8 (V 9)) 9 (V 8)) (M := M) (R := R) hc (by rw [e8]; exact hy) (by rw [fu_s]; exact hx) hR
  rw [e8, fu_s] at hgo
  refine ⟨R', fu (fu (fu (fu V 10 (V 8)) 8 (V 9)) 9 (V 8)) 10 (divR w p (V 9) (V 8)).1, hR', fu_s, fun i hi => by rw [fu_n (by omega), fu_n (by omega), fu_n (by omega), fu_n (by omega)], 0, Nat.zero_le _, ?_⟩
  refine zR_to 67 (st' := [.int (nI 10), .int (nI 8), .ref 20]) rfl ?_
  refine zR_v rfl rfl rfl rfl rfl ⟨rfl, Nat.le_of_ble_eq_true rfl, Nat.le_of_ble_eq_true rfl⟩ rfl (Nat.le_refl _) (e_Mo_copy (f := 8) (t := 10) (by decide) (by decide)) rfl rfl ?_
  refine zR_to 75 (st' := [.int (nI 8), .int (nI 9), .ref 20]) rfl ?_
  refine zR_v rfl rfl rfl rfl rfl ⟨rfl, Nat.le_of_ble_eq_true rfl, Nat.le_of_ble_eq_true rfl⟩ rfl (Nat.le_refl _) (e_Mo_copy (f := 9) (t := 8) (by decide) (by decide)) rfl rfl ?_
  rw [fu_n (show (9 : Nat) ≠ 10 by decide)]
  refine zR_to 83 (st' := [.int (nI 9), .int (nI 10), .ref 20]) rfl ?_
  refine zR_v rfl rfl rfl rfl rfl ⟨rfl, Nat.le_of_ble_eq_true rfl, Nat.le_of_ble_eq_true rfl⟩ rfl (Nat.le_refl _) (e_Mo_copy (f := 10) (t := 9) (by decide) (by decide)) rfl rfl ?_
  rw [fu_n (show (10 : Nat) ≠ 8 by decide), fu_s]
  refine zR_to 87 rfl ?_
  refine zR_v rfl rfl rfl rfl rfl ⟨rfl, Nat.le_of_ble_eq_true rfl, Nat.le_of_ble_eq_true rfl⟩ rfl (Nat.le_refl _) hgo rfl rfl ?_
  exact zR_e rfl rfl rfl rfl rfl rfl
end RC
end
section
/-! alter: the operations on one real -/
def absR (v : RV) : RV := (rk v, false, re v, v.2.2.2)
section AL
variable {L : Nat} {xs : Nat → Int32} {d : Nat} {mi : ZM} {pc : Nat} {lv : zL} {st st' : List Value} {h h' : zH} {k k' : Nat} {o : zO} {pc' : Nat}
variable {C : Nat → zC} {u : zC} {a : Nat → Int32} {b : Nat → Int64} {M : Nat → Int64} {R : Nat → Nat} {V : Nat → RV}
set_option maxRecDepth 10000 in
theorem hd_Mo_alter {x : Int32} {h9 : zH} (hr : zR L xs (d + 1) m_Mo_alter 8 [(0, .ref 20), (1, .int x)] [] (mV C u a b (fu V 10 (V 8)) M R) 0 (.inl none) h9 0) : zE L xs (d + 1) m_Mo_alter [.ref 20, .int x] (mV C u a b V M R) (.inl none) h9 := by
  refine ⟨0, Nat.zero_le _, ?_⟩
  refine zR_to 5 (st' := [.int (nI 10), .int (nI 8), .ref 20]) rfl ?_
  exact zR_v rfl rfl rfl rfl rfl ⟨rfl, Nat.le_of_ble_eq_true rfl, Nat.le_of_ble_eq_true rfl⟩ rfl (Nat.le_refl _) (e_Mo_copy (f := 8) (t := 10) (by decide) (by decide)) rfl rfl hr
set_option maxRecDepth 10000 in
theorem e_Mo_alter4 {p w : Nat} (hc : cOk a p w) (hx : vOk (V 8)) (hR : Rok R) : zEr L xs (d + 7) m_Mo_alter [.ref 20, .int (nI 4)] (mV C u a b V M R) (.inl none) C u (nt a (rootR w p (V 8)).2) b (fu V 10 (rootR w p (V 8)).1) M := by
  have e8 : fu V 10 (V 8) 8 = V 8 := fu_n (by decide)
  obtain ⟨R', hR', hgo⟩ := e_Mo_root (L := L) (xs := xs) (d := d) (C := C) (u := u) (a := a) (b := b) (V := fu V 10 (V 8)) (M := M) (R := R) hc (by rw [e8]; exact hx) hR
  rw [e8, fu_fu] at hgo
  refine ⟨R', hR', hd_Mo_alter ?_⟩
  refine zR_to 14 rfl ?_
  refine zR_v rfl rfl rfl rfl rfl ⟨rfl, Nat.le_of_ble_eq_true rfl, Nat.le_of_ble_eq_true rfl⟩ rfl (Nat.le_refl _) hgo rfl rfl ?_
  refine zR_to 89 rfl ?_
  exact zR_e rfl rfl rfl rfl rfl rfl
set_option maxRecDepth 10000 in
theorem e_Mo_alter5 {w : Nat} (hw : a 2 = nI w) (hw4 : w < 4) (hx : vOk (V 8)) (hR : Rok R) : zEr L xs (d + 7) m_Mo_alter [.ref 20, .int (nI 5)] (mV C u a b V M R) (.inl none) C u (nt a (intR w (V 8)).2) b (fu V 10 (intR w (V 8)).1) M := by
  have e8 : fu V 10 (V 8) 8 = V 8 := fu_n (by decide)
  obtain ⟨R', hR', hgo⟩ := e_Mo_integer (L := L) (xs := xs) (d := d + 2) (C := C) (u := u) (a := a) (b := b) (V := fu V 10 (V 8)) (M := M) (R := R) hw hw4 (by rw [e8]; exact hx) hR
  rw [e8, fu_fu] at hgo
  refine ⟨R', hR', hd_Mo_alter ?_⟩
  refine zR_to 23 rfl ?_
  refine zR_v rfl rfl rfl rfl rfl ⟨rfl, Nat.le_of_ble_eq_true rfl, Nat.le_of_ble_eq_true rfl⟩ rfl (Nat.le_refl _) hgo rfl rfl ?_
  refine zR_to 89 rfl ?_
  exact zR_e rfl rfl rfl rfl rfl rfl
set_option maxRecDepth 10000 in
theorem e_Mo_alter6 {p w : Nat} {r9 : RV × Int32} (hc : cOk a p w) (hx : vOk (V 8)) (hR : Rok R)
    (h3r : eit (V 8) (V 9) 3 = true → r9 = (vNan, 0)) (h0r : eit (V 8) (V 9) 3 = false → rk (V 9) = 0 → r9 = sclN w p 0 (V 8) (V 9)) (h1r : eit (V 8) (V 9) 3 = false → scFin (V 9) → r9 = sclN w p (rs (V 9) / 2 ^ scK (V 9)) (V 8) (V 9)) (hbr : eit (V 8) (V 9) 3 = false → rk (V 9) ≠ 0 → ¬ scFin (V 9) → r9 = (vNan, 1)) :
    zEr L xs (d + 7) m_Mo_alter [.ref 20, .int (nI 6)] (mV C u a b V M R) (.inl none) C u (nt a r9.2) b (fu V 10 r9.1) M := by
  have e8 : fu V 10 (V 8) 8 = V 8 := fu_n (by decide)
  have e9 : fu V 10 (V 8) 9 = V 9 := fu_n (by decide)
  obtain ⟨R', hR', hgo⟩ := e_Mo_scaled (L := L) (xs := xs) (d := d + 1) (C := C) (u := u) (a := a) (b := b) (V := fu V 10 (V 8)) (M := M) (R := R) (p := p) (w := w) (r9 := r9) hc (by rw [e8]; exact hx) hR (by rw [e8, e9]; exact h3r) (by rw [e8, e9]; exact h0r) (by rw [e8, e9]; exact h1r) (by rw [e8, e9]; exact hbr)
  rw [fu_fu] at hgo
  refine ⟨R', hR', hd_Mo_alter ?_⟩
  refine zR_to 33 rfl ?_
  refine zR_v rfl rfl rfl rfl rfl ⟨rfl, Nat.le_of_ble_eq_true rfl, Nat.le_of_ble_eq_true rfl⟩ rfl (Nat.le_refl _) hgo rfl rfl ?_
  refine zR_to 89 rfl ?_
  exact zR_e rfl rfl rfl rfl rfl rfl
/-- the sign of place 10 anew, while it holds what place 8 holds -/
theorem sg10 {x : Bool} : mH C u a b (fun i => (fu V 10 (V 8) i).1) (fu (fun i => (fu V 10 (V 8) i).2.1) 10 x) (fun i => (fu V 10 (V 8) i).2.2.1) (fun i => (fu V 10 (V 8) i).2.2.2) M R = mV C u a b (fu V 10 ((V 8).1, x, (V 8).2.2.1, (V 8).2.2.2)) M R := by
  have h9 := mV_fu (C := C) (u := u) (a := a) (b := b) (V := fu V 10 (V 8)) (M := M) (R := R) (n := 10) (k9 := (V 8).1) (b9 := x) (e9 := (V 8).2.2.1) (s9 := (V 8).2.2.2)
  rw [fu_self (f := fun i => (fu V 10 (V 8) i).1) (k := 10) (x := (V 8).1) rfl, fu_self (f := fun i => (fu V 10 (V 8) i).2.2.1) (k := 10) (x := (V 8).2.2.1) rfl, fu_self (f := fun i => (fu V 10 (V 8) i).2.2.2) (k := 10) (x := (V 8).2.2.2) rfl, fu_fu] at h9
  exact h9
set_option maxRecDepth 10000 in
theorem e_Mo_alter8 : zE L xs (d + 1) m_Mo_alter [.ref 20, .int (nI 8)] (mV C u a b V M R) (.inl none) (mV C u a b (fu V 10 (absR (V 8))) M R) := by
  refine hd_Mo_alter ?_
  refine zR_to 49 (st' := [.int (bI false), .int (nI 10), .ref 22]) rfl ?_
  refine zB_put (n := 10) rfl rfl (by decide) rfl ?_
  rw [sg10]
  refine zR_to 89 rfl ?_
  exact zR_e rfl rfl rfl rfl rfl rfl
set_option maxRecDepth 10000 in
theorem e_Mo_alter9 : zE L xs (d + 1) m_Mo_alter [.ref 20, .int (nI 9)] (mV C u a b V M R) (.inl none) (mV C u a b (fu V 10 (negR (V 8))) M R) := by
  have fin : ∀ x : Bool, (decide (rk (V 8) ≠ 3) && !rn (V 8)) = x → zR L xs (d + 1) m_Mo_alter 88 [(0, .ref 20), (1, .int (nI 9))] [.int (bI x), .int (nI 10), .ref 22] (mV C u a b (fu V 10 (V 8)) M R) 0 (.inl none) (mV C u a b (fu V 10 (negR (V 8))) M R) 0 := by
    intro x hx9
    refine zB_put (n := 10) rfl rfl (by decide) rfl ?_
    rw [sg10]
    unfold negR
    rw [hx9]
    exact zR_e rfl rfl rfl rfl rfl rfl
  refine hd_Mo_alter ?_
  refine zR_to 70 (st' := [.int 3, .int (rk (V 8)), .int (nI 10), .ref 22]) rfl ?_
  refine zR_m 1 rfl ?_
  refine zR_if (fun h => ?_) (fun h => ?_)
  · refine zR_to 88 rfl (fin false ?_)
    rw [decide_eq_false (show ¬ rk (V 8) ≠ 3 from fun h9 => h9 h)]
    rfl
  · refine zR_to 80 (st' := [.int (bI (rn (V 8))), .int (nI 10), .ref 22]) rfl ?_
    have h9 : (decide (rk (V 8) ≠ 3) && !rn (V 8)) = !rn (V 8) := by
      rw [decide_eq_true (show rk (V 8) ≠ 3 from h)]
      rfl
    cases hn : rn (V 8) with
    | true => exact zR_to 88 rfl (fin false (by rw [h9, hn]; rfl))
    | false => exact zR_to 88 rfl (fin true (by rw [h9, hn]; rfl))
end AL
end
section
/-! extract -/
def exE (v : RV) : RV := exV (decide (zr v < 0)) (zr v).natAbs
def exS (v : RV) : RV := (rk v, rn v, 0, v.2.2.2)
section EX
variable {L : Nat} {xs : Nat → Int32} {d : Nat} {mi : ZM} {pc : Nat} {lv : zL} {st st' : List Value} {h h' : zH} {k k' : Nat} {o : zO} {pc' : Nat}
variable {C : Nat → zC} {u : zC} {a : Nat → Int32} {b : Nat → Int64} {M : Nat → Int64} {R : Nat → Nat} {V : Nat → RV}
set_option maxRecDepth 10000 in
theorem e_Mo_extract0 {n : Nat} (hn : a 7 = nI n) (hn8 : n ≤ 8) (hbad : rk (V 8) ≠ 1 ∨ n = 8) : zE L xs (d + 2) m_Mo_extract [.ref 20] (mV C u a b V M R) (.inl (some (.int (if thB (fu a 5 1) then 0 else 1)))) (mV C u (thA (fu a 5 1)) b V M R) := by
  have rf : zR L xs (d + 2) m_Mo_extract 20 [(0, .ref 20)] [] (mV C u a b V M R) 0 (.inl (some (.int (if thB (fu a 5 1) then 0 else 1)))) (mV C u (thA (fu a 5 1)) b V M R) 0 := by
    refine zR_to 21 rfl ?_
    refine zR_v rfl rfl rfl rfl rfl ⟨rfl, Nat.le_of_ble_eq_true rfl, Nat.le_of_ble_eq_true rfl⟩ rfl (Nat.le_refl _) e_Mo_refuse rfl rfl ?_
    exact zR_e rfl rfl rfl rfl rfl rfl
  refine ⟨0, Nat.zero_le _, ?_⟩
  refine zR_to 8 (st' := [.int 1, .int (rk (V 8))]) rfl ?_
  refine zR_m 1 rfl ?_
  refine zR_if (fun _ => rf) (fun h => ?_)
  have h8 : n = 8 := by
    rcases hbad with h9 | h9
    · exact absurd h9 h
    · exact h9
  refine zR_to 17 (st' := [.int (nI 8), .int (a 7)]) rfl ?_
  rw [hn, h8]
  exact zR_to 20 rfl rf
theorem nat_l {e : Int} (h : -17000 ≤ e ∧ e ≤ 17000) : (if e < 0 then (- iZ e).toInt64 else (iZ e).toInt64) = lN e.natAbs := by
  split
  · rw [iZ_neg, show -e = (e.natAbs : Int) by omega, iZ_nat, nI_l (by omega)]
  · rw [show iZ e = nI e.natAbs from by rw [← iZ_nat]; congr 1; omega, nI_l (by omega)]
set_option maxRecDepth 10000 in
set_option maxHeartbeats 4000000 in
theorem e_Mo_extract1 {n : Nat} (hn : a 7 = nI n) (hn8 : n < 8) (hn1 : 1 ≤ n) (h8 : rk (V 8) = 1) (hx : vOk (V 8)) (hR : Rok R) : zEr L xs (d + 4) m_Mo_extract [.ref 20] (mV C u a b V M R) (.inl (some (.int 0))) C u (fu a 7 (nI (n + 1))) b (fu (fu (fu V 10 (exE (V 8))) (n - 1) (exE (V 8))) n (exS (V 8))) M := by
  obtain ⟨x1, x2, x3⟩ := hx.2.1 h8
  have hl : (zr (V 8)).natAbs < 2 ^ 64 := by omega
  have hR1 : Rok (fu R 0 (zr (V 8)).natAbs) := hR.fu (Nat.lt_of_lt_of_le hl (by rw [B2]; exact Nat.pow_le_pow_right (by decide) (by decide)))
  obtain ⟨R', hR', hex⟩ := e_Mo_exactly (L := L) (xs := xs) (d := d) (C := C) (u := u) (a := a) (b := b) (V := V) (M := M) (R := fu R 0 (zr (V 8)).natAbs) (N := (zr (V 8)).natAbs) (mb := decide (zr (V 8) < 0)) (by have := nb_bd hl; omega) hR1 fu_s
  refine ⟨R', hR', 0, Nat.zero_le _, ?_⟩
  have hn1' : nI n - 1 = nI (n - 1) := by
    obtain ⟨m, rfl⟩ : ∃ m, n = m + 1 := ⟨n - 1, by omega⟩
    exact nI_pred m
  -- from the call of exactly on
  have fin : zR L xs (d + 4) m_Mo_extract 60 [(1, .int (iZ (zr (V 8)))), (0, .ref 20)] [.int (bI (decide (zr (V 8) < 0))), .ref 20] (mV C u a b V M (fu R 0 (zr (V 8)).natAbs)) 0 (.inl (some (.int 0))) (mV C u (fu a 7 (nI (n + 1))) b (fu (fu (fu V 10 (exE (V 8))) (n - 1) (exE (V 8))) n (exS (V 8))) M R') 0 := by
    refine zR_v rfl rfl rfl rfl rfl ⟨rfl, Nat.le_of_ble_eq_true rfl, Nat.le_of_ble_eq_true rfl⟩ rfl (Nat.le_refl _) hex rfl rfl ?_
    refine zR_to 72 (st' := [.int (a 7 - 1), .int (nI 10), .ref 20]) rfl ?_
    rw [hn, hn1']
    refine zR_v rfl rfl rfl rfl rfl ⟨rfl, Nat.le_of_ble_eq_true rfl, Nat.le_of_ble_eq_true rfl⟩ rfl (Nat.le_refl _) (e_Mo_copy (f := 10) (t := n - 1) (by decide) (by omega)) rfl rfl ?_
    rw [fu_s]
    refine zR_to 82 (st' := [.int (a 7), .int (nI 8), .ref 20]) rfl ?_
    rw [hn]
    refine zR_v rfl rfl rfl rfl rfl ⟨rfl, Nat.le_of_ble_eq_true rfl, Nat.le_of_ble_eq_true rfl⟩ rfl (Nat.le_refl _) (e_Mo_copy (f := 8) (t := n) (by decide) (by omega)) rfl rfl ?_
    rw [fu_n (show (8 : Nat) ≠ n - 1 by omega), fu_n (show (8 : Nat) ≠ 10 by decide)]
    refine zR_to 94 (st' := [.int 0, .int (a 7), .ref 23]) rfl ?_
    rw [hn]
    refine zX_put (n := n) rfl rfl (by omega) rfl ?_
    have hW : ∀ W : Nat → RV, W n = V 8 → mH C u a b (fun i => (W i).1) (fun i => (W i).2.1) (fu (fun i => (W i).2.2.1) n 0) (fun i => (W i).2.2.2) M R' = mV C u a b (fu W n (exS (V 8))) M R' := by
      intro W hWn
      have h9 := mV_fu (C := C) (u := u) (a := a) (b := b) (V := W) (M := M) (R := R') (n := n) (k9 := (V 8).1) (b9 := (V 8).2.1) (e9 := 0) (s9 := (V 8).2.2.2)
      rw [fu_self (f := fun i => (W i).1) (k := n) (x := (V 8).1) (by show (W n).1 = _; rw [hWn]), fu_self (f := fun i => (W i).2.1) (k := n) (x := (V 8).2.1) (by show (W n).2.1 = _; rw [hWn]), fu_self (f := fun i => (W i).2.2.2) (k := n) (x := (V 8).2.2.2) (by show (W n).2.2.2 = _; rw [hWn])] at h9
      exact h9
    rw [hW (fu (fu (fu V 10 (exV (decide (zr (V 8) < 0)) (zr (V 8)).natAbs)) (n - 1) (exV (decide (zr (V 8) < 0)) (zr (V 8)).natAbs)) n (V 8)) fu_s, fu_fu]
    refine zR_to 102 (st' := [.int (a 7 + 1), .ref 20]) rfl ?_
    rw [hn, nI_1]
    refine zR_to 106 (h1 := mV C u (fu a 7 (nI (n + 1))) b (fu (fu (fu V 10 (exE (V 8))) (n - 1) (exE (V 8))) n (exS (V 8))) M R') rfl ?_
    exact zR_e rfl rfl rfl rfl rfl rfl
  refine zR_to 8 (st' := [.int 1, .int (rk (V 8))]) rfl ?_
  rw [h8]
  refine zR_to 17 (st' := [.int (nI 8), .int (a 7)]) rfl ?_
  rw [hn]
  refine zR_m 1 rfl ?_
  refine zR_if (fun _ => ?_) (fun h => absurd (fun h7 => absurd ((nI_eq (by omega) (by omega)).mp h7) (by omega)) h)
  refine zR_to 32 (st' := [.int (re (V 8))]) rfl ?_
  rw [re_zr (V 8)]
  have hll := nat_l (e := zr (V 8)) (by omega)
  refine zR_to 36 rfl ?_
  refine zR_m 1 rfl ?_
  refine zR_if (fun h => ?_) (fun h => ?_)
  · have h0 := (iZ_le (x := 0) (by omega) (by omega)).mp h
    rw [if_neg (show ¬ zr (V 8) < 0 by omega)] at hll
    rw [decide_eq_false (show ¬ zr (V 8) < 0 by omega)] at fin
    refine zR_to 47 (st' := [.long (iZ (zr (V 8))).toInt64, .int (nI 0), .ref 20]) rfl ?_
    rw [hll]
    refine zR_v rfl rfl rfl rfl rfl ⟨rfl, Nat.le_of_ble_eq_true rfl, Nat.le_of_ble_eq_true rfl⟩ rfl (Nat.le_refl _) (e_Mo_put (r := 0) (n := (zr (V 8)).natAbs) (by decide) hl hR) rfl rfl ?_
    refine zR_to 52 rfl ?_
    refine zR_m 1 rfl ?_
    refine zR_if (fun _ => ?_) (fun h9 => absurd h h9)
    refine zR_to 60 (st' := [.int (bI false), .ref 20]) rfl ?_
    exact zR_w fin rfl rfl ⟨rfl, rfl, trivial⟩
  · have h0 : zr (V 8) < 0 := by
      rcases Int.lt_or_le (zr (V 8)) 0 with h9 | h9
      · exact h9
      · exact absurd ((iZ_le (x := 0) (by omega) (by omega)).mpr h9) h
    rw [if_pos h0] at hll
    rw [decide_eq_true h0] at fin
    refine zR_to 47 (st' := [.long (- iZ (zr (V 8))).toInt64, .int (nI 0), .ref 20]) rfl ?_
    rw [hll]
    refine zR_v rfl rfl rfl rfl rfl ⟨rfl, Nat.le_of_ble_eq_true rfl, Nat.le_of_ble_eq_true rfl⟩ rfl (Nat.le_refl _) (e_Mo_put (r := 0) (n := (zr (V 8)).natAbs) (by decide) hl hR) rfl rfl ?_
    refine zR_to 52 rfl ?_
    refine zR_m 1 rfl ?_
    refine zR_if (fun h9 => absurd h9 h) (fun _ => ?_)
    refine zR_to 60 (st' := [.int (bI true), .ref 20]) rfl ?_
    exact zR_w fin rfl rfl ⟨rfl, rfl, trivial⟩
end EX
end
section
/-! move -/
section MV
variable {L : Nat} {xs : Nat → Int32} {d : Nat} {mi : ZM} {pc : Nat} {lv : zL} {st st' : List Value} {h h' : zH} {k k' : Nat} {o : zO} {pc' : Nat}
variable {C : Nat → zC} {u : zC} {a : Nat → Int32} {b : Nat → Int64} {M : Nat → Int64} {R : Nat → Nat} {V : Nat → RV}
theorem nI_m1' {n : Nat} (h : 1 ≤ n) : nI n - 1 = nI (n - 1) := by
  obtain ⟨m, rfl⟩ : ∃ m, n = m + 1 := ⟨n - 1, by omega⟩
  exact nI_pred m
set_option maxRecDepth 10000 in
theorem e_Mo_move10 {n j : Nat} (hn : a 7 = nI n) (hn8 : n ≤ 8) (hj : j < n) : zE L xs (d + 1) m_Mo_move [.ref 20, .int (nI 10), .int (nI j)] (mV C u a b V M R) (.inl (some (.int (a 5)))) (mV C u a b (fu (fu V (n - 1) (V (n - 1 - j))) (n - 1 - j) (V 8)) M R) := by
  refine ⟨0, Nat.zero_le _, ?_⟩
  refine zR_to 21 (st' := [.int (a 7 - 1), .int (a 7 - 1 - nI j), .ref 20]) rfl ?_
  rw [hn, nI_m1' (by omega), pk_sub (show j ≤ n - 1 by omega)]
  refine zR_v rfl rfl rfl rfl rfl ⟨rfl, Nat.le_of_ble_eq_true rfl, Nat.le_of_ble_eq_true rfl⟩ rfl (Nat.le_refl _) (e_Mo_copy (f := n - 1 - j) (t := n - 1) (by omega) (by omega)) rfl rfl ?_
  refine zR_to 35 (st' := [.int (a 7 - 1 - nI j), .int (nI 8), .ref 20]) rfl ?_
  rw [hn, nI_m1' (by omega), pk_sub (show j ≤ n - 1 by omega)]
  refine zR_v rfl rfl rfl rfl rfl ⟨rfl, Nat.le_of_ble_eq_true rfl, Nat.le_of_ble_eq_true rfl⟩ rfl (Nat.le_refl _) (e_Mo_copy (f := 8) (t := n - 1 - j) (by decide) (by omega)) rfl rfl ?_
  rw [fu_n (show (8 : Nat) ≠ n - 1 by omega)]
  refine zR_to 101 (st' := [.int (a 5)]) rfl ?_
  exact zR_e rfl rfl rfl rfl rfl rfl
set_option maxRecDepth 10000 in
theorem e_Mo_move12 {n : Nat} {x : Int32} (hn : a 7 = nI n) (hn1 : 1 ≤ n) : zE L xs d m_Mo_move [.ref 20, .int (nI 12), .int x] (mV C u a b V M R) (.inl (some (.int (a 5)))) (mV C u (fu a 7 (nI (n - 1))) b V M R) := by
  refine ⟨0, Nat.zero_le _, ?_⟩
  refine zR_to 51 (st' := [.int (a 7 - 1), .ref 20]) rfl ?_
  rw [hn, nI_m1' hn1]
  refine zR_to 101 (st' := [.int (a 5)]) (h1 := mV C u (fu a 7 (nI (n - 1))) b V M R) rfl ?_
  exact zR_e rfl rfl rfl rfl rfl rfl
set_option maxRecDepth 10000 in
theorem e_Mo_move11 {n j : Nat} (hn : a 7 = nI n) (hn8 : n ≤ 8) (hj : j < n) : zE L xs (d + 2) m_Mo_move [.ref 20, .int (nI 11), .int (nI j)] (mV C u a b V M R) (.inl (some (.int (chO a n 0)))) (mV C u (chA a n 0) b (chV a (fu V 10 (V (n - 1 - j))) n 0) M R) := by
  refine ⟨0, Nat.zero_le _, ?_⟩
  refine zR_to 119 (st' := [.int (nI 10), .int (a 7 - 1 - nI j), .ref 20]) rfl ?_
  rw [hn, nI_m1' (by omega), pk_sub (show j ≤ n - 1 by omega)]
  refine zR_v rfl rfl rfl rfl rfl ⟨rfl, Nat.le_of_ble_eq_true rfl, Nat.le_of_ble_eq_true rfl⟩ rfl (Nat.le_refl _) (e_Mo_copy (f := n - 1 - j) (t := 10) (by omega) (by decide)) rfl rfl ?_
  refine zR_to 148 (st' := [.int (nI 0), .ref 20]) rfl ?_
  refine zR_v rfl rfl rfl rfl rfl ⟨rfl, Nat.le_of_ble_eq_true rfl, Nat.le_of_ble_eq_true rfl⟩ rfl (Nat.le_refl _) (e_Mo_change (n := n) (g := 0) hn hn8 (by omega)) rfl rfl ?_
  exact zR_e rfl rfl rfl rfl rfl rfl
set_option maxRecDepth 10000 in
/-- PUSH_ONE (c = 1), PUSH_ZERO (c = 0) -/
theorem e_Mo_move14 {n c : Nat} {x : Int32} (hcc : c = 0 ∨ c = 1) (hn : a 7 = nI n) (hn8 : n ≤ 8) (hR : Rok R) : zEr L xs (d + 4) m_Mo_move [.ref 20, .int (nI (15 - c)), .int x] (mV C u a b V M R) (.inl (some (.int (chO a n 0)))) C u (chA a n 0) b (chV a (fu V 10 (exV false c)) n 0) M := by
  have hc1 : c < 65536 := by omega
  have hR1 : Rok (fu R 0 c) := hR.fu (Nat.lt_of_lt_of_le hc1 (Nat.pow_le_pow_right (n := 65536) (i := 1) (by decide) (by decide)))
  obtain ⟨R', hR', hex⟩ := e_Mo_exactly (L := L) (xs := xs) (d := d) (C := C) (u := u) (a := a) (b := b) (V := V) (M := M) (R := fu R 0 c) (N := c) (mb := false) (by rcases hcc with rfl | rfl <;> decide) hR1 fu_s
  have fin : ∀ z : zL, zR L xs (d + 4) m_Mo_move 138 [(0, .ref 20)] [.long (lN c), .int (nI 0), .ref 20] (mV C u a b V M R) 0 (.inl (some (.int (chO a n 0)))) (mV C u (chA a n 0) b (chV a (fu V 10 (exV false c)) n 0) M R') 0 := by
    intro _
    refine zR_v rfl rfl rfl rfl rfl ⟨rfl, Nat.le_of_ble_eq_true rfl, Nat.le_of_ble_eq_true rfl⟩ rfl (Nat.le_refl _) (e_Mo_put (r := 0) (n := c) (by decide) (by omega) hR) rfl rfl ?_
    refine zR_to 143 (st' := [.int (bI false), .ref 20]) rfl ?_
    refine zR_v rfl rfl rfl rfl rfl ⟨rfl, Nat.le_of_ble_eq_true rfl, Nat.le_of_ble_eq_true rfl⟩ rfl (Nat.le_refl _) hex rfl rfl ?_
    refine zR_to 148 (st' := [.int (nI 0), .ref 20]) rfl ?_
    refine zR_v rfl rfl rfl rfl rfl ⟨rfl, Nat.le_of_ble_eq_true rfl, Nat.le_of_ble_eq_true rfl⟩ rfl (Nat.le_refl _) (e_Mo_change (n := n) (g := 0) hn hn8 (by omega)) rfl rfl ?_
    exact zR_e rfl rfl rfl rfl rfl rfl
  refine ⟨R', hR', 0, Nat.zero_le _, ?_⟩
  rcases hcc with rfl | rfl
  · refine zR_to 138 rfl ?_
    exact zR_w (fin []) rfl rfl ⟨rfl, trivial⟩
  · refine zR_to 138 rfl ?_
    exact zR_w (fin []) rfl rfl ⟨rfl, trivial⟩
end MV
end
section
section MV
variable {L : Nat} {xs : Nat → Int32} {d : Nat} {mi : ZM} {pc : Nat} {lv : zL} {st st' : List Value} {h h' : zH} {k k' : Nat} {o : zO} {pc' : Nat}
variable {C : Nat → zC} {u : zC} {a : Nat → Int32} {b : Nat → Int64} {M : Nat → Int64} {R : Nat → Nat} {V : Nat → RV}
/-- the ints after a comparison's exceptions -/
def cm1 (a : Nat → Int32) (x y : RV) : Nat → Int32 := if eit x y 3 then nt a 1 else a
set_option maxRecDepth 10000 in
theorem e_Mo_move13 {z : Int32} (hx : vOk (V 8)) (hy : vOk (V 9)) (hR : Rok R) : zEr L xs (d + 3) m_Mo_move [.ref 20, .int (nI 13), .int z] (mV C u a b V M R) (.inl (some (.int (if thB (cm1 a (V 8) (V 9)) then 0 else cm1 a (V 8) (V 9) 5)))) C u (if thB (cm1 a (V 8) (V 9)) then thA (cm1 a (V 8) (V 9)) else fu (thA (cm1 a (V 8) (V 9))) 6 (cmpR (V 8) (V 9))) b V M := by
  obtain ⟨R', hR', hcm⟩ := e_Mo_compared (L := L) (xs := xs) (d := d) (C := C) (u := u) (a := a) (b := b) (V := V) (M := M) (R := R) hx hy hR
  rw [show (if eit (V 8) (V 9) 3 then nt a 1 else a) = cm1 a (V 8) (V 9) from rfl] at hcm
  generalize cmpR (V 8) (V 9) = r at *
  generalize cm1 a (V 8) (V 9) = a1 at *
  refine ⟨R', hR', 0, Nat.zero_le _, ?_⟩
  refine zR_to 61 rfl ?_
  refine zR_v rfl rfl rfl rfl rfl ⟨rfl, Nat.le_of_ble_eq_true rfl, Nat.le_of_ble_eq_true rfl⟩ rfl (Nat.le_refl _) hcm rfl rfl ?_
  refine zR_to 66 rfl ?_
  refine zR_v rfl rfl rfl rfl rfl ⟨rfl, Nat.le_of_ble_eq_true rfl, Nat.le_of_ble_eq_true rfl⟩ rfl (Nat.le_refl _) e_Mo_throwing rfl rfl ?_
  cases ht : thB a1 with
  | true =>
    refine zR_to 73 rfl ?_
    exact zR_e rfl rfl rfl rfl rfl rfl
  | false =>
    refine zR_to 101 (st' := [.int (a1 5)]) (h1 := mV C u (fu (thA a1) 6 r) b V M R') rfl ?_
    exact zR_e rfl rfl rfl rfl rfl rfl
end MV
end
section
/-! the plain answers -/
section AN
variable {L : Nat} {xs : Nat → Int32} {d : Nat} {C : Nat → zC} {u : zC} {a : Nat → Int32} {b : Nat → Int64} {M : Nat → Int64} {R : Nat → Nat} {V : Nat → RV}
theorem e_Mo_thrown : zE L xs d m_Mo_thrown [.ref 20] (mV C u a b V M R) (.inl (some (.int (a 0)))) (mV C u a b V M R) := zE_m (n := 10) rfl (Nat.le_refl _)
theorem e_Mo_time : zE L xs d m_Mo_time [.ref 20] (mV C u a b V M R) (.inl (some (.long (b 16)))) (mV C u (fu a 0 0) b V M R) := zE_m (n := 10) rfl (Nat.le_refl _)
theorem e_Mo_flags : zE L xs d m_Mo_flags [.ref 20] (mV C u a b V M R) (.inl (some (.int (a 4)))) (mV C u (fu a 0 0) b V M R) := zE_m (n := 10) rfl (Nat.le_refl _)
theorem e_Mo_clear : zE L xs d m_Mo_clear [.ref 20] (mV C u a b V M R) (.inl none) (mV C u (fu (fu a 0 0) 4 0) b V M R) := zE_m (n := 10) rfl (Nat.le_refl _)
theorem e_Mo_condition : zE L xs d m_Mo_condition [.ref 20] (mV C u a b V M R) (.inl (some (.int (a 6)))) (mV C u (fu a 0 0) b V M R) := zE_m (n := 10) rfl (Nat.le_refl _)
theorem e_Mo_depth : zE L xs d m_Mo_depth [.ref 20] (mV C u a b V M R) (.inl (some (.int (a 7)))) (mV C u (fu a 0 0) b V M R) := zE_m (n := 10) rfl (Nat.le_refl _)
end AN
end
section
/-! write, memory, pass, await of the reference -/
section ME
variable {L : Nat} {xs : Nat → Int32} {d : Nat} {C : Nat → zC} {u : zC} {a : Nat → Int32} {b : Nat → Int64} {M : Nat → Int64} {R : Nat → Nat} {V : Nat → RV}
def outB (x y : Int32) : Bool := decide (x < 0 ∨ y ≤ x)
theorem outB_f {x : Int32} {N : Nat} (hN : N < 2 ^ 31) (h : outB x (nI N) = false) : ∃ j : Nat, j < N ∧ x = nI j := by
  have h1 := of_decide_eq_false h
  rcases pk_ix x hN with h9 | h9 | h9
  · exact absurd (Or.inl h9) h1
  · exact absurd (Or.inr h9) h1
  · exact h9
set_option maxRecDepth 10000 in
theorem e_Mo_write {x : Int32} {v : Int64} : zE L xs (d + 1) m_Mo_write [.ref 20, .int x, .long v] (mV C u a b V M R) (.inl none) (mV C u (fu a 0 (if outB x (nI 8) then 1 else 0)) b V (if outB x (nI 8) then M else fu M x.toNatClampNeg v) R) := by
  refine ⟨0, Nat.zero_le _, ?_⟩
  refine zR_to 4 (st' := [.int (nI 8), .int x, .ref 20]) rfl ?_
  refine zR_i rfl rfl rfl rfl ⟨Nat.le_of_ble_eq_true rfl, Nat.le_of_ble_eq_true rfl, Nat.le_of_ble_eq_true rfl⟩ rfl (Nat.le_refl _) (e_Mo_out (x := x) (y := nI 8)) rfl rfl ?_
  rw [show decide (x < 0 ∨ nI 8 ≤ x) = outB x (nI 8) from rfl]
  cases ho : outB x (nI 8) with
  | true =>
    refine zR_to 32 (h1 := mV C u (fu a 0 1) b V M R) rfl ?_
    exact zR_e rfl rfl rfl rfl rfl rfl
  | false =>
    obtain ⟨j, hj, rfl⟩ := outB_f (by decide) ho
    refine zR_to 31 (st' := [.long v, .int (nI j), .ref 25]) (h1 := mV C u (fu a 0 0) b V M R) rfl ?_
    refine zM_put (n := j) rfl rfl hj rfl ?_
    rw [nI_clamp (by omega)]
    exact zR_e rfl rfl rfl rfl rfl rfl
set_option maxRecDepth 10000 in
theorem e_Mo_memory {x : Int32} : zE L xs (d + 1) m_Mo_memory [.ref 20, .int x] (mV C u a b V M R) (.inl (some (.long (if outB x (nI 8) then 0 else M x.toNatClampNeg)))) (mV C u (fu a 0 (if outB x (nI 8) then 1 else 0)) b V M R) := by
  refine ⟨0, Nat.zero_le _, ?_⟩
  refine zR_to 4 (st' := [.int (nI 8), .int x, .ref 20]) rfl ?_
  refine zR_i rfl rfl rfl rfl ⟨Nat.le_of_ble_eq_true rfl, Nat.le_of_ble_eq_true rfl, Nat.le_of_ble_eq_true rfl⟩ rfl (Nat.le_refl _) (e_Mo_out (x := x) (y := nI 8)) rfl rfl ?_
  rw [show decide (x < 0 ∨ nI 8 ≤ x) = outB x (nI 8) from rfl]
  cases ho : outB x (nI 8) with
  | true =>
    refine zR_to 35 (h1 := mV C u (fu a 0 1) b V M R) rfl ?_
    exact zR_e rfl rfl rfl rfl rfl rfl
  | false =>
    obtain ⟨j, hj, rfl⟩ := outB_f (by decide) ho
    refine zR_to 30 (st' := [.int (nI j), .ref 25]) (h1 := mV C u (fu a 0 0) b V M R) rfl ?_
    refine zM_get (n := j) rfl rfl hj rfl ?_
    rw [nI_clamp (by omega)]
    refine zR_to 35 rfl ?_
    exact zR_e rfl rfl rfl rfl rfl rfl
end ME
end
section
/-! pass, await of the reference -/
section PA
variable {L : Nat} {xs : Nat → Int32} {d : Nat} {C : Nat → zC} {u : zC} {a : Nat → Int32} {b : Nat → Int64} {M : Nat → Int64} {R : Nat → Nat} {V : Nat → RV}
set_option maxRecDepth 10000 in
theorem e_Mo_pass0 {x : Int32} (ho : outB x (nI 1001) = true) : zE L xs (d + 1) m_Mo_pass [.ref 20, .int x] (mV C u a b V M R) (.inl none) (mV C u (fu a 0 1) b V M R) := by
  refine ⟨0, Nat.zero_le _, ?_⟩
  refine zR_to 5 (st' := [.int (nI 1001), .int x, .ref 20]) rfl ?_
  refine zR_i rfl rfl rfl rfl ⟨Nat.le_of_ble_eq_true rfl, Nat.le_of_ble_eq_true rfl, Nat.le_of_ble_eq_true rfl⟩ rfl (Nat.le_refl _) (e_Mo_out (x := x) (y := nI 1001)) rfl rfl ?_
  rw [show decide (x < 0 ∨ nI 1001 ≤ x) = outB x (nI 1001) from rfl, ho]
  refine zR_to 31 (h1 := mV C u (fu a 0 1) b V M R) rfl ?_
  exact zR_e rfl rfl rfl rfl rfl rfl
set_option maxRecDepth 10000 in
theorem e_Mo_pass1 {B n : Nat} (hn : n < 1001) (hB : a 13 = nI B) (hB2 : B ≤ 1000) (hce : ∀ c, a 14 = c → ¬ c < 0 → ∃ j : Nat, j < 8 ∧ c = nI j) : zE L xs (d + 1) m_Mo_pass [.ref 20, .int (nI n)] (mV C u a b V M R) (.inl none) (mV C u (goA (fu a 0 0) B n) (goB b n) V (goM (fu a 0 0) b M B n) R) := by
  have ho : outB (nI n) (nI 1001) = false := decide_eq_false (fun h9 => by
    rcases h9 with h9 | h9
    · exact nI_pos (n := n) (by omega) h9
    · exact nI_ge (a := n) (b := 1001) hn (by decide) h9)
  refine ⟨0, Nat.zero_le _, ?_⟩
  refine zR_to 5 (st' := [.int (nI 1001), .int (nI n), .ref 20]) rfl ?_
  refine zR_i rfl rfl rfl rfl ⟨Nat.le_of_ble_eq_true rfl, Nat.le_of_ble_eq_true rfl, Nat.le_of_ble_eq_true rfl⟩ rfl (Nat.le_refl _) (e_Mo_out (x := nI n) (y := nI 1001)) rfl rfl ?_
  rw [show decide (nI n < 0 ∨ nI 1001 ≤ nI n) = outB (nI n) (nI 1001) from rfl, ho]
  refine zR_to 28 (st' := [.int (nI n), .ref 20]) (h1 := mV C u (fu a 0 0) b V M R) rfl ?_
  refine zR_v rfl rfl rfl rfl rfl ⟨rfl, Nat.le_of_ble_eq_true rfl, Nat.le_of_ble_eq_true rfl⟩ rfl (Nat.le_refl _) (e_Mo_goOn (a := fu a 0 0) (B := B) (n := n) hB hB2 (by omega) hce) rfl rfl ?_
  exact zR_e rfl rfl rfl rfl rfl rfl
set_option maxRecDepth 10000 in
theorem e_Mo_await {B : Nat} (hB : a 13 = nI B) (hB2 : B ≤ 1000) (hce : ∀ c, a 14 = c → ¬ c < 0 → ∃ j : Nat, j < 8 ∧ c = nI j) : zE L xs (d + 1) m_Mo_await [.ref 20] (mV C u a b V M R) (.inl (some (.int (nI B)))) (mV C u (goA (fu a 0 0) B B) (goB b B) V (goM (fu a 0 0) b M B B) R) := by
  refine ⟨0, Nat.zero_le _, ?_⟩
  refine zR_to 9 (st' := [.int (a 13)]) (h1 := mV C u (fu a 0 0) b V M R) rfl ?_
  rw [hB]
  refine zR_to 12 (st' := [.int (nI B), .ref 20]) rfl ?_
  refine zR_v rfl rfl rfl rfl rfl ⟨rfl, Nat.le_of_ble_eq_true rfl, Nat.le_of_ble_eq_true rfl⟩ rfl (Nat.le_refl _) (e_Mo_goOn (a := fu a 0 0) (B := B) (n := B) hB hB2 hB2 hce) rfl rfl ?_
  refine zR_to 16 rfl ?_
  exact zR_e rfl rfl rfl rfl rfl rfl
end PA
end
section
/-! kind, exponent, significand of the reference -/
section KI
variable {L : Nat} {xs : Nat → Int32} {d : Nat} {C : Nat → zC} {u : zC} {a : Nat → Int32} {b : Nat → Int64} {M : Nat → Int64} {R : Nat → Nat} {V : Nat → RV}
set_option maxRecDepth 10000 in
theorem e_Mo_exponent {x : Int32} {n : Nat} (hn : a 7 = nI n) (hn8 : n ≤ 8) : zE L xs (d + 1) m_Mo_exponent [.ref 20, .int x] (mV C u a b V M R) (.inl (some (.int (if outB x (nI n) then 0 else re (V (n - 1 - x.toNatClampNeg)))))) (mV C u (fu a 0 (if outB x (nI n) then 1 else 0)) b V M R) := by
  refine ⟨0, Nat.zero_le _, ?_⟩
  refine zR_to 6 (st' := [.int (a 7), .int x, .ref 20]) rfl ?_
  rw [hn]
  refine zR_i rfl rfl rfl rfl ⟨Nat.le_of_ble_eq_true rfl, Nat.le_of_ble_eq_true rfl, Nat.le_of_ble_eq_true rfl⟩ rfl (Nat.le_refl _) (e_Mo_out (x := x) (y := nI n)) rfl rfl ?_
  rw [show decide (x < 0 ∨ nI n ≤ x) = outB x (nI n) from rfl]
  cases ho : outB x (nI n) with
  | true =>
    refine zR_to 44 (h1 := mV C u (fu a 0 1) b V M R) rfl ?_
    exact zR_e rfl rfl rfl rfl rfl rfl
  | false =>
    obtain ⟨j, hj, rfl⟩ := outB_f (by omega) ho
    refine zR_to 43 (st' := [.int (a 7 - 1 - nI j), .ref 23]) (h1 := mV C u (fu a 0 0) b V M R) rfl ?_
    rw [hn, nI_m1' (by omega), pk_sub (show j ≤ n - 1 by omega)]
    refine zX_get (n := n - 1 - j) rfl rfl (by omega) rfl ?_
    rw [nI_clamp (by omega)]
    exact zR_e rfl rfl rfl rfl rfl rfl
set_option maxRecDepth 10000 in
theorem e_Mo_significand {x : Int32} {n : Nat} (hn : a 7 = nI n) (hn8 : n ≤ 8) : zE L xs (d + 1) m_Mo_significand [.ref 20, .int x] (mV C u a b V M R) (.inl (some (.long (if outB x (nI n) then 0 else (V (n - 1 - x.toNatClampNeg)).2.2.2)))) (mV C u (fu a 0 (if outB x (nI n) then 1 else 0)) b V M R) := by
  refine ⟨0, Nat.zero_le _, ?_⟩
  refine zR_to 6 (st' := [.int (a 7), .int x, .ref 20]) rfl ?_
  rw [hn]
  refine zR_i rfl rfl rfl rfl ⟨Nat.le_of_ble_eq_true rfl, Nat.le_of_ble_eq_true rfl, Nat.le_of_ble_eq_true rfl⟩ rfl (Nat.le_refl _) (e_Mo_out (x := x) (y := nI n)) rfl rfl ?_
  rw [show decide (x < 0 ∨ nI n ≤ x) = outB x (nI n) from rfl]
  cases ho : outB x (nI n) with
  | true =>
    refine zR_to 44 (h1 := mV C u (fu a 0 1) b V M R) rfl ?_
    exact zR_e rfl rfl rfl rfl rfl rfl
  | false =>
    obtain ⟨j, hj, rfl⟩ := outB_f (by omega) ho
    refine zR_to 43 (st' := [.int (a 7 - 1 - nI j), .ref 24]) (h1 := mV C u (fu a 0 0) b V M R) rfl ?_
    rw [hn, nI_m1' (by omega), pk_sub (show j ≤ n - 1 by omega)]
    refine zS_get (n := n - 1 - j) rfl rfl (by omega) rfl ?_
    rw [nI_clamp (by omega)]
    exact zR_e rfl rfl rfl rfl rfl rfl
end KI
end
section
section KI
variable {L : Nat} {xs : Nat → Int32} {d : Nat} {C : Nat → zC} {u : zC} {a : Nat → Int32} {b : Nat → Int64} {M : Nat → Int64} {R : Nat → Nat} {V : Nat → RV}
set_option maxRecDepth 10000 in
theorem e_Mo_kind {x : Int32} {n : Nat} (hn : a 7 = nI n) (hn8 : n ≤ 8) : zE L xs (d + 1) m_Mo_kind [.ref 20, .int x] (mV C u a b V M R) (.inl (some (.int (if outB x (nI n) then 0 else rk (V (n - 1 - x.toNatClampNeg)) + (if rn (V (n - 1 - x.toNatClampNeg)) then 4 else 0))))) (mV C u (fu a 0 (if outB x (nI n) then 1 else 0)) b V M R) := by
  refine ⟨0, Nat.zero_le _, ?_⟩
  refine zR_to 6 (st' := [.int (a 7), .int x, .ref 20]) rfl ?_
  rw [hn]
  refine zR_i rfl rfl rfl rfl ⟨Nat.le_of_ble_eq_true rfl, Nat.le_of_ble_eq_true rfl, Nat.le_of_ble_eq_true rfl⟩ rfl (Nat.le_refl _) (e_Mo_out (x := x) (y := nI n)) rfl rfl ?_
  rw [show decide (x < 0 ∨ nI n ≤ x) = outB x (nI n) from rfl]
  cases ho : outB x (nI n) with
  | true =>
    refine zR_to 66 (h1 := mV C u (fu a 0 1) b V M R) rfl ?_
    exact zR_e rfl rfl rfl rfl rfl rfl
  | false =>
    obtain ⟨j, hj, rfl⟩ := outB_f (by omega) ho
    refine zR_to 43 (st' := [.int (a 7 - 1 - nI j), .ref 21]) (h1 := mV C u (fu a 0 0) b V M R) rfl ?_
    rw [hn, nI_m1' (by omega), pk_sub (show j ≤ n - 1 by omega)]
    refine zK_get (n := n - 1 - j) rfl rfl (by omega) rfl ?_
    refine zR_to 56 (st' := [.int (a 7 - 1 - nI j), .ref 22, .int (rk (V (n - 1 - j)))]) rfl ?_
    rw [hn, nI_m1' (by omega), pk_sub (show j ≤ n - 1 by omega)]
    refine zB_get (n := n - 1 - j) rfl rfl (by omega) rfl ?_
    rw [nI_clamp (by omega)]
    show zR _ _ _ _ _ _ [Value.int (bI (rn (V (n - 1 - j)))), Value.int (rk (V (n - 1 - j)))] _ _ _ _ _
    cases hb : rn (V (n - 1 - j)) with
    | true =>
      refine zR_to 66 (st' := [.int (rk (V (n - 1 - j)) + 4)]) rfl ?_
      exact zR_e rfl rfl rfl rfl rfl rfl
    | false =>
      refine zR_to 66 (st' := [.int (rk (V (n - 1 - j)) + 0)]) rfl ?_
      exact zR_e rfl rfl rfl rfl rfl rfl
end KI
end
section
/-! control and the head of operate of the reference -/
def ctB (p r m : Int32) : Bool := (decide (p ≠ 24) && (decide (p ≠ 53) && decide (p ≠ 64))) || (outB r (nI 4) || outB m (nI 32))
def plc (op : Nat) : Bool := decide (op = 10 ∨ op = 11)
/-- the ints after begin -/
def beA (a : Nat → Int32) (B t : Nat) : Nat → Int32 := fu (fu (goA (fu a 0 0) B B) 13 (nI t)) 5 0
section OP
variable {L : Nat} {xs : Nat → Int32} {d : Nat} {C : Nat → zC} {u : zC} {a : Nat → Int32} {b : Nat → Int64} {M : Nat → Int64} {R : Nat → Nat} {V : Nat → RV}
set_option maxRecDepth 10000 in
theorem e_Mo_control {p r m : Int32} : zE L xs (d + 1) m_Mo_control [.ref 20, .int p, .int r, .int m] (mV C u a b V M R) (.inl none) (mV C u (if ctB p r m then fu a 0 1 else fu (fu (fu (fu a 0 0) 1 p) 2 r) 3 m) b V M R) := by
  have bad : ctB p r m = true → zR L xs (d + 1) m_Mo_control 36 [(0, .ref 20), (1, .int p), (2, .int r), (3, .int m)] [.ref 20] (mV C u a b V M R) 0 (.inl none) (mV C u (if ctB p r m then fu a 0 1 else fu (fu (fu (fu a 0 0) 1 p) 2 r) 3 m) b V M R) 0 := by
    intro h
    rw [h]
    refine zR_to 51 (h1 := mV C u (fu a 0 1) b V M R) rfl ?_
    exact zR_e rfl rfl rfl rfl rfl rfl
  have mid : (p = 24 ∨ p = 53 ∨ p = 64) → zR L xs (d + 1) m_Mo_control 19 [(0, .ref 20), (1, .int p), (2, .int r), (3, .int m)] [.ref 20] (mV C u a b V M R) 0 (.inl none) (mV C u (if ctB p r m then fu a 0 1 else fu (fu (fu (fu a 0 0) 1 p) 2 r) 3 m) b V M R) 0 := by
    intro hp
    refine zR_to 21 (st' := [.int (nI 4), .int r, .ref 20]) rfl ?_
    refine zR_i rfl rfl rfl rfl ⟨Nat.le_of_ble_eq_true rfl, Nat.le_of_ble_eq_true rfl, Nat.le_of_ble_eq_true rfl⟩ rfl (Nat.le_refl _) (e_Mo_out (x := r) (y := nI 4)) rfl rfl ?_
    rw [show decide (r < 0 ∨ nI 4 ≤ r) = outB r (nI 4) from rfl]
    cases h1 : outB r (nI 4) with
    | true => exact zR_to 36 rfl (bad (by unfold ctB; rw [h1]; simp))
    | false =>
      refine zR_to 30 (st' := [.int (nI 32), .int m, .ref 20]) rfl ?_
      refine zR_i rfl rfl rfl rfl ⟨Nat.le_of_ble_eq_true rfl, Nat.le_of_ble_eq_true rfl, Nat.le_of_ble_eq_true rfl⟩ rfl (Nat.le_refl _) (e_Mo_out (x := m) (y := nI 32)) rfl rfl ?_
      rw [show decide (m < 0 ∨ nI 32 ≤ m) = outB m (nI 32) from rfl]
      cases h2 : outB m (nI 32) with
      | true => exact zR_to 36 rfl (bad (by unfold ctB; rw [h2]; simp))
      | false =>
        have h3 : ctB p r m = false := by
          unfold ctB
          rw [h1, h2]
          rcases hp with rfl | rfl | rfl <;> rfl
        rw [h3]
        refine zR_to 67 (h1 := mV C u (fu (fu (fu (fu a 0 0) 1 p) 2 r) 3 m) b V M R) rfl ?_
        exact zR_e rfl rfl rfl rfl rfl rfl
  refine ⟨0, Nat.zero_le _, ?_⟩
  refine zR_to 4 (st' := [.int 24, .int p, .ref 20]) rfl ?_
  refine zR_m 1 rfl ?_
  refine zR_if (fun h => mid (Or.inl h)) (fun h1 => ?_)
  refine zR_to 10 (st' := [.int 53, .int p, .ref 20]) rfl ?_
  refine zR_m 1 rfl ?_
  refine zR_if (fun h => mid (Or.inr (Or.inl h))) (fun h2 => ?_)
  refine zR_to 16 (st' := [.int 64, .int p, .ref 20]) rfl ?_
  refine zR_m 1 rfl ?_
  refine zR_if (fun h => zR_to 36 rfl (bad ?_)) (fun h => mid (Or.inr (Or.inr (Decidable.of_not_not h))))
  unfold ctB
  rw [decide_eq_true (show p ≠ 24 from h1), decide_eq_true (show p ≠ 53 from h2), decide_eq_true (show p ≠ 64 from h)]
  rfl
set_option maxRecDepth 10000 in
theorem h_Mo_operate {op B : Nat} {x : Int32} {o : zO} {h9 : zH} (hop : op < 16) (hx : plc op = true → outB x (nI 8) = false) (hB : a 13 = nI B) (hB2 : B ≤ 1000) (hce : ∀ c, a 14 = c → ¬ c < 0 → ∃ j : Nat, j < 8 ∧ c = nI j)
    (hr : zR L xs (d + 2) m_Mo_operate 66 [(3, .int (bI (plc op))), (0, .ref 20), (1, .int (nI op)), (2, .int x)] [] (mV C u (beA a B (costN op)) (goB b B) V (goM (fu a 0 0) b M B B) R) 0 o h9 0) : zE L xs (d + 2) m_Mo_operate [.ref 20, .int (nI op), .int x] (mV C u a b V M R) o h9 := by
  have ho : decide (nI op < 0 ∨ nI 16 ≤ nI op) = false := decide_eq_false (fun h9 => by
    rcases h9 with h9 | h9
    · exact nI_pos (n := op) (by omega) h9
    · exact nI_ge (a := op) (b := 16) hop (by decide) h9)
  have kk : ∀ pl : Bool, plc op = pl → zR L xs (d + 2) m_Mo_operate 58 [(3, .int (bI pl)), (0, .ref 20), (1, .int (nI op)), (2, .int x)] [] (mV C u (fu a 0 0) b V M R) 0 o h9 0 := by
    intro pl hpl
    rw [hpl] at hr
    refine zR_to 60 (st' := [.int (nI op), .ref 20]) rfl ?_
    refine zR_i rfl rfl rfl rfl ⟨Nat.le_of_ble_eq_true rfl, Nat.le_of_ble_eq_true rfl, Nat.le_of_ble_eq_true rfl⟩ rfl (Nat.le_refl _) (e_Mo_cost hop) rfl rfl ?_
    exact zR_v rfl rfl rfl rfl rfl ⟨rfl, Nat.le_of_ble_eq_true rfl, Nat.le_of_ble_eq_true rfl⟩ rfl (Nat.le_refl _) (e_Mo_begin (a := fu a 0 0) (B := B) (t := costN op) hB hB2 hce) rfl rfl hr
  have go : ∀ pl : Bool, plc op = pl → zR L xs (d + 2) m_Mo_operate 18 [(3, .int (bI pl)), (0, .ref 20), (1, .int (nI op)), (2, .int x)] [] (mV C u a b V M R) 0 o h9 0 := by
    intro pl hpl
    refine zR_to 22 (st' := [.int (nI 16), .int (nI op), .ref 20]) rfl ?_
    refine zR_i rfl rfl rfl rfl ⟨Nat.le_of_ble_eq_true rfl, Nat.le_of_ble_eq_true rfl, Nat.le_of_ble_eq_true rfl⟩ rfl (Nat.le_refl _) (e_Mo_out (x := nI op) (y := nI 16)) rfl rfl ?_
    rw [ho]
    cases pl with
    | false => exact zR_to 58 (h1 := mV C u (fu a 0 0) b V M R) rfl (kk false hpl)
    | true =>
      refine zR_to 35 (st' := [.int (nI 8), .int x, .ref 20]) rfl ?_
      refine zR_i rfl rfl rfl rfl ⟨Nat.le_of_ble_eq_true rfl, Nat.le_of_ble_eq_true rfl, Nat.le_of_ble_eq_true rfl⟩ rfl (Nat.le_refl _) (e_Mo_out (x := x) (y := nI 8)) rfl rfl ?_
      rw [show decide (x < 0 ∨ nI 8 ≤ x) = false from hx hpl]
      exact zR_to 58 (h1 := mV C u (fu a 0 0) b V M R) rfl (kk true hpl)
  refine ⟨0, Nat.zero_le _, ?_⟩
  refine zR_to 3 (st' := [.int (nI 10), .int (nI op)]) rfl ?_
  refine zR_m 1 rfl ?_
  refine zR_if (fun h => zR_to 18 rfl (go true (decide_eq_true (Or.inl ((nI_eq (by omega) (by omega)).mp h))))) (fun h1 => ?_)
  refine zR_to 9 (st' := [.int (nI 11), .int (nI op)]) rfl ?_
  refine zR_m 1 rfl ?_
  refine zR_if (fun h => zR_to 18 rfl (go false (decide_eq_false (fun h9 => ?_)))) (fun h => zR_to 18 rfl (go true (decide_eq_true (Or.inr ((nI_eq (by omega) (by omega)).mp (Decidable.of_not_not h))))))
  rcases h9 with rfl | rfl
  · exact h1 rfl
  · exact h rfl
set_option maxRecDepth 10000 in
/-- a refused argument -/
theorem e_Mo_operate0 {y x : Int32} (hb : outB y (nI 16) = true ∨ ((y = nI 10 ∨ y = nI 11) ∧ outB x (nI 8) = true)) : zE L xs (d + 2) m_Mo_operate [.ref 20, .int y, .int x] (mV C u a b V M R) (.inl (some (.int 0))) (mV C u (fu a 0 1) b V M R) := by
  have bad : ∀ z : Int32, zR L xs (d + 2) m_Mo_operate 41 [(3, .int z), (0, .ref 20), (1, .int y), (2, .int x)] [.ref 20] (mV C u a b V M R) 0 (.inl (some (.int 0))) (mV C u (fu a 0 1) b V M R) 0 := by
    intro z
    refine zR_to 57 (st' := [.int 0]) (h1 := mV C u (fu a 0 1) b V M R) rfl ?_
    exact zR_e rfl rfl rfl rfl rfl rfl
  have go : ∀ pl : Bool, (y = nI 10 ∨ y = nI 11 → pl = true) → zR L xs (d + 2) m_Mo_operate 18 [(3, .int (bI pl)), (0, .ref 20), (1, .int y), (2, .int x)] [] (mV C u a b V M R) 0 (.inl (some (.int 0))) (mV C u (fu a 0 1) b V M R) 0 := by
    intro pl hpl
    refine zR_to 22 (st' := [.int (nI 16), .int y, .ref 20]) rfl ?_
    refine zR_i rfl rfl rfl rfl ⟨Nat.le_of_ble_eq_true rfl, Nat.le_of_ble_eq_true rfl, Nat.le_of_ble_eq_true rfl⟩ rfl (Nat.le_refl _) (e_Mo_out (x := y) (y := nI 16)) rfl rfl ?_
    rw [show decide (y < 0 ∨ nI 16 ≤ y) = outB y (nI 16) from rfl]
    cases h1 : outB y (nI 16) with
    | true => exact zR_to 41 rfl (bad _)
    | false =>
      rcases hb with h9 | ⟨h9, h8⟩
      · rw [h1] at h9
        cases h9
      · obtain rfl := hpl h9
        refine zR_to 35 (st' := [.int (nI 8), .int x, .ref 20]) rfl ?_
        refine zR_i rfl rfl rfl rfl ⟨Nat.le_of_ble_eq_true rfl, Nat.le_of_ble_eq_true rfl, Nat.le_of_ble_eq_true rfl⟩ rfl (Nat.le_refl _) (e_Mo_out (x := x) (y := nI 8)) rfl rfl ?_
        rw [show decide (x < 0 ∨ nI 8 ≤ x) = true from h8]
        exact zR_to 41 rfl (bad _)
  refine ⟨0, Nat.zero_le _, ?_⟩
  refine zR_to 3 (st' := [.int (nI 10), .int y]) rfl ?_
  refine zR_m 1 rfl ?_
  refine zR_if (fun h => zR_to 18 rfl (go true (fun _ => rfl))) (fun h1 => ?_)
  refine zR_to 9 (st' := [.int (nI 11), .int y]) rfl ?_
  refine zR_m 1 rfl ?_
  refine zR_if (fun h => zR_to 18 rfl (go false (fun h9 => ?_))) (fun h => zR_to 18 rfl (go true (fun _ => rfl)))
  rcases h9 with h9 | h9
  · exact absurd h9 h1
  · exact absurd h9 h
end OP
end
section
/-! operate of the reference: its outcome as (exceptions, depth, values, condition) -/
def thr (mk x : Int32) : Bool := decide (x &&& (mk ^^^ (-1)) ≠ 0)
def oPost (a : Nat → Int32) (V : Nat → RV) (x : Int32) (n n' : Nat) (v' : Nat → RV) (cd' : Int32) (a' : Nat → Int32) (V' : Nat → RV) : Prop :=
  a' 0 = (if thr (a 3) x then 2 else 0) ∧ a' 1 = a 1 ∧ a' 2 = a 2 ∧ a' 3 = a 3 ∧ a' 4 = a 4 ||| x ∧ a' 6 = (if thr (a 3) x then a 6 else cd') ∧ a' 7 = (if thr (a 3) x then nI n else nI n') ∧ a' 13 = a 13 ∧ a' 14 = a 14 ∧ ∀ i, i < 8 → V' i = if thr (a 3) x then V i else v' i
theorem i0or (x : Int32) : (0 : Int32) ||| x = x := by
  apply Int32.toBitVec_inj.mp
  simp
theorem thB_nt {a : Nat → Int32} {x : Int32} (h : a 5 = 0) : thB (nt a x) = thr (a 3) x := by
  unfold thB thr
  rw [show nt a x 5 = a 5 ||| x from rfl, h, i0or, show nt a x 3 = a 3 from rfl]
theorem thB_1 {a : Nat → Int32} : thB (fu a 5 1) = thr (a 3) 1 := rfl
section OP
variable {L : Nat} {xs : Nat → Int32} {d : Nat} {C : Nat → zC} {u : zC} {a : Nat → Int32} {b : Nat → Int64} {M : Nat → Int64} {R : Nat → Nat} {V : Nat → RV}
/-- refused -/
theorem oP_no {n : Nat} {V' : Nat → RV} (hn : a 7 = nI n) (hV : ∀ i, i < 8 → V' i = V i) : oPost a V 1 n n V (a 6) (thA (fu a 5 1)) V' := by
  refine ⟨?_, rfl, rfl, rfl, rfl, ?_, ?_, rfl, rfl, fun i hi => ?_⟩
  · show (if thB (fu a 5 1) then (2 : Int32) else 0) = _
    rw [thB_1]
  · show a 6 = _
    split <;> rfl
  · show a 7 = _
    rw [hn]
    split <;> rfl
  · rw [hV i hi]
    split <;> rfl
theorem oP_ch {n g : Nat} {x : Int32} {V' : Nat → RV} {v10 : RV} (h5 : a 5 = 0) (hn : a 7 = nI n) (hg : n - g ≠ 8) (hV : ∀ i, i < 8 → V' i = V i) (hv : V' 10 = v10) : oPost a V x n (n - g + 1) (fu V (n - g) v10) (a 6) (chA (nt a x) n g) (chV (nt a x) V' n g) := by
  unfold chA chV
  rw [if_neg hg, if_neg hg, thB_nt h5]
  unfold oPost
  cases ht : thr (a 3) x with
  | true =>
    simp only [if_true]
    refine ⟨?_, rfl, rfl, rfl, ?_, rfl, hn, rfl, rfl, hV⟩
    · show (if thB (nt a x) then (2 : Int32) else 0) = _
      rw [thB_nt h5, ht]
      rfl
    · show a 4 ||| (a 5 ||| x) = _
      rw [h5, i0or]
  | false =>
    simp only [Bool.false_eq_true, if_false]
    refine ⟨?_, rfl, rfl, rfl, ?_, rfl, rfl, rfl, rfl, fun i hi => ?_⟩
    · show (if thB (nt a x) then (2 : Int32) else 0) = _
      rw [thB_nt h5, ht]
      rfl
    · show a 4 ||| (a 5 ||| x) = _
      rw [h5, i0or]
    · rw [hv]
      unfold fu
      split
      · rfl
      · exact hV i hi
theorem chO_ch {n g : Nat} {x : Int32} (h5 : a 5 = 0) (hg : n - g ≠ 8) : chO (nt a x) n g = if thr (a 3) x then 0 else x := by
  unfold chO
  rw [if_neg hg, thB_nt h5, show nt a x 5 = a 5 ||| x from rfl, h5, i0or]
theorem oP_fl {n : Nat} {V' : Nat → RV} (h8 : n = 8) (hn : a 7 = nI n) (hV : ∀ i, i < 8 → V' i = V i) : oPost a V 1 n n V (a 6) (chA a n 0) (chV a V' n 0) := by
  unfold chA chV
  rw [if_pos (show n - 0 = 8 by omega), if_pos (show n - 0 = 8 by omega)]
  exact oP_no hn hV
theorem chO_fl {n : Nat} (h8 : n = 8) : chO a n 0 = if thr (a 3) 1 then 0 else 1 := by
  unfold chO
  rw [if_pos (show n - 0 = 8 by omega), thB_1]
set_option maxRecDepth 10000 in
theorem q_Mo_few {l n : Nat} {tw pl : Bool} {y x : Int32} (hn : a 7 = nI n) (hl : n < l) (hl9 : l ≤ 9) : zR L xs (d + 2) m_Mo_operate 122 [(5, .int (nI l)), (4, .int (bI tw)), (3, .int (bI pl)), (0, .ref 20), (1, .int y), (2, .int x)] [] (mV C u a b V M R) 0 (.inl (some (.int (if thr (a 3) 1 then 0 else 1)))) (mV C u (thA (fu a 5 1)) b V M R) 0 := by
  refine zR_to 128 (st' := [.int (nI l), .int (a 7)]) rfl ?_
  rw [hn]
  refine zR_m 1 rfl ?_
  refine zR_if (fun h => absurd h (nI_ge (a := n) (b := l) hl (by omega))) (fun _ => ?_)
  refine zR_to 132 rfl ?_
  refine zR_v rfl rfl rfl rfl rfl ⟨rfl, Nat.le_of_ble_eq_true rfl, Nat.le_of_ble_eq_true rfl⟩ rfl (Nat.le_refl _) e_Mo_refuse rfl rfl ?_
  exact zR_e rfl rfl rfl rfl rfl rfl
set_option maxRecDepth 10000 in
theorem q_Mo_two {n : Nat} {pl : Bool} {y x : Int32} {o : zO} {h9 : zH} (hn : a 7 = nI n) (h2 : 2 ≤ n) (hn8 : n ≤ 8)
    (hr : zR L xs (d + 1) m_Mo_operate 170 [(0, .ref 20), (1, .int y), (2, .int x)] [] (mV C u a b (fu (fu V 8 (V (n - 1))) 9 (V (n - 2))) M R) 0 o h9 0) :
    zR L xs (d + 1) m_Mo_operate 122 [(5, .int (nI 2)), (4, .int (bI true)), (3, .int (bI pl)), (0, .ref 20), (1, .int y), (2, .int x)] [] (mV C u a b V M R) 0 o h9 0 := by
  refine zR_to 128 (st' := [.int (nI 2), .int (a 7)]) rfl ?_
  rw [hn]
  refine zR_m 1 rfl ?_
  refine zR_if (fun _ => ?_) (fun h => absurd ((nI_leI (by omega) (by omega)).mpr h2) h)
  refine zR_to 150 (st' := [.int (nI 8), .int (a 7 - 1), .ref 20]) rfl ?_
  rw [hn, nI_m1' (by omega)]
  refine zR_v rfl rfl rfl rfl rfl ⟨rfl, Nat.le_of_ble_eq_true rfl, Nat.le_of_ble_eq_true rfl⟩ rfl (Nat.le_refl _) (e_Mo_copy (f := n - 1) (t := 8) (by omega) (by decide)) rfl rfl ?_
  refine zR_to 167 (st' := [.int (nI 9), .int (a 7 - nI 2), .ref 20]) rfl ?_
  rw [hn, pk_sub h2]
  refine zR_v rfl rfl rfl rfl rfl ⟨rfl, Nat.le_of_ble_eq_true rfl, Nat.le_of_ble_eq_true rfl⟩ rfl (Nat.le_refl _) (e_Mo_copy (f := n - 2) (t := 9) (by omega) (by decide)) rfl rfl ?_
  rw [fu_n (show n - 2 ≠ 8 by omega)]
  exact zR_w hr rfl rfl ⟨rfl, rfl, rfl, trivial⟩
set_option maxRecDepth 10000 in
theorem q_Mo_one {l n : Nat} {pl : Bool} {y x : Int32} {o : zO} {h9 : zH} (hn : a 7 = nI n) (h1 : 1 ≤ l) (hl : l ≤ n) (hn8 : n ≤ 8)
    (hr : zR L xs (d + 1) m_Mo_operate 170 [(0, .ref 20), (1, .int y), (2, .int x)] [] (mV C u a b (fu V 8 (V (n - 1))) M R) 0 o h9 0) :
    zR L xs (d + 1) m_Mo_operate 122 [(5, .int (nI l)), (4, .int (bI false)), (3, .int (bI pl)), (0, .ref 20), (1, .int y), (2, .int x)] [] (mV C u a b V M R) 0 o h9 0 := by
  refine zR_to 128 (st' := [.int (nI l), .int (a 7)]) rfl ?_
  rw [hn]
  refine zR_m 1 rfl ?_
  refine zR_if (fun _ => ?_) (fun h => absurd ((nI_leI (by omega) (by omega)).mpr hl) h)
  refine zR_to 138 rfl ?_
  refine zR_m 1 rfl ?_
  refine zR_if (fun h => absurd ((nI_leI (a := l) (b := 0) (by omega) (by omega)).mp h) (by omega)) (fun _ => ?_)
  refine zR_to 150 (st' := [.int (nI 8), .int (a 7 - 1), .ref 20]) rfl ?_
  rw [hn, nI_m1' (by omega)]
  refine zR_v rfl rfl rfl rfl rfl ⟨rfl, Nat.le_of_ble_eq_true rfl, Nat.le_of_ble_eq_true rfl⟩ rfl (Nat.le_refl _) (e_Mo_copy (f := n - 1) (t := 8) (by omega) (by decide)) rfl rfl ?_
  refine zR_to 170 rfl ?_
  exact zR_w hr rfl rfl ⟨rfl, rfl, rfl, trivial⟩
set_option maxRecDepth 10000 in
theorem q_Mo_non {n : Nat} {pl : Bool} {y x : Int32} {o : zO} {h9 : zH} (hn : a 7 = nI n) (hn8 : n ≤ 8)
    (hr : zR L xs (d + 1) m_Mo_operate 170 [(0, .ref 20), (1, .int y), (2, .int x)] [] (mV C u a b V M R) 0 o h9 0) :
    zR L xs (d + 1) m_Mo_operate 122 [(5, .int (nI 0)), (4, .int (bI false)), (3, .int (bI pl)), (0, .ref 20), (1, .int y), (2, .int x)] [] (mV C u a b V M R) 0 o h9 0 := by
  refine zR_to 128 (st' := [.int (nI 0), .int (a 7)]) rfl ?_
  rw [hn]
  refine zR_m 1 rfl ?_
  refine zR_if (fun _ => ?_) (fun h => absurd ((nI_leI (a := 0) (b := n) (by omega) (by omega)).mpr (by omega)) h)
  refine zR_to 170 rfl ?_
  exact zR_w hr rfl rfl ⟨rfl, rfl, rfl, trivial⟩
end OP
end
section
theorem goA_at {a : Nat → Int32} {B n i : Nat} (h1 : i ≠ 13) (h2 : i ≠ 14) : goA a B n i = a i := by
  unfold goA
  split
  · rfl
  · split
    · rw [fu_n h2, fu_n h1]
    · rw [fu_n h1]
theorem beA_at {a : Nat → Int32} {B t i : Nat} (h0 : i ≠ 0) (h5 : i ≠ 5) (h1 : i ≠ 13) (h2 : i ≠ 14) : beA a B t i = a i := by
  unfold beA
  rw [fu_n h5, fu_n h1, goA_at h1 h2, fu_n h0]
theorem beA_5 {a : Nat → Int32} {B t : Nat} : beA a B t 5 = 0 := fu_s
theorem beA_13 {a : Nat → Int32} {B t : Nat} : beA a B t 13 = nI t := by
  unfold beA
  rw [fu_n (by decide), fu_s]
/-- what operate of the reference ends in -/
def MoOp (L : Nat) (xs : Nat → Int32) (d : Nat) (C : Nat → zC) (u : zC) (a : Nat → Int32) (b : Nat → Int64) (V : Nat → RV) (M : Nat → Int64) (R : Nat → Nat) (B n t : Nat) (y x e : Int32) (n' : Nat) (v' : Nat → RV) (cd' : Int32) : Prop := ∃ a' V' R', Rok R' ∧ oPost (beA a B t) V e n n' v' cd' a' V' ∧ zE L xs (d + 8) m_Mo_operate [.ref 20, .int y, .int x] (mV C u a b V M R) (.inl (some (.int (if thr (a 3) e then 0 else e)))) (mV C u a' (goB b B) V' (goM (fu a 0 0) b M B B) R')
section OQ
variable {L : Nat} {xs : Nat → Int32} {d : Nat} {C : Nat → zC} {u : zC} {a : Nat → Int32} {b : Nat → Int64} {M : Nat → Int64} {R : Nat → Nat} {V V1 : Nat → RV}
set_option maxRecDepth 10000 in
theorem o_Mo_few {op n l B : Nat} {x : Int32} {tw : Bool} (hop : op < 16) (hx : plc op = true → outB x (nI 8) = false) (hB : a 13 = nI B) (hB2 : B ≤ 1000) (hce : ∀ c, a 14 = c → ¬ c < 0 → ∃ j : Nat, j < 8 ∧ c = nI j) (hn : a 7 = nI n) (hl : n < l) (hl9 : l ≤ 9) (hR : Rok R)
    (hpre : ∀ {o : zO} {h9 : zH}, zR L xs (d + 8) m_Mo_operate 122 [(5, .int (nI l)), (4, .int (bI tw)), (3, .int (bI (plc op))), (0, .ref 20), (1, .int (nI op)), (2, .int x)] [] (mV C u (beA a B (costN op)) (goB b B) V (goM (fu a 0 0) b M B B) R) 0 o h9 0 → zR L xs (d + 8) m_Mo_operate 66 [(3, .int (bI (plc op))), (0, .ref 20), (1, .int (nI op)), (2, .int x)] [] (mV C u (beA a B (costN op)) (goB b B) V (goM (fu a 0 0) b M B B) R) 0 o h9 0) :
    MoOp L xs d C u a b V M R B n (costN op) (nI op) x 1 n V (a 6) := by
  have e7 : beA a B (costN op) 7 = nI n := (beA_at (by decide) (by decide) (by decide) (by decide)).trans hn
  have e6 : beA a B (costN op) 6 = a 6 := beA_at (by decide) (by decide) (by decide) (by decide)
  have e3 : beA a B (costN op) 3 = a 3 := beA_at (by decide) (by decide) (by decide) (by decide)
  refine ⟨_, V, R, hR, e6 ▸ oP_no e7 (fun _ _ => rfl), ?_⟩
  refine h_Mo_operate (d := d + 6) hop hx hB hB2 hce (hpre ?_)
  have h9 := q_Mo_few (L := L) (xs := xs) (d := d + 6) (C := C) (u := u) (a := beA a B (costN op)) (b := goB b B) (V := V) (M := goM (fu a 0 0) b M B B) (R := R) (tw := tw) (pl := plc op) (y := nI op) (x := x) e7 hl hl9
  rw [e3] at h9
  exact h9
set_option maxRecDepth 10000 in
theorem o_Mo_reck {op n B : Nat} {x : Int32} {r : RV × Int32} (hop : op < 4) (hB : a 13 = nI B) (hB2 : B ≤ 1000) (hce : ∀ c, a 14 = c → ¬ c < 0 → ∃ j : Nat, j < 8 ∧ c = nI j) (hn : a 7 = nI n) (hn8 : n ≤ 8) (h2 : 2 ≤ n)
    (hrec : ∃ R' V', Rok R' ∧ V' 10 = r.1 ∧ (∀ i, i < 8 → V' i = fu (fu V 8 (V (n - 1))) 9 (V (n - 2)) i) ∧ zE L xs (d + 7) m_Mo_reckon [.ref 20, .int (nI op)] (mV C u (beA a B (costN op)) (goB b B) (fu (fu V 8 (V (n - 1))) 9 (V (n - 2))) (goM (fu a 0 0) b M B B) R) (.inl none) (mV C u (nt (beA a B (costN op)) r.2) (goB b B) V' (goM (fu a 0 0) b M B B) R')) :
    MoOp L xs d C u a b V M R B n (costN op) (nI op) x r.2 (n - 1) (fu V (n - 2) r.1) (a 6) := by
  obtain ⟨R', V', hR', h10, hV, hz⟩ := hrec
  have e7 : beA a B (costN op) 7 = nI n := (beA_at (by decide) (by decide) (by decide) (by decide)).trans hn
  have e6 : beA a B (costN op) 6 = a 6 := beA_at (by decide) (by decide) (by decide) (by decide)
  have e3 : beA a B (costN op) 3 = a 3 := beA_at (by decide) (by decide) (by decide) (by decide)
  have hP := oP_ch (a := beA a B (costN op)) (V := V) (n := n) (g := 2) (x := r.2) (V' := V') beA_5 e7 (by omega) (fun i hi => by rw [hV i hi, fu_n (by omega), fu_n (by omega)]) h10
  rw [show n - 2 + 1 = n - 1 by omega, e6] at hP
  refine ⟨_, _, R', hR', hP, ?_⟩
  refine h_Mo_operate (d := d + 6) (by omega) (fun h => absurd (of_decide_eq_true h) (by omega)) hB hB2 hce ?_
  have tail : zR L xs (d + 8) m_Mo_operate 170 [(0, .ref 20), (1, .int (nI op)), (2, .int x)] [] (mV C u (beA a B (costN op)) (goB b B) (fu (fu V 8 (V (n - 1))) 9 (V (n - 2))) (goM (fu a 0 0) b M B B) R) 0 (.inl (some (.int (if thr (a 3) r.2 then 0 else r.2)))) (mV C u (chA (nt (beA a B (costN op)) r.2) n 2) (goB b B) (chV (nt (beA a B (costN op)) r.2) V' n 2) (goM (fu a 0 0) b M B B) R') 0 := by
    refine zR_to 172 (st' := [.int (nI 4), .int (nI op)]) rfl ?_
    refine zR_m 1 rfl ?_
    refine zR_if (fun h => absurd h (nI_ge (a := op) (b := 4) hop (by decide))) (fun _ => ?_)
    refine zR_to 177 (st' := [.int (nI op), .ref 20]) rfl ?_
    refine zR_v rfl rfl rfl rfl rfl ⟨rfl, Nat.le_of_ble_eq_true rfl, Nat.le_of_ble_eq_true rfl⟩ rfl (Nat.le_refl _) hz rfl rfl ?_
    refine zR_to 182 (st' := [.int (nI 2), .ref 20]) rfl ?_
    refine zR_v rfl rfl rfl rfl rfl ⟨rfl, Nat.le_of_ble_eq_true rfl, Nat.le_of_ble_eq_true rfl⟩ rfl (Nat.le_refl _) (e_Mo_change (n := n) (g := 2) e7 hn8 h2) rfl rfl ?_
    exact zR_q rfl rfl rfl rfl rfl (by rw [chO_ch beA_5 (by omega), e3]) rfl
  have hq := q_Mo_two (L := L) (xs := xs) (d := d + 7) (pl := plc op) e7 h2 hn8 tail
  obtain rfl | rfl | rfl | rfl : op = 0 ∨ op = 1 ∨ op = 2 ∨ op = 3 := by omega
  · exact zR_to 122 rfl hq
  · exact zR_to 122 rfl hq
  · exact zR_to 122 rfl hq
  · exact zR_to 122 rfl hq
set_option maxRecDepth 10000 in
theorem o_Mo_alt {op n B : Nat} {x : Int32} {r : RV × Int32} (hop : op = 4 ∨ op = 5 ∨ op = 6 ∨ op = 8 ∨ op = 9) (hB : a 13 = nI B) (hB2 : B ≤ 1000) (hce : ∀ c, a 14 = c → ¬ c < 0 → ∃ j : Nat, j < 8 ∧ c = nI j) (hn : a 7 = nI n) (hn8 : n ≤ 8) (h1 : 1 ≤ n) (hV : ∀ i, i < 8 → V1 i = V i)
    (hpre : ∀ {o : zO} {h9 : zH}, zR L xs (d + 8) m_Mo_operate 170 [(0, .ref 20), (1, .int (nI op)), (2, .int x)] [] (mV C u (beA a B (costN op)) (goB b B) V1 (goM (fu a 0 0) b M B B) R) 0 o h9 0 → zR L xs (d + 8) m_Mo_operate 66 [(3, .int (bI (plc op))), (0, .ref 20), (1, .int (nI op)), (2, .int x)] [] (mV C u (beA a B (costN op)) (goB b B) V (goM (fu a 0 0) b M B B) R) 0 o h9 0)
    (hal : ∃ R', Rok R' ∧ zE L xs (d + 7) m_Mo_alter [.ref 20, .int (nI op)] (mV C u (beA a B (costN op)) (goB b B) V1 (goM (fu a 0 0) b M B B) R) (.inl none) (mV C u (nt (beA a B (costN op)) r.2) (goB b B) (fu V1 10 r.1) (goM (fu a 0 0) b M B B) R')) :
    MoOp L xs d C u a b V M R B n (costN op) (nI op) x r.2 n (fu V (n - 1) r.1) (a 6) := by
  obtain ⟨R', hR', hz⟩ := hal
  have e7 : beA a B (costN op) 7 = nI n := (beA_at (by decide) (by decide) (by decide) (by decide)).trans hn
  have e6 : beA a B (costN op) 6 = a 6 := beA_at (by decide) (by decide) (by decide) (by decide)
  have e3 : beA a B (costN op) 3 = a 3 := beA_at (by decide) (by decide) (by decide) (by decide)
  have hP := oP_ch (a := beA a B (costN op)) (V := V) (n := n) (g := 1) (x := r.2) (V' := fu V1 10 r.1) beA_5 e7 (by omega) (fun i hi => by rw [fu_n (by omega), hV i hi]) fu_s
  rw [show n - 1 + 1 = n by omega, e6] at hP
  refine ⟨_, _, R', hR', hP, ?_⟩
  refine h_Mo_operate (d := d + 6) (by omega) (fun h => absurd (of_decide_eq_true h) (by omega)) hB hB2 hce (hpre ?_)
  have fin : zR L xs (d + 8) m_Mo_operate 210 [(0, .ref 20), (1, .int (nI op)), (2, .int x)] [] (mV C u (beA a B (costN op)) (goB b B) V1 (goM (fu a 0 0) b M B B) R) 0 (.inl (some (.int (if thr (a 3) r.2 then 0 else r.2)))) (mV C u (chA (nt (beA a B (costN op)) r.2) n 1) (goB b B) (chV (nt (beA a B (costN op)) r.2) (fu V1 10 r.1) n 1) (goM (fu a 0 0) b M B B) R') 0 := by
    refine zR_to 212 (st' := [.int (nI op), .ref 20]) rfl ?_
    refine zR_v rfl rfl rfl rfl rfl ⟨rfl, Nat.le_of_ble_eq_true rfl, Nat.le_of_ble_eq_true rfl⟩ rfl (Nat.le_refl _) hz rfl rfl ?_
    refine zR_to 217 (st' := [.int (nI 1), .ref 20]) rfl ?_
    refine zR_v rfl rfl rfl rfl rfl ⟨rfl, Nat.le_of_ble_eq_true rfl, Nat.le_of_ble_eq_true rfl⟩ rfl (Nat.le_refl _) (e_Mo_change (n := n) (g := 1) e7 hn8 h1) rfl rfl ?_
    exact zR_q rfl rfl rfl rfl rfl (by rw [chO_ch beA_5 (by omega), e3]) rfl
  rcases hop with rfl | rfl | rfl | rfl | rfl
  · exact zR_to 210 rfl fin
  · exact zR_to 210 rfl fin
  · exact zR_to 210 rfl fin
  · exact zR_to 210 rfl fin
  · exact zR_to 210 rfl fin
set_option maxRecDepth 10000 in
theorem o_Mo_ext {n B : Nat} {x e cd' : Int32} {n' : Nat} {v' : Nat → RV} (hB : a 13 = nI B) (hB2 : B ≤ 1000) (hce : ∀ c, a 14 = c → ¬ c < 0 → ∃ j : Nat, j < 8 ∧ c = nI j) (hn : a 7 = nI n) (hn8 : n ≤ 8) (h1 : 1 ≤ n)
    (hex : ∃ a' V' R', Rok R' ∧ oPost (beA a B 6) V e n n' v' cd' a' V' ∧ zE L xs (d + 7) m_Mo_extract [.ref 20] (mV C u (beA a B 6) (goB b B) (fu V 8 (V (n - 1))) (goM (fu a 0 0) b M B B) R) (.inl (some (.int (if thr (a 3) e then 0 else e)))) (mV C u a' (goB b B) V' (goM (fu a 0 0) b M B B) R')) :
    MoOp L xs d C u a b V M R B n 6 (nI 7) x e n' v' cd' := by
  obtain ⟨a', V', R', hR', hP, hz⟩ := hex
  have e7 : beA a B 6 7 = nI n := (beA_at (by decide) (by decide) (by decide) (by decide)).trans hn
  refine ⟨a', V', R', hR', hP, ?_⟩
  refine h_Mo_operate (d := d + 6) (op := 7) (by omega) (fun h => absurd (of_decide_eq_true h) (by omega)) hB hB2 hce ?_
  refine zR_to 122 rfl (q_Mo_one (l := 1) (pl := plc 7) e7 (Nat.le_refl _) h1 hn8 ?_)
  refine zR_to 206 rfl ?_
  refine zR_v rfl rfl rfl rfl rfl ⟨rfl, Nat.le_of_ble_eq_true rfl, Nat.le_of_ble_eq_true rfl⟩ rfl (Nat.le_refl _) hz rfl rfl ?_
  exact zR_e rfl rfl rfl rfl rfl rfl
set_option maxRecDepth 10000 in
theorem o_Mo_mov {op n B : Nat} {x e cd' : Int32} {n' : Nat} {v' : Nat → RV} (hop : op < 16) (hop2 : 10 ≤ op) (hx : plc op = true → outB x (nI 8) = false) (hB : a 13 = nI B) (hB2 : B ≤ 1000) (hce : ∀ c, a 14 = c → ¬ c < 0 → ∃ j : Nat, j < 8 ∧ c = nI j)
    (hpre : ∀ {o : zO} {h9 : zH}, zR L xs (d + 8) m_Mo_operate 170 [(0, .ref 20), (1, .int (nI op)), (2, .int x)] [] (mV C u (beA a B (costN op)) (goB b B) V1 (goM (fu a 0 0) b M B B) R) 0 o h9 0 → zR L xs (d + 8) m_Mo_operate 66 [(3, .int (bI (plc op))), (0, .ref 20), (1, .int (nI op)), (2, .int x)] [] (mV C u (beA a B (costN op)) (goB b B) V (goM (fu a 0 0) b M B B) R) 0 o h9 0)
    (hmv : ∃ a' V' R', Rok R' ∧ oPost (beA a B (costN op)) V e n n' v' cd' a' V' ∧ zE L xs (d + 7) m_Mo_move [.ref 20, .int (nI op), .int x] (mV C u (beA a B (costN op)) (goB b B) V1 (goM (fu a 0 0) b M B B) R) (.inl (some (.int (if thr (a 3) e then 0 else e)))) (mV C u a' (goB b B) V' (goM (fu a 0 0) b M B B) R')) :
    MoOp L xs d C u a b V M R B n (costN op) (nI op) x e n' v' cd' := by
  obtain ⟨a', V', R', hR', hP, hz⟩ := hmv
  refine ⟨a', V', R', hR', hP, ?_⟩
  refine h_Mo_operate (d := d + 6) hop hx hB hB2 hce (hpre ?_)
  refine zR_to 172 (st' := [.int (nI 4), .int (nI op)]) rfl ?_
  refine zR_m 1 rfl ?_
  refine zR_if (fun _ => ?_) (fun h => absurd ((nI_leI (a := 4) (b := op) (by omega) (by omega)).mpr (by omega)) h)
  refine zR_to 189 (st' := [.int (nI 9), .int (nI op)]) rfl ?_
  refine zR_m 1 rfl ?_
  refine zR_if (fun h => absurd ((nI_leI (a := op) (b := 9) (by omega) (by omega)).mp h) (by omega)) (fun _ => ?_)
  refine zR_to 195 (st' := [.int x, .int (nI op), .ref 20]) rfl ?_
  refine zR_v rfl rfl rfl rfl rfl ⟨rfl, Nat.le_of_ble_eq_true rfl, Nat.le_of_ble_eq_true rfl⟩ rfl (Nat.le_refl _) hz rfl rfl ?_
  exact zR_e rfl rfl rfl rfl rfl rfl
end OQ
end
section
/-! each operation of the reference -/
def MoI (a : Nat → Int32) (V : Nat → RV) (R : Nat → Nat) (n B p w : Nat) : Prop := a 13 = nI B ∧ B ≤ 1000 ∧ (∀ c, a 14 = c → ¬ c < 0 → ∃ j : Nat, j < 8 ∧ c = nI j) ∧ a 7 = nI n ∧ n ≤ 8 ∧ cOk a p w ∧ (∀ i, i < n → vOk (V i)) ∧ Rok R
def lstN (op j : Nat) : Nat := if op < 4 ∨ op = 6 ∨ op = 13 then 2 else if op = 10 ∨ op = 11 then j + 1 else if op < 14 then 1 else 0
def sclR (w p : Nat) (x y : RV) : RV × Int32 := if eit x y 3 then (vNan, 0) else if rk y = 0 then sclN w p 0 x y else if rk y = 1 ∧ (0 ≤ zr y ∧ zr y < 16) ∧ rs y / 2 ^ scK y ≤ 40000 ∧ rs y / 2 ^ scK y * 2 ^ scK y = rs y then sclN w p (rs y / 2 ^ scK y) x y else (vNan, 1)
theorem thr_0 {m : Int32} : thr m 0 = false := by
  unfold thr
  refine decide_eq_false (fun h => h ?_)
  apply Int32.toBitVec_inj.mp
  simp
theorem ior0 (x : Int32) : x ||| (0 : Int32) = x := by
  apply Int32.toBitVec_inj.mp
  simp
theorem beA_0 {a : Nat → Int32} {B t : Nat} : beA a B t 0 = 0 := by
  unfold beA
  rw [fu_n (by decide), fu_n (by decide), goA_at (by decide) (by decide), fu_s]
theorem beA_c {a : Nat → Int32} {B t p w : Nat} (h : cOk a p w) : cOk (beA a B t) p w := ⟨(beA_at (by decide) (by decide) (by decide) (by decide)).trans h.1, (beA_at (by decide) (by decide) (by decide) (by decide)).trans h.2.1, h.2.2⟩
section OR
variable {L : Nat} {xs : Nat → Int32} {d : Nat} {C : Nat → zC} {u : zC} {a : Nat → Int32} {b : Nat → Int64} {M : Nat → Int64} {R : Nat → Nat} {V V1 : Nat → RV} {n B p w : Nat} {x : Int32}
/-- no exception, and the ints as they are, but the depth -/
theorem oP_0 {A a' : Nat → Int32} {V' v' : Nat → RV} {n n' : Nat} (h0 : A 0 = 0) (ha : a' = fu A 7 (nI n')) (hV : ∀ i, i < 8 → V' i = v' i) : oPost A V 0 n n' v' (A 6) a' V' := by
  subst ha
  unfold oPost
  rw [thr_0]
  refine ⟨h0, rfl, rfl, rfl, (ior0 _).symm, rfl, rfl, rfl, rfl, hV⟩
set_option maxRecDepth 10000 in
set_option maxHeartbeats 4000000 in
theorem o_few {op j : Nat} (hI : MoI a V R n B p w) (hop : op < 16) (hx : plc op = true → x = nI j ∧ j < 8) (hf : n < lstN op j) : MoOp L xs d C u a b V M R B n (costN op) (nI op) x 1 n V (a 6) := by
  obtain ⟨hB, hB2, hce, hn, hn8, hc, hv, hR⟩ := hI
  have hpl : plc op = true → outB x (nI 8) = false := fun h => by
    obtain ⟨rfl, hj⟩ := hx h
    exact decide_eq_false (fun h9 => by
      rcases h9 with h9 | h9
      · exact nI_pos (n := j) (by omega) h9
      · exact nI_ge (a := j) (b := 8) hj (by decide) h9)
  obtain rfl | rfl | rfl | rfl | rfl | rfl | rfl | rfl | rfl | rfl | rfl | rfl | rfl | rfl | rfl | rfl : op = 0 ∨ op = 1 ∨ op = 2 ∨ op = 3 ∨ op = 4 ∨ op = 5 ∨ op = 6 ∨ op = 7 ∨ op = 8 ∨ op = 9 ∨ op = 10 ∨ op = 11 ∨ op = 12 ∨ op = 13 ∨ op = 14 ∨ op = 15 := by omega
  · exact o_Mo_few (l := 2) (tw := true) hop hpl hB hB2 hce hn hf (by decide) hR (fun hr => zR_to 122 rfl hr)
  · exact o_Mo_few (l := 2) (tw := true) hop hpl hB hB2 hce hn hf (by decide) hR (fun hr => zR_to 122 rfl hr)
  · exact o_Mo_few (l := 2) (tw := true) hop hpl hB hB2 hce hn hf (by decide) hR (fun hr => zR_to 122 rfl hr)
  · exact o_Mo_few (l := 2) (tw := true) hop hpl hB hB2 hce hn hf (by decide) hR (fun hr => zR_to 122 rfl hr)
  · exact o_Mo_few (l := 1) (tw := false) hop hpl hB hB2 hce hn hf (by decide) hR (fun hr => zR_to 122 rfl hr)
  · exact o_Mo_few (l := 1) (tw := false) hop hpl hB hB2 hce hn hf (by decide) hR (fun hr => zR_to 122 rfl hr)
  · exact o_Mo_few (l := 2) (tw := true) hop hpl hB hB2 hce hn hf (by decide) hR (fun hr => zR_to 122 rfl hr)
  · exact o_Mo_few (l := 1) (tw := false) hop hpl hB hB2 hce hn hf (by decide) hR (fun hr => zR_to 122 rfl hr)
  · exact o_Mo_few (l := 1) (tw := false) hop hpl hB hB2 hce hn hf (by decide) hR (fun hr => zR_to 122 rfl hr)
  · exact o_Mo_few (l := 1) (tw := false) hop hpl hB hB2 hce hn hf (by decide) hR (fun hr => zR_to 122 rfl hr)
  · obtain ⟨rfl, hj⟩ := hx rfl
    exact o_Mo_few (l := j + 1) (tw := false) hop hpl hB hB2 hce hn hf (by omega) hR (fun hr => zR_to 120 (st' := [.int (nI j + 1)]) rfl (by rw [nI_1]; exact zR_to 122 rfl hr))
  · obtain ⟨rfl, hj⟩ := hx rfl
    exact o_Mo_few (l := j + 1) (tw := false) hop hpl hB hB2 hce hn hf (by omega) hR (fun hr => zR_to 120 (st' := [.int (nI j + 1)]) rfl (by rw [nI_1]; exact zR_to 122 rfl hr))
  · exact o_Mo_few (l := 1) (tw := false) hop hpl hB hB2 hce hn hf (by decide) hR (fun hr => zR_to 122 rfl hr)
  · exact o_Mo_few (l := 2) (tw := true) hop hpl hB hB2 hce hn hf (by decide) hR (fun hr => zR_to 122 rfl hr)
  · exact absurd (show n < 0 from hf) (by omega)
  · exact absurd (show n < 0 from hf) (by omega)
theorem o_0 (hI : MoI a V R n B p w) (h2 : 2 ≤ n) : MoOp L xs d C u a b V M R B n 8 (nI 0) x (sumR w p (V (n - 1)) (V (n - 2))).2 (n - 1) (fu V (n - 2) (sumR w p (V (n - 1)) (V (n - 2))).1) (a 6) := by
  obtain ⟨hB, hB2, hce, hn, hn8, hc, hv, hR⟩ := hI
  have e8 : fu (fu V 8 (V (n - 1))) 9 (V (n - 2)) 8 = V (n - 1) := rfl
  have e9 : fu (fu V 8 (V (n - 1))) 9 (V (n - 2)) 9 = V (n - 2) := rfl
  have h := e_Mo_reckon0 (L := L) (xs := xs) (d := d) (C := C) (u := u) (a := beA a B 8) (b := goB b B) (V := fu (fu V 8 (V (n - 1))) 9 (V (n - 2))) (M := goM (fu a 0 0) b M B B) (R := R) (beA_c hc) (by rw [e8]; exact hv _ (by omega)) (by rw [e9]; exact hv _ (by omega)) hR
  rw [e8, e9] at h
  exact o_Mo_reck (op := 0) (by decide) hB hB2 hce hn hn8 h2 h
theorem o_1 (hI : MoI a V R n B p w) (h2 : 2 ≤ n) : MoOp L xs d C u a b V M R B n 8 (nI 1) x (sumR w p (negR (V (n - 1))) (V (n - 2))).2 (n - 1) (fu V (n - 2) (sumR w p (negR (V (n - 1))) (V (n - 2))).1) (a 6) := by
  obtain ⟨hB, hB2, hce, hn, hn8, hc, hv, hR⟩ := hI
  have e8 : fu (fu V 8 (V (n - 1))) 9 (V (n - 2)) 8 = V (n - 1) := rfl
  have e9 : fu (fu V 8 (V (n - 1))) 9 (V (n - 2)) 9 = V (n - 2) := rfl
  have h := e_Mo_reckon1 (L := L) (xs := xs) (d := d) (C := C) (u := u) (a := beA a B 8) (b := goB b B) (V := fu (fu V 8 (V (n - 1))) 9 (V (n - 2))) (M := goM (fu a 0 0) b M B B) (R := R) (beA_c hc) (by rw [e8]; exact hv _ (by omega)) (by rw [e9]; exact hv _ (by omega)) hR
  rw [e8, e9] at h
  exact o_Mo_reck (op := 1) (by decide) hB hB2 hce hn hn8 h2 h
theorem o_2 (hI : MoI a V R n B p w) (h2 : 2 ≤ n) : MoOp L xs d C u a b V M R B n 12 (nI 2) x (mulR w p (V (n - 1)) (V (n - 2))).2 (n - 1) (fu V (n - 2) (mulR w p (V (n - 1)) (V (n - 2))).1) (a 6) := by
  obtain ⟨hB, hB2, hce, hn, hn8, hc, hv, hR⟩ := hI
  have e8 : fu (fu V 8 (V (n - 1))) 9 (V (n - 2)) 8 = V (n - 1) := rfl
  have e9 : fu (fu V 8 (V (n - 1))) 9 (V (n - 2)) 9 = V (n - 2) := rfl
  have h := e_Mo_reckon2 (L := L) (xs := xs) (d := d) (C := C) (u := u) (a := beA a B 12) (b := goB b B) (V := fu (fu V 8 (V (n - 1))) 9 (V (n - 2))) (M := goM (fu a 0 0) b M B B) (R := R) (beA_c hc) (by rw [e8]; exact hv _ (by omega)) (by rw [e9]; exact hv _ (by omega)) hR
  rw [e8, e9] at h
  exact o_Mo_reck (op := 2) (by decide) hB hB2 hce hn hn8 h2 h
theorem o_3 (hI : MoI a V R n B p w) (h2 : 2 ≤ n) : MoOp L xs d C u a b V M R B n 20 (nI 3) x (divR w p (V (n - 2)) (V (n - 1))).2 (n - 1) (fu V (n - 2) (divR w p (V (n - 2)) (V (n - 1))).1) (a 6) := by
  obtain ⟨hB, hB2, hce, hn, hn8, hc, hv, hR⟩ := hI
  have e8 : fu (fu V 8 (V (n - 1))) 9 (V (n - 2)) 8 = V (n - 1) := rfl
  have e9 : fu (fu V 8 (V (n - 1))) 9 (V (n - 2)) 9 = V (n - 2) := rfl
  have h := e_Mo_reckon3 (L := L) (xs := xs) (d := d) (C := C) (u := u) (a := beA a B 20) (b := goB b B) (V := fu (fu V 8 (V (n - 1))) 9 (V (n - 2))) (M := goM (fu a 0 0) b M B B) (R := R) (beA_c hc) (by rw [e8]; exact hv _ (by omega)) (by rw [e9]; exact hv _ (by omega)) hR
  rw [e8, e9] at h
  exact o_Mo_reck (op := 3) (by decide) hB hB2 hce hn hn8 h2 h
set_option maxRecDepth 10000 in
theorem o_4 (hI : MoI a V R n B p w) (h1 : 1 ≤ n) : MoOp L xs d C u a b V M R B n 20 (nI 4) x (rootR w p (V (n - 1))).2 n (fu V (n - 1) (rootR w p (V (n - 1))).1) (a 6) := by
  obtain ⟨hB, hB2, hce, hn, hn8, hc, hv, hR⟩ := hI
  have e8 : fu V 8 (V (n - 1)) 8 = V (n - 1) := rfl
  have e7 : beA a B 20 7 = nI n := (beA_at (by decide) (by decide) (by decide) (by decide)).trans hn
  have h := e_Mo_alter4 (L := L) (xs := xs) (d := d) (C := C) (u := u) (a := beA a B 20) (b := goB b B) (V := fu V 8 (V (n - 1))) (M := goM (fu a 0 0) b M B B) (R := R) (beA_c hc) (by rw [e8]; exact hv _ (by omega)) hR
  rw [e8] at h
  exact o_Mo_alt (op := 4) (Or.inl rfl) hB hB2 hce hn hn8 h1 (fun i hi => fu_n (by omega)) (fun hr => zR_to 122 rfl (q_Mo_one (l := 1) (pl := plc 4) e7 (Nat.le_refl _) h1 hn8 hr)) h
set_option maxRecDepth 10000 in
theorem o_5 (hI : MoI a V R n B p w) (h1 : 1 ≤ n) : MoOp L xs d C u a b V M R B n 6 (nI 5) x (intR w (V (n - 1))).2 n (fu V (n - 1) (intR w (V (n - 1))).1) (a 6) := by
  obtain ⟨hB, hB2, hce, hn, hn8, hc, hv, hR⟩ := hI
  have e8 : fu V 8 (V (n - 1)) 8 = V (n - 1) := rfl
  have e7 : beA a B 6 7 = nI n := (beA_at (by decide) (by decide) (by decide) (by decide)).trans hn
  have h := e_Mo_alter5 (L := L) (xs := xs) (d := d) (C := C) (u := u) (a := beA a B 6) (b := goB b B) (V := fu V 8 (V (n - 1))) (M := goM (fu a 0 0) b M B B) (R := R) (w := w) (beA_c hc).2.1 hc.2.2.2 (by rw [e8]; exact hv _ (by omega)) hR
  rw [e8] at h
  exact o_Mo_alt (op := 5) (Or.inr (Or.inl rfl)) hB hB2 hce hn hn8 h1 (fun i hi => fu_n (by omega)) (fun hr => zR_to 122 rfl (q_Mo_one (l := 1) (pl := plc 5) e7 (Nat.le_refl _) h1 hn8 hr)) h
set_option maxRecDepth 10000 in
theorem o_6 (hI : MoI a V R n B p w) (h2 : 2 ≤ n) : MoOp L xs d C u a b V M R B n 6 (nI 6) x (sclR w p (V (n - 1)) (V (n - 2))).2 n (fu V (n - 1) (sclR w p (V (n - 1)) (V (n - 2))).1) (a 6) := by
  obtain ⟨hB, hB2, hce, hn, hn8, hc, hv, hR⟩ := hI
  have e8 : fu (fu V 8 (V (n - 1))) 9 (V (n - 2)) 8 = V (n - 1) := rfl
  have e9 : fu (fu V 8 (V (n - 1))) 9 (V (n - 2)) 9 = V (n - 2) := rfl
  have e7 : beA a B 6 7 = nI n := (beA_at (by decide) (by decide) (by decide) (by decide)).trans hn
  have h := e_Mo_alter6 (L := L) (xs := xs) (d := d) (C := C) (u := u) (a := beA a B 6) (b := goB b B) (V := fu (fu V 8 (V (n - 1))) 9 (V (n - 2))) (M := goM (fu a 0 0) b M B B) (R := R) (r9 := sclR w p (V (n - 1)) (V (n - 2))) (beA_c hc) (by rw [e8]; exact hv _ (by omega)) hR
    (fun h => by rw [e8, e9] at h; unfold sclR; rw [if_pos h]) (fun h h0 => by rw [e8, e9] at h; rw [e9] at h0; unfold sclR; rw [h, if_neg (show ¬ (false = true) by decide), if_pos h0]; rfl)
    (fun h h0 => by rw [e8, e9] at h; rw [e9] at h0; unfold scFin at h0; unfold sclR; rw [h, if_neg (show ¬ (false = true) by decide), if_neg (fun h9 => absurd (h9.symm.trans h0.1) (by decide)), if_pos h0]; rfl)
    (fun h h0 h3 => by rw [e8, e9] at h; rw [e9] at h0 h3; unfold scFin at h3; unfold sclR; rw [h, if_neg (show ¬ (false = true) by decide), if_neg h0, if_neg h3])
  exact o_Mo_alt (op := 6) (Or.inr (Or.inr (Or.inl rfl))) hB hB2 hce hn hn8 (by omega) (fun i hi => by rw [fu_n (by omega), fu_n (by omega)]) (fun hr => zR_to 122 rfl (q_Mo_two (pl := plc 6) e7 h2 hn8 hr)) h
set_option maxRecDepth 10000 in
theorem o_7 (hI : MoI a V R n B p w) (h1 : 1 ≤ n) (hok : rk (V (n - 1)) = 1) (hl : n < 8) : MoOp L xs d C u a b V M R B n 6 (nI 7) x 0 (n + 1) (fu (fu V (n - 1) (exE (V (n - 1)))) n (exS (V (n - 1)))) (a 6) := by
  obtain ⟨hB, hB2, hce, hn, hn8, hc, hv, hR⟩ := hI
  have e8 : fu V 8 (V (n - 1)) 8 = V (n - 1) := rfl
  have e7 : beA a B 6 7 = nI n := (beA_at (by decide) (by decide) (by decide) (by decide)).trans hn
  have e6 : beA a B 6 6 = a 6 := beA_at (by decide) (by decide) (by decide) (by decide)
  obtain ⟨R', hR', h⟩ := e_Mo_extract1 (L := L) (xs := xs) (d := d + 3) (C := C) (u := u) (a := beA a B 6) (b := goB b B) (V := fu V 8 (V (n - 1))) (M := goM (fu a 0 0) b M B B) (R := R) e7 hl h1 (by rw [e8]; exact hok) (by rw [e8]; exact hv _ (by omega)) hR
  rw [e8] at h
  refine o_Mo_ext hB hB2 hce hn hn8 h1 ⟨fu (beA a B 6) 7 (nI (n + 1)), fu (fu (fu (fu V 8 (V (n - 1))) 10 (exE (V (n - 1)))) (n - 1) (exE (V (n - 1)))) n (exS (V (n - 1))), R', hR', ?_, by rw [thr_0]; exact h⟩
  · rw [← e6]
    refine oP_0 beA_0 rfl (fun i hi => ?_)
    by_cases hi1 : i = n
    · subst hi1
      rw [fu_s, fu_s]
    · rw [fu_n hi1, fu_n hi1]
      by_cases hi2 : i = n - 1
      · subst hi2
        rw [fu_s, fu_s]
      · rw [fu_n hi2, fu_n hi2, fu_n (by omega), fu_n (by omega)]
set_option maxRecDepth 10000 in
theorem o_7n (hI : MoI a V R n B p w) (h1 : 1 ≤ n) (hbad : rk (V (n - 1)) ≠ 1 ∨ n = 8) : MoOp L xs d C u a b V M R B n 6 (nI 7) x 1 n V (a 6) := by
  obtain ⟨hB, hB2, hce, hn, hn8, hc, hv, hR⟩ := hI
  have e8 : fu V 8 (V (n - 1)) 8 = V (n - 1) := rfl
  have e7 : beA a B 6 7 = nI n := (beA_at (by decide) (by decide) (by decide) (by decide)).trans hn
  have e6 : beA a B 6 6 = a 6 := beA_at (by decide) (by decide) (by decide) (by decide)
  have e3 : beA a B 6 3 = a 3 := beA_at (by decide) (by decide) (by decide) (by decide)
  have h := e_Mo_extract0 (L := L) (xs := xs) (d := d + 5) (C := C) (u := u) (a := beA a B 6) (b := goB b B) (V := fu V 8 (V (n - 1))) (M := goM (fu a 0 0) b M B B) (R := R) e7 hn8 (by rw [e8]; exact hbad)
  rw [thB_1, e3] at h
  refine o_Mo_ext hB hB2 hce hn hn8 h1 ⟨_, _, R, hR, e6 ▸ oP_no e7 (fun i hi => fu_n (by omega)), h⟩
set_option maxRecDepth 10000 in
theorem o_8 (hI : MoI a V R n B p w) (h1 : 1 ≤ n) : MoOp L xs d C u a b V M R B n 2 (nI 8) x 0 n (fu V (n - 1) (absR (V (n - 1)))) (a 6) := by
  obtain ⟨hB, hB2, hce, hn, hn8, hc, hv, hR⟩ := hI
  have e8 : fu V 8 (V (n - 1)) 8 = V (n - 1) := rfl
  have e7 : beA a B 2 7 = nI n := (beA_at (by decide) (by decide) (by decide) (by decide)).trans hn
  have h := e_Mo_alter8 (L := L) (xs := xs) (d := d + 6) (C := C) (u := u) (a := beA a B 2) (b := goB b B) (V := fu V 8 (V (n - 1))) (M := goM (fu a 0 0) b M B B) (R := R)
  rw [e8] at h
  exact o_Mo_alt (op := 8) (r := (absR (V (n - 1)), 0)) (Or.inr (Or.inr (Or.inr (Or.inl rfl)))) hB hB2 hce hn hn8 h1 (fun i hi => fu_n (by omega)) (fun hr => zR_to 122 rfl (q_Mo_one (l := 1) (pl := plc 8) e7 (Nat.le_refl _) h1 hn8 hr)) ⟨R, hR, by rw [nt_0]; exact h⟩
set_option maxRecDepth 10000 in
theorem o_9 (hI : MoI a V R n B p w) (h1 : 1 ≤ n) : MoOp L xs d C u a b V M R B n 2 (nI 9) x 0 n (fu V (n - 1) (negR (V (n - 1)))) (a 6) := by
  obtain ⟨hB, hB2, hce, hn, hn8, hc, hv, hR⟩ := hI
  have e8 : fu V 8 (V (n - 1)) 8 = V (n - 1) := rfl
  have e7 : beA a B 2 7 = nI n := (beA_at (by decide) (by decide) (by decide) (by decide)).trans hn
  have h := e_Mo_alter9 (L := L) (xs := xs) (d := d + 6) (C := C) (u := u) (a := beA a B 2) (b := goB b B) (V := fu V 8 (V (n - 1))) (M := goM (fu a 0 0) b M B B) (R := R)
  rw [e8] at h
  exact o_Mo_alt (op := 9) (r := (negR (V (n - 1)), 0)) (Or.inr (Or.inr (Or.inr (Or.inr rfl)))) hB hB2 hce hn hn8 h1 (fun i hi => fu_n (by omega)) (fun hr => zR_to 122 rfl (q_Mo_one (l := 1) (pl := plc 9) e7 (Nat.le_refl _) h1 hn8 hr)) ⟨R, hR, by rw [nt_0]; exact h⟩
end OR
end
section
section OR
variable {L : Nat} {xs : Nat → Int32} {d : Nat} {C : Nat → zC} {u : zC} {a : Nat → Int32} {b : Nat → Int64} {M : Nat → Int64} {R : Nat → Nat} {V V1 : Nat → RV} {n B p w : Nat} {x : Int32}
theorem out8 {j : Nat} (hj : j < 8) : outB (nI j) (nI 8) = false := decide_eq_false (fun h9 => by
  rcases h9 with h9 | h9
  · exact nI_pos (n := j) (by omega) h9
  · exact nI_ge (a := j) (b := 8) hj (by decide) h9)
set_option maxRecDepth 10000 in
theorem o_10 {j : Nat} (hI : MoI a V R n B p w) (hj : j < n) : MoOp L xs d C u a b V M R B n 2 (nI 10) (nI j) 0 n (fu (fu V (n - 1) (V (n - 1 - j))) (n - 1 - j) (V (n - 1))) (a 6) := by
  obtain ⟨hB, hB2, hce, hn, hn8, hc, hv, hR⟩ := hI
  have e8 : fu V 8 (V (n - 1)) 8 = V (n - 1) := rfl
  have e7 : beA a B 2 7 = nI n := (beA_at (by decide) (by decide) (by decide) (by decide)).trans hn
  have e6 : beA a B 2 6 = a 6 := beA_at (by decide) (by decide) (by decide) (by decide)
  have h := e_Mo_move10 (L := L) (xs := xs) (d := d + 6) (C := C) (u := u) (a := beA a B 2) (b := goB b B) (V := fu V 8 (V (n - 1))) (M := goM (fu a 0 0) b M B B) (R := R) e7 hn8 hj
  rw [e8, beA_5] at h
  refine o_Mo_mov (op := 10) (V1 := fu V 8 (V (n - 1))) (by decide) (by decide) (fun _ => out8 (by omega)) hB hB2 hce (fun hr => zR_to 120 (st' := [.int (nI j + 1)]) rfl (by rw [nI_1]; exact zR_to 122 rfl (q_Mo_one (l := j + 1) (pl := plc 10) e7 (by omega) hj hn8 hr))) ⟨beA a B 2, fu (fu (fu V 8 (V (n - 1))) (n - 1) (fu V 8 (V (n - 1)) (n - 1 - j))) (n - 1 - j) (V (n - 1)), R, hR, ?_, by rw [thr_0]; exact h⟩
  rw [← e6]
  refine oP_0 beA_0 (fu_self e7).symm (fun i hi => ?_)
  by_cases hi1 : i = n - 1 - j
  · subst hi1
    rw [fu_s, fu_s]
  · rw [fu_n hi1, fu_n hi1]
    by_cases hi2 : i = n - 1
    · subst hi2
      rw [fu_s, fu_s, fu_n (by omega)]
    · rw [fu_n hi2, fu_n hi2, fu_n (by omega)]
set_option maxRecDepth 10000 in
theorem o_11 {j : Nat} (hI : MoI a V R n B p w) (hj : j < n) (hl : n < 8) : MoOp L xs d C u a b V M R B n 2 (nI 11) (nI j) 0 (n + 1) (fu V n (V (n - 1 - j))) (a 6) := by
  obtain ⟨hB, hB2, hce, hn, hn8, hc, hv, hR⟩ := hI
  have e7 : beA a B 2 7 = nI n := (beA_at (by decide) (by decide) (by decide) (by decide)).trans hn
  have e6 : beA a B 2 6 = a 6 := beA_at (by decide) (by decide) (by decide) (by decide)
  have h := e_Mo_move11 (L := L) (xs := xs) (d := d + 5) (C := C) (u := u) (a := beA a B 2) (b := goB b B) (V := fu V 8 (V (n - 1))) (M := goM (fu a 0 0) b M B B) (R := R) e7 hn8 hj
  rw [← nt_0 (a := beA a B 2), chO_ch beA_5 (by omega), thr_0] at h
  refine o_Mo_mov (op := 11) (V1 := fu V 8 (V (n - 1))) (by decide) (by decide) (fun _ => out8 (by omega)) hB hB2 hce (fun hr => zR_to 120 (st' := [.int (nI j + 1)]) rfl (by rw [nI_1]; exact zR_to 122 rfl (q_Mo_one (l := j + 1) (pl := plc 11) e7 (by omega) hj hn8 hr))) ⟨chA (nt (beA a B 2) 0) n 0, chV (nt (beA a B 2) 0) (fu (fu V 8 (V (n - 1))) 10 (fu V 8 (V (n - 1)) (n - 1 - j))) n 0, R, hR, ?_, by rw [thr_0, ← nt_0 (a := beA a B (costN 11))]; exact h⟩
  rw [← e6]
  exact oP_ch (g := 0) beA_5 e7 (by omega) (fun i hi => by rw [fu_n (by omega), fu_n (by omega)]) (by rw [fu_s, fu_n (by omega)])
set_option maxRecDepth 10000 in
theorem o_11n {j : Nat} (hI : MoI a V R n B p w) (hj : j < n) (h8 : n = 8) : MoOp L xs d C u a b V M R B n 2 (nI 11) (nI j) 1 n V (a 6) := by
  obtain ⟨hB, hB2, hce, hn, hn8, hc, hv, hR⟩ := hI
  have e7 : beA a B 2 7 = nI n := (beA_at (by decide) (by decide) (by decide) (by decide)).trans hn
  have e6 : beA a B 2 6 = a 6 := beA_at (by decide) (by decide) (by decide) (by decide)
  have e3 : beA a B 2 3 = a 3 := beA_at (by decide) (by decide) (by decide) (by decide)
  have h := e_Mo_move11 (L := L) (xs := xs) (d := d + 5) (C := C) (u := u) (a := beA a B 2) (b := goB b B) (V := fu V 8 (V (n - 1))) (M := goM (fu a 0 0) b M B B) (R := R) e7 hn8 hj
  rw [chO_fl h8, e3] at h
  refine o_Mo_mov (op := 11) (V1 := fu V 8 (V (n - 1))) (by decide) (by decide) (fun _ => out8 (by omega)) hB hB2 hce (fun hr => zR_to 120 (st' := [.int (nI j + 1)]) rfl (by rw [nI_1]; exact zR_to 122 rfl (q_Mo_one (l := j + 1) (pl := plc 11) e7 (by omega) hj hn8 hr))) ⟨chA (beA a B 2) n 0, chV (beA a B 2) (fu (fu V 8 (V (n - 1))) 10 (fu V 8 (V (n - 1)) (n - 1 - j))) n 0, R, hR, ?_, h⟩
  rw [← e6]
  exact oP_fl h8 e7 (fun i hi => by rw [fu_n (by omega), fu_n (by omega)])
set_option maxRecDepth 10000 in
theorem o_12 (hI : MoI a V R n B p w) (h1 : 1 ≤ n) : MoOp L xs d C u a b V M R B n 2 (nI 12) x 0 (n - 1) V (a 6) := by
  obtain ⟨hB, hB2, hce, hn, hn8, hc, hv, hR⟩ := hI
  have e7 : beA a B 2 7 = nI n := (beA_at (by decide) (by decide) (by decide) (by decide)).trans hn
  have e6 : beA a B 2 6 = a 6 := beA_at (by decide) (by decide) (by decide) (by decide)
  have h := e_Mo_move12 (L := L) (xs := xs) (d := d + 7) (C := C) (u := u) (a := beA a B 2) (b := goB b B) (V := fu V 8 (V (n - 1))) (M := goM (fu a 0 0) b M B B) (R := R) (x := x) e7 h1
  rw [beA_5] at h
  refine o_Mo_mov (op := 12) (V1 := fu V 8 (V (n - 1))) (by decide) (by decide) (fun h => absurd h (by decide)) hB hB2 hce (fun hr => zR_to 122 rfl (q_Mo_one (l := 1) (pl := plc 12) e7 (Nat.le_refl _) h1 hn8 hr)) ⟨fu (beA a B 2) 7 (nI (n - 1)), fu V 8 (V (n - 1)), R, hR, ?_, by rw [thr_0]; exact h⟩
  rw [← e6]
  exact oP_0 beA_0 rfl (fun i hi => fu_n (by omega))
set_option maxRecDepth 10000 in
theorem o_13 (hI : MoI a V R n B p w) (h2 : 2 ≤ n) : MoOp L xs d C u a b V M R B n 2 (nI 13) x (if eit (V (n - 1)) (V (n - 2)) 3 then 1 else 0) n V (cmpR (V (n - 1)) (V (n - 2))) := by
  obtain ⟨hB, hB2, hce, hn, hn8, hc, hv, hR⟩ := hI
  have e8 : fu (fu V 8 (V (n - 1))) 9 (V (n - 2)) 8 = V (n - 1) := rfl
  have e9 : fu (fu V 8 (V (n - 1))) 9 (V (n - 2)) 9 = V (n - 2) := rfl
  have e7 : beA a B 2 7 = nI n := (beA_at (by decide) (by decide) (by decide) (by decide)).trans hn
  have e3 : beA a B 2 3 = a 3 := beA_at (by decide) (by decide) (by decide) (by decide)
  obtain ⟨R', hR', h⟩ := e_Mo_move13 (L := L) (xs := xs) (d := d + 4) (C := C) (u := u) (a := beA a B 2) (b := goB b B) (V := fu (fu V 8 (V (n - 1))) 9 (V (n - 2))) (M := goM (fu a 0 0) b M B B) (R := R) (z := x) (by rw [e8]; exact hv _ (by omega)) (by rw [e9]; exact hv _ (by omega)) hR
  rw [e8, e9, show cm1 (beA a B 2) (V (n - 1)) (V (n - 2)) = nt (beA a B 2) (if eit (V (n - 1)) (V (n - 2)) 3 then 1 else 0) from by
    unfold cm1
    split
    · rfl
    · rw [nt_0]] at h
  generalize (if eit (V (n - 1)) (V (n - 2)) 3 then (1 : Int32) else 0) = e at *
  generalize cmpR (V (n - 1)) (V (n - 2)) = cc at *
  rw [thB_nt beA_5, e3, show nt (beA a B 2) e 5 = beA a B 2 5 ||| e from rfl, beA_5, i0or] at h
  refine o_Mo_mov (op := 13) (V1 := fu (fu V 8 (V (n - 1))) 9 (V (n - 2))) (by decide) (by decide) (fun h => absurd h (by decide)) hB hB2 hce (fun hr => zR_to 122 rfl (q_Mo_two (pl := plc 13) e7 h2 hn8 hr)) ⟨_, _, R', hR', ?_, h⟩
  unfold oPost
  rw [show beA a B (costN 13) 3 = a 3 from e3]
  have ht : thB (nt (beA a B 2) e) = thr (a 3) e := by rw [thB_nt beA_5, e3]
  have h4 : thA (nt (beA a B 2) e) 4 = beA a B 2 4 ||| e := by
    show beA a B 2 4 ||| (beA a B 2 5 ||| e) = _
    rw [beA_5, i0or]
  have h0 : thA (nt (beA a B 2) e) 0 = if thr (a 3) e then 2 else 0 := by
    show (if thB (nt (beA a B 2) e) then (2 : Int32) else 0) = _
    rw [ht]
  cases hth : thr (a 3) e with
  | true =>
    rw [hth] at h0
    simp only [if_true] at h0 ⊢
    refine ⟨h0, rfl, rfl, e3, h4, rfl, e7, rfl, rfl, fun i hi => by rw [fu_n (by omega), fu_n (by omega)]⟩
  | false =>
    rw [hth] at h0
    simp only [Bool.false_eq_true, if_false] at h0 ⊢
    refine ⟨h0, rfl, rfl, e3, h4, rfl, e7, rfl, rfl, fun i hi => by rw [fu_n (by omega), fu_n (by omega)]⟩
set_option maxRecDepth 10000 in
theorem o_14 {c : Nat} (hcc : c = 0 ∨ c = 1) (hI : MoI a V R n B p w) (hl : n < 8) : MoOp L xs d C u a b V M R B n 2 (nI (15 - c)) x 0 (n + 1) (fu V n (exV false c)) (a 6) := by
  obtain ⟨hB, hB2, hce, hn, hn8, hc, hv, hR⟩ := hI
  have e7 : beA a B 2 7 = nI n := (beA_at (by decide) (by decide) (by decide) (by decide)).trans hn
  have e6 : beA a B 2 6 = a 6 := beA_at (by decide) (by decide) (by decide) (by decide)
  obtain ⟨R', hR', h⟩ := e_Mo_move14 (L := L) (xs := xs) (d := d + 3) (C := C) (u := u) (a := beA a B 2) (b := goB b B) (V := V) (M := goM (fu a 0 0) b M B B) (R := R) (x := x) hcc e7 hn8 hR
  rw [← nt_0 (a := beA a B 2), chO_ch beA_5 (by omega), thr_0] at h
  have hcost : costN (15 - c) = 2 := by rcases hcc with rfl | rfl <;> rfl
  have key := o_Mo_mov (L := L) (xs := xs) (d := d) (C := C) (u := u) (a := a) (b := b) (M := M) (R := R) (V := V) (x := x) (B := B) (n := n) (e := 0) (n' := n + 1) (v' := fu V n (exV false c)) (cd' := a 6) (op := 15 - c) (V1 := V) (by omega) (by omega) (fun h => absurd (of_decide_eq_true h) (by omega)) hB hB2 hce (fun hr => by
    rcases hcc with rfl | rfl
    · exact zR_to 122 rfl (q_Mo_non (pl := plc 15) e7 hn8 hr)
    · exact zR_to 122 rfl (q_Mo_non (pl := plc 14) e7 hn8 hr)) ⟨chA (nt (beA a B 2) 0) n 0, chV (nt (beA a B 2) 0) (fu V 10 (exV false c)) n 0, R', hR', by
      rw [hcost, ← e6]
      exact oP_ch (g := 0) beA_5 e7 (by omega) (fun i hi => fu_n (by omega)) fu_s, by
      rw [nt_0] at h
      rw [thr_0, hcost, nt_0]
      exact h⟩
  rw [hcost] at key
  exact key
set_option maxRecDepth 10000 in
theorem o_14n {c : Nat} (hcc : c = 0 ∨ c = 1) (hI : MoI a V R n B p w) (h8 : n = 8) : MoOp L xs d C u a b V M R B n 2 (nI (15 - c)) x 1 n V (a 6) := by
  obtain ⟨hB, hB2, hce, hn, hn8, hc, hv, hR⟩ := hI
  have e7 : beA a B 2 7 = nI n := (beA_at (by decide) (by decide) (by decide) (by decide)).trans hn
  have e6 : beA a B 2 6 = a 6 := beA_at (by decide) (by decide) (by decide) (by decide)
  have e3 : beA a B 2 3 = a 3 := beA_at (by decide) (by decide) (by decide) (by decide)
  obtain ⟨R', hR', h⟩ := e_Mo_move14 (L := L) (xs := xs) (d := d + 3) (C := C) (u := u) (a := beA a B 2) (b := goB b B) (V := V) (M := goM (fu a 0 0) b M B B) (R := R) (x := x) hcc e7 hn8 hR
  rw [chO_fl h8, e3] at h
  have hcost : costN (15 - c) = 2 := by rcases hcc with rfl | rfl <;> rfl
  have key := o_Mo_mov (L := L) (xs := xs) (d := d) (C := C) (u := u) (a := a) (b := b) (M := M) (R := R) (V := V) (x := x) (B := B) (n := n) (e := 1) (n' := n) (v' := V) (cd' := a 6) (op := 15 - c) (V1 := V) (by omega) (by omega) (fun h => absurd (of_decide_eq_true h) (by omega)) hB hB2 hce (fun hr => by
    rcases hcc with rfl | rfl
    · exact zR_to 122 rfl (q_Mo_non (pl := plc 15) e7 hn8 hr)
    · exact zR_to 122 rfl (q_Mo_non (pl := plc 14) e7 hn8 hr)) ⟨chA (beA a B 2) n 0, chV (beA a B 2) (fu V 10 (exV false c)) n 0, R', hR', by
      rw [hcost, ← e6]
      exact oP_fl h8 e7 (fun i hi => fu_n (by omega)), by
      rw [hcost]
      exact h⟩
  rw [hcost] at key
  exact key
end OR
end
section
/-! readWhole, readReal of the reference -/
def wM (z : Int64) : Nat := z.toInt.natAbs
theorem wM_lt (z : Int64) : wM z < 2 ^ 64 := by
  have h1 := Int64.le_toInt z
  have h2 := Int64.toInt_lt z
  unfold wM
  omega
theorem wM_l (z : Int64) : (if z < 0 then -z else z) = lN (wM z) := by
  have hl : ∀ n : Nat, Int64.ofInt (n : Int) = lN n := fun n => Int64.ofInt_eq_ofNat
  unfold wM
  split
  · rename_i h
    have h9 : z.toInt < 0 := by
      have := Int64.lt_iff_toInt_lt.mp h
      exact this
    rw [← hl, show ((z.toInt.natAbs : Nat) : Int) = -z.toInt by omega, Int64.ofInt_neg, Int64.ofInt_toInt]
  · rename_i h
    have h9 : ¬ z.toInt < 0 := fun h8 => h (Int64.lt_iff_toInt_lt.mpr h8)
    rw [← hl, show ((z.toInt.natAbs : Nat) : Int) = z.toInt by omega, Int64.ofInt_toInt]
def rdW (z : Int64) : RV := exV (decide (z < 0)) (wM z)
/-- a binary form with fd bits of exponent, fr bits of fraction -/
def rdE (fd fr n : Nat) : Nat := n / 2 ^ fr % 2 ^ fd
def rdR (fd fr n : Nat) : RV := if rdE fd fr n = 0 then (0, decide (n / 2 ^ (fd + fr) % 2 = 1), 0, 0)
  else if rdE fd fr n < 2 ^ fd - 1 then (1, decide (n / 2 ^ (fd + fr) % 2 = 1), nI (rdE fd fr n) - nI (2 ^ (fd - 1) - 1), lN ((2 ^ fr + n % 2 ^ fr) * 2 ^ (63 - fr)))
  else if n % 2 ^ fr = 0 then (2, decide (n / 2 ^ (fd + fr) % 2 = 1), 0, 0) else vNan
section RD
variable {L : Nat} {xs : Nat → Int32} {d : Nat} {C : Nat → zC} {u : zC} {a : Nat → Int32} {b : Nat → Int64} {M : Nat → Int64} {R : Nat → Nat} {V : Nat → RV}
set_option maxRecDepth 10000 in
theorem e_Mo_readWhole {z : Int64} (hR : Rok R) : zEr L xs (d + 4) m_Mo_readWhole [.ref 20, .long z] (mV C u a b V M R) (.inl none) C u a b (fu V 10 (rdW z)) M := by
  have hl := wM_l z
  have hlt := wM_lt z
  have hR1 : Rok (fu R 0 (wM z)) := hR.fu (Nat.lt_of_lt_of_le hlt (by rw [B2]; exact Nat.pow_le_pow_right (by decide) (by decide)))
  obtain ⟨R', hR', hex⟩ := e_Mo_exactly (L := L) (xs := xs) (d := d) (C := C) (u := u) (a := a) (b := b) (V := V) (M := M) (R := fu R 0 (wM z)) (N := wM z) (mb := decide (z < 0)) (Nat.le_trans (nb_bd hlt) (by decide)) hR1 fu_s
  refine ⟨R', hR', 0, Nat.zero_le _, ?_⟩
  have two : ∀ (v : Int64), v = lN (wM z) → zR L xs (d + 4) m_Mo_readWhole 14 [(0, .ref 20), (1, .long z)] [.long v, .int (nI 0), .ref 20] (mV C u a b V M R) 0 (.inl none) (mV C u a b (fu V 10 (rdW z)) M R') 0 := by
    intro v hv
    rw [hv]
    refine zR_v rfl rfl rfl rfl rfl ⟨rfl, Nat.le_of_ble_eq_true rfl, Nat.le_of_ble_eq_true rfl⟩ rfl (Nat.le_refl _) (e_Mo_put (r := 0) (n := wM z) (by decide) hlt hR) rfl rfl ?_
    refine zR_to 21 (st' := [.int (lg_cmp z 0), .ref 20]) rfl ?_
    refine zR_m 1 rfl ?_
    refine zR_if (fun h => ?_) (fun h => ?_)
    · have h0 : decide (z < 0) = false := decide_eq_false (fun h9 => lg_lt_not_le h9 ((lg_cmp_ge _ _).mp h))
      rw [h0] at hex
      refine zR_to 29 (st' := [.int (bI false), .ref 20]) rfl ?_
      refine zR_v rfl rfl rfl rfl rfl ⟨rfl, Nat.le_of_ble_eq_true rfl, Nat.le_of_ble_eq_true rfl⟩ rfl (Nat.le_refl _) hex rfl rfl ?_
      refine zR_e rfl rfl rfl rfl rfl ?_
      unfold rdW
      rw [h0]
    · have h0 : decide (z < 0) = true := decide_eq_true (by
        rcases lg_tri z 0 with h9 | h9 | h9
        · exact h9
        · exact absurd ((lg_cmp_ge _ _).mpr (by rw [h9]; exact Int64.le_refl _)) h
        · exact absurd ((lg_cmp_ge _ _).mpr (Int64.le_of_lt h9)) h)
      rw [h0] at hex
      refine zR_to 29 (st' := [.int (bI true), .ref 20]) rfl ?_
      refine zR_v rfl rfl rfl rfl rfl ⟨rfl, Nat.le_of_ble_eq_true rfl, Nat.le_of_ble_eq_true rfl⟩ rfl (Nat.le_refl _) hex rfl rfl ?_
      refine zR_e rfl rfl rfl rfl rfl ?_
      unfold rdW
      rw [h0]
  refine zR_to 5 (st' := [.int (lg_cmp z 0), .int (nI 0), .ref 20]) rfl ?_
  refine zR_m 1 rfl ?_
  refine zR_if (fun h => ?_) (fun h => ?_)
  · rw [if_neg (fun h9 => lg_lt_not_le h9 ((lg_cmp_ge _ _).mp h))] at hl
    exact zR_to 14 rfl (two _ hl)
  · rw [if_pos (show z < 0 by
      rcases lg_tri z 0 with h9 | h9 | h9
      · exact h9
      · exact absurd ((lg_cmp_ge _ _).mpr (by rw [h9]; exact Int64.le_refl _)) h
      · exact absurd ((lg_cmp_ge _ _).mpr (Int64.le_of_lt h9)) h)] at hl
    exact zR_to 14 rfl (two _ hl)
/-- the two binary forms -/
def fOk (fd fr : Nat) : Prop := (fd = 11 ∧ fr = 52) ∨ (fd = 8 ∧ fr = 23)
theorem fOk_most {fd fr : Nat} (h : fOk fd fr) : (1 : Int32) <<< (nI fd &&& 31) - 1 = nI (2 ^ fd - 1) ∧ (nI (2 ^ fd - 1) - 1) / (2 : Int32) = nI (2 ^ (fd - 1) - 1) := by
  rcases h with ⟨rfl, rfl⟩ | ⟨rfl, rfl⟩ <;> exact ⟨by decide +kernel, by decide +kernel⟩
set_option maxRecDepth 10000 in
set_option maxHeartbeats 4000000 in
theorem e_Mo_readReal {fd fr n : Nat} (hf : fOk fd fr) (hn : n < 2 ^ 64) : zE L xs (d + 1) m_Mo_readReal [.ref 20, .long (lN n), .int (nI fd), .int (nI fr)] (mV C u a b V M R) (.inl none) (mV C u a b (fu V 10 (rdR fd fr n)) M R) := by
  obtain ⟨hm1, hm2⟩ := fOk_most hf
  have hfd : fd ≤ 11 ∧ fr ≤ 52 ∧ 1 ≤ fd ∧ 1 ≤ fr := by rcases hf with ⟨rfl, rfl⟩ | ⟨rfl, rfl⟩ <;> decide
  have hmlt : 2 ^ fd - 1 < 2 ^ 31 := by
    have : 2 ^ fd ≤ 2 ^ 11 := Nat.pow_le_pow_right (by decide) hfd.1
    omega
  have hE : rdE fd fr n < 2 ^ 31 := by
    have h1 : rdE fd fr n < 2 ^ fd := Nat.mod_lt _ (Nat.pow_pos (by decide))
    have : 2 ^ fd ≤ 2 ^ 11 := Nat.pow_le_pow_right (by decide) hfd.1
    omega
  have hF : n % 2 ^ fr < 2 ^ fr := Nat.mod_lt _ (Nat.pow_pos (by decide))
  have hfr : 2 ^ fr ≤ 2 ^ 52 := Nat.pow_le_pow_right (by decide) hfd.2.1
  have hF63 : n % 2 ^ fr < 2 ^ 63 := by omega
  have hor : lN (1 * 2 ^ fr) ||| lN (n % 2 ^ fr) = lN (2 ^ fr + n % 2 ^ fr) := by
    rw [g_or (k := fr) rfl hF (by omega), Nat.one_mul]
  -- from the two numbers on
  have go : ∀ mb : Bool, decide (n / 2 ^ (fd + fr) % 2 = 1) = mb → zR L xs (d + 1) m_Mo_readReal 48 [(8, .long (lN (n % 2 ^ fr))), (7, .int (nI (rdE fd fr n))), (6, .int (nI (2 ^ fd - 1))), (5, .int (bI mb)), (0, .ref 20), (4, .int (nI fr))] [] (mV C u a b V M R) 0 (.inl none) (mV C u a b (fu V 10 (rdR fd fr n)) M R) 0 := by
    intro mb hmb
    unfold rdR
    rw [hmb]
    refine zR_to 51 (st' := [.int (nI (rdE fd fr n)), .ref 20]) rfl ?_
    refine zR_m 1 rfl ?_
    refine zR_if (fun h => ?_) (fun h => ?_)
    · have h0 : rdE fd fr n ≠ 0 := fun h9 => h (by rw [h9]; rfl)
      rw [if_neg h0]
      refine zR_to 62 (st' := [.int (nI (2 ^ fd - 1)), .int (nI (rdE fd fr n)), .ref 20]) rfl ?_
      refine zR_m 1 rfl ?_
      refine zR_if (fun h1 => ?_) (fun h1 => ?_)
      · rw [if_neg (show ¬ rdE fd fr n < 2 ^ fd - 1 from fun h9 => by have := (nI_leI (by omega) (by omega)).mp h1; omega)]
        refine zR_to 73 (st' := [.int (lg_cmp (lN (n % 2 ^ fr)) 0), .ref 20]) rfl ?_
        refine zR_m 1 rfl ?_
        refine zR_if (fun h2 => ?_) (fun h2 => ?_)
        · rw [if_neg (show ¬ n % 2 ^ fr = 0 from fun h9 => h2 ((lg_cmp_eq _ _).mpr (by rw [h9]; rfl)))]
          refine zR_to 83 (st' := [.int (bI mb), .int 3, .ref 20]) rfl ?_
          refine zR_v rfl rfl rfl rfl rfl ⟨rfl, Nat.le_of_ble_eq_true rfl, Nat.le_of_ble_eq_true rfl⟩ rfl (Nat.le_refl _) e_Mo_special rfl rfl ?_
          refine zR_to 97 rfl ?_
          exact zR_e rfl rfl rfl rfl rfl rfl
        · rw [if_pos (show n % 2 ^ fr = 0 from (pk_lEQ hF63 (by decide)).mp ((lg_cmp_eq _ _).mp (Decidable.of_not_not h2)))]
          refine zR_to 83 (st' := [.int (bI mb), .int 2, .ref 20]) rfl ?_
          refine zR_v rfl rfl rfl rfl rfl ⟨rfl, Nat.le_of_ble_eq_true rfl, Nat.le_of_ble_eq_true rfl⟩ rfl (Nat.le_refl _) e_Mo_special rfl rfl ?_
          refine zR_to 97 rfl ?_
          exact zR_e rfl rfl rfl rfl rfl rfl
      · rw [if_pos (show rdE fd fr n < 2 ^ fd - 1 by
          rcases Nat.lt_or_ge (rdE fd fr n) (2 ^ fd - 1) with h9 | h9
          · exact h9
          · exact absurd ((nI_leI (by omega) (by omega)).mpr h9) h1)]
        refine zR_to 83 (st' := [.int (bI mb), .int 1, .ref 20]) rfl ?_
        refine zR_v rfl rfl rfl rfl rfl ⟨rfl, Nat.le_of_ble_eq_true rfl, Nat.le_of_ble_eq_true rfl⟩ rfl (Nat.le_refl _) e_Mo_special rfl rfl ?_
        refine zR_to 112 (st' := [.int ((nI (2 ^ fd - 1) - 1) / 2), .int (nI (rdE fd fr n)), .int (nI 10), .ref 23]) rfl ?_
        rw [hm2]
        refine zR_to 113 (st' := [.int (nI (rdE fd fr n) - nI (2 ^ (fd - 1) - 1)), .int (nI 10), .ref 23]) rfl ?_
        refine zX_put (n := 10) rfl rfl (by decide) rfl ?_
        refine zR_to 123 (st' := [.int (nI fr), .long (lN 1), .int (nI 10), .ref 24]) rfl ?_
        refine zR_to 124 (st' := [.long (lN 1 <<< ((nI fr).toInt64 &&& 63)), .int (nI 10), .ref 24]) rfl ?_
        rw [wb_shl 1 (show fr < 64 by omega)]
        refine zR_to 127 (st' := [.long (lN (1 * 2 ^ fr) ||| lN (n % 2 ^ fr)), .int (nI 10), .ref 24]) rfl ?_
        rw [hor]
        refine zR_to 132 (st' := [.int (nI 63 - nI fr), .long (lN (2 ^ fr + n % 2 ^ fr)), .int (nI 10), .ref 24]) rfl ?_
        rw [pk_sub (show fr ≤ 63 by omega)]
        refine zR_to 133 (st' := [.long (lN (2 ^ fr + n % 2 ^ fr) <<< ((nI (63 - fr)).toInt64 &&& 63)), .int (nI 10), .ref 24]) rfl ?_
        rw [wb_shl _ (show 63 - fr < 64 by omega)]
        refine zS_put (n := 10) rfl rfl (by decide) rfl ?_
        refine zR_e rfl rfl rfl rfl rfl ?_
        have h9 := mV_fu (C := C) (u := u) (a := a) (b := b) (V := fu V 10 (1, decide ((1 : Int32) ≠ 3) && mb, 0, 0)) (M := M) (R := R) (n := 10) (k9 := 1) (b9 := mb) (e9 := nI (rdE fd fr n) - nI (2 ^ (fd - 1) - 1)) (s9 := lN ((2 ^ fr + n % 2 ^ fr) * 2 ^ (63 - fr)))
        rw [fu_self (f := fun i => (fu V 10 (1, decide ((1 : Int32) ≠ 3) && mb, 0, 0) i).1) (k := 10) (x := 1) rfl, fu_self (f := fun i => (fu V 10 (1, decide ((1 : Int32) ≠ 3) && mb, 0, 0) i).2.1) (k := 10) (x := mb) rfl, fu_fu] at h9
        exact h9
    · have h0 : rdE fd fr n = 0 := by
        rcases Nat.eq_zero_or_pos (rdE fd fr n) with h9 | h9
        · exact h9
        · exact absurd (nI_ne0 h9 hE) h
      rw [if_pos h0]
      refine zR_to 83 (st' := [.int (bI mb), .int 0, .ref 20]) rfl ?_
      refine zR_v rfl rfl rfl rfl rfl ⟨rfl, Nat.le_of_ble_eq_true rfl, Nat.le_of_ble_eq_true rfl⟩ rfl (Nat.le_refl _) e_Mo_special rfl rfl ?_
      refine zR_to 97 rfl ?_
      exact zR_e rfl rfl rfl rfl rfl rfl
  have mid : ∀ mb : Bool, decide (n / 2 ^ (fd + fr) % 2 = 1) = mb → zR L xs (d + 1) m_Mo_readReal 20 [(5, .int (bI mb)), (0, .ref 20), (1, .long (lN n)), (3, .int (nI fd)), (4, .int (nI fr))] [] (mV C u a b V M R) 0 (.inl none) (mV C u a b (fu V 10 (rdR fd fr n)) M R) 0 := by
    intro mb hmb
    refine zR_to 25 (st' := [.int ((1 : Int32) <<< (nI fd &&& 31) - 1)]) rfl ?_
    rw [hm1]
    refine zR_to 33 (st' := [.int (nI (2 ^ fd - 1)), .long ((lN n).toUInt64 >>> ((nI fr).toInt64.toUInt64 &&& Int64.toUInt64 63)).toInt64]) rfl ?_
    rw [wb_shr hn (show fr < 64 by omega)]
    refine zR_to 34 (st' := [.long (nI (2 ^ fd - 1)).toInt64, .long (lN (n / 2 ^ fr))]) rfl ?_
    rw [nI_l hmlt]
    refine zR_to 35 (st' := [.long (lN (n / 2 ^ fr) &&& lN (2 ^ fd - 1))]) rfl ?_
    rw [wb_mask (Nat.lt_of_le_of_lt (Nat.div_le_self _ _) hn) (show fd < 64 by omega)]
    refine zR_to 36 (st' := [.int (lN (n / 2 ^ fr % 2 ^ fd)).toInt32]) rfl ?_
    rw [lN_i]
    refine zR_to 43 (st' := [.long (lN 1 <<< ((nI fr).toInt64 &&& 63)), .long (lN n)]) rfl ?_
    rw [wb_shl 1 (show fr < 64 by omega)]
    refine zR_to 45 (st' := [.long (lN (1 * 2 ^ fr) - lN 1), .long (lN n)]) rfl ?_
    rw [lN_sub (by have := Nat.pow_pos (n := fr) (show 0 < 2 by decide); omega), Nat.one_mul]
    refine zR_to 46 (st' := [.long (lN n &&& lN (2 ^ fr - 1))]) rfl ?_
    rw [wb_mask hn (show fr < 64 by omega)]
    refine zR_to 48 rfl ?_
    exact zR_w (go mb hmb) rfl rfl ⟨rfl, rfl, rfl, rfl, rfl, rfl, trivial⟩
  refine ⟨0, Nat.zero_le _, ?_⟩
  refine zR_to 5 (st' := [.int (nI fd + nI fr), .long (lN n)]) rfl ?_
  rw [nI_add]
  refine zR_to 8 (st' := [.long (((lN n).toUInt64 >>> ((nI (fd + fr)).toInt64.toUInt64 &&& Int64.toUInt64 63)).toInt64 &&& 1)]) rfl ?_
  rw [wb_bit hn (show fd + fr < 64 by omega)]
  refine zR_to 10 (st' := [.int (lg_cmp (lN (n / 2 ^ (fd + fr) % 2)) (lN 1))]) rfl ?_
  refine zR_m 1 rfl ?_
  have hb2 : n / 2 ^ (fd + fr) % 2 < 2 ^ 63 := by omega
  refine zR_if (fun h => ?_) (fun h => ?_)
  · exact zR_to 20 rfl (mid false (decide_eq_false (fun h9 => h ((lg_cmp_eq _ _).mpr (by rw [h9])))))
  · exact zR_to 20 rfl (mid true (decide_eq_true ((pk_lEQ hb2 (by decide)).mp ((lg_cmp_eq _ _).mp (Decidable.of_not_not h)))))
end RD
end
section
/-! readDecimal, load of the reference -/
def dG (n : Nat) : Nat → Bool
  | 0 => decide (n / 2 ^ 60 < 2)
  | t + 1 => dG n t && decide (n / 2 ^ (56 - 4 * t) % 16 < 10)
def dV (n : Nat) : Nat → Nat
  | 0 => 0
  | t + 1 => dV n t * 10 + n / 2 ^ (56 - 4 * t) % 16
theorem dV_le (n : Nat) : ∀ t, 9 * dV n t + 15 ≤ 15 * 10 ^ t
  | 0 => by show 9 * 0 + 15 ≤ 15 * 1; omega
  | t + 1 => by
    have h := dV_le n t
    have h2 : n / 2 ^ (56 - 4 * t) % 16 < 16 := Nat.mod_lt _ (by decide)
    show 9 * (dV n t * 10 + n / 2 ^ (56 - 4 * t) % 16) + 15 ≤ 15 * 10 ^ (t + 1)
    rw [Nat.pow_succ]
    omega
theorem dV_lt (n : Nat) : dV n 15 < 2 ^ 63 := by
  have h := dV_le n 15
  have e : (15 : Nat) * 10 ^ 15 < 9 * 2 ^ 63 := by decide
  omega
/-- (the real, the exceptions) -/
def rdD (n : Nat) : RV × Int32 := if dG n 15 then (exV (decide (n / 2 ^ 60 = 1)) (dV n 15), 0) else (vNan, 1)
section RD
variable {L : Nat} {xs : Nat → Int32} {d : Nat} {C : Nat → zC} {u : zC} {a : Nat → Int32} {b : Nat → Int64} {M : Nat → Int64} {R : Nat → Nat} {V : Nat → RV}
theorem dgt {n k : Nat} (hn : n < 2 ^ 64) (hk : k < 64) : ((lN n).toUInt64 >>> ((nI k).toInt64.toUInt64 &&& Int64.toUInt64 63)).toInt64 &&& lN 15 = lN (n / 2 ^ k % 16) := by
  rw [wb_shr hn hk, show (15 : Nat) = 2 ^ 4 - 1 from rfl, wb_mask (Nat.lt_of_le_of_lt (Nat.div_le_self _ _) hn) (by decide)]
set_option maxRecDepth 10000 in
theorem l_Mo_readDecimal {n : Nat} {o : zO} {h9 : zH} (hn : n < 2 ^ 64)
    (hr : ∀ z : Int32, zR L xs (d + 4) m_Mo_readDecimal 80 [(8, .int z), (6, .long (lN (dV n 15))), (5, .int (bI (dG n 15))), (3, .long (lN (n / 2 ^ 60))), (0, .ref 20)] [] (mV C u a b V M R) 0 o h9 0) :
    ∀ (c t : Nat), c + t = 15 → zR L xs (d + 4) m_Mo_readDecimal 27 [(8, .int (iZ (56 - 4 * (t : Int)))), (6, .long (lN (dV n t))), (5, .int (bI (dG n t))), (3, .long (lN (n / 2 ^ 60))), (0, .ref 20), (1, .long (lN n))] [] (mV C u a b V M R) 0 o h9 0 := by
  intro c
  induction c with
  | zero =>
    intro t ht
    obtain rfl : t = 15 := by omega
    refine zR_to 29 rfl ?_
    refine zR_m 1 rfl ?_
    refine zR_if (fun _ => ?_) (fun h => absurd (show iZ (56 - 4 * ((15 : Nat) : Int)) < 0 by decide) h)
    exact zR_w (hr _) rfl rfl ⟨rfl, rfl, rfl, rfl, rfl, trivial⟩
  | succ c ih =>
    intro t ht
    have e1 : (56 : Int) - 4 * (t : Int) = ((56 - 4 * t : Nat) : Int) := by omega
    have hd : n / 2 ^ (56 - 4 * t) % 16 < 16 := Nat.mod_lt _ (by decide)
    have nx : ∀ gg : Bool, dG n (t + 1) = gg → ∀ g0 : Int32, zR L xs (d + 4) m_Mo_readDecimal 63 [(5, .int (bI gg)), (9, .long (lN (n / 2 ^ (56 - 4 * t) % 16))), (8, .int (iZ (56 - 4 * (t : Int)))), (6, .long (lN (dV n t))), (3, .long (lN (n / 2 ^ 60))), (0, .ref 20), (1, .long (lN n))] [] (mV C u a b V M R) 0 o h9 0 := by
      intro gg hgg _
      have h := ih (t + 1) (by omega)
      rw [hgg] at h
      refine zR_to 72 (st' := [.long (lN (dV n t) * lN 10 + lN (n / 2 ^ (56 - 4 * t) % 16))]) rfl ?_
      rw [lN_mul, lN_add]
      refine zR_to 27 rfl ?_
      refine zR_w h rfl rfl ⟨?_, rfl, rfl, rfl, rfl, rfl, trivial⟩
      rw [show iZ (56 - 4 * ((t + 1 : Nat) : Int)) = iZ (56 - 4 * (t : Int)) + iZ (-4) from by rw [iZ_add]; congr 1; omega]
      rfl
    refine zR_to 29 rfl ?_
    refine zR_m 1 rfl ?_
    refine zR_if (fun h => ?_) (fun _ => ?_)
    · have := (iZ_lt (y := 0) (by omega) (by omega)).mp h
      omega
    refine zR_to 40 (st' := [.long (((lN n).toUInt64 >>> ((iZ (56 - 4 * (t : Int))).toInt64.toUInt64 &&& Int64.toUInt64 63)).toInt64 &&& lN 15)]) rfl ?_
    rw [show ((lN n).toUInt64 >>> ((iZ (56 - 4 * (t : Int))).toInt64.toUInt64 &&& Int64.toUInt64 63)).toInt64 &&& lN 15 = lN (n / 2 ^ (56 - 4 * t) % 16) from by rw [e1, iZ_nat]; exact dgt hn (by omega)]
    cases hg : dG n t with
    | false =>
      have hg1 : dG n (t + 1) = false := by
        show (dG n t && _) = false
        rw [hg]
        rfl
      refine zR_to 63 rfl ?_
      exact zR_w (nx false hg1 0) rfl rfl ⟨rfl, rfl, rfl, rfl, rfl, rfl, rfl, trivial⟩
    | true =>
      refine zR_to 53 (st' := [.int (lg_cmp (lN (n / 2 ^ (56 - 4 * t) % 16)) (lN 10))]) rfl ?_
      refine zR_m 1 rfl ?_
      refine zR_if (fun h => ?_) (fun h => ?_)
      · have hg1 : dG n (t + 1) = false := by
          show (dG n t && _) = false
          rw [hg, decide_eq_false (show ¬ n / 2 ^ (56 - 4 * t) % 16 < 10 from fun h8 => by
            have := (pk_lLE (a := 10) (by decide) (by omega)).mp ((lg_cmp_ge _ _).mp h)
            omega)]
          rfl
        refine zR_to 63 rfl ?_
        exact zR_w (nx false hg1 0) rfl rfl ⟨rfl, rfl, rfl, rfl, rfl, rfl, rfl, trivial⟩
      · have hg1 : dG n (t + 1) = true := by
          show (dG n t && _) = true
          rw [hg, decide_eq_true (show n / 2 ^ (56 - 4 * t) % 16 < 10 by
            rcases Nat.lt_or_ge (n / 2 ^ (56 - 4 * t) % 16) 10 with h8 | h8
            · exact h8
            · exact absurd ((lg_cmp_ge _ _).mpr ((pk_lLE (by decide) (by omega)).mpr h8)) h)]
          rfl
        refine zR_to 63 rfl ?_
        exact zR_w (nx true hg1 0) rfl rfl ⟨rfl, rfl, rfl, rfl, rfl, rfl, rfl, trivial⟩
set_option maxRecDepth 10000 in
theorem e_Mo_readDecimal {n : Nat} (hn : n < 2 ^ 64) (hR : Rok R) : zEr L xs (d + 4) m_Mo_readDecimal [.ref 20, .long (lN n)] (mV C u a b V M R) (.inl none) C u (nt a (rdD n).2) b (fu V 10 (rdD n).1) M := by
  have h63 := dV_lt n
  have h64 : dV n 15 < 2 ^ 64 := by omega
  have hR1 : Rok (fu R 0 (dV n 15)) := hR.fu (Nat.lt_of_lt_of_le h64 (by rw [B2]; exact Nat.pow_le_pow_right (by decide) (by decide)))
  have hsl : n / 2 ^ 60 < 2 ^ 63 := Nat.lt_of_lt_of_le (Nat.div_lt_of_lt_mul (by rw [← Nat.pow_add]; exact Nat.lt_of_lt_of_le hn (Nat.pow_le_pow_right (by decide) (by decide)))) (show 2 ^ 4 ≤ 2 ^ 63 by decide)
  obtain ⟨R', hR', hex⟩ := e_Mo_exactly (L := L) (xs := xs) (d := d) (C := C) (u := u) (a := a) (b := b) (V := V) (M := M) (R := fu R 0 (dV n 15)) (N := dV n 15) (mb := decide (n / 2 ^ 60 = 1)) (Nat.le_trans (nb_bd h64) (by decide)) hR1 fu_s
  have go : ∀ {h9 : zH}, (∀ z : Int32, zR L xs (d + 4) m_Mo_readDecimal 80 [(8, .int z), (6, .long (lN (dV n 15))), (5, .int (bI (dG n 15))), (3, .long (lN (n / 2 ^ 60))), (0, .ref 20)] [] (mV C u a b V M R) 0 (.inl none) h9 0) → zE L xs (d + 4) m_Mo_readDecimal [.ref 20, .long (lN n)] (mV C u a b V M R) (.inl none) h9 := fun {h9} hr => by
    have hl := l_Mo_readDecimal hn hr 15 0 rfl
    refine ⟨0, Nat.zero_le _, ?_⟩
    refine zR_to 4 (st' := [.long ((lN n).toUInt64 >>> ((nI 60).toInt64.toUInt64 &&& Int64.toUInt64 63)).toInt64]) rfl ?_
    rw [wb_shr hn (show 60 < 64 by decide)]
    refine zR_to 10 (st' := [.int (lg_cmp (lN (n / 2 ^ 60)) (lN 2))]) rfl ?_
    refine zR_m 1 rfl ?_
    refine zR_if (fun h => ?_) (fun h => ?_)
    · rw [show dG n 0 = false from decide_eq_false (fun h8 => by
        have := (pk_lLE (a := 2) (by decide) (by omega)).mp ((lg_cmp_ge _ _).mp h)
        omega)] at hl
      refine zR_to 27 rfl ?_
      exact zR_w hl rfl rfl ⟨rfl, rfl, rfl, rfl, rfl, rfl, trivial⟩
    · rw [show dG n 0 = true from decide_eq_true (by
        rcases Nat.lt_or_ge (n / 2 ^ 60) 2 with h8 | h8
        · exact h8
        · exact absurd ((lg_cmp_ge _ _).mpr ((pk_lLE (by decide) (by omega)).mpr h8)) h)] at hl
      refine zR_to 27 rfl ?_
      exact zR_w hl rfl rfl ⟨rfl, rfl, rfl, rfl, rfl, rfl, trivial⟩
  unfold rdD
  cases hg : dG n 15 with
  | false =>
    rw [if_neg (show ¬ (false = true) by decide)]
    refine ⟨fu R 0 (dV n 15), hR1, go (fun z => ?_)⟩
    rw [hg]
    refine zR_to 84 (st' := [.long (lN (dV n 15)), .int (nI 0), .ref 20]) rfl ?_
    refine zR_v rfl rfl rfl rfl rfl ⟨rfl, Nat.le_of_ble_eq_true rfl, Nat.le_of_ble_eq_true rfl⟩ rfl (Nat.le_refl _) (e_Mo_put (r := 0) (n := dV n 15) (by decide) h64 hR) rfl rfl ?_
    refine zR_to 111 rfl ?_
    refine zR_v rfl rfl rfl rfl rfl ⟨rfl, Nat.le_of_ble_eq_true rfl, Nat.le_of_ble_eq_true rfl⟩ rfl (Nat.le_refl _) e_Mo_invalid rfl rfl ?_
    exact zR_e rfl rfl rfl rfl rfl rfl
  | true =>
    rw [if_pos rfl, nt_0]
    refine ⟨R', hR', go (fun z => ?_)⟩
    rw [hg]
    refine zR_to 84 (st' := [.long (lN (dV n 15)), .int (nI 0), .ref 20]) rfl ?_
    refine zR_v rfl rfl rfl rfl rfl ⟨rfl, Nat.le_of_ble_eq_true rfl, Nat.le_of_ble_eq_true rfl⟩ rfl (Nat.le_refl _) (e_Mo_put (r := 0) (n := dV n 15) (by decide) h64 hR) rfl rfl ?_
    refine zR_to 96 (st' := [.int (lg_cmp (lN (n / 2 ^ 60)) (lN 1)), .ref 20]) rfl ?_
    refine zR_m 1 rfl ?_
    refine zR_if (fun h => ?_) (fun h => ?_)
    · rw [decide_eq_false (show ¬ n / 2 ^ 60 = 1 from fun h8 => h ((lg_cmp_eq _ _).mpr (by rw [h8])))] at hex ⊢
      refine zR_to 104 (st' := [.int (bI false), .ref 20]) rfl ?_
      refine zR_v rfl rfl rfl rfl rfl ⟨rfl, Nat.le_of_ble_eq_true rfl, Nat.le_of_ble_eq_true rfl⟩ rfl (Nat.le_refl _) hex rfl rfl ?_
      refine zR_to 114 rfl ?_
      exact zR_e rfl rfl rfl rfl rfl rfl
    · rw [decide_eq_true (show n / 2 ^ 60 = 1 from (pk_lEQ hsl (by decide)).mp ((lg_cmp_eq _ _).mp (Decidable.of_not_not h)))] at hex ⊢
      refine zR_to 104 (st' := [.int (bI true), .ref 20]) rfl ?_
      refine zR_v rfl rfl rfl rfl rfl ⟨rfl, Nat.le_of_ble_eq_true rfl, Nat.le_of_ble_eq_true rfl⟩ rfl (Nat.le_refl _) hex rfl rfl ?_
      refine zR_to 114 rfl ?_
      exact zR_e rfl rfl rfl rfl rfl rfl
end RD
end
section
/-! load of the reference -/
def ldR (fm : Nat) (z : Int64) : RV × Int32 := if fm = 0 then (rdW z, 0) else if fm = 1 then (rdR 11 52 (uN z), 0) else if fm = 2 then (rdR 8 23 (uN z), 0) else rdD (uN z)
def MoLd (L : Nat) (xs : Nat → Int32) (d : Nat) (C : Nat → zC) (u : zC) (a : Nat → Int32) (b : Nat → Int64) (V : Nat → RV) (M : Nat → Int64) (R : Nat → Nat) (B n : Nat) (y x e : Int32) (n' : Nat) (v' : Nat → RV) : Prop := ∃ a' V' R', Rok R' ∧ oPost (beA a B 4) V e n n' v' (a 6) a' V' ∧ zE L xs (d + 6) m_Mo_load [.ref 20, .int y, .int x] (mV C u a b V M R) (.inl (some (.int (if thr (a 3) e then 0 else e)))) (mV C u a' (goB b B) V' (goM (fu a 0 0) b M B B) R')
section LD
variable {L : Nat} {xs : Nat → Int32} {d : Nat} {C : Nat → zC} {u : zC} {a : Nat → Int32} {b : Nat → Int64} {M : Nat → Int64} {R : Nat → Nat} {V : Nat → RV} {n B p w : Nat}
set_option maxRecDepth 10000 in
theorem e_Mo_load0 {y x : Int32} (hb : outB y (nI 8) = true ∨ outB x (nI 4) = true) : zE L xs (d + 1) m_Mo_load [.ref 20, .int y, .int x] (mV C u a b V M R) (.inl (some (.int 0))) (mV C u (fu a 0 1) b V M R) := by
  have bad : zR L xs (d + 1) m_Mo_load 18 [(0, .ref 20), (1, .int y), (2, .int x)] [.ref 20] (mV C u a b V M R) 0 (.inl (some (.int 0))) (mV C u (fu a 0 1) b V M R) 0 := by
    refine zR_to 34 (st' := [.int 0]) (h1 := mV C u (fu a 0 1) b V M R) rfl ?_
    exact zR_e rfl rfl rfl rfl rfl rfl
  refine ⟨0, Nat.zero_le _, ?_⟩
  refine zR_to 4 (st' := [.int (nI 8), .int y, .ref 20]) rfl ?_
  refine zR_i rfl rfl rfl rfl ⟨Nat.le_of_ble_eq_true rfl, Nat.le_of_ble_eq_true rfl, Nat.le_of_ble_eq_true rfl⟩ rfl (Nat.le_refl _) (e_Mo_out (x := y) (y := nI 8)) rfl rfl ?_
  rw [show decide (y < 0 ∨ nI 8 ≤ y) = outB y (nI 8) from rfl]
  cases h1 : outB y (nI 8) with
  | true => exact zR_to 18 rfl bad
  | false =>
    refine zR_to 12 (st' := [.int (nI 4), .int x, .ref 20]) rfl ?_
    refine zR_i rfl rfl rfl rfl ⟨Nat.le_of_ble_eq_true rfl, Nat.le_of_ble_eq_true rfl, Nat.le_of_ble_eq_true rfl⟩ rfl (Nat.le_refl _) (e_Mo_out (x := x) (y := nI 4)) rfl rfl ?_
    have h2 : outB x (nI 4) = true := by
      rcases hb with h9 | h9
      · rw [h1] at h9
        cases h9
      · exact h9
    rw [show decide (x < 0 ∨ nI 4 ≤ x) = true from h2]
    exact zR_to 18 rfl bad
theorem out4 {j : Nat} (hj : j < 4) : outB (nI j) (nI 4) = false := decide_eq_false (fun h9 => by
  rcases h9 with h9 | h9
  · exact nI_pos (n := j) (by omega) h9
  · exact nI_ge (a := j) (b := 4) hj (by decide) h9)
set_option maxRecDepth 10000 in
theorem h_Mo_load {j fm : Nat} {o : zO} {h9 : zH} (hj : j < 8) (hfm : fm < 4) (hB : a 13 = nI B) (hB2 : B ≤ 1000) (hce : ∀ c, a 14 = c → ¬ c < 0 → ∃ j : Nat, j < 8 ∧ c = nI j)
    (hr : zR L xs (d + 2) m_Mo_load 46 [(0, .ref 20), (1, .int (nI j)), (2, .int (nI fm))] [.int (nI 8), .int (a 7)] (mV C u (beA a B 4) (goB b B) V (goM (fu a 0 0) b M B B) R) 0 o h9 0) : zE L xs (d + 2) m_Mo_load [.ref 20, .int (nI j), .int (nI fm)] (mV C u a b V M R) o h9 := by
  refine ⟨0, Nat.zero_le _, ?_⟩
  refine zR_to 4 (st' := [.int (nI 8), .int (nI j), .ref 20]) rfl ?_
  refine zR_i rfl rfl rfl rfl ⟨Nat.le_of_ble_eq_true rfl, Nat.le_of_ble_eq_true rfl, Nat.le_of_ble_eq_true rfl⟩ rfl (Nat.le_refl _) (e_Mo_out (x := nI j) (y := nI 8)) rfl rfl ?_
  rw [show decide (nI j < 0 ∨ nI 8 ≤ nI j) = false from out8 hj]
  refine zR_to 12 (st' := [.int (nI 4), .int (nI fm), .ref 20]) rfl ?_
  refine zR_i rfl rfl rfl rfl ⟨Nat.le_of_ble_eq_true rfl, Nat.le_of_ble_eq_true rfl, Nat.le_of_ble_eq_true rfl⟩ rfl (Nat.le_refl _) (e_Mo_out (x := nI fm) (y := nI 4)) rfl rfl ?_
  rw [show decide (nI fm < 0 ∨ nI 4 ≤ nI fm) = false from out4 hfm]
  refine zR_to 37 (st' := [.int (nI 4), .ref 20]) (h1 := mV C u (fu a 0 0) b V M R) rfl ?_
  refine zR_v rfl rfl rfl rfl rfl ⟨rfl, Nat.le_of_ble_eq_true rfl, Nat.le_of_ble_eq_true rfl⟩ rfl (Nat.le_refl _) (e_Mo_begin (a := fu a 0 0) (B := B) (t := 4) hB hB2 hce) rfl rfl ?_
  refine zR_to 46 (st' := [.int (nI 8), .int (beA a B 4 7)]) rfl ?_
  rw [beA_at (show (7 : Nat) ≠ 0 by decide) (by decide) (by decide) (by decide)]
  exact hr
set_option maxRecDepth 10000 in
theorem l_ldn {j fm : Nat} (hI : MoI a V R n B p w) (hj : j < 8) (hfm : fm < 4) (h8 : n = 8) : MoLd L xs d C u a b V M R B n (nI j) (nI fm) 1 n V := by
  obtain ⟨hB, hB2, hce, hn, hn8, hc, hv, hR⟩ := hI
  have e7 : beA a B 4 7 = nI n := (beA_at (by decide) (by decide) (by decide) (by decide)).trans hn
  have e6 : beA a B 4 6 = a 6 := beA_at (by decide) (by decide) (by decide) (by decide)
  have e3 : beA a B 4 3 = a 3 := beA_at (by decide) (by decide) (by decide) (by decide)
  refine ⟨_, V, R, hR, e6 ▸ oP_no e7 (fun _ _ => rfl), ?_⟩
  refine h_Mo_load (d := d + 4) hj hfm hB hB2 hce ?_
  rw [hn, h8]
  refine zR_to 50 rfl ?_
  refine zR_v rfl rfl rfl rfl rfl ⟨rfl, Nat.le_of_ble_eq_true rfl, Nat.le_of_ble_eq_true rfl⟩ rfl (Nat.le_refl _) e_Mo_refuse rfl rfl ?_
  exact zR_q rfl rfl rfl rfl rfl (by rw [thB_1, e3]) rfl
set_option maxRecDepth 10000 in
set_option maxHeartbeats 4000000 in
theorem l_ld {j fm : Nat} (hI : MoI a V R n B p w) (hj : j < 8) (hfm : fm < 4) (h8 : n < 8) : MoLd L xs d C u a b V M R B n (nI j) (nI fm) (ldR fm (goM (fu a 0 0) b M B B j)).2 (n + 1) (fu V n (ldR fm (goM (fu a 0 0) b M B B j)).1) := by
  obtain ⟨hB, hB2, hce, hn, hn8, hc, hv, hR⟩ := hI
  have e7 : beA a B 4 7 = nI n := (beA_at (by decide) (by decide) (by decide) (by decide)).trans hn
  have e6 : beA a B 4 6 = a 6 := beA_at (by decide) (by decide) (by decide) (by decide)
  have e3 : beA a B 4 3 = a 3 := beA_at (by decide) (by decide) (by decide) (by decide)
  -- from the reading's end on
  have fin : ∀ (r : RV × Int32) (R' : Nat → Nat), Rok R' → (∀ {h9 : zH} {o : zO}, zR L xs (d + 6) m_Mo_load 121 [(0, .ref 20)] [] (mV C u (nt (beA a B 4) r.2) (goB b B) (fu V 10 r.1) (goM (fu a 0 0) b M B B) R') 0 o h9 0 → zR L xs (d + 6) m_Mo_load 54 [(0, .ref 20), (1, .int (nI j)), (2, .int (nI fm))] [] (mV C u (beA a B 4) (goB b B) V (goM (fu a 0 0) b M B B) R) 0 o h9 0) →
      MoLd L xs d C u a b V M R B n (nI j) (nI fm) r.2 (n + 1) (fu V n r.1) := by
    intro r R' hR' hgo
    have hP := oP_ch (a := beA a B 4) (V := V) (n := n) (g := 0) (x := r.2) (V' := fu V 10 r.1) beA_5 e7 (by omega) (fun i hi => fu_n (by omega)) fu_s
    rw [e6] at hP
    refine ⟨_, _, R', hR', hP, ?_⟩
    refine h_Mo_load (d := d + 4) hj hfm hB hB2 hce ?_
    rw [hn]
    refine zR_m 1 rfl ?_
    refine zR_if (fun _ => hgo ?_) (fun h => absurd (fun h9 => by have := (nI_eq (by omega) (by omega)).mp h9; omega) h)
    refine zR_to 123 (st' := [.int (nI 0), .ref 20]) rfl ?_
    refine zR_v rfl rfl rfl rfl rfl ⟨rfl, Nat.le_of_ble_eq_true rfl, Nat.le_of_ble_eq_true rfl⟩ rfl (Nat.le_refl _) (e_Mo_change (n := n) (g := 0) e7 hn8 (by omega)) rfl rfl ?_
    exact zR_q rfl rfl rfl rfl rfl (by rw [chO_ch beA_5 (by omega), e3]) rfl
  generalize hz : goM (fu a 0 0) b M B B j = z at *
  obtain rfl | rfl | rfl | rfl : fm = 0 ∨ fm = 1 ∨ fm = 2 ∨ fm = 3 := by omega
  · obtain ⟨R', hR', hz1⟩ := e_Mo_readWhole (L := L) (xs := xs) (d := d + 1) (C := C) (u := u) (a := beA a B 4) (b := goB b B) (V := V) (M := goM (fu a 0 0) b M B B) (R := R) (z := z) hR
    refine fin (rdW z, 0) R' hR' (fun {h9 o} hr => ?_)
    rw [nt_0] at hr
    refine zR_to 64 (st' := [.int (nI j), .ref 25, .ref 20]) rfl ?_
    refine zM_get (n := j) rfl rfl hj rfl ?_
    rw [hz]
    refine zR_v rfl rfl rfl rfl rfl ⟨rfl, Nat.le_of_ble_eq_true rfl, Nat.le_of_ble_eq_true rfl⟩ rfl (Nat.le_refl _) hz1 rfl rfl ?_
    refine zR_to 121 rfl ?_
    exact zR_w hr rfl rfl ⟨rfl, trivial⟩
  · have hz1 := e_Mo_readReal (L := L) (xs := xs) (d := d + 4) (C := C) (u := u) (a := beA a B 4) (b := goB b B) (V := V) (M := goM (fu a 0 0) b M B B) (R := R) (fd := 11) (fr := 52) (n := uN z) (Or.inl ⟨rfl, rfl⟩) (uN_lt2 z)
    refine fin (rdR 11 52 (uN z), 0) R hR (fun {h9 o} hr => ?_)
    rw [nt_0] at hr
    refine zR_to 79 (st' := [.int (nI j), .ref 25, .ref 20]) rfl ?_
    refine zM_get (n := j) rfl rfl hj rfl ?_
    rw [hz, ← lN_uN z]
    refine zR_to 84 (st' := [.int (nI 52), .int (nI 11), .long (lN (uN z)), .ref 20]) rfl ?_
    refine zR_v rfl rfl rfl rfl rfl ⟨rfl, Nat.le_of_ble_eq_true rfl, Nat.le_of_ble_eq_true rfl⟩ rfl (Nat.le_refl _) hz1 rfl rfl ?_
    refine zR_to 121 rfl ?_
    exact zR_w hr rfl rfl ⟨rfl, trivial⟩
  · have hz1 := e_Mo_readReal (L := L) (xs := xs) (d := d + 4) (C := C) (u := u) (a := beA a B 4) (b := goB b B) (V := V) (M := goM (fu a 0 0) b M B B) (R := R) (fd := 8) (fr := 23) (n := uN z) (Or.inr ⟨rfl, rfl⟩) (uN_lt2 z)
    refine fin (rdR 8 23 (uN z), 0) R hR (fun {h9 o} hr => ?_)
    rw [nt_0] at hr
    refine zR_to 98 (st' := [.int (nI j), .ref 25, .ref 20]) rfl ?_
    refine zM_get (n := j) rfl rfl hj rfl ?_
    rw [hz, ← lN_uN z]
    refine zR_to 103 (st' := [.int (nI 23), .int (nI 8), .long (lN (uN z)), .ref 20]) rfl ?_
    refine zR_v rfl rfl rfl rfl rfl ⟨rfl, Nat.le_of_ble_eq_true rfl, Nat.le_of_ble_eq_true rfl⟩ rfl (Nat.le_refl _) hz1 rfl rfl ?_
    refine zR_to 121 rfl ?_
    exact zR_w hr rfl rfl ⟨rfl, trivial⟩
  · obtain ⟨R', hR', hz1⟩ := e_Mo_readDecimal (L := L) (xs := xs) (d := d + 1) (C := C) (u := u) (a := beA a B 4) (b := goB b B) (V := V) (M := goM (fu a 0 0) b M B B) (R := R) (n := uN z) (uN_lt2 z) hR
    refine fin (rdD (uN z)) R' hR' (fun {h9 o} hr => ?_)
    refine zR_to 117 (st' := [.int (nI j), .ref 25, .ref 20]) rfl ?_
    refine zM_get (n := j) rfl rfl hj rfl ?_
    rw [hz, ← lN_uN z, lN_uN z]
    rw [lN_uN z] at hz1
    refine zR_v rfl rfl rfl rfl rfl ⟨rfl, Nat.le_of_ble_eq_true rfl, Nat.le_of_ble_eq_true rfl⟩ rfl (Nat.le_refl _) hz1 rfl rfl ?_
    refine zR_to 121 rfl ?_
    exact zR_w hr rfl rfl ⟨rfl, trivial⟩
end LD
end
section
/-! The class's heap: ints f (0 depth, 1 mask, 2 flags, 3 condition, 4 precision, 5 way, 6 target), longs g (0 image, 1 now, 2 freeAt, 3 coming), storing, the stack's places A, the reals W, the two exact numbers, the cells; T: what lies behind -/
abbrev XV : Type := Bool × Int32 × Int64 × Int64
def fR (v : RV) : List Value := [.int v.1, .int (bI v.2.1), .int v.2.2.1, .long v.2.2.2]
def cX (x : XV) : zC := .inr (2, [.int (bI x.1), .int x.2.1, .long x.2.2.1, .long x.2.2.2])
def sC (f : Nat → Int32) (g : Nat → Int64) (sg : Bool) (A : Nat → Option Nat) (W : Nat → RV) (x y : XV) (Mc : Nat → Int64) : Nat → zC := fun k => match k with
  | 0 => .inr (0, [.ref 1, .ref 10, .ref 11, .ref 12, .ref 13, .ref 15, .ref 18, .int (f 0), .int (f 1), .int (f 2), .int (f 3)])
  | 1 => .inl (3, 8, .inr (.inr (.inr (.inr A))))
  | 2 => .inr (1, fR (W 2))
  | 3 => .inr (1, fR (W 3))
  | 4 => .inr (1, fR (W 4))
  | 5 => .inr (1, fR (W 5))
  | 6 => .inr (1, fR (W 6))
  | 7 => .inr (1, fR (W 7))
  | 8 => .inr (1, fR (W 8))
  | 9 => .inr (1, fR (W 9))
  | 10 => .inr (1, fR (W 10))
  | 11 => .inr (1, fR (W 11))
  | 12 => .inr (3, [.int (f 4), .int (f 5)])
  | 13 => .inr (4, [.ref 12, .ref 14])
  | 14 => cX x
  | 15 => .inr (5, [.ref 12, .ref 16, .ref 17, .long (g 0)])
  | 16 => cX y
  | 17 => .inr (1, fR (W 17))
  | 18 => .inr (6, [.ref 19, .long (g 1), .long (g 2), .int (bI sg), .int (f 6), .long (g 3)])
  | _ => .inl (1, 8, .inr (.inl Mc))
def cH (C : Nat → zC) (T : List zC) : zH := [C 0, C 1, C 2, C 3, C 4, C 5, C 6, C 7, C 8, C 9, C 10, C 11, C 12, C 13, C 14, C 15, C 16, C 17, C 18, C 19] ++ T
abbrev sH (f : Nat → Int32) (g : Nat → Int64) (sg : Bool) (A : Nat → Option Nat) (W : Nat → RV) (x y : XV) (Mc : Nat → Int64) (T : List zC) : zH := cH (sC f g sg A W x y Mc) T
/-- the places of reals -/
def RP (q : Nat) : Prop := (2 ≤ q ∧ q ≤ 11) ∨ q = 17
theorem RP_cases {q : Nat} (h : RP q) : q = 2 ∨ q = 3 ∨ q = 4 ∨ q = 5 ∨ q = 6 ∨ q = 7 ∨ q = 8 ∨ q = 9 ∨ q = 10 ∨ q = 11 ∨ q = 17 := by
  rcases h with h | h <;> omega
section CH
variable {f : Nat → Int32} {g : Nat → Int64} {sg : Bool} {A : Nat → Option Nat} {W : Nat → RV} {x y : XV} {Mc : Nat → Int64} {T : List zC}
theorem sR_get {q : Nat} (hq : RP q) : (sH f g sg A W x y Mc T)[q]? = some (.inr (1, fR (W q))) := by
  rcases RP_cases hq with rfl | rfl | rfl | rfl | rfl | rfl | rfl | rfl | rfl | rfl | rfl <;> rfl
theorem sR_set {q : Nat} {v : RV} (hq : RP q) : (sH f g sg A W x y Mc T).set q (.inr (1, fR v)) = sH f g sg A (fu W q v) x y Mc T := by
  rcases RP_cases hq with rfl | rfl | rfl | rfl | rfl | rfl | rfl | rfl | rfl | rfl | rfl <;> rfl
end CH
section CR
variable {L : Nat} {xs : Nat → Int32} {d : Nat} {mi : ZM} {pc : Nat} {lv : zL} {st st' r : List Value} {h h' : zH} {k k' : Nat} {o : zO} {pc' : Nat}
variable {f : Nat → Int32} {g : Nat → Int64} {sg : Bool} {A : Nat → Option Nat} {W : Nat → RV} {x y : XV} {Mc : Nat → Int64} {T : List zC}
/-- a field of a real read, written -/
theorem zW_g {n j q : Nat} {v0 : RV} {v : Value} (hq : RP q) (hf : zfetch mi pc = some (.getfield n, 3)) (hx : zFld (zCno mi) n = some (1, j)) (hw : W q = v0) (hv : (fR v0)[j]? = some v) (hp : pc + 3 = pc') (hR : zR L xs d mi pc' lv (v :: r) (sH f g sg A W x y Mc T) k o h' k') : zR L xs d mi pc lv (.ref q :: r) (sH f g sg A W x y Mc T) k o h' k' :=
  zR_g hf hx (sR_get hq) (by rw [hw]; exact hv) hp hR
theorem zW_p {n j q : Nat} {v0 v1 : RV} {v : Value} (hq : RP q) (hf : zfetch mi pc = some (.putfield n, 3)) (hx : zFld (zCno mi) n = some (1, j)) (hw : W q = v0) (hj : j < 4) (hv : zput 1 j v = true) (hs : (fR v0).set j v = fR v1) (hp : pc + 3 = pc') (hR : zR L xs d mi pc' lv r (sH f g sg A (fu W q v1) x y Mc T) k o h' k') : zR L xs d mi pc lv (v :: .ref q :: r) (sH f g sg A W x y Mc T) k o h' k' :=
  zR_p (fs' := fR v1) hf hx (sR_get hq) hj hv (by rw [hw]; exact hs) hp (by rw [sR_set hq]; exact hR)
set_option maxRecDepth 10000 in
theorem c_Re_copy {q j : Nat} (hq : RP q) (hj : RP j) (hne : j ≠ q) : zE L xs d m_Re_copy [.ref q, .ref j] (sH f g sg A W x y Mc T) (.inl none) (sH f g sg A (fu W q (W j)) x y Mc T) := by
  refine ⟨0, Nat.zero_le _, ?_⟩
  refine zR_n 2 rfl ?_
  refine zW_g hj rfl rfl rfl rfl rfl ?_
  refine zW_p (v1 := ((W j).1, (W q).2.1, (W q).2.2)) hq rfl rfl rfl (Nat.le_of_ble_eq_true rfl) rfl rfl rfl ?_
  refine zR_n 2 rfl ?_
  refine zW_g hj rfl rfl (fu_n hne) rfl rfl ?_
  refine zW_p (v1 := ((W j).1, (W j).2.1, (W q).2.2)) hq rfl rfl fu_s (Nat.le_of_ble_eq_true rfl) (bI_put _ _ _ rfl rfl) rfl rfl ?_
  rw [fu_fu]
  refine zR_n 2 rfl ?_
  refine zW_g hj rfl rfl (fu_n hne) rfl rfl ?_
  refine zW_p (v1 := ((W j).1, (W j).2.1, (W j).2.2.1, (W q).2.2.2)) hq rfl rfl fu_s (Nat.le_of_ble_eq_true rfl) rfl rfl rfl ?_
  rw [fu_fu]
  refine zR_n 2 rfl ?_
  refine zW_g hj rfl rfl (fu_n hne) rfl rfl ?_
  refine zW_p (v1 := W j) hq rfl rfl fu_s (Nat.le_of_ble_eq_true rfl) rfl rfl rfl ?_
  rw [fu_fu]
  exact zR_e rfl rfl rfl rfl rfl rfl
set_option maxRecDepth 10000 in
theorem c_Re_becomeNan {q : Nat} (hq : RP q) : zE L xs d m_Re_becomeNan [.ref q] (sH f g sg A W x y Mc T) (.inl none) (sH f g sg A (fu W q vNan) x y Mc T) := by
  refine ⟨0, Nat.zero_le _, ?_⟩
  refine zR_n 2 rfl ?_
  refine zW_p (v1 := (3, (W q).2)) hq rfl rfl rfl (Nat.le_of_ble_eq_true rfl) rfl rfl rfl ?_
  refine zR_n 2 rfl ?_
  refine zW_p (v1 := (3, false, (W q).2.2)) hq rfl rfl fu_s (Nat.le_of_ble_eq_true rfl) rfl rfl rfl ?_
  rw [fu_fu]
  refine zR_n 2 rfl ?_
  refine zW_p (v1 := (3, false, 0, (W q).2.2.2)) hq rfl rfl fu_s (Nat.le_of_ble_eq_true rfl) rfl rfl rfl ?_
  rw [fu_fu]
  refine zR_n 2 rfl ?_
  refine zW_p (v1 := (3, false, 0, 0)) hq rfl rfl fu_s (Nat.le_of_ble_eq_true rfl) rfl rfl rfl ?_
  rw [fu_fu]
  exact zR_e rfl rfl rfl rfl rfl rfl
set_option maxRecDepth 10000 in
theorem c_Re_becomeZero {q : Nat} {mb : Bool} (hq : RP q) : zE L xs d m_Re_becomeZero [.ref q, .int (bI mb)] (sH f g sg A W x y Mc T) (.inl none) (sH f g sg A (fu W q (0, mb, 0, 0)) x y Mc T) := by
  refine ⟨0, Nat.zero_le _, ?_⟩
  refine zR_n 2 rfl ?_
  refine zW_p (v1 := (0, (W q).2)) hq rfl rfl rfl (Nat.le_of_ble_eq_true rfl) rfl rfl rfl ?_
  refine zR_n 2 rfl ?_
  refine zW_p (v1 := (0, mb, (W q).2.2)) hq rfl rfl fu_s (Nat.le_of_ble_eq_true rfl) (bI_put _ _ _ rfl rfl) rfl rfl ?_
  rw [fu_fu]
  refine zR_n 2 rfl ?_
  refine zW_p (v1 := (0, mb, 0, (W q).2.2.2)) hq rfl rfl fu_s (Nat.le_of_ble_eq_true rfl) rfl rfl rfl ?_
  rw [fu_fu]
  refine zR_n 2 rfl ?_
  refine zW_p (v1 := (0, mb, 0, 0)) hq rfl rfl fu_s (Nat.le_of_ble_eq_true rfl) rfl rfl rfl ?_
  rw [fu_fu]
  exact zR_e rfl rfl rfl rfl rfl rfl
set_option maxRecDepth 10000 in
theorem c_Re_becomeInfinite {q : Nat} {mb : Bool} (hq : RP q) : zE L xs d m_Re_becomeInfinite [.ref q, .int (bI mb)] (sH f g sg A W x y Mc T) (.inl none) (sH f g sg A (fu W q (2, mb, 0, 0)) x y Mc T) := by
  refine ⟨0, Nat.zero_le _, ?_⟩
  refine zR_n 2 rfl ?_
  refine zW_p (v1 := (2, (W q).2)) hq rfl rfl rfl (Nat.le_of_ble_eq_true rfl) rfl rfl rfl ?_
  refine zR_n 2 rfl ?_
  refine zW_p (v1 := (2, mb, (W q).2.2)) hq rfl rfl fu_s (Nat.le_of_ble_eq_true rfl) (bI_put _ _ _ rfl rfl) rfl rfl ?_
  rw [fu_fu]
  refine zR_n 2 rfl ?_
  refine zW_p (v1 := (2, mb, 0, (W q).2.2.2)) hq rfl rfl fu_s (Nat.le_of_ble_eq_true rfl) rfl rfl rfl ?_
  rw [fu_fu]
  refine zR_n 2 rfl ?_
  refine zW_p (v1 := (2, mb, 0, 0)) hq rfl rfl fu_s (Nat.le_of_ble_eq_true rfl) rfl rfl rfl ?_
  rw [fu_fu]
  exact zR_e rfl rfl rfl rfl rfl rfl
set_option maxRecDepth 10000 in
theorem c_Re_becomeFinite {q : Nat} {mb : Bool} {e : Int32} {s : Int64} (hq : RP q) : zE L xs d m_Re_becomeFinite [.ref q, .int (bI mb), .int e, .long s] (sH f g sg A W x y Mc T) (.inl none) (sH f g sg A (fu W q (1, mb, e, s)) x y Mc T) := by
  refine ⟨0, Nat.zero_le _, ?_⟩
  refine zR_n 2 rfl ?_
  refine zW_p (v1 := (1, (W q).2)) hq rfl rfl rfl (Nat.le_of_ble_eq_true rfl) rfl rfl rfl ?_
  refine zR_n 2 rfl ?_
  refine zW_p (v1 := (1, mb, (W q).2.2)) hq rfl rfl fu_s (Nat.le_of_ble_eq_true rfl) (bI_put _ _ _ rfl rfl) rfl rfl ?_
  rw [fu_fu]
  refine zR_n 2 rfl ?_
  refine zW_p (v1 := (1, mb, e, (W q).2.2.2)) hq rfl rfl fu_s (Nat.le_of_ble_eq_true rfl) rfl rfl rfl ?_
  rw [fu_fu]
  refine zR_n 2 rfl ?_
  refine zW_p (v1 := (1, mb, e, s)) hq rfl rfl fu_s (Nat.le_of_ble_eq_true rfl) rfl rfl rfl ?_
  rw [fu_fu]
  exact zR_e rfl rfl rfl rfl rfl rfl
set_option maxRecDepth 10000 in
theorem c_Re_negate {q : Nat} (hq : RP q) : zE L xs d m_Re_negate [.ref q] (sH f g sg A W x y Mc T) (.inl none) (sH f g sg A (fu W q (negR (W q))) x y Mc T) := by
  have fin : ∀ z : Bool, (decide (rk (W q) ≠ 3) && !rn (W q)) = z → zR L xs d m_Re_negate 21 [(0, .ref q)] [.int (bI z), .ref q] (sH f g sg A W x y Mc T) 0 (.inl none) (sH f g sg A (fu W q (negR (W q))) x y Mc T) 0 := by
    intro z hz
    unfold negR
    rw [hz]
    refine zW_p (v1 := (rk (W q), z, re (W q), (W q).2.2.2)) hq rfl rfl rfl (Nat.le_of_ble_eq_true rfl) (bI_put _ _ _ rfl rfl) rfl rfl ?_
    exact zR_e rfl rfl rfl rfl rfl rfl
  refine ⟨0, Nat.zero_le _, ?_⟩
  refine zR_n 2 rfl ?_
  refine zW_g hq rfl rfl rfl rfl rfl ?_
  refine zR_n 2 rfl ?_
  refine zR_if (fun h => ?_) (fun h => ?_)
  · refine zR_n 1 rfl (fin false ?_)
    rw [decide_eq_false (show ¬ rk (W q) ≠ 3 from fun h9 => h9 h)]
    rfl
  · refine zR_n 1 rfl ?_
    refine zW_g hq rfl rfl rfl rfl rfl ?_
    have h9 : (decide (rk (W q) ≠ 3) && !rn (W q)) = !rn (W q) := by
      rw [decide_eq_true (show rk (W q) ≠ 3 from h)]
      rfl
    show zR _ _ _ _ _ _ [Value.int (bI (rn (W q))), Value.ref q] _ _ _ _ _
    cases hn : rn (W q) with
    | true => exact zR_n 2 rfl (fin false (by rw [h9, hn]; rfl))
    | false => exact zR_n 3 rfl (fin true (by rw [h9, hn]; rfl))
end CR
end
section
/-! What the Statement gives of the start (by program) -/
set_option maxRecDepth 100000 in
theorem zf_no21 : Jvm.Cond.not (.castable "java/lang/ArithmeticException" "java/lang/IllegalArgumentException") ∈ flatC (Jvm.Cond.and given_1 narrow_1) := by decide +kernel
set_option maxRecDepth 100000 in
theorem zf_no12 : Jvm.Cond.not (.castable "java/lang/IllegalArgumentException" "java/lang/ArithmeticException") ∈ flatC (Jvm.Cond.and given_1 narrow_1) := by decide +kernel
set_option maxRecDepth 100000 in
theorem zf_T1 : Jvm.Cond.arrayOf (.static "StackReal" "TICKS" "[I") .int ∈ flatC (Jvm.Cond.and given_1 narrow_1) := by decide +kernel
set_option maxRecDepth 100000 in
theorem zf_T2 : Jvm.Cond.eq (.length (.static "StackReal" "TICKS" "[I")) (.int 16) ∈ flatC (Jvm.Cond.and given_1 narrow_1) := by decide +kernel
set_option maxRecDepth 100000 in
theorem zf_T3 : ∀ j, j < 16 → Jvm.Cond.eq (.elem (.static "StackReal" "TICKS" "[I") (.int (Int32.ofNat j))) (.int (zA_TICKS.getD j 0)) ∈ flatC (Jvm.Cond.and given_1 narrow_1) := by decide +kernel
theorem zl_T : Jvm.Cond.laysStatic "StackReal" "TICKS" "[I" ∈ lw_tbl := List.mem_of_getElem? (i := 388) (by decide +kernel)
set_option maxRecDepth 100000 in
theorem zf_N1 : Jvm.Cond.arrayOf (.static "StackReal" "NEEDED" "[I") .int ∈ flatC (Jvm.Cond.and given_1 narrow_1) := by decide +kernel
set_option maxRecDepth 100000 in
theorem zf_N2 : Jvm.Cond.eq (.length (.static "StackReal" "NEEDED" "[I")) (.int 16) ∈ flatC (Jvm.Cond.and given_1 narrow_1) := by decide +kernel
set_option maxRecDepth 100000 in
theorem zf_N3 : ∀ j, j < 16 → Jvm.Cond.eq (.elem (.static "StackReal" "NEEDED" "[I") (.int (Int32.ofNat j))) (.int (zA_NEEDED.getD j 0)) ∈ flatC (Jvm.Cond.and given_1 narrow_1) := by decide +kernel
theorem zl_N : Jvm.Cond.laysStatic "StackReal" "NEEDED" "[I" ∈ lw_tbl := List.mem_of_getElem? (i := 399) (by decide +kernel)
set_option maxRecDepth 100000 in
theorem zf_U : Jvm.Cond.isRef (.static "java/lang/Throwable" "UNASSIGNED_STACK" "[Ljava/lang/StackTraceElement;") ∈ flatC (Jvm.Cond.and given_1 narrow_1) := by decide +kernel
theorem zl_U : Jvm.Cond.laysStatic "java/lang/Throwable" "UNASSIGNED_STACK" "[Ljava/lang/StackTraceElement;" ∈ lw_tbl := List.mem_of_getElem? (i := 332) (by decide +kernel)
set_option maxRecDepth 100000 in
theorem zf_S : Jvm.Cond.isRef (.static "java/lang/Throwable" "SUPPRESSED_SENTINEL" "Ljava/util/List;") ∈ flatC (Jvm.Cond.and given_1 narrow_1) := by decide +kernel
theorem zl_S : Jvm.Cond.laysStatic "java/lang/Throwable" "SUPPRESSED_SENTINEL" "Ljava/util/List;" ∈ lw_tbl := List.mem_of_getElem? (i := 334) (by decide +kernel)
theorem zIn_SR : Jvm.Cond.initialized "StackReal" ∈ zWs := zW_in 67 (by decide +kernel)
theorem zIn_Th : Jvm.Cond.initialized "java/lang/Throwable" ∈ zWs := zW_in 75 (by decide +kernel)
set_option maxRecDepth 100000 in
theorem zStr_ok : ∀ q ∈ zStr, Jvm.Cond.stringRef (zCn q.1) q.2.1 q.2.2 ∈ lw_tbl ∧ Jvm.Cond.exactly (.string (zCn q.1) q.2.1) "java/lang/String" ∈ flatC (Jvm.Cond.and given_1 narrow_1) := by decide +kernel
theorem zInst_ok {ci : Nat} {r : vw_C} (h : zCl[ci]? = some r) : ∃ n, Jvm.Cond.instantiable r.1 n ∈ zWs := by
  match ci, h with
  | 0, h => cases h; exact ⟨11, zW_in 81 (by decide +kernel)⟩
  | 1, h => cases h; exact ⟨4, zW_in 90 (by decide +kernel)⟩
  | 2, h => cases h; exact ⟨4, zW_in 149 (by decide +kernel)⟩
  | 3, h => cases h; exact ⟨2, zW_in 127 (by decide +kernel)⟩
  | 4, h => cases h; exact ⟨2, zW_in 143 (by decide +kernel)⟩
  | 5, h => cases h; exact ⟨4, zW_in 180 (by decide +kernel)⟩
  | 6, h => cases h; exact ⟨6, zW_in 204 (by decide +kernel)⟩
  | 7, h => cases h; exact ⟨18, zW_in 734 (by decide +kernel)⟩
  | (n + 8), h => simp at h
/-! the heap at the loop's head -/
def zStk : Nat → Option Nat := va_up (va_up (va_up (va_up (va_up (va_up (va_up (va_up (fun _ => none) 0 (some 2)) 1 (some 3)) 2 (some 4)) 3 (some 5)) 4 (some 6)) 5 (some 7)) 6 (some 8)) 7 (some 9)
abbrev zRe0 : zC := .inr (1, [.int 0, .int 0, .int 0, .long 0])
def zH0 : zH := [.inr (0, [.ref 1, .ref 10, .ref 11, .ref 12, .ref 13, .ref 15, .ref 18, .int 0, .int 31, .int 0, .int 0]), .inl (3, 8, .inr (.inr (.inr (.inr zStk)))),
  zRe0, zRe0, zRe0, zRe0, zRe0, zRe0, zRe0, zRe0, zRe0, zRe0, .inr (3, [.int 64, .int 0]), .inr (4, [.ref 12, .ref 14]), .inr (2, [.int 0, .int 0, .long 0, .long 0]), .inr (5, [.ref 12, .ref 16, .ref 17, .long 0]), .inr (2, [.int 0, .int 0, .long 0, .long 0]), zRe0,
  .inr (6, [.ref 19, .long 0, .long 0, .int 0, .int 0, .long 0]), .inl (1, 8, .inr (.inl (fun _ => 0))),
  .inr (7, [.int 0, .int 64, .int 0, .int 31, .int 0, .int 0, .int 0, .int 0, .ref 21, .ref 22, .ref 23, .ref 24, .ref 25, .int 0, .int (-1), .long 0, .long 0, .ref 26]), .inl (0, 11, .inl (fun _ => 0)), .inl (2, 11, .inl (fun _ => 0)), .inl (0, 11, .inl (fun _ => 0)), .inl (1, 11, .inr (.inl (fun _ => 0))), .inl (1, 8, .inr (.inl (fun _ => 0))), .inl (0, 160, .inl (fun _ => 0)), .inl (1, 1, .inr (.inl (fun _ => 0)))]
def zLv : zL := [(4, .int 0), (3, .ref 27), (2, .ref 20), (1, .ref 0), (0, .ref 1000)]
abbrev zBc : Nat := 12
abbrev zBs : Nat := 276
set_option maxRecDepth 100000 in
set_option maxHeartbeats 4000000 in
theorem zLaw_run {L : Nat} {xs : Nat → Int32} : zbld L xs 2000 (some 23) 11 m_law 0 [(0, .ref 1000)] [] [] 40 600 = some (zLv, zH0, zBc, zBs) := by rfl
end
section
/-! THE CLAIM OUT OF ONE WALK OF THE LAW'S BODY. Your part is whole_start (and what it stands on); all else here is the same for every law, but numbers. -/
def R_law : String := "StackRealLaw"
def lw_P (b : Addr) (xs : List Int32) (args : Array Value) (s : State) : Prop := args = #[.ref b] ∧ s.IntsAt b xs ∧ xs.length ≤ 2048 ∧ (Jvm.Cond.and given_1 narrow_1).before args s = true
def lw_Q (_ : Array Value) (s : State) (o : Outcome) (t : State) : Prop := o = .returned (some (.int 1)) ∧ Framed s o t [] 658431 7120810
def lw_Z (below : List Frame) (a : Array Value) (s : State) : State → Prop := fun t => ∃ o, t.status = .running ∧ Ended t below o ∧ lw_Q a s o t
/-- the law's own end, with 1 on the stack, nothing written that was there before, its room as the claim has it -/
theorem lw_ret {p : Program} {l : Launch} {e : Env} {s : State} {m : MethodId} {below : List Frame} {meth : Method} {c : Code} {b : Nat} (hx : p.tables.exec = Jvm.exec) (hb : c.code = code) (hr : meth.sig.returnType = ret) (hlocks : meth.locks = false) {pc : Nat} {H : Heap} {ls : Array Slot} (hdg : decode code pc = .ok (.ireturn, 1)) : W p l e room_1 s m #[Value.ref b] below meth c H [] 658431 7120810 (lw_Z below #[Value.ref b] s) (F0 m pc ls [.int 1]) := by
  intro T hT X
  obtain ⟨fs, hret, hrun, hended, hW, hframe⟩ := X.leave (v := some (.int 1)) (hlocks := hlocks) (fun h => by rw [hr] at h; cases h)
  have hmeth' : T.vm.method? m = some meth := X.method'
  refine ⟨T.setFrames fs, ?_, .returned (some (.int 1)), hrun, hended, rfl, ⟨_, rfl⟩, hW, hframe⟩
  jvm_step X.here [X.here.top, hx, hb, hdg, hmeth', hr, ret, narrow_b1]
  (try refine ⟨rfl, ?_⟩); (try refine ⟨rfl, ?_⟩)
  first | (intro acts; rw [hret _ acts rfl rfl rfl]) | rw [hret _ _ rfl rfl rfl]
  exact Steps.refl _
/-- what holds at the law's entry: the machine, the code, the tables' words (any of lw_tbl by 'hts w (by decide +kernel)'), the script of L ints xs at the cell b, what the Statement gives of the start (any of its parts by flat_of_before) -/
def lw_At (p : Program) (s : State) (m : MethodId) (meth : Method) (c : Code) (b L : Nat) (xs : Nat → Int32) : Prop :=
  p.tables.exec = Jvm.exec ∧ c.code = code ∧ meth.sig.returnType = ret ∧ c.maxLocals = 8 ∧ s.vm.findClass R_law = some m.cls ∧ (∀ w ∈ lw_tbl, w.before #[Value.ref b] s = true) ∧ va_X b L xs s s.heap ∧ b < s.heap.size ∧ meth.locks = false ∧ (Jvm.Cond.and given_1 narrow_1).before #[Value.ref b] s = true
theorem zk_le {L : Nat} {xs : Nat → Int32} : ∀ {n d : Nat} {mi : ZM} {pc : Nat} {lv : zL} {st : List Value} {h : zH} {k : Nat} {o : zO} {h' : zH} {k' : Nat}, zrun L xs n d mi pc lv st h k = some (o, h', k') → k ≤ zKm mi → k' ≤ zKm mi := by
  intro n
  induction n with
  | zero => intro d mi pc lv st h k o h' k' hr; unfold zrun at hr; cases hr
  | succ n ih =>
    intro d mi pc lv st h k o h' k' hr hk
    unfold zrun at hr
    split at hr
    · cases hr
    · split at hr
      · exact ih hr hk
      · split at hr
        · exact ih hr hk
        · split at hr
          · split at hr
            · cases hr
            · split at hr
              · rename_i hk2
                split at hr
                · cases hr
                · split at hr
                  · exact ih hr hk2
                  · cases hr
                · split at hr
                  · split at hr
                    · cases hr; exact hk2
                    · split at hr
                      · cases hr
                      · split at hr
                        · exact ih hr hk2
                        · exact ih hr hk2
                        · cases hr
                  · cases hr
              · cases hr
          · split at hr
            · cases hr; exact hk
            · split at hr
              · split at hr
                · rename_i hk2; cases hr; exact hk2.1
                · cases hr
              · cases hr
/-! The law's start: what the Statement gives, in the simulation's words -/
/-- the pure statement that is still owed: from the loop's head the law answers 1 -/
def zPure : Prop := ∀ (L : Nat) (xs : Nat → Int32), L ≤ 2048 → ∃ h' k', zR L xs 11 m_law 23 zLv [] zH0 0 (.inl (some (.int 1))) h' k'
theorem z_flat (j : Nat) {w : Jvm.Cond} (h : (flatC (Jvm.Cond.and given_1 narrow_1))[j]? = some w) : w ∈ flatC (Jvm.Cond.and given_1 narrow_1) := List.mem_of_getElem? h
set_option maxRecDepth 100000 in
set_option maxHeartbeats 4000000 in
theorem z_start {p : Program} {s : State} {m : MethodId} {meth : Method} {c : Code} {b L : Nat} {xs : Nat → Int32} (C0 : lw_At p s m meth c b L xs) :
    ∃ (D : va_G) (cA : Nat → ClassId) (ex : Nat → Nat), ex 1000 = b ∧ va_AO zRealN s ∧ zS D (zad ex []) cA (fun q => s.heap.size ≤ q) L xs s #[Value.ref b] := by
  obtain ⟨hx, hb, hret, hml, hown, hts, hX, hbl, hlk, hgv⟩ := C0
  have hfl := flat_of_before _ hgv
  have hA : ∀ a : Nat, a < s.heap.size → ¬ (s.heap.size ≤ a) := fun a h => by omega
  have hW : ∀ w ∈ zWs, w.before #[Value.ref b] s = true := by
    intro w hw
    rcases List.mem_append.mp (List.mem_filter.mp hw).1 with h | h
    · exact hts w h
    · refine hfl w ?_
      simp only [zXtra, List.mem_cons, List.not_mem_nil, or_false] at h
      rcases h with rfl | rfl
      · exact zf_no21
      · exact zf_no12
  -- the classes
  have hcls : ∀ ci : Nat, ∃ (cC : ClassId) (iS : Nat → Nat), ∀ r : vw_C, zCl[ci]? = some r → u_Kn s r.1 r.2.1 r.2.2 cC iS := by
    intro ci
    cases h : zCl[ci]? with
    | none => exact ⟨0, fun _ => 0, fun r hr => by cases hr⟩
    | some r =>
      obtain ⟨n, hn⟩ := zInst_ok h
      obtain ⟨cC, iS, hK⟩ := u_known (n := n) hW (zCl_all h).1 (hW _ hn)
      exact ⟨cC, iS, fun r' hr' => by cases hr'; exact hK⟩
  -- the array classes
  have harr : ∀ ty : FieldType, (ty = .int ∨ ty = .long ∨ ty = .boolean) → Jvm.Cond.arrayClass ty ∈ zWs → ∃ k : ClassId, ArrOfT s k ty ∧ va_RA s k ty := by
    intro ty h3 hw
    obtain ⟨k, kc, comp, f1, f2, f3⟩ := Cond.arrayClass_spec (hW _ hw)
    refine ⟨k, fun N z => ⟨(fun _ h => by cases h), kc, f2, comp, f3⟩, ?_⟩
    rcases h3 with rfl | rfl | rfl <;> exact f1
  obtain ⟨k0, a0, r0⟩ := harr .int (Or.inl rfl) zArr_int
  obtain ⟨k1, a1, r1⟩ := harr .long (Or.inr (Or.inl rfl)) zArr_long
  obtain ⟨k2, a2, r2⟩ := harr .boolean (Or.inr (Or.inr rfl)) zArr_boolean
  have hAO : va_AO zRealN s := va_AO.of (hts _ zArr_over)
  obtain ⟨comp, k3, kc3, f1, -, f2, f3, f4⟩ := Cond.arrayOver_spec (hts _ zArr_over)
  have a3 : ArrOfT s k3 (.object zRealN) := fun N z => ⟨(fun _ h => by cases h), kc3, f2, comp, f3⟩
  have r3 : va_RA s k3 (.object zRealN) := ⟨kc3, comp, f2, f3, f1, f4⟩
  -- the tables
  have htab : ∀ (nm : String) (l : List Int32), (Jvm.Cond.arrayOf (.static "StackReal" nm "[I") .int) ∈ flatC (Jvm.Cond.and given_1 narrow_1) → (Jvm.Cond.eq (.length (.static "StackReal" nm "[I")) (.int 16)) ∈ flatC (Jvm.Cond.and given_1 narrow_1) → (∀ j, j < 16 → (Jvm.Cond.eq (.elem (.static "StackReal" nm "[I") (.int (Int32.ofNat j))) (.int (l.getD j 0))) ∈ flatC (Jvm.Cond.and given_1 narrow_1)) → Jvm.Cond.laysStatic "StackReal" nm "[I" ∈ lw_tbl →
      ∃ t : Nat, va_Z "StackReal" nm "[I" (.ref t) (fun q => s.heap.size ≤ q) s s.heap ∧ va_T .int t 16 (fun j => .int (l.getD j 0)) (fun q => s.heap.size ≤ q) s s.heap := by
    intro nm l h1 h2 h3 h4
    obtain ⟨t, e1, e2⟩ := va_Tof (f := fun j => .int (l.getD j 0)) (A := fun q => s.heap.size ≤ q) (by decide : 16 < 2 ^ 31) (hfl _ h1) (va_eqt (hfl _ h2)) (fun j hj => va_eqt (hfl _ (h3 j hj))) hA
    exact ⟨t, va_Zref (hts _ h4) (hW _ zIn_SR) e1 hA, e2⟩
  obtain ⟨tT, z1, t1⟩ := htab "TICKS" zA_TICKS zf_T1 zf_T2 zf_T3 zl_T
  obtain ⟨tN, z2, t2⟩ := htab "NEEDED" zA_NEEDED zf_N1 zf_N2 zf_N3 zl_N
  refine ⟨(fun ci => (hcls ci).choose, fun ci => (hcls ci).choose_spec.choose), (fun t => if t = 0 then k0 else if t = 1 then k1 else if t = 2 then k2 else k3), (fun k => if k = 1000 then b else if k = 1001 then tT else tN), rfl, hAO, hW, ⟨fun ci r hr => (hcls ci).choose_spec.choose_spec r hr, fun k q hk => ?_⟩, fun k N f hf => ?_, fun k C n d hk => ?_, fun q hq => hq, fun C n d hk => ?_, fun cn i tx hk => ?_⟩
  · match k, hk with
    | 0, hk => cases hk; exact ⟨a0, r0⟩
    | 1, hk => cases hk; exact ⟨a1, r1⟩
    | 2, hk => cases hk; exact ⟨a2, r2⟩
    | 3, hk => cases hk; exact ⟨a3, r3⟩
    | (n + 4), hk => simp [zTt] at hk
  · rw [zad_hi (zEx_hi hf)]
    unfold zEx zTab at hf
    split at hf
    · rename_i h9
      cases hf
      subst h9
      obtain ⟨scr, q1, q2, q3, q4, q5⟩ := hX
      exact ⟨scr, q1, q2, q3, by rw [q4]; exact Nat.le_refl _, by rw [q4], q5, hA _ hbl⟩
    · split at hf
      · rename_i h9
        cases hf
        subst h9
        exact t1
      · split at hf
        · rename_i h9
          cases hf
          subst h9
          exact t2
        · cases hf
  · rw [zad_hi (zStN_hi hk)]
    simp only [zStN, List.mem_cons, List.not_mem_nil, or_false, Prod.mk.injEq] at hk
    rcases hk with ⟨rfl, rfl, rfl, rfl⟩ | ⟨rfl, rfl, rfl, rfl⟩
    · exact z1
    · exact z2
  · simp only [zStQ, List.mem_cons, List.not_mem_nil, or_false, Prod.mk.injEq] at hk
    rcases hk with ⟨rfl, rfl, rfl⟩ | ⟨rfl, rfl, rfl⟩
    · exact vx_Zqof (hts _ zl_U) (hW _ zIn_Th) (hfl _ zf_U) hA
    · exact vx_Zqof (hts _ zl_S) (hW _ zIn_Th) (hfl _ zf_S) hA
  · obtain ⟨h1, h2⟩ := zStr_ok _ hk
    obtain ⟨a, _, _, _, q1, -⟩ := Cond.exactly_spec (hfl _ h2)
    exact ⟨a, vk_R.of (hts _ h1) q1⟩
set_option maxRecDepth 100000 in
set_option maxHeartbeats 4000000 in
/-- the law's walk, from the pure statement -/
theorem whole_open (hp : zPure) {p : Program} {e : Env} {s : State} {m : MethodId} {below : List Frame} {meth : Method} {c : Code} (l : Launch) (hflg : l.flags = flags0) {b L : Nat} {xs : Nat → Int32} (hL : L ≤ 2048) (htab : c.exceptionTable.toList = []) (C0 : lw_At p s m meth c b L xs) : W p l e room_1 s m #[Value.ref b] below meth c s.heap [] 0 0 (lw_Z below #[Value.ref b] s) (entryFrame m ([Value.ref b] : List Value).toArray 8) := by
  intro T hT X
  have htr : e.platform.stackTraces = false := Launch.traces_off hflg X.admits
  revert T
  show W p l e room_1 s m #[Value.ref b] below meth c s.heap [] 0 0 (lw_Z below #[Value.ref b] s) (entryFrame m ([Value.ref b] : List Value).toArray 8)
  obtain ⟨D, cA, ex, hex, hAO, hs⟩ := z_start C0
  obtain ⟨hx, hb, hret, hml, hown, hts, hX, hbl, hlk, hgv⟩ := C0
  have hm : zM m_law s m meth c := ⟨hown, hb, hml, hret, hlk, by rw [htab]; rfl⟩
  have hl := lv_entry ([.ref b]) (n := 8) (Nat.le_of_ble_eq_true rfl)
  rw [lg_entry_eq]
  generalize (lg_sl ([.ref b]) ++ List.replicate (8 - (lg_sl ([.ref b])).length) Slot.unset).toArray = ls at hl ⊢
  have hl : lv_has ls 8 (tl (zad ex []) [(0, .ref 1000)]) := by
    have e1 : tl (zad ex []) [(0, Value.ref 1000)] = [(0, .ref b)] := by
      show [(0, Value.ref (zad ex [] 1000))] = _
      rw [zad_hi (Nat.le_refl _), hex]
    rw [e1]
    exact hl
  refine simB (ex := ex) (D := D) (cA := cA) hx 2000 (some 23) 11 m_law 0 [(0, .ref 1000)] [] [] 40 600 zLv zH0 zBc zBs zLaw_run (al := []) (Or.inl rfl) hm (fun h => absurd h (by decide)) hAO hs ⟨fun k q hk => (by cases hk), ⟨fun i j p9 q hi => (by cases hi), fun k q hk => (by cases hk)⟩, va_S.rf⟩ rfl (fun k t N f hk => by cases hk) hl (by decide) (by decide) (by decide) (by decide) (fun al' ls' H' locs' pcE cells' slots' k1 k2 k3 k4 k5 k6 k7 k8 k9 => ?_)
  have hpc : pcE = 23 := by
    rcases k1 with k1 | k1
    · cases k1; rfl
    · cases k1.2
  subst hpc
  obtain ⟨h', k', n, hrun⟩ := hp L xs hL
  have hc : cells' ≤ 40 ∧ slots' ≤ 600 := by
    constructor <;> omega
  have hW := sim (ad := zad ex al') (cA := cA) (D := D) (l := l) hx htr n 11 m_law 23 zLv [] zH0 0 _ _ _ hrun (R := room_1) (c0 := cells') (s0 := slots') (Q := lw_Z below #[Value.ref b] s) (below := below) (Or.inl rfl) hm (zS_al hs) k4 k7 (by decide) (by decide) (by show cells' + 600 ≤ 658431; omega) (by show slots' + 6 * 600 ≤ 7120810; omega)
    (fun v hv pc1 n1 i1 ls1 st1 H1 locs1 g1 g2 g3 g4 => by
      cases hv
      have hst : i1 = .ireturn ∧ n1 = 1 ∧ st1 = [.int 1] := by
        unfold zret3 at g3
        split at g3
        · obtain rfl : n1 = 1 := by simpa [zok] using g2
          refine ⟨rfl, rfl, ?_⟩
          split at g3
          · split at g3
            · cases g3; rfl
            · split at g3
              · cases g3; rfl
              · cases g3
            · cases g3
          · cases g3
        · repeat' (split at g3)
          all_goals cases g3
        · repeat' (split at g3)
          all_goals cases g3
        · repeat' (split at g3)
          all_goals cases g3
        · cases g3
      obtain ⟨rfl, rfl, rfl⟩ := hst
      refine va_forget (fun q hq => g4.2.2.2.2 q hq) ?_
      refine W.widen (k := 658431) (n := 7120810) (by have h9 := zk_le hrun (Nat.zero_le _); have h8 : zKm m_law = 600 := rfl; omega) (by have h9 := zk_le hrun (Nat.zero_le _); have h8 : zKm m_law = 600 := rfl; omega) ?_
      exact lw_ret hx hb hret hlk g1)
    (fun x hx9 => by cases hx9)
  exact hW
set_option maxHeartbeats 4000000 in
theorem lw_walk (hp : zPure) (l : Launch) (hflg : l.flags = flags0) (b : Addr) (xs : List Int32) : MetFree l x (headSpec (Jvm.Cond.code x code maxLocals ret :: tables_1) room_1) (lw_P b xs) (fun _ _ _ _ _ => True) lw_Q := by
  refine MetFree.of_bodyS (code := code) (maxLocals := maxLocals) (ret := ret) (by decide) ?_ ?_
  · intro args s m h hn
    obtain ⟨meth, c, h1, h2, h3, h4, h5, h6, -, -⟩ := Cond.code_spec hn (atoms_spec (ws := Jvm.Cond.code x code maxLocals ret :: tables_1) h _ List.mem_cons_self)
    exact ⟨meth, c, h1, h2, h3, h4, h5, h6⟩
  · intro p e s m args below meth c s₁ B hml0 hP _
    obtain ⟨rfl, hx, hbd, hgv⟩ := hP
    obtain ⟨scr, harrAt, hlist, hof, hsmall⟩ := hx
    obtain ⟨hcb, hkn, -, -⟩ := State.arrayAt?_spec harrAt
    have hown : s.vm.findClass R_law = some m.cls := findClass_of_methodNamed B.named
    have hts0 : ∀ c ∈ (Jvm.Cond.code x code maxLocals ret :: tables_1), c.before #[Value.ref b] s = true := atoms_spec (ws := Jvm.Cond.code x code maxLocals ret :: tables_1) B.pre
    have hts : ∀ w ∈ lw_tbl, w.before #[Value.ref b] s = true := k2_hts_sels lw_privs (fun w hw => hts0 w (List.mem_cons_of_mem _ hw)) lw_privs_ok
    have hml : c.maxLocals = 8 := B.maxLocals_eq (hts0 _ List.mem_cons_self)
    obtain ⟨methK, cK, w1, w2, -, -, -, -, w7, -⟩ := Cond.code_spec B.named (hts0 _ List.mem_cons_self)
    have X₀' : Stand p l e room_1 s m #[Value.ref b] below meth c s₁ [] 0 0 := Stand.of_body B
    have htab : c.exceptionTable.toList = [] := by
      cases B.method.symm.trans w1
      cases X₀'.code.symm.trans w2
      have z0 : c.exceptionTable.size = 0 := by simpa [Array.isEmpty] using w7
      exact List.eq_nil_of_length_eq_zero (by simpa using z0)
    have X₀ : Stand p l e room_1 s m #[Value.ref b] below meth c s₁ [] 0 0 := Stand.of_body B
    have hh0 : s₁.heap = s.heap := by rw [B.state]; rfl
    have hsz : scr.slots.size = xs.length := by rw [← Array.length_toList, hlist, List.length_map]
    have hval : ∀ j : Nat, j < xs.length → scr.slots[j]? = some (.int (xs.getD j 0)) := fun j hj => by
      rw [← Array.getElem?_toList, hlist]
      simp [hj]
    have hbl : b < s.heap.size := (Array.getElem?_eq_some_iff.mp hcb).1
    have hX : va_X b xs.length (fun j => xs.getD j 0) s s.heap := ⟨scr, hcb, hof, hkn, hsz, hval⟩
    have K : W p l e room_1 s m #[Value.ref b] below meth c s₁.heap [] 0 0 (lw_Z below #[Value.ref b] s) (entryFrame m ([Value.ref b] : List Value).toArray 8) := by
      rw [hh0]
      exact whole_open hp l hflg hbd htab ⟨B.exec, B.bytes, B.returns, hml, hown, hts, hX, hbl, B.notSynchronized, hgv⟩
    obtain ⟨t, a1, o, b1, b2, b3⟩ := K s₁ rfl X₀
    exact ⟨t, o, a1, b1, b2, b3⟩
theorem lw_pre_spec {args : Array Value} {s : State} (h : (Jvm.Cond.and given_1 narrow_1).before args s = true) (hr : rest_1_c.before args s = true) : ∃ (b : Addr) (xs : List Int32), lw_P b xs args s := by
  have hs := flat_of_before _ h
  have hq := flat_of_before _ hr
  have hc : (Cond.count 1).before args s = true := hs _ (by decide +kernel)
  have harr : (Cond.arrayOf (.arg 0) .int).before args s = true := hs _ (by decide +kernel)
  have hle : (Cond.le (.length (.arg 0)) (.int 2048)).before args s = true := hs _ (by decide +kernel)
  have hlen : (Cond.isInt (.length (.arg 0))).before args s = true := hq _ (by decide +kernel)
  have hall : (Cond.all (.arg 0) (.isInt (.elem (.arg 0) (.index 0)))).before args s = true := hq _ (by decide +kernel)
  obtain ⟨b, xs, hb, hx⟩ := State.ints_of_pre rfl harr hlen hall
  have hsm : xs.length < 2 ^ 31 := hx.choose_spec.2.2.2
  have hev : (Term.length (.arg 0)).eval args s none [] s = some (.int xs.length.toInt32) := hx.length_eval hb
  have hv := Cond.le_ints hev (show (Term.int 2048).eval args s none [] s = some (.int 2048) from rfl)
  have hd : xs.length.toInt32 ≤ 2048 := by
    simpa [Cond.before, Cond.holds, hv] using hle
  have hN : xs.length ≤ 2048 := (Int32.ofNat_le_ofNat hsm (by decide)).mp (show Int32.ofNat xs.length ≤ Int32.ofNat 2048 from hd)
  exact ⟨b, xs, Cond.one_arg hc (show args[0]? = some (.ref b) from hb), hx, hN, h⟩
theorem lw_comes (hp : zPure) (l : Launch) (hflg : l.flags = flags0) : Comes l x (Jvm.Cond.code x code maxLocals ret :: tables_1) room_1 (fun tb e args s => Calls_1 tb e args s ∧ rest_1 tb e args s ∧ Pre_1 tb e args s)
    (fun _ _ args s o t => lw_Q args s o t) := by
  intro p e ha hc hk s m args below hf hfit hheap happ hpre
  obtain ⟨b, xs, hP⟩ := lw_pre_spec hpre.2.2 hpre.2.1
  obtain ⟨k, o, h1, h2, h3, hQ⟩ := lw_walk hp l hflg b xs p e ha hc hk s m args below hf ((Spec.applies_iff_loose hf).mp happ).1 hP trivial
  exact ⟨k, o, h1, h2, h3, hQ⟩
theorem lw_frame {s t : State} {o : Outcome} {args : Array Value} (h : Framed s o t [] 658431 7120810) :
    Framed s o t (fieldLocs frame_1_writes args s ++ arrayLocs frame_1_arrays args s ++ staticLocs frame_1_statics s) 658431 7120810 := h
theorem lw_limb (hp : zPure) (L : Cond) (hL : ∀ (args : Array Value) (s t : State), L.after args s (.returned (some (.int 1))) t = true) :
    ArmFor flags0 classFile x code maxLocals ret World_1 tables_1 room_1 Calls_1 rest_1 Pre_1
      (fun tb e a s o t => postC L tb e a s o t ∧ Framed s o t (fieldLocs frame_1_writes a s ++ arrayLocs frame_1_arrays a s ++ staticLocs frame_1_statics s) 658431 7120810) := by
  intro l hflg _ _ p e ha hc hk s m args below hf hfit hheap happ hpre
  obtain ⟨k, o, h1, h2, h3, rfl, hF⟩ := lw_comes hp l hflg p e ha hc hk s m args below hf hfit hheap happ hpre
  exact ⟨k, _, h1, h2, h3, hL args s _, lw_frame hF⟩
theorem i_vc_open (hp : zPure) : Claimed_1_1 ∧ Claimed_1_2 := ⟨lw_limb hp limb_1_1 (fun args s t => by simp [limb_1_1, Cond.after, Cond.holds, Cond.value]), lw_limb hp limb_1_2 (fun args s t => Cond.after_iff.mpr (by
  first | (rw [show limb_1_2 = Cond.eq .result (.int 1) from rfl, Cond.eq_ints (x := 1) (y := 1) rfl rfl]; simp; done) | (simp [limb_1_2, Cond.value, Term.eval]; done)))⟩
end
