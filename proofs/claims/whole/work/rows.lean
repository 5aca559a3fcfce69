section
-- ===== PART A: goes FIRST, ahead of the names: the tables' words, and 'selects' of the private methods out of them =====
/-- a private method of a class that the tables say can be made, by its rows of tables_1 -/
def lw_okq (q : MethodName × Nat) : Prop := (q.1.cls ≠ "java/lang/invoke/MethodHandle" ∧ q.1.cls ≠ "java/lang/invoke/VarHandle") ∧ Cond.instantiable q.1.cls q.2 ∈ tables_1 ∧ Cond.privateMethod q.1 ∈ tables_1 ∧ Cond.instanceMethod q.1 ∈ tables_1
theorem lw_p0 : lw_okq (⟨"java/lang/Throwable", "fillInStackTrace", "(I)Ljava/lang/Throwable;"⟩, 6) := ⟨⟨by decide +kernel, by decide +kernel⟩, List.mem_of_getElem? (i := 277) (by decide +kernel), List.mem_of_getElem? (i := 275) (by decide +kernel), List.mem_of_getElem? (i := 276) (by decide +kernel)⟩
theorem lw_p1 : lw_okq (⟨"StackReal", "isPossible", "(II)Z"⟩, 11) := ⟨⟨by decide +kernel, by decide +kernel⟩, List.mem_of_getElem? (i := 15) (by decide +kernel), List.mem_of_getElem? (i := 329) (by decide +kernel), List.mem_of_getElem? (i := 330) (by decide +kernel)⟩
theorem lw_p2 : lw_okq (⟨"StackReal", "st", "(I)LStackReal$Real;"⟩, 11) := ⟨⟨by decide +kernel, by decide +kernel⟩, List.mem_of_getElem? (i := 15) (by decide +kernel), List.mem_of_getElem? (i := 338) (by decide +kernel), List.mem_of_getElem? (i := 339) (by decide +kernel)⟩
theorem lw_p3 : lw_okq (⟨"StackReal", "raise", "(I)I"⟩, 11) := ⟨⟨by decide +kernel, by decide +kernel⟩, List.mem_of_getElem? (i := 15) (by decide +kernel), List.mem_of_getElem? (i := 342) (by decide +kernel), List.mem_of_getElem? (i := 343) (by decide +kernel)⟩
theorem lw_p4 : lw_okq (⟨"StackReal", "workOut", "(I)I"⟩, 11) := ⟨⟨by decide +kernel, by decide +kernel⟩, List.mem_of_getElem? (i := 15) (by decide +kernel), List.mem_of_getElem? (i := 362) (by decide +kernel), List.mem_of_getElem? (i := 363) (by decide +kernel)⟩
theorem lw_p5 : lw_okq (⟨"StackReal$Arithmetic", "addInfinite", "(LStackReal$Real;LStackReal$Real;LStackReal$Real;)I"⟩, 2) := ⟨⟨by decide +kernel, by decide +kernel⟩, List.mem_of_getElem? (i := 77) (by decide +kernel), List.mem_of_getElem? (i := 374) (by decide +kernel), List.mem_of_getElem? (i := 375) (by decide +kernel)⟩
theorem lw_p6 : lw_okq (⟨"StackReal$Exact", "combine", "(LStackReal$Real;LStackReal$Real;)V"⟩, 4) := ⟨⟨by decide +kernel, by decide +kernel⟩, List.mem_of_getElem? (i := 83) (by decide +kernel), List.mem_of_getElem? (i := 404) (by decide +kernel), List.mem_of_getElem? (i := 405) (by decide +kernel)⟩
theorem lw_p7 : lw_okq (⟨"StackReal$Exact", "putOn", "(JJ)V"⟩, 4) := ⟨⟨by decide +kernel, by decide +kernel⟩, List.mem_of_getElem? (i := 83) (by decide +kernel), List.mem_of_getElem? (i := 412) (by decide +kernel), List.mem_of_getElem? (i := 413) (by decide +kernel)⟩
theorem lw_p8 : lw_okq (⟨"StackReal$Exact", "takeAway", "(JJ)V"⟩, 4) := ⟨⟨by decide +kernel, by decide +kernel⟩, List.mem_of_getElem? (i := 83) (by decide +kernel), List.mem_of_getElem? (i := 418) (by decide +kernel), List.mem_of_getElem? (i := 419) (by decide +kernel)⟩
theorem lw_p9 : lw_okq (⟨"StackReal$Exact", "normalize", "()V"⟩, 4) := ⟨⟨by decide +kernel, by decide +kernel⟩, List.mem_of_getElem? (i := 83) (by decide +kernel), List.mem_of_getElem? (i := 422) (by decide +kernel), List.mem_of_getElem? (i := 423) (by decide +kernel)⟩
theorem lw_p10 : lw_okq (⟨"StackReal$Rounding", "goesAway", "(ZZZZ)Z"⟩, 2) := ⟨⟨by decide +kernel, by decide +kernel⟩, List.mem_of_getElem? (i := 61) (by decide +kernel), List.mem_of_getElem? (i := 438) (by decide +kernel), List.mem_of_getElem? (i := 439) (by decide +kernel)⟩
theorem lw_p11 : lw_okq (⟨"StackReal$Rounding", "staysBelowInfinite", "(Z)Z"⟩, 2) := ⟨⟨by decide +kernel, by decide +kernel⟩, List.mem_of_getElem? (i := 61) (by decide +kernel), List.mem_of_getElem? (i := 443) (by decide +kernel), List.mem_of_getElem? (i := 444) (by decide +kernel)⟩
theorem lw_p12 : lw_okq (⟨"StackReal$Exact", "multiplyBits", "(JJ)V"⟩, 4) := ⟨⟨by decide +kernel, by decide +kernel⟩, List.mem_of_getElem? (i := 83) (by decide +kernel), List.mem_of_getElem? (i := 470) (by decide +kernel), List.mem_of_getElem? (i := 471) (by decide +kernel)⟩
theorem lw_p13 : lw_okq (⟨"StackReal$Exact", "isAbove", "(JJ)Z"⟩, 4) := ⟨⟨by decide +kernel, by decide +kernel⟩, List.mem_of_getElem? (i := 83) (by decide +kernel), List.mem_of_getElem? (i := 494) (by decide +kernel), List.mem_of_getElem? (i := 495) (by decide +kernel)⟩
theorem lw_p14 : lw_okq (⟨"StackReal", "carryOut", "(II)V"⟩, 11) := ⟨⟨by decide +kernel, by decide +kernel⟩, List.mem_of_getElem? (i := 15) (by decide +kernel), List.mem_of_getElem? (i := 521) (by decide +kernel), List.mem_of_getElem? (i := 522) (by decide +kernel)⟩
theorem lw_p15 : lw_okq (⟨"StackReal", "extract", "()V"⟩, 11) := ⟨⟨by decide +kernel, by decide +kernel⟩, List.mem_of_getElem? (i := 15) (by decide +kernel), List.mem_of_getElem? (i := 525) (by decide +kernel), List.mem_of_getElem? (i := 526) (by decide +kernel)⟩
def lw_privs_1 : List (MethodName × Nat) := [(⟨"java/lang/Throwable", "fillInStackTrace", "(I)Ljava/lang/Throwable;"⟩, 6), (⟨"StackReal", "isPossible", "(II)Z"⟩, 11), (⟨"StackReal", "st", "(I)LStackReal$Real;"⟩, 11), (⟨"StackReal", "raise", "(I)I"⟩, 11), (⟨"StackReal", "workOut", "(I)I"⟩, 11), (⟨"StackReal$Arithmetic", "addInfinite", "(LStackReal$Real;LStackReal$Real;LStackReal$Real;)I"⟩, 2), (⟨"StackReal$Exact", "combine", "(LStackReal$Real;LStackReal$Real;)V"⟩, 4), (⟨"StackReal$Exact", "putOn", "(JJ)V"⟩, 4), (⟨"StackReal$Exact", "takeAway", "(JJ)V"⟩, 4), (⟨"StackReal$Exact", "normalize", "()V"⟩, 4), (⟨"StackReal$Rounding", "goesAway", "(ZZZZ)Z"⟩, 2), (⟨"StackReal$Rounding", "staysBelowInfinite", "(Z)Z"⟩, 2), (⟨"StackReal$Exact", "multiplyBits", "(JJ)V"⟩, 4), (⟨"StackReal$Exact", "isAbove", "(JJ)Z"⟩, 4), (⟨"StackReal", "carryOut", "(II)V"⟩, 11), (⟨"StackReal", "extract", "()V"⟩, 11)]
theorem lw_r1 : ∀ q ∈ lw_privs_1, lw_okq q := List.forall_mem_cons.mpr ⟨lw_p0, List.forall_mem_cons.mpr ⟨lw_p1, List.forall_mem_cons.mpr ⟨lw_p2, List.forall_mem_cons.mpr ⟨lw_p3, List.forall_mem_cons.mpr ⟨lw_p4, List.forall_mem_cons.mpr ⟨lw_p5, List.forall_mem_cons.mpr ⟨lw_p6, List.forall_mem_cons.mpr ⟨lw_p7, List.forall_mem_cons.mpr ⟨lw_p8, List.forall_mem_cons.mpr ⟨lw_p9, List.forall_mem_cons.mpr ⟨lw_p10, List.forall_mem_cons.mpr ⟨lw_p11, List.forall_mem_cons.mpr ⟨lw_p12, List.forall_mem_cons.mpr ⟨lw_p13, List.forall_mem_cons.mpr ⟨lw_p14, List.forall_mem_cons.mpr ⟨lw_p15, fun _ h => absurd h List.not_mem_nil⟩⟩⟩⟩⟩⟩⟩⟩⟩⟩⟩⟩⟩⟩⟩⟩
theorem lw_p16 : lw_okq (⟨"StackReal", "push", "(LStackReal$Real;)V"⟩, 11) := ⟨⟨by decide +kernel, by decide +kernel⟩, List.mem_of_getElem? (i := 15) (by decide +kernel), List.mem_of_getElem? (i := 531) (by decide +kernel), List.mem_of_getElem? (i := 532) (by decide +kernel)⟩
theorem lw_p17 : lw_okq (⟨"StackReal", "exchange", "(I)V"⟩, 11) := ⟨⟨by decide +kernel, by decide +kernel⟩, List.mem_of_getElem? (i := 15) (by decide +kernel), List.mem_of_getElem? (i := 535) (by decide +kernel), List.mem_of_getElem? (i := 536) (by decide +kernel)⟩
theorem lw_p18 : lw_okq (⟨"StackReal$Forms", "encodeWhole", "(LStackReal$Real;)I"⟩, 4) := ⟨⟨by decide +kernel, by decide +kernel⟩, List.mem_of_getElem? (i := 114) (by decide +kernel), List.mem_of_getElem? (i := 591) (by decide +kernel), List.mem_of_getElem? (i := 592) (by decide +kernel)⟩
theorem lw_p19 : lw_okq (⟨"StackReal$Forms", "encodeBinary", "(LStackReal$Real;II)I"⟩, 4) := ⟨⟨by decide +kernel, by decide +kernel⟩, List.mem_of_getElem? (i := 114) (by decide +kernel), List.mem_of_getElem? (i := 597) (by decide +kernel), List.mem_of_getElem? (i := 598) (by decide +kernel)⟩
theorem lw_p20 : lw_okq (⟨"StackReal$Forms", "encodeDecimal", "(LStackReal$Real;)I"⟩, 4) := ⟨⟨by decide +kernel, by decide +kernel⟩, List.mem_of_getElem? (i := 114) (by decide +kernel), List.mem_of_getElem? (i := 607) (by decide +kernel), List.mem_of_getElem? (i := 608) (by decide +kernel)⟩
theorem lw_p21 : lw_okq (⟨"StackReal", "isOnStack", "(I)Z"⟩, 11) := ⟨⟨by decide +kernel, by decide +kernel⟩, List.mem_of_getElem? (i := 15) (by decide +kernel), List.mem_of_getElem? (i := 649) (by decide +kernel), List.mem_of_getElem? (i := 650) (by decide +kernel)⟩
theorem lw_p22 : lw_okq (⟨"StackRealModel", "begin", "(I)V"⟩, 18) := ⟨⟨by decide +kernel, by decide +kernel⟩, List.mem_of_getElem? (i := 668) (by decide +kernel), List.mem_of_getElem? (i := 749) (by decide +kernel), List.mem_of_getElem? (i := 750) (by decide +kernel)⟩
theorem lw_p23 : lw_okq (⟨"StackRealModel", "goOn", "(I)V"⟩, 18) := ⟨⟨by decide +kernel, by decide +kernel⟩, List.mem_of_getElem? (i := 668) (by decide +kernel), List.mem_of_getElem? (i := 753) (by decide +kernel), List.mem_of_getElem? (i := 754) (by decide +kernel)⟩
theorem lw_p24 : lw_okq (⟨"StackRealModel", "refuse", "()I"⟩, 18) := ⟨⟨by decide +kernel, by decide +kernel⟩, List.mem_of_getElem? (i := 668) (by decide +kernel), List.mem_of_getElem? (i := 757) (by decide +kernel), List.mem_of_getElem? (i := 758) (by decide +kernel)⟩
theorem lw_p25 : lw_okq (⟨"StackRealModel", "throwing", "()Z"⟩, 18) := ⟨⟨by decide +kernel, by decide +kernel⟩, List.mem_of_getElem? (i := 668) (by decide +kernel), List.mem_of_getElem? (i := 761) (by decide +kernel), List.mem_of_getElem? (i := 762) (by decide +kernel)⟩
theorem lw_p26 : lw_okq (⟨"StackRealModel", "copy", "(II)V"⟩, 18) := ⟨⟨by decide +kernel, by decide +kernel⟩, List.mem_of_getElem? (i := 668) (by decide +kernel), List.mem_of_getElem? (i := 765) (by decide +kernel), List.mem_of_getElem? (i := 766) (by decide +kernel)⟩
theorem lw_p27 : lw_okq (⟨"StackRealModel", "reckon", "(I)V"⟩, 18) := ⟨⟨by decide +kernel, by decide +kernel⟩, List.mem_of_getElem? (i := 668) (by decide +kernel), List.mem_of_getElem? (i := 769) (by decide +kernel), List.mem_of_getElem? (i := 770) (by decide +kernel)⟩
theorem lw_p28 : lw_okq (⟨"StackRealModel", "sum", "()V"⟩, 18) := ⟨⟨by decide +kernel, by decide +kernel⟩, List.mem_of_getElem? (i := 668) (by decide +kernel), List.mem_of_getElem? (i := 773) (by decide +kernel), List.mem_of_getElem? (i := 774) (by decide +kernel)⟩
theorem lw_p29 : lw_okq (⟨"StackRealModel", "either", "(I)Z"⟩, 18) := ⟨⟨by decide +kernel, by decide +kernel⟩, List.mem_of_getElem? (i := 668) (by decide +kernel), List.mem_of_getElem? (i := 777) (by decide +kernel), List.mem_of_getElem? (i := 778) (by decide +kernel)⟩
theorem lw_p30 : lw_okq (⟨"StackRealModel", "special", "(IZ)V"⟩, 18) := ⟨⟨by decide +kernel, by decide +kernel⟩, List.mem_of_getElem? (i := 668) (by decide +kernel), List.mem_of_getElem? (i := 781) (by decide +kernel), List.mem_of_getElem? (i := 782) (by decide +kernel)⟩
theorem lw_p31 : lw_okq (⟨"StackRealModel", "invalid", "()V"⟩, 18) := ⟨⟨by decide +kernel, by decide +kernel⟩, List.mem_of_getElem? (i := 668) (by decide +kernel), List.mem_of_getElem? (i := 785) (by decide +kernel), List.mem_of_getElem? (i := 786) (by decide +kernel)⟩
def lw_privs_2 : List (MethodName × Nat) := [(⟨"StackReal", "push", "(LStackReal$Real;)V"⟩, 11), (⟨"StackReal", "exchange", "(I)V"⟩, 11), (⟨"StackReal$Forms", "encodeWhole", "(LStackReal$Real;)I"⟩, 4), (⟨"StackReal$Forms", "encodeBinary", "(LStackReal$Real;II)I"⟩, 4), (⟨"StackReal$Forms", "encodeDecimal", "(LStackReal$Real;)I"⟩, 4), (⟨"StackReal", "isOnStack", "(I)Z"⟩, 11), (⟨"StackRealModel", "begin", "(I)V"⟩, 18), (⟨"StackRealModel", "goOn", "(I)V"⟩, 18), (⟨"StackRealModel", "refuse", "()I"⟩, 18), (⟨"StackRealModel", "throwing", "()Z"⟩, 18), (⟨"StackRealModel", "copy", "(II)V"⟩, 18), (⟨"StackRealModel", "reckon", "(I)V"⟩, 18), (⟨"StackRealModel", "sum", "()V"⟩, 18), (⟨"StackRealModel", "either", "(I)Z"⟩, 18), (⟨"StackRealModel", "special", "(IZ)V"⟩, 18), (⟨"StackRealModel", "invalid", "()V"⟩, 18)]
theorem lw_r2 : ∀ q ∈ lw_privs_2, lw_okq q := List.forall_mem_cons.mpr ⟨lw_p16, List.forall_mem_cons.mpr ⟨lw_p17, List.forall_mem_cons.mpr ⟨lw_p18, List.forall_mem_cons.mpr ⟨lw_p19, List.forall_mem_cons.mpr ⟨lw_p20, List.forall_mem_cons.mpr ⟨lw_p21, List.forall_mem_cons.mpr ⟨lw_p22, List.forall_mem_cons.mpr ⟨lw_p23, List.forall_mem_cons.mpr ⟨lw_p24, List.forall_mem_cons.mpr ⟨lw_p25, List.forall_mem_cons.mpr ⟨lw_p26, List.forall_mem_cons.mpr ⟨lw_p27, List.forall_mem_cons.mpr ⟨lw_p28, List.forall_mem_cons.mpr ⟨lw_p29, List.forall_mem_cons.mpr ⟨lw_p30, List.forall_mem_cons.mpr ⟨lw_p31, fun _ h => absurd h List.not_mem_nil⟩⟩⟩⟩⟩⟩⟩⟩⟩⟩⟩⟩⟩⟩⟩⟩
theorem lw_p32 : lw_okq (⟨"StackRealModel", "put", "(IJ)V"⟩, 18) := ⟨⟨by decide +kernel, by decide +kernel⟩, List.mem_of_getElem? (i := 668) (by decide +kernel), List.mem_of_getElem? (i := 789) (by decide +kernel), List.mem_of_getElem? (i := 790) (by decide +kernel)⟩
theorem lw_p33 : lw_okq (⟨"StackRealModel", "blank", "(I)V"⟩, 18) := ⟨⟨by decide +kernel, by decide +kernel⟩, List.mem_of_getElem? (i := 668) (by decide +kernel), List.mem_of_getElem? (i := 793) (by decide +kernel), List.mem_of_getElem? (i := 794) (by decide +kernel)⟩
theorem lw_p34 : lw_okq (⟨"StackRealModel", "result", "(ZI)V"⟩, 18) := ⟨⟨by decide +kernel, by decide +kernel⟩, List.mem_of_getElem? (i := 668) (by decide +kernel), List.mem_of_getElem? (i := 798) (by decide +kernel), List.mem_of_getElem? (i := 799) (by decide +kernel)⟩
theorem lw_p35 : lw_okq (⟨"StackRealModel", "round", "(ZIII)V"⟩, 18) := ⟨⟨by decide +kernel, by decide +kernel⟩, List.mem_of_getElem? (i := 668) (by decide +kernel), List.mem_of_getElem? (i := 802) (by decide +kernel), List.mem_of_getElem? (i := 803) (by decide +kernel)⟩
theorem lw_p36 : lw_okq (⟨"StackRealModel", "top", "(I)I"⟩, 18) := ⟨⟨by decide +kernel, by decide +kernel⟩, List.mem_of_getElem? (i := 668) (by decide +kernel), List.mem_of_getElem? (i := 806) (by decide +kernel), List.mem_of_getElem? (i := 807) (by decide +kernel)⟩
theorem lw_p37 : lw_okq (⟨"StackRealModel", "bit", "(II)I"⟩, 18) := ⟨⟨by decide +kernel, by decide +kernel⟩, List.mem_of_getElem? (i := 668) (by decide +kernel), List.mem_of_getElem? (i := 810) (by decide +kernel), List.mem_of_getElem? (i := 811) (by decide +kernel)⟩
theorem lw_p38 : lw_okq (⟨"StackRealModel", "goesUp", "(IZ)Z"⟩, 18) := ⟨⟨by decide +kernel, by decide +kernel⟩, List.mem_of_getElem? (i := 668) (by decide +kernel), List.mem_of_getElem? (i := 814) (by decide +kernel), List.mem_of_getElem? (i := 815) (by decide +kernel)⟩
theorem lw_p39 : lw_okq (⟨"StackRealModel", "shift", "(III)V"⟩, 18) := ⟨⟨by decide +kernel, by decide +kernel⟩, List.mem_of_getElem? (i := 668) (by decide +kernel), List.mem_of_getElem? (i := 818) (by decide +kernel), List.mem_of_getElem? (i := 819) (by decide +kernel)⟩
theorem lw_p40 : lw_okq (⟨"StackRealModel", "setBit", "(II)V"⟩, 18) := ⟨⟨by decide +kernel, by decide +kernel⟩, List.mem_of_getElem? (i := 668) (by decide +kernel), List.mem_of_getElem? (i := 822) (by decide +kernel), List.mem_of_getElem? (i := 823) (by decide +kernel)⟩
theorem lw_p41 : lw_okq (⟨"StackRealModel", "add", "(III)V"⟩, 18) := ⟨⟨by decide +kernel, by decide +kernel⟩, List.mem_of_getElem? (i := 668) (by decide +kernel), List.mem_of_getElem? (i := 826) (by decide +kernel), List.mem_of_getElem? (i := 827) (by decide +kernel)⟩
theorem lw_p42 : lw_okq (⟨"StackRealModel", "lowest", "(I)J"⟩, 18) := ⟨⟨by decide +kernel, by decide +kernel⟩, List.mem_of_getElem? (i := 668) (by decide +kernel), List.mem_of_getElem? (i := 831) (by decide +kernel), List.mem_of_getElem? (i := 832) (by decide +kernel)⟩
theorem lw_p43 : lw_okq (⟨"StackRealModel", "tooLarge", "(ZII)V"⟩, 18) := ⟨⟨by decide +kernel, by decide +kernel⟩, List.mem_of_getElem? (i := 668) (by decide +kernel), List.mem_of_getElem? (i := 835) (by decide +kernel), List.mem_of_getElem? (i := 836) (by decide +kernel)⟩
theorem lw_p44 : lw_okq (⟨"StackRealModel", "finiteSum", "(II)V"⟩, 18) := ⟨⟨by decide +kernel, by decide +kernel⟩, List.mem_of_getElem? (i := 668) (by decide +kernel), List.mem_of_getElem? (i := 840) (by decide +kernel), List.mem_of_getElem? (i := 841) (by decide +kernel)⟩
theorem lw_p45 : lw_okq (⟨"StackRealModel", "compareRows", "(II)I"⟩, 18) := ⟨⟨by decide +kernel, by decide +kernel⟩, List.mem_of_getElem? (i := 668) (by decide +kernel), List.mem_of_getElem? (i := 844) (by decide +kernel), List.mem_of_getElem? (i := 845) (by decide +kernel)⟩
theorem lw_p46 : lw_okq (⟨"StackRealModel", "product", "()V"⟩, 18) := ⟨⟨by decide +kernel, by decide +kernel⟩, List.mem_of_getElem? (i := 668) (by decide +kernel), List.mem_of_getElem? (i := 848) (by decide +kernel), List.mem_of_getElem? (i := 849) (by decide +kernel)⟩
theorem lw_p47 : lw_okq (⟨"StackRealModel", "times", "(III)V"⟩, 18) := ⟨⟨by decide +kernel, by decide +kernel⟩, List.mem_of_getElem? (i := 668) (by decide +kernel), List.mem_of_getElem? (i := 852) (by decide +kernel), List.mem_of_getElem? (i := 853) (by decide +kernel)⟩
def lw_privs_3 : List (MethodName × Nat) := [(⟨"StackRealModel", "put", "(IJ)V"⟩, 18), (⟨"StackRealModel", "blank", "(I)V"⟩, 18), (⟨"StackRealModel", "result", "(ZI)V"⟩, 18), (⟨"StackRealModel", "round", "(ZIII)V"⟩, 18), (⟨"StackRealModel", "top", "(I)I"⟩, 18), (⟨"StackRealModel", "bit", "(II)I"⟩, 18), (⟨"StackRealModel", "goesUp", "(IZ)Z"⟩, 18), (⟨"StackRealModel", "shift", "(III)V"⟩, 18), (⟨"StackRealModel", "setBit", "(II)V"⟩, 18), (⟨"StackRealModel", "add", "(III)V"⟩, 18), (⟨"StackRealModel", "lowest", "(I)J"⟩, 18), (⟨"StackRealModel", "tooLarge", "(ZII)V"⟩, 18), (⟨"StackRealModel", "finiteSum", "(II)V"⟩, 18), (⟨"StackRealModel", "compareRows", "(II)I"⟩, 18), (⟨"StackRealModel", "product", "()V"⟩, 18), (⟨"StackRealModel", "times", "(III)V"⟩, 18)]
theorem lw_r3 : ∀ q ∈ lw_privs_3, lw_okq q := List.forall_mem_cons.mpr ⟨lw_p32, List.forall_mem_cons.mpr ⟨lw_p33, List.forall_mem_cons.mpr ⟨lw_p34, List.forall_mem_cons.mpr ⟨lw_p35, List.forall_mem_cons.mpr ⟨lw_p36, List.forall_mem_cons.mpr ⟨lw_p37, List.forall_mem_cons.mpr ⟨lw_p38, List.forall_mem_cons.mpr ⟨lw_p39, List.forall_mem_cons.mpr ⟨lw_p40, List.forall_mem_cons.mpr ⟨lw_p41, List.forall_mem_cons.mpr ⟨lw_p42, List.forall_mem_cons.mpr ⟨lw_p43, List.forall_mem_cons.mpr ⟨lw_p44, List.forall_mem_cons.mpr ⟨lw_p45, List.forall_mem_cons.mpr ⟨lw_p46, List.forall_mem_cons.mpr ⟨lw_p47, fun _ h => absurd h List.not_mem_nil⟩⟩⟩⟩⟩⟩⟩⟩⟩⟩⟩⟩⟩⟩⟩⟩
theorem lw_p48 : lw_okq (⟨"StackRealModel", "quotient", "()V"⟩, 18) := ⟨⟨by decide +kernel, by decide +kernel⟩, List.mem_of_getElem? (i := 668) (by decide +kernel), List.mem_of_getElem? (i := 856) (by decide +kernel), List.mem_of_getElem? (i := 857) (by decide +kernel)⟩
theorem lw_p49 : lw_okq (⟨"StackRealModel", "finiteQuotient", "(Z)V"⟩, 18) := ⟨⟨by decide +kernel, by decide +kernel⟩, List.mem_of_getElem? (i := 668) (by decide +kernel), List.mem_of_getElem? (i := 860) (by decide +kernel), List.mem_of_getElem? (i := 861) (by decide +kernel)⟩
theorem lw_p50 : lw_okq (⟨"StackRealModel", "change", "(I)I"⟩, 18) := ⟨⟨by decide +kernel, by decide +kernel⟩, List.mem_of_getElem? (i := 668) (by decide +kernel), List.mem_of_getElem? (i := 864) (by decide +kernel), List.mem_of_getElem? (i := 865) (by decide +kernel)⟩
theorem lw_p51 : lw_okq (⟨"StackRealModel", "move", "(II)I"⟩, 18) := ⟨⟨by decide +kernel, by decide +kernel⟩, List.mem_of_getElem? (i := 668) (by decide +kernel), List.mem_of_getElem? (i := 868) (by decide +kernel), List.mem_of_getElem? (i := 869) (by decide +kernel)⟩
theorem lw_p52 : lw_okq (⟨"StackRealModel", "compared", "()I"⟩, 18) := ⟨⟨by decide +kernel, by decide +kernel⟩, List.mem_of_getElem? (i := 668) (by decide +kernel), List.mem_of_getElem? (i := 872) (by decide +kernel), List.mem_of_getElem? (i := 873) (by decide +kernel)⟩
theorem lw_p53 : lw_okq (⟨"StackRealModel", "rank", "(I)I"⟩, 18) := ⟨⟨by decide +kernel, by decide +kernel⟩, List.mem_of_getElem? (i := 668) (by decide +kernel), List.mem_of_getElem? (i := 876) (by decide +kernel), List.mem_of_getElem? (i := 877) (by decide +kernel)⟩
theorem lw_p54 : lw_okq (⟨"StackRealModel", "exactly", "(Z)V"⟩, 18) := ⟨⟨by decide +kernel, by decide +kernel⟩, List.mem_of_getElem? (i := 668) (by decide +kernel), List.mem_of_getElem? (i := 880) (by decide +kernel), List.mem_of_getElem? (i := 881) (by decide +kernel)⟩
theorem lw_p55 : lw_okq (⟨"StackRealModel", "extract", "()I"⟩, 18) := ⟨⟨by decide +kernel, by decide +kernel⟩, List.mem_of_getElem? (i := 668) (by decide +kernel), List.mem_of_getElem? (i := 884) (by decide +kernel), List.mem_of_getElem? (i := 885) (by decide +kernel)⟩
theorem lw_p56 : lw_okq (⟨"StackRealModel", "alter", "(I)V"⟩, 18) := ⟨⟨by decide +kernel, by decide +kernel⟩, List.mem_of_getElem? (i := 668) (by decide +kernel), List.mem_of_getElem? (i := 888) (by decide +kernel), List.mem_of_getElem? (i := 889) (by decide +kernel)⟩
theorem lw_p57 : lw_okq (⟨"StackRealModel", "root", "()V"⟩, 18) := ⟨⟨by decide +kernel, by decide +kernel⟩, List.mem_of_getElem? (i := 668) (by decide +kernel), List.mem_of_getElem? (i := 892) (by decide +kernel), List.mem_of_getElem? (i := 893) (by decide +kernel)⟩
theorem lw_p58 : lw_okq (⟨"StackRealModel", "integer", "()V"⟩, 18) := ⟨⟨by decide +kernel, by decide +kernel⟩, List.mem_of_getElem? (i := 668) (by decide +kernel), List.mem_of_getElem? (i := 896) (by decide +kernel), List.mem_of_getElem? (i := 897) (by decide +kernel)⟩
theorem lw_p59 : lw_okq (⟨"StackRealModel", "whole", "()V"⟩, 18) := ⟨⟨by decide +kernel, by decide +kernel⟩, List.mem_of_getElem? (i := 668) (by decide +kernel), List.mem_of_getElem? (i := 900) (by decide +kernel), List.mem_of_getElem? (i := 901) (by decide +kernel)⟩
theorem lw_p60 : lw_okq (⟨"StackRealModel", "scaled", "()V"⟩, 18) := ⟨⟨by decide +kernel, by decide +kernel⟩, List.mem_of_getElem? (i := 668) (by decide +kernel), List.mem_of_getElem? (i := 904) (by decide +kernel), List.mem_of_getElem? (i := 905) (by decide +kernel)⟩
theorem lw_p61 : lw_okq (⟨"StackRealModel", "readWhole", "(J)V"⟩, 18) := ⟨⟨by decide +kernel, by decide +kernel⟩, List.mem_of_getElem? (i := 668) (by decide +kernel), List.mem_of_getElem? (i := 913) (by decide +kernel), List.mem_of_getElem? (i := 914) (by decide +kernel)⟩
theorem lw_p62 : lw_okq (⟨"StackRealModel", "readReal", "(JII)V"⟩, 18) := ⟨⟨by decide +kernel, by decide +kernel⟩, List.mem_of_getElem? (i := 668) (by decide +kernel), List.mem_of_getElem? (i := 917) (by decide +kernel), List.mem_of_getElem? (i := 918) (by decide +kernel)⟩
theorem lw_p63 : lw_okq (⟨"StackRealModel", "readDecimal", "(J)V"⟩, 18) := ⟨⟨by decide +kernel, by decide +kernel⟩, List.mem_of_getElem? (i := 668) (by decide +kernel), List.mem_of_getElem? (i := 921) (by decide +kernel), List.mem_of_getElem? (i := 922) (by decide +kernel)⟩
def lw_privs_4 : List (MethodName × Nat) := [(⟨"StackRealModel", "quotient", "()V"⟩, 18), (⟨"StackRealModel", "finiteQuotient", "(Z)V"⟩, 18), (⟨"StackRealModel", "change", "(I)I"⟩, 18), (⟨"StackRealModel", "move", "(II)I"⟩, 18), (⟨"StackRealModel", "compared", "()I"⟩, 18), (⟨"StackRealModel", "rank", "(I)I"⟩, 18), (⟨"StackRealModel", "exactly", "(Z)V"⟩, 18), (⟨"StackRealModel", "extract", "()I"⟩, 18), (⟨"StackRealModel", "alter", "(I)V"⟩, 18), (⟨"StackRealModel", "root", "()V"⟩, 18), (⟨"StackRealModel", "integer", "()V"⟩, 18), (⟨"StackRealModel", "whole", "()V"⟩, 18), (⟨"StackRealModel", "scaled", "()V"⟩, 18), (⟨"StackRealModel", "readWhole", "(J)V"⟩, 18), (⟨"StackRealModel", "readReal", "(JII)V"⟩, 18), (⟨"StackRealModel", "readDecimal", "(J)V"⟩, 18)]
theorem lw_r4 : ∀ q ∈ lw_privs_4, lw_okq q := List.forall_mem_cons.mpr ⟨lw_p48, List.forall_mem_cons.mpr ⟨lw_p49, List.forall_mem_cons.mpr ⟨lw_p50, List.forall_mem_cons.mpr ⟨lw_p51, List.forall_mem_cons.mpr ⟨lw_p52, List.forall_mem_cons.mpr ⟨lw_p53, List.forall_mem_cons.mpr ⟨lw_p54, List.forall_mem_cons.mpr ⟨lw_p55, List.forall_mem_cons.mpr ⟨lw_p56, List.forall_mem_cons.mpr ⟨lw_p57, List.forall_mem_cons.mpr ⟨lw_p58, List.forall_mem_cons.mpr ⟨lw_p59, List.forall_mem_cons.mpr ⟨lw_p60, List.forall_mem_cons.mpr ⟨lw_p61, List.forall_mem_cons.mpr ⟨lw_p62, List.forall_mem_cons.mpr ⟨lw_p63, fun _ h => absurd h List.not_mem_nil⟩⟩⟩⟩⟩⟩⟩⟩⟩⟩⟩⟩⟩⟩⟩⟩
theorem lw_p64 : lw_okq (⟨"StackRealModel", "writeReal", "(II)J"⟩, 18) := ⟨⟨by decide +kernel, by decide +kernel⟩, List.mem_of_getElem? (i := 668) (by decide +kernel), List.mem_of_getElem? (i := 932) (by decide +kernel), List.mem_of_getElem? (i := 933) (by decide +kernel)⟩
theorem lw_p65 : lw_okq (⟨"StackRealModel", "writeWhole", "(Z)J"⟩, 18) := ⟨⟨by decide +kernel, by decide +kernel⟩, List.mem_of_getElem? (i := 668) (by decide +kernel), List.mem_of_getElem? (i := 936) (by decide +kernel), List.mem_of_getElem? (i := 937) (by decide +kernel)⟩
def lw_privs_5 : List (MethodName × Nat) := [(⟨"StackRealModel", "writeReal", "(II)J"⟩, 18), (⟨"StackRealModel", "writeWhole", "(Z)J"⟩, 18)]
theorem lw_r5 : ∀ q ∈ lw_privs_5, lw_okq q := List.forall_mem_cons.mpr ⟨lw_p64, List.forall_mem_cons.mpr ⟨lw_p65, fun _ h => absurd h List.not_mem_nil⟩⟩
def lw_privs : List (MethodName × Nat) := lw_privs_1 ++ (lw_privs_2 ++ (lw_privs_3 ++ (lw_privs_4 ++ (lw_privs_5))))
def lw_tbl : List Cond := k2_sels lw_privs ++ tables_1
theorem lw_privs_ok : ∀ q ∈ lw_privs, lw_okq q := by
  show ∀ q ∈ lw_privs_1 ++ (lw_privs_2 ++ (lw_privs_3 ++ (lw_privs_4 ++ (lw_privs_5)))), lw_okq q
  exact List.forall_mem_append.mpr ⟨lw_r1, List.forall_mem_append.mpr ⟨lw_r2, List.forall_mem_append.mpr ⟨lw_r3, List.forall_mem_append.mpr ⟨lw_r4, lw_r5⟩⟩⟩⟩
end
section
/-! Names, classes, methods and pools, written by a program (wip/whole/gen/gen_names.py) out of claim/Statement.lean. -/
def F_SR : u_T := fun k => match k with
  | 0 => ("StackReal", "stack", "[LStackReal$Real;", true)
  | 1 => ("StackReal", "result", "LStackReal$Real;", true)
  | 2 => ("StackReal", "turned", "LStackReal$Real;", true)
  | 3 => ("StackReal", "rounding", "LStackReal$Rounding;", true)
  | 4 => ("StackReal", "arithmetic", "LStackReal$Arithmetic;", true)
  | 5 => ("StackReal", "forms", "LStackReal$Forms;", true)
  | 6 => ("StackReal", "memory", "LStackReal$Memory;", true)
  | 7 => ("StackReal", "depth", "I", false)
  | 8 => ("StackReal", "mask", "I", false)
  | 9 => ("StackReal", "flags", "I", false)
  | _ => ("StackReal", "condition", "I", false)
def F_Re : u_T := fun k => match k with
  | 0 => ("StackReal$Real", "kind", "I", false)
  | 1 => ("StackReal$Real", "negative", "Z", false)
  | 2 => ("StackReal$Real", "exponent", "I", false)
  | _ => ("StackReal$Real", "significand", "J", false)
def F_Ex : u_T := fun k => match k with
  | 0 => ("StackReal$Exact", "negative", "Z", false)
  | 1 => ("StackReal$Exact", "exponent", "I", false)
  | 2 => ("StackReal$Exact", "high", "J", false)
  | _ => ("StackReal$Exact", "low", "J", false)
def F_Ro : u_T := fun k => match k with
  | 0 => ("StackReal$Rounding", "precision", "I", false)
  | _ => ("StackReal$Rounding", "way", "I", false)
def F_Ar : u_T := fun k => match k with
  | 0 => ("StackReal$Arithmetic", "rounding", "LStackReal$Rounding;", true)
  | _ => ("StackReal$Arithmetic", "exact", "LStackReal$Exact;", true)
def F_Fo : u_T := fun k => match k with
  | 0 => ("StackReal$Forms", "rounding", "LStackReal$Rounding;", true)
  | 1 => ("StackReal$Forms", "exact", "LStackReal$Exact;", true)
  | 2 => ("StackReal$Forms", "rounded", "LStackReal$Real;", true)
  | _ => ("StackReal$Forms", "image", "J", false)
def F_Me : u_T := fun k => match k with
  | 0 => ("StackReal$Memory", "cells", "[J", true)
  | 1 => ("StackReal$Memory", "now", "J", false)
  | 2 => ("StackReal$Memory", "freeAt", "J", false)
  | 3 => ("StackReal$Memory", "storing", "Z", false)
  | 4 => ("StackReal$Memory", "target", "I", false)
  | _ => ("StackReal$Memory", "coming", "J", false)
def F_Mo : u_T := fun k => match k with
  | 0 => ("StackRealModel", "thrown", "I", false)
  | 1 => ("StackRealModel", "precision", "I", false)
  | 2 => ("StackRealModel", "rounding", "I", false)
  | 3 => ("StackRealModel", "mask", "I", false)
  | 4 => ("StackRealModel", "flags", "I", false)
  | 5 => ("StackRealModel", "noted", "I", false)
  | 6 => ("StackRealModel", "condition", "I", false)
  | 7 => ("StackRealModel", "depth", "I", false)
  | 8 => ("StackRealModel", "kind", "[I", true)
  | 9 => ("StackRealModel", "negative", "[Z", true)
  | 10 => ("StackRealModel", "exponent", "[I", true)
  | 11 => ("StackRealModel", "significand", "[J", true)
  | 12 => ("StackRealModel", "memory", "[J", true)
  | 13 => ("StackRealModel", "busy", "I", false)
  | 14 => ("StackRealModel", "cell", "I", false)
  | 15 => ("StackRealModel", "coming", "J", false)
  | 16 => ("StackRealModel", "now", "J", false)
  | _ => ("StackRealModel", "digits", "[I", true)
abbrev zCl : List vw_C := [("StackReal", F_SR, 11), ("StackReal$Real", F_Re, 4), ("StackReal$Exact", F_Ex, 4), ("StackReal$Rounding", F_Ro, 2), ("StackReal$Arithmetic", F_Ar, 2), ("StackReal$Forms", F_Fo, 4), ("StackReal$Memory", F_Me, 6), ("StackRealModel", F_Mo, 18)]
def zTyp (ci j : Nat) : FieldType := match ci, j with
  | 0, 0 => (.array (.object "StackReal$Real"))
  | 0, 1 => (.object "StackReal$Real")
  | 0, 2 => (.object "StackReal$Real")
  | 0, 3 => (.object "StackReal$Rounding")
  | 0, 4 => (.object "StackReal$Arithmetic")
  | 0, 5 => (.object "StackReal$Forms")
  | 0, 6 => (.object "StackReal$Memory")
  | 0, 7 => .int
  | 0, 8 => .int
  | 0, 9 => .int
  | 0, 10 => .int
  | 1, 0 => .int
  | 1, 1 => .boolean
  | 1, 2 => .int
  | 1, 3 => .long
  | 2, 0 => .boolean
  | 2, 1 => .int
  | 2, 2 => .long
  | 2, 3 => .long
  | 3, 0 => .int
  | 3, 1 => .int
  | 4, 0 => (.object "StackReal$Rounding")
  | 4, 1 => (.object "StackReal$Exact")
  | 5, 0 => (.object "StackReal$Rounding")
  | 5, 1 => (.object "StackReal$Exact")
  | 5, 2 => (.object "StackReal$Real")
  | 5, 3 => .long
  | 6, 0 => (.array .long)
  | 6, 1 => .long
  | 6, 2 => .long
  | 6, 3 => .boolean
  | 6, 4 => .int
  | 6, 5 => .long
  | 7, 0 => .int
  | 7, 1 => .int
  | 7, 2 => .int
  | 7, 3 => .int
  | 7, 4 => .int
  | 7, 5 => .int
  | 7, 6 => .int
  | 7, 7 => .int
  | 7, 8 => (.array .int)
  | 7, 9 => (.array .boolean)
  | 7, 10 => (.array .int)
  | 7, 11 => (.array .long)
  | 7, 12 => (.array .long)
  | 7, 13 => .int
  | 7, 14 => .int
  | 7, 15 => .long
  | 7, 16 => .long
  | 7, 17 => (.array .int)
  | _, _ => .int
def zFin (ci j : Nat) : Bool := match ci, j with
  | 0, 0 => true
  | 0, 1 => true
  | 0, 2 => true
  | 0, 3 => true
  | 0, 4 => true
  | 0, 5 => true
  | 0, 6 => true
  | 4, 0 => true
  | 4, 1 => true
  | 5, 0 => true
  | 5, 1 => true
  | 5, 2 => true
  | 6, 0 => true
  | 7, 8 => true
  | 7, 9 => true
  | 7, 10 => true
  | 7, 11 => true
  | 7, 12 => true
  | 7, 17 => true
  | _, _ => false
def zCn (cn : Nat) : String := match cn with
  | 0 => "StackReal"
  | 1 => "StackReal$Real"
  | 2 => "StackReal$Exact"
  | 3 => "StackReal$Rounding"
  | 4 => "StackReal$Arithmetic"
  | 5 => "StackReal$Forms"
  | 6 => "StackReal$Memory"
  | 7 => "StackRealModel"
  | _ => "StackRealLaw"
abbrev zReal : Nat := 1
abbrev zRealN : String := "StackReal$Real"
def zXn (x : Nat) : String := if x = 1 then "java/lang/IllegalArgumentException" else "java/lang/ArithmeticException"
def zXs (_ : Nat) : List String := ["java/lang/RuntimeException", "java/lang/Exception"]
/-- a method: name, code, locals, answer, handlers, class, exceptions that it may make, throws (pc, kind), instructions -/
abbrev ZM : Type := MethodName × ByteArray × Nat × Option FieldType × List (Nat × Nat × Nat × Nat) × Nat × Nat × List (Nat × Nat) × List (Nat × Instr × Nat)
def zNm (m : ZM) : MethodName := m.1
def zCode (m : ZM) : ByteArray := m.2.1
def zMl (m : ZM) : Nat := m.2.2.1
def zRt (m : ZM) : Option FieldType := m.2.2.2.1
def zHs (m : ZM) : List (Nat × Nat × Nat × Nat) := m.2.2.2.2.1
def zCno (m : ZM) : Nat := m.2.2.2.2.2.1
def zKm (m : ZM) : Nat := m.2.2.2.2.2.2.1
def zThL (m : ZM) : List (Nat × Nat) := m.2.2.2.2.2.2.2.1
def zIns (m : ZM) : List (Nat × Instr × Nat) := m.2.2.2.2.2.2.2.2
def zfetch (m : ZM) (pc : Nat) : Option (Instr × Nat) := (zIns m).lookup pc
def zThr (m : ZM) (pc : Nat) : Option Nat := (zThL m).lookup pc
def i_SR_await : List (Nat × Instr × Nat) := [(0, .aload_n 0, 1), (1, .getfield 49, 3), (4, .invokevirtual 158, 3), (7, .ireturn, 1)]
def m_SR_await : ZM := (⟨"StackReal", "await", "()I"⟩, prog_1_method_9_code, 1, some .int, [], 0, 0, [], i_SR_await)
def i_Me_waitUntilFree : List (Nat × Instr × Nat) := [(0, .aload_n 0, 1), (1, .getfield 23, 3), (4, .aload_n 0, 1), (5, .getfield 15, 3), (8, .lcmp, 1), (9, .ifCond .le 16, 3), (12, .aload_n 0, 1), (13, .getfield 23, 3), (16, .aload_n 0, 1), (17, .getfield 15, 3), (20, .lsub, 1), (21, .l2i, 1), (22, .goto 4, 3), (25, .iconst 0, 1), (26, .istore_n 1, 1), (27, .aload_n 0, 1), (28, .iload_n 1, 1), (29, .i2l, 1), (30, .invokevirtual 33, 3), (33, .iload_n 1, 1), (34, .ireturn, 1)]
def m_Me_waitUntilFree : ZM := (⟨"StackReal$Memory", "waitUntilFree", "()I"⟩, prog_5_method_3_code, 2, some .int, [], 6, 0, [], i_Me_waitUntilFree)
def i_Me_goOn : List (Nat × Instr × Nat) := [(0, .aload_n 0, 1), (1, .dup, 1), (2, .getfield 15, 3), (5, .lload_n 1, 1), (6, .ladd, 1), (7, .putfield 15, 3), (10, .aload_n 0, 1), (11, .getfield 19, 3), (14, .ifCond .eq 33, 3), (17, .aload_n 0, 1), (18, .getfield 15, 3), (21, .aload_n 0, 1), (22, .getfield 23, 3), (25, .lcmp, 1), (26, .ifCond .lt 21, 3), (29, .aload_n 0, 1), (30, .getfield 9, 3), (33, .aload_n 0, 1), (34, .getfield 26, 3), (37, .aload_n 0, 1), (38, .getfield 30, 3), (41, .lastore, 1), (42, .aload_n 0, 1), (43, .iconst 0, 1), (44, .putfield 19, 3), (47, .return_, 1)]
def m_Me_goOn : ZM := (⟨"StackReal$Memory", "goOn", "(J)V"⟩, prog_5_method_2_code, 3, none, [], 6, 0, [], i_Me_goOn)
def i_SR_time : List (Nat × Instr × Nat) := [(0, .aload_n 0, 1), (1, .getfield 49, 3), (4, .getfield 162, 3), (7, .lreturn, 1)]
def m_SR_time : ZM := (⟨"StackReal", "time", "()J"⟩, prog_1_method_10_code, 1, some .long, [], 0, 0, [], i_SR_time)
def i_SR_flags : List (Nat × Instr × Nat) := [(0, .aload_n 0, 1), (1, .getfield 60, 3), (4, .ireturn, 1)]
def m_SR_flags : ZM := (⟨"StackReal", "flags", "()I"⟩, prog_1_method_11_code, 1, some .int, [], 0, 0, [], i_SR_flags)
def i_SR_clear : List (Nat × Instr × Nat) := [(0, .aload_n 0, 1), (1, .iconst 0, 1), (2, .putfield 60, 3), (5, .return_, 1)]
def m_SR_clear : ZM := (⟨"StackReal", "clear", "()V"⟩, prog_1_method_12_code, 1, none, [], 0, 0, [], i_SR_clear)
def i_SR_condition : List (Nat × Instr × Nat) := [(0, .aload_n 0, 1), (1, .getfield 63, 3), (4, .ireturn, 1)]
def m_SR_condition : ZM := (⟨"StackReal", "condition", "()I"⟩, prog_1_method_13_code, 1, some .int, [], 0, 0, [], i_SR_condition)
def i_SR_depth : List (Nat × Instr × Nat) := [(0, .aload_n 0, 1), (1, .getfield 53, 3), (4, .ireturn, 1)]
def m_SR_depth : ZM := (⟨"StackReal", "depth", "()I"⟩, prog_1_method_14_code, 1, some .int, [], 0, 0, [], i_SR_depth)
def i_La_control : List (Nat × Instr × Nat) := [(0, .aload_n 0, 1), (1, .iload_n 1, 1), (2, .iload_n 2, 1), (3, .iload_n 3, 1), (4, .invokevirtual 7, 3), (7, .goto 7, 3), (10, .astore 4, 2), (12, .iconst 1, 1), (13, .ireturn, 1), (14, .iconst 0, 1), (15, .ireturn, 1)]
def m_La_control : ZM := (⟨"StackRealLaw", "control", "(LStackReal;III)I"⟩, method_3_code, 5, some .int, [(0, 7, 10, 13)], 8, 1, [], i_La_control)
def i_SR_control : List (Nat × Instr × Nat) := [(0, .iload_n 1, 1), (1, .bipush 24, 2), (3, .if_icmp .eq 25, 3), (6, .iload_n 1, 1), (7, .bipush 53, 2), (9, .if_icmp .eq 19, 3), (12, .iload_n 1, 1), (13, .bipush 64, 2), (15, .if_icmp .eq 13, 3), (18, .new 66, 3), (21, .dup, 1), (22, .ldc 68, 2), (24, .invokespecial 70, 3), (27, .athrow, 1), (28, .iload_n 2, 1), (29, .ifCond .lt 8, 3), (32, .iload_n 2, 1), (33, .iconst 3, 1), (34, .if_icmp .le 13, 3), (37, .new 66, 3), (40, .dup, 1), (41, .ldc 73, 2), (43, .invokespecial 70, 3), (46, .athrow, 1), (47, .iload_n 3, 1), (48, .ifCond .lt 9, 3), (51, .iload_n 3, 1), (52, .bipush 31, 2), (54, .if_icmp .le 13, 3), (57, .new 66, 3), (60, .dup, 1), (61, .ldc 75, 2), (63, .invokespecial 70, 3), (66, .athrow, 1), (67, .aload_n 0, 1), (68, .getfield 26, 3), (71, .iload_n 1, 1), (72, .putfield 77, 3), (75, .aload_n 0, 1), (76, .getfield 26, 3), (79, .iload_n 2, 1), (80, .putfield 80, 3), (83, .aload_n 0, 1), (84, .iload_n 3, 1), (85, .putfield 57, 3), (88, .return_, 1)]
def m_SR_control : ZM := (⟨"StackReal", "control", "(III)V"⟩, prog_1_method_2_code, 4, none, [], 0, 1, [(18, 1), (37, 1), (57, 1)], i_SR_control)
def i_La_operate : List (Nat × Instr × Nat) := [(0, .aload_n 3, 1), (1, .iconst 0, 1), (2, .aload_n 0, 1), (3, .iload_n 1, 1), (4, .iload_n 2, 1), (5, .invokevirtual 15, 3), (8, .i2l, 1), (9, .lastore, 1), (10, .goto 11, 3), (13, .astore 4, 2), (15, .iconst 1, 1), (16, .ireturn, 1), (17, .astore 4, 2), (19, .iconst 2, 1), (20, .ireturn, 1), (21, .iconst 0, 1), (22, .ireturn, 1)]
def m_La_operate : ZM := (⟨"StackRealLaw", "operate", "(LStackReal;II[J)I"⟩, method_4_code, 5, some .int, [(0, 10, 13, 13), (0, 10, 17, 19)], 8, 1, [], i_La_operate)
def i_SR_operate : List (Nat × Instr × Nat) := [(0, .iload_n 1, 1), (1, .ifCond .lt 9, 3), (4, .iload_n 1, 1), (5, .bipush 15, 2), (7, .if_icmp .le 13, 3), (10, .new 66, 3), (13, .dup, 1), (14, .ldc 83, 2), (16, .invokespecial 70, 3), (19, .athrow, 1), (20, .iload_n 1, 1), (21, .invokestatic 85, 3), (24, .ifCond .eq 23, 3), (27, .iload_n 2, 1), (28, .ifCond .lt 9, 3), (31, .iload_n 2, 1), (32, .bipush 8, 2), (34, .if_icmp .lt 13, 3), (37, .new 66, 3), (40, .dup, 1), (41, .ldc 89, 2), (43, .invokespecial 70, 3), (46, .athrow, 1), (47, .aload_n 0, 1), (48, .getfield 49, 3), (51, .getstatic 91, 3), (54, .iload_n 1, 1), (55, .iaload, 1), (56, .invokevirtual 95, 3), (59, .aload_n 0, 1), (60, .iload_n 1, 1), (61, .iload_n 2, 1), (62, .invokevirtual 99, 3), (65, .ifCond .ne 9, 3), (68, .aload_n 0, 1), (69, .iconst 1, 1), (70, .invokevirtual 103, 3), (73, .ireturn, 1), (74, .aload_n 0, 1), (75, .aload_n 0, 1), (76, .iload_n 1, 1), (77, .invokevirtual 107, 3), (80, .invokevirtual 103, 3), (83, .istore_n 3, 1), (84, .aload_n 0, 1), (85, .iload_n 1, 1), (86, .iload_n 2, 1), (87, .invokevirtual 110, 3), (90, .iload_n 3, 1), (91, .ireturn, 1)]
def m_SR_operate : ZM := (⟨"StackReal", "operate", "(II)I"⟩, prog_1_method_3_code, 4, some .int, [], 0, 1, [(10, 1), (37, 1)], i_SR_operate)
def i_SR_namesPlace : List (Nat × Instr × Nat) := [(0, .iload_n 0, 1), (1, .bipush 10, 2), (3, .if_icmp .eq 9, 3), (6, .iload_n 0, 1), (7, .bipush 11, 2), (9, .if_icmp .ne 7, 3), (12, .iconst 1, 1), (13, .goto 4, 3), (16, .iconst 0, 1), (17, .ireturn, 1)]
def m_SR_namesPlace : ZM := (⟨"StackReal", "namesPlace", "(I)Z"⟩, prog_1_method_24_code, 1, some .boolean, [], 0, 0, [], i_SR_namesPlace)
def i_Me_occupy : List (Nat × Instr × Nat) := [(0, .aload_n 0, 1), (1, .invokevirtual 37, 3), (4, .pop, 1), (5, .aload_n 0, 1), (6, .aload_n 0, 1), (7, .getfield 15, 3), (10, .iload_n 1, 1), (11, .i2l, 1), (12, .ladd, 1), (13, .putfield 23, 3), (16, .return_, 1)]
def m_Me_occupy : ZM := (⟨"StackReal$Memory", "occupy", "(I)V"⟩, prog_5_method_4_code, 2, none, [], 6, 0, [], i_Me_occupy)
def i_SR_isPossible : List (Nat × Instr × Nat) := [(0, .iload_n 1, 1), (1, .invokestatic 85, 3), (4, .ifCond .eq 9, 3), (7, .iload_n 2, 1), (8, .iconst 1, 1), (9, .iadd, 1), (10, .goto 8, 3), (13, .getstatic 191, 3), (16, .iload_n 1, 1), (17, .iaload, 1), (18, .istore_n 3, 1), (19, .aload_n 0, 1), (20, .getfield 53, 3), (23, .iload_n 3, 1), (24, .if_icmp .lt 19, 3), (27, .iload_n 1, 1), (28, .invokestatic 194, 3), (31, .ifCond .eq 14, 3), (34, .aload_n 0, 1), (35, .getfield 53, 3), (38, .bipush 8, 2), (40, .if_icmp .lt 5, 3), (43, .iconst 0, 1), (44, .ireturn, 1), (45, .iload_n 1, 1), (46, .bipush 7, 2), (48, .if_icmp .ne 15, 3), (51, .aload_n 0, 1), (52, .iconst 0, 1), (53, .invokevirtual 134, 3), (56, .getfield 174, 3), (59, .iconst 1, 1), (60, .if_icmp .ne 7, 3), (63, .iconst 1, 1), (64, .goto 4, 3), (67, .iconst 0, 1), (68, .ireturn, 1)]
def m_SR_isPossible : ZM := (⟨"StackReal", "isPossible", "(II)Z"⟩, prog_1_method_26_code, 4, some .boolean, [], 0, 0, [], i_SR_isPossible)
def i_SR_pushes : List (Nat × Instr × Nat) := [(0, .iload_n 0, 1), (1, .bipush 7, 2), (3, .if_icmp .eq 21, 3), (6, .iload_n 0, 1), (7, .bipush 11, 2), (9, .if_icmp .eq 15, 3), (12, .iload_n 0, 1), (13, .bipush 14, 2), (15, .if_icmp .eq 9, 3), (18, .iload_n 0, 1), (19, .bipush 15, 2), (21, .if_icmp .ne 7, 3), (24, .iconst 1, 1), (25, .goto 4, 3), (28, .iconst 0, 1), (29, .ireturn, 1)]
def m_SR_pushes : ZM := (⟨"StackReal", "pushes", "(I)Z"⟩, prog_1_method_25_code, 1, some .boolean, [], 0, 0, [], i_SR_pushes)
def i_SR_st : List (Nat × Instr × Nat) := [(0, .aload_n 0, 1), (1, .getfield 11, 3), (4, .aload_n 0, 1), (5, .getfield 53, 3), (8, .iconst 1, 1), (9, .isub, 1), (10, .iload_n 1, 1), (11, .isub, 1), (12, .aaload, 1), (13, .areturn, 1)]
def m_SR_st : ZM := (⟨"StackReal", "st", "(I)LStackReal$Real;"⟩, prog_1_method_21_code, 2, some (.object "StackReal$Real"), [], 0, 0, [], i_SR_st)
def i_SR_raise : List (Nat × Instr × Nat) := [(0, .aload_n 0, 1), (1, .dup, 1), (2, .getfield 60, 3), (5, .iload_n 1, 1), (6, .ior, 1), (7, .putfield 60, 3), (10, .iload_n 1, 1), (11, .aload_n 0, 1), (12, .getfield 57, 3), (15, .iconst (-1), 1), (16, .ixor, 1), (17, .iand, 1), (18, .ifCond .eq 13, 3), (21, .new 186, 3), (24, .dup, 1), (25, .ldc 188, 2), (27, .invokespecial 190, 3), (30, .athrow, 1), (31, .iload_n 1, 1), (32, .ireturn, 1)]
def m_SR_raise : ZM := (⟨"StackReal", "raise", "(I)I"⟩, prog_1_method_23_code, 2, some .int, [], 0, 1, [(21, 2)], i_SR_raise)
def i_SR_workOut : List (Nat × Instr × Nat) := [(0, .iload_n 1, 1), (1, .tableswitch 263 0 13 #[71, 93, 133, 155, 177, 194, 211, 263, 263, 263, 263, 263, 263, 233], 71), (72, .aload_n 0, 1), (73, .getfield 35, 3), (76, .aload_n 0, 1), (77, .iconst 1, 1), (78, .invokevirtual 134, 3), (81, .aload_n 0, 1), (82, .iconst 0, 1), (83, .invokevirtual 134, 3), (86, .aload_n 0, 1), (87, .getfield 16, 3), (90, .invokevirtual 197, 3), (93, .ireturn, 1), (94, .aload_n 0, 1), (95, .getfield 20, 3), (98, .aload_n 0, 1), (99, .iconst 0, 1), (100, .invokevirtual 134, 3), (103, .invokevirtual 183, 3), (106, .aload_n 0, 1), (107, .getfield 20, 3), (110, .invokevirtual 201, 3), (113, .aload_n 0, 1), (114, .getfield 35, 3), (117, .aload_n 0, 1), (118, .iconst 1, 1), (119, .invokevirtual 134, 3), (122, .aload_n 0, 1), (123, .getfield 20, 3), (126, .aload_n 0, 1), (127, .getfield 16, 3), (130, .invokevirtual 197, 3), (133, .ireturn, 1), (134, .aload_n 0, 1), (135, .getfield 35, 3), (138, .aload_n 0, 1), (139, .iconst 1, 1), (140, .invokevirtual 134, 3), (143, .aload_n 0, 1), (144, .iconst 0, 1), (145, .invokevirtual 134, 3), (148, .aload_n 0, 1), (149, .getfield 16, 3), (152, .invokevirtual 204, 3), (155, .ireturn, 1), (156, .aload_n 0, 1), (157, .getfield 35, 3), (160, .aload_n 0, 1), (161, .iconst 1, 1), (162, .invokevirtual 134, 3), (165, .aload_n 0, 1), (166, .iconst 0, 1), (167, .invokevirtual 134, 3), (170, .aload_n 0, 1), (171, .getfield 16, 3), (174, .invokevirtual 207, 3), (177, .ireturn, 1), (178, .aload_n 0, 1), (179, .getfield 35, 3), (182, .aload_n 0, 1), (183, .iconst 0, 1), (184, .invokevirtual 134, 3), (187, .aload_n 0, 1), (188, .getfield 16, 3), (191, .invokevirtual 210, 3), (194, .ireturn, 1), (195, .aload_n 0, 1), (196, .getfield 35, 3), (199, .aload_n 0, 1), (200, .iconst 0, 1), (201, .invokevirtual 134, 3), (204, .aload_n 0, 1), (205, .getfield 16, 3), (208, .invokevirtual 214, 3), (211, .ireturn, 1), (212, .aload_n 0, 1), (213, .getfield 35, 3), (216, .aload_n 0, 1), (217, .iconst 0, 1), (218, .invokevirtual 134, 3), (221, .aload_n 0, 1), (222, .iconst 1, 1), (223, .invokevirtual 134, 3), (226, .aload_n 0, 1), (227, .getfield 16, 3), (230, .invokevirtual 217, 3), (233, .ireturn, 1), (234, .aload_n 0, 1), (235, .iconst 0, 1), (236, .invokevirtual 134, 3), (239, .getfield 174, 3), (242, .iconst 3, 1), (243, .if_icmp .eq 15, 3), (246, .aload_n 0, 1), (247, .iconst 1, 1), (248, .invokevirtual 134, 3), (251, .getfield 174, 3), (254, .iconst 3, 1), (255, .if_icmp .ne 7, 3), (258, .iconst 1, 1), (259, .goto 4, 3), (262, .iconst 0, 1), (263, .ireturn, 1), (264, .iconst 0, 1), (265, .ireturn, 1)]
def m_SR_workOut : ZM := (⟨"StackReal", "workOut", "(I)I"⟩, prog_1_method_27_code, 2, some .int, [], 0, 0, [], i_SR_workOut)
def i_Ar_add : List (Nat × Instr × Nat) := [(0, .aload_n 1, 1), (1, .getfield 22, 3), (4, .iconst 3, 1), (5, .if_icmp .eq 11, 3), (8, .aload_n 2, 1), (9, .getfield 22, 3), (12, .iconst 3, 1), (13, .if_icmp .ne 9, 3), (16, .aload_n 3, 1), (17, .invokevirtual 28, 3), (20, .iconst 0, 1), (21, .ireturn, 1), (22, .aload_n 1, 1), (23, .getfield 22, 3), (26, .iconst 2, 1), (27, .if_icmp .eq 11, 3), (30, .aload_n 2, 1), (31, .getfield 22, 3), (34, .iconst 2, 1), (35, .if_icmp .ne 11, 3), (38, .aload_n 0, 1), (39, .aload_n 1, 1), (40, .aload_n 2, 1), (41, .aload_n 3, 1), (42, .invokevirtual 31, 3), (45, .ireturn, 1), (46, .aload_n 1, 1), (47, .getfield 22, 3), (50, .ifCond .ne 50, 3), (53, .aload_n 2, 1), (54, .getfield 22, 3), (57, .ifCond .ne 43, 3), (60, .aload_n 3, 1), (61, .aload_n 1, 1), (62, .getfield 35, 3), (65, .aload_n 2, 1), (66, .getfield 35, 3), (69, .if_icmp .ne 10, 3), (72, .aload_n 1, 1), (73, .getfield 35, 3), (76, .goto 19, 3), (79, .aload_n 0, 1), (80, .getfield 9, 3), (83, .getfield 39, 3), (86, .iconst 1, 1), (87, .if_icmp .ne 7, 3), (90, .iconst 1, 1), (91, .goto 4, 3), (94, .iconst 0, 1), (95, .invokevirtual 44, 3), (98, .iconst 0, 1), (99, .ireturn, 1), (100, .aload_n 2, 1), (101, .getfield 22, 3), (104, .ifCond .ne 14, 3), (107, .aload_n 0, 1), (108, .getfield 18, 3), (111, .aload_n 1, 1), (112, .invokevirtual 48, 3), (115, .goto 30, 3), (118, .aload_n 1, 1), (119, .getfield 22, 3), (122, .ifCond .ne 14, 3), (125, .aload_n 0, 1), (126, .getfield 18, 3), (129, .aload_n 2, 1), (130, .invokevirtual 48, 3), (133, .goto 12, 3), (136, .aload_n 0, 1), (137, .getfield 18, 3), (140, .aload_n 1, 1), (141, .aload_n 2, 1), (142, .invokevirtual 52, 3), (145, .aload_n 0, 1), (146, .getfield 18, 3), (149, .invokevirtual 56, 3), (152, .ifCond .eq 25, 3), (155, .aload_n 3, 1), (156, .aload_n 0, 1), (157, .getfield 9, 3), (160, .getfield 39, 3), (163, .iconst 1, 1), (164, .if_icmp .ne 7, 3), (167, .iconst 1, 1), (168, .goto 4, 3), (171, .iconst 0, 1), (172, .invokevirtual 44, 3), (175, .iconst 0, 1), (176, .ireturn, 1), (177, .aload_n 0, 1), (178, .getfield 9, 3), (181, .aload_n 0, 1), (182, .getfield 18, 3), (185, .aload_n 3, 1), (186, .invokevirtual 60, 3), (189, .ireturn, 1)]
def m_Ar_add : ZM := (⟨"StackReal$Arithmetic", "add", "(LStackReal$Real;LStackReal$Real;LStackReal$Real;)I"⟩, prog_2_method_2_code, 4, some .int, [], 4, 0, [], i_Ar_add)
def i_Re_becomeNan : List (Nat × Instr × Nat) := [(0, .aload_n 0, 1), (1, .iconst 3, 1), (2, .putfield 9, 3), (5, .aload_n 0, 1), (6, .iconst 0, 1), (7, .putfield 15, 3), (10, .aload_n 0, 1), (11, .iconst 0, 1), (12, .putfield 19, 3), (15, .aload_n 0, 1), (16, .lconst 0, 1), (17, .putfield 22, 3), (20, .return_, 1)]
def m_Re_becomeNan : ZM := (⟨"StackReal$Real", "becomeNan", "()V"⟩, prog_6_method_3_code, 1, none, [], 1, 0, [], i_Re_becomeNan)
def i_Ar_addInfinite : List (Nat × Instr × Nat) := [(0, .aload_n 1, 1), (1, .getfield 22, 3), (4, .aload_n 2, 1), (5, .getfield 22, 3), (8, .if_icmp .ne 19, 3), (11, .aload_n 1, 1), (12, .getfield 35, 3), (15, .aload_n 2, 1), (16, .getfield 35, 3), (19, .if_icmp .eq 8, 3), (22, .aload_n 3, 1), (23, .invokestatic 64, 3), (26, .ireturn, 1), (27, .aload_n 3, 1), (28, .aload_n 1, 1), (29, .getfield 22, 3), (32, .iconst 2, 1), (33, .if_icmp .ne 7, 3), (36, .aload_n 1, 1), (37, .goto 4, 3), (40, .aload_n 2, 1), (41, .invokevirtual 68, 3), (44, .iconst 0, 1), (45, .ireturn, 1)]
def m_Ar_addInfinite : ZM := (⟨"StackReal$Arithmetic", "addInfinite", "(LStackReal$Real;LStackReal$Real;LStackReal$Real;)I"⟩, prog_2_method_3_code, 4, some .int, [], 4, 0, [], i_Ar_addInfinite)
def i_Ar_makeInvalid : List (Nat × Instr × Nat) := [(0, .aload_n 0, 1), (1, .invokevirtual 28, 3), (4, .iconst 1, 1), (5, .ireturn, 1)]
def m_Ar_makeInvalid : ZM := (⟨"StackReal$Arithmetic", "makeInvalid", "(LStackReal$Real;)I"⟩, prog_2_method_9_code, 1, some .int, [], 4, 0, [], i_Ar_makeInvalid)
def i_Re_copy : List (Nat × Instr × Nat) := [(0, .aload_n 0, 1), (1, .aload_n 1, 1), (2, .getfield 9, 3), (5, .putfield 9, 3), (8, .aload_n 0, 1), (9, .aload_n 1, 1), (10, .getfield 15, 3), (13, .putfield 15, 3), (16, .aload_n 0, 1), (17, .aload_n 1, 1), (18, .getfield 19, 3), (21, .putfield 19, 3), (24, .aload_n 0, 1), (25, .aload_n 1, 1), (26, .getfield 22, 3), (29, .putfield 22, 3), (32, .return_, 1)]
def m_Re_copy : ZM := (⟨"StackReal$Real", "copy", "(LStackReal$Real;)V"⟩, prog_6_method_2_code, 2, none, [], 1, 0, [], i_Re_copy)
def i_Re_becomeZero : List (Nat × Instr × Nat) := [(0, .aload_n 0, 1), (1, .iconst 0, 1), (2, .putfield 9, 3), (5, .aload_n 0, 1), (6, .iload_n 1, 1), (7, .putfield 15, 3), (10, .aload_n 0, 1), (11, .iconst 0, 1), (12, .putfield 19, 3), (15, .aload_n 0, 1), (16, .lconst 0, 1), (17, .putfield 22, 3), (20, .return_, 1)]
def m_Re_becomeZero : ZM := (⟨"StackReal$Real", "becomeZero", "(Z)V"⟩, prog_6_method_4_code, 2, none, [], 1, 0, [], i_Re_becomeZero)
def i_Ex_copy : List (Nat × Instr × Nat) := [(0, .aload_n 0, 1), (1, .aload_n 1, 1), (2, .getfield 9, 3), (5, .putfield 15, 3), (8, .aload_n 0, 1), (9, .aload_n 1, 1), (10, .getfield 18, 3), (13, .putfield 22, 3), (16, .aload_n 0, 1), (17, .aload_n 1, 1), (18, .getfield 23, 3), (21, .putfield 27, 3), (24, .aload_n 0, 1), (25, .lconst 0, 1), (26, .putfield 30, 3), (29, .return_, 1)]
def m_Ex_copy : ZM := (⟨"StackReal$Exact", "copy", "(LStackReal$Real;)V"⟩, prog_3_method_2_code, 2, none, [], 2, 0, [], i_Ex_copy)
def i_Ex_becomeSum : List (Nat × Instr × Nat) := [(0, .aload_n 1, 1), (1, .aload_n 2, 1), (2, .invokestatic 33, 3), (5, .ifCond .lt 12, 3), (8, .aload_n 0, 1), (9, .aload_n 1, 1), (10, .aload_n 2, 1), (11, .invokevirtual 37, 3), (14, .goto 9, 3), (17, .aload_n 0, 1), (18, .aload_n 2, 1), (19, .aload_n 1, 1), (20, .invokevirtual 37, 3), (23, .return_, 1)]
def m_Ex_becomeSum : ZM := (⟨"StackReal$Exact", "becomeSum", "(LStackReal$Real;LStackReal$Real;)V"⟩, prog_3_method_4_code, 3, none, [], 2, 0, [], i_Ex_becomeSum)
def i_SR_compareMagnitudes : List (Nat × Instr × Nat) := [(0, .aload_n 0, 1), (1, .getfield 174, 3), (4, .aload_n 1, 1), (5, .getfield 174, 3), (8, .if_icmp .eq 20, 3), (11, .aload_n 0, 1), (12, .getfield 174, 3), (15, .aload_n 1, 1), (16, .getfield 174, 3), (19, .if_icmp .ge 7, 3), (22, .iconst (-1), 1), (23, .goto 4, 3), (26, .iconst 1, 1), (27, .ireturn, 1), (28, .aload_n 0, 1), (29, .getfield 177, 3), (32, .aload_n 1, 1), (33, .getfield 177, 3), (36, .if_icmp .eq 20, 3), (39, .aload_n 0, 1), (40, .getfield 177, 3), (43, .aload_n 1, 1), (44, .getfield 177, 3), (47, .if_icmp .ge 7, 3), (50, .iconst (-1), 1), (51, .goto 4, 3), (54, .iconst 1, 1), (55, .ireturn, 1), (56, .aload_n 0, 1), (57, .getfield 180, 3), (60, .aload_n 1, 1), (61, .getfield 180, 3), (64, .lcmp, 1), (65, .ifCond .ne 5, 3), (68, .iconst 0, 1), (69, .ireturn, 1), (70, .aload_n 0, 1), (71, .getfield 180, 3), (74, .aload_n 1, 1), (75, .getfield 180, 3), (78, .invokestatic 247, 3), (81, .ifCond .eq 7, 3), (84, .iconst (-1), 1), (85, .goto 4, 3), (88, .iconst 1, 1), (89, .ireturn, 1)]
def m_SR_compareMagnitudes : ZM := (⟨"StackReal", "compareMagnitudes", "(LStackReal$Real;LStackReal$Real;)I"⟩, prog_1_method_33_code, 2, some .int, [], 0, 0, [], i_SR_compareMagnitudes)
def i_SR_isBelow : List (Nat × Instr × Nat) := [(0, .lload_n 0, 1), (1, .ldc2_w 251, 3), (4, .lxor, 1), (5, .lload_n 2, 1), (6, .ldc2_w 251, 3), (9, .lxor, 1), (10, .lcmp, 1), (11, .ifCond .ge 7, 3), (14, .iconst 1, 1), (15, .goto 4, 3), (18, .iconst 0, 1), (19, .ireturn, 1)]
def m_SR_isBelow : ZM := (⟨"StackReal", "isBelow", "(JJ)Z"⟩, prog_1_method_34_code, 4, some .boolean, [], 0, 0, [], i_SR_isBelow)
def i_Ex_combine : List (Nat × Instr × Nat) := [(0, .aload_n 0, 1), (1, .aload_n 1, 1), (2, .invokevirtual 41, 3), (5, .aload_n 1, 1), (6, .getfield 18, 3), (9, .aload_n 2, 1), (10, .getfield 18, 3), (13, .isub, 1), (14, .istore_n 3, 1), (15, .iload_n 3, 1), (16, .bipush 64, 2), (18, .if_icmp .ge 12, 3), (21, .aload_n 2, 1), (22, .getfield 23, 3), (25, .iload_n 3, 1), (26, .lushr, 1), (27, .goto 4, 3), (30, .lconst 0, 1), (31, .lstore 4, 2), (33, .aload_n 2, 1), (34, .getfield 23, 3), (37, .iload_n 3, 1), (38, .invokestatic 45, 3), (41, .lstore 6, 2), (43, .aload_n 1, 1), (44, .getfield 9, 3), (47, .aload_n 2, 1), (48, .getfield 9, 3), (51, .if_icmp .ne 14, 3), (54, .aload_n 0, 1), (55, .lload 4, 2), (57, .lload 6, 2), (59, .invokevirtual 49, 3), (62, .goto 11, 3), (65, .aload_n 0, 1), (66, .lload 4, 2), (68, .lload 6, 2), (70, .invokevirtual 53, 3), (73, .return_, 1)]
def m_Ex_combine : ZM := (⟨"StackReal$Exact", "combine", "(LStackReal$Real;LStackReal$Real;)V"⟩, prog_3_method_5_code, 8, none, [], 2, 0, [], i_Ex_combine)
def i_Ex_lowerPart : List (Nat × Instr × Nat) := [(0, .iload_n 2, 1), (1, .ifCond .ne 5, 3), (4, .lconst 0, 1), (5, .lreturn, 1), (6, .iload_n 2, 1), (7, .bipush 64, 2), (9, .if_icmp .gt 10, 3), (12, .lload_n 0, 1), (13, .bipush 64, 2), (15, .iload_n 2, 1), (16, .isub, 1), (17, .lshl, 1), (18, .lreturn, 1), (19, .iload_n 2, 1), (20, .sipush 128, 3), (23, .if_icmp .lt 5, 3), (26, .lconst 1, 1), (27, .lreturn, 1), (28, .lload_n 0, 1), (29, .sipush 128, 3), (32, .iload_n 2, 1), (33, .isub, 1), (34, .lshl, 1), (35, .lstore_n 3, 1), (36, .lload_n 0, 1), (37, .iload_n 2, 1), (38, .bipush 64, 2), (40, .isub, 1), (41, .lushr, 1), (42, .lload_n 3, 1), (43, .lconst 0, 1), (44, .lcmp, 1), (45, .ifCond .eq 7, 3), (48, .iconst 1, 1), (49, .goto 4, 3), (52, .iconst 0, 1), (53, .i2l, 1), (54, .lor, 1), (55, .lreturn, 1)]
def m_Ex_lowerPart : ZM := (⟨"StackReal$Exact", "lowerPart", "(JI)J"⟩, prog_3_method_6_code, 5, some .long, [], 2, 0, [], i_Ex_lowerPart)
def i_Ex_putOn : List (Nat × Instr × Nat) := [(0, .aload_n 0, 1), (1, .getfield 27, 3), (4, .lload_n 1, 1), (5, .ladd, 1), (6, .lstore 5, 2), (8, .aload_n 0, 1), (9, .lload_n 3, 1), (10, .putfield 30, 3), (13, .lload 5, 2), (15, .aload_n 0, 1), (16, .getfield 27, 3), (19, .invokestatic 56, 3), (22, .ifCond .eq 36, 3), (25, .aload_n 0, 1), (26, .lload 5, 2), (28, .bipush 63, 2), (30, .lshl, 1), (31, .lload_n 3, 1), (32, .iconst 1, 1), (33, .lushr, 1), (34, .lor, 1), (35, .putfield 30, 3), (38, .lload 5, 2), (40, .iconst 1, 1), (41, .lushr, 1), (42, .ldc2_w 60, 3), (45, .lor, 1), (46, .lstore 5, 2), (48, .aload_n 0, 1), (49, .dup, 1), (50, .getfield 22, 3), (53, .iconst 1, 1), (54, .iadd, 1), (55, .putfield 22, 3), (58, .aload_n 0, 1), (59, .lload 5, 2), (61, .putfield 27, 3), (64, .return_, 1)]
def m_Ex_putOn : ZM := (⟨"StackReal$Exact", "putOn", "(JJ)V"⟩, prog_3_method_7_code, 7, none, [], 2, 0, [], i_Ex_putOn)
def i_Ex_takeAway : List (Nat × Instr × Nat) := [(0, .aload_n 0, 1), (1, .aload_n 0, 1), (2, .getfield 27, 3), (5, .lload_n 1, 1), (6, .lsub, 1), (7, .lload_n 3, 1), (8, .lconst 0, 1), (9, .lcmp, 1), (10, .ifCond .eq 7, 3), (13, .iconst 1, 1), (14, .goto 4, 3), (17, .iconst 0, 1), (18, .i2l, 1), (19, .lsub, 1), (20, .putfield 27, 3), (23, .aload_n 0, 1), (24, .lload_n 3, 1), (25, .lneg, 1), (26, .putfield 30, 3), (29, .aload_n 0, 1), (30, .invokevirtual 62, 3), (33, .return_, 1)]
def m_Ex_takeAway : ZM := (⟨"StackReal$Exact", "takeAway", "(JJ)V"⟩, prog_3_method_8_code, 5, none, [], 2, 0, [], i_Ex_takeAway)
def i_Ex_normalize : List (Nat × Instr × Nat) := [(0, .aload_n 0, 1), (1, .getfield 27, 3), (4, .lconst 0, 1), (5, .lcmp, 1), (6, .ifCond .ne 27, 3), (9, .aload_n 0, 1), (10, .aload_n 0, 1), (11, .getfield 30, 3), (14, .putfield 27, 3), (17, .aload_n 0, 1), (18, .lconst 0, 1), (19, .putfield 30, 3), (22, .aload_n 0, 1), (23, .dup, 1), (24, .getfield 22, 3), (27, .bipush 64, 2), (29, .isub, 1), (30, .putfield 22, 3), (33, .iconst 0, 1), (34, .istore_n 1, 1), (35, .iload_n 1, 1), (36, .bipush 63, 2), (38, .if_icmp .ge 56, 3), (41, .aload_n 0, 1), (42, .getfield 27, 3), (45, .lconst 0, 1), (46, .lcmp, 1), (47, .ifCond .le 47, 3), (50, .aload_n 0, 1), (51, .aload_n 0, 1), (52, .getfield 27, 3), (55, .iconst 1, 1), (56, .lshl, 1), (57, .aload_n 0, 1), (58, .getfield 30, 3), (61, .bipush 63, 2), (63, .lushr, 1), (64, .lor, 1), (65, .putfield 27, 3), (68, .aload_n 0, 1), (69, .dup, 1), (70, .getfield 30, 3), (73, .iconst 1, 1), (74, .lshl, 1), (75, .putfield 30, 3), (78, .aload_n 0, 1), (79, .dup, 1), (80, .getfield 22, 3), (83, .iconst 1, 1), (84, .isub, 1), (85, .putfield 22, 3), (88, .iinc 1 1, 3), (91, .goto (-56), 3), (94, .return_, 1)]
def m_Ex_normalize : ZM := (⟨"StackReal$Exact", "normalize", "()V"⟩, prog_3_method_9_code, 2, none, [], 2, 0, [], i_Ex_normalize)
def i_Ex_isZero : List (Nat × Instr × Nat) := [(0, .aload_n 0, 1), (1, .getfield 27, 3), (4, .lconst 0, 1), (5, .lcmp, 1), (6, .ifCond .ne 16, 3), (9, .aload_n 0, 1), (10, .getfield 30, 3), (13, .lconst 0, 1), (14, .lcmp, 1), (15, .ifCond .ne 7, 3), (18, .iconst 1, 1), (19, .goto 4, 3), (22, .iconst 0, 1), (23, .ireturn, 1)]
def m_Ex_isZero : ZM := (⟨"StackReal$Exact", "isZero", "()Z"⟩, prog_3_method_3_code, 1, some .boolean, [], 2, 0, [], i_Ex_isZero)
def i_Ro_round : List (Nat × Instr × Nat) := [(0, .aload_n 0, 1), (1, .aload_n 1, 1), (2, .aload_n 0, 1), (3, .getfield 9, 3), (6, .sipush (-16382), 3), (9, .sipush 16383, 3), (12, .aload_n 2, 1), (13, .invokevirtual 18, 3), (16, .ireturn, 1)]
def m_Ro_round : ZM := (⟨"StackReal$Rounding", "round", "(LStackReal$Exact;LStackReal$Real;)I"⟩, prog_7_method_2_code, 3, some .int, [], 3, 0, [], i_Ro_round)
def i_Ro_roundTo : List (Nat × Instr × Nat) := [(0, .lconst 1, 1), (1, .bipush 64, 2), (3, .iload_n 2, 1), (4, .isub, 1), (5, .lshl, 1), (6, .lstore 6, 2), (8, .iload_n 2, 1), (9, .bipush 64, 2), (11, .if_icmp .ne 10, 3), (14, .aload_n 1, 1), (15, .getfield 22, 3), (18, .goto 9, 3), (21, .aload_n 1, 1), (22, .getfield 28, 3), (25, .iload_n 2, 1), (26, .lshl, 1), (27, .lstore 8, 2), (29, .lload 8, 2), (31, .lconst 0, 1), (32, .lcmp, 1), (33, .ifCond .ge 7, 3), (36, .iconst 1, 1), (37, .goto 4, 3), (40, .iconst 0, 1), (41, .istore 10, 2), (43, .lload 8, 2), (45, .iconst 1, 1), (46, .lshl, 1), (47, .lconst 0, 1), (48, .lcmp, 1), (49, .ifCond .ne 18, 3), (52, .iload_n 2, 1), (53, .bipush 64, 2), (55, .if_icmp .ge 16, 3), (58, .aload_n 1, 1), (59, .getfield 22, 3), (62, .lconst 0, 1), (63, .lcmp, 1), (64, .ifCond .eq 7, 3), (67, .iconst 1, 1), (68, .goto 4, 3), (71, .iconst 0, 1), (72, .istore 11, 2), (74, .aload_n 1, 1), (75, .getfield 28, 3), (78, .lload 6, 2), (80, .lneg, 1), (81, .land, 1), (82, .lstore 12, 2), (84, .aload_n 1, 1), (85, .getfield 31, 3), (88, .istore 14, 2), (90, .aload_n 0, 1), (91, .aload_n 1, 1), (92, .getfield 34, 3), (95, .lload 12, 2), (97, .lload 6, 2), (99, .land, 1), (100, .lconst 0, 1), (101, .lcmp, 1), (102, .ifCond .eq 7, 3), (105, .iconst 1, 1), (106, .goto 4, 3), (109, .iconst 0, 1), (110, .iload 10, 2), (112, .iload 11, 2), (114, .invokevirtual 38, 3), (117, .ifCond .eq 25, 3), (120, .lload 12, 2), (122, .lload 6, 2), (124, .ladd, 1), (125, .lstore 12, 2), (127, .lload 12, 2), (129, .lconst 0, 1), (130, .lcmp, 1), (131, .ifCond .ne 11, 3), (134, .ldc2_w 42, 3), (137, .lstore 12, 2), (139, .iinc 14 1, 3), (142, .iload 14, 2), (144, .iload 4, 2), (146, .if_icmp .le 43, 3), (149, .aload_n 0, 1), (150, .aload_n 1, 1), (151, .getfield 34, 3), (154, .invokevirtual 44, 3), (157, .ifCond .eq 20, 3), (160, .aload 5, 2), (162, .aload_n 1, 1), (163, .getfield 34, 3), (166, .iload 4, 2), (168, .lload 6, 2), (170, .lneg, 1), (171, .invokevirtual 48, 3), (174, .goto 12, 3), (177, .aload 5, 2), (179, .aload_n 1, 1), (180, .getfield 34, 3), (183, .invokevirtual 54, 3), (186, .bipush 20, 2), (188, .ireturn, 1), (189, .iload 14, 2), (191, .iload_n 3, 1), (192, .if_icmp .ge 15, 3), (195, .aload 5, 2), (197, .aload_n 1, 1), (198, .getfield 34, 3), (201, .invokevirtual 58, 3), (204, .bipush 24, 2), (206, .ireturn, 1), (207, .aload 5, 2), (209, .aload_n 1, 1), (210, .getfield 34, 3), (213, .iload 14, 2), (215, .lload 12, 2), (217, .invokevirtual 48, 3), (220, .iload 10, 2), (222, .ifCond .ne 8, 3), (225, .iload 11, 2), (227, .ifCond .eq 8, 3), (230, .bipush 16, 2), (232, .goto 4, 3), (235, .iconst 0, 1), (236, .ireturn, 1)]
def m_Ro_roundTo : ZM := (⟨"StackReal$Rounding", "roundTo", "(LStackReal$Exact;IIILStackReal$Real;)I"⟩, prog_7_method_3_code, 15, some .int, [], 3, 0, [], i_Ro_roundTo)
def i_Ro_goesAway : List (Nat × Instr × Nat) := [(0, .aload_n 0, 1), (1, .getfield 15, 3), (4, .ifCond .ne 22, 3), (7, .iload_n 3, 1), (8, .ifCond .eq 16, 3), (11, .iload 4, 2), (13, .ifCond .ne 7, 3), (16, .iload_n 2, 1), (17, .ifCond .eq 7, 3), (20, .iconst 1, 1), (21, .goto 4, 3), (24, .iconst 0, 1), (25, .ireturn, 1), (26, .iload_n 1, 1), (27, .ifCond .eq 19, 3), (30, .aload_n 0, 1), (31, .getfield 15, 3), (34, .iconst 1, 1), (35, .if_icmp .ne 7, 3), (38, .iconst 1, 1), (39, .goto 20, 3), (42, .iconst 0, 1), (43, .goto 16, 3), (46, .aload_n 0, 1), (47, .getfield 15, 3), (50, .iconst 2, 1), (51, .if_icmp .ne 7, 3), (54, .iconst 1, 1), (55, .goto 4, 3), (58, .iconst 0, 1), (59, .istore 5, 2), (61, .iload 5, 2), (63, .ifCond .eq 16, 3), (66, .iload_n 3, 1), (67, .ifCond .ne 8, 3), (70, .iload 4, 2), (72, .ifCond .eq 7, 3), (75, .iconst 1, 1), (76, .goto 4, 3), (79, .iconst 0, 1), (80, .ireturn, 1)]
def m_Ro_goesAway : ZM := (⟨"StackReal$Rounding", "goesAway", "(ZZZZ)Z"⟩, prog_7_method_4_code, 6, some .boolean, [], 3, 0, [], i_Ro_goesAway)
def i_Ro_staysBelowInfinite : List (Nat × Instr × Nat) := [(0, .aload_n 0, 1), (1, .getfield 15, 3), (4, .iconst 3, 1), (5, .if_icmp .eq 19, 3), (8, .aload_n 0, 1), (9, .getfield 15, 3), (12, .iload_n 1, 1), (13, .ifCond .eq 7, 3), (16, .iconst 2, 1), (17, .goto 4, 3), (20, .iconst 1, 1), (21, .if_icmp .ne 7, 3), (24, .iconst 1, 1), (25, .goto 4, 3), (28, .iconst 0, 1), (29, .ireturn, 1)]
def m_Ro_staysBelowInfinite : ZM := (⟨"StackReal$Rounding", "staysBelowInfinite", "(Z)Z"⟩, prog_7_method_5_code, 2, some .boolean, [], 3, 0, [], i_Ro_staysBelowInfinite)
def i_Re_becomeFinite : List (Nat × Instr × Nat) := [(0, .aload_n 0, 1), (1, .iconst 1, 1), (2, .putfield 9, 3), (5, .aload_n 0, 1), (6, .iload_n 1, 1), (7, .putfield 15, 3), (10, .aload_n 0, 1), (11, .iload_n 2, 1), (12, .putfield 19, 3), (15, .aload_n 0, 1), (16, .lload_n 3, 1), (17, .putfield 22, 3), (20, .return_, 1)]
def m_Re_becomeFinite : ZM := (⟨"StackReal$Real", "becomeFinite", "(ZIJ)V"⟩, prog_6_method_6_code, 5, none, [], 1, 0, [], i_Re_becomeFinite)
def i_Re_becomeInfinite : List (Nat × Instr × Nat) := [(0, .aload_n 0, 1), (1, .iconst 2, 1), (2, .putfield 9, 3), (5, .aload_n 0, 1), (6, .iload_n 1, 1), (7, .putfield 15, 3), (10, .aload_n 0, 1), (11, .iconst 0, 1), (12, .putfield 19, 3), (15, .aload_n 0, 1), (16, .lconst 0, 1), (17, .putfield 22, 3), (20, .return_, 1)]
def m_Re_becomeInfinite : ZM := (⟨"StackReal$Real", "becomeInfinite", "(Z)V"⟩, prog_6_method_5_code, 2, none, [], 1, 0, [], i_Re_becomeInfinite)
def i_Re_negate : List (Nat × Instr × Nat) := [(0, .aload_n 0, 1), (1, .aload_n 0, 1), (2, .getfield 9, 3), (5, .iconst 3, 1), (6, .if_icmp .eq 14, 3), (9, .aload_n 0, 1), (10, .getfield 15, 3), (13, .ifCond .ne 7, 3), (16, .iconst 1, 1), (17, .goto 4, 3), (20, .iconst 0, 1), (21, .putfield 15, 3), (24, .return_, 1)]
def m_Re_negate : ZM := (⟨"StackReal$Real", "negate", "()V"⟩, prog_6_method_8_code, 1, none, [], 1, 0, [], i_Re_negate)
def i_Ar_multiply : List (Nat × Instr × Nat) := [(0, .aload_n 1, 1), (1, .getfield 35, 3), (4, .aload_n 2, 1), (5, .getfield 35, 3), (8, .if_icmp .eq 7, 3), (11, .iconst 1, 1), (12, .goto 4, 3), (15, .iconst 0, 1), (16, .istore 4, 2), (18, .aload_n 1, 1), (19, .getfield 22, 3), (22, .iconst 3, 1), (23, .if_icmp .eq 11, 3), (26, .aload_n 2, 1), (27, .getfield 22, 3), (30, .iconst 3, 1), (31, .if_icmp .ne 9, 3), (34, .aload_n 3, 1), (35, .invokevirtual 28, 3), (38, .iconst 0, 1), (39, .ireturn, 1), (40, .aload_n 1, 1), (41, .getfield 22, 3), (44, .iconst 2, 1), (45, .if_icmp .eq 11, 3), (48, .aload_n 2, 1), (49, .getfield 22, 3), (52, .iconst 2, 1), (53, .if_icmp .ne 30, 3), (56, .aload_n 1, 1), (57, .getfield 22, 3), (60, .ifCond .eq 10, 3), (63, .aload_n 2, 1), (64, .getfield 22, 3), (67, .ifCond .ne 8, 3), (70, .aload_n 3, 1), (71, .invokestatic 64, 3), (74, .ireturn, 1), (75, .aload_n 3, 1), (76, .iload 4, 2), (78, .invokevirtual 69, 3), (81, .iconst 0, 1), (82, .ireturn, 1), (83, .aload_n 1, 1), (84, .getfield 22, 3), (87, .ifCond .eq 10, 3), (90, .aload_n 2, 1), (91, .getfield 22, 3), (94, .ifCond .ne 11, 3), (97, .aload_n 3, 1), (98, .iload 4, 2), (100, .invokevirtual 44, 3), (103, .iconst 0, 1), (104, .ireturn, 1), (105, .aload_n 0, 1), (106, .getfield 18, 3), (109, .aload_n 1, 1), (110, .aload_n 2, 1), (111, .invokevirtual 72, 3), (114, .aload_n 0, 1), (115, .getfield 9, 3), (118, .aload_n 0, 1), (119, .getfield 18, 3), (122, .aload_n 3, 1), (123, .invokevirtual 60, 3), (126, .ireturn, 1)]
def m_Ar_multiply : ZM := (⟨"StackReal$Arithmetic", "multiply", "(LStackReal$Real;LStackReal$Real;LStackReal$Real;)I"⟩, prog_2_method_4_code, 5, some .int, [], 4, 0, [], i_Ar_multiply)
def i_Ex_becomeProduct : List (Nat × Instr × Nat) := [(0, .aload_n 0, 1), (1, .aload_n 1, 1), (2, .getfield 9, 3), (5, .aload_n 2, 1), (6, .getfield 9, 3), (9, .if_icmp .eq 7, 3), (12, .iconst 1, 1), (13, .goto 4, 3), (16, .iconst 0, 1), (17, .putfield 15, 3), (20, .aload_n 0, 1), (21, .aload_n 1, 1), (22, .getfield 18, 3), (25, .aload_n 2, 1), (26, .getfield 18, 3), (29, .iadd, 1), (30, .iconst 1, 1), (31, .iadd, 1), (32, .putfield 22, 3), (35, .aload_n 0, 1), (36, .aload_n 1, 1), (37, .getfield 23, 3), (40, .aload_n 2, 1), (41, .getfield 23, 3), (44, .invokevirtual 65, 3), (47, .aload_n 0, 1), (48, .invokevirtual 62, 3), (51, .return_, 1)]
def m_Ex_becomeProduct : ZM := (⟨"StackReal$Exact", "becomeProduct", "(LStackReal$Real;LStackReal$Real;)V"⟩, prog_3_method_10_code, 3, none, [], 2, 0, [], i_Ex_becomeProduct)
def i_Ex_multiplyBits : List (Nat × Instr × Nat) := [(0, .lload_n 1, 1), (1, .bipush 32, 2), (3, .lushr, 1), (4, .lstore 5, 2), (6, .lload_n 1, 1), (7, .ldc2_w 68, 3), (10, .land, 1), (11, .lstore 7, 2), (13, .lload_n 3, 1), (14, .bipush 32, 2), (16, .lushr, 1), (17, .lstore 9, 2), (19, .lload_n 3, 1), (20, .ldc2_w 68, 3), (23, .land, 1), (24, .lstore 11, 2), (26, .lload 5, 2), (28, .lload 11, 2), (30, .lmul, 1), (31, .lload 7, 2), (33, .lload 11, 2), (35, .lmul, 1), (36, .bipush 32, 2), (38, .lushr, 1), (39, .ladd, 1), (40, .lstore 13, 2), (42, .lload 7, 2), (44, .lload 9, 2), (46, .lmul, 1), (47, .lload 13, 2), (49, .ldc2_w 68, 3), (52, .land, 1), (53, .ladd, 1), (54, .lstore 15, 2), (56, .aload_n 0, 1), (57, .lload 5, 2), (59, .lload 9, 2), (61, .lmul, 1), (62, .lload 13, 2), (64, .bipush 32, 2), (66, .lushr, 1), (67, .ladd, 1), (68, .lload 15, 2), (70, .bipush 32, 2), (72, .lushr, 1), (73, .ladd, 1), (74, .putfield 27, 3), (77, .aload_n 0, 1), (78, .lload_n 1, 1), (79, .lload_n 3, 1), (80, .lmul, 1), (81, .putfield 30, 3), (84, .return_, 1)]
def m_Ex_multiplyBits : ZM := (⟨"StackReal$Exact", "multiplyBits", "(JJ)V"⟩, prog_3_method_11_code, 17, none, [], 2, 0, [], i_Ex_multiplyBits)
def i_Ar_divide : List (Nat × Instr × Nat) := [(0, .aload_n 1, 1), (1, .getfield 35, 3), (4, .aload_n 2, 1), (5, .getfield 35, 3), (8, .if_icmp .eq 7, 3), (11, .iconst 1, 1), (12, .goto 4, 3), (15, .iconst 0, 1), (16, .istore 4, 2), (18, .aload_n 1, 1), (19, .getfield 22, 3), (22, .iconst 3, 1), (23, .if_icmp .eq 11, 3), (26, .aload_n 2, 1), (27, .getfield 22, 3), (30, .iconst 3, 1), (31, .if_icmp .ne 9, 3), (34, .aload_n 3, 1), (35, .invokevirtual 28, 3), (38, .iconst 0, 1), (39, .ireturn, 1), (40, .aload_n 1, 1), (41, .getfield 22, 3), (44, .aload_n 2, 1), (45, .getfield 22, 3), (48, .if_icmp .ne 16, 3), (51, .aload_n 1, 1), (52, .getfield 22, 3), (55, .iconst 1, 1), (56, .if_icmp .eq 8, 3), (59, .aload_n 3, 1), (60, .invokestatic 64, 3), (63, .ireturn, 1), (64, .aload_n 1, 1), (65, .getfield 22, 3), (68, .iconst 2, 1), (69, .if_icmp .ne 11, 3), (72, .aload_n 3, 1), (73, .iload 4, 2), (75, .invokevirtual 69, 3), (78, .iconst 0, 1), (79, .ireturn, 1), (80, .aload_n 2, 1), (81, .getfield 22, 3), (84, .iconst 2, 1), (85, .if_icmp .eq 10, 3), (88, .aload_n 1, 1), (89, .getfield 22, 3), (92, .ifCond .ne 11, 3), (95, .aload_n 3, 1), (96, .iload 4, 2), (98, .invokevirtual 44, 3), (101, .iconst 0, 1), (102, .ireturn, 1), (103, .aload_n 2, 1), (104, .getfield 22, 3), (107, .ifCond .ne 11, 3), (110, .aload_n 3, 1), (111, .iload 4, 2), (113, .invokevirtual 69, 3), (116, .iconst 2, 1), (117, .ireturn, 1), (118, .aload_n 0, 1), (119, .getfield 18, 3), (122, .aload_n 1, 1), (123, .aload_n 2, 1), (124, .invokevirtual 75, 3), (127, .aload_n 0, 1), (128, .getfield 9, 3), (131, .aload_n 0, 1), (132, .getfield 18, 3), (135, .aload_n 3, 1), (136, .invokevirtual 60, 3), (139, .ireturn, 1)]
def m_Ar_divide : ZM := (⟨"StackReal$Arithmetic", "divide", "(LStackReal$Real;LStackReal$Real;LStackReal$Real;)I"⟩, prog_2_method_5_code, 5, some .int, [], 4, 0, [], i_Ar_divide)
def i_Ex_becomeQuotient : List (Nat × Instr × Nat) := [(0, .aload_n 0, 1), (1, .aload_n 1, 1), (2, .getfield 9, 3), (5, .aload_n 2, 1), (6, .getfield 9, 3), (9, .if_icmp .eq 7, 3), (12, .iconst 1, 1), (13, .goto 4, 3), (16, .iconst 0, 1), (17, .putfield 15, 3), (20, .aload_n 0, 1), (21, .aload_n 1, 1), (22, .getfield 18, 3), (25, .aload_n 2, 1), (26, .getfield 18, 3), (29, .isub, 1), (30, .putfield 22, 3), (33, .aload_n 2, 1), (34, .getfield 23, 3), (37, .lstore_n 3, 1), (38, .aload_n 1, 1), (39, .getfield 23, 3), (42, .lstore 5, 2), (44, .bipush 63, 2), (46, .istore 7, 2), (48, .aload_n 0, 1), (49, .lconst 1, 1), (50, .putfield 27, 3), (53, .lload 5, 2), (55, .lload_n 3, 1), (56, .invokestatic 56, 3), (59, .ifCond .eq 25, 3), (62, .aload_n 0, 1), (63, .dup, 1), (64, .getfield 22, 3), (67, .iconst 1, 1), (68, .isub, 1), (69, .putfield 22, 3), (72, .bipush 64, 2), (74, .istore 7, 2), (76, .aload_n 0, 1), (77, .lconst 0, 1), (78, .putfield 27, 3), (81, .goto 9, 3), (84, .lload 5, 2), (86, .lload_n 3, 1), (87, .lsub, 1), (88, .lstore 5, 2), (90, .iconst 0, 1), (91, .istore 8, 2), (93, .iload 8, 2), (95, .iload 7, 2), (97, .if_icmp .ge 59, 3), (100, .lload_n 3, 1), (101, .lload 5, 2), (103, .invokestatic 70, 3), (106, .istore 9, 2), (108, .iload 9, 2), (110, .ifCond .eq 12, 3), (113, .lload 5, 2), (115, .iconst 1, 1), (116, .lshl, 1), (117, .lload_n 3, 1), (118, .lsub, 1), (119, .goto 7, 3), (122, .lload 5, 2), (124, .iconst 1, 1), (125, .lshl, 1), (126, .lstore 5, 2), (128, .aload_n 0, 1), (129, .aload_n 0, 1), (130, .getfield 27, 3), (133, .iconst 1, 1), (134, .lshl, 1), (135, .iload 9, 2), (137, .ifCond .eq 7, 3), (140, .iconst 1, 1), (141, .goto 4, 3), (144, .iconst 0, 1), (145, .i2l, 1), (146, .lor, 1), (147, .putfield 27, 3), (150, .iinc 8 1, 3), (153, .goto (-60), 3), (156, .lload_n 3, 1), (157, .lload 5, 2), (159, .invokestatic 70, 3), (162, .istore 8, 2), (164, .iload 8, 2), (166, .ifCond .eq 12, 3), (169, .lload 5, 2), (171, .iconst 1, 1), (172, .lshl, 1), (173, .lload_n 3, 1), (174, .lsub, 1), (175, .goto 5, 3), (178, .lload 5, 2), (180, .lstore 9, 2), (182, .aload_n 0, 1), (183, .iload 8, 2), (185, .ifCond .eq 9, 3), (188, .ldc2_w 60, 3), (191, .goto 4, 3), (194, .lconst 0, 1), (195, .lload 9, 2), (197, .lconst 0, 1), (198, .lcmp, 1), (199, .ifCond .eq 7, 3), (202, .iconst 1, 1), (203, .goto 4, 3), (206, .iconst 0, 1), (207, .i2l, 1), (208, .lor, 1), (209, .putfield 30, 3), (212, .return_, 1)]
def m_Ex_becomeQuotient : ZM := (⟨"StackReal$Exact", "becomeQuotient", "(LStackReal$Real;LStackReal$Real;)V"⟩, prog_3_method_12_code, 11, none, [], 2, 0, [], i_Ex_becomeQuotient)
def i_Ex_fitsInDouble : List (Nat × Instr × Nat) := [(0, .lload_n 2, 1), (1, .lconst 0, 1), (2, .lcmp, 1), (3, .ifCond .lt 13, 3), (6, .lload_n 2, 1), (7, .iconst 1, 1), (8, .lshl, 1), (9, .lload_n 0, 1), (10, .invokestatic 56, 3), (13, .ifCond .ne 7, 3), (16, .iconst 1, 1), (17, .goto 4, 3), (20, .iconst 0, 1), (21, .ireturn, 1)]
def m_Ex_fitsInDouble : ZM := (⟨"StackReal$Exact", "fitsInDouble", "(JJ)Z"⟩, prog_3_method_13_code, 4, some .boolean, [], 2, 0, [], i_Ex_fitsInDouble)
def i_Ar_root : List (Nat × Instr × Nat) := [(0, .aload_n 1, 1), (1, .getfield 22, 3), (4, .ifCond .eq 11, 3), (7, .aload_n 1, 1), (8, .getfield 22, 3), (11, .iconst 3, 1), (12, .if_icmp .ne 10, 3), (15, .aload_n 2, 1), (16, .aload_n 1, 1), (17, .invokevirtual 68, 3), (20, .iconst 0, 1), (21, .ireturn, 1), (22, .aload_n 1, 1), (23, .getfield 35, 3), (26, .ifCond .eq 8, 3), (29, .aload_n 2, 1), (30, .invokestatic 64, 3), (33, .ireturn, 1), (34, .aload_n 1, 1), (35, .getfield 22, 3), (38, .iconst 2, 1), (39, .if_icmp .ne 10, 3), (42, .aload_n 2, 1), (43, .aload_n 1, 1), (44, .invokevirtual 68, 3), (47, .iconst 0, 1), (48, .ireturn, 1), (49, .aload_n 0, 1), (50, .getfield 18, 3), (53, .aload_n 1, 1), (54, .invokevirtual 78, 3), (57, .aload_n 0, 1), (58, .getfield 9, 3), (61, .aload_n 0, 1), (62, .getfield 18, 3), (65, .aload_n 2, 1), (66, .invokevirtual 60, 3), (69, .ireturn, 1)]
def m_Ar_root : ZM := (⟨"StackReal$Arithmetic", "root", "(LStackReal$Real;LStackReal$Real;)I"⟩, prog_2_method_6_code, 3, some .int, [], 4, 0, [], i_Ar_root)
def i_Ex_becomeRoot : List (Nat × Instr × Nat) := [(0, .aload_n 1, 1), (1, .getfield 18, 3), (4, .iconst 1, 1), (5, .iand, 1), (6, .ifCond .eq 7, 3), (9, .iconst 1, 1), (10, .goto 4, 3), (13, .iconst 0, 1), (14, .istore_n 2, 1), (15, .iload_n 2, 1), (16, .ifCond .eq 10, 3), (19, .aload_n 1, 1), (20, .getfield 23, 3), (23, .goto 9, 3), (26, .aload_n 1, 1), (27, .getfield 23, 3), (30, .iconst 1, 1), (31, .lushr, 1), (32, .lstore_n 3, 1), (33, .iload_n 2, 1), (34, .ifCond .eq 7, 3), (37, .lconst 0, 1), (38, .goto 10, 3), (41, .aload_n 1, 1), (42, .getfield 23, 3), (45, .bipush 63, 2), (47, .lshl, 1), (48, .lstore 5, 2), (50, .lconst 0, 1), (51, .lstore 7, 2), (53, .bipush 63, 2), (55, .istore 9, 2), (57, .iload 9, 2), (59, .ifCond .lt 40, 3), (62, .lload 7, 2), (64, .lconst 1, 1), (65, .iload 9, 2), (67, .lshl, 1), (68, .lor, 1), (69, .lstore 10, 2), (71, .aload_n 0, 1), (72, .lload 10, 2), (74, .lload 10, 2), (76, .invokevirtual 65, 3), (79, .aload_n 0, 1), (80, .lload_n 3, 1), (81, .lload 5, 2), (83, .invokevirtual 73, 3), (86, .ifCond .ne 7, 3), (89, .lload 10, 2), (91, .lstore 7, 2), (93, .iinc 9 (-1), 3), (96, .goto (-39), 3), (99, .aload_n 0, 1), (100, .lload 7, 2), (102, .lload 7, 2), (104, .invokevirtual 65, 3), (107, .lload 5, 2), (109, .aload_n 0, 1), (110, .getfield 30, 3), (113, .lsub, 1), (114, .lstore 9, 2), (116, .lload_n 3, 1), (117, .aload_n 0, 1), (118, .getfield 27, 3), (121, .lsub, 1), (122, .lload 5, 2), (124, .aload_n 0, 1), (125, .getfield 30, 3), (128, .invokestatic 56, 3), (131, .ifCond .eq 7, 3), (134, .iconst 1, 1), (135, .goto 4, 3), (138, .iconst 0, 1), (139, .i2l, 1), (140, .lsub, 1), (141, .lstore 11, 2), (143, .lload 11, 2), (145, .lconst 0, 1), (146, .lcmp, 1), (147, .ifCond .ne 13, 3), (150, .lload 7, 2), (152, .lload 9, 2), (154, .invokestatic 56, 3), (157, .ifCond .eq 7, 3), (160, .iconst 1, 1), (161, .goto 4, 3), (164, .iconst 0, 1), (165, .istore 13, 2), (167, .aload_n 0, 1), (168, .iconst 0, 1), (169, .putfield 15, 3), (172, .aload_n 0, 1), (173, .aload_n 1, 1), (174, .getfield 18, 3), (177, .iconst 1, 1), (178, .ishr, 1), (179, .putfield 22, 3), (182, .aload_n 0, 1), (183, .lload 7, 2), (185, .putfield 27, 3), (188, .aload_n 0, 1), (189, .iload 13, 2), (191, .ifCond .eq 9, 3), (194, .ldc2_w 60, 3), (197, .goto 4, 3), (200, .lconst 0, 1), (201, .lload 11, 2), (203, .lload 9, 2), (205, .lor, 1), (206, .lconst 0, 1), (207, .lcmp, 1), (208, .ifCond .eq 7, 3), (211, .iconst 1, 1), (212, .goto 4, 3), (215, .iconst 0, 1), (216, .i2l, 1), (217, .lor, 1), (218, .putfield 30, 3), (221, .return_, 1)]
def m_Ex_becomeRoot : ZM := (⟨"StackReal$Exact", "becomeRoot", "(LStackReal$Real;)V"⟩, prog_3_method_14_code, 14, none, [], 2, 0, [], i_Ex_becomeRoot)
def i_Ex_isAbove : List (Nat × Instr × Nat) := [(0, .aload_n 0, 1), (1, .getfield 27, 3), (4, .lload_n 1, 1), (5, .lcmp, 1), (6, .ifCond .ne 14, 3), (9, .lload_n 3, 1), (10, .aload_n 0, 1), (11, .getfield 30, 3), (14, .invokestatic 56, 3), (17, .goto 11, 3), (20, .lload_n 1, 1), (21, .aload_n 0, 1), (22, .getfield 27, 3), (25, .invokestatic 56, 3), (28, .ireturn, 1)]
def m_Ex_isAbove : ZM := (⟨"StackReal$Exact", "isAbove", "(JJ)Z"⟩, prog_3_method_15_code, 5, some .boolean, [], 2, 0, [], i_Ex_isAbove)
def i_Ar_makeWhole : List (Nat × Instr × Nat) := [(0, .aload_n 1, 1), (1, .getfield 22, 3), (4, .iconst 1, 1), (5, .if_icmp .ne 10, 3), (8, .aload_n 1, 1), (9, .invokevirtual 81, 3), (12, .ifCond .eq 10, 3), (15, .aload_n 2, 1), (16, .aload_n 1, 1), (17, .invokevirtual 68, 3), (20, .iconst 0, 1), (21, .ireturn, 1), (22, .aload_n 2, 1), (23, .aload_n 1, 1), (24, .getfield 35, 3), (27, .aload_n 0, 1), (28, .getfield 9, 3), (31, .aload_n 1, 1), (32, .invokevirtual 84, 3), (35, .invokevirtual 88, 3), (38, .bipush 16, 2), (40, .ireturn, 1)]
def m_Ar_makeWhole : ZM := (⟨"StackReal$Arithmetic", "makeWhole", "(LStackReal$Real;LStackReal$Real;)I"⟩, prog_2_method_7_code, 3, some .int, [], 4, 0, [], i_Ar_makeWhole)
def i_Re_isWhole : List (Nat × Instr × Nat) := [(0, .aload_n 0, 1), (1, .getfield 19, 3), (4, .bipush 63, 2), (6, .if_icmp .ge 26, 3), (9, .aload_n 0, 1), (10, .getfield 19, 3), (13, .ifCond .lt 23, 3), (16, .aload_n 0, 1), (17, .getfield 22, 3), (20, .aload_n 0, 1), (21, .getfield 19, 3), (24, .iconst 1, 1), (25, .iadd, 1), (26, .lshl, 1), (27, .lconst 0, 1), (28, .lcmp, 1), (29, .ifCond .ne 7, 3), (32, .iconst 1, 1), (33, .goto 4, 3), (36, .iconst 0, 1), (37, .ireturn, 1)]
def m_Re_isWhole : ZM := (⟨"StackReal$Real", "isWhole", "()Z"⟩, prog_6_method_9_code, 1, some .boolean, [], 1, 0, [], i_Re_isWhole)
def i_Ro_wholeMagnitude : List (Nat × Instr × Nat) := [(0, .aload_n 1, 1), (1, .getfield 61, 3), (4, .bipush 63, 2), (6, .if_icmp .ne 8, 3), (9, .aload_n 1, 1), (10, .getfield 62, 3), (13, .lreturn, 1), (14, .aload_n 1, 1), (15, .getfield 61, 3), (18, .iconst (-1), 1), (19, .if_icmp .ge 23, 3), (22, .aload_n 0, 1), (23, .aload_n 1, 1), (24, .getfield 65, 3), (27, .iconst 0, 1), (28, .iconst 0, 1), (29, .iconst 1, 1), (30, .invokevirtual 38, 3), (33, .ifCond .eq 7, 3), (36, .lconst 1, 1), (37, .goto 4, 3), (40, .lconst 0, 1), (41, .lreturn, 1), (42, .aload_n 1, 1), (43, .getfield 62, 3), (46, .iconst 1, 1), (47, .lushr, 1), (48, .bipush 62, 2), (50, .aload_n 1, 1), (51, .getfield 61, 3), (54, .isub, 1), (55, .lushr, 1), (56, .lstore_n 2, 1), (57, .aload_n 1, 1), (58, .getfield 62, 3), (61, .aload_n 1, 1), (62, .getfield 61, 3), (65, .iconst 1, 1), (66, .iadd, 1), (67, .lshl, 1), (68, .lstore 4, 2), (70, .aload_n 0, 1), (71, .aload_n 1, 1), (72, .getfield 65, 3), (75, .lload_n 2, 1), (76, .lconst 1, 1), (77, .land, 1), (78, .lconst 0, 1), (79, .lcmp, 1), (80, .ifCond .eq 7, 3), (83, .iconst 1, 1), (84, .goto 4, 3), (87, .iconst 0, 1), (88, .lload 4, 2), (90, .lconst 0, 1), (91, .lcmp, 1), (92, .ifCond .ge 7, 3), (95, .iconst 1, 1), (96, .goto 4, 3), (99, .iconst 0, 1), (100, .lload 4, 2), (102, .iconst 1, 1), (103, .lshl, 1), (104, .lconst 0, 1), (105, .lcmp, 1), (106, .ifCond .eq 7, 3), (109, .iconst 1, 1), (110, .goto 4, 3), (113, .iconst 0, 1), (114, .invokevirtual 38, 3), (117, .istore 6, 2), (119, .iload 6, 2), (121, .ifCond .eq 9, 3), (124, .lload_n 2, 1), (125, .lconst 1, 1), (126, .ladd, 1), (127, .goto 4, 3), (130, .lload_n 2, 1), (131, .lreturn, 1)]
def m_Ro_wholeMagnitude : ZM := (⟨"StackReal$Rounding", "wholeMagnitude", "(LStackReal$Real;)J"⟩, prog_7_method_6_code, 7, some .long, [], 3, 0, [], i_Ro_wholeMagnitude)
def i_Re_becomeWhole : List (Nat × Instr × Nat) := [(0, .lload_n 2, 1), (1, .lconst 0, 1), (2, .lcmp, 1), (3, .ifCond .ne 9, 3), (6, .aload_n 0, 1), (7, .iload_n 1, 1), (8, .invokevirtual 26, 3), (11, .return_, 1), (12, .lload_n 2, 1), (13, .lstore 4, 2), (15, .bipush 63, 2), (17, .istore 6, 2), (19, .iconst 0, 1), (20, .istore 7, 2), (22, .iload 7, 2), (24, .bipush 63, 2), (26, .if_icmp .ge 25, 3), (29, .lload 4, 2), (31, .lconst 0, 1), (32, .lcmp, 1), (33, .ifCond .le 18, 3), (36, .lload 4, 2), (38, .iconst 1, 1), (39, .lshl, 1), (40, .lstore 4, 2), (42, .iinc 6 (-1), 3), (45, .iinc 7 1, 3), (48, .goto (-26), 3), (51, .aload_n 0, 1), (52, .iload_n 1, 1), (53, .iload 6, 2), (55, .lload 4, 2), (57, .invokevirtual 30, 3), (60, .return_, 1)]
def m_Re_becomeWhole : ZM := (⟨"StackReal$Real", "becomeWhole", "(ZJ)V"⟩, prog_6_method_7_code, 8, none, [], 1, 0, [], i_Re_becomeWhole)
def i_Ar_scale : List (Nat × Instr × Nat) := [(0, .aload_n 2, 1), (1, .getfield 22, 3), (4, .iconst 3, 1), (5, .if_icmp .eq 11, 3), (8, .aload_n 1, 1), (9, .getfield 22, 3), (12, .iconst 3, 1), (13, .if_icmp .ne 9, 3), (16, .aload_n 3, 1), (17, .invokevirtual 28, 3), (20, .iconst 0, 1), (21, .ireturn, 1), (22, .aload_n 2, 1), (23, .getfield 22, 3), (26, .iconst 2, 1), (27, .if_icmp .eq 19, 3), (30, .aload_n 2, 1), (31, .invokevirtual 81, 3), (34, .ifCond .eq 12, 3), (37, .aload_n 2, 1), (38, .getfield 92, 3), (41, .bipush 15, 2), (43, .if_icmp .le 8, 3), (46, .aload_n 3, 1), (47, .invokestatic 64, 3), (50, .ireturn, 1), (51, .aload_n 2, 1), (52, .getfield 95, 3), (55, .bipush 63, 2), (57, .aload_n 2, 1), (58, .getfield 92, 3), (61, .isub, 1), (62, .lushr, 1), (63, .l2i, 1), (64, .istore 4, 2), (66, .iload 4, 2), (68, .ldc 99, 2), (70, .if_icmp .le 8, 3), (73, .aload_n 3, 1), (74, .invokestatic 64, 3), (77, .ireturn, 1), (78, .aload_n 1, 1), (79, .getfield 22, 3), (82, .iconst 1, 1), (83, .if_icmp .eq 10, 3), (86, .aload_n 3, 1), (87, .aload_n 1, 1), (88, .invokevirtual 68, 3), (91, .iconst 0, 1), (92, .ireturn, 1), (93, .aload_n 0, 1), (94, .getfield 18, 3), (97, .aload_n 1, 1), (98, .invokevirtual 48, 3), (101, .aload_n 0, 1), (102, .getfield 18, 3), (105, .dup, 1), (106, .getfield 100, 3), (109, .aload_n 2, 1), (110, .getfield 35, 3), (113, .ifCond .eq 9, 3), (116, .iload 4, 2), (118, .ineg, 1), (119, .goto 5, 3), (122, .iload 4, 2), (124, .iadd, 1), (125, .putfield 100, 3), (128, .aload_n 0, 1), (129, .getfield 9, 3), (132, .aload_n 0, 1), (133, .getfield 18, 3), (136, .aload_n 3, 1), (137, .invokevirtual 60, 3), (140, .ireturn, 1)]
def m_Ar_scale : ZM := (⟨"StackReal$Arithmetic", "scale", "(LStackReal$Real;LStackReal$Real;LStackReal$Real;)I"⟩, prog_2_method_8_code, 5, some .int, [], 4, 0, [], i_Ar_scale)
def i_SR_carryOut : List (Nat × Instr × Nat) := [(0, .iload_n 1, 1), (1, .tableswitch 218 0 14 #[75, 75, 75, 75, 100, 100, 100, 115, 122, 134, 145, 153, 165, 178, 198], 75), (76, .aload_n 0, 1), (77, .dup, 1), (78, .getfield 53, 3), (81, .iconst 1, 1), (82, .isub, 1), (83, .putfield 53, 3), (86, .aload_n 0, 1), (87, .iconst 0, 1), (88, .invokevirtual 134, 3), (91, .aload_n 0, 1), (92, .getfield 16, 3), (95, .invokevirtual 183, 3), (98, .goto 137, 3), (101, .aload_n 0, 1), (102, .iconst 0, 1), (103, .invokevirtual 134, 3), (106, .aload_n 0, 1), (107, .getfield 16, 3), (110, .invokevirtual 183, 3), (113, .goto 122, 3), (116, .aload_n 0, 1), (117, .invokevirtual 220, 3), (120, .goto 115, 3), (123, .aload_n 0, 1), (124, .iconst 0, 1), (125, .invokevirtual 134, 3), (128, .iconst 0, 1), (129, .putfield 170, 3), (132, .goto 103, 3), (135, .aload_n 0, 1), (136, .iconst 0, 1), (137, .invokevirtual 134, 3), (140, .invokevirtual 201, 3), (143, .goto 92, 3), (146, .aload_n 0, 1), (147, .iload_n 2, 1), (148, .invokevirtual 223, 3), (151, .goto 84, 3), (154, .aload_n 0, 1), (155, .aload_n 0, 1), (156, .iload_n 2, 1), (157, .invokevirtual 134, 3), (160, .invokevirtual 130, 3), (163, .goto 72, 3), (166, .aload_n 0, 1), (167, .dup, 1), (168, .getfield 53, 3), (171, .iconst 1, 1), (172, .isub, 1), (173, .putfield 53, 3), (176, .goto 59, 3), (179, .aload_n 0, 1), (180, .aload_n 0, 1), (181, .iconst 0, 1), (182, .invokevirtual 134, 3), (185, .aload_n 0, 1), (186, .iconst 1, 1), (187, .invokevirtual 134, 3), (190, .invokestatic 226, 3), (193, .putfield 63, 3), (196, .goto 39, 3), (199, .aload_n 0, 1), (200, .getfield 16, 3), (203, .iconst 0, 1), (204, .lconst 1, 1), (205, .invokevirtual 229, 3), (208, .aload_n 0, 1), (209, .aload_n 0, 1), (210, .getfield 16, 3), (213, .invokevirtual 130, 3), (216, .goto 19, 3), (219, .aload_n 0, 1), (220, .getfield 16, 3), (223, .iconst 0, 1), (224, .invokevirtual 233, 3), (227, .aload_n 0, 1), (228, .aload_n 0, 1), (229, .getfield 16, 3), (232, .invokevirtual 130, 3), (235, .return_, 1)]
def m_SR_carryOut : ZM := (⟨"StackReal", "carryOut", "(II)V"⟩, prog_1_method_28_code, 3, none, [], 0, 0, [], i_SR_carryOut)
def i_SR_extract : List (Nat × Instr × Nat) := [(0, .aload_n 0, 1), (1, .iconst 0, 1), (2, .invokevirtual 134, 3), (5, .astore_n 1, 1), (6, .aload_n 1, 1), (7, .getfield 177, 3), (10, .istore_n 2, 1), (11, .aload_n 0, 1), (12, .getfield 16, 3), (15, .aload_n 1, 1), (16, .getfield 170, 3), (19, .iconst 0, 1), (20, .aload_n 1, 1), (21, .getfield 180, 3), (24, .invokevirtual 237, 3), (27, .aload_n 1, 1), (28, .iload_n 2, 1), (29, .ifCond .ge 7, 3), (32, .iconst 1, 1), (33, .goto 4, 3), (36, .iconst 0, 1), (37, .iload_n 2, 1), (38, .ifCond .ge 9, 3), (41, .iload_n 2, 1), (42, .ineg, 1), (43, .i2l, 1), (44, .goto 5, 3), (47, .iload_n 2, 1), (48, .i2l, 1), (49, .invokevirtual 229, 3), (52, .aload_n 0, 1), (53, .aload_n 0, 1), (54, .getfield 16, 3), (57, .invokevirtual 130, 3), (60, .return_, 1)]
def m_SR_extract : ZM := (⟨"StackReal", "extract", "()V"⟩, prog_1_method_29_code, 3, none, [], 0, 0, [], i_SR_extract)
def i_SR_push : List (Nat × Instr × Nat) := [(0, .aload_n 0, 1), (1, .getfield 11, 3), (4, .aload_n 0, 1), (5, .getfield 53, 3), (8, .aaload, 1), (9, .aload_n 1, 1), (10, .invokevirtual 183, 3), (13, .aload_n 0, 1), (14, .dup, 1), (15, .getfield 53, 3), (18, .iconst 1, 1), (19, .iadd, 1), (20, .putfield 53, 3), (23, .return_, 1)]
def m_SR_push : ZM := (⟨"StackReal", "push", "(LStackReal$Real;)V"⟩, prog_1_method_22_code, 2, none, [], 0, 0, [], i_SR_push)
def i_SR_exchange : List (Nat × Instr × Nat) := [(0, .aload_n 0, 1), (1, .getfield 53, 3), (4, .iconst 1, 1), (5, .isub, 1), (6, .iload_n 1, 1), (7, .isub, 1), (8, .istore_n 2, 1), (9, .aload_n 0, 1), (10, .getfield 11, 3), (13, .iload_n 2, 1), (14, .aaload, 1), (15, .astore_n 3, 1), (16, .aload_n 0, 1), (17, .getfield 11, 3), (20, .iload_n 2, 1), (21, .aload_n 0, 1), (22, .getfield 11, 3), (25, .aload_n 0, 1), (26, .getfield 53, 3), (29, .iconst 1, 1), (30, .isub, 1), (31, .aaload, 1), (32, .aastore, 1), (33, .aload_n 0, 1), (34, .getfield 11, 3), (37, .aload_n 0, 1), (38, .getfield 53, 3), (41, .iconst 1, 1), (42, .isub, 1), (43, .aload_n 3, 1), (44, .aastore, 1), (45, .return_, 1)]
def m_SR_exchange : ZM := (⟨"StackReal", "exchange", "(I)V"⟩, prog_1_method_30_code, 4, none, [], 0, 0, [], i_SR_exchange)
def i_SR_conditionOf : List (Nat × Instr × Nat) := [(0, .aload_n 0, 1), (1, .getfield 174, 3), (4, .iconst 3, 1), (5, .if_icmp .eq 11, 3), (8, .aload_n 1, 1), (9, .getfield 174, 3), (12, .iconst 3, 1), (13, .if_icmp .ne 5, 3), (16, .iconst 3, 1), (17, .ireturn, 1), (18, .aload_n 0, 1), (19, .aload_n 1, 1), (20, .invokestatic 241, 3), (23, .istore_n 2, 1), (24, .iload_n 2, 1), (25, .ifCond .ne 5, 3), (28, .iconst 2, 1), (29, .ireturn, 1), (30, .iload_n 2, 1), (31, .ifCond .le 7, 3), (34, .iconst 0, 1), (35, .goto 4, 3), (38, .iconst 1, 1), (39, .ireturn, 1)]
def m_SR_conditionOf : ZM := (⟨"StackReal", "conditionOf", "(LStackReal$Real;LStackReal$Real;)I"⟩, prog_1_method_31_code, 3, some .int, [], 0, 0, [], i_SR_conditionOf)
def i_SR_compareReals : List (Nat × Instr × Nat) := [(0, .aload_n 0, 1), (1, .getfield 174, 3), (4, .ifCond .ne 12, 3), (7, .aload_n 1, 1), (8, .getfield 174, 3), (11, .ifCond .ne 5, 3), (14, .iconst 0, 1), (15, .ireturn, 1), (16, .aload_n 0, 1), (17, .getfield 170, 3), (20, .aload_n 1, 1), (21, .getfield 170, 3), (24, .if_icmp .eq 16, 3), (27, .aload_n 0, 1), (28, .getfield 170, 3), (31, .ifCond .eq 7, 3), (34, .iconst (-1), 1), (35, .goto 4, 3), (38, .iconst 1, 1), (39, .ireturn, 1), (40, .aload_n 0, 1), (41, .getfield 170, 3), (44, .ifCond .eq 11, 3), (47, .aload_n 1, 1), (48, .aload_n 0, 1), (49, .invokestatic 244, 3), (52, .goto 8, 3), (55, .aload_n 0, 1), (56, .aload_n 1, 1), (57, .invokestatic 244, 3), (60, .ireturn, 1)]
def m_SR_compareReals : ZM := (⟨"StackReal", "compareReals", "(LStackReal$Real;LStackReal$Real;)I"⟩, prog_1_method_32_code, 2, some .int, [], 0, 0, [], i_SR_compareReals)
def i_La_load : List (Nat × Instr × Nat) := [(0, .aload_n 3, 1), (1, .iconst 0, 1), (2, .aload_n 0, 1), (3, .iload_n 1, 1), (4, .iload_n 2, 1), (5, .invokevirtual 21, 3), (8, .i2l, 1), (9, .lastore, 1), (10, .goto 11, 3), (13, .astore 4, 2), (15, .iconst 1, 1), (16, .ireturn, 1), (17, .astore 4, 2), (19, .iconst 2, 1), (20, .ireturn, 1), (21, .iconst 0, 1), (22, .ireturn, 1)]
def m_La_load : ZM := (⟨"StackRealLaw", "load", "(LStackReal;II[J)I"⟩, method_5_code, 5, some .int, [(0, 10, 13, 13), (0, 10, 17, 19)], 8, 1, [], i_La_load)
def i_SR_load : List (Nat × Instr × Nat) := [(0, .iload_n 1, 1), (1, .invokestatic 114, 3), (4, .ifCond .eq 10, 3), (7, .iload_n 2, 1), (8, .invokestatic 117, 3), (11, .ifCond .ne 13, 3), (14, .new 66, 3), (17, .dup, 1), (18, .ldc 120, 2), (20, .invokespecial 70, 3), (23, .athrow, 1), (24, .aload_n 0, 1), (25, .getfield 49, 3), (28, .iconst 4, 1), (29, .invokevirtual 95, 3), (32, .aload_n 0, 1), (33, .getfield 53, 3), (36, .bipush 8, 2), (38, .if_icmp .lt 9, 3), (41, .aload_n 0, 1), (42, .iconst 1, 1), (43, .invokevirtual 103, 3), (46, .ireturn, 1), (47, .aload_n 0, 1), (48, .aload_n 0, 1), (49, .getfield 42, 3), (52, .aload_n 0, 1), (53, .getfield 49, 3), (56, .getfield 122, 3), (59, .iload_n 1, 1), (60, .laload, 1), (61, .iload_n 2, 1), (62, .aload_n 0, 1), (63, .getfield 16, 3), (66, .invokevirtual 126, 3), (69, .invokevirtual 103, 3), (72, .istore_n 3, 1), (73, .aload_n 0, 1), (74, .aload_n 0, 1), (75, .getfield 16, 3), (78, .invokevirtual 130, 3), (81, .iload_n 3, 1), (82, .ireturn, 1)]
def m_SR_load : ZM := (⟨"StackReal", "load", "(II)I"⟩, prog_1_method_4_code, 4, some .int, [], 0, 1, [(14, 1)], i_SR_load)
def i_SR_isCell : List (Nat × Instr × Nat) := [(0, .iload_n 0, 1), (1, .ifCond .lt 13, 3), (4, .iload_n 0, 1), (5, .bipush 8, 2), (7, .if_icmp .ge 7, 3), (10, .iconst 1, 1), (11, .goto 4, 3), (14, .iconst 0, 1), (15, .ireturn, 1)]
def m_SR_isCell : ZM := (⟨"StackReal", "isCell", "(I)Z"⟩, prog_1_method_18_code, 1, some .boolean, [], 0, 0, [], i_SR_isCell)
def i_SR_isForm : List (Nat × Instr × Nat) := [(0, .iload_n 0, 1), (1, .ifCond .lt 12, 3), (4, .iload_n 0, 1), (5, .iconst 3, 1), (6, .if_icmp .gt 7, 3), (9, .iconst 1, 1), (10, .goto 4, 3), (13, .iconst 0, 1), (14, .ireturn, 1)]
def m_SR_isForm : ZM := (⟨"StackReal", "isForm", "(I)Z"⟩, prog_1_method_19_code, 1, some .boolean, [], 0, 0, [], i_SR_isForm)
def i_Fo_decode : List (Nat × Instr × Nat) := [(0, .iload_n 3, 1), (1, .tableswitch 81 0 2 #[27, 57, 69], 27), (28, .aload 4, 2), (30, .lload_n 1, 1), (31, .lconst 0, 1), (32, .lcmp, 1), (33, .ifCond .ge 7, 3), (36, .iconst 1, 1), (37, .goto 4, 3), (40, .iconst 0, 1), (41, .lload_n 1, 1), (42, .lconst 0, 1), (43, .lcmp, 1), (44, .ifCond .ge 8, 3), (47, .lload_n 1, 1), (48, .lneg, 1), (49, .goto 4, 3), (52, .lload_n 1, 1), (53, .invokevirtual 29, 3), (56, .iconst 0, 1), (57, .ireturn, 1), (58, .lload_n 1, 1), (59, .bipush 11, 2), (61, .bipush 52, 2), (63, .aload 4, 2), (65, .invokestatic 33, 3), (68, .iconst 0, 1), (69, .ireturn, 1), (70, .lload_n 1, 1), (71, .bipush 8, 2), (73, .bipush 23, 2), (75, .aload 4, 2), (77, .invokestatic 33, 3), (80, .iconst 0, 1), (81, .ireturn, 1), (82, .lload_n 1, 1), (83, .aload 4, 2), (85, .invokestatic 37, 3), (88, .ireturn, 1)]
def m_Fo_decode : ZM := (⟨"StackReal$Forms", "decode", "(JILStackReal$Real;)I"⟩, prog_4_method_2_code, 5, some .int, [], 5, 0, [], i_Fo_decode)
def i_Fo_decodeBinary : List (Nat × Instr × Nat) := [(0, .iconst 1, 1), (1, .iload_n 2, 1), (2, .ishl, 1), (3, .iconst 1, 1), (4, .isub, 1), (5, .istore 5, 2), (7, .lload_n 0, 1), (8, .iload_n 3, 1), (9, .lushr, 1), (10, .l2i, 1), (11, .iload 5, 2), (13, .iand, 1), (14, .istore 6, 2), (16, .lload_n 0, 1), (17, .lconst 1, 1), (18, .iload_n 3, 1), (19, .lshl, 1), (20, .lconst 1, 1), (21, .lsub, 1), (22, .land, 1), (23, .lstore 7, 2), (25, .lload_n 0, 1), (26, .iload_n 2, 1), (27, .iload_n 3, 1), (28, .iadd, 1), (29, .lushr, 1), (30, .lconst 1, 1), (31, .land, 1), (32, .lconst 0, 1), (33, .lcmp, 1), (34, .ifCond .eq 7, 3), (37, .iconst 1, 1), (38, .goto 4, 3), (41, .iconst 0, 1), (42, .istore 9, 2), (44, .iload 6, 2), (46, .ifCond .ne 13, 3), (49, .aload 4, 2), (51, .iload 9, 2), (53, .invokevirtual 41, 3), (56, .goto 64, 3), (59, .iload 6, 2), (61, .iload 5, 2), (63, .if_icmp .ge 35, 3), (66, .ldc2_w 45, 3), (69, .lload 7, 2), (71, .bipush 63, 2), (73, .iload_n 3, 1), (74, .isub, 1), (75, .lshl, 1), (76, .lor, 1), (77, .lstore 10, 2), (79, .aload 4, 2), (81, .iload 9, 2), (83, .iload 6, 2), (85, .iload 5, 2), (87, .iconst 1, 1), (88, .ishr, 1), (89, .isub, 1), (90, .lload 10, 2), (92, .invokevirtual 47, 3), (95, .goto 25, 3), (98, .lload 7, 2), (100, .lconst 0, 1), (101, .lcmp, 1), (102, .ifCond .ne 13, 3), (105, .aload 4, 2), (107, .iload 9, 2), (109, .invokevirtual 51, 3), (112, .goto 8, 3), (115, .aload 4, 2), (117, .invokevirtual 54, 3), (120, .return_, 1)]
def m_Fo_decodeBinary : ZM := (⟨"StackReal$Forms", "decodeBinary", "(JIILStackReal$Real;)V"⟩, prog_4_method_3_code, 12, none, [], 5, 0, [], i_Fo_decodeBinary)
def i_Fo_decodeDecimal : List (Nat × Instr × Nat) := [(0, .lconst 0, 1), (1, .lstore_n 3, 1), (2, .lload_n 0, 1), (3, .bipush 60, 2), (5, .lushr, 1), (6, .lconst 1, 1), (7, .lcmp, 1), (8, .ifCond .gt 7, 3), (11, .iconst 1, 1), (12, .goto 4, 3), (15, .iconst 0, 1), (16, .istore 5, 2), (18, .bipush 14, 2), (20, .istore 6, 2), (22, .iload 6, 2), (24, .ifCond .lt 51, 3), (27, .lload_n 0, 1), (28, .iconst 4, 1), (29, .iload 6, 2), (31, .imul, 1), (32, .lushr, 1), (33, .ldc2_w 57, 3), (36, .land, 1), (37, .lstore 7, 2), (39, .iload 5, 2), (41, .ifCond .eq 16, 3), (44, .lload 7, 2), (46, .ldc2_w 59, 3), (49, .lcmp, 1), (50, .ifCond .gt 7, 3), (53, .iconst 1, 1), (54, .goto 4, 3), (57, .iconst 0, 1), (58, .istore 5, 2), (60, .lload_n 3, 1), (61, .ldc2_w 61, 3), (64, .lmul, 1), (65, .lload 7, 2), (67, .ladd, 1), (68, .lstore_n 3, 1), (69, .iinc 6 (-1), 3), (72, .goto (-50), 3), (75, .iload 5, 2), (77, .ifCond .ne 9, 3), (80, .aload_n 2, 1), (81, .invokevirtual 54, 3), (84, .iconst 1, 1), (85, .ireturn, 1), (86, .aload_n 2, 1), (87, .lload_n 0, 1), (88, .bipush 60, 2), (90, .lushr, 1), (91, .lconst 1, 1), (92, .lcmp, 1), (93, .ifCond .ne 7, 3), (96, .iconst 1, 1), (97, .goto 4, 3), (100, .iconst 0, 1), (101, .lload_n 3, 1), (102, .invokevirtual 29, 3), (105, .iconst 0, 1), (106, .ireturn, 1)]
def m_Fo_decodeDecimal : ZM := (⟨"StackReal$Forms", "decodeDecimal", "(JLStackReal$Real;)I"⟩, prog_4_method_4_code, 9, some .int, [], 5, 0, [], i_Fo_decodeDecimal)
def i_La_store : List (Nat × Instr × Nat) := [(0, .aload_n 3, 1), (1, .iconst 0, 1), (2, .aload_n 0, 1), (3, .iload_n 1, 1), (4, .iload_n 2, 1), (5, .invokevirtual 24, 3), (8, .i2l, 1), (9, .lastore, 1), (10, .goto 11, 3), (13, .astore 4, 2), (15, .iconst 1, 1), (16, .ireturn, 1), (17, .astore 4, 2), (19, .iconst 2, 1), (20, .ireturn, 1), (21, .iconst 0, 1), (22, .ireturn, 1)]
def m_La_store : ZM := (⟨"StackRealLaw", "store", "(LStackReal;II[J)I"⟩, method_6_code, 5, some .int, [(0, 10, 13, 13), (0, 10, 17, 19)], 8, 1, [], i_La_store)
def i_SR_store : List (Nat × Instr × Nat) := [(0, .iload_n 1, 1), (1, .invokestatic 114, 3), (4, .ifCond .eq 10, 3), (7, .iload_n 2, 1), (8, .invokestatic 117, 3), (11, .ifCond .ne 13, 3), (14, .new 66, 3), (17, .dup, 1), (18, .ldc 120, 2), (20, .invokespecial 70, 3), (23, .athrow, 1), (24, .aload_n 0, 1), (25, .getfield 49, 3), (28, .bipush 10, 2), (30, .invokevirtual 95, 3), (33, .aload_n 0, 1), (34, .getfield 53, 3), (37, .ifCond .gt 9, 3), (40, .aload_n 0, 1), (41, .iconst 1, 1), (42, .invokevirtual 103, 3), (45, .ireturn, 1), (46, .aload_n 0, 1), (47, .aload_n 0, 1), (48, .getfield 42, 3), (51, .aload_n 0, 1), (52, .iconst 0, 1), (53, .invokevirtual 134, 3), (56, .iload_n 2, 1), (57, .invokevirtual 138, 3), (60, .invokevirtual 103, 3), (63, .istore_n 3, 1), (64, .aload_n 0, 1), (65, .dup, 1), (66, .getfield 53, 3), (69, .iconst 1, 1), (70, .isub, 1), (71, .putfield 53, 3), (74, .aload_n 0, 1), (75, .getfield 49, 3), (78, .iload_n 1, 1), (79, .aload_n 0, 1), (80, .getfield 42, 3), (83, .getfield 142, 3), (86, .invokevirtual 146, 3), (89, .iload_n 3, 1), (90, .ireturn, 1)]
def m_SR_store : ZM := (⟨"StackReal", "store", "(II)I"⟩, prog_1_method_5_code, 4, some .int, [], 0, 1, [(14, 1)], i_SR_store)
def i_Fo_encode : List (Nat × Instr × Nat) := [(0, .iload_n 2, 1), (1, .tableswitch 53 0 2 #[27, 33, 43], 27), (28, .aload_n 0, 1), (29, .aload_n 1, 1), (30, .invokevirtual 63, 3), (33, .ireturn, 1), (34, .aload_n 0, 1), (35, .aload_n 1, 1), (36, .bipush 11, 2), (38, .bipush 52, 2), (40, .invokevirtual 67, 3), (43, .ireturn, 1), (44, .aload_n 0, 1), (45, .aload_n 1, 1), (46, .bipush 8, 2), (48, .bipush 23, 2), (50, .invokevirtual 67, 3), (53, .ireturn, 1), (54, .aload_n 0, 1), (55, .aload_n 1, 1), (56, .invokevirtual 71, 3), (59, .ireturn, 1)]
def m_Fo_encode : ZM := (⟨"StackReal$Forms", "encode", "(LStackReal$Real;I)I"⟩, prog_4_method_5_code, 3, some .int, [], 5, 0, [], i_Fo_encode)
def i_Fo_encodeWhole : List (Nat × Instr × Nat) := [(0, .aload_n 0, 1), (1, .ldc2_w 45, 3), (4, .putfield 74, 3), (7, .aload_n 1, 1), (8, .getfield 78, 3), (11, .iconst 1, 1), (12, .if_icmp .gt 12, 3), (15, .aload_n 1, 1), (16, .getfield 82, 3), (19, .bipush 63, 2), (21, .if_icmp .le 5, 3), (24, .iconst 1, 1), (25, .ireturn, 1), (26, .aload_n 0, 1), (27, .getfield 9, 3), (30, .aload_n 1, 1), (31, .invokevirtual 85, 3), (34, .lstore_n 2, 1), (35, .aload_n 1, 1), (36, .getfield 91, 3), (39, .ifCond .eq 15, 3), (42, .lload_n 2, 1), (43, .ldc2_w 45, 3), (46, .lcmp, 1), (47, .ifCond .ne 7, 3), (50, .iconst 1, 1), (51, .goto 4, 3), (54, .iconst 0, 1), (55, .istore 4, 2), (57, .lload_n 2, 1), (58, .lconst 0, 1), (59, .lcmp, 1), (60, .ifCond .ge 10, 3), (63, .iload 4, 2), (65, .ifCond .ne 5, 3), (68, .iconst 1, 1), (69, .ireturn, 1), (70, .aload_n 0, 1), (71, .aload_n 1, 1), (72, .getfield 91, 3), (75, .ifCond .eq 8, 3), (78, .lload_n 2, 1), (79, .lneg, 1), (80, .goto 4, 3), (83, .lload_n 2, 1), (84, .putfield 74, 3), (87, .aload_n 1, 1), (88, .invokevirtual 95, 3), (91, .ifCond .eq 7, 3), (94, .iconst 0, 1), (95, .goto 5, 3), (98, .bipush 16, 2), (100, .ireturn, 1)]
def m_Fo_encodeWhole : ZM := (⟨"StackReal$Forms", "encodeWhole", "(LStackReal$Real;)I"⟩, prog_4_method_6_code, 5, some .int, [], 5, 0, [], i_Fo_encodeWhole)
def i_Fo_encodeBinary : List (Nat × Instr × Nat) := [(0, .iconst 1, 1), (1, .iload_n 2, 1), (2, .iconst 1, 1), (3, .isub, 1), (4, .ishl, 1), (5, .iconst 1, 1), (6, .isub, 1), (7, .istore 4, 2), (9, .iconst 0, 1), (10, .istore 5, 2), (12, .aload_n 0, 1), (13, .getfield 25, 3), (16, .aload_n 1, 1), (17, .invokevirtual 105, 3), (20, .aload_n 1, 1), (21, .getfield 78, 3), (24, .iconst 1, 1), (25, .if_icmp .ne 37, 3), (28, .aload_n 0, 1), (29, .getfield 18, 3), (32, .aload_n 1, 1), (33, .invokevirtual 109, 3), (36, .aload_n 0, 1), (37, .getfield 9, 3), (40, .aload_n 0, 1), (41, .getfield 18, 3), (44, .iload_n 3, 1), (45, .iconst 1, 1), (46, .iadd, 1), (47, .iconst 1, 1), (48, .iload 4, 2), (50, .isub, 1), (51, .iload 4, 2), (53, .aload_n 0, 1), (54, .getfield 25, 3), (57, .invokevirtual 110, 3), (60, .istore 5, 2), (62, .aload_n 0, 1), (63, .aload_n 0, 1), (64, .getfield 25, 3), (67, .iload_n 2, 1), (68, .iload_n 3, 1), (69, .invokestatic 114, 3), (72, .putfield 74, 3), (75, .iload 5, 2), (77, .ireturn, 1)]
def m_Fo_encodeBinary : ZM := (⟨"StackReal$Forms", "encodeBinary", "(LStackReal$Real;II)I"⟩, prog_4_method_8_code, 6, some .int, [], 5, 0, [], i_Fo_encodeBinary)
def i_Fo_binaryImage : List (Nat × Instr × Nat) := [(0, .lconst 1, 1), (1, .iload_n 1, 1), (2, .iload_n 2, 1), (3, .iadd, 1), (4, .lshl, 1), (5, .lstore_n 3, 1), (6, .aload_n 0, 1), (7, .getfield 91, 3), (10, .ifCond .eq 7, 3), (13, .lload_n 3, 1), (14, .goto 4, 3), (17, .lconst 0, 1), (18, .lstore 5, 2), (20, .lconst 1, 1), (21, .iload_n 1, 1), (22, .lshl, 1), (23, .lconst 1, 1), (24, .lsub, 1), (25, .lstore 7, 2), (27, .aload_n 0, 1), (28, .getfield 78, 3), (31, .tableswitch 72 0 2 #[25, 28, 64], 25), (56, .lload 5, 2), (58, .lreturn, 1), (59, .aload_n 0, 1), (60, .getfield 82, 3), (63, .i2l, 1), (64, .lload 7, 2), (66, .iconst 1, 1), (67, .lshr, 1), (68, .ladd, 1), (69, .lstore 9, 2), (71, .aload_n 0, 1), (72, .getfield 118, 3), (75, .iconst 1, 1), (76, .lshl, 1), (77, .bipush 64, 2), (79, .iload_n 2, 1), (80, .isub, 1), (81, .lushr, 1), (82, .lstore 11, 2), (84, .lload 5, 2), (86, .lload 9, 2), (88, .iload_n 2, 1), (89, .lshl, 1), (90, .lor, 1), (91, .lload 11, 2), (93, .lor, 1), (94, .lreturn, 1), (95, .lload 5, 2), (97, .lload 7, 2), (99, .iload_n 2, 1), (100, .lshl, 1), (101, .lor, 1), (102, .lreturn, 1), (103, .lload_n 3, 1), (104, .lconst 1, 1), (105, .lsub, 1), (106, .lreturn, 1)]
def m_Fo_binaryImage : ZM := (⟨"StackReal$Forms", "binaryImage", "(LStackReal$Real;II)J"⟩, prog_4_method_9_code, 13, some .long, [], 5, 0, [], i_Fo_binaryImage)
def i_Fo_encodeDecimal : List (Nat × Instr × Nat) := [(0, .aload_n 0, 1), (1, .ldc2_w 99, 3), (4, .putfield 74, 3), (7, .aload_n 1, 1), (8, .getfield 78, 3), (11, .iconst 1, 1), (12, .if_icmp .gt 12, 3), (15, .aload_n 1, 1), (16, .getfield 82, 3), (19, .bipush 49, 2), (21, .if_icmp .le 5, 3), (24, .iconst 1, 1), (25, .ireturn, 1), (26, .aload_n 0, 1), (27, .getfield 9, 3), (30, .aload_n 1, 1), (31, .invokevirtual 85, 3), (34, .lstore_n 2, 1), (35, .lload_n 2, 1), (36, .ldc2_w 101, 3), (39, .lcmp, 1), (40, .ifCond .le 5, 3), (43, .iconst 1, 1), (44, .ireturn, 1), (45, .aload_n 1, 1), (46, .getfield 91, 3), (49, .ifCond .eq 9, 3), (52, .ldc2_w 103, 3), (55, .goto 4, 3), (58, .lconst 0, 1), (59, .lstore 4, 2), (61, .iconst 0, 1), (62, .istore 6, 2), (64, .iload 6, 2), (66, .bipush 15, 2), (68, .if_icmp .ge 30, 3), (71, .lload 4, 2), (73, .lload_n 2, 1), (74, .ldc2_w 61, 3), (77, .lrem, 1), (78, .iconst 4, 1), (79, .iload 6, 2), (81, .imul, 1), (82, .lshl, 1), (83, .lor, 1), (84, .lstore 4, 2), (86, .lload_n 2, 1), (87, .ldc2_w 61, 3), (90, .ldiv, 1), (91, .lstore_n 2, 1), (92, .iinc 6 1, 3), (95, .goto (-31), 3), (98, .aload_n 0, 1), (99, .lload 4, 2), (101, .putfield 74, 3), (104, .aload_n 1, 1), (105, .invokevirtual 95, 3), (108, .ifCond .eq 7, 3), (111, .iconst 0, 1), (112, .goto 5, 3), (115, .bipush 16, 2), (117, .ireturn, 1)]
def m_Fo_encodeDecimal : ZM := (⟨"StackReal$Forms", "encodeDecimal", "(LStackReal$Real;)I"⟩, prog_4_method_7_code, 7, some .int, [], 5, 0, [], i_Fo_encodeDecimal)
def i_Me_storeWhenFree : List (Nat × Instr × Nat) := [(0, .aload_n 0, 1), (1, .iload_n 1, 1), (2, .putfield 26, 3), (5, .aload_n 0, 1), (6, .lload_n 2, 1), (7, .putfield 30, 3), (10, .aload_n 0, 1), (11, .iconst 1, 1), (12, .putfield 19, 3), (15, .return_, 1)]
def m_Me_storeWhenFree : ZM := (⟨"StackReal$Memory", "storeWhenFree", "(IJ)V"⟩, prog_5_method_5_code, 4, none, [], 6, 0, [], i_Me_storeWhenFree)
def i_La_write : List (Nat × Instr × Nat) := [(0, .aload_n 0, 1), (1, .iload_n 1, 1), (2, .lload_n 2, 1), (3, .invokevirtual 27, 3), (6, .goto 7, 3), (9, .astore 4, 2), (11, .iconst 1, 1), (12, .ireturn, 1), (13, .iconst 0, 1), (14, .ireturn, 1)]
def m_La_write : ZM := (⟨"StackRealLaw", "write", "(LStackReal;IJ)I"⟩, method_7_code, 5, some .int, [(0, 6, 9, 13)], 8, 1, [], i_La_write)
def i_SR_write : List (Nat × Instr × Nat) := [(0, .iload_n 1, 1), (1, .invokestatic 114, 3), (4, .ifCond .ne 13, 3), (7, .new 66, 3), (10, .dup, 1), (11, .ldc 150, 2), (13, .invokespecial 70, 3), (16, .athrow, 1), (17, .aload_n 0, 1), (18, .getfield 49, 3), (21, .getfield 122, 3), (24, .iload_n 1, 1), (25, .lload_n 2, 1), (26, .lastore, 1), (27, .return_, 1)]
def m_SR_write : ZM := (⟨"StackReal", "write", "(IJ)V"⟩, prog_1_method_6_code, 4, none, [], 0, 1, [(7, 1)], i_SR_write)
def i_La_memory : List (Nat × Instr × Nat) := [(0, .aload_n 2, 1), (1, .iconst 0, 1), (2, .aload_n 0, 1), (3, .iload_n 1, 1), (4, .invokevirtual 31, 3), (7, .lastore, 1), (8, .goto 6, 3), (11, .astore_n 3, 1), (12, .iconst 1, 1), (13, .ireturn, 1), (14, .iconst 0, 1), (15, .ireturn, 1)]
def m_La_memory : ZM := (⟨"StackRealLaw", "memory", "(LStackReal;I[J)I"⟩, method_8_code, 4, some .int, [(0, 8, 11, 13)], 8, 1, [], i_La_memory)
def i_SR_memory : List (Nat × Instr × Nat) := [(0, .iload_n 1, 1), (1, .invokestatic 114, 3), (4, .ifCond .ne 13, 3), (7, .new 66, 3), (10, .dup, 1), (11, .ldc 150, 2), (13, .invokespecial 70, 3), (16, .athrow, 1), (17, .aload_n 0, 1), (18, .getfield 49, 3), (21, .getfield 122, 3), (24, .iload_n 1, 1), (25, .laload, 1), (26, .lreturn, 1)]
def m_SR_memory : ZM := (⟨"StackReal", "memory", "(I)J"⟩, prog_1_method_7_code, 2, some .long, [], 0, 1, [(7, 1)], i_SR_memory)
def i_La_pass : List (Nat × Instr × Nat) := [(0, .aload_n 0, 1), (1, .iload_n 1, 1), (2, .invokevirtual 35, 3), (5, .goto 6, 3), (8, .astore_n 2, 1), (9, .iconst 1, 1), (10, .ireturn, 1), (11, .iconst 0, 1), (12, .ireturn, 1)]
def m_La_pass : ZM := (⟨"StackRealLaw", "pass", "(LStackReal;I)I"⟩, method_9_code, 3, some .int, [(0, 5, 8, 13)], 8, 1, [], i_La_pass)
def i_SR_pass : List (Nat × Instr × Nat) := [(0, .iload_n 1, 1), (1, .ifCond .lt 10, 3), (4, .iload_n 1, 1), (5, .sipush 1000, 3), (8, .if_icmp .le 13, 3), (11, .new 66, 3), (14, .dup, 1), (15, .ldc 152, 2), (17, .invokespecial 70, 3), (20, .athrow, 1), (21, .aload_n 0, 1), (22, .getfield 49, 3), (25, .iload_n 1, 1), (26, .i2l, 1), (27, .invokevirtual 154, 3), (30, .return_, 1)]
def m_SR_pass : ZM := (⟨"StackReal", "pass", "(I)V"⟩, prog_1_method_8_code, 2, none, [], 0, 1, [(11, 1)], i_SR_pass)
def i_La_kind : List (Nat × Instr × Nat) := [(0, .aload_n 2, 1), (1, .iconst 0, 1), (2, .aload_n 0, 1), (3, .iload_n 1, 1), (4, .invokevirtual 39, 3), (7, .i2l, 1), (8, .lastore, 1), (9, .goto 6, 3), (12, .astore_n 3, 1), (13, .iconst 1, 1), (14, .ireturn, 1), (15, .iconst 0, 1), (16, .ireturn, 1)]
def m_La_kind : ZM := (⟨"StackRealLaw", "kind", "(LStackReal;I[J)I"⟩, method_10_code, 4, some .int, [(0, 9, 12, 13)], 8, 1, [], i_La_kind)
def i_SR_kind : List (Nat × Instr × Nat) := [(0, .aload_n 0, 1), (1, .iload_n 1, 1), (2, .invokevirtual 165, 3), (5, .ifCond .ne 13, 3), (8, .new 66, 3), (11, .dup, 1), (12, .ldc 168, 2), (14, .invokespecial 70, 3), (17, .athrow, 1), (18, .aload_n 0, 1), (19, .iload_n 1, 1), (20, .invokevirtual 134, 3), (23, .astore_n 2, 1), (24, .aload_n 2, 1), (25, .getfield 170, 3), (28, .ifCond .eq 12, 3), (31, .aload_n 2, 1), (32, .getfield 174, 3), (35, .iconst 4, 1), (36, .iadd, 1), (37, .goto 7, 3), (40, .aload_n 2, 1), (41, .getfield 174, 3), (44, .ireturn, 1)]
def m_SR_kind : ZM := (⟨"StackReal", "kind", "(I)I"⟩, prog_1_method_15_code, 3, some .int, [], 0, 1, [(8, 1)], i_SR_kind)
def i_SR_isOnStack : List (Nat × Instr × Nat) := [(0, .iload_n 1, 1), (1, .ifCond .lt 15, 3), (4, .iload_n 1, 1), (5, .aload_n 0, 1), (6, .getfield 53, 3), (9, .if_icmp .ge 7, 3), (12, .iconst 1, 1), (13, .goto 4, 3), (16, .iconst 0, 1), (17, .ireturn, 1)]
def m_SR_isOnStack : ZM := (⟨"StackReal", "isOnStack", "(I)Z"⟩, prog_1_method_20_code, 2, some .boolean, [], 0, 0, [], i_SR_isOnStack)
def i_La_exponent : List (Nat × Instr × Nat) := [(0, .aload_n 2, 1), (1, .iconst 0, 1), (2, .aload_n 0, 1), (3, .iload_n 1, 1), (4, .invokevirtual 43, 3), (7, .i2l, 1), (8, .lastore, 1), (9, .goto 6, 3), (12, .astore_n 3, 1), (13, .iconst 1, 1), (14, .ireturn, 1), (15, .iconst 0, 1), (16, .ireturn, 1)]
def m_La_exponent : ZM := (⟨"StackRealLaw", "exponent", "(LStackReal;I[J)I"⟩, method_11_code, 4, some .int, [(0, 9, 12, 13)], 8, 1, [], i_La_exponent)
def i_SR_exponent : List (Nat × Instr × Nat) := [(0, .aload_n 0, 1), (1, .iload_n 1, 1), (2, .invokevirtual 165, 3), (5, .ifCond .ne 13, 3), (8, .new 66, 3), (11, .dup, 1), (12, .ldc 168, 2), (14, .invokespecial 70, 3), (17, .athrow, 1), (18, .aload_n 0, 1), (19, .iload_n 1, 1), (20, .invokevirtual 134, 3), (23, .getfield 177, 3), (26, .ireturn, 1)]
def m_SR_exponent : ZM := (⟨"StackReal", "exponent", "(I)I"⟩, prog_1_method_16_code, 2, some .int, [], 0, 1, [(8, 1)], i_SR_exponent)
def i_La_significand : List (Nat × Instr × Nat) := [(0, .aload_n 2, 1), (1, .iconst 0, 1), (2, .aload_n 0, 1), (3, .iload_n 1, 1), (4, .invokevirtual 46, 3), (7, .lastore, 1), (8, .goto 6, 3), (11, .astore_n 3, 1), (12, .iconst 1, 1), (13, .ireturn, 1), (14, .iconst 0, 1), (15, .ireturn, 1)]
def m_La_significand : ZM := (⟨"StackRealLaw", "significand", "(LStackReal;I[J)I"⟩, method_12_code, 4, some .int, [(0, 8, 11, 13)], 8, 1, [], i_La_significand)
def i_SR_significand : List (Nat × Instr × Nat) := [(0, .aload_n 0, 1), (1, .iload_n 1, 1), (2, .invokevirtual 165, 3), (5, .ifCond .ne 13, 3), (8, .new 66, 3), (11, .dup, 1), (12, .ldc 168, 2), (14, .invokespecial 70, 3), (17, .athrow, 1), (18, .aload_n 0, 1), (19, .iload_n 1, 1), (20, .invokevirtual 134, 3), (23, .getfield 180, 3), (26, .lreturn, 1)]
def m_SR_significand : ZM := (⟨"StackReal", "significand", "(I)J"⟩, prog_1_method_17_code, 2, some .long, [], 0, 1, [(8, 1)], i_SR_significand)
def i_Mo_thrown : List (Nat × Instr × Nat) := [(0, .aload_n 0, 1), (1, .getfield 40, 3), (4, .ireturn, 1)]
def m_Mo_thrown : ZM := (⟨"StackRealModel", "thrown", "()I"⟩, prog_9_method_2_code, 1, some .int, [], 7, 0, [], i_Mo_thrown)
def i_Mo_control : List (Nat × Instr × Nat) := [(0, .aload_n 0, 1), (1, .iload_n 1, 1), (2, .bipush 24, 2), (4, .if_icmp .eq 15, 3), (7, .iload_n 1, 1), (8, .bipush 53, 2), (10, .if_icmp .eq 9, 3), (13, .iload_n 1, 1), (14, .bipush 64, 2), (16, .if_icmp .ne 20, 3), (19, .iload_n 2, 1), (20, .iconst 4, 1), (21, .invokestatic 138, 3), (24, .ifCond .ne 12, 3), (27, .iload_n 3, 1), (28, .bipush 32, 2), (30, .invokestatic 138, 3), (33, .ifCond .eq 7, 3), (36, .iconst 1, 1), (37, .goto 4, 3), (40, .iconst 0, 1), (41, .putfield 40, 3), (44, .aload_n 0, 1), (45, .getfield 40, 3), (48, .ifCond .le 4, 3), (51, .return_, 1), (52, .aload_n 0, 1), (53, .iload_n 1, 1), (54, .putfield 7, 3), (57, .aload_n 0, 1), (58, .iload_n 2, 1), (59, .putfield 69, 3), (62, .aload_n 0, 1), (63, .iload_n 3, 1), (64, .putfield 13, 3), (67, .return_, 1)]
def m_Mo_control : ZM := (⟨"StackRealModel", "control", "(III)V"⟩, prog_9_method_34_code, 4, none, [], 7, 0, [], i_Mo_control)
def i_Mo_out : List (Nat × Instr × Nat) := [(0, .iload_n 0, 1), (1, .ifCond .lt 8, 3), (4, .iload_n 0, 1), (5, .iload_n 1, 1), (6, .if_icmp .lt 7, 3), (9, .iconst 1, 1), (10, .goto 4, 3), (13, .iconst 0, 1), (14, .ireturn, 1)]
def m_Mo_out : ZM := (⟨"StackRealModel", "out", "(II)Z"⟩, prog_9_method_3_code, 2, some .boolean, [], 7, 0, [], i_Mo_out)
def i_Mo_operate : List (Nat × Instr × Nat) := [(0, .iload_n 1, 1), (1, .bipush 10, 2), (3, .if_icmp .eq 9, 3), (6, .iload_n 1, 1), (7, .bipush 11, 2), (9, .if_icmp .ne 7, 3), (12, .iconst 1, 1), (13, .goto 4, 3), (16, .iconst 0, 1), (17, .istore_n 3, 1), (18, .aload_n 0, 1), (19, .iload_n 1, 1), (20, .bipush 16, 2), (22, .invokestatic 138, 3), (25, .ifCond .ne 16, 3), (28, .iload_n 3, 1), (29, .ifCond .eq 16, 3), (32, .iload_n 2, 1), (33, .bipush 8, 2), (35, .invokestatic 138, 3), (38, .ifCond .eq 7, 3), (41, .iconst 1, 1), (42, .goto 4, 3), (45, .iconst 0, 1), (46, .putfield 40, 3), (49, .aload_n 0, 1), (50, .getfield 40, 3), (53, .ifCond .le 5, 3), (56, .iconst 0, 1), (57, .ireturn, 1), (58, .aload_n 0, 1), (59, .iload_n 1, 1), (60, .invokestatic 165, 3), (63, .invokevirtual 168, 3), (66, .iload_n 1, 1), (67, .iconst 4, 1), (68, .if_icmp .lt 15, 3), (71, .iload_n 1, 1), (72, .bipush 6, 2), (74, .if_icmp .eq 9, 3), (77, .iload_n 1, 1), (78, .bipush 13, 2), (80, .if_icmp .ne 7, 3), (83, .iconst 1, 1), (84, .goto 4, 3), (87, .iconst 0, 1), (88, .istore 4, 2), (90, .iload 4, 2), (92, .ifCond .eq 7, 3), (95, .iconst 2, 1), (96, .goto 24, 3), (99, .iload_n 3, 1), (100, .ifCond .eq 9, 3), (103, .iload_n 2, 1), (104, .iconst 1, 1), (105, .iadd, 1), (106, .goto 14, 3), (109, .iload_n 1, 1), (110, .bipush 14, 2), (112, .if_icmp .ge 7, 3), (115, .iconst 1, 1), (116, .goto 4, 3), (119, .iconst 0, 1), (120, .istore 5, 2), (122, .aload_n 0, 1), (123, .getfield 158, 3), (126, .iload 5, 2), (128, .if_icmp .ge 8, 3), (131, .aload_n 0, 1), (132, .invokevirtual 171, 3), (135, .ireturn, 1), (136, .iload 5, 2), (138, .ifCond .le 15, 3), (141, .aload_n 0, 1), (142, .aload_n 0, 1), (143, .getfield 158, 3), (146, .iconst 1, 1), (147, .isub, 1), (148, .bipush 8, 2), (150, .invokevirtual 125, 3), (153, .iload 4, 2), (155, .ifCond .eq 15, 3), (158, .aload_n 0, 1), (159, .aload_n 0, 1), (160, .getfield 158, 3), (163, .iconst 2, 1), (164, .isub, 1), (165, .bipush 9, 2), (167, .invokevirtual 125, 3), (170, .iload_n 1, 1), (171, .iconst 4, 1), (172, .if_icmp .ge 14, 3), (175, .aload_n 0, 1), (176, .iload_n 1, 1), (177, .invokevirtual 175, 3), (180, .aload_n 0, 1), (181, .iconst 2, 1), (182, .invokevirtual 178, 3), (185, .ireturn, 1), (186, .iload_n 1, 1), (187, .bipush 9, 2), (189, .if_icmp .le 10, 3), (192, .aload_n 0, 1), (193, .iload_n 1, 1), (194, .iload_n 2, 1), (195, .invokevirtual 181, 3), (198, .ireturn, 1), (199, .iload_n 1, 1), (200, .bipush 7, 2), (202, .if_icmp .ne 8, 3), (205, .aload_n 0, 1), (206, .invokevirtual 184, 3), (209, .ireturn, 1), (210, .aload_n 0, 1), (211, .iload_n 1, 1), (212, .invokevirtual 187, 3), (215, .aload_n 0, 1), (216, .iconst 1, 1), (217, .invokevirtual 178, 3), (220, .ireturn, 1)]
def m_Mo_operate : ZM := (⟨"StackRealModel", "operate", "(II)I"⟩, prog_9_method_41_code, 6, some .int, [], 7, 0, [], i_Mo_operate)
def i_Mo_cost : List (Nat × Instr × Nat) := [(0, .iload_n 0, 1), (1, .iconst 2, 1), (2, .if_icmp .ge 6, 3), (5, .bipush 8, 2), (7, .ireturn, 1), (8, .iload_n 0, 1), (9, .iconst 2, 1), (10, .if_icmp .ne 6, 3), (13, .bipush 12, 2), (15, .ireturn, 1), (16, .iload_n 0, 1), (17, .iconst 5, 1), (18, .if_icmp .ge 8, 3), (21, .bipush 20, 2), (23, .goto 15, 3), (26, .iload_n 0, 1), (27, .bipush 8, 2), (29, .if_icmp .ge 8, 3), (32, .bipush 6, 2), (34, .goto 4, 3), (37, .iconst 2, 1), (38, .ireturn, 1)]
def m_Mo_cost : ZM := (⟨"StackRealModel", "cost", "(I)I"⟩, prog_9_method_40_code, 1, some .int, [], 7, 0, [], i_Mo_cost)
def i_Mo_begin : List (Nat × Instr × Nat) := [(0, .aload_n 0, 1), (1, .aload_n 0, 1), (2, .getfield 146, 3), (5, .invokevirtual 152, 3), (8, .aload_n 0, 1), (9, .iload_n 1, 1), (10, .putfield 146, 3), (13, .aload_n 0, 1), (14, .iconst 0, 1), (15, .putfield 62, 3), (18, .return_, 1)]
def m_Mo_begin : ZM := (⟨"StackRealModel", "begin", "(I)V"⟩, prog_9_method_36_code, 2, none, [], 7, 0, [], i_Mo_begin)
def i_Mo_goOn : List (Nat × Instr × Nat) := [(0, .aload_n 0, 1), (1, .aload_n 0, 1), (2, .getfield 142, 3), (5, .iload_n 1, 1), (6, .i2l, 1), (7, .ladd, 1), (8, .putfield 142, 3), (11, .aload_n 0, 1), (12, .getfield 146, 3), (15, .ifCond .ne 4, 3), (18, .return_, 1), (19, .aload_n 0, 1), (20, .aload_n 0, 1), (21, .getfield 146, 3), (24, .iload_n 1, 1), (25, .if_icmp .le 12, 3), (28, .aload_n 0, 1), (29, .getfield 146, 3), (32, .iload_n 1, 1), (33, .isub, 1), (34, .goto 4, 3), (37, .iconst 0, 1), (38, .putfield 146, 3), (41, .aload_n 0, 1), (42, .getfield 146, 3), (45, .ifCond .ne 28, 3), (48, .aload_n 0, 1), (49, .getfield 34, 3), (52, .ifCond .lt 21, 3), (55, .aload_n 0, 1), (56, .getfield 31, 3), (59, .aload_n 0, 1), (60, .getfield 34, 3), (63, .aload_n 0, 1), (64, .getfield 149, 3), (67, .lastore, 1), (68, .aload_n 0, 1), (69, .iconst (-1), 1), (70, .putfield 34, 3), (73, .return_, 1)]
def m_Mo_goOn : ZM := (⟨"StackRealModel", "goOn", "(I)V"⟩, prog_9_method_35_code, 2, none, [], 7, 0, [], i_Mo_goOn)
def i_Mo_refuse : List (Nat × Instr × Nat) := [(0, .aload_n 0, 1), (1, .iconst 1, 1), (2, .putfield 62, 3), (5, .aload_n 0, 1), (6, .invokevirtual 161, 3), (9, .ifCond .eq 7, 3), (12, .iconst 0, 1), (13, .goto 7, 3), (16, .aload_n 0, 1), (17, .getfield 62, 3), (20, .ireturn, 1)]
def m_Mo_refuse : ZM := (⟨"StackRealModel", "refuse", "()I"⟩, prog_9_method_39_code, 1, some .int, [], 7, 0, [], i_Mo_refuse)
def i_Mo_throwing : List (Nat × Instr × Nat) := [(0, .aload_n 0, 1), (1, .aload_n 0, 1), (2, .getfield 155, 3), (5, .aload_n 0, 1), (6, .getfield 62, 3), (9, .ior, 1), (10, .putfield 155, 3), (13, .aload_n 0, 1), (14, .aload_n 0, 1), (15, .getfield 62, 3), (18, .aload_n 0, 1), (19, .getfield 13, 3), (22, .iconst (-1), 1), (23, .ixor, 1), (24, .iand, 1), (25, .ifCond .eq 7, 3), (28, .iconst 2, 1), (29, .goto 4, 3), (32, .iconst 0, 1), (33, .putfield 40, 3), (36, .aload_n 0, 1), (37, .getfield 40, 3), (40, .ifCond .le 7, 3), (43, .iconst 1, 1), (44, .goto 4, 3), (47, .iconst 0, 1), (48, .ireturn, 1)]
def m_Mo_throwing : ZM := (⟨"StackRealModel", "throwing", "()Z"⟩, prog_9_method_37_code, 1, some .boolean, [], 7, 0, [], i_Mo_throwing)
def i_Mo_copy : List (Nat × Instr × Nat) := [(0, .aload_n 0, 1), (1, .getfield 16, 3), (4, .iload_n 2, 1), (5, .aload_n 0, 1), (6, .getfield 16, 3), (9, .iload_n 1, 1), (10, .iaload, 1), (11, .iastore, 1), (12, .aload_n 0, 1), (13, .getfield 20, 3), (16, .iload_n 2, 1), (17, .aload_n 0, 1), (18, .getfield 20, 3), (21, .iload_n 1, 1), (22, .baload, 1), (23, .bastore, 1), (24, .aload_n 0, 1), (25, .getfield 24, 3), (28, .iload_n 2, 1), (29, .aload_n 0, 1), (30, .getfield 24, 3), (33, .iload_n 1, 1), (34, .iaload, 1), (35, .iastore, 1), (36, .aload_n 0, 1), (37, .getfield 27, 3), (40, .iload_n 2, 1), (41, .aload_n 0, 1), (42, .getfield 27, 3), (45, .iload_n 1, 1), (46, .laload, 1), (47, .lastore, 1), (48, .return_, 1)]
def m_Mo_copy : ZM := (⟨"StackRealModel", "copy", "(II)V"⟩, prog_9_method_16_code, 3, none, [], 7, 0, [], i_Mo_copy)
def i_Mo_reckon : List (Nat × Instr × Nat) := [(0, .iload_n 1, 1), (1, .iconst 1, 1), (2, .if_icmp .ne 36, 3), (5, .aload_n 0, 1), (6, .getfield 20, 3), (9, .bipush 8, 2), (11, .aload_n 0, 1), (12, .getfield 16, 3), (15, .bipush 8, 2), (17, .iaload, 1), (18, .iconst 3, 1), (19, .if_icmp .eq 17, 3), (22, .aload_n 0, 1), (23, .getfield 20, 3), (26, .bipush 8, 2), (28, .baload, 1), (29, .ifCond .ne 7, 3), (32, .iconst 1, 1), (33, .goto 4, 3), (36, .iconst 0, 1), (37, .bastore, 1), (38, .iload_n 1, 1), (39, .iconst 2, 1), (40, .if_icmp .ge 7, 3), (43, .aload_n 0, 1), (44, .invokevirtual 190, 3), (47, .iload_n 1, 1), (48, .iconst 2, 1), (49, .if_icmp .ne 7, 3), (52, .aload_n 0, 1), (53, .invokevirtual 193, 3), (56, .iload_n 1, 1), (57, .iconst 3, 1), (58, .if_icmp .ge 4, 3), (61, .return_, 1), (62, .aload_n 0, 1), (63, .bipush 8, 2), (65, .bipush 10, 2), (67, .invokevirtual 125, 3), (70, .aload_n 0, 1), (71, .bipush 9, 2), (73, .bipush 8, 2), (75, .invokevirtual 125, 3), (78, .aload_n 0, 1), (79, .bipush 10, 2), (81, .bipush 9, 2), (83, .invokevirtual 125, 3), (86, .aload_n 0, 1), (87, .invokevirtual 196, 3), (90, .return_, 1)]
def m_Mo_reckon : ZM := (⟨"StackRealModel", "reckon", "(I)V"⟩, prog_9_method_42_code, 2, none, [], 7, 0, [], i_Mo_reckon)
def i_Mo_sum : List (Nat × Instr × Nat) := [(0, .aload_n 0, 1), (1, .iconst 3, 1), (2, .invokevirtual 101, 3), (5, .ifCond .eq 12, 3), (8, .aload_n 0, 1), (9, .iconst 3, 1), (10, .iconst 0, 1), (11, .invokevirtual 65, 3), (14, .goto 277, 3), (17, .aload_n 0, 1), (18, .iconst 2, 1), (19, .invokevirtual 101, 3), (22, .ifCond .eq 90, 3), (25, .aload_n 0, 1), (26, .getfield 16, 3), (29, .bipush 8, 2), (31, .iaload, 1), (32, .aload_n 0, 1), (33, .getfield 16, 3), (36, .bipush 9, 2), (38, .iaload, 1), (39, .if_icmp .ne 7, 3), (42, .iconst 1, 1), (43, .goto 4, 3), (46, .iconst 0, 1), (47, .istore_n 1, 1), (48, .iload_n 1, 1), (49, .ifCond .eq 27, 3), (52, .aload_n 0, 1), (53, .getfield 20, 3), (56, .bipush 8, 2), (58, .baload, 1), (59, .aload_n 0, 1), (60, .getfield 20, 3), (63, .bipush 9, 2), (65, .baload, 1), (66, .if_icmp .eq 10, 3), (69, .aload_n 0, 1), (70, .invokevirtual 105, 3), (73, .goto 36, 3), (76, .aload_n 0, 1), (77, .iconst 2, 1), (78, .aload_n 0, 1), (79, .getfield 16, 3), (82, .bipush 8, 2), (84, .iaload, 1), (85, .iconst 2, 1), (86, .if_icmp .ne 13, 3), (89, .aload_n 0, 1), (90, .getfield 20, 3), (93, .bipush 8, 2), (95, .baload, 1), (96, .goto 10, 3), (99, .aload_n 0, 1), (100, .getfield 20, 3), (103, .bipush 9, 2), (105, .baload, 1), (106, .invokevirtual 65, 3), (109, .goto 182, 3), (112, .aload_n 0, 1), (113, .getfield 16, 3), (116, .bipush 8, 2), (118, .iaload, 1), (119, .ifCond .ne 61, 3), (122, .aload_n 0, 1), (123, .getfield 16, 3), (126, .bipush 9, 2), (128, .iaload, 1), (129, .ifCond .ne 51, 3), (132, .aload_n 0, 1), (133, .iconst 0, 1), (134, .aload_n 0, 1), (135, .getfield 20, 3), (138, .bipush 8, 2), (140, .baload, 1), (141, .aload_n 0, 1), (142, .getfield 20, 3), (145, .bipush 9, 2), (147, .baload, 1), (148, .if_icmp .ne 13, 3), (151, .aload_n 0, 1), (152, .getfield 20, 3), (155, .bipush 8, 2), (157, .baload, 1), (158, .goto 16, 3), (161, .aload_n 0, 1), (162, .getfield 69, 3), (165, .iconst 1, 1), (166, .if_icmp .ne 7, 3), (169, .iconst 1, 1), (170, .goto 4, 3), (173, .iconst 0, 1), (174, .invokevirtual 65, 3), (177, .goto 114, 3), (180, .aload_n 0, 1), (181, .iconst 0, 1), (182, .invokevirtual 101, 3), (185, .ifCond .eq 54, 3), (188, .aload_n 0, 1), (189, .getfield 16, 3), (192, .bipush 8, 2), (194, .iaload, 1), (195, .ifCond .ne 8, 3), (198, .bipush 9, 2), (200, .goto 5, 3), (203, .bipush 8, 2), (205, .istore_n 1, 1), (206, .aload_n 0, 1), (207, .iconst 0, 1), (208, .aload_n 0, 1), (209, .getfield 27, 3), (212, .iload_n 1, 1), (213, .laload, 1), (214, .invokevirtual 80, 3), (217, .aload_n 0, 1), (218, .aload_n 0, 1), (219, .getfield 20, 3), (222, .iload_n 1, 1), (223, .baload, 1), (224, .aload_n 0, 1), (225, .getfield 24, 3), (228, .iload_n 1, 1), (229, .iaload, 1), (230, .bipush 63, 2), (232, .isub, 1), (233, .invokevirtual 108, 3), (236, .goto 55, 3), (239, .aload_n 0, 1), (240, .aload_n 0, 1), (241, .getfield 24, 3), (244, .bipush 8, 2), (246, .iaload, 1), (247, .aload_n 0, 1), (248, .getfield 24, 3), (251, .bipush 9, 2), (253, .iaload, 1), (254, .if_icmp .ge 8, 3), (257, .bipush 9, 2), (259, .goto 5, 3), (262, .bipush 8, 2), (264, .aload_n 0, 1), (265, .getfield 24, 3), (268, .bipush 8, 2), (270, .iaload, 1), (271, .aload_n 0, 1), (272, .getfield 24, 3), (275, .bipush 9, 2), (277, .iaload, 1), (278, .if_icmp .ge 8, 3), (281, .bipush 8, 2), (283, .goto 5, 3), (286, .bipush 9, 2), (288, .invokevirtual 112, 3), (291, .return_, 1)]
def m_Mo_sum : ZM := (⟨"StackRealModel", "sum", "()V"⟩, prog_9_method_22_code, 2, none, [], 7, 0, [], i_Mo_sum)
def i_Mo_either : List (Nat × Instr × Nat) := [(0, .aload_n 0, 1), (1, .getfield 16, 3), (4, .bipush 8, 2), (6, .iaload, 1), (7, .iload_n 1, 1), (8, .if_icmp .eq 14, 3), (11, .aload_n 0, 1), (12, .getfield 16, 3), (15, .bipush 9, 2), (17, .iaload, 1), (18, .iload_n 1, 1), (19, .if_icmp .ne 7, 3), (22, .iconst 1, 1), (23, .goto 4, 3), (26, .iconst 0, 1), (27, .ireturn, 1)]
def m_Mo_either : ZM := (⟨"StackRealModel", "either", "(I)Z"⟩, prog_9_method_21_code, 2, some .boolean, [], 7, 0, [], i_Mo_either)
def i_Mo_special : List (Nat × Instr × Nat) := [(0, .aload_n 0, 1), (1, .getfield 16, 3), (4, .bipush 10, 2), (6, .iload_n 1, 1), (7, .iastore, 1), (8, .aload_n 0, 1), (9, .getfield 20, 3), (12, .bipush 10, 2), (14, .iload_n 1, 1), (15, .iconst 3, 1), (16, .if_icmp .eq 11, 3), (19, .iload_n 2, 1), (20, .ifCond .eq 7, 3), (23, .iconst 1, 1), (24, .goto 4, 3), (27, .iconst 0, 1), (28, .bastore, 1), (29, .aload_n 0, 1), (30, .getfield 24, 3), (33, .bipush 10, 2), (35, .iconst 0, 1), (36, .iastore, 1), (37, .aload_n 0, 1), (38, .getfield 27, 3), (41, .bipush 10, 2), (43, .lconst 0, 1), (44, .lastore, 1), (45, .return_, 1)]
def m_Mo_special : ZM := (⟨"StackRealModel", "special", "(IZ)V"⟩, prog_9_method_14_code, 3, none, [], 7, 0, [], i_Mo_special)
def i_Mo_invalid : List (Nat × Instr × Nat) := [(0, .aload_n 0, 1), (1, .aload_n 0, 1), (2, .getfield 62, 3), (5, .iconst 1, 1), (6, .ior, 1), (7, .putfield 62, 3), (10, .aload_n 0, 1), (11, .iconst 3, 1), (12, .iconst 0, 1), (13, .invokevirtual 65, 3), (16, .return_, 1)]
def m_Mo_invalid : ZM := (⟨"StackRealModel", "invalid", "()V"⟩, prog_9_method_15_code, 1, none, [], 7, 0, [], i_Mo_invalid)
def i_Mo_put : List (Nat × Instr × Nat) := [(0, .aload_n 0, 1), (1, .iload_n 1, 1), (2, .invokevirtual 43, 3), (5, .iconst 0, 1), (6, .istore 4, 2), (8, .iload 4, 2), (10, .iconst 4, 1), (11, .if_icmp .ge 33, 3), (14, .aload_n 0, 1), (15, .getfield 37, 3), (18, .bipush 32, 2), (20, .iload_n 1, 1), (21, .imul, 1), (22, .iload 4, 2), (24, .iadd, 1), (25, .lload_n 2, 1), (26, .bipush 16, 2), (28, .iload 4, 2), (30, .imul, 1), (31, .lushr, 1), (32, .ldc2_w 47, 3), (35, .land, 1), (36, .l2i, 1), (37, .iastore, 1), (38, .iinc 4 1, 3), (41, .goto (-33), 3), (44, .return_, 1)]
def m_Mo_put : ZM := (⟨"StackRealModel", "put", "(IJ)V"⟩, prog_9_method_5_code, 5, none, [], 7, 0, [], i_Mo_put)
def i_Mo_blank : List (Nat × Instr × Nat) := [(0, .iconst 0, 1), (1, .istore_n 2, 1), (2, .iload_n 2, 1), (3, .bipush 32, 2), (5, .if_icmp .ge 21, 3), (8, .aload_n 0, 1), (9, .getfield 37, 3), (12, .bipush 32, 2), (14, .iload_n 1, 1), (15, .imul, 1), (16, .iload_n 2, 1), (17, .iadd, 1), (18, .iconst 0, 1), (19, .iastore, 1), (20, .iinc 2 1, 3), (23, .goto (-21), 3), (26, .return_, 1)]
def m_Mo_blank : ZM := (⟨"StackRealModel", "blank", "(I)V"⟩, prog_9_method_4_code, 3, none, [], 7, 0, [], i_Mo_blank)
def i_Mo_result : List (Nat × Instr × Nat) := [(0, .aload_n 0, 1), (1, .iload_n 1, 1), (2, .iload_n 2, 1), (3, .aload_n 0, 1), (4, .getfield 7, 3), (7, .sipush 16383, 3), (10, .invokevirtual 97, 3), (13, .return_, 1)]
def m_Mo_result : ZM := (⟨"StackRealModel", "result", "(ZI)V"⟩, prog_9_method_20_code, 3, none, [], 7, 0, [], i_Mo_result)
def i_Mo_round : List (Nat × Instr × Nat) := [(0, .aload_n 0, 1), (1, .iconst 0, 1), (2, .invokevirtual 53, 3), (5, .istore 5, 2), (7, .iload 5, 2), (9, .iconst 1, 1), (10, .iadd, 1), (11, .iload_n 3, 1), (12, .isub, 1), (13, .istore 6, 2), (15, .iload 5, 2), (17, .iload_n 2, 1), (18, .iadd, 1), (19, .istore 7, 2), (21, .iload 6, 2), (23, .ifCond .le 17, 3), (26, .aload_n 0, 1), (27, .iload 6, 2), (29, .iload_n 1, 1), (30, .invokevirtual 72, 3), (33, .ifCond .eq 7, 3), (36, .iconst 1, 1), (37, .goto 4, 3), (40, .iconst 0, 1), (41, .istore 8, 2), (43, .aload_n 0, 1), (44, .iconst 0, 1), (45, .iconst 1, 1), (46, .iload 6, 2), (48, .ineg, 1), (49, .invokevirtual 76, 3), (52, .iload 8, 2), (54, .ifCond .eq 36, 3), (57, .aload_n 0, 1), (58, .iconst 2, 1), (59, .lconst 1, 1), (60, .invokevirtual 80, 3), (63, .aload_n 0, 1), (64, .iconst 1, 1), (65, .iconst 2, 1), (66, .iconst 1, 1), (67, .invokevirtual 84, 3), (70, .aload_n 0, 1), (71, .iconst 1, 1), (72, .invokevirtual 53, 3), (75, .iload_n 3, 1), (76, .if_icmp .ne 10, 3), (79, .iload 7, 2), (81, .iconst 1, 1), (82, .iadd, 1), (83, .goto 5, 3), (86, .iload 7, 2), (88, .istore 7, 2), (90, .aload_n 0, 1), (91, .iconst 1, 1), (92, .iconst 2, 1), (93, .bipush 63, 2), (95, .aload_n 0, 1), (96, .iconst 1, 1), (97, .invokevirtual 53, 3), (100, .isub, 1), (101, .invokevirtual 76, 3), (104, .aload_n 0, 1), (105, .getfield 16, 3), (108, .bipush 10, 2), (110, .iconst 1, 1), (111, .iastore, 1), (112, .aload_n 0, 1), (113, .getfield 20, 3), (116, .bipush 10, 2), (118, .iload_n 1, 1), (119, .bastore, 1), (120, .aload_n 0, 1), (121, .getfield 24, 3), (124, .bipush 10, 2), (126, .iload 7, 2), (128, .iastore, 1), (129, .aload_n 0, 1), (130, .getfield 27, 3), (133, .bipush 10, 2), (135, .aload_n 0, 1), (136, .iconst 2, 1), (137, .invokevirtual 87, 3), (140, .lastore, 1), (141, .iload 7, 2), (143, .iconst 1, 1), (144, .iload 4, 2), (146, .isub, 1), (147, .if_icmp .ge 23, 3), (150, .aload_n 0, 1), (151, .aload_n 0, 1), (152, .getfield 62, 3), (155, .bipush 8, 2), (157, .ior, 1), (158, .bipush 16, 2), (160, .ior, 1), (161, .putfield 62, 3), (164, .aload_n 0, 1), (165, .iconst 0, 1), (166, .iload_n 1, 1), (167, .invokevirtual 65, 3), (170, .iload 7, 2), (172, .iload 4, 2), (174, .if_icmp .le 11, 3), (177, .aload_n 0, 1), (178, .iload_n 1, 1), (179, .iload_n 3, 1), (180, .iload 4, 2), (182, .invokevirtual 91, 3), (185, .return_, 1)]
def m_Mo_round : ZM := (⟨"StackRealModel", "round", "(ZIII)V"⟩, prog_9_method_18_code, 9, none, [], 7, 0, [], i_Mo_round)
def i_Mo_top : List (Nat × Instr × Nat) := [(0, .sipush 511, 3), (3, .istore_n 2, 1), (4, .iload_n 2, 1), (5, .ifCond .lt 18, 3), (8, .aload_n 0, 1), (9, .iload_n 1, 1), (10, .iload_n 2, 1), (11, .invokevirtual 49, 3), (14, .ifCond .ne 9, 3), (17, .iinc 2 (-1), 3), (20, .goto (-16), 3), (23, .iload_n 2, 1), (24, .ireturn, 1)]
def m_Mo_top : ZM := (⟨"StackRealModel", "top", "(I)I"⟩, prog_9_method_8_code, 3, some .int, [], 7, 0, [], i_Mo_top)
def i_Mo_bit : List (Nat × Instr × Nat) := [(0, .iload_n 2, 1), (1, .ifCond .ge 7, 3), (4, .iconst 0, 1), (5, .goto 24, 3), (8, .aload_n 0, 1), (9, .getfield 37, 3), (12, .bipush 32, 2), (14, .iload_n 1, 1), (15, .imul, 1), (16, .iload_n 2, 1), (17, .bipush 16, 2), (19, .idiv, 1), (20, .iadd, 1), (21, .iaload, 1), (22, .iload_n 2, 1), (23, .bipush 16, 2), (25, .irem, 1), (26, .ishr, 1), (27, .iconst 1, 1), (28, .iand, 1), (29, .ireturn, 1)]
def m_Mo_bit : ZM := (⟨"StackRealModel", "bit", "(II)I"⟩, prog_9_method_6_code, 3, some .int, [], 7, 0, [], i_Mo_bit)
def i_Mo_goesUp : List (Nat × Instr × Nat) := [(0, .aload_n 0, 1), (1, .iconst 0, 1), (2, .iload_n 1, 1), (3, .iconst 1, 1), (4, .isub, 1), (5, .invokevirtual 49, 3), (8, .iconst 1, 1), (9, .if_icmp .ne 7, 3), (12, .iconst 1, 1), (13, .goto 4, 3), (16, .iconst 0, 1), (17, .istore_n 3, 1), (18, .iconst 0, 1), (19, .istore 4, 2), (21, .iconst 0, 1), (22, .istore 5, 2), (24, .iload 5, 2), (26, .iload_n 1, 1), (27, .iconst 1, 1), (28, .isub, 1), (29, .if_icmp .ge 32, 3), (32, .iload 4, 2), (34, .ifCond .ne 14, 3), (37, .aload_n 0, 1), (38, .iconst 0, 1), (39, .iload 5, 2), (41, .invokevirtual 49, 3), (44, .iconst 1, 1), (45, .if_icmp .ne 7, 3), (48, .iconst 1, 1), (49, .goto 4, 3), (52, .iconst 0, 1), (53, .istore 4, 2), (55, .iinc 5 1, 3), (58, .goto (-34), 3), (61, .iload_n 3, 1), (62, .ifCond .ne 10, 3), (65, .iload 4, 2), (67, .ifCond .ne 5, 3), (70, .iconst 0, 1), (71, .ireturn, 1), (72, .aload_n 0, 1), (73, .aload_n 0, 1), (74, .getfield 62, 3), (77, .bipush 16, 2), (79, .ior, 1), (80, .putfield 62, 3), (83, .aload_n 0, 1), (84, .getfield 69, 3), (87, .ifCond .ne 28, 3), (90, .iload_n 3, 1), (91, .ifCond .eq 22, 3), (94, .iload 4, 2), (96, .ifCond .ne 13, 3), (99, .aload_n 0, 1), (100, .iconst 0, 1), (101, .iload_n 1, 1), (102, .invokevirtual 49, 3), (105, .iconst 1, 1), (106, .if_icmp .ne 7, 3), (109, .iconst 1, 1), (110, .goto 4, 3), (113, .iconst 0, 1), (114, .ireturn, 1), (115, .aload_n 0, 1), (116, .getfield 69, 3), (119, .iconst 1, 1), (120, .if_icmp .ne 7, 3), (123, .iload_n 2, 1), (124, .goto 20, 3), (127, .aload_n 0, 1), (128, .getfield 69, 3), (131, .iconst 2, 1), (132, .if_icmp .ne 11, 3), (135, .iload_n 2, 1), (136, .ifCond .ne 7, 3), (139, .iconst 1, 1), (140, .goto 4, 3), (143, .iconst 0, 1), (144, .ireturn, 1)]
def m_Mo_goesUp : ZM := (⟨"StackRealModel", "goesUp", "(IZ)Z"⟩, prog_9_method_17_code, 6, some .boolean, [], 7, 0, [], i_Mo_goesUp)
def i_Mo_shift : List (Nat × Instr × Nat) := [(0, .aload_n 0, 1), (1, .iload_n 2, 1), (2, .invokevirtual 43, 3), (5, .aload_n 0, 1), (6, .iload_n 1, 1), (7, .invokevirtual 53, 3), (10, .istore 4, 2), (12, .iload_n 3, 1), (13, .ifCond .ge 8, 3), (16, .iload_n 3, 1), (17, .ineg, 1), (18, .goto 4, 3), (21, .iconst 0, 1), (22, .istore 5, 2), (24, .iload 5, 2), (26, .iload 4, 2), (28, .if_icmp .gt 29, 3), (31, .aload_n 0, 1), (32, .iload_n 1, 1), (33, .iload 5, 2), (35, .invokevirtual 49, 3), (38, .iconst 1, 1), (39, .if_icmp .ne 12, 3), (42, .aload_n 0, 1), (43, .iload_n 2, 1), (44, .iload 5, 2), (46, .iload_n 3, 1), (47, .iadd, 1), (48, .invokevirtual 57, 3), (51, .iinc 5 1, 3), (54, .goto (-30), 3), (57, .return_, 1)]
def m_Mo_shift : ZM := (⟨"StackRealModel", "shift", "(III)V"⟩, prog_9_method_9_code, 6, none, [], 7, 0, [], i_Mo_shift)
def i_Mo_setBit : List (Nat × Instr × Nat) := [(0, .aload_n 0, 1), (1, .getfield 37, 3), (4, .bipush 32, 2), (6, .iload_n 1, 1), (7, .imul, 1), (8, .iload_n 2, 1), (9, .bipush 16, 2), (11, .idiv, 1), (12, .iadd, 1), (13, .aload_n 0, 1), (14, .getfield 37, 3), (17, .bipush 32, 2), (19, .iload_n 1, 1), (20, .imul, 1), (21, .iload_n 2, 1), (22, .bipush 16, 2), (24, .idiv, 1), (25, .iadd, 1), (26, .iaload, 1), (27, .iconst 1, 1), (28, .iload_n 2, 1), (29, .bipush 16, 2), (31, .irem, 1), (32, .ishl, 1), (33, .ior, 1), (34, .iastore, 1), (35, .return_, 1)]
def m_Mo_setBit : ZM := (⟨"StackRealModel", "setBit", "(II)V"⟩, prog_9_method_7_code, 3, none, [], 7, 0, [], i_Mo_setBit)
def i_Mo_add : List (Nat × Instr × Nat) := [(0, .iconst 0, 1), (1, .istore 4, 2), (3, .iconst 0, 1), (4, .istore 5, 2), (6, .iload 5, 2), (8, .bipush 32, 2), (10, .if_icmp .ge 65, 3), (13, .aload_n 0, 1), (14, .getfield 37, 3), (17, .bipush 32, 2), (19, .iload_n 1, 1), (20, .imul, 1), (21, .iload 5, 2), (23, .iadd, 1), (24, .iaload, 1), (25, .iload_n 3, 1), (26, .aload_n 0, 1), (27, .getfield 37, 3), (30, .bipush 32, 2), (32, .iload_n 2, 1), (33, .imul, 1), (34, .iload 5, 2), (36, .iadd, 1), (37, .iaload, 1), (38, .imul, 1), (39, .iadd, 1), (40, .iload 4, 2), (42, .iadd, 1), (43, .istore 6, 2), (45, .aload_n 0, 1), (46, .getfield 37, 3), (49, .bipush 32, 2), (51, .iload_n 1, 1), (52, .imul, 1), (53, .iload 5, 2), (55, .iadd, 1), (56, .iload 6, 2), (58, .ldc 61, 2), (60, .iand, 1), (61, .iastore, 1), (62, .iload 6, 2), (64, .bipush 16, 2), (66, .ishr, 1), (67, .istore 4, 2), (69, .iinc 5 1, 3), (72, .goto (-66), 3), (75, .return_, 1)]
def m_Mo_add : ZM := (⟨"StackRealModel", "add", "(III)V"⟩, prog_9_method_10_code, 7, none, [], 7, 0, [], i_Mo_add)
def i_Mo_lowest : List (Nat × Instr × Nat) := [(0, .lconst 0, 1), (1, .lstore_n 2, 1), (2, .iconst 3, 1), (3, .istore 4, 2), (5, .iload 4, 2), (7, .ifCond .lt 28, 3), (10, .lload_n 2, 1), (11, .bipush 16, 2), (13, .lshl, 1), (14, .aload_n 0, 1), (15, .getfield 37, 3), (18, .bipush 32, 2), (20, .iload_n 1, 1), (21, .imul, 1), (22, .iload 4, 2), (24, .iadd, 1), (25, .iaload, 1), (26, .i2l, 1), (27, .lor, 1), (28, .lstore_n 2, 1), (29, .iinc 4 (-1), 3), (32, .goto (-27), 3), (35, .lload_n 2, 1), (36, .lreturn, 1)]
def m_Mo_lowest : ZM := (⟨"StackRealModel", "lowest", "(I)J"⟩, prog_9_method_13_code, 5, some .long, [], 7, 0, [], i_Mo_lowest)
def i_Mo_tooLarge : List (Nat × Instr × Nat) := [(0, .aload_n 0, 1), (1, .aload_n 0, 1), (2, .getfield 62, 3), (5, .iconst 4, 1), (6, .ior, 1), (7, .bipush 16, 2), (9, .ior, 1), (10, .putfield 62, 3), (13, .aload_n 0, 1), (14, .getfield 69, 3), (17, .iconst 3, 1), (18, .if_icmp .eq 27, 3), (21, .aload_n 0, 1), (22, .getfield 69, 3), (25, .iconst 1, 1), (26, .if_icmp .ne 7, 3), (29, .iload_n 1, 1), (30, .ifCond .eq 15, 3), (33, .aload_n 0, 1), (34, .getfield 69, 3), (37, .iconst 2, 1), (38, .if_icmp .ne 11, 3), (41, .iload_n 1, 1), (42, .ifCond .eq 7, 3), (45, .iconst 1, 1), (46, .goto 4, 3), (49, .iconst 0, 1), (50, .istore 4, 2), (52, .aload_n 0, 1), (53, .iconst 2, 1), (54, .iload_n 1, 1), (55, .invokevirtual 65, 3), (58, .iload 4, 2), (60, .ifCond .ne 4, 3), (63, .return_, 1), (64, .aload_n 0, 1), (65, .getfield 16, 3), (68, .bipush 10, 2), (70, .iconst 1, 1), (71, .iastore, 1), (72, .aload_n 0, 1), (73, .getfield 24, 3), (76, .bipush 10, 2), (78, .iload_n 3, 1), (79, .iastore, 1), (80, .aload_n 0, 1), (81, .getfield 27, 3), (84, .bipush 10, 2), (86, .ldc2_w 95, 3), (89, .bipush 64, 2), (91, .iload_n 2, 1), (92, .isub, 1), (93, .lshl, 1), (94, .lastore, 1), (95, .return_, 1)]
def m_Mo_tooLarge : ZM := (⟨"StackRealModel", "tooLarge", "(ZII)V"⟩, prog_9_method_19_code, 5, none, [], 7, 0, [], i_Mo_tooLarge)
def i_Mo_finiteSum : List (Nat × Instr × Nat) := [(0, .aload_n 0, 1), (1, .getfield 24, 3), (4, .iload_n 1, 1), (5, .iaload, 1), (6, .aload_n 0, 1), (7, .getfield 24, 3), (10, .iload_n 2, 1), (11, .iaload, 1), (12, .isub, 1), (13, .istore_n 3, 1), (14, .iload_n 3, 1), (15, .bipush 70, 2), (17, .if_icmp .le 7, 3), (20, .iconst 1, 1), (21, .goto 4, 3), (24, .iconst 0, 1), (25, .istore 4, 2), (27, .aload_n 0, 1), (28, .iconst 1, 1), (29, .aload_n 0, 1), (30, .getfield 27, 3), (33, .iload_n 1, 1), (34, .laload, 1), (35, .invokevirtual 80, 3), (38, .aload_n 0, 1), (39, .iconst 1, 1), (40, .iconst 0, 1), (41, .iload 4, 2), (43, .ifCond .eq 8, 3), (46, .bipush 10, 2), (48, .goto 4, 3), (51, .iload_n 3, 1), (52, .invokevirtual 76, 3), (55, .aload_n 0, 1), (56, .iconst 1, 1), (57, .iload 4, 2), (59, .ifCond .eq 7, 3), (62, .lconst 1, 1), (63, .goto 9, 3), (66, .aload_n 0, 1), (67, .getfield 27, 3), (70, .iload_n 2, 1), (71, .laload, 1), (72, .invokevirtual 80, 3), (75, .iload 4, 2), (77, .ifCond .eq 15, 3), (80, .aload_n 0, 1), (81, .getfield 24, 3), (84, .iload_n 1, 1), (85, .iaload, 1), (86, .bipush 73, 2), (88, .isub, 1), (89, .goto 12, 3), (92, .aload_n 0, 1), (93, .getfield 24, 3), (96, .iload_n 2, 1), (97, .iaload, 1), (98, .bipush 63, 2), (100, .isub, 1), (101, .istore 5, 2), (103, .aload_n 0, 1), (104, .getfield 20, 3), (107, .iload_n 1, 1), (108, .baload, 1), (109, .istore 6, 2), (111, .aload_n 0, 1), (112, .getfield 20, 3), (115, .iload_n 1, 1), (116, .baload, 1), (117, .aload_n 0, 1), (118, .getfield 20, 3), (121, .iload_n 2, 1), (122, .baload, 1), (123, .if_icmp .ne 13, 3), (126, .aload_n 0, 1), (127, .iconst 0, 1), (128, .iconst 1, 1), (129, .iconst 1, 1), (130, .invokevirtual 84, 3), (133, .goto 44, 3), (136, .aload_n 0, 1), (137, .iconst 0, 1), (138, .iconst 1, 1), (139, .invokevirtual 115, 3), (142, .ifCond .lt 13, 3), (145, .aload_n 0, 1), (146, .iconst 0, 1), (147, .iconst 1, 1), (148, .iconst (-1), 1), (149, .invokevirtual 84, 3), (152, .goto 25, 3), (155, .aload_n 0, 1), (156, .iconst 1, 1), (157, .iconst 0, 1), (158, .iconst (-1), 1), (159, .invokevirtual 84, 3), (162, .aload_n 0, 1), (163, .iconst 1, 1), (164, .iconst 0, 1), (165, .iconst 0, 1), (166, .invokevirtual 76, 3), (169, .aload_n 0, 1), (170, .getfield 20, 3), (173, .iload_n 2, 1), (174, .baload, 1), (175, .istore 6, 2), (177, .aload_n 0, 1), (178, .iconst 0, 1), (179, .invokevirtual 53, 3), (182, .ifCond .ge 24, 3), (185, .aload_n 0, 1), (186, .iconst 0, 1), (187, .aload_n 0, 1), (188, .getfield 69, 3), (191, .iconst 1, 1), (192, .if_icmp .ne 7, 3), (195, .iconst 1, 1), (196, .goto 4, 3), (199, .iconst 0, 1), (200, .invokevirtual 65, 3), (203, .goto 11, 3), (206, .aload_n 0, 1), (207, .iload 6, 2), (209, .iload 5, 2), (211, .invokevirtual 108, 3), (214, .return_, 1)]
def m_Mo_finiteSum : ZM := (⟨"StackRealModel", "finiteSum", "(II)V"⟩, prog_9_method_23_code, 7, none, [], 7, 0, [], i_Mo_finiteSum)
def i_Mo_compareRows : List (Nat × Instr × Nat) := [(0, .iconst 0, 1), (1, .istore_n 3, 1), (2, .iconst 0, 1), (3, .istore 4, 2), (5, .iload 4, 2), (7, .bipush 32, 2), (9, .if_icmp .ge 56, 3), (12, .aload_n 0, 1), (13, .getfield 37, 3), (16, .bipush 32, 2), (18, .iload_n 1, 1), (19, .imul, 1), (20, .iload 4, 2), (22, .iadd, 1), (23, .iaload, 1), (24, .aload_n 0, 1), (25, .getfield 37, 3), (28, .bipush 32, 2), (30, .iload_n 2, 1), (31, .imul, 1), (32, .iload 4, 2), (34, .iadd, 1), (35, .iaload, 1), (36, .isub, 1), (37, .istore 5, 2), (39, .iload 5, 2), (41, .ifCond .ne 7, 3), (44, .iload_n 3, 1), (45, .goto 13, 3), (48, .iload 5, 2), (50, .ifCond .le 7, 3), (53, .iconst 1, 1), (54, .goto 4, 3), (57, .iconst (-1), 1), (58, .istore_n 3, 1), (59, .iinc 4 1, 3), (62, .goto (-57), 3), (65, .iload_n 3, 1), (66, .ireturn, 1)]
def m_Mo_compareRows : ZM := (⟨"StackRealModel", "compareRows", "(II)I"⟩, prog_9_method_11_code, 6, some .int, [], 7, 0, [], i_Mo_compareRows)
def i_Mo_product : List (Nat × Instr × Nat) := [(0, .aload_n 0, 1), (1, .getfield 20, 3), (4, .bipush 8, 2), (6, .baload, 1), (7, .aload_n 0, 1), (8, .getfield 20, 3), (11, .bipush 9, 2), (13, .baload, 1), (14, .if_icmp .eq 7, 3), (17, .iconst 1, 1), (18, .goto 4, 3), (21, .iconst 0, 1), (22, .istore_n 1, 1), (23, .aload_n 0, 1), (24, .iconst 3, 1), (25, .invokevirtual 101, 3), (28, .ifCond .eq 12, 3), (31, .aload_n 0, 1), (32, .iconst 3, 1), (33, .iconst 0, 1), (34, .invokevirtual 65, 3), (37, .goto 114, 3), (40, .aload_n 0, 1), (41, .iconst 0, 1), (42, .invokevirtual 101, 3), (45, .ifCond .eq 18, 3), (48, .aload_n 0, 1), (49, .iconst 2, 1), (50, .invokevirtual 101, 3), (53, .ifCond .eq 10, 3), (56, .aload_n 0, 1), (57, .invokevirtual 105, 3), (60, .goto 91, 3), (63, .aload_n 0, 1), (64, .iconst 2, 1), (65, .invokevirtual 101, 3), (68, .ifCond .eq 12, 3), (71, .aload_n 0, 1), (72, .iconst 2, 1), (73, .iload_n 1, 1), (74, .invokevirtual 65, 3), (77, .goto 74, 3), (80, .aload_n 0, 1), (81, .iconst 0, 1), (82, .invokevirtual 101, 3), (85, .ifCond .eq 12, 3), (88, .aload_n 0, 1), (89, .iconst 0, 1), (90, .iload_n 1, 1), (91, .invokevirtual 65, 3), (94, .goto 57, 3), (97, .aload_n 0, 1), (98, .iconst 1, 1), (99, .aload_n 0, 1), (100, .getfield 27, 3), (103, .bipush 8, 2), (105, .laload, 1), (106, .invokevirtual 80, 3), (109, .aload_n 0, 1), (110, .iconst 2, 1), (111, .aload_n 0, 1), (112, .getfield 27, 3), (115, .bipush 9, 2), (117, .laload, 1), (118, .invokevirtual 80, 3), (121, .aload_n 0, 1), (122, .iconst 1, 1), (123, .iconst 2, 1), (124, .iconst 0, 1), (125, .invokevirtual 118, 3), (128, .aload_n 0, 1), (129, .iload_n 1, 1), (130, .aload_n 0, 1), (131, .getfield 24, 3), (134, .bipush 8, 2), (136, .iaload, 1), (137, .aload_n 0, 1), (138, .getfield 24, 3), (141, .bipush 9, 2), (143, .iaload, 1), (144, .iadd, 1), (145, .bipush 126, 2), (147, .isub, 1), (148, .invokevirtual 108, 3), (151, .return_, 1)]
def m_Mo_product : ZM := (⟨"StackRealModel", "product", "()V"⟩, prog_9_method_24_code, 2, none, [], 7, 0, [], i_Mo_product)
def i_Mo_times : List (Nat × Instr × Nat) := [(0, .aload_n 0, 1), (1, .iload_n 3, 1), (2, .invokevirtual 43, 3), (5, .iconst 0, 1), (6, .istore 4, 2), (8, .iload 4, 2), (10, .bipush 16, 2), (12, .if_icmp .ge 109, 3), (15, .lconst 0, 1), (16, .lstore 5, 2), (18, .iconst 0, 1), (19, .istore 7, 2), (21, .iload 7, 2), (23, .iload 4, 2), (25, .iadd, 1), (26, .bipush 32, 2), (28, .if_icmp .ge 87, 3), (31, .aload_n 0, 1), (32, .getfield 37, 3), (35, .bipush 32, 2), (37, .iload_n 1, 1), (38, .imul, 1), (39, .iload 4, 2), (41, .iadd, 1), (42, .iaload, 1), (43, .i2l, 1), (44, .aload_n 0, 1), (45, .getfield 37, 3), (48, .bipush 32, 2), (50, .iload_n 2, 1), (51, .imul, 1), (52, .iload 7, 2), (54, .iadd, 1), (55, .iaload, 1), (56, .i2l, 1), (57, .lmul, 1), (58, .aload_n 0, 1), (59, .getfield 37, 3), (62, .bipush 32, 2), (64, .iload_n 3, 1), (65, .imul, 1), (66, .iload 4, 2), (68, .iadd, 1), (69, .iload 7, 2), (71, .iadd, 1), (72, .iaload, 1), (73, .i2l, 1), (74, .ladd, 1), (75, .lload 5, 2), (77, .ladd, 1), (78, .lstore 8, 2), (80, .aload_n 0, 1), (81, .getfield 37, 3), (84, .bipush 32, 2), (86, .iload_n 3, 1), (87, .imul, 1), (88, .iload 4, 2), (90, .iadd, 1), (91, .iload 7, 2), (93, .iadd, 1), (94, .lload 8, 2), (96, .ldc2_w 47, 3), (99, .land, 1), (100, .l2i, 1), (101, .iastore, 1), (102, .lload 8, 2), (104, .bipush 16, 2), (106, .lshr, 1), (107, .lstore 5, 2), (109, .iinc 7 1, 3), (112, .goto (-91), 3), (115, .iinc 4 1, 3), (118, .goto (-110), 3), (121, .return_, 1)]
def m_Mo_times : ZM := (⟨"StackRealModel", "times", "(III)V"⟩, prog_9_method_12_code, 10, none, [], 7, 0, [], i_Mo_times)
def i_Mo_quotient : List (Nat × Instr × Nat) := [(0, .aload_n 0, 1), (1, .getfield 20, 3), (4, .bipush 8, 2), (6, .baload, 1), (7, .aload_n 0, 1), (8, .getfield 20, 3), (11, .bipush 9, 2), (13, .baload, 1), (14, .if_icmp .eq 7, 3), (17, .iconst 1, 1), (18, .goto 4, 3), (21, .iconst 0, 1), (22, .istore_n 1, 1), (23, .aload_n 0, 1), (24, .iconst 3, 1), (25, .invokevirtual 101, 3), (28, .ifCond .eq 12, 3), (31, .aload_n 0, 1), (32, .iconst 3, 1), (33, .iconst 0, 1), (34, .invokevirtual 65, 3), (37, .goto 122, 3), (40, .aload_n 0, 1), (41, .getfield 16, 3), (44, .bipush 8, 2), (46, .iaload, 1), (47, .aload_n 0, 1), (48, .getfield 16, 3), (51, .bipush 9, 2), (53, .iaload, 1), (54, .if_icmp .ne 21, 3), (57, .aload_n 0, 1), (58, .getfield 16, 3), (61, .bipush 8, 2), (63, .iaload, 1), (64, .iconst 1, 1), (65, .if_icmp .eq 10, 3), (68, .aload_n 0, 1), (69, .invokevirtual 105, 3), (72, .goto 87, 3), (75, .aload_n 0, 1), (76, .getfield 16, 3), (79, .bipush 8, 2), (81, .iaload, 1), (82, .iconst 2, 1), (83, .if_icmp .ne 12, 3), (86, .aload_n 0, 1), (87, .iconst 2, 1), (88, .iload_n 1, 1), (89, .invokevirtual 65, 3), (92, .goto 67, 3), (95, .aload_n 0, 1), (96, .getfield 16, 3), (99, .bipush 9, 2), (101, .iaload, 1), (102, .iconst 2, 1), (103, .if_icmp .eq 13, 3), (106, .aload_n 0, 1), (107, .getfield 16, 3), (110, .bipush 8, 2), (112, .iaload, 1), (113, .ifCond .ne 12, 3), (116, .aload_n 0, 1), (117, .iconst 0, 1), (118, .iload_n 1, 1), (119, .invokevirtual 65, 3), (122, .goto 37, 3), (125, .aload_n 0, 1), (126, .getfield 16, 3), (129, .bipush 9, 2), (131, .iaload, 1), (132, .ifCond .ne 22, 3), (135, .aload_n 0, 1), (136, .aload_n 0, 1), (137, .getfield 62, 3), (140, .iconst 2, 1), (141, .ior, 1), (142, .putfield 62, 3), (145, .aload_n 0, 1), (146, .iconst 2, 1), (147, .iload_n 1, 1), (148, .invokevirtual 65, 3), (151, .goto 8, 3), (154, .aload_n 0, 1), (155, .iload_n 1, 1), (156, .invokevirtual 121, 3), (159, .return_, 1)]
def m_Mo_quotient : ZM := (⟨"StackRealModel", "quotient", "()V"⟩, prog_9_method_25_code, 2, none, [], 7, 0, [], i_Mo_quotient)
def i_Mo_finiteQuotient : List (Nat × Instr × Nat) := [(0, .aload_n 0, 1), (1, .iconst 0, 1), (2, .invokevirtual 43, 3), (5, .aload_n 0, 1), (6, .iconst 1, 1), (7, .aload_n 0, 1), (8, .getfield 27, 3), (11, .bipush 8, 2), (13, .laload, 1), (14, .invokevirtual 80, 3), (17, .aload_n 0, 1), (18, .iconst 2, 1), (19, .aload_n 0, 1), (20, .getfield 27, 3), (23, .bipush 9, 2), (25, .laload, 1), (26, .invokevirtual 80, 3), (29, .iconst 0, 1), (30, .istore_n 2, 1), (31, .iload_n 2, 1), (32, .bipush 80, 2), (34, .if_icmp .ge 59, 3), (37, .aload_n 0, 1), (38, .iconst 0, 1), (39, .iconst 3, 1), (40, .iconst 1, 1), (41, .invokevirtual 76, 3), (44, .aload_n 0, 1), (45, .iconst 3, 1), (46, .iconst 0, 1), (47, .iconst 0, 1), (48, .invokevirtual 76, 3), (51, .aload_n 0, 1), (52, .iconst 1, 1), (53, .iconst 2, 1), (54, .invokevirtual 115, 3), (57, .ifCond .lt 16, 3), (60, .aload_n 0, 1), (61, .iconst 1, 1), (62, .iconst 2, 1), (63, .iconst (-1), 1), (64, .invokevirtual 84, 3), (67, .aload_n 0, 1), (68, .iconst 0, 1), (69, .iconst 0, 1), (70, .invokevirtual 57, 3), (73, .aload_n 0, 1), (74, .iconst 1, 1), (75, .iconst 3, 1), (76, .iconst 1, 1), (77, .invokevirtual 76, 3), (80, .aload_n 0, 1), (81, .iconst 3, 1), (82, .iconst 1, 1), (83, .iconst 0, 1), (84, .invokevirtual 76, 3), (87, .iinc 2 1, 3), (90, .goto (-59), 3), (93, .aload_n 0, 1), (94, .iconst 0, 1), (95, .iconst 3, 1), (96, .iconst 1, 1), (97, .invokevirtual 76, 3), (100, .aload_n 0, 1), (101, .iconst 3, 1), (102, .iconst 0, 1), (103, .iconst 0, 1), (104, .invokevirtual 76, 3), (107, .aload_n 0, 1), (108, .iconst 1, 1), (109, .invokevirtual 53, 3), (112, .ifCond .lt 9, 3), (115, .aload_n 0, 1), (116, .iconst 0, 1), (117, .iconst 0, 1), (118, .invokevirtual 57, 3), (121, .aload_n 0, 1), (122, .iload_n 1, 1), (123, .aload_n 0, 1), (124, .getfield 24, 3), (127, .bipush 8, 2), (129, .iaload, 1), (130, .aload_n 0, 1), (131, .getfield 24, 3), (134, .bipush 9, 2), (136, .iaload, 1), (137, .isub, 1), (138, .bipush 80, 2), (140, .isub, 1), (141, .invokevirtual 108, 3), (144, .return_, 1)]
def m_Mo_finiteQuotient : ZM := (⟨"StackRealModel", "finiteQuotient", "(Z)V"⟩, prog_9_method_26_code, 3, none, [], 7, 0, [], i_Mo_finiteQuotient)
def i_Mo_change : List (Nat × Instr × Nat) := [(0, .aload_n 0, 1), (1, .getfield 158, 3), (4, .iload_n 1, 1), (5, .isub, 1), (6, .bipush 8, 2), (8, .if_icmp .ne 7, 3), (11, .iconst 1, 1), (12, .goto 4, 3), (15, .iconst 0, 1), (16, .istore_n 2, 1), (17, .iload_n 2, 1), (18, .ifCond .eq 8, 3), (21, .aload_n 0, 1), (22, .iconst 1, 1), (23, .putfield 62, 3), (26, .aload_n 0, 1), (27, .invokevirtual 161, 3), (30, .ifCond .eq 5, 3), (33, .iconst 0, 1), (34, .ireturn, 1), (35, .iload_n 2, 1), (36, .ifCond .eq 8, 3), (39, .aload_n 0, 1), (40, .getfield 62, 3), (43, .ireturn, 1), (44, .aload_n 0, 1), (45, .aload_n 0, 1), (46, .getfield 158, 3), (49, .iload_n 1, 1), (50, .isub, 1), (51, .putfield 158, 3), (54, .aload_n 0, 1), (55, .bipush 10, 2), (57, .aload_n 0, 1), (58, .getfield 158, 3), (61, .invokevirtual 125, 3), (64, .aload_n 0, 1), (65, .dup, 1), (66, .getfield 158, 3), (69, .iconst 1, 1), (70, .iadd, 1), (71, .putfield 158, 3), (74, .aload_n 0, 1), (75, .getfield 62, 3), (78, .ireturn, 1)]
def m_Mo_change : ZM := (⟨"StackRealModel", "change", "(I)I"⟩, prog_9_method_38_code, 3, some .int, [], 7, 0, [], i_Mo_change)
def i_Mo_move : List (Nat × Instr × Nat) := [(0, .iload_n 1, 1), (1, .bipush 10, 2), (3, .if_icmp .ne 35, 3), (6, .aload_n 0, 1), (7, .aload_n 0, 1), (8, .getfield 158, 3), (11, .iconst 1, 1), (12, .isub, 1), (13, .iload_n 2, 1), (14, .isub, 1), (15, .aload_n 0, 1), (16, .getfield 158, 3), (19, .iconst 1, 1), (20, .isub, 1), (21, .invokevirtual 125, 3), (24, .aload_n 0, 1), (25, .bipush 8, 2), (27, .aload_n 0, 1), (28, .getfield 158, 3), (31, .iconst 1, 1), (32, .isub, 1), (33, .iload_n 2, 1), (34, .isub, 1), (35, .invokevirtual 125, 3), (38, .iload_n 1, 1), (39, .bipush 12, 2), (41, .if_icmp .ne 13, 3), (44, .aload_n 0, 1), (45, .dup, 1), (46, .getfield 158, 3), (49, .iconst 1, 1), (50, .isub, 1), (51, .putfield 158, 3), (54, .iload_n 1, 1), (55, .bipush 13, 2), (57, .if_icmp .ne 22, 3), (60, .aload_n 0, 1), (61, .invokevirtual 208, 3), (64, .istore_n 3, 1), (65, .aload_n 0, 1), (66, .invokevirtual 161, 3), (69, .ifCond .eq 5, 3), (72, .iconst 0, 1), (73, .ireturn, 1), (74, .aload_n 0, 1), (75, .iload_n 3, 1), (76, .putfield 211, 3), (79, .iload_n 1, 1), (80, .bipush 10, 2), (82, .if_icmp .eq 15, 3), (85, .iload_n 1, 1), (86, .bipush 12, 2), (88, .if_icmp .eq 9, 3), (91, .iload_n 1, 1), (92, .bipush 13, 2), (94, .if_icmp .ne 8, 3), (97, .aload_n 0, 1), (98, .getfield 62, 3), (101, .ireturn, 1), (102, .iload_n 1, 1), (103, .bipush 11, 2), (105, .if_icmp .ne 20, 3), (108, .aload_n 0, 1), (109, .aload_n 0, 1), (110, .getfield 158, 3), (113, .iconst 1, 1), (114, .isub, 1), (115, .iload_n 2, 1), (116, .isub, 1), (117, .bipush 10, 2), (119, .invokevirtual 125, 3), (122, .goto 24, 3), (125, .aload_n 0, 1), (126, .iconst 0, 1), (127, .iload_n 1, 1), (128, .bipush 14, 2), (130, .if_icmp .ne 7, 3), (133, .lconst 1, 1), (134, .goto 4, 3), (137, .lconst 0, 1), (138, .invokevirtual 80, 3), (141, .aload_n 0, 1), (142, .iconst 0, 1), (143, .invokevirtual 131, 3), (146, .aload_n 0, 1), (147, .iconst 0, 1), (148, .invokevirtual 178, 3), (151, .ireturn, 1)]
def m_Mo_move : ZM := (⟨"StackRealModel", "move", "(II)I"⟩, prog_9_method_45_code, 4, some .int, [], 7, 0, [], i_Mo_move)
def i_Mo_compared : List (Nat × Instr × Nat) := [(0, .aload_n 0, 1), (1, .iconst 3, 1), (2, .invokevirtual 101, 3), (5, .ifCond .eq 15, 3), (8, .aload_n 0, 1), (9, .aload_n 0, 1), (10, .getfield 62, 3), (13, .iconst 1, 1), (14, .ior, 1), (15, .putfield 62, 3), (18, .iconst 3, 1), (19, .ireturn, 1), (20, .aload_n 0, 1), (21, .bipush 8, 2), (23, .invokevirtual 135, 3), (26, .aload_n 0, 1), (27, .bipush 9, 2), (29, .invokevirtual 135, 3), (32, .if_icmp .eq 24, 3), (35, .aload_n 0, 1), (36, .bipush 8, 2), (38, .invokevirtual 135, 3), (41, .aload_n 0, 1), (42, .bipush 9, 2), (44, .invokevirtual 135, 3), (47, .if_icmp .le 7, 3), (50, .iconst 0, 1), (51, .goto 4, 3), (54, .iconst 1, 1), (55, .ireturn, 1), (56, .aload_n 0, 1), (57, .getfield 16, 3), (60, .bipush 8, 2), (62, .iaload, 1), (63, .iconst 1, 1), (64, .if_icmp .eq 5, 3), (67, .iconst 2, 1), (68, .ireturn, 1), (69, .aload_n 0, 1), (70, .iconst 0, 1), (71, .aload_n 0, 1), (72, .getfield 27, 3), (75, .bipush 8, 2), (77, .laload, 1), (78, .invokevirtual 80, 3), (81, .aload_n 0, 1), (82, .iconst 1, 1), (83, .aload_n 0, 1), (84, .getfield 27, 3), (87, .bipush 9, 2), (89, .laload, 1), (90, .invokevirtual 80, 3), (93, .aload_n 0, 1), (94, .getfield 24, 3), (97, .bipush 8, 2), (99, .iaload, 1), (100, .aload_n 0, 1), (101, .getfield 24, 3), (104, .bipush 9, 2), (106, .iaload, 1), (107, .if_icmp .eq 21, 3), (110, .aload_n 0, 1), (111, .getfield 24, 3), (114, .bipush 8, 2), (116, .iaload, 1), (117, .aload_n 0, 1), (118, .getfield 24, 3), (121, .bipush 9, 2), (123, .iaload, 1), (124, .isub, 1), (125, .goto 9, 3), (128, .aload_n 0, 1), (129, .iconst 0, 1), (130, .iconst 1, 1), (131, .invokevirtual 115, 3), (134, .istore_n 1, 1), (135, .iload_n 1, 1), (136, .ifCond .ne 5, 3), (139, .iconst 2, 1), (140, .ireturn, 1), (141, .iload_n 1, 1), (142, .ifCond .le 7, 3), (145, .iconst 1, 1), (146, .goto 4, 3), (149, .iconst 0, 1), (150, .aload_n 0, 1), (151, .getfield 20, 3), (154, .bipush 8, 2), (156, .baload, 1), (157, .if_icmp .eq 7, 3), (160, .iconst 0, 1), (161, .goto 4, 3), (164, .iconst 1, 1), (165, .ireturn, 1)]
def m_Mo_compared : ZM := (⟨"StackRealModel", "compared", "()I"⟩, prog_9_method_33_code, 2, some .int, [], 7, 0, [], i_Mo_compared)
def i_Mo_rank : List (Nat × Instr × Nat) := [(0, .aload_n 0, 1), (1, .getfield 16, 3), (4, .iload_n 1, 1), (5, .iaload, 1), (6, .ifCond .ne 7, 3), (9, .iconst 0, 1), (10, .goto 18, 3), (13, .aload_n 0, 1), (14, .getfield 16, 3), (17, .iload_n 1, 1), (18, .iaload, 1), (19, .iconst 1, 1), (20, .if_icmp .ne 7, 3), (23, .iconst 1, 1), (24, .goto 4, 3), (27, .iconst 2, 1), (28, .istore_n 2, 1), (29, .aload_n 0, 1), (30, .getfield 20, 3), (33, .iload_n 1, 1), (34, .baload, 1), (35, .ifCond .eq 8, 3), (38, .iload_n 2, 1), (39, .ineg, 1), (40, .goto 4, 3), (43, .iload_n 2, 1), (44, .ireturn, 1)]
def m_Mo_rank : ZM := (⟨"StackRealModel", "rank", "(I)I"⟩, prog_9_method_32_code, 3, some .int, [], 7, 0, [], i_Mo_rank)
def i_Mo_exactly : List (Nat × Instr × Nat) := [(0, .aload_n 0, 1), (1, .iconst 0, 1), (2, .invokevirtual 53, 3), (5, .istore_n 2, 1), (6, .iload_n 2, 1), (7, .ifCond .ge 10, 3), (10, .aload_n 0, 1), (11, .iconst 0, 1), (12, .iload_n 1, 1), (13, .invokevirtual 65, 3), (16, .return_, 1), (17, .aload_n 0, 1), (18, .iconst 0, 1), (19, .iconst 1, 1), (20, .bipush 63, 2), (22, .iload_n 2, 1), (23, .isub, 1), (24, .invokevirtual 76, 3), (27, .aload_n 0, 1), (28, .getfield 16, 3), (31, .bipush 10, 2), (33, .iconst 1, 1), (34, .iastore, 1), (35, .aload_n 0, 1), (36, .getfield 20, 3), (39, .bipush 10, 2), (41, .iload_n 1, 1), (42, .bastore, 1), (43, .aload_n 0, 1), (44, .getfield 24, 3), (47, .bipush 10, 2), (49, .iload_n 2, 1), (50, .iastore, 1), (51, .aload_n 0, 1), (52, .getfield 27, 3), (55, .bipush 10, 2), (57, .aload_n 0, 1), (58, .iconst 1, 1), (59, .invokevirtual 87, 3), (62, .lastore, 1), (63, .return_, 1)]
def m_Mo_exactly : ZM := (⟨"StackRealModel", "exactly", "(Z)V"⟩, prog_9_method_29_code, 3, none, [], 7, 0, [], i_Mo_exactly)
def i_Mo_extract : List (Nat × Instr × Nat) := [(0, .aload_n 0, 1), (1, .getfield 16, 3), (4, .bipush 8, 2), (6, .iaload, 1), (7, .iconst 1, 1), (8, .if_icmp .ne 12, 3), (11, .aload_n 0, 1), (12, .getfield 158, 3), (15, .bipush 8, 2), (17, .if_icmp .ne 8, 3), (20, .aload_n 0, 1), (21, .invokevirtual 171, 3), (24, .ireturn, 1), (25, .aload_n 0, 1), (26, .getfield 24, 3), (29, .bipush 8, 2), (31, .iaload, 1), (32, .istore_n 1, 1), (33, .aload_n 0, 1), (34, .iconst 0, 1), (35, .iload_n 1, 1), (36, .ifCond .ge 9, 3), (39, .iload_n 1, 1), (40, .ineg, 1), (41, .i2l, 1), (42, .goto 5, 3), (45, .iload_n 1, 1), (46, .i2l, 1), (47, .invokevirtual 80, 3), (50, .aload_n 0, 1), (51, .iload_n 1, 1), (52, .ifCond .ge 7, 3), (55, .iconst 1, 1), (56, .goto 4, 3), (59, .iconst 0, 1), (60, .invokevirtual 131, 3), (63, .aload_n 0, 1), (64, .bipush 10, 2), (66, .aload_n 0, 1), (67, .getfield 158, 3), (70, .iconst 1, 1), (71, .isub, 1), (72, .invokevirtual 125, 3), (75, .aload_n 0, 1), (76, .bipush 8, 2), (78, .aload_n 0, 1), (79, .getfield 158, 3), (82, .invokevirtual 125, 3), (85, .aload_n 0, 1), (86, .getfield 24, 3), (89, .aload_n 0, 1), (90, .getfield 158, 3), (93, .iconst 0, 1), (94, .iastore, 1), (95, .aload_n 0, 1), (96, .dup, 1), (97, .getfield 158, 3), (100, .iconst 1, 1), (101, .iadd, 1), (102, .putfield 158, 3), (105, .iconst 0, 1), (106, .ireturn, 1)]
def m_Mo_extract : ZM := (⟨"StackRealModel", "extract", "()I"⟩, prog_9_method_44_code, 2, some .int, [], 7, 0, [], i_Mo_extract)
def i_Mo_alter : List (Nat × Instr × Nat) := [(0, .aload_n 0, 1), (1, .bipush 8, 2), (3, .bipush 10, 2), (5, .invokevirtual 125, 3), (8, .iload_n 1, 1), (9, .iconst 4, 1), (10, .if_icmp .ne 7, 3), (13, .aload_n 0, 1), (14, .invokevirtual 199, 3), (17, .iload_n 1, 1), (18, .iconst 5, 1), (19, .if_icmp .ne 7, 3), (22, .aload_n 0, 1), (23, .invokevirtual 202, 3), (26, .iload_n 1, 1), (27, .bipush 6, 2), (29, .if_icmp .ne 7, 3), (32, .aload_n 0, 1), (33, .invokevirtual 205, 3), (36, .iload_n 1, 1), (37, .bipush 8, 2), (39, .if_icmp .ne 11, 3), (42, .aload_n 0, 1), (43, .getfield 20, 3), (46, .bipush 10, 2), (48, .iconst 0, 1), (49, .bastore, 1), (50, .iload_n 1, 1), (51, .bipush 9, 2), (53, .if_icmp .ne 36, 3), (56, .aload_n 0, 1), (57, .getfield 20, 3), (60, .bipush 10, 2), (62, .aload_n 0, 1), (63, .getfield 16, 3), (66, .bipush 8, 2), (68, .iaload, 1), (69, .iconst 3, 1), (70, .if_icmp .eq 17, 3), (73, .aload_n 0, 1), (74, .getfield 20, 3), (77, .bipush 8, 2), (79, .baload, 1), (80, .ifCond .ne 7, 3), (83, .iconst 1, 1), (84, .goto 4, 3), (87, .iconst 0, 1), (88, .bastore, 1), (89, .return_, 1)]
def m_Mo_alter : ZM := (⟨"StackRealModel", "alter", "(I)V"⟩, prog_9_method_43_code, 2, none, [], 7, 0, [], i_Mo_alter)
def i_Mo_root : List (Nat × Instr × Nat) := [(0, .aload_n 0, 1), (1, .getfield 16, 3), (4, .bipush 8, 2), (6, .iaload, 1), (7, .iconst 3, 1), (8, .if_icmp .eq 34, 3), (11, .aload_n 0, 1), (12, .getfield 16, 3), (15, .bipush 8, 2), (17, .iaload, 1), (18, .ifCond .eq 24, 3), (21, .aload_n 0, 1), (22, .getfield 16, 3), (25, .bipush 8, 2), (27, .iaload, 1), (28, .iconst 2, 1), (29, .if_icmp .ne 22, 3), (32, .aload_n 0, 1), (33, .getfield 20, 3), (36, .bipush 8, 2), (38, .baload, 1), (39, .ifCond .ne 12, 3), (42, .aload_n 0, 1), (43, .bipush 8, 2), (45, .bipush 10, 2), (47, .invokevirtual 125, 3), (50, .return_, 1), (51, .aload_n 0, 1), (52, .getfield 20, 3), (55, .bipush 8, 2), (57, .baload, 1), (58, .ifCond .eq 8, 3), (61, .aload_n 0, 1), (62, .invokevirtual 105, 3), (65, .return_, 1), (66, .aload_n 0, 1), (67, .getfield 24, 3), (70, .bipush 8, 2), (72, .iaload, 1), (73, .iconst 1, 1), (74, .iand, 1), (75, .iconst 1, 1), (76, .if_icmp .ne 8, 3), (79, .bipush 100, 2), (81, .goto 5, 3), (84, .bipush 101, 2), (86, .istore_n 1, 1), (87, .aload_n 0, 1), (88, .iconst 1, 1), (89, .aload_n 0, 1), (90, .getfield 27, 3), (93, .bipush 8, 2), (95, .laload, 1), (96, .invokevirtual 80, 3), (99, .aload_n 0, 1), (100, .iconst 1, 1), (101, .iconst 4, 1), (102, .iload_n 1, 1), (103, .invokevirtual 76, 3), (106, .aload_n 0, 1), (107, .iconst 0, 1), (108, .invokevirtual 43, 3), (111, .bipush 84, 2), (113, .istore_n 2, 1), (114, .iload_n 2, 1), (115, .ifCond .lt 44, 3), (118, .aload_n 0, 1), (119, .iconst 0, 1), (120, .iconst 1, 1), (121, .iconst 0, 1), (122, .invokevirtual 76, 3), (125, .aload_n 0, 1), (126, .iconst 1, 1), (127, .iload_n 2, 1), (128, .invokevirtual 57, 3), (131, .aload_n 0, 1), (132, .iconst 1, 1), (133, .iconst 1, 1), (134, .iconst 2, 1), (135, .invokevirtual 118, 3), (138, .aload_n 0, 1), (139, .iconst 2, 1), (140, .iconst 4, 1), (141, .invokevirtual 115, 3), (144, .ifCond .gt 9, 3), (147, .aload_n 0, 1), (148, .iconst 0, 1), (149, .iload_n 2, 1), (150, .invokevirtual 57, 3), (153, .iinc 2 (-1), 3), (156, .goto (-42), 3), (159, .aload_n 0, 1), (160, .iconst 0, 1), (161, .iconst 0, 1), (162, .iconst 2, 1), (163, .invokevirtual 118, 3), (166, .aload_n 0, 1), (167, .iconst 2, 1), (168, .iconst 4, 1), (169, .invokevirtual 115, 3), (172, .ifCond .ne 7, 3), (175, .iconst 1, 1), (176, .goto 4, 3), (179, .iconst 0, 1), (180, .istore_n 2, 1), (181, .aload_n 0, 1), (182, .iconst 0, 1), (183, .iconst 1, 1), (184, .iconst 1, 1), (185, .invokevirtual 76, 3), (188, .aload_n 0, 1), (189, .iconst 1, 1), (190, .iconst 0, 1), (191, .iconst 0, 1), (192, .invokevirtual 76, 3), (195, .iload_n 2, 1), (196, .ifCond .ne 9, 3), (199, .aload_n 0, 1), (200, .iconst 0, 1), (201, .iconst 0, 1), (202, .invokevirtual 57, 3), (205, .aload_n 0, 1), (206, .iconst 0, 1), (207, .aload_n 0, 1), (208, .getfield 24, 3), (211, .bipush 8, 2), (213, .iaload, 1), (214, .bipush 63, 2), (216, .isub, 1), (217, .iload_n 1, 1), (218, .isub, 1), (219, .iconst 2, 1), (220, .idiv, 1), (221, .iconst 1, 1), (222, .isub, 1), (223, .invokevirtual 108, 3), (226, .return_, 1)]
def m_Mo_root : ZM := (⟨"StackRealModel", "root", "()V"⟩, prog_9_method_27_code, 3, none, [], 7, 0, [], i_Mo_root)
def i_Mo_integer : List (Nat × Instr × Nat) := [(0, .aload_n 0, 1), (1, .bipush 8, 2), (3, .bipush 10, 2), (5, .invokevirtual 125, 3), (8, .aload_n 0, 1), (9, .getfield 16, 3), (12, .bipush 8, 2), (14, .iaload, 1), (15, .iconst 1, 1), (16, .if_icmp .ne 15, 3), (19, .aload_n 0, 1), (20, .getfield 24, 3), (23, .bipush 8, 2), (25, .iaload, 1), (26, .bipush 63, 2), (28, .if_icmp .lt 4, 3), (31, .return_, 1), (32, .aload_n 0, 1), (33, .invokevirtual 128, 3), (36, .aload_n 0, 1), (37, .aload_n 0, 1), (38, .getfield 20, 3), (41, .bipush 8, 2), (43, .baload, 1), (44, .invokevirtual 131, 3), (47, .return_, 1)]
def m_Mo_integer : ZM := (⟨"StackRealModel", "integer", "()V"⟩, prog_9_method_30_code, 1, none, [], 7, 0, [], i_Mo_integer)
def i_Mo_whole : List (Nat × Instr × Nat) := [(0, .aload_n 0, 1), (1, .iconst 0, 1), (2, .aload_n 0, 1), (3, .getfield 27, 3), (6, .bipush 8, 2), (8, .laload, 1), (9, .invokevirtual 80, 3), (12, .bipush 63, 2), (14, .aload_n 0, 1), (15, .getfield 24, 3), (18, .bipush 8, 2), (20, .iaload, 1), (21, .isub, 1), (22, .istore_n 1, 1), (23, .iload_n 1, 1), (24, .ifCond .gt 19, 3), (27, .aload_n 0, 1), (28, .iconst 0, 1), (29, .iconst 1, 1), (30, .iload_n 1, 1), (31, .ineg, 1), (32, .invokevirtual 76, 3), (35, .aload_n 0, 1), (36, .iconst 1, 1), (37, .iconst 0, 1), (38, .iconst 0, 1), (39, .invokevirtual 76, 3), (42, .return_, 1), (43, .iload_n 1, 1), (44, .bipush 90, 2), (46, .if_icmp .le 8, 3), (49, .bipush 90, 2), (51, .goto 4, 3), (54, .iload_n 1, 1), (55, .istore_n 2, 1), (56, .aload_n 0, 1), (57, .iload_n 2, 1), (58, .aload_n 0, 1), (59, .getfield 20, 3), (62, .bipush 8, 2), (64, .baload, 1), (65, .invokevirtual 72, 3), (68, .istore_n 3, 1), (69, .aload_n 0, 1), (70, .iconst 0, 1), (71, .iconst 1, 1), (72, .iload_n 2, 1), (73, .ineg, 1), (74, .invokevirtual 76, 3), (77, .aload_n 0, 1), (78, .iconst 2, 1), (79, .iload_n 3, 1), (80, .ifCond .eq 7, 3), (83, .lconst 1, 1), (84, .goto 4, 3), (87, .lconst 0, 1), (88, .invokevirtual 80, 3), (91, .aload_n 0, 1), (92, .iconst 1, 1), (93, .iconst 2, 1), (94, .iconst 1, 1), (95, .invokevirtual 84, 3), (98, .aload_n 0, 1), (99, .iconst 1, 1), (100, .iconst 0, 1), (101, .iconst 0, 1), (102, .invokevirtual 76, 3), (105, .return_, 1)]
def m_Mo_whole : ZM := (⟨"StackRealModel", "whole", "()V"⟩, prog_9_method_28_code, 4, none, [], 7, 0, [], i_Mo_whole)
def i_Mo_scaled : List (Nat × Instr × Nat) := [(0, .aload_n 0, 1), (1, .iconst 3, 1), (2, .invokevirtual 101, 3), (5, .ifCond .eq 10, 3), (8, .aload_n 0, 1), (9, .iconst 3, 1), (10, .iconst 0, 1), (11, .invokevirtual 65, 3), (14, .return_, 1), (15, .aload_n 0, 1), (16, .getfield 16, 3), (19, .bipush 9, 2), (21, .iaload, 1), (22, .ifCond .eq 36, 3), (25, .aload_n 0, 1), (26, .getfield 16, 3), (29, .bipush 9, 2), (31, .iaload, 1), (32, .iconst 1, 1), (33, .if_icmp .ne 29, 3), (36, .aload_n 0, 1), (37, .getfield 24, 3), (40, .bipush 9, 2), (42, .iaload, 1), (43, .ifCond .lt 19, 3), (46, .aload_n 0, 1), (47, .getfield 24, 3), (50, .bipush 9, 2), (52, .iaload, 1), (53, .bipush 16, 2), (55, .if_icmp .ge 7, 3), (58, .iconst 1, 1), (59, .goto 4, 3), (62, .iconst 0, 1), (63, .istore_n 1, 1), (64, .iconst 0, 1), (65, .istore_n 2, 1), (66, .iload_n 1, 1), (67, .ifCond .eq 70, 3), (70, .aload_n 0, 1), (71, .getfield 16, 3), (74, .bipush 9, 2), (76, .iaload, 1), (77, .iconst 1, 1), (78, .if_icmp .ne 59, 3), (81, .aload_n 0, 1), (82, .getfield 27, 3), (85, .bipush 9, 2), (87, .laload, 1), (88, .bipush 63, 2), (90, .aload_n 0, 1), (91, .getfield 24, 3), (94, .bipush 9, 2), (96, .iaload, 1), (97, .isub, 1), (98, .lushr, 1), (99, .l2i, 1), (100, .istore_n 2, 1), (101, .iload_n 2, 1), (102, .ldc 134, 2), (104, .if_icmp .gt 31, 3), (107, .iload_n 2, 1), (108, .i2l, 1), (109, .bipush 63, 2), (111, .aload_n 0, 1), (112, .getfield 24, 3), (115, .bipush 9, 2), (117, .iaload, 1), (118, .isub, 1), (119, .lshl, 1), (120, .aload_n 0, 1), (121, .getfield 27, 3), (124, .bipush 9, 2), (126, .laload, 1), (127, .lcmp, 1), (128, .ifCond .ne 7, 3), (131, .iconst 1, 1), (132, .goto 4, 3), (135, .iconst 0, 1), (136, .istore_n 1, 1), (137, .iload_n 1, 1), (138, .ifCond .ne 10, 3), (141, .aload_n 0, 1), (142, .invokevirtual 105, 3), (145, .goto 75, 3), (148, .aload_n 0, 1), (149, .getfield 16, 3), (152, .bipush 8, 2), (154, .iaload, 1), (155, .iconst 1, 1), (156, .if_icmp .eq 14, 3), (159, .aload_n 0, 1), (160, .bipush 8, 2), (162, .bipush 10, 2), (164, .invokevirtual 125, 3), (167, .goto 53, 3), (170, .aload_n 0, 1), (171, .iconst 0, 1), (172, .aload_n 0, 1), (173, .getfield 27, 3), (176, .bipush 8, 2), (178, .laload, 1), (179, .invokevirtual 80, 3), (182, .aload_n 0, 1), (183, .aload_n 0, 1), (184, .getfield 20, 3), (187, .bipush 8, 2), (189, .baload, 1), (190, .aload_n 0, 1), (191, .getfield 24, 3), (194, .bipush 8, 2), (196, .iaload, 1), (197, .bipush 63, 2), (199, .isub, 1), (200, .aload_n 0, 1), (201, .getfield 20, 3), (204, .bipush 9, 2), (206, .baload, 1), (207, .ifCond .eq 8, 3), (210, .iload_n 2, 1), (211, .ineg, 1), (212, .goto 4, 3), (215, .iload_n 2, 1), (216, .iadd, 1), (217, .invokevirtual 108, 3), (220, .return_, 1)]
def m_Mo_scaled : ZM := (⟨"StackRealModel", "scaled", "()V"⟩, prog_9_method_31_code, 3, none, [], 7, 0, [], i_Mo_scaled)
def i_Mo_load : List (Nat × Instr × Nat) := [(0, .aload_n 0, 1), (1, .iload_n 1, 1), (2, .bipush 8, 2), (4, .invokestatic 138, 3), (7, .ifCond .ne 11, 3), (10, .iload_n 2, 1), (11, .iconst 4, 1), (12, .invokestatic 138, 3), (15, .ifCond .eq 7, 3), (18, .iconst 1, 1), (19, .goto 4, 3), (22, .iconst 0, 1), (23, .putfield 40, 3), (26, .aload_n 0, 1), (27, .getfield 40, 3), (30, .ifCond .le 5, 3), (33, .iconst 0, 1), (34, .ireturn, 1), (35, .aload_n 0, 1), (36, .iconst 4, 1), (37, .invokevirtual 168, 3), (40, .aload_n 0, 1), (41, .getfield 158, 3), (44, .bipush 8, 2), (46, .if_icmp .ne 8, 3), (49, .aload_n 0, 1), (50, .invokevirtual 171, 3), (53, .ireturn, 1), (54, .iload_n 2, 1), (55, .ifCond .ne 13, 3), (58, .aload_n 0, 1), (59, .aload_n 0, 1), (60, .getfield 31, 3), (63, .iload_n 1, 1), (64, .laload, 1), (65, .invokevirtual 220, 3), (68, .iload_n 2, 1), (69, .iconst 1, 1), (70, .if_icmp .ne 17, 3), (73, .aload_n 0, 1), (74, .aload_n 0, 1), (75, .getfield 31, 3), (78, .iload_n 1, 1), (79, .laload, 1), (80, .bipush 11, 2), (82, .bipush 52, 2), (84, .invokevirtual 224, 3), (87, .iload_n 2, 1), (88, .iconst 2, 1), (89, .if_icmp .ne 17, 3), (92, .aload_n 0, 1), (93, .aload_n 0, 1), (94, .getfield 31, 3), (97, .iload_n 1, 1), (98, .laload, 1), (99, .bipush 8, 2), (101, .bipush 23, 2), (103, .invokevirtual 224, 3), (106, .iload_n 2, 1), (107, .iconst 3, 1), (108, .if_icmp .ne 13, 3), (111, .aload_n 0, 1), (112, .aload_n 0, 1), (113, .getfield 31, 3), (116, .iload_n 1, 1), (117, .laload, 1), (118, .invokevirtual 228, 3), (121, .aload_n 0, 1), (122, .iconst 0, 1), (123, .invokevirtual 178, 3), (126, .ireturn, 1)]
def m_Mo_load : ZM := (⟨"StackRealModel", "load", "(II)I"⟩, prog_9_method_49_code, 3, some .int, [], 7, 0, [], i_Mo_load)
def i_Mo_readWhole : List (Nat × Instr × Nat) := [(0, .aload_n 0, 1), (1, .iconst 0, 1), (2, .lload_n 1, 1), (3, .lconst 0, 1), (4, .lcmp, 1), (5, .ifCond .ge 8, 3), (8, .lload_n 1, 1), (9, .lneg, 1), (10, .goto 4, 3), (13, .lload_n 1, 1), (14, .invokevirtual 80, 3), (17, .aload_n 0, 1), (18, .lload_n 1, 1), (19, .lconst 0, 1), (20, .lcmp, 1), (21, .ifCond .ge 7, 3), (24, .iconst 1, 1), (25, .goto 4, 3), (28, .iconst 0, 1), (29, .invokevirtual 131, 3), (32, .return_, 1)]
def m_Mo_readWhole : ZM := (⟨"StackRealModel", "readWhole", "(J)V"⟩, prog_9_method_46_code, 3, none, [], 7, 0, [], i_Mo_readWhole)
def i_Mo_readReal : List (Nat × Instr × Nat) := [(0, .lload_n 1, 1), (1, .iload_n 3, 1), (2, .iload 4, 2), (4, .iadd, 1), (5, .lushr, 1), (6, .lconst 1, 1), (7, .land, 1), (8, .lconst 1, 1), (9, .lcmp, 1), (10, .ifCond .ne 7, 3), (13, .iconst 1, 1), (14, .goto 4, 3), (17, .iconst 0, 1), (18, .istore 5, 2), (20, .iconst 1, 1), (21, .iload_n 3, 1), (22, .ishl, 1), (23, .iconst 1, 1), (24, .isub, 1), (25, .istore 6, 2), (27, .lload_n 1, 1), (28, .iload 4, 2), (30, .lushr, 1), (31, .iload 6, 2), (33, .i2l, 1), (34, .land, 1), (35, .l2i, 1), (36, .istore 7, 2), (38, .lload_n 1, 1), (39, .lconst 1, 1), (40, .iload 4, 2), (42, .lshl, 1), (43, .lconst 1, 1), (44, .lsub, 1), (45, .land, 1), (46, .lstore 8, 2), (48, .aload_n 0, 1), (49, .iload 7, 2), (51, .ifCond .ne 7, 3), (54, .iconst 0, 1), (55, .goto 26, 3), (58, .iload 7, 2), (60, .iload 6, 2), (62, .if_icmp .ge 7, 3), (65, .iconst 1, 1), (66, .goto 15, 3), (69, .lload 8, 2), (71, .lconst 0, 1), (72, .lcmp, 1), (73, .ifCond .ne 7, 3), (76, .iconst 2, 1), (77, .goto 4, 3), (80, .iconst 3, 1), (81, .iload 5, 2), (83, .invokevirtual 65, 3), (86, .aload_n 0, 1), (87, .getfield 16, 3), (90, .bipush 10, 2), (92, .iaload, 1), (93, .iconst 1, 1), (94, .if_icmp .eq 4, 3), (97, .return_, 1), (98, .aload_n 0, 1), (99, .getfield 24, 3), (102, .bipush 10, 2), (104, .iload 7, 2), (106, .iload 6, 2), (108, .iconst 1, 1), (109, .isub, 1), (110, .iconst 2, 1), (111, .idiv, 1), (112, .isub, 1), (113, .iastore, 1), (114, .aload_n 0, 1), (115, .getfield 27, 3), (118, .bipush 10, 2), (120, .lconst 1, 1), (121, .iload 4, 2), (123, .lshl, 1), (124, .lload 8, 2), (126, .lor, 1), (127, .bipush 63, 2), (129, .iload 4, 2), (131, .isub, 1), (132, .lshl, 1), (133, .lastore, 1), (134, .return_, 1)]
def m_Mo_readReal : ZM := (⟨"StackRealModel", "readReal", "(JII)V"⟩, prog_9_method_47_code, 10, none, [], 7, 0, [], i_Mo_readReal)
def i_Mo_readDecimal : List (Nat × Instr × Nat) := [(0, .lload_n 1, 1), (1, .bipush 60, 2), (3, .lushr, 1), (4, .lstore_n 3, 1), (5, .lload_n 3, 1), (6, .ldc2_w 214, 3), (9, .lcmp, 1), (10, .ifCond .ge 7, 3), (13, .iconst 1, 1), (14, .goto 4, 3), (17, .iconst 0, 1), (18, .istore 5, 2), (20, .lconst 0, 1), (21, .lstore 6, 2), (23, .bipush 56, 2), (25, .istore 8, 2), (27, .iload 8, 2), (29, .ifCond .lt 51, 3), (32, .lload_n 1, 1), (33, .iload 8, 2), (35, .lushr, 1), (36, .ldc2_w 216, 3), (39, .land, 1), (40, .lstore 9, 2), (42, .iload 5, 2), (44, .ifCond .eq 16, 3), (47, .lload 9, 2), (49, .ldc2_w 218, 3), (52, .lcmp, 1), (53, .ifCond .ge 7, 3), (56, .iconst 1, 1), (57, .goto 4, 3), (60, .iconst 0, 1), (61, .istore 5, 2), (63, .lload 6, 2), (65, .ldc2_w 218, 3), (68, .lmul, 1), (69, .lload 9, 2), (71, .ladd, 1), (72, .lstore 6, 2), (74, .iinc 8 (-4), 3), (77, .goto (-50), 3), (80, .aload_n 0, 1), (81, .iconst 0, 1), (82, .lload 6, 2), (84, .invokevirtual 80, 3), (87, .iload 5, 2), (89, .ifCond .eq 21, 3), (92, .aload_n 0, 1), (93, .lload_n 3, 1), (94, .lconst 1, 1), (95, .lcmp, 1), (96, .ifCond .ne 7, 3), (99, .iconst 1, 1), (100, .goto 4, 3), (103, .iconst 0, 1), (104, .invokevirtual 131, 3), (107, .goto 7, 3), (110, .aload_n 0, 1), (111, .invokevirtual 105, 3), (114, .return_, 1)]
def m_Mo_readDecimal : ZM := (⟨"StackRealModel", "readDecimal", "(J)V"⟩, prog_9_method_48_code, 11, none, [], 7, 0, [], i_Mo_readDecimal)
def i_Mo_store : List (Nat × Instr × Nat) := [(0, .aload_n 0, 1), (1, .iload_n 1, 1), (2, .bipush 8, 2), (4, .invokestatic 138, 3), (7, .ifCond .ne 11, 3), (10, .iload_n 2, 1), (11, .iconst 4, 1), (12, .invokestatic 138, 3), (15, .ifCond .eq 7, 3), (18, .iconst 1, 1), (19, .goto 4, 3), (22, .iconst 0, 1), (23, .putfield 40, 3), (26, .aload_n 0, 1), (27, .getfield 40, 3), (30, .ifCond .le 5, 3), (33, .iconst 0, 1), (34, .ireturn, 1), (35, .aload_n 0, 1), (36, .bipush 10, 2), (38, .invokevirtual 168, 3), (41, .aload_n 0, 1), (42, .getfield 158, 3), (45, .ifCond .ne 8, 3), (48, .aload_n 0, 1), (49, .invokevirtual 171, 3), (52, .ireturn, 1), (53, .aload_n 0, 1), (54, .aload_n 0, 1), (55, .getfield 158, 3), (58, .iconst 1, 1), (59, .isub, 1), (60, .bipush 8, 2), (62, .invokevirtual 125, 3), (65, .iload_n 2, 1), (66, .iconst 1, 1), (67, .if_icmp .ne 14, 3), (70, .aload_n 0, 1), (71, .bipush 11, 2), (73, .bipush 52, 2), (75, .invokevirtual 239, 3), (78, .goto 33, 3), (81, .iload_n 2, 1), (82, .iconst 2, 1), (83, .if_icmp .ne 14, 3), (86, .aload_n 0, 1), (87, .bipush 8, 2), (89, .bipush 23, 2), (91, .invokevirtual 239, 3), (94, .goto 17, 3), (97, .aload_n 0, 1), (98, .iload_n 2, 1), (99, .iconst 3, 1), (100, .if_icmp .ne 7, 3), (103, .iconst 1, 1), (104, .goto 4, 3), (107, .iconst 0, 1), (108, .invokevirtual 243, 3), (111, .lstore_n 3, 1), (112, .aload_n 0, 1), (113, .invokevirtual 161, 3), (116, .ifCond .eq 5, 3), (119, .iconst 0, 1), (120, .ireturn, 1), (121, .aload_n 0, 1), (122, .dup, 1), (123, .getfield 158, 3), (126, .iconst 1, 1), (127, .isub, 1), (128, .putfield 158, 3), (131, .aload_n 0, 1), (132, .iload_n 1, 1), (133, .putfield 34, 3), (136, .aload_n 0, 1), (137, .lload_n 3, 1), (138, .putfield 149, 3), (141, .aload_n 0, 1), (142, .getfield 62, 3), (145, .ireturn, 1)]
def m_Mo_store : ZM := (⟨"StackRealModel", "store", "(II)I"⟩, prog_9_method_52_code, 5, some .int, [], 7, 0, [], i_Mo_store)
def i_Mo_writeReal : List (Nat × Instr × Nat) := [(0, .lconst 1, 1), (1, .iload_n 1, 1), (2, .lshl, 1), (3, .lconst 1, 1), (4, .lsub, 1), (5, .lstore_n 3, 1), (6, .aload_n 0, 1), (7, .bipush 8, 2), (9, .bipush 10, 2), (11, .invokevirtual 125, 3), (14, .aload_n 0, 1), (15, .getfield 16, 3), (18, .bipush 8, 2), (20, .iaload, 1), (21, .iconst 3, 1), (22, .if_icmp .ne 11, 3), (25, .lconst 1, 1), (26, .iload_n 1, 1), (27, .iload_n 2, 1), (28, .iadd, 1), (29, .lshl, 1), (30, .lconst 1, 1), (31, .lsub, 1), (32, .lreturn, 1), (33, .aload_n 0, 1), (34, .getfield 16, 3), (37, .bipush 8, 2), (39, .iaload, 1), (40, .iconst 1, 1), (41, .if_icmp .ne 45, 3), (44, .aload_n 0, 1), (45, .iconst 0, 1), (46, .aload_n 0, 1), (47, .getfield 27, 3), (50, .bipush 8, 2), (52, .laload, 1), (53, .invokevirtual 80, 3), (56, .aload_n 0, 1), (57, .aload_n 0, 1), (58, .getfield 20, 3), (61, .bipush 8, 2), (63, .baload, 1), (64, .aload_n 0, 1), (65, .getfield 24, 3), (68, .bipush 8, 2), (70, .iaload, 1), (71, .bipush 63, 2), (73, .isub, 1), (74, .iload_n 2, 1), (75, .iconst 1, 1), (76, .iadd, 1), (77, .lload_n 3, 1), (78, .ldc2_w 214, 3), (81, .ldiv, 1), (82, .l2i, 1), (83, .invokevirtual 97, 3), (86, .aload_n 0, 1), (87, .getfield 16, 3), (90, .bipush 10, 2), (92, .iaload, 1), (93, .ifCond .ne 7, 3), (96, .lconst 0, 1), (97, .goto 32, 3), (100, .aload_n 0, 1), (101, .getfield 16, 3), (104, .bipush 10, 2), (106, .iaload, 1), (107, .iconst 2, 1), (108, .if_icmp .ne 7, 3), (111, .lload_n 3, 1), (112, .goto 17, 3), (115, .aload_n 0, 1), (116, .getfield 24, 3), (119, .bipush 10, 2), (121, .iaload, 1), (122, .i2l, 1), (123, .lload_n 3, 1), (124, .ldc2_w 214, 3), (127, .ldiv, 1), (128, .ladd, 1), (129, .lstore 5, 2), (131, .aload_n 0, 1), (132, .getfield 16, 3), (135, .bipush 10, 2), (137, .iaload, 1), (138, .iconst 1, 1), (139, .if_icmp .ne 24, 3), (142, .aload_n 0, 1), (143, .getfield 27, 3), (146, .bipush 10, 2), (148, .laload, 1), (149, .bipush 63, 2), (151, .iload_n 2, 1), (152, .isub, 1), (153, .lushr, 1), (154, .lconst 1, 1), (155, .iload_n 2, 1), (156, .lshl, 1), (157, .lconst 1, 1), (158, .lsub, 1), (159, .land, 1), (160, .goto 4, 3), (163, .lconst 0, 1), (164, .lstore 7, 2), (166, .aload_n 0, 1), (167, .getfield 20, 3), (170, .bipush 10, 2), (172, .baload, 1), (173, .ifCond .eq 11, 3), (176, .lconst 1, 1), (177, .iload_n 1, 1), (178, .iload_n 2, 1), (179, .iadd, 1), (180, .lshl, 1), (181, .goto 4, 3), (184, .lconst 0, 1), (185, .lstore 9, 2), (187, .lload 9, 2), (189, .lload 5, 2), (191, .iload_n 2, 1), (192, .lshl, 1), (193, .lor, 1), (194, .lload 7, 2), (196, .lor, 1), (197, .lreturn, 1)]
def m_Mo_writeReal : ZM := (⟨"StackRealModel", "writeReal", "(II)J"⟩, prog_9_method_50_code, 11, some .long, [], 7, 0, [], i_Mo_writeReal)
def i_Mo_writeWhole : List (Nat × Instr × Nat) := [(0, .aload_n 0, 1), (1, .iconst 0, 1), (2, .invokevirtual 43, 3), (5, .aload_n 0, 1), (6, .getfield 16, 3), (9, .bipush 8, 2), (11, .iaload, 1), (12, .iconst 2, 1), (13, .if_icmp .eq 37, 3), (16, .aload_n 0, 1), (17, .getfield 16, 3), (20, .bipush 8, 2), (22, .iaload, 1), (23, .iconst 3, 1), (24, .if_icmp .eq 26, 3), (27, .aload_n 0, 1), (28, .getfield 16, 3), (31, .bipush 8, 2), (33, .iaload, 1), (34, .iconst 1, 1), (35, .if_icmp .ne 19, 3), (38, .aload_n 0, 1), (39, .getfield 24, 3), (42, .bipush 8, 2), (44, .iaload, 1), (45, .bipush 70, 2), (47, .if_icmp .le 7, 3), (50, .iconst 1, 1), (51, .goto 4, 3), (54, .iconst 0, 1), (55, .istore_n 2, 1), (56, .iload_n 2, 1), (57, .ifCond .ne 18, 3), (60, .aload_n 0, 1), (61, .getfield 16, 3), (64, .bipush 8, 2), (66, .iaload, 1), (67, .iconst 1, 1), (68, .if_icmp .ne 7, 3), (71, .aload_n 0, 1), (72, .invokevirtual 128, 3), (75, .iload_n 1, 1), (76, .ifCond .eq 9, 3), (79, .ldc2_w 231, 3), (82, .goto 22, 3), (85, .aload_n 0, 1), (86, .getfield 20, 3), (89, .bipush 8, 2), (91, .baload, 1), (92, .ifCond .eq 9, 3), (95, .ldc2_w 233, 3), (98, .goto 6, 3), (101, .ldc2_w 235, 3), (104, .lstore_n 3, 1), (105, .aload_n 0, 1), (106, .iconst 1, 1), (107, .lload_n 3, 1), (108, .invokevirtual 80, 3), (111, .iload_n 2, 1), (112, .ifCond .ne 12, 3), (115, .aload_n 0, 1), (116, .iconst 0, 1), (117, .iconst 1, 1), (118, .invokevirtual 115, 3), (121, .ifCond .le 22, 3), (124, .aload_n 0, 1), (125, .iconst 1, 1), (126, .putfield 62, 3), (129, .iload_n 1, 1), (130, .ifCond .eq 9, 3), (133, .ldc2_w 95, 3), (136, .goto 6, 3), (139, .ldc2_w 233, 3), (142, .lreturn, 1), (143, .aload_n 0, 1), (144, .iconst 0, 1), (145, .invokevirtual 87, 3), (148, .lstore 5, 2), (150, .iload_n 1, 1), (151, .ifCond .ne 22, 3), (154, .aload_n 0, 1), (155, .getfield 20, 3), (158, .bipush 8, 2), (160, .baload, 1), (161, .ifCond .eq 9, 3), (164, .lload 5, 2), (166, .lneg, 1), (167, .goto 5, 3), (170, .lload 5, 2), (172, .lreturn, 1), (173, .aload_n 0, 1), (174, .getfield 20, 3), (177, .bipush 8, 2), (179, .baload, 1), (180, .ifCond .eq 9, 3), (183, .ldc2_w 237, 3), (186, .goto 4, 3), (189, .lconst 0, 1), (190, .lstore 7, 2), (192, .iconst 0, 1), (193, .istore 9, 2), (195, .iload 9, 2), (197, .bipush 60, 2), (199, .if_icmp .ge 31, 3), (202, .lload 7, 2), (204, .lload 5, 2), (206, .ldc2_w 218, 3), (209, .lrem, 1), (210, .iload 9, 2), (212, .lshl, 1), (213, .lor, 1), (214, .lstore 7, 2), (216, .lload 5, 2), (218, .ldc2_w 218, 3), (221, .ldiv, 1), (222, .lstore 5, 2), (224, .iinc 9 4, 3), (227, .goto (-32), 3), (230, .lload 7, 2), (232, .lreturn, 1)]
def m_Mo_writeWhole : ZM := (⟨"StackRealModel", "writeWhole", "(Z)J"⟩, prog_9_method_51_code, 10, some .long, [], 7, 0, [], i_Mo_writeWhole)
def i_Mo_write : List (Nat × Instr × Nat) := [(0, .aload_n 0, 1), (1, .iload_n 1, 1), (2, .bipush 8, 2), (4, .invokestatic 138, 3), (7, .ifCond .eq 7, 3), (10, .iconst 1, 1), (11, .goto 4, 3), (14, .iconst 0, 1), (15, .putfield 40, 3), (18, .aload_n 0, 1), (19, .getfield 40, 3), (22, .ifCond .ne 10, 3), (25, .aload_n 0, 1), (26, .getfield 31, 3), (29, .iload_n 1, 1), (30, .lload_n 2, 1), (31, .lastore, 1), (32, .return_, 1)]
def m_Mo_write : ZM := (⟨"StackRealModel", "write", "(IJ)V"⟩, prog_9_method_53_code, 4, none, [], 7, 0, [], i_Mo_write)
def i_Mo_memory : List (Nat × Instr × Nat) := [(0, .aload_n 0, 1), (1, .iload_n 1, 1), (2, .bipush 8, 2), (4, .invokestatic 138, 3), (7, .ifCond .eq 7, 3), (10, .iconst 1, 1), (11, .goto 4, 3), (14, .iconst 0, 1), (15, .putfield 40, 3), (18, .aload_n 0, 1), (19, .getfield 40, 3), (22, .ifCond .ne 12, 3), (25, .aload_n 0, 1), (26, .getfield 31, 3), (29, .iload_n 1, 1), (30, .laload, 1), (31, .goto 4, 3), (34, .lconst 0, 1), (35, .lreturn, 1)]
def m_Mo_memory : ZM := (⟨"StackRealModel", "memory", "(I)J"⟩, prog_9_method_54_code, 2, some .long, [], 7, 0, [], i_Mo_memory)
def i_Mo_pass : List (Nat × Instr × Nat) := [(0, .aload_n 0, 1), (1, .iload_n 1, 1), (2, .sipush 1001, 3), (5, .invokestatic 138, 3), (8, .ifCond .eq 7, 3), (11, .iconst 1, 1), (12, .goto 4, 3), (15, .iconst 0, 1), (16, .putfield 40, 3), (19, .aload_n 0, 1), (20, .getfield 40, 3), (23, .ifCond .ne 8, 3), (26, .aload_n 0, 1), (27, .iload_n 1, 1), (28, .invokevirtual 152, 3), (31, .return_, 1)]
def m_Mo_pass : ZM := (⟨"StackRealModel", "pass", "(I)V"⟩, prog_9_method_55_code, 2, none, [], 7, 0, [], i_Mo_pass)
def i_Mo_await : List (Nat × Instr × Nat) := [(0, .aload_n 0, 1), (1, .iconst 0, 1), (2, .putfield 40, 3), (5, .aload_n 0, 1), (6, .getfield 146, 3), (9, .istore_n 1, 1), (10, .aload_n 0, 1), (11, .iload_n 1, 1), (12, .invokevirtual 152, 3), (15, .iload_n 1, 1), (16, .ireturn, 1)]
def m_Mo_await : ZM := (⟨"StackRealModel", "await", "()I"⟩, prog_9_method_56_code, 2, some .int, [], 7, 0, [], i_Mo_await)
def i_Mo_time : List (Nat × Instr × Nat) := [(0, .aload_n 0, 1), (1, .iconst 0, 1), (2, .putfield 40, 3), (5, .aload_n 0, 1), (6, .getfield 142, 3), (9, .lreturn, 1)]
def m_Mo_time : ZM := (⟨"StackRealModel", "time", "()J"⟩, prog_9_method_57_code, 1, some .long, [], 7, 0, [], i_Mo_time)
def i_Mo_flags : List (Nat × Instr × Nat) := [(0, .aload_n 0, 1), (1, .iconst 0, 1), (2, .putfield 40, 3), (5, .aload_n 0, 1), (6, .getfield 155, 3), (9, .ireturn, 1)]
def m_Mo_flags : ZM := (⟨"StackRealModel", "flags", "()I"⟩, prog_9_method_58_code, 1, some .int, [], 7, 0, [], i_Mo_flags)
def i_Mo_clear : List (Nat × Instr × Nat) := [(0, .aload_n 0, 1), (1, .iconst 0, 1), (2, .putfield 40, 3), (5, .aload_n 0, 1), (6, .iconst 0, 1), (7, .putfield 155, 3), (10, .return_, 1)]
def m_Mo_clear : ZM := (⟨"StackRealModel", "clear", "()V"⟩, prog_9_method_59_code, 1, none, [], 7, 0, [], i_Mo_clear)
def i_Mo_condition : List (Nat × Instr × Nat) := [(0, .aload_n 0, 1), (1, .iconst 0, 1), (2, .putfield 40, 3), (5, .aload_n 0, 1), (6, .getfield 211, 3), (9, .ireturn, 1)]
def m_Mo_condition : ZM := (⟨"StackRealModel", "condition", "()I"⟩, prog_9_method_60_code, 1, some .int, [], 7, 0, [], i_Mo_condition)
def i_Mo_depth : List (Nat × Instr × Nat) := [(0, .aload_n 0, 1), (1, .iconst 0, 1), (2, .putfield 40, 3), (5, .aload_n 0, 1), (6, .getfield 158, 3), (9, .ireturn, 1)]
def m_Mo_depth : ZM := (⟨"StackRealModel", "depth", "()I"⟩, prog_9_method_61_code, 1, some .int, [], 7, 0, [], i_Mo_depth)
def i_Mo_kind : List (Nat × Instr × Nat) := [(0, .aload_n 0, 1), (1, .iload_n 1, 1), (2, .aload_n 0, 1), (3, .getfield 158, 3), (6, .invokestatic 138, 3), (9, .ifCond .eq 7, 3), (12, .iconst 1, 1), (13, .goto 4, 3), (16, .iconst 0, 1), (17, .putfield 40, 3), (20, .aload_n 0, 1), (21, .getfield 40, 3), (24, .ifCond .le 7, 3), (27, .iconst 0, 1), (28, .goto 38, 3), (31, .aload_n 0, 1), (32, .getfield 16, 3), (35, .aload_n 0, 1), (36, .getfield 158, 3), (39, .iconst 1, 1), (40, .isub, 1), (41, .iload_n 1, 1), (42, .isub, 1), (43, .iaload, 1), (44, .aload_n 0, 1), (45, .getfield 20, 3), (48, .aload_n 0, 1), (49, .getfield 158, 3), (52, .iconst 1, 1), (53, .isub, 1), (54, .iload_n 1, 1), (55, .isub, 1), (56, .baload, 1), (57, .ifCond .eq 7, 3), (60, .iconst 4, 1), (61, .goto 4, 3), (64, .iconst 0, 1), (65, .iadd, 1), (66, .ireturn, 1)]
def m_Mo_kind : ZM := (⟨"StackRealModel", "kind", "(I)I"⟩, prog_9_method_62_code, 2, some .int, [], 7, 0, [], i_Mo_kind)
def i_Mo_exponent : List (Nat × Instr × Nat) := [(0, .aload_n 0, 1), (1, .iload_n 1, 1), (2, .aload_n 0, 1), (3, .getfield 158, 3), (6, .invokestatic 138, 3), (9, .ifCond .eq 7, 3), (12, .iconst 1, 1), (13, .goto 4, 3), (16, .iconst 0, 1), (17, .putfield 40, 3), (20, .aload_n 0, 1), (21, .getfield 40, 3), (24, .ifCond .le 7, 3), (27, .iconst 0, 1), (28, .goto 16, 3), (31, .aload_n 0, 1), (32, .getfield 24, 3), (35, .aload_n 0, 1), (36, .getfield 158, 3), (39, .iconst 1, 1), (40, .isub, 1), (41, .iload_n 1, 1), (42, .isub, 1), (43, .iaload, 1), (44, .ireturn, 1)]
def m_Mo_exponent : ZM := (⟨"StackRealModel", "exponent", "(I)I"⟩, prog_9_method_63_code, 2, some .int, [], 7, 0, [], i_Mo_exponent)
def i_Mo_significand : List (Nat × Instr × Nat) := [(0, .aload_n 0, 1), (1, .iload_n 1, 1), (2, .aload_n 0, 1), (3, .getfield 158, 3), (6, .invokestatic 138, 3), (9, .ifCond .eq 7, 3), (12, .iconst 1, 1), (13, .goto 4, 3), (16, .iconst 0, 1), (17, .putfield 40, 3), (20, .aload_n 0, 1), (21, .getfield 40, 3), (24, .ifCond .le 7, 3), (27, .lconst 0, 1), (28, .goto 16, 3), (31, .aload_n 0, 1), (32, .getfield 27, 3), (35, .aload_n 0, 1), (36, .getfield 158, 3), (39, .iconst 1, 1), (40, .isub, 1), (41, .iload_n 1, 1), (42, .isub, 1), (43, .laload, 1), (44, .lreturn, 1)]
def m_Mo_significand : ZM := (⟨"StackRealModel", "significand", "(I)J"⟩, prog_9_method_64_code, 2, some .long, [], 7, 0, [], i_Mo_significand)
end
section
/-! The same, second part: the law, the pools, and what the tables say of them -/
def i_law : List (Nat × Instr × Nat) := [(0, .new 8, 3), (3, .dup, 1), (4, .invokespecial 49, 3), (7, .astore_n 1, 1), (8, .new 50, 3), (11, .dup, 1), (12, .invokespecial 52, 3), (15, .astore_n 2, 1), (16, .iconst 1, 1), (17, .newarray .long, 2), (19, .astore_n 3, 1), (20, .iconst 0, 1), (21, .istore 4, 2), (23, .iload 4, 2), (25, .aload_n 0, 1), (26, .arraylength, 1), (27, .iconst 4, 1), (28, .isub, 1), (29, .if_icmp .gt 772, 3), (32, .aload_n 0, 1), (33, .iload 4, 2), (35, .iaload, 1), (36, .bipush 15, 2), (38, .iand, 1), (39, .tableswitch 756 0 15 #[77, 137, 205, 273, 341, 421, 476, 512, 525, 539, 552, 563, 576, 589, 645, 701], 77), (116, .aload_n 1, 1), (117, .aload_n 0, 1), (118, .iload 4, 2), (120, .iconst 1, 1), (121, .iadd, 1), (122, .iaload, 1), (123, .aload_n 0, 1), (124, .iload 4, 2), (126, .iconst 2, 1), (127, .iadd, 1), (128, .iaload, 1), (129, .aload_n 0, 1), (130, .iload 4, 2), (132, .iconst 3, 1), (133, .iadd, 1), (134, .iaload, 1), (135, .invokestatic 53, 3), (138, .istore 5, 2), (140, .aload_n 2, 1), (141, .aload_n 0, 1), (142, .iload 4, 2), (144, .iconst 1, 1), (145, .iadd, 1), (146, .iaload, 1), (147, .aload_n 0, 1), (148, .iload 4, 2), (150, .iconst 2, 1), (151, .iadd, 1), (152, .iaload, 1), (153, .aload_n 0, 1), (154, .iload 4, 2), (156, .iconst 3, 1), (157, .iadd, 1), (158, .iaload, 1), (159, .invokevirtual 58, 3), (162, .aload_n 2, 1), (163, .invokevirtual 59, 3), (166, .iload 5, 2), (168, .if_icmp .eq 5, 3), (171, .iconst 0, 1), (172, .ireturn, 1), (173, .goto 622, 3), (176, .aload_n 1, 1), (177, .aload_n 0, 1), (178, .iload 4, 2), (180, .iconst 1, 1), (181, .iadd, 1), (182, .iaload, 1), (183, .aload_n 0, 1), (184, .iload 4, 2), (186, .iconst 2, 1), (187, .iadd, 1), (188, .iaload, 1), (189, .aload_n 3, 1), (190, .invokestatic 63, 3), (193, .istore 5, 2), (195, .aload_n 2, 1), (196, .aload_n 0, 1), (197, .iload 4, 2), (199, .iconst 1, 1), (200, .iadd, 1), (201, .iaload, 1), (202, .aload_n 0, 1), (203, .iload 4, 2), (205, .iconst 2, 1), (206, .iadd, 1), (207, .iaload, 1), (208, .invokevirtual 66, 3), (211, .istore 6, 2), (213, .aload_n 2, 1), (214, .invokevirtual 59, 3), (217, .iload 5, 2), (219, .if_icmp .eq 5, 3), (222, .iconst 0, 1), (223, .ireturn, 1), (224, .iload 5, 2), (226, .ifCond .ne 15, 3), (229, .aload_n 3, 1), (230, .iconst 0, 1), (231, .laload, 1), (232, .iload 6, 2), (234, .i2l, 1), (235, .lcmp, 1), (236, .ifCond .eq 5, 3), (239, .iconst 0, 1), (240, .ireturn, 1), (241, .goto 554, 3), (244, .aload_n 1, 1), (245, .aload_n 0, 1), (246, .iload 4, 2), (248, .iconst 1, 1), (249, .iadd, 1), (250, .iaload, 1), (251, .aload_n 0, 1), (252, .iload 4, 2), (254, .iconst 2, 1), (255, .iadd, 1), (256, .iaload, 1), (257, .aload_n 3, 1), (258, .invokestatic 67, 3), (261, .istore 5, 2), (263, .aload_n 2, 1), (264, .aload_n 0, 1), (265, .iload 4, 2), (267, .iconst 1, 1), (268, .iadd, 1), (269, .iaload, 1), (270, .aload_n 0, 1), (271, .iload 4, 2), (273, .iconst 2, 1), (274, .iadd, 1), (275, .iaload, 1), (276, .invokevirtual 69, 3), (279, .istore 6, 2), (281, .aload_n 2, 1), (282, .invokevirtual 59, 3), (285, .iload 5, 2), (287, .if_icmp .eq 5, 3), (290, .iconst 0, 1), (291, .ireturn, 1), (292, .iload 5, 2), (294, .ifCond .ne 15, 3), (297, .aload_n 3, 1), (298, .iconst 0, 1), (299, .laload, 1), (300, .iload 6, 2), (302, .i2l, 1), (303, .lcmp, 1), (304, .ifCond .eq 5, 3), (307, .iconst 0, 1), (308, .ireturn, 1), (309, .goto 486, 3), (312, .aload_n 1, 1), (313, .aload_n 0, 1), (314, .iload 4, 2), (316, .iconst 1, 1), (317, .iadd, 1), (318, .iaload, 1), (319, .aload_n 0, 1), (320, .iload 4, 2), (322, .iconst 2, 1), (323, .iadd, 1), (324, .iaload, 1), (325, .aload_n 3, 1), (326, .invokestatic 70, 3), (329, .istore 5, 2), (331, .aload_n 2, 1), (332, .aload_n 0, 1), (333, .iload 4, 2), (335, .iconst 1, 1), (336, .iadd, 1), (337, .iaload, 1), (338, .aload_n 0, 1), (339, .iload 4, 2), (341, .iconst 2, 1), (342, .iadd, 1), (343, .iaload, 1), (344, .invokevirtual 72, 3), (347, .istore 6, 2), (349, .aload_n 2, 1), (350, .invokevirtual 59, 3), (353, .iload 5, 2), (355, .if_icmp .eq 5, 3), (358, .iconst 0, 1), (359, .ireturn, 1), (360, .iload 5, 2), (362, .ifCond .ne 15, 3), (365, .aload_n 3, 1), (366, .iconst 0, 1), (367, .laload, 1), (368, .iload 6, 2), (370, .i2l, 1), (371, .lcmp, 1), (372, .ifCond .eq 5, 3), (375, .iconst 0, 1), (376, .ireturn, 1), (377, .goto 418, 3), (380, .aload_n 1, 1), (381, .aload_n 0, 1), (382, .iload 4, 2), (384, .iconst 1, 1), (385, .iadd, 1), (386, .iaload, 1), (387, .aload_n 0, 1), (388, .iload 4, 2), (390, .iconst 2, 1), (391, .iadd, 1), (392, .iaload, 1), (393, .i2l, 1), (394, .bipush 32, 2), (396, .lshl, 1), (397, .aload_n 0, 1), (398, .iload 4, 2), (400, .iconst 3, 1), (401, .iadd, 1), (402, .iaload, 1), (403, .i2l, 1), (404, .ldc2_w 73, 3), (407, .land, 1), (408, .lor, 1), (409, .invokestatic 75, 3), (412, .istore 5, 2), (414, .aload_n 2, 1), (415, .aload_n 0, 1), (416, .iload 4, 2), (418, .iconst 1, 1), (419, .iadd, 1), (420, .iaload, 1), (421, .aload_n 0, 1), (422, .iload 4, 2), (424, .iconst 2, 1), (425, .iadd, 1), (426, .iaload, 1), (427, .i2l, 1), (428, .bipush 32, 2), (430, .lshl, 1), (431, .aload_n 0, 1), (432, .iload 4, 2), (434, .iconst 3, 1), (435, .iadd, 1), (436, .iaload, 1), (437, .i2l, 1), (438, .ldc2_w 73, 3), (441, .land, 1), (442, .lor, 1), (443, .invokevirtual 78, 3), (446, .aload_n 2, 1), (447, .invokevirtual 59, 3), (450, .iload 5, 2), (452, .if_icmp .eq 5, 3), (455, .iconst 0, 1), (456, .ireturn, 1), (457, .goto 338, 3), (460, .aload_n 1, 1), (461, .aload_n 0, 1), (462, .iload 4, 2), (464, .iconst 1, 1), (465, .iadd, 1), (466, .iaload, 1), (467, .aload_n 3, 1), (468, .invokestatic 79, 3), (471, .istore 5, 2), (473, .aload_n 2, 1), (474, .aload_n 0, 1), (475, .iload 4, 2), (477, .iconst 1, 1), (478, .iadd, 1), (479, .iaload, 1), (480, .invokevirtual 82, 3), (483, .lstore 6, 2), (485, .aload_n 2, 1), (486, .invokevirtual 59, 3), (489, .iload 5, 2), (491, .if_icmp .eq 5, 3), (494, .iconst 0, 1), (495, .ireturn, 1), (496, .iload 5, 2), (498, .ifCond .ne 14, 3), (501, .aload_n 3, 1), (502, .iconst 0, 1), (503, .laload, 1), (504, .lload 6, 2), (506, .lcmp, 1), (507, .ifCond .eq 5, 3), (510, .iconst 0, 1), (511, .ireturn, 1), (512, .goto 283, 3), (515, .aload_n 1, 1), (516, .aload_n 0, 1), (517, .iload 4, 2), (519, .iconst 1, 1), (520, .iadd, 1), (521, .iaload, 1), (522, .invokestatic 83, 3), (525, .istore 5, 2), (527, .aload_n 2, 1), (528, .aload_n 0, 1), (529, .iload 4, 2), (531, .iconst 1, 1), (532, .iadd, 1), (533, .iaload, 1), (534, .invokevirtual 86, 3), (537, .aload_n 2, 1), (538, .invokevirtual 59, 3), (541, .iload 5, 2), (543, .if_icmp .eq 5, 3), (546, .iconst 0, 1), (547, .ireturn, 1), (548, .goto 247, 3), (551, .aload_n 1, 1), (552, .invokevirtual 87, 3), (555, .aload_n 2, 1), (556, .invokevirtual 90, 3), (559, .if_icmp .eq 236, 3), (562, .iconst 0, 1), (563, .ireturn, 1), (564, .aload_n 1, 1), (565, .invokevirtual 91, 3), (568, .aload_n 2, 1), (569, .invokevirtual 95, 3), (572, .lcmp, 1), (573, .ifCond .eq 222, 3), (576, .iconst 0, 1), (577, .ireturn, 1), (578, .aload_n 1, 1), (579, .invokevirtual 96, 3), (582, .aload_n 2, 1), (583, .invokevirtual 99, 3), (586, .if_icmp .eq 209, 3), (589, .iconst 0, 1), (590, .ireturn, 1), (591, .aload_n 1, 1), (592, .invokevirtual 100, 3), (595, .aload_n 2, 1), (596, .invokevirtual 103, 3), (599, .goto 196, 3), (602, .aload_n 1, 1), (603, .invokevirtual 104, 3), (606, .aload_n 2, 1), (607, .invokevirtual 107, 3), (610, .if_icmp .eq 185, 3), (613, .iconst 0, 1), (614, .ireturn, 1), (615, .aload_n 1, 1), (616, .invokevirtual 108, 3), (619, .aload_n 2, 1), (620, .invokevirtual 111, 3), (623, .if_icmp .eq 172, 3), (626, .iconst 0, 1), (627, .ireturn, 1), (628, .aload_n 1, 1), (629, .aload_n 0, 1), (630, .iload 4, 2), (632, .iconst 1, 1), (633, .iadd, 1), (634, .iaload, 1), (635, .aload_n 3, 1), (636, .invokestatic 112, 3), (639, .istore 5, 2), (641, .aload_n 2, 1), (642, .aload_n 0, 1), (643, .iload 4, 2), (645, .iconst 1, 1), (646, .iadd, 1), (647, .iaload, 1), (648, .invokevirtual 114, 3), (651, .istore 6, 2), (653, .aload_n 2, 1), (654, .invokevirtual 59, 3), (657, .iload 5, 2), (659, .if_icmp .eq 5, 3), (662, .iconst 0, 1), (663, .ireturn, 1), (664, .iload 5, 2), (666, .ifCond .ne 15, 3), (669, .aload_n 3, 1), (670, .iconst 0, 1), (671, .laload, 1), (672, .iload 6, 2), (674, .i2l, 1), (675, .lcmp, 1), (676, .ifCond .eq 5, 3), (679, .iconst 0, 1), (680, .ireturn, 1), (681, .goto 114, 3), (684, .aload_n 1, 1), (685, .aload_n 0, 1), (686, .iload 4, 2), (688, .iconst 1, 1), (689, .iadd, 1), (690, .iaload, 1), (691, .aload_n 3, 1), (692, .invokestatic 115, 3), (695, .istore 5, 2), (697, .aload_n 2, 1), (698, .aload_n 0, 1), (699, .iload 4, 2), (701, .iconst 1, 1), (702, .iadd, 1), (703, .iaload, 1), (704, .invokevirtual 117, 3), (707, .istore 6, 2), (709, .aload_n 2, 1), (710, .invokevirtual 59, 3), (713, .iload 5, 2), (715, .if_icmp .eq 5, 3), (718, .iconst 0, 1), (719, .ireturn, 1), (720, .iload 5, 2), (722, .ifCond .ne 15, 3), (725, .aload_n 3, 1), (726, .iconst 0, 1), (727, .laload, 1), (728, .iload 6, 2), (730, .i2l, 1), (731, .lcmp, 1), (732, .ifCond .eq 5, 3), (735, .iconst 0, 1), (736, .ireturn, 1), (737, .goto 58, 3), (740, .aload_n 1, 1), (741, .aload_n 0, 1), (742, .iload 4, 2), (744, .iconst 1, 1), (745, .iadd, 1), (746, .iaload, 1), (747, .aload_n 3, 1), (748, .invokestatic 118, 3), (751, .istore 5, 2), (753, .aload_n 2, 1), (754, .aload_n 0, 1), (755, .iload 4, 2), (757, .iconst 1, 1), (758, .iadd, 1), (759, .iaload, 1), (760, .invokevirtual 120, 3), (763, .lstore 6, 2), (765, .aload_n 2, 1), (766, .invokevirtual 59, 3), (769, .iload 5, 2), (771, .if_icmp .eq 5, 3), (774, .iconst 0, 1), (775, .ireturn, 1), (776, .iload 5, 2), (778, .ifCond .ne 14, 3), (781, .aload_n 3, 1), (782, .iconst 0, 1), (783, .laload, 1), (784, .lload 6, 2), (786, .lcmp, 1), (787, .ifCond .eq 5, 3), (790, .iconst 0, 1), (791, .ireturn, 1), (792, .goto 3, 3), (795, .iinc 4 4, 3), (798, .goto (-775), 3), (801, .iconst 1, 1), (802, .ireturn, 1)]
def m_law : ZM := (⟨"StackRealLaw", "law", "([I)Z"⟩, code, 8, some .boolean, [], 8, 600, [], i_law)
/-- words that stay true while the tables warm: see zmov -/
def zmov (w : Jvm.Cond) : Bool := (w.onTables && w.keeps) || (match w with
  | .arrayClass _ => true
  | .methodLinkNest _ _ _ _ => true
  | .fieldLinkNest _ _ _ _ _ _ => true
  | .not (.castable _ _) => true
  | _ => false)
def zXtra : List Jvm.Cond := [.not (.castable "java/lang/ArithmeticException" "java/lang/IllegalArgumentException"), .not (.castable "java/lang/IllegalArgumentException" "java/lang/ArithmeticException")]
def zWs : List Jvm.Cond := (lw_tbl ++ zXtra).filter zmov
theorem zW_in {w : Jvm.Cond} (i : Nat) (h : (decide (lw_tbl[i]? = some w) && zmov w) = true) : w ∈ zWs := by
  rw [Bool.and_eq_true, decide_eq_true_eq] at h
  exact List.mem_filter.mpr ⟨List.mem_append_left _ (List.mem_of_getElem? h.1), h.2⟩
theorem zWs_mov : ∀ w ∈ zWs, zmov w = true := fun w h => (List.mem_filter.mp h).2
def zFldT (cn : Nat) : List (Nat × Nat × Nat × Nat) := match cn with
  | 0 => [(11, 0, 0, 231), (16, 0, 1, 232), (20, 0, 2, 233), (26, 0, 3, 234), (35, 0, 4, 235), (42, 0, 5, 236), (49, 0, 6, 237), (53, 0, 7, 238), (57, 0, 8, 239), (60, 0, 9, 240), (63, 0, 10, 241), (77, 3, 0, 133), (80, 3, 1, 135), (122, 6, 0, 210), (142, 5, 3, 192), (162, 6, 1, 212), (170, 1, 1, 104), (174, 1, 0, 98), (177, 1, 2, 110), (180, 1, 3, 116)]
  | 1 => [(9, 1, 0, 96), (15, 1, 1, 100), (19, 1, 2, 106), (22, 1, 3, 112)]
  | 2 => [(9, 1, 1, 99), (15, 2, 0, 154), (18, 1, 2, 105), (22, 2, 1, 156), (23, 1, 3, 111), (27, 2, 2, 159), (30, 2, 3, 161)]
  | 3 => [(9, 3, 0, 132), (15, 3, 1, 134), (22, 2, 3, 162), (28, 2, 2, 160), (31, 2, 1, 157), (34, 2, 0, 155), (61, 1, 2, 107), (62, 1, 3, 113), (65, 1, 1, 102)]
  | 4 => [(9, 4, 0, 172), (18, 4, 1, 173), (22, 1, 0, 95), (35, 1, 1, 101), (39, 3, 1, 136), (92, 1, 2, 109), (95, 1, 3, 114), (100, 2, 1, 158)]
  | 5 => [(9, 5, 0, 189), (18, 5, 1, 190), (25, 5, 2, 191), (74, 5, 3, 193), (78, 1, 0, 97), (82, 1, 2, 108), (91, 1, 1, 103), (118, 1, 3, 115)]
  | 6 => [(9, 6, 0, 209), (15, 6, 1, 211), (19, 6, 3, 214), (23, 6, 2, 213), (26, 6, 4, 215), (30, 6, 5, 216)]
  | 7 => [(7, 7, 1, 740), (13, 7, 3, 742), (16, 7, 8, 747), (20, 7, 9, 748), (24, 7, 10, 749), (27, 7, 11, 750), (31, 7, 12, 751), (34, 7, 14, 753), (37, 7, 17, 756), (40, 7, 0, 739), (62, 7, 5, 744), (69, 7, 2, 741), (142, 7, 16, 755), (146, 7, 13, 752), (149, 7, 15, 754), (155, 7, 4, 743), (158, 7, 7, 746), (211, 7, 6, 745)]
  | _ => []
def zFld (cn x : Nat) : Option (Nat × Nat) := ((zFldT cn).lookup x).map (fun q => (q.1, q.2.1))
def zStaT (cn : Nat) : List (Nat × Nat × Nat) := match cn with
  | 0 => [(91, 1001, 387), (191, 1002, 398)]
  | _ => []
def zSta (cn x : Nat) : Option Nat := ((zStaT cn).lookup x).map (fun q => q.1)
def zIntT (cn : Nat) : List (Nat × Int32 × Nat) := match cn with
  | 4 => [(99, 40000, 585)]
  | 7 => [(61, 65535, 895), (134, 40000, 973)]
  | _ => []
def zInt (cn x : Nat) : Option Int32 := ((zIntT cn).lookup x).map (fun q => q.1)
def zLngT (cn : Nat) : List (Nat × Int64 × Nat) := match cn with
  | 0 => [(251, (-9223372036854775808), 468)]
  | 2 => [(60, (-9223372036854775808), 482), (68, 4294967295, 539)]
  | 3 => [(42, (-9223372036854775808), 507)]
  | 5 => [(45, (-9223372036854775808), 635), (57, 15, 642), (59, 9, 643), (61, 10, 644), (99, (-1), 676), (101, 999999999999999, 677), (103, 1152921504606846976, 678)]
  | 7 => [(47, 65535, 862), (95, (-1), 904), (214, 2, 990), (216, 15, 991), (218, 10, 992), (231, 999999999999999, 1005), (233, (-9223372036854775808), 1006), (235, 9223372036854775807, 1007), (237, 1152921504606846976, 1008)]
  | 8 => [(73, 4294967295, 1057)]
  | _ => []
def zLng (cn x : Nat) : Option Int64 := ((zLngT cn).lookup x).map (fun q => q.1)
def zCalST (cn : Nat) : List (Nat × ZM × Nat × Nat × Nat × Nat × String) := match cn with
  | 0 => [(85, m_SR_namesPlace, 1, 383, 384, 67, ""), (114, m_SR_isCell, 1, 619, 620, 67, ""), (117, m_SR_isForm, 1, 622, 623, 67, ""), (194, m_SR_pushes, 1, 400, 401, 67, ""), (226, m_SR_conditionOf, 2, 604, 605, 67, ""), (241, m_SR_compareReals, 2, 607, 608, 67, ""), (244, m_SR_compareMagnitudes, 2, 610, 463, 67, ""), (247, m_SR_isBelow, 2, 465, 466, 67, "")]
  | 2 => [(33, m_SR_compareMagnitudes, 2, 462, 463, 67, "StackReal"), (45, m_Ex_lowerPart, 2, 474, 475, 71, ""), (56, m_SR_isBelow, 2, 481, 466, 67, "StackReal"), (70, m_Ex_fitsInDouble, 2, 548, 549, 71, "")]
  | 4 => [(64, m_Ar_makeInvalid, 1, 443, 444, 70, "")]
  | 5 => [(33, m_Fo_decodeBinary, 4, 631, 632, 72, ""), (37, m_Fo_decodeDecimal, 2, 639, 640, 72, ""), (114, m_Fo_binaryImage, 3, 669, 670, 72, "")]
  | 7 => [(138, m_Mo_out, 2, 804, 805, 74, ""), (165, m_Mo_cost, 1, 811, 812, 74, "")]
  | 8 => [(53, m_La_control, 4, 297, 298, 66, ""), (63, m_La_operate, 4, 374, 375, 66, ""), (67, m_La_load, 4, 612, 613, 66, ""), (70, m_La_store, 4, 645, 646, 66, ""), (75, m_La_write, 3, 683, 684, 66, ""), (79, m_La_memory, 3, 691, 692, 66, ""), (83, m_La_pass, 2, 698, 699, 66, ""), (112, m_La_kind, 3, 707, 708, 66, ""), (115, m_La_exponent, 3, 719, 720, 66, ""), (118, m_La_significand, 3, 726, 727, 66, "")]
  | _ => []
def zCalS (cn x : Nat) : Option (ZM × Nat) := ((zCalST cn).lookup x).map (fun q => (q.1, q.2.1))
def zCalVT (cn : Nat) : List (Nat × ZM × Nat × Nat × Nat × Nat × String) := match cn with
  | 0 => [(95, m_Me_occupy, 1, 389, 390, 391, ""), (99, m_SR_isPossible, 2, 394, 396, 1, ""), (103, m_SR_raise, 1, 407, 409, 3, ""), (107, m_SR_workOut, 1, 427, 429, 4, ""), (110, m_SR_carryOut, 2, 586, 588, 14, ""), (126, m_Fo_decode, 3, 626, 627, 628, ""), (130, m_SR_push, 1, 596, 598, 16, ""), (134, m_SR_st, 1, 403, 405, 2, ""), (138, m_Fo_encode, 2, 652, 653, 654, ""), (146, m_Me_storeWhenFree, 2, 679, 680, 681, ""), (154, m_Me_goOn, 1, 706, 274, 275, ""), (158, m_Me_waitUntilFree, 0, 269, 270, 271, ""), (165, m_SR_isOnStack, 1, 714, 716, 21, ""), (183, m_Re_copy, 1, 521, 447, 448, ""), (197, m_Ar_add, 3, 431, 432, 433, ""), (201, m_Re_negate, 0, 522, 523, 524, ""), (204, m_Ar_multiply, 3, 526, 527, 528, ""), (207, m_Ar_divide, 3, 540, 541, 542, ""), (210, m_Ar_root, 2, 551, 552, 553, ""), (214, m_Ar_makeWhole, 2, 563, 564, 565, ""), (217, m_Ar_scale, 3, 581, 582, 583, ""), (220, m_SR_extract, 0, 590, 592, 15, ""), (223, m_SR_exchange, 1, 600, 602, 17, ""), (229, m_Re_becomeWhole, 2, 595, 576, 577, ""), (233, m_Re_becomeZero, 1, 611, 451, 452, ""), (237, m_Re_becomeFinite, 3, 594, 513, 514, "")]
  | 1 => [(26, m_Re_becomeZero, 1, 579, 451, 452, ""), (30, m_Re_becomeFinite, 3, 580, 513, 514, "")]
  | 2 => [(37, m_Ex_combine, 2, 469, 471, 6, ""), (41, m_Ex_copy, 1, 473, 455, 456, ""), (49, m_Ex_putOn, 2, 477, 479, 7, ""), (53, m_Ex_takeAway, 2, 483, 485, 8, ""), (62, m_Ex_normalize, 0, 487, 489, 9, ""), (65, m_Ex_multiplyBits, 2, 535, 537, 12, ""), (73, m_Ex_isAbove, 2, 559, 561, 13, "")]
  | 3 => [(18, m_Ro_roundTo, 5, 499, 500, 501, ""), (38, m_Ro_goesAway, 4, 503, 505, 10, ""), (44, m_Ro_staysBelowInfinite, 1, 508, 510, 11, ""), (48, m_Re_becomeFinite, 3, 512, 513, 514, ""), (54, m_Re_becomeInfinite, 1, 516, 517, 518, ""), (58, m_Re_becomeZero, 1, 520, 451, 452, "")]
  | 4 => [(28, m_Re_becomeNan, 0, 435, 436, 437, ""), (31, m_Ar_addInfinite, 3, 439, 441, 5, ""), (44, m_Re_becomeZero, 1, 450, 451, 452, ""), (48, m_Ex_copy, 1, 454, 455, 456, ""), (52, m_Ex_becomeSum, 2, 458, 459, 460, ""), (56, m_Ex_isZero, 0, 491, 492, 493, ""), (60, m_Ro_round, 2, 495, 496, 497, ""), (68, m_Re_copy, 1, 446, 447, 448, ""), (69, m_Re_becomeInfinite, 1, 530, 517, 518, ""), (72, m_Ex_becomeProduct, 2, 531, 532, 533, ""), (75, m_Ex_becomeQuotient, 2, 544, 545, 546, ""), (78, m_Ex_becomeRoot, 1, 555, 556, 557, ""), (81, m_Re_isWhole, 0, 567, 568, 569, ""), (84, m_Ro_wholeMagnitude, 1, 571, 572, 573, ""), (88, m_Re_becomeWhole, 2, 575, 576, 577, "")]
  | 5 => [(29, m_Re_becomeWhole, 2, 630, 576, 577, ""), (41, m_Re_becomeZero, 1, 634, 451, 452, ""), (47, m_Re_becomeFinite, 3, 636, 513, 514, ""), (51, m_Re_becomeInfinite, 1, 637, 517, 518, ""), (54, m_Re_becomeNan, 0, 638, 436, 437, ""), (63, m_Fo_encodeWhole, 1, 656, 658, 18, ""), (67, m_Fo_encodeBinary, 3, 662, 664, 19, ""), (71, m_Fo_encodeDecimal, 1, 672, 674, 20, ""), (85, m_Ro_wholeMagnitude, 1, 660, 572, 573, ""), (95, m_Re_isWhole, 0, 661, 568, 569, ""), (105, m_Re_copy, 1, 666, 447, 448, ""), (109, m_Ex_copy, 1, 667, 455, 456, ""), (110, m_Ro_roundTo, 5, 668, 500, 501, "")]
  | 6 => [(33, m_Me_goOn, 1, 273, 274, 275, ""), (37, m_Me_waitUntilFree, 0, 393, 270, 271, "")]
  | 7 => [(43, m_Mo_blank, 1, 858, 860, 33, ""), (49, m_Mo_bit, 2, 875, 877, 37, ""), (53, m_Mo_top, 1, 871, 873, 36, ""), (57, m_Mo_setBit, 2, 887, 889, 40, ""), (65, m_Mo_special, 2, 846, 848, 30, ""), (72, m_Mo_goesUp, 2, 879, 881, 38, ""), (76, m_Mo_shift, 3, 883, 885, 39, ""), (80, m_Mo_put, 2, 854, 856, 32, ""), (84, m_Mo_add, 3, 891, 893, 41, ""), (87, m_Mo_lowest, 1, 896, 898, 42, ""), (91, m_Mo_tooLarge, 3, 900, 902, 43, ""), (97, m_Mo_round, 4, 867, 869, 35, ""), (101, m_Mo_either, 1, 842, 844, 29, ""), (105, m_Mo_invalid, 0, 850, 852, 31, ""), (108, m_Mo_result, 2, 863, 865, 34, ""), (112, m_Mo_finiteSum, 2, 905, 907, 44, ""), (115, m_Mo_compareRows, 2, 909, 911, 45, ""), (118, m_Mo_times, 3, 917, 919, 47, ""), (121, m_Mo_finiteQuotient, 1, 925, 927, 49, ""), (125, m_Mo_copy, 2, 830, 832, 26, ""), (128, m_Mo_whole, 0, 965, 967, 59, ""), (131, m_Mo_exactly, 1, 945, 947, 54, ""), (135, m_Mo_rank, 1, 941, 943, 53, ""), (152, m_Mo_goOn, 1, 818, 820, 23, ""), (161, m_Mo_throwing, 0, 826, 828, 25, ""), (168, m_Mo_begin, 1, 814, 816, 22, ""), (171, m_Mo_refuse, 0, 822, 824, 24, ""), (175, m_Mo_reckon, 1, 834, 836, 27, ""), (178, m_Mo_change, 1, 929, 931, 50, ""), (181, m_Mo_move, 2, 933, 935, 51, ""), (184, m_Mo_extract, 0, 949, 951, 55, ""), (187, m_Mo_alter, 1, 953, 955, 56, ""), (190, m_Mo_sum, 0, 838, 840, 28, ""), (193, m_Mo_product, 0, 913, 915, 46, ""), (196, m_Mo_quotient, 0, 921, 923, 48, ""), (199, m_Mo_root, 0, 957, 959, 57, ""), (202, m_Mo_integer, 0, 961, 963, 58, ""), (205, m_Mo_scaled, 0, 969, 971, 60, ""), (208, m_Mo_compared, 0, 937, 939, 52, ""), (220, m_Mo_readWhole, 1, 978, 980, 61, ""), (224, m_Mo_readReal, 3, 982, 984, 62, ""), (228, m_Mo_readDecimal, 1, 986, 988, 63, ""), (239, m_Mo_writeReal, 2, 997, 999, 64, ""), (243, m_Mo_writeWhole, 1, 1001, 1003, 65, "")]
  | 8 => [(7, m_SR_control, 3, 301, 302, 303, ""), (15, m_SR_operate, 2, 378, 379, 380, ""), (21, m_SR_load, 2, 615, 616, 617, ""), (24, m_SR_store, 2, 648, 649, 650, ""), (27, m_SR_write, 2, 686, 687, 688, ""), (31, m_SR_memory, 1, 694, 695, 696, ""), (35, m_SR_pass, 1, 701, 702, 703, ""), (39, m_SR_kind, 1, 710, 711, 712, ""), (43, m_SR_exponent, 1, 722, 723, 724, ""), (46, m_SR_significand, 1, 729, 730, 731, ""), (58, m_Mo_control, 3, 800, 801, 802, ""), (59, m_Mo_thrown, 0, 796, 797, 798, ""), (66, m_Mo_operate, 2, 807, 808, 809, ""), (69, m_Mo_load, 2, 974, 975, 976, ""), (72, m_Mo_store, 2, 993, 994, 995, ""), (78, m_Mo_write, 2, 1009, 1010, 1011, ""), (82, m_Mo_memory, 1, 1013, 1014, 1015, ""), (86, m_Mo_pass, 1, 1017, 1018, 1019, ""), (87, m_SR_await, 0, 265, 266, 267, ""), (90, m_Mo_await, 0, 1021, 1022, 1023, ""), (91, m_SR_time, 0, 277, 278, 279, ""), (95, m_Mo_time, 0, 1025, 1026, 1027, ""), (96, m_SR_flags, 0, 281, 282, 283, ""), (99, m_Mo_flags, 0, 1029, 1030, 1031, ""), (100, m_SR_clear, 0, 285, 286, 287, ""), (103, m_Mo_clear, 0, 1033, 1034, 1035, ""), (104, m_SR_condition, 0, 289, 290, 291, ""), (107, m_Mo_condition, 0, 1037, 1038, 1039, ""), (108, m_SR_depth, 0, 293, 294, 295, ""), (111, m_Mo_depth, 0, 1041, 1042, 1043, ""), (114, m_Mo_kind, 1, 1045, 1046, 1047, ""), (117, m_Mo_exponent, 1, 1049, 1050, 1051, ""), (120, m_Mo_significand, 1, 1053, 1054, 1055, "")]
  | _ => []
def zCalV (cn x : Nat) : Option (ZM × Nat) := ((zCalVT cn).lookup x).map (fun q => (q.1, q.2.1))
/-- the static tables -/
def zA_TICKS : List Int32 := [8, 8, 12, 20, 20, 6, 6, 6, 2, 2, 2, 2, 2, 2, 2, 2]
def zA_NEEDED : List Int32 := [2, 2, 2, 2, 1, 1, 2, 1, 1, 1, 1, 1, 1, 2, 0, 0]
def zTab (k : Nat) : Option (Nat × (Nat → Int32)) := if k = 1001 then some (16, fun j => zA_TICKS.getD j 0) else if k = 1002 then some (16, fun j => zA_NEEDED.getD j 0) else none
def zStN : List (Nat × String × String × String) := [(1001, "StackReal", "TICKS", "[I"), (1002, "StackReal", "NEEDED", "[I")]
def zStQ : List (String × String × String) := [("java/lang/Throwable", "UNASSIGNED_STACK", "[Ljava/lang/StackTraceElement;"), ("java/lang/Throwable", "SUPPRESSED_SENTINEL", "Ljava/util/List;")]
def zStr : List (Nat × Nat × String) := [(0, 68, "the precision is 24, 53 or 64"), (0, 73, "the rounding is 0 to 3"), (0, 75, "the mask is 0 to 31"), (0, 83, "there is no such operation"), (0, 89, "i is 0 to 7"), (0, 188, "an exception that is not masked"), (0, 120, "there is no such cell or form"), (0, 150, "there is no such cell"), (0, 152, "0 to 1000 ticks pass"), (0, 168, "there is no such real")]
def zAll : List ZM := [m_SR_await, m_Me_waitUntilFree, m_Me_goOn, m_SR_time, m_SR_flags, m_SR_clear, m_SR_condition, m_SR_depth, m_La_control, m_SR_control, m_La_operate, m_SR_operate, m_SR_namesPlace, m_Me_occupy, m_SR_isPossible, m_SR_pushes, m_SR_st, m_SR_raise, m_SR_workOut, m_Ar_add, m_Re_becomeNan, m_Ar_addInfinite, m_Ar_makeInvalid, m_Re_copy, m_Re_becomeZero, m_Ex_copy, m_Ex_becomeSum, m_SR_compareMagnitudes, m_SR_isBelow, m_Ex_combine, m_Ex_lowerPart, m_Ex_putOn, m_Ex_takeAway, m_Ex_normalize, m_Ex_isZero, m_Ro_round, m_Ro_roundTo, m_Ro_goesAway, m_Ro_staysBelowInfinite, m_Re_becomeFinite, m_Re_becomeInfinite, m_Re_negate, m_Ar_multiply, m_Ex_becomeProduct, m_Ex_multiplyBits, m_Ar_divide, m_Ex_becomeQuotient, m_Ex_fitsInDouble, m_Ar_root, m_Ex_becomeRoot, m_Ex_isAbove, m_Ar_makeWhole, m_Re_isWhole, m_Ro_wholeMagnitude, m_Re_becomeWhole, m_Ar_scale, m_SR_carryOut, m_SR_extract, m_SR_push, m_SR_exchange, m_SR_conditionOf, m_SR_compareReals, m_La_load, m_SR_load, m_SR_isCell, m_SR_isForm, m_Fo_decode, m_Fo_decodeBinary, m_Fo_decodeDecimal, m_La_store, m_SR_store, m_Fo_encode, m_Fo_encodeWhole, m_Fo_encodeBinary, m_Fo_binaryImage, m_Fo_encodeDecimal, m_Me_storeWhenFree, m_La_write, m_SR_write, m_La_memory, m_SR_memory, m_La_pass, m_SR_pass, m_La_kind, m_SR_kind, m_SR_isOnStack, m_La_exponent, m_SR_exponent, m_La_significand, m_SR_significand, m_Mo_thrown, m_Mo_control, m_Mo_out, m_Mo_operate, m_Mo_cost, m_Mo_begin, m_Mo_goOn, m_Mo_refuse, m_Mo_throwing, m_Mo_copy, m_Mo_reckon, m_Mo_sum, m_Mo_either, m_Mo_special, m_Mo_invalid, m_Mo_put, m_Mo_blank, m_Mo_result, m_Mo_round, m_Mo_top, m_Mo_bit, m_Mo_goesUp, m_Mo_shift, m_Mo_setBit, m_Mo_add, m_Mo_lowest, m_Mo_tooLarge, m_Mo_finiteSum, m_Mo_compareRows, m_Mo_product, m_Mo_times, m_Mo_quotient, m_Mo_finiteQuotient, m_Mo_change, m_Mo_move, m_Mo_compared, m_Mo_rank, m_Mo_exactly, m_Mo_extract, m_Mo_alter, m_Mo_root, m_Mo_integer, m_Mo_whole, m_Mo_scaled, m_Mo_load, m_Mo_readWhole, m_Mo_readReal, m_Mo_readDecimal, m_Mo_store, m_Mo_writeReal, m_Mo_writeWhole, m_Mo_write, m_Mo_memory, m_Mo_pass, m_Mo_await, m_Mo_time, m_Mo_flags, m_Mo_clear, m_Mo_condition, m_Mo_depth, m_Mo_kind, m_Mo_exponent, m_Mo_significand]
/-- the kind of a handler's class -/
def zCat (ct : Nat) : Nat := if ct = 13 then 1 else if ct = 19 then 2 else 0
def zHan (m : ZM) (pc x : Nat) : Option Nat := ((zHs m).find? (fun q => decide (q.1 ≤ pc) && decide (pc < q.2.1) && zCat q.2.2.2 == x)).map (fun q => q.2.2.1)
end
section
/-! A pure machine beside the real one: values are the machine's, but a reference names a PLACE in a list of cells; 'ad' says at which address a place lies. Here: values, locals. -/
abbrev zC : Type := (Nat × vp_A) ⊕ (Nat × List Value)
abbrev zH : Type := List zC
abbrev zL : Type := List (Nat × Value)
def tv (ad : Nat → Nat) (v : Value) : Value := match v with
  | .ref k => .ref (ad k)
  | w => w
theorem tv_cat (ad : Nat → Nat) (v : Value) : (tv ad v).category = v.category := by cases v <;> rfl
def tl (ad : Nat → Nat) (lv : zL) : List (Nat × Value) := lv.map (fun q => (q.1, tv ad q.2))
def zget (lv : zL) (i : Nat) : Option Value := (lv.find? (fun q => q.1 == i)).map (fun q => q.2)
def zdrop1 (i : Nat) (lv : zL) : zL := lv.filter (fun q => !(q.1 == i) && !(q.1 + 1 == i && q.2.category == 2))
def zdrop2 (i : Nat) (lv : zL) : zL := lv.filter (fun q => !(q.1 == i) && (!(q.1 == i + 1) && !(q.1 + 1 == i && q.2.category == 2)))
theorem zget_mem {lv : zL} {i : Nat} {v : Value} (h : zget lv i = some v) : (i, v) ∈ lv := by
  unfold zget at h
  cases hf : lv.find? (fun q => q.1 == i) with
  | none => rw [hf] at h; cases h
  | some q =>
    rw [hf] at h
    cases h
    have h1 : q.1 = i := by simpa using List.find?_some hf
    have h2 := List.mem_of_find?_eq_some hf
    rw [← h1]
    exact h2
theorem tl_mem {ad : Nat → Nat} {lv : zL} {i : Nat} {v : Value} (h : (i, v) ∈ lv) : (i, tv ad v) ∈ tl ad lv := List.mem_map.mpr ⟨(i, v), h, rfl⟩
theorem zget_at {ad : Nat → Nat} {ls : Array Slot} {nL : Nat} {lv : zL} {i : Nat} {v : Value} (hl : lv_has ls nL (tl ad lv)) (h : zget lv i = some v) : ls[i]? = some (.val (tv ad v)) := hl.2.2 (i, tv ad v) (tl_mem (zget_mem h))
theorem zget_ix (ad : Nat → Nat) {lv : zL} {i : Nat} {v : Value} (h : zget lv i = some v) : ∃ j : Nat, (tl ad lv)[j]? = some (i, tv ad v) := List.getElem?_of_mem (tl_mem (zget_mem h))
theorem tl_zdrop1 (ad : Nat → Nat) (i : Nat) (v : Value) (lv : zL) {w : Value} (hw : tv ad v = w) : (i, w) :: (tl ad lv).filter (fun q => !(q.1 == i) && !(q.1 + 1 == i && q.2.category == 2)) = tl ad ((i, v) :: zdrop1 i lv) := by
  subst hw
  simp only [tl, zdrop1, List.filter_map, List.map_cons, Function.comp_def, tv_cat]
theorem tl_zdrop2 (ad : Nat → Nat) (i : Nat) (v : Value) (lv : zL) {w : Value} (hw : tv ad v = w) : (i, w) :: (tl ad lv).filter (fun q => !(q.1 == i) && (!(q.1 == i + 1) && !(q.1 + 1 == i && q.2.category == 2))) = tl ad ((i, v) :: zdrop2 i lv) := by
  subst hw
  simp only [tl, zdrop2, List.filter_map, List.map_cons, Function.comp_def, tv_cat]
theorem tl_args (ad : Nat → Nat) : ∀ (vs : List Value) (i : Nat), lv_args i (vs.map (tv ad)) = tl ad (lv_args i vs)
  | [], _ => rfl
  | v :: vs, i => by
    show (i, tv ad v) :: lv_args (if (tv ad v).category = 2 then i + 2 else i + 1) (vs.map (tv ad)) = (i, tv ad v) :: tl ad (lv_args (if v.category = 2 then i + 2 else i + 1) vs)
    rw [tv_cat, tl_args ad vs]
theorem tv_sum (ad : Nat → Nat) (st : List Value) : ((st.map (tv ad)).map fun v => v.category).sum = (st.map fun v => v.category).sum := by
  rw [List.map_map]
  congr 1
  exact List.map_congr_left (fun v _ => tv_cat ad v)
theorem lg_sl_len (ad : Nat → Nat) : ∀ vs : List Value, (lg_sl (vs.map (tv ad))).length = (vs.map fun v => v.category).sum
  | [] => rfl
  | v :: vs => by
    have ih := lg_sl_len ad vs
    unfold lg_sl at ih ⊢
    rw [List.map_cons, List.flatMap_cons, List.length_append, ih, List.map_cons, List.sum_cons, tv_cat]
    rcases lv_cat v with h | h <;> simp [h]
/-! cells and worlds -/
def tA (ad : Nat → Nat) (x : vp_A) : vp_A := (x.1, match x.2 with
  | .inr (.inr (.inr (.inr f))) => .inr (.inr (.inr (.inr (fun i => (f i).map ad))))
  | y => y)
def tc (ad : Nat → Nat) (cA : Nat → ClassId) (x : zC) : va_E := match x with
  | .inl a => .inl (cA a.1, tA ad a.2)
  | .inr o => .inr (o.1, o.2.map (tv ad))
def wd (ad : Nat → Nat) (cA : Nat → ClassId) (h : zH) : va_W := h.mapIdx (fun k c => (ad k, tc ad cA c))
theorem wd_get {ad : Nat → Nat} {cA : Nat → ClassId} {h : zH} {k : Nat} {c : zC} (hk : h[k]? = some c) : (wd ad cA h)[k]? = some (ad k, tc ad cA c) := by
  unfold wd
  rw [List.getElem?_mapIdx, hk]
  rfl
theorem wd_set (ad : Nat → Nat) (cA : Nat → ClassId) (h : zH) (k : Nat) (c : zC) : (wd ad cA h).set k (ad k, tc ad cA c) = wd ad cA (h.set k c) := by
  apply List.ext_getElem?
  intro i
  unfold wd
  rw [List.getElem?_set, List.getElem?_mapIdx, List.getElem?_mapIdx, List.getElem?_set, List.length_mapIdx]
  by_cases hi : k = i
  · subst hi
    by_cases hl : k < h.length
    · simp [hl]
    · simp [hl]
  · simp [hi]
theorem wd_len (ad : Nat → Nat) (cA : Nat → ClassId) (h : zH) : (wd ad cA h).length = h.length := by unfold wd; rw [List.length_mapIdx]
end
section
/-- a switch's offset -/
def zsw (d lo hi : Int) (offs : Array Int) (x : Int) : Int := if x < lo ∨ hi < x then d else (offs[(x - lo).toNat]?).getD d
/-- what a table of instructions promises of each: its length, its stores within the locals, its targets not negative -/
def zok (nL pc : Nat) (i : Instr) (n : Nat) : Bool := match i with
  | .iconst a => n == 1
  | .bipush a => n == 2
  | .sipush a => n == 3
  | .lconst a => n == 1
  | .iload_n a => n == 1
  | .iload a => n == 2
  | .lload_n a => n == 1
  | .lload a => n == 2
  | .aload_n a => n == 1
  | .aload a => n == 2
  | .istore_n a => n == 1 && decide ((a : Nat) < nL)
  | .istore a => n == 2 && decide (a < nL)
  | .lstore_n a => n == 1 && decide ((a : Nat) + 1 < nL)
  | .lstore a => n == 2 && decide (a + 1 < nL)
  | .astore_n a => n == 1 && decide ((a : Nat) < nL)
  | .astore a => n == 2 && decide (a < nL)
  | .iinc a b => n == 3 && decide (a < nL)
  | .iadd => n == 1
  | .isub => n == 1
  | .imul => n == 1
  | .iand => n == 1
  | .ior => n == 1
  | .ixor => n == 1
  | .ishl => n == 1
  | .ishr => n == 1
  | .iushr => n == 1
  | .idiv => n == 1
  | .irem => n == 1
  | .ineg => n == 1
  | .ladd => n == 1
  | .lsub => n == 1
  | .lmul => n == 1
  | .land => n == 1
  | .lor => n == 1
  | .lxor => n == 1
  | .ldiv => n == 1
  | .lrem => n == 1
  | .lneg => n == 1
  | .lshl => n == 1
  | .lshr => n == 1
  | .lushr => n == 1
  | .lcmp => n == 1
  | .i2l => n == 1
  | .l2i => n == 1
  | .dup => n == 1
  | .pop => n == 1
  | .dup_x1 => n == 1
  | .dup2 => n == 1
  | .dup2_x1 => n == 1
  | .pop2 => n == 1
  | .ifCond .eq off => n == 3 && decide (0 ≤ (pc : Int) + off)
  | .if_icmp .eq off => n == 3 && decide (0 ≤ (pc : Int) + off)
  | .ifCond .ne off => n == 3 && decide (0 ≤ (pc : Int) + off)
  | .if_icmp .ne off => n == 3 && decide (0 ≤ (pc : Int) + off)
  | .ifCond .lt off => n == 3 && decide (0 ≤ (pc : Int) + off)
  | .if_icmp .lt off => n == 3 && decide (0 ≤ (pc : Int) + off)
  | .ifCond .ge off => n == 3 && decide (0 ≤ (pc : Int) + off)
  | .if_icmp .ge off => n == 3 && decide (0 ≤ (pc : Int) + off)
  | .ifCond .gt off => n == 3 && decide (0 ≤ (pc : Int) + off)
  | .if_icmp .gt off => n == 3 && decide (0 ≤ (pc : Int) + off)
  | .ifCond .le off => n == 3 && decide (0 ≤ (pc : Int) + off)
  | .if_icmp .le off => n == 3 && decide (0 ≤ (pc : Int) + off)
  | .goto off => n == 3 && decide (0 ≤ (pc : Int) + off)
  | .tableswitch d lo hi offs => decide (0 ≤ (pc : Int) + d) && decide (offs.size = (hi - lo + 1).toNat) && offs.all (fun o => decide (0 ≤ (pc : Int) + o))
  | .lookupswitch d ps => decide (0 ≤ (pc : Int) + d) && (ps.toList.zip (ps.toList.drop 1)).all (fun (a, next) => a.1 < next.1) && ps.toList.all (fun o => decide (0 ≤ (pc : Int) + o.2))
  | .getfield _ => n == 3
  | .putfield _ => n == 3
  | .getstatic _ => n == 3
  | .ldc _ => n == 2
  | .ldc2_w _ => n == 3
  | .iaload => n == 1
  | .laload => n == 1
  | .baload => n == 1
  | .aaload => n == 1
  | .iastore => n == 1
  | .lastore => n == 1
  | .bastore => n == 1
  | .aastore => n == 1
  | .arraylength => n == 1
  | .invokevirtual _ => n == 3
  | .invokestatic _ => n == 3
  | .ireturn => n == 1
  | .lreturn => n == 1
  | .areturn => n == 1
  | .return_ => n == 1
  | _ => true
/-- an instruction that touches neither heap nor tables: the next pc, locals, stack -/
def z1 (pc : Nat) (i : Instr) (lv : zL) (st : List Value) : Option (Nat × zL × List Value) := match i with
  | .iconst a => some (pc + 1, lv, .int (Int32.ofInt a) :: st)
  | .bipush a => some (pc + 2, lv, .int (Int8.ofInt a).toInt32 :: st)
  | .sipush a => some (pc + 3, lv, .int (Int16.ofInt a).toInt32 :: st)
  | .lconst a => some (pc + 1, lv, .long (Int64.ofNat (a : Nat)) :: st)
  | .iload_n a => (match zget lv a with | some (.int x) => some (pc + 1, lv, .int x :: st) | _ => none)
  | .iload a => (match zget lv a with | some (.int x) => some (pc + 2, lv, .int x :: st) | _ => none)
  | .lload_n a => (match zget lv a with | some (.long x) => some (pc + 1, lv, .long x :: st) | _ => none)
  | .lload a => (match zget lv a with | some (.long x) => some (pc + 2, lv, .long x :: st) | _ => none)
  | .aload_n a => (match zget lv a with | some (.ref x) => some (pc + 1, lv, .ref x :: st) | _ => none)
  | .aload a => (match zget lv a with | some (.ref x) => some (pc + 2, lv, .ref x :: st) | _ => none)
  | .istore_n a => (match st with | .int x :: r => some (pc + 1, (a.val, .int x) :: zdrop1 a lv, r) | _ => none)
  | .istore a => (match st with | .int x :: r => some (pc + 2, (a, .int x) :: zdrop1 a lv, r) | _ => none)
  | .lstore_n a => (match st with | .long x :: r => some (pc + 1, (a.val, .long x) :: zdrop2 a lv, r) | _ => none)
  | .lstore a => (match st with | .long x :: r => some (pc + 2, (a, .long x) :: zdrop2 a lv, r) | _ => none)
  | .astore_n a => (match st with | .ref x :: r => some (pc + 1, (a.val, .ref x) :: zdrop1 a lv, r) | _ => none)
  | .astore a => (match st with | .ref x :: r => some (pc + 2, (a, .ref x) :: zdrop1 a lv, r) | _ => none)
  | .iinc a b => (match zget lv a with | some (.int x) => some (pc + 3, (a, .int (x + Int32.ofInt b)) :: zdrop1 a lv, st) | _ => none)
  | .iadd => (match st with | .int y :: .int x :: r => some (pc + 1, lv, .int (x + y) :: r) | _ => none)
  | .isub => (match st with | .int y :: .int x :: r => some (pc + 1, lv, .int (x - y) :: r) | _ => none)
  | .imul => (match st with | .int y :: .int x :: r => some (pc + 1, lv, .int (x * y) :: r) | _ => none)
  | .iand => (match st with | .int y :: .int x :: r => some (pc + 1, lv, .int (x &&& y) :: r) | _ => none)
  | .ior => (match st with | .int y :: .int x :: r => some (pc + 1, lv, .int (x ||| y) :: r) | _ => none)
  | .ixor => (match st with | .int y :: .int x :: r => some (pc + 1, lv, .int (x ^^^ y) :: r) | _ => none)
  | .ishl => (match st with | .int y :: .int x :: r => some (pc + 1, lv, .int (x <<< (y &&& 31)) :: r) | _ => none)
  | .ishr => (match st with | .int y :: .int x :: r => some (pc + 1, lv, .int (x >>> (y &&& 31)) :: r) | _ => none)
  | .iushr => (match st with | .int y :: .int x :: r => some (pc + 1, lv, .int ((x.toUInt32 >>> (y.toUInt32 &&& Int32.toUInt32 31)).toInt32) :: r) | _ => none)
  | .idiv => (match st with | .int y :: .int x :: r => if y = 0 then none else some (pc + 1, lv, .int (x / y) :: r) | _ => none)
  | .irem => (match st with | .int y :: .int x :: r => if y = 0 then none else some (pc + 1, lv, .int (x - x / y * y) :: r) | _ => none)
  | .ineg => (match st with | .int x :: r => some (pc + 1, lv, .int (-x) :: r) | _ => none)
  | .ladd => (match st with | .long y :: .long x :: r => some (pc + 1, lv, .long (x + y) :: r) | _ => none)
  | .lsub => (match st with | .long y :: .long x :: r => some (pc + 1, lv, .long (x - y) :: r) | _ => none)
  | .lmul => (match st with | .long y :: .long x :: r => some (pc + 1, lv, .long (x * y) :: r) | _ => none)
  | .land => (match st with | .long y :: .long x :: r => some (pc + 1, lv, .long (x &&& y) :: r) | _ => none)
  | .lor => (match st with | .long y :: .long x :: r => some (pc + 1, lv, .long (x ||| y) :: r) | _ => none)
  | .lxor => (match st with | .long y :: .long x :: r => some (pc + 1, lv, .long (x ^^^ y) :: r) | _ => none)
  | .ldiv => (match st with | .long y :: .long x :: r => if y = 0 then none else some (pc + 1, lv, .long (x / y) :: r) | _ => none)
  | .lrem => (match st with | .long y :: .long x :: r => if y = 0 then none else some (pc + 1, lv, .long (x - x / y * y) :: r) | _ => none)
  | .lneg => (match st with | .long x :: r => some (pc + 1, lv, .long (-x) :: r) | _ => none)
  | .lshl => (match st with | .int y :: .long x :: r => some (pc + 1, lv, .long (x <<< (y.toInt64 &&& 63)) :: r) | _ => none)
  | .lshr => (match st with | .int y :: .long x :: r => some (pc + 1, lv, .long (x >>> (y.toInt64 &&& 63)) :: r) | _ => none)
  | .lushr => (match st with | .int y :: .long x :: r => some (pc + 1, lv, .long ((x.toUInt64 >>> (y.toInt64.toUInt64 &&& Int64.toUInt64 63)).toInt64) :: r) | _ => none)
  | .lcmp => (match st with | .long y :: .long x :: r => some (pc + 1, lv, .int (lg_cmp x y) :: r) | _ => none)
  | .i2l => (match st with | .int x :: r => some (pc + 1, lv, .long x.toInt64 :: r) | _ => none)
  | .l2i => (match st with | .long x :: r => some (pc + 1, lv, .int x.toInt32 :: r) | _ => none)
  | .dup => (match st with | v :: r => if v.category = 1 then some (pc + 1, lv, v :: v :: r) else none | _ => none)
  | .pop => (match st with | v :: r => if v.category = 1 then some (pc + 1, lv, r) else none | _ => none)
  | .dup_x1 => (match st with | v :: w :: r => if v.category = 1 ∧ w.category = 1 then some (pc + 1, lv, v :: w :: v :: r) else none | _ => none)
  | .dup2 => (match st with | .int v :: .ref w :: r => some (pc + 1, lv, .int v :: .ref w :: .int v :: .ref w :: r) | .long v :: r => some (pc + 1, lv, .long v :: .long v :: r) | _ => none)
  | .dup2_x1 => (match st with | .long v :: w :: r => if w.category = 1 then some (pc + 1, lv, .long v :: w :: .long v :: r) else none | _ => none)
  | .pop2 => (match st with | .long v :: r => some (pc + 1, lv, r) | _ => none)
  | .ifCond .eq off => (match st with | .int x :: r => some (if x = 0 then ((pc : Int) + off).toNat else pc + 3, lv, r) | _ => none)
  | .if_icmp .eq off => (match st with | .int y :: .int x :: r => some (if x = y then ((pc : Int) + off).toNat else pc + 3, lv, r) | _ => none)
  | .ifCond .ne off => (match st with | .int x :: r => some (if ¬ x = 0 then ((pc : Int) + off).toNat else pc + 3, lv, r) | _ => none)
  | .if_icmp .ne off => (match st with | .int y :: .int x :: r => some (if ¬ x = y then ((pc : Int) + off).toNat else pc + 3, lv, r) | _ => none)
  | .ifCond .lt off => (match st with | .int x :: r => some (if x < 0 then ((pc : Int) + off).toNat else pc + 3, lv, r) | _ => none)
  | .if_icmp .lt off => (match st with | .int y :: .int x :: r => some (if x < y then ((pc : Int) + off).toNat else pc + 3, lv, r) | _ => none)
  | .ifCond .ge off => (match st with | .int x :: r => some (if 0 ≤ x then ((pc : Int) + off).toNat else pc + 3, lv, r) | _ => none)
  | .if_icmp .ge off => (match st with | .int y :: .int x :: r => some (if y ≤ x then ((pc : Int) + off).toNat else pc + 3, lv, r) | _ => none)
  | .ifCond .gt off => (match st with | .int x :: r => some (if 0 < x then ((pc : Int) + off).toNat else pc + 3, lv, r) | _ => none)
  | .if_icmp .gt off => (match st with | .int y :: .int x :: r => some (if y < x then ((pc : Int) + off).toNat else pc + 3, lv, r) | _ => none)
  | .ifCond .le off => (match st with | .int x :: r => some (if x ≤ 0 then ((pc : Int) + off).toNat else pc + 3, lv, r) | _ => none)
  | .if_icmp .le off => (match st with | .int y :: .int x :: r => some (if x ≤ y then ((pc : Int) + off).toNat else pc + 3, lv, r) | _ => none)
  | .goto off => some (((pc : Int) + off).toNat, lv, st)
  | .tableswitch d lo hi offs => (match st with | .int x :: r => some (((pc : Int) + zsw d lo hi offs x.toInt).toNat, lv, r) | _ => none)
  | .lookupswitch d ps => (match st with | .int x :: r => some (((pc : Int) + Op.lookupswitch.offset ps.toList d x.toInt).toNat, lv, r) | _ => none)
  | _ => none
section Z1
variable {p : Program} {l : Launch} {e : Env} {R : Room} {s : State} {m : MethodId} {args : Array Value} {below : List Frame} {meth : Method} {c : Code} {H : Heap} {locs : List Loc} {cells slots : Nat} {Q : State → Prop}
variable {cc : ByteArray} {pc : Nat} {ls : Array Slot}
theorem z_tab {rest : List Value} (hx : p.tables.exec = Jvm.exec) (hb : c.code = cc) {d lo hi : Int} {offs : Array Int} {n : Nat} {x : Int32} (hd : decode cc pc = .ok (.tableswitch d lo hi offs, n)) (h0 : 0 ≤ (pc : Int) + d) (hs : offs.size = (hi - lo + 1).toNat) (ha : ∀ (j : Nat) (hj : j < offs.size), 0 ≤ (pc : Int) + offs[j])
    (k : W p l e R s m args below meth c H locs cells slots Q (F0 m (((pc : Int) + zsw d lo hi offs x.toInt).toNat) ls rest)) : W p l e R s m args below meth c H locs cells slots Q (F0 m pc ls (.int x :: rest)) := by
  by_cases h : x.toInt < lo ∨ hi < x.toInt
  · rw [zsw, if_pos h] at k
    exact lv_tableOut hx hb hd h (Int.toNat_of_nonneg h0).symm k
  · rw [zsw, if_neg h] at k
    have h1 : ¬ x.toInt < lo := fun z => h (Or.inl z)
    have h2 : ¬ hi < x.toInt := fun z => h (Or.inr z)
    have hj : (x.toInt - lo).toNat < offs.size := by rw [hs]; omega
    rw [Array.getElem?_eq_getElem hj, Option.getD_some] at k
    exact lv_tableIn hx hb hd h1 h2 (Array.getElem?_eq_getElem hj) (Int.toNat_of_nonneg (ha _ hj)).symm k
theorem z_look {d x : Int} : ∀ (ps : List (Int × Int)), 0 ≤ (pc : Int) + d → (∀ o ∈ ps, 0 ≤ (pc : Int) + o.2) → 0 ≤ (pc : Int) + Op.lookupswitch.offset ps d x
  | [], h, _ => h
  | (a, o) :: ps, h, ha => by
    rw [Op.lookupswitch.offset_cons]
    split
    · exact ha (a, o) List.mem_cons_self
    · exact z_look ps h (fun q hq => ha q (List.mem_cons_of_mem _ hq))
set_option maxHeartbeats 4000000 in
theorem sim1 {ad : Nat → Nat} {nL n : Nat} {i : Instr} {lv lv' : zL} {st st' : List Value} {pc' : Nat} (hx : p.tables.exec = Jvm.exec) (hb : c.code = cc) (hd : decode cc pc = .ok (i, n)) (hz : zok nL pc i n = true) (h1 : z1 pc i lv st = some (pc', lv', st'))
    (hl : lv_has ls nL (tl ad lv)) (k : ∀ ls' : Array Slot, lv_has ls' nL (tl ad lv') → W p l e R s m args below meth c H locs cells slots Q (F0 m pc' ls' (st'.map (tv ad)))) :
    W p l e R s m args below meth c H locs cells slots Q (F0 m pc ls (st.map (tv ad))) := by
  unfold z1 at h1
  split at h1
  · -- .iconst a
    cases h1
    obtain rfl : n = 1 := by simpa [zok] using hz
    exact lv_iconst hx hb hd rfl (k _ hl)
  · -- .bipush a
    cases h1
    obtain rfl : n = 2 := by simpa [zok] using hz
    exact lv_bipush hx hb hd rfl (k _ hl)
  · -- .sipush a
    cases h1
    obtain rfl : n = 3 := by simpa [zok] using hz
    exact lv_sipush hx hb hd rfl (k _ hl)
  · -- .lconst a
    cases h1
    obtain rfl : n = 1 := by simpa [zok] using hz
    exact lv_lconst hx hb hd rfl (k _ hl)
  · -- .iload_n a
    split at h1
    · rename_i x hg
      cases h1
      obtain rfl : n = 1 := by simpa [zok] using hz
      exact lv_iload_n hx hb hd rfl (zget_at hl hg) (k _ hl)
    · cases h1
  · -- .iload a
    split at h1
    · rename_i x hg
      cases h1
      obtain rfl : n = 2 := by simpa [zok] using hz
      exact lv_iload hx hb hd (zget_at hl hg) (k _ hl)
    · cases h1
  · -- .lload_n a
    split at h1
    · rename_i x hg
      cases h1
      obtain rfl : n = 1 := by simpa [zok] using hz
      exact lv_lload_n hx hb hd rfl (zget_at hl hg) (k _ hl)
    · cases h1
  · -- .lload a
    split at h1
    · rename_i x hg
      cases h1
      obtain rfl : n = 2 := by simpa [zok] using hz
      exact lv_lload hx hb hd (zget_at hl hg) (k _ hl)
    · cases h1
  · -- .aload_n a
    split at h1
    · rename_i x hg
      cases h1
      obtain rfl : n = 1 := by simpa [zok] using hz
      exact lv_aload_n hx hb hd rfl (zget_at hl hg) (k _ hl)
    · cases h1
  · -- .aload a
    split at h1
    · rename_i x hg
      cases h1
      obtain rfl : n = 2 := by simpa [zok] using hz
      exact lv_aload hx hb hd (zget_at hl hg) (k _ hl)
    · cases h1
  · -- .istore_n a
    split at h1
    · rename_i x r
      cases h1
      simp only [zok, Bool.and_eq_true, beq_iff_eq, decide_eq_true_eq] at hz
      obtain rfl : n = 1 := hz.1
      exact lv_istore_n hx hb hd rfl hl hz.2 (tl_zdrop1 ad _ (.int _) _ rfl) (fun ls' h => k ls' h)
    · cases h1
  · -- .istore a
    split at h1
    · rename_i x r
      cases h1
      simp only [zok, Bool.and_eq_true, beq_iff_eq, decide_eq_true_eq] at hz
      obtain rfl : n = 2 := hz.1
      exact lv_istore hx hb hd hl hz.2 (tl_zdrop1 ad _ (.int _) _ rfl) (fun ls' h => k ls' h)
    · cases h1
  · -- .lstore_n a
    split at h1
    · rename_i x r
      cases h1
      simp only [zok, Bool.and_eq_true, beq_iff_eq, decide_eq_true_eq] at hz
      obtain rfl : n = 1 := hz.1
      exact lv_lstore_n hx hb hd rfl hl hz.2 (tl_zdrop2 ad _ (.long _) _ rfl) (fun ls' h => k ls' h)
    · cases h1
  · -- .lstore a
    split at h1
    · rename_i x r
      cases h1
      simp only [zok, Bool.and_eq_true, beq_iff_eq, decide_eq_true_eq] at hz
      obtain rfl : n = 2 := hz.1
      exact lv_lstore hx hb hd hl hz.2 (tl_zdrop2 ad _ (.long _) _ rfl) (fun ls' h => k ls' h)
    · cases h1
  · -- .astore_n a
    split at h1
    · rename_i x r
      cases h1
      simp only [zok, Bool.and_eq_true, beq_iff_eq, decide_eq_true_eq] at hz
      obtain rfl : n = 1 := hz.1
      exact lv_astore_n hx hb hd rfl hl hz.2 (tl_zdrop1 ad _ (.ref _) _ rfl) (fun ls' h => k ls' h)
    · cases h1
  · -- .astore a
    split at h1
    · rename_i x r
      cases h1
      simp only [zok, Bool.and_eq_true, beq_iff_eq, decide_eq_true_eq] at hz
      obtain rfl : n = 2 := hz.1
      exact lv_astore hx hb hd hl hz.2 (tl_zdrop1 ad _ (.ref _) _ rfl) (fun ls' h => k ls' h)
    · cases h1
  · -- .iinc a b
    split at h1
    · rename_i x hg
      cases h1
      simp only [zok, Bool.and_eq_true, beq_iff_eq, decide_eq_true_eq] at hz
      obtain rfl : n = 3 := hz.1
      obtain ⟨j, hj⟩ := zget_ix ad hg
      exact lv_iinc hx hb hd hl hj rfl hz.2 (tl_zdrop1 ad _ (.int _) _ rfl) (fun ls' h => k ls' h)
    · cases h1
  · -- .iadd
    split at h1
    · rename_i y x r
      cases h1
      obtain rfl : n = 1 := by simpa [zok] using hz
      exact lv_iadd hx hb hd (k _ hl)
    · cases h1
  · -- .isub
    split at h1
    · rename_i y x r
      cases h1
      obtain rfl : n = 1 := by simpa [zok] using hz
      exact lv_isub hx hb hd (k _ hl)
    · cases h1
  · -- .imul
    split at h1
    · rename_i y x r
      cases h1
      obtain rfl : n = 1 := by simpa [zok] using hz
      exact lv_imul hx hb hd (k _ hl)
    · cases h1
  · -- .iand
    split at h1
    · rename_i y x r
      cases h1
      obtain rfl : n = 1 := by simpa [zok] using hz
      exact lv_iand hx hb hd (k _ hl)
    · cases h1
  · -- .ior
    split at h1
    · rename_i y x r
      cases h1
      obtain rfl : n = 1 := by simpa [zok] using hz
      exact lv_ior hx hb hd (k _ hl)
    · cases h1
  · -- .ixor
    split at h1
    · rename_i y x r
      cases h1
      obtain rfl : n = 1 := by simpa [zok] using hz
      exact lv_ixor hx hb hd (k _ hl)
    · cases h1
  · -- .ishl
    split at h1
    · rename_i y x r
      cases h1
      obtain rfl : n = 1 := by simpa [zok] using hz
      exact lv_ishl hx hb hd (k _ hl)
    · cases h1
  · -- .ishr
    split at h1
    · rename_i y x r
      cases h1
      obtain rfl : n = 1 := by simpa [zok] using hz
      exact lv_ishr hx hb hd (k _ hl)
    · cases h1
  · -- .iushr
    split at h1
    · rename_i y x r
      cases h1
      obtain rfl : n = 1 := by simpa [zok] using hz
      exact lv_iushr hx hb hd rfl (k _ hl)
    · cases h1
  · -- .idiv
    split at h1
    · rename_i y x r
      split at h1
      · cases h1
      · rename_i hy
        cases h1
        obtain rfl : n = 1 := by simpa [zok] using hz
        exact lv_idiv hx hb hd hy (k _ hl)
    · cases h1
  · -- .irem
    split at h1
    · rename_i y x r
      split at h1
      · cases h1
      · rename_i hy
        cases h1
        obtain rfl : n = 1 := by simpa [zok] using hz
        exact lv_irem hx hb hd hy (k _ hl)
    · cases h1
  · -- .ineg
    split at h1
    · rename_i x r
      cases h1
      obtain rfl : n = 1 := by simpa [zok] using hz
      exact lv_ineg hx hb hd (k _ hl)
    · cases h1
  · -- .ladd
    split at h1
    · rename_i y x r
      cases h1
      obtain rfl : n = 1 := by simpa [zok] using hz
      exact lv_ladd hx hb hd (k _ hl)
    · cases h1
  · -- .lsub
    split at h1
    · rename_i y x r
      cases h1
      obtain rfl : n = 1 := by simpa [zok] using hz
      exact lv_lsub hx hb hd (k _ hl)
    · cases h1
  · -- .lmul
    split at h1
    · rename_i y x r
      cases h1
      obtain rfl : n = 1 := by simpa [zok] using hz
      exact lv_lmul hx hb hd (k _ hl)
    · cases h1
  · -- .land
    split at h1
    · rename_i y x r
      cases h1
      obtain rfl : n = 1 := by simpa [zok] using hz
      exact lv_land hx hb hd (k _ hl)
    · cases h1
  · -- .lor
    split at h1
    · rename_i y x r
      cases h1
      obtain rfl : n = 1 := by simpa [zok] using hz
      exact lv_lor hx hb hd (k _ hl)
    · cases h1
  · -- .lxor
    split at h1
    · rename_i y x r
      cases h1
      obtain rfl : n = 1 := by simpa [zok] using hz
      exact lv_lxor hx hb hd (k _ hl)
    · cases h1
  · -- .ldiv
    split at h1
    · rename_i y x r
      split at h1
      · cases h1
      · rename_i hy
        cases h1
        obtain rfl : n = 1 := by simpa [zok] using hz
        exact lv_ldiv hx hb hd hy (k _ hl)
    · cases h1
  · -- .lrem
    split at h1
    · rename_i y x r
      split at h1
      · cases h1
      · rename_i hy
        cases h1
        obtain rfl : n = 1 := by simpa [zok] using hz
        exact lv_lrem hx hb hd hy (k _ hl)
    · cases h1
  · -- .lneg
    split at h1
    · rename_i x r
      cases h1
      obtain rfl : n = 1 := by simpa [zok] using hz
      exact lv_lneg hx hb hd (k _ hl)
    · cases h1
  · -- .lshl
    split at h1
    · rename_i y x r
      cases h1
      obtain rfl : n = 1 := by simpa [zok] using hz
      exact lv_lshl hx hb hd rfl (k _ hl)
    · cases h1
  · -- .lshr
    split at h1
    · rename_i y x r
      cases h1
      obtain rfl : n = 1 := by simpa [zok] using hz
      exact lv_lshr hx hb hd rfl (k _ hl)
    · cases h1
  · -- .lushr
    split at h1
    · rename_i y x r
      cases h1
      obtain rfl : n = 1 := by simpa [zok] using hz
      exact lv_lushr hx hb hd rfl (k _ hl)
    · cases h1
  · -- .lcmp
    split at h1
    · rename_i y x r
      cases h1
      obtain rfl : n = 1 := by simpa [zok] using hz
      exact W.lcmp hx hb hd (k _ hl)
    · cases h1
  · -- .i2l
    split at h1
    · rename_i x r
      cases h1
      obtain rfl : n = 1 := by simpa [zok] using hz
      exact lv_i2l hx hb hd rfl (k _ hl)
    · cases h1
  · -- .l2i
    split at h1
    · rename_i x r
      cases h1
      obtain rfl : n = 1 := by simpa [zok] using hz
      exact lv_l2i hx hb hd rfl (k _ hl)
    · cases h1
  · -- .dup
    split at h1
    · rename_i v r
      split at h1
      · rename_i hc
        cases h1
        obtain rfl : n = 1 := by simpa [zok] using hz
        exact lv_dup hx hb hd (by rw [tv_cat]; exact hc) (k _ hl)
      · cases h1
    · cases h1
  · -- .pop
    split at h1
    · rename_i v r
      split at h1
      · rename_i hc
        cases h1
        obtain rfl : n = 1 := by simpa [zok] using hz
        exact lv_pop hx hb hd (by rw [tv_cat]; exact hc) (k _ hl)
      · cases h1
    · cases h1
  · -- .dup_x1
    split at h1
    · rename_i v w r
      split at h1
      · rename_i hc
        cases h1
        obtain rfl : n = 1 := by simpa [zok] using hz
        exact lv_dup_x1 hx hb hd (by rw [tv_cat]; exact hc.1) (by rw [tv_cat]; exact hc.2) (k _ hl)
      · cases h1
    · cases h1
  · -- .dup2
    split at h1
    · rename_i v w r
      cases h1
      obtain rfl : n = 1 := by simpa [zok] using hz
      exact lv_dup2_11 hx hb hd rfl rfl (k _ hl)
    · rename_i v r
      cases h1
      obtain rfl : n = 1 := by simpa [zok] using hz
      exact lv_dup2_2 hx hb hd rfl (k _ hl)
    · cases h1
  · -- .dup2_x1
    split at h1
    · rename_i v w r
      split at h1
      · rename_i hc
        cases h1
        obtain rfl : n = 1 := by simpa [zok] using hz
        exact lv_dup2_x1_2 hx hb hd rfl (by rw [tv_cat]; exact hc) (k _ hl)
      · cases h1
    · cases h1
  · -- .pop2
    split at h1
    · rename_i v r
      cases h1
      obtain rfl : n = 1 := by simpa [zok] using hz
      exact lv_pop2_2 hx hb hd rfl (k _ hl)
    · cases h1
  · -- .ifCond .eq off
    split at h1
    · rename_i x r
      cases h1
      simp only [zok, Bool.and_eq_true, beq_iff_eq, decide_eq_true_eq] at hz
      obtain rfl : n = 3 := hz.1
      refine lv_if_eq hx hb hd (Int.toNat_of_nonneg hz.2).symm (fun hc => ?_) (fun hc => ?_)
      · have q := k _ hl; rw [if_pos hc] at q; exact q
      · have q := k _ hl; rw [if_neg hc] at q; exact q
    · cases h1
  · -- .if_icmp .eq off
    split at h1
    · rename_i y x r
      cases h1
      simp only [zok, Bool.and_eq_true, beq_iff_eq, decide_eq_true_eq] at hz
      obtain rfl : n = 3 := hz.1
      refine lv_icmp_eq hx hb hd (Int.toNat_of_nonneg hz.2).symm (fun hc => ?_) (fun hc => ?_)
      · have q := k _ hl; rw [if_pos hc] at q; exact q
      · have q := k _ hl; rw [if_neg hc] at q; exact q
    · cases h1
  · -- .ifCond .ne off
    split at h1
    · rename_i x r
      cases h1
      simp only [zok, Bool.and_eq_true, beq_iff_eq, decide_eq_true_eq] at hz
      obtain rfl : n = 3 := hz.1
      refine lv_if_ne hx hb hd (Int.toNat_of_nonneg hz.2).symm (fun hc => ?_) (fun hc => ?_)
      · have q := k _ hl; rw [if_pos hc] at q; exact q
      · have q := k _ hl; rw [if_neg (fun z => z hc)] at q; exact q
    · cases h1
  · -- .if_icmp .ne off
    split at h1
    · rename_i y x r
      cases h1
      simp only [zok, Bool.and_eq_true, beq_iff_eq, decide_eq_true_eq] at hz
      obtain rfl : n = 3 := hz.1
      refine lv_icmp_ne hx hb hd (Int.toNat_of_nonneg hz.2).symm (fun hc => ?_) (fun hc => ?_)
      · have q := k _ hl; rw [if_pos hc] at q; exact q
      · have q := k _ hl; rw [if_neg (fun z => z hc)] at q; exact q
    · cases h1
  · -- .ifCond .lt off
    split at h1
    · rename_i x r
      cases h1
      simp only [zok, Bool.and_eq_true, beq_iff_eq, decide_eq_true_eq] at hz
      obtain rfl : n = 3 := hz.1
      refine lv_if_lt hx hb hd (Int.toNat_of_nonneg hz.2).symm (fun hc => ?_) (fun hc => ?_)
      · have q := k _ hl; rw [if_pos hc] at q; exact q
      · have q := k _ hl; rw [if_neg hc] at q; exact q
    · cases h1
  · -- .if_icmp .lt off
    split at h1
    · rename_i y x r
      cases h1
      simp only [zok, Bool.and_eq_true, beq_iff_eq, decide_eq_true_eq] at hz
      obtain rfl : n = 3 := hz.1
      refine lv_icmp_lt hx hb hd (Int.toNat_of_nonneg hz.2).symm (fun hc => ?_) (fun hc => ?_)
      · have q := k _ hl; rw [if_pos hc] at q; exact q
      · have q := k _ hl; rw [if_neg hc] at q; exact q
    · cases h1
  · -- .ifCond .ge off
    split at h1
    · rename_i x r
      cases h1
      simp only [zok, Bool.and_eq_true, beq_iff_eq, decide_eq_true_eq] at hz
      obtain rfl : n = 3 := hz.1
      refine lv_if_ge hx hb hd (Int.toNat_of_nonneg hz.2).symm (fun hc => ?_) (fun hc => ?_)
      · have q := k _ hl; rw [if_pos hc] at q; exact q
      · have q := k _ hl; rw [if_neg hc] at q; exact q
    · cases h1
  · -- .if_icmp .ge off
    split at h1
    · rename_i y x r
      cases h1
      simp only [zok, Bool.and_eq_true, beq_iff_eq, decide_eq_true_eq] at hz
      obtain rfl : n = 3 := hz.1
      refine lv_icmp_ge hx hb hd (Int.toNat_of_nonneg hz.2).symm (fun hc => ?_) (fun hc => ?_)
      · have q := k _ hl; rw [if_pos hc] at q; exact q
      · have q := k _ hl; rw [if_neg hc] at q; exact q
    · cases h1
  · -- .ifCond .gt off
    split at h1
    · rename_i x r
      cases h1
      simp only [zok, Bool.and_eq_true, beq_iff_eq, decide_eq_true_eq] at hz
      obtain rfl : n = 3 := hz.1
      refine lv_if_gt hx hb hd (Int.toNat_of_nonneg hz.2).symm (fun hc => ?_) (fun hc => ?_)
      · have q := k _ hl; rw [if_pos hc] at q; exact q
      · have q := k _ hl; rw [if_neg hc] at q; exact q
    · cases h1
  · -- .if_icmp .gt off
    split at h1
    · rename_i y x r
      cases h1
      simp only [zok, Bool.and_eq_true, beq_iff_eq, decide_eq_true_eq] at hz
      obtain rfl : n = 3 := hz.1
      refine lv_icmp_gt hx hb hd (Int.toNat_of_nonneg hz.2).symm (fun hc => ?_) (fun hc => ?_)
      · have q := k _ hl; rw [if_pos hc] at q; exact q
      · have q := k _ hl; rw [if_neg hc] at q; exact q
    · cases h1
  · -- .ifCond .le off
    split at h1
    · rename_i x r
      cases h1
      simp only [zok, Bool.and_eq_true, beq_iff_eq, decide_eq_true_eq] at hz
      obtain rfl : n = 3 := hz.1
      refine lv_if_le hx hb hd (Int.toNat_of_nonneg hz.2).symm (fun hc => ?_) (fun hc => ?_)
      · have q := k _ hl; rw [if_pos hc] at q; exact q
      · have q := k _ hl; rw [if_neg hc] at q; exact q
    · cases h1
  · -- .if_icmp .le off
    split at h1
    · rename_i y x r
      cases h1
      simp only [zok, Bool.and_eq_true, beq_iff_eq, decide_eq_true_eq] at hz
      obtain rfl : n = 3 := hz.1
      refine lv_icmp_le hx hb hd (Int.toNat_of_nonneg hz.2).symm (fun hc => ?_) (fun hc => ?_)
      · have q := k _ hl; rw [if_pos hc] at q; exact q
      · have q := k _ hl; rw [if_neg hc] at q; exact q
    · cases h1
  · -- .goto off
    cases h1
    simp only [zok, Bool.and_eq_true, beq_iff_eq, decide_eq_true_eq] at hz
    obtain rfl : n = 3 := hz.1
    exact lv_goto hx hb hd (Int.toNat_of_nonneg hz.2).symm (k _ hl)
  · -- .tableswitch d lo hi offs
    split at h1
    · rename_i x r
      cases h1
      simp only [zok, Bool.and_eq_true, decide_eq_true_eq, Array.all_eq_true] at hz
      exact z_tab hx hb hd hz.1.1 hz.1.2 (fun j hj => by simpa using hz.2 j hj) (k _ hl)
    · cases h1
  · -- .lookupswitch d ps
    split at h1
    · rename_i x r
      cases h1
      simp only [zok, Bool.and_eq_true, decide_eq_true_eq] at hz
      exact lv_lookup hx hb hd hz.1.2 rfl (Int.toNat_of_nonneg (z_look _ hz.1.1 (by simpa using hz.2))).symm (k _ hl)
    · cases h1
  · cases h1
end Z1
end
