/-! The constructors, as tables (by gen_ini.py) -/
def i_SR_init : List (Nat × Instr × Nat) := [(0, .aload_n 0, 1), (1, .invokespecial 1, 3), (4, .aload_n 0, 1), (5, .bipush 8, 2), (7, .anewarray 9, 3), (10, .putfield 11, 3), (13, .iconst 0, 1), (14, .istore_n 1, 1), (15, .iload_n 1, 1), (16, .bipush 8, 2), (18, .if_icmp .ge 22, 3), (21, .aload_n 0, 1), (22, .getfield 11, 3), (25, .iload_n 1, 1), (26, .new 9, 3), (29, .dup, 1), (30, .invokespecial 15, 3), (33, .aastore, 1), (34, .iinc 1 1, 3), (37, .goto (-22), 3), (40, .aload_n 0, 1), (41, .new 9, 3), (44, .dup, 1), (45, .invokespecial 15, 3), (48, .putfield 16, 3), (51, .aload_n 0, 1), (52, .new 9, 3), (55, .dup, 1), (56, .invokespecial 15, 3), (59, .putfield 20, 3), (62, .new 23, 3), (65, .dup, 1), (66, .invokespecial 25, 3), (69, .astore_n 1, 1), (70, .aload_n 0, 1), (71, .aload_n 1, 1), (72, .putfield 26, 3), (75, .aload_n 0, 1), (76, .new 30, 3), (79, .dup, 1), (80, .aload_n 1, 1), (81, .invokespecial 32, 3), (84, .putfield 35, 3), (87, .aload_n 0, 1), (88, .new 39, 3), (91, .dup, 1), (92, .aload_n 1, 1), (93, .invokespecial 41, 3), (96, .putfield 42, 3), (99, .aload_n 0, 1), (100, .new 46, 3), (103, .dup, 1), (104, .invokespecial 48, 3), (107, .putfield 49, 3), (110, .aload_n 0, 1), (111, .iconst 0, 1), (112, .putfield 53, 3), (115, .aload_n 0, 1), (116, .bipush 31, 2), (118, .putfield 57, 3), (121, .aload_n 0, 1), (122, .iconst 0, 1), (123, .putfield 60, 3), (126, .aload_n 0, 1), (127, .iconst 0, 1), (128, .putfield 63, 3), (131, .return_, 1)]
def m_SR_init : ZM := (⟨"StackReal", "<init>", "()V"⟩, prog_1_method_1_code, 2, none, [], 0, 0, [], i_SR_init)
theorem ck_SR_init : ckm m_SR_init = true := by decide +kernel
theorem mo_SR_init : (zNm m_SR_init).cls = zCn (zCno m_SR_init) ∧ plainName (zNm m_SR_init).cls = true ∧ ((zNm m_SR_init).cls ≠ "java/lang/invoke/MethodHandle" ∧ (zNm m_SR_init).cls ≠ "java/lang/invoke/VarHandle") ∧ Jvm.Cond.code (zNm m_SR_init) (zCode m_SR_init) (zMl m_SR_init) (zRt m_SR_init) ∈ zWs := ⟨by decide +kernel, by decide +kernel, by decide +kernel, zW_in 84 (by decide +kernel)⟩
def i_Re_init : List (Nat × Instr × Nat) := [(0, .aload_n 0, 1), (1, .invokespecial 3, 3), (4, .return_, 1)]
def m_Re_init : ZM := (⟨"StackReal$Real", "<init>", "()V"⟩, prog_6_method_1_code, 1, none, [], 1, 0, [], i_Re_init)
theorem ck_Re_init : ckm m_Re_init = true := by decide +kernel
theorem mo_Re_init : (zNm m_Re_init).cls = zCn (zCno m_Re_init) ∧ plainName (zNm m_Re_init).cls = true ∧ ((zNm m_Re_init).cls ≠ "java/lang/invoke/MethodHandle" ∧ (zNm m_Re_init).cls ≠ "java/lang/invoke/VarHandle") ∧ Jvm.Cond.code (zNm m_Re_init) (zCode m_Re_init) (zMl m_Re_init) (zRt m_Re_init) ∈ zWs := ⟨by decide +kernel, by decide +kernel, by decide +kernel, zW_in 93 (by decide +kernel)⟩
def i_Ro_init : List (Nat × Instr × Nat) := [(0, .aload_n 0, 1), (1, .invokespecial 3, 3), (4, .aload_n 0, 1), (5, .bipush 64, 2), (7, .putfield 9, 3), (10, .aload_n 0, 1), (11, .iconst 0, 1), (12, .putfield 15, 3), (15, .return_, 1)]
def m_Ro_init : ZM := (⟨"StackReal$Rounding", "<init>", "()V"⟩, prog_7_method_1_code, 1, none, [], 3, 0, [], i_Ro_init)
theorem ck_Ro_init : ckm m_Ro_init = true := by decide +kernel
theorem mo_Ro_init : (zNm m_Ro_init).cls = zCn (zCno m_Ro_init) ∧ plainName (zNm m_Ro_init).cls = true ∧ ((zNm m_Ro_init).cls ≠ "java/lang/invoke/MethodHandle" ∧ (zNm m_Ro_init).cls ≠ "java/lang/invoke/VarHandle") ∧ Jvm.Cond.code (zNm m_Ro_init) (zCode m_Ro_init) (zMl m_Ro_init) (zRt m_Ro_init) ∈ zWs := ⟨by decide +kernel, by decide +kernel, by decide +kernel, zW_in 130 (by decide +kernel)⟩
def i_Ar_init : List (Nat × Instr × Nat) := [(0, .aload_n 0, 1), (1, .invokespecial 3, 3), (4, .aload_n 0, 1), (5, .aload_n 1, 1), (6, .putfield 9, 3), (9, .aload_n 0, 1), (10, .new 15, 3), (13, .dup, 1), (14, .invokespecial 17, 3), (17, .putfield 18, 3), (20, .return_, 1)]
def m_Ar_init : ZM := (⟨"StackReal$Arithmetic", "<init>", "(LStackReal$Rounding;)V"⟩, prog_2_method_1_code, 2, none, [], 4, 0, [], i_Ar_init)
theorem ck_Ar_init : ckm m_Ar_init = true := by decide +kernel
theorem mo_Ar_init : (zNm m_Ar_init).cls = zCn (zCno m_Ar_init) ∧ plainName (zNm m_Ar_init).cls = true ∧ ((zNm m_Ar_init).cls ≠ "java/lang/invoke/MethodHandle" ∧ (zNm m_Ar_init).cls ≠ "java/lang/invoke/VarHandle") ∧ Jvm.Cond.code (zNm m_Ar_init) (zCode m_Ar_init) (zMl m_Ar_init) (zRt m_Ar_init) ∈ zWs := ⟨by decide +kernel, by decide +kernel, by decide +kernel, zW_in 146 (by decide +kernel)⟩
def i_Ex_init : List (Nat × Instr × Nat) := [(0, .aload_n 0, 1), (1, .invokespecial 3, 3), (4, .return_, 1)]
def m_Ex_init : ZM := (⟨"StackReal$Exact", "<init>", "()V"⟩, prog_3_method_1_code, 1, none, [], 2, 0, [], i_Ex_init)
theorem ck_Ex_init : ckm m_Ex_init = true := by decide +kernel
theorem mo_Ex_init : (zNm m_Ex_init).cls = zCn (zCno m_Ex_init) ∧ plainName (zNm m_Ex_init).cls = true ∧ ((zNm m_Ex_init).cls ≠ "java/lang/invoke/MethodHandle" ∧ (zNm m_Ex_init).cls ≠ "java/lang/invoke/VarHandle") ∧ Jvm.Cond.code (zNm m_Ex_init) (zCode m_Ex_init) (zMl m_Ex_init) (zRt m_Ex_init) ∈ zWs := ⟨by decide +kernel, by decide +kernel, by decide +kernel, zW_in 152 (by decide +kernel)⟩
def i_Fo_init : List (Nat × Instr × Nat) := [(0, .aload_n 0, 1), (1, .invokespecial 3, 3), (4, .aload_n 0, 1), (5, .aload_n 1, 1), (6, .putfield 9, 3), (9, .aload_n 0, 1), (10, .new 15, 3), (13, .dup, 1), (14, .invokespecial 17, 3), (17, .putfield 18, 3), (20, .aload_n 0, 1), (21, .new 22, 3), (24, .dup, 1), (25, .invokespecial 24, 3), (28, .putfield 25, 3), (31, .return_, 1)]
def m_Fo_init : ZM := (⟨"StackReal$Forms", "<init>", "(LStackReal$Rounding;)V"⟩, prog_4_method_1_code, 2, none, [], 5, 0, [], i_Fo_init)
theorem ck_Fo_init : ckm m_Fo_init = true := by decide +kernel
theorem mo_Fo_init : (zNm m_Fo_init).cls = zCn (zCno m_Fo_init) ∧ plainName (zNm m_Fo_init).cls = true ∧ ((zNm m_Fo_init).cls ≠ "java/lang/invoke/MethodHandle" ∧ (zNm m_Fo_init).cls ≠ "java/lang/invoke/VarHandle") ∧ Jvm.Cond.code (zNm m_Fo_init) (zCode m_Fo_init) (zMl m_Fo_init) (zRt m_Fo_init) ∈ zWs := ⟨by decide +kernel, by decide +kernel, by decide +kernel, zW_in 183 (by decide +kernel)⟩
def i_Me_init : List (Nat × Instr × Nat) := [(0, .aload_n 0, 1), (1, .invokespecial 3, 3), (4, .aload_n 0, 1), (5, .bipush 8, 2), (7, .newarray .long, 2), (9, .putfield 9, 3), (12, .return_, 1)]
def m_Me_init : ZM := (⟨"StackReal$Memory", "<init>", "()V"⟩, prog_5_method_1_code, 1, none, [], 6, 0, [], i_Me_init)
theorem ck_Me_init : ckm m_Me_init = true := by decide +kernel
theorem mo_Me_init : (zNm m_Me_init).cls = zCn (zCno m_Me_init) ∧ plainName (zNm m_Me_init).cls = true ∧ ((zNm m_Me_init).cls ≠ "java/lang/invoke/MethodHandle" ∧ (zNm m_Me_init).cls ≠ "java/lang/invoke/VarHandle") ∧ Jvm.Cond.code (zNm m_Me_init) (zCode m_Me_init) (zMl m_Me_init) (zRt m_Me_init) ∈ zWs := ⟨by decide +kernel, by decide +kernel, by decide +kernel, zW_in 207 (by decide +kernel)⟩
def i_Mo_init : List (Nat × Instr × Nat) := [(0, .aload_n 0, 1), (1, .invokespecial 1, 3), (4, .aload_n 0, 1), (5, .bipush 64, 2), (7, .putfield 7, 3), (10, .aload_n 0, 1), (11, .bipush 31, 2), (13, .putfield 13, 3), (16, .aload_n 0, 1), (17, .bipush 11, 2), (19, .newarray .int, 2), (21, .putfield 16, 3), (24, .aload_n 0, 1), (25, .bipush 11, 2), (27, .newarray .boolean, 2), (29, .putfield 20, 3), (32, .aload_n 0, 1), (33, .bipush 11, 2), (35, .newarray .int, 2), (37, .putfield 24, 3), (40, .aload_n 0, 1), (41, .bipush 11, 2), (43, .newarray .long, 2), (45, .putfield 27, 3), (48, .aload_n 0, 1), (49, .bipush 8, 2), (51, .newarray .long, 2), (53, .putfield 31, 3), (56, .aload_n 0, 1), (57, .iconst (-1), 1), (58, .putfield 34, 3), (61, .aload_n 0, 1), (62, .sipush 160, 3), (65, .newarray .int, 2), (67, .putfield 37, 3), (70, .return_, 1)]
def m_Mo_init : ZM := (⟨"StackRealModel", "<init>", "()V"⟩, prog_9_method_1_code, 1, none, [], 7, 0, [], i_Mo_init)
theorem ck_Mo_init : ckm m_Mo_init = true := by decide +kernel
theorem mo_Mo_init : (zNm m_Mo_init).cls = zCn (zCno m_Mo_init) ∧ plainName (zNm m_Mo_init).cls = true ∧ ((zNm m_Mo_init).cls ≠ "java/lang/invoke/MethodHandle" ∧ (zNm m_Mo_init).cls ≠ "java/lang/invoke/VarHandle") ∧ Jvm.Cond.code (zNm m_Mo_init) (zCode m_Mo_init) (zMl m_Mo_init) (zRt m_Mo_init) ∈ zWs := ⟨by decide +kernel, by decide +kernel, by decide +kernel, zW_in 737 (by decide +kernel)⟩
def zIni : List ZM := [m_SR_init, m_Re_init, m_Ro_init, m_Ar_init, m_Ex_init, m_Fo_init, m_Me_init, m_Mo_init]
theorem zIni_ck : ∀ y ∈ zIni, ckm y = true := List.forall_mem_cons.mpr ⟨ck_SR_init, List.forall_mem_cons.mpr ⟨ck_Re_init, List.forall_mem_cons.mpr ⟨ck_Ro_init, List.forall_mem_cons.mpr ⟨ck_Ar_init, List.forall_mem_cons.mpr ⟨ck_Ex_init, List.forall_mem_cons.mpr ⟨ck_Fo_init, List.forall_mem_cons.mpr ⟨ck_Me_init, List.forall_mem_cons.mpr ⟨ck_Mo_init, fun _ h => absurd h List.not_mem_nil⟩⟩⟩⟩⟩⟩⟩⟩
def zMokI (y : ZM) : Prop := (zNm y).cls = zCn (zCno y) ∧ plainName (zNm y).cls = true ∧ ((zNm y).cls ≠ "java/lang/invoke/MethodHandle" ∧ (zNm y).cls ≠ "java/lang/invoke/VarHandle") ∧ Jvm.Cond.code (zNm y) (zCode y) (zMl y) (zRt y) ∈ zWs
theorem zIni_ok : ∀ y ∈ zIni, zMokI y := List.forall_mem_cons.mpr ⟨mo_SR_init, List.forall_mem_cons.mpr ⟨mo_Re_init, List.forall_mem_cons.mpr ⟨mo_Ro_init, List.forall_mem_cons.mpr ⟨mo_Ar_init, List.forall_mem_cons.mpr ⟨mo_Ex_init, List.forall_mem_cons.mpr ⟨mo_Fo_init, List.forall_mem_cons.mpr ⟨mo_Me_init, List.forall_mem_cons.mpr ⟨mo_Mo_init, fun _ h => absurd h List.not_mem_nil⟩⟩⟩⟩⟩⟩⟩⟩
theorem zIni_nm : ∀ y ∈ zIni, (zNm y).name = "<init>" := List.forall_mem_cons.mpr ⟨rfl, List.forall_mem_cons.mpr ⟨rfl, List.forall_mem_cons.mpr ⟨rfl, List.forall_mem_cons.mpr ⟨rfl, List.forall_mem_cons.mpr ⟨rfl, List.forall_mem_cons.mpr ⟨rfl, List.forall_mem_cons.mpr ⟨rfl, List.forall_mem_cons.mpr ⟨rfl, fun _ h => absurd h List.not_mem_nil⟩⟩⟩⟩⟩⟩⟩⟩
theorem zIni_rt : ∀ y ∈ zIni, zRt y = none := List.forall_mem_cons.mpr ⟨rfl, List.forall_mem_cons.mpr ⟨rfl, List.forall_mem_cons.mpr ⟨rfl, List.forall_mem_cons.mpr ⟨rfl, List.forall_mem_cons.mpr ⟨rfl, List.forall_mem_cons.mpr ⟨rfl, List.forall_mem_cons.mpr ⟨rfl, List.forall_mem_cons.mpr ⟨rfl, fun _ h => absurd h List.not_mem_nil⟩⟩⟩⟩⟩⟩⟩⟩
theorem zIni_hs : ∀ y ∈ zIni, zHs y = [] := List.forall_mem_cons.mpr ⟨rfl, List.forall_mem_cons.mpr ⟨rfl, List.forall_mem_cons.mpr ⟨rfl, List.forall_mem_cons.mpr ⟨rfl, List.forall_mem_cons.mpr ⟨rfl, List.forall_mem_cons.mpr ⟨rfl, List.forall_mem_cons.mpr ⟨rfl, List.forall_mem_cons.mpr ⟨rfl, fun _ h => absurd h List.not_mem_nil⟩⟩⟩⟩⟩⟩⟩⟩
theorem zfetchI {mi : ZM} {pc n : Nat} {i : Instr} (hm : mi = m_law ∨ mi ∈ zIni) (h : zfetch mi pc = some (i, n)) : decode (zCode mi) pc = .ok (i, n) ∧ zok (zMl mi) pc i n = true := by
  have hc : ckm mi = true := by
    rcases hm with rfl | hm
    · exact ck_law
    · exact zIni_ck mi hm
  have h1 := List.all_eq_true.mp hc (pc, i, n) (look_mem h)
  rw [Bool.and_eq_true, decide_eq_true_eq] at h1
  exact h1
def ckl (m : ZM) : Bool := (zIns m).all (fun q => match q.2.1 with | .new _ => q.2.2 == 3 | .newarray _ => q.2.2 == 2 | .anewarray _ => q.2.2 == 3 | .invokespecial _ => q.2.2 == 3 | _ => true)
theorem cl_SR_init : ckl m_SR_init = true := by decide +kernel
theorem cl_Re_init : ckl m_Re_init = true := by decide +kernel
theorem cl_Ro_init : ckl m_Ro_init = true := by decide +kernel
theorem cl_Ar_init : ckl m_Ar_init = true := by decide +kernel
theorem cl_Ex_init : ckl m_Ex_init = true := by decide +kernel
theorem cl_Fo_init : ckl m_Fo_init = true := by decide +kernel
theorem cl_Me_init : ckl m_Me_init = true := by decide +kernel
theorem cl_Mo_init : ckl m_Mo_init = true := by decide +kernel
theorem cl_law : ckl m_law = true := by decide +kernel
theorem zIni_cl : ∀ y ∈ zIni, ckl y = true := List.forall_mem_cons.mpr ⟨cl_SR_init, List.forall_mem_cons.mpr ⟨cl_Re_init, List.forall_mem_cons.mpr ⟨cl_Ro_init, List.forall_mem_cons.mpr ⟨cl_Ar_init, List.forall_mem_cons.mpr ⟨cl_Ex_init, List.forall_mem_cons.mpr ⟨cl_Fo_init, List.forall_mem_cons.mpr ⟨cl_Me_init, List.forall_mem_cons.mpr ⟨cl_Mo_init, fun _ h => absurd h List.not_mem_nil⟩⟩⟩⟩⟩⟩⟩⟩
theorem zLens {mi : ZM} {pc n : Nat} {i : Instr} (hm : mi = m_law ∨ mi ∈ zIni) (h : zfetch mi pc = some (i, n)) : (∀ x, i = .new x → n = 3) ∧ (∀ t, i = .newarray t → n = 2) ∧ (∀ x, i = .anewarray x → n = 3) ∧ (∀ x, i = .invokespecial x → n = 3) := by
  have hc : ckl mi = true := by
    rcases hm with rfl | hm
    · exact cl_law
    · exact zIni_cl mi hm
  have h1 := List.all_eq_true.mp hc (pc, i, n) (look_mem h)
  refine ⟨fun x hx => ?_, fun x hx => ?_, fun x hx => ?_, fun x hx => ?_⟩ <;> (subst hx; simpa using h1)
def zFlIT (cn : Nat) : List (Nat × Nat × Nat × Nat) := match cn with
  | 0 => [(11, 0, 0, 231), (16, 0, 1, 232), (20, 0, 2, 233), (26, 0, 3, 234), (35, 0, 4, 235), (42, 0, 5, 236), (49, 0, 6, 237), (53, 0, 7, 238), (57, 0, 8, 239), (60, 0, 9, 240), (63, 0, 10, 241)]
  | 3 => [(9, 3, 0, 132), (15, 3, 1, 134)]
  | 4 => [(9, 4, 0, 172), (18, 4, 1, 173)]
  | 5 => [(9, 5, 0, 189), (18, 5, 1, 190), (25, 5, 2, 191)]
  | 6 => [(9, 6, 0, 209)]
  | 7 => [(7, 7, 1, 740), (13, 7, 3, 742), (16, 7, 8, 747), (20, 7, 9, 748), (24, 7, 10, 749), (27, 7, 11, 750), (31, 7, 12, 751), (34, 7, 14, 753), (37, 7, 17, 756)]
  | _ => []
def zFlI (cn x : Nat) : Option (Nat × Nat) := ((zFlIT cn).lookup x).map (fun q => (q.1, q.2.1))
def ckFI (cn : Nat) : Bool := (zFlIT cn).all (fun q => match zCl[q.2.1]? with | some r => decide (q.2.2.1 < r.2.2) && (decide (lw_tbl[q.2.2.2]? = some (.fieldLink (zCn cn) q.1 (r.2.1 q.2.2.1).1 (r.2.1 q.2.2.1).2.1 (r.2.1 q.2.2.1).2.2.1)) && zmov (.fieldLink (zCn cn) q.1 (r.2.1 q.2.2.1).1 (r.2.1 q.2.2.1).2.1 (r.2.1 q.2.2.1).2.2.1)) | none => false)
theorem ckFI_0 : ckFI 0 = true := by decide +kernel
theorem ckFI_1 : ckFI 1 = true := by decide +kernel
theorem ckFI_2 : ckFI 2 = true := by decide +kernel
theorem ckFI_3 : ckFI 3 = true := by decide +kernel
theorem ckFI_4 : ckFI 4 = true := by decide +kernel
theorem ckFI_5 : ckFI 5 = true := by decide +kernel
theorem ckFI_6 : ckFI 6 = true := by decide +kernel
theorem ckFI_7 : ckFI 7 = true := by decide +kernel
theorem ckFI_8 : ckFI 8 = true := by decide +kernel
theorem ckFI_all (cn : Nat) : ckFI cn = true := by
  match cn with
  | 0 => exact ckFI_0
  | 1 => exact ckFI_1
  | 2 => exact ckFI_2
  | 3 => exact ckFI_3
  | 4 => exact ckFI_4
  | 5 => exact ckFI_5
  | 6 => exact ckFI_6
  | 7 => exact ckFI_7
  | 8 => exact ckFI_8
  | (n + 9) => rfl
theorem zFlI_ok {cn x ci j : Nat} (h : zFlI cn x = some (ci, j)) : ∃ C T N, zCl[ci]? = some (C, T, N) ∧ j < N ∧ Jvm.Cond.fieldLink (zCn cn) x (T j).1 (T j).2.1 (T j).2.2.1 ∈ zWs := by
  unfold zFlI at h
  cases hl : (zFlIT cn).lookup x with
  | none => rw [hl] at h; cases h
  | some q =>
    obtain ⟨a, b, ix⟩ := q
    rw [hl] at h
    cases h
    have h1 := List.all_eq_true.mp (ckFI_all cn) _ (look_mem hl)
    cases hc : zCl[a]? with
    | none => simp only [hc] at h1; cases h1
    | some r =>
      obtain ⟨C, T, N⟩ := r
      simp only [hc] at h1
      rw [Bool.and_eq_true, decide_eq_true_eq] at h1
      exact ⟨C, T, N, rfl, h1.1, zW_in ix h1.2⟩
def zNewT (cn : Nat) : List (Nat × Nat) := match cn with
  | 0 => [(9, 1), (23, 3), (30, 4), (39, 5), (46, 6)]
  | 4 => [(15, 2)]
  | 5 => [(15, 2), (22, 1)]
  | 8 => [(8, 0), (50, 7)]
  | _ => []
def zNew (cn x : Nat) : Option Nat := (zNewT cn).lookup x
def zNewO (cn : Nat) (q : Nat × Nat) : Prop := ∃ T N, zCl[q.2]? = some (zCn q.2, T, N) ∧ Jvm.Cond.classLink (zCn cn) q.1 (zCn q.2) ∈ zWs ∧ Jvm.Cond.instantiable (zCn q.2) N ∈ zWs ∧ Jvm.Cond.initialized (zCn q.2) ∈ zWs
theorem zNew_0_9 : zNewO 0 (9, 1) := ⟨F_Re, 4, rfl, zW_in 88 (by decide +kernel), zW_in 90 (by decide +kernel), zW_in 68 (by decide +kernel)⟩
theorem zNew_0_23 : zNewO 0 (23, 3) := ⟨F_Ro, 2, rfl, zW_in 126 (by decide +kernel), zW_in 127 (by decide +kernel), zW_in 69 (by decide +kernel)⟩
theorem zNew_0_30 : zNewO 0 (30, 4) := ⟨F_Ar, 2, rfl, zW_in 142 (by decide +kernel), zW_in 143 (by decide +kernel), zW_in 70 (by decide +kernel)⟩
theorem zNew_0_39 : zNewO 0 (39, 5) := ⟨F_Fo, 4, rfl, zW_in 179 (by decide +kernel), zW_in 180 (by decide +kernel), zW_in 72 (by decide +kernel)⟩
theorem zNew_0_46 : zNewO 0 (46, 6) := ⟨F_Me, 6, rfl, zW_in 203 (by decide +kernel), zW_in 204 (by decide +kernel), zW_in 73 (by decide +kernel)⟩
theorem zNew_4_15 : zNewO 4 (15, 2) := ⟨F_Ex, 4, rfl, zW_in 148 (by decide +kernel), zW_in 149 (by decide +kernel), zW_in 71 (by decide +kernel)⟩
theorem zNew_5_15 : zNewO 5 (15, 2) := ⟨F_Ex, 4, rfl, zW_in 185 (by decide +kernel), zW_in 149 (by decide +kernel), zW_in 71 (by decide +kernel)⟩
theorem zNew_5_22 : zNewO 5 (22, 1) := ⟨F_Re, 4, rfl, zW_in 187 (by decide +kernel), zW_in 90 (by decide +kernel), zW_in 68 (by decide +kernel)⟩
theorem zNew_8_8 : zNewO 8 (8, 0) := ⟨F_SR, 11, rfl, zW_in 80 (by decide +kernel), zW_in 81 (by decide +kernel), zW_in 67 (by decide +kernel)⟩
theorem zNew_8_50 : zNewO 8 (50, 7) := ⟨F_Mo, 18, rfl, zW_in 733 (by decide +kernel), zW_in 734 (by decide +kernel), zW_in 74 (by decide +kernel)⟩
theorem zNew_ok {cn x ci : Nat} (h : zNew cn x = some ci) : ∃ T N, zCl[ci]? = some (zCn ci, T, N) ∧ Jvm.Cond.classLink (zCn cn) x (zCn ci) ∈ zWs ∧ Jvm.Cond.instantiable (zCn ci) N ∈ zWs ∧ Jvm.Cond.initialized (zCn ci) ∈ zWs := by
  have h1 := look_mem h
  have h2 : ∀ q ∈ zNewT cn, zNewO cn q := by
    match cn with
    | 0 => exact List.forall_mem_cons.mpr ⟨zNew_0_9, List.forall_mem_cons.mpr ⟨zNew_0_23, List.forall_mem_cons.mpr ⟨zNew_0_30, List.forall_mem_cons.mpr ⟨zNew_0_39, List.forall_mem_cons.mpr ⟨zNew_0_46, fun _ h => absurd h List.not_mem_nil⟩⟩⟩⟩⟩
    | 1 => exact fun _ h => absurd h List.not_mem_nil
    | 2 => exact fun _ h => absurd h List.not_mem_nil
    | 3 => exact fun _ h => absurd h List.not_mem_nil
    | 4 => exact List.forall_mem_cons.mpr ⟨zNew_4_15, fun _ h => absurd h List.not_mem_nil⟩
    | 5 => exact List.forall_mem_cons.mpr ⟨zNew_5_15, List.forall_mem_cons.mpr ⟨zNew_5_22, fun _ h => absurd h List.not_mem_nil⟩⟩
    | 6 => exact fun _ h => absurd h List.not_mem_nil
    | 7 => exact fun _ h => absurd h List.not_mem_nil
    | 8 => exact List.forall_mem_cons.mpr ⟨zNew_8_8, List.forall_mem_cons.mpr ⟨zNew_8_50, fun _ h => absurd h List.not_mem_nil⟩⟩
    | (n + 9) => exact fun _ h => absurd h List.not_mem_nil
  exact h2 _ h1
def zANew (cn x : Nat) : Bool := cn == 0 && x == 9
theorem zANew_ok {cn x : Nat} (h : zANew cn x = true) : Jvm.Cond.classLink (zCn cn) x zRealN ∈ zWs := by
  unfold zANew at h
  rw [Bool.and_eq_true, beq_iff_eq, beq_iff_eq] at h
  obtain ⟨rfl, rfl⟩ := h
  exact zW_in 88 (by decide +kernel)
def zObj (cn x : Nat) : Bool := match cn, x with
  | 0, 1 => true
  | 1, 3 => true
  | 2, 3 => true
  | 3, 3 => true
  | 4, 3 => true
  | 5, 3 => true
  | 6, 3 => true
  | 7, 1 => true
  | _, _ => false
theorem zObj_ok {cn x : Nat} (h : zObj cn x = true) : Jvm.Cond.methodLink (zCn cn) x objectInit ∈ zWs := by
  unfold zObj at h
  split at h
  · exact zW_in 85 (by decide +kernel)
  · exact zW_in 94 (by decide +kernel)
  · exact zW_in 153 (by decide +kernel)
  · exact zW_in 131 (by decide +kernel)
  · exact zW_in 147 (by decide +kernel)
  · exact zW_in 184 (by decide +kernel)
  · exact zW_in 208 (by decide +kernel)
  · exact zW_in 738 (by decide +kernel)
  · cases h
theorem zObj_i : Jvm.Cond.instanceMethod objectInit ∈ zWs := zW_in 86 (by decide +kernel)
theorem zObj_c : Jvm.Cond.code objectInit ⟨#[0xb1]⟩ 1 none ∈ zWs := zW_in 87 (by decide +kernel)
def zCalIT (cn : Nat) : List (Nat × ZM × Nat) := match cn with
  | 0 => [(15, m_Re_init, 0), (25, m_Ro_init, 0), (32, m_Ar_init, 1), (41, m_Fo_init, 1), (48, m_Me_init, 0)]
  | 4 => [(17, m_Ex_init, 0)]
  | 5 => [(17, m_Ex_init, 0), (24, m_Re_init, 0)]
  | 8 => [(49, m_SR_init, 0), (52, m_Mo_init, 0)]
  | _ => []
def zCalI (cn x : Nat) : Option (ZM × Nat) := (zCalIT cn).lookup x
def zCalIo (cn : Nat) (q : Nat × ZM × Nat) : Prop := q.2.1 ∈ zIni ∧ (parseMethodDescriptor (zNm q.2.1).desc).map (fun d => d.parameters.length) = some q.2.2 ∧ Jvm.Cond.instanceMethod (zNm q.2.1) ∈ zWs ∧ (Jvm.Cond.methodLink (zCn cn) q.1 (zNm q.2.1) ∈ zWs ∨ ∃ host, Jvm.Cond.methodLinkNest (zCn cn) q.1 (zNm q.2.1) host ∈ zWs)
theorem zCalI_0_15 : zCalIo 0 (15, m_Re_init, 0) := ⟨List.mem_of_getElem? (i := 1) rfl, by decide +kernel, zW_in 92 (by decide +kernel), Or.inr ⟨"StackReal", zW_in 91 (by decide +kernel)⟩⟩
theorem zCalI_0_25 : zCalIo 0 (25, m_Ro_init, 0) := ⟨List.mem_of_getElem? (i := 2) rfl, by decide +kernel, zW_in 129 (by decide +kernel), Or.inr ⟨"StackReal", zW_in 128 (by decide +kernel)⟩⟩
theorem zCalI_0_32 : zCalIo 0 (32, m_Ar_init, 1) := ⟨List.mem_of_getElem? (i := 3) rfl, by decide +kernel, zW_in 145 (by decide +kernel), Or.inl (zW_in 144 (by decide +kernel))⟩
theorem zCalI_0_41 : zCalIo 0 (41, m_Fo_init, 1) := ⟨List.mem_of_getElem? (i := 5) rfl, by decide +kernel, zW_in 182 (by decide +kernel), Or.inl (zW_in 181 (by decide +kernel))⟩
theorem zCalI_0_48 : zCalIo 0 (48, m_Me_init, 0) := ⟨List.mem_of_getElem? (i := 6) rfl, by decide +kernel, zW_in 206 (by decide +kernel), Or.inr ⟨"StackReal", zW_in 205 (by decide +kernel)⟩⟩
theorem zCalI_4_17 : zCalIo 4 (17, m_Ex_init, 0) := ⟨List.mem_of_getElem? (i := 4) rfl, by decide +kernel, zW_in 151 (by decide +kernel), Or.inr ⟨"StackReal", zW_in 150 (by decide +kernel)⟩⟩
theorem zCalI_5_17 : zCalIo 5 (17, m_Ex_init, 0) := ⟨List.mem_of_getElem? (i := 4) rfl, by decide +kernel, zW_in 151 (by decide +kernel), Or.inr ⟨"StackReal", zW_in 186 (by decide +kernel)⟩⟩
theorem zCalI_5_24 : zCalIo 5 (24, m_Re_init, 0) := ⟨List.mem_of_getElem? (i := 1) rfl, by decide +kernel, zW_in 92 (by decide +kernel), Or.inr ⟨"StackReal", zW_in 188 (by decide +kernel)⟩⟩
theorem zCalI_8_49 : zCalIo 8 (49, m_SR_init, 0) := ⟨List.mem_of_getElem? (i := 0) rfl, by decide +kernel, zW_in 83 (by decide +kernel), Or.inl (zW_in 82 (by decide +kernel))⟩
theorem zCalI_8_52 : zCalIo 8 (52, m_Mo_init, 0) := ⟨List.mem_of_getElem? (i := 7) rfl, by decide +kernel, zW_in 736 (by decide +kernel), Or.inl (zW_in 735 (by decide +kernel))⟩
theorem zCalI_ok {cn x a : Nat} {y : ZM} (h : zCalI cn x = some (y, a)) : y ∈ zIni ∧ (parseMethodDescriptor (zNm y).desc).map (fun d => d.parameters.length) = some a ∧ Jvm.Cond.instanceMethod (zNm y) ∈ zWs ∧ (Jvm.Cond.methodLink (zCn cn) x (zNm y) ∈ zWs ∨ ∃ host, Jvm.Cond.methodLinkNest (zCn cn) x (zNm y) host ∈ zWs) := by
  have h1 := look_mem h
  have h2 : ∀ q ∈ zCalIT cn, zCalIo cn q := by
    match cn with
    | 0 => exact List.forall_mem_cons.mpr ⟨zCalI_0_15, List.forall_mem_cons.mpr ⟨zCalI_0_25, List.forall_mem_cons.mpr ⟨zCalI_0_32, List.forall_mem_cons.mpr ⟨zCalI_0_41, List.forall_mem_cons.mpr ⟨zCalI_0_48, fun _ h => absurd h List.not_mem_nil⟩⟩⟩⟩⟩
    | 1 => exact fun _ h => absurd h List.not_mem_nil
    | 2 => exact fun _ h => absurd h List.not_mem_nil
    | 3 => exact fun _ h => absurd h List.not_mem_nil
    | 4 => exact List.forall_mem_cons.mpr ⟨zCalI_4_17, fun _ h => absurd h List.not_mem_nil⟩
    | 5 => exact List.forall_mem_cons.mpr ⟨zCalI_5_17, List.forall_mem_cons.mpr ⟨zCalI_5_24, fun _ h => absurd h List.not_mem_nil⟩⟩
    | 6 => exact fun _ h => absurd h List.not_mem_nil
    | 7 => exact fun _ h => absurd h List.not_mem_nil
    | 8 => exact List.forall_mem_cons.mpr ⟨zCalI_8_49, List.forall_mem_cons.mpr ⟨zCalI_8_52, fun _ h => absurd h List.not_mem_nil⟩⟩
    | (n + 9) => exact fun _ h => absurd h List.not_mem_nil
  exact h2 _ h1
theorem zArr_int : Jvm.Cond.arrayClass .int ∈ zWs := zW_in 794 (by decide +kernel)
theorem zArr_long : Jvm.Cond.arrayClass .long ∈ zWs := zW_in 230 (by decide +kernel)
theorem zArr_boolean : Jvm.Cond.arrayClass .boolean ∈ zWs := zW_in 795 (by decide +kernel)
theorem zArr_over : Jvm.Cond.arrayOver (.object zRealN) ∈ lw_tbl := List.mem_of_getElem? (i := 89) (by decide +kernel)
def zDef (ci : Nat) : List Value := match ci with
  | 0 => [.null, .null, .null, .null, .null, .null, .null, .int 0, .int 0, .int 0, .int 0]
  | 1 => [.int 0, .int 0, .int 0, .long 0]
  | 2 => [.int 0, .int 0, .long 0, .long 0]
  | 3 => [.int 0, .int 0]
  | 4 => [.null, .null]
  | 5 => [.null, .null, .null, .long 0]
  | 6 => [.null, .long 0, .long 0, .int 0, .int 0, .long 0]
  | 7 => [.int 0, .int 0, .int 0, .int 0, .int 0, .int 0, .int 0, .int 0, .null, .null, .null, .null, .null, .int 0, .int 0, .long 0, .long 0, .null]
  | _ => []
theorem zDef_ok {ci : Nat} {r : vw_C} (h : zCl[ci]? = some r) : (zDef ci).length = r.2.2 ∧ ∀ j, j < r.2.2 → defaultValue (zTyp ci j) = vp_V (zDef ci) j := by
  match ci, h with
  | 0, h => cases h; exact ⟨rfl, by decide +kernel⟩
  | 1, h => cases h; exact ⟨rfl, by decide +kernel⟩
  | 2, h => cases h; exact ⟨rfl, by decide +kernel⟩
  | 3, h => cases h; exact ⟨rfl, by decide +kernel⟩
  | 4, h => cases h; exact ⟨rfl, by decide +kernel⟩
  | 5, h => cases h; exact ⟨rfl, by decide +kernel⟩
  | 6, h => cases h; exact ⟨rfl, by decide +kernel⟩
  | 7, h => cases h; exact ⟨rfl, by decide +kernel⟩
  | (n + 8), h => simp at h
