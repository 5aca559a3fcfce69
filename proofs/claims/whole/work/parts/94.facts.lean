/-! What the Statement gives of the start (by program) -/
set_option maxRecDepth 100000 in
theorem zf_no21 : Jvm.Cond.not (.castable "java/lang/ArithmeticException" "java/lang/IllegalArgumentException") ∈ flatC (Jvm.Cond.and given_1 narrow_1) := by decide +kernel
set_option maxRecDepth 100000 in
theorem zf_no12 : Jvm.Cond.not (.castable "java/lang/IllegalArgumentException" "java/lang/ArithmeticException") ∈ flatC (Jvm.Cond.and given_1 narrow_1) := by decide +kernel
set_option maxRecDepth 100000 in
theorem zf_T1 : Jvm.Cond.arrayOf (.static "StackReal" "TICKS" "[I") .int ∈ flatC (Jvm.Cond.and given_1 narrow_1) := by decide +kernel
set_option maxRecDepth 100000 in
theorem zf_T2 : Jvm.Cond.eq (.length (.static "StackReal" "TICKS" "[I")) (.int 16) ∈ flatC (Jvm.Cond.and given_1 narrow_1) := by decide +kernel
set_option maxRecDepth 100000 in
theorem zf_T3 : ∀ j, j < 16 → Jvm.Cond.eq (.elem (.static "StackReal" "TICKS" "[I") (.int (Int32.ofNat j))) (.int (zA_TICKS.getD j 0)) ∈ flatC (Jvm.Cond.and given_1 narrow_1) := by decide +kernel
theorem zl_T : Jvm.Cond.laysStatic "StackReal" "TICKS" "[I" ∈ lw_tbl := List.mem_of_getElem? (i := 388) (by decide +kernel)
set_option maxRecDepth 100000 in
theorem zf_N1 : Jvm.Cond.arrayOf (.static "StackReal" "NEEDED" "[I") .int ∈ flatC (Jvm.Cond.and given_1 narrow_1) := by decide +kernel
set_option maxRecDepth 100000 in
theorem zf_N2 : Jvm.Cond.eq (.length (.static "StackReal" "NEEDED" "[I")) (.int 16) ∈ flatC (Jvm.Cond.and given_1 narrow_1) := by decide +kernel
set_option maxRecDepth 100000 in
theorem zf_N3 : ∀ j, j < 16 → Jvm.Cond.eq (.elem (.static "StackReal" "NEEDED" "[I") (.int (Int32.ofNat j))) (.int (zA_NEEDED.getD j 0)) ∈ flatC (Jvm.Cond.and given_1 narrow_1) := by decide +kernel
theorem zl_N : Jvm.Cond.laysStatic "StackReal" "NEEDED" "[I" ∈ lw_tbl := List.mem_of_getElem? (i := 399) (by decide +kernel)
set_option maxRecDepth 100000 in
theorem zf_U : Jvm.Cond.isRef (.static "java/lang/Throwable" "UNASSIGNED_STACK" "[Ljava/lang/StackTraceElement;") ∈ flatC (Jvm.Cond.and given_1 narrow_1) := by decide +kernel
theorem zl_U : Jvm.Cond.laysStatic "java/lang/Throwable" "UNASSIGNED_STACK" "[Ljava/lang/StackTraceElement;" ∈ lw_tbl := List.mem_of_getElem? (i := 332) (by decide +kernel)
set_option maxRecDepth 100000 in
theorem zf_S : Jvm.Cond.isRef (.static "java/lang/Throwable" "SUPPRESSED_SENTINEL" "Ljava/util/List;") ∈ flatC (Jvm.Cond.and given_1 narrow_1) := by decide +kernel
theorem zl_S : Jvm.Cond.laysStatic "java/lang/Throwable" "SUPPRESSED_SENTINEL" "Ljava/util/List;" ∈ lw_tbl := List.mem_of_getElem? (i := 334) (by decide +kernel)
theorem zIn_SR : Jvm.Cond.initialized "StackReal" ∈ zWs := zW_in 67 (by decide +kernel)
theorem zIn_Th : Jvm.Cond.initialized "java/lang/Throwable" ∈ zWs := zW_in 75 (by decide +kernel)
set_option maxRecDepth 100000 in
theorem zStr_ok : ∀ q ∈ zStr, Jvm.Cond.stringRef (zCn q.1) q.2.1 q.2.2 ∈ lw_tbl ∧ Jvm.Cond.exactly (.string (zCn q.1) q.2.1) "java/lang/String" ∈ flatC (Jvm.Cond.and given_1 narrow_1) := by decide +kernel
theorem zInst_ok {ci : Nat} {r : vw_C} (h : zCl[ci]? = some r) : ∃ n, Jvm.Cond.instantiable r.1 n ∈ zWs := by
  match ci, h with
  | 0, h => cases h; exact ⟨11, zW_in 81 (by decide +kernel)⟩
  | 1, h => cases h; exact ⟨4, zW_in 90 (by decide +kernel)⟩
  | 2, h => cases h; exact ⟨4, zW_in 149 (by decide +kernel)⟩
  | 3, h => cases h; exact ⟨2, zW_in 127 (by decide +kernel)⟩
  | 4, h => cases h; exact ⟨2, zW_in 143 (by decide +kernel)⟩
  | 5, h => cases h; exact ⟨4, zW_in 180 (by decide +kernel)⟩
  | 6, h => cases h; exact ⟨6, zW_in 204 (by decide +kernel)⟩
  | 7, h => cases h; exact ⟨18, zW_in 734 (by decide +kernel)⟩
  | (n + 8), h => simp at h
/-! the heap at the loop's head -/
def zStk : Nat → Option Nat := va_up (va_up (va_up (va_up (va_up (va_up (va_up (va_up (fun _ => none) 0 (some 2)) 1 (some 3)) 2 (some 4)) 3 (some 5)) 4 (some 6)) 5 (some 7)) 6 (some 8)) 7 (some 9)
abbrev zRe0 : zC := .inr (1, [.int 0, .int 0, .int 0, .long 0])
def zH0 : zH := [.inr (0, [.ref 1, .ref 10, .ref 11, .ref 12, .ref 13, .ref 15, .ref 18, .int 0, .int 31, .int 0, .int 0]), .inl (3, 8, .inr (.inr (.inr (.inr zStk)))),
  zRe0, zRe0, zRe0, zRe0, zRe0, zRe0, zRe0, zRe0, zRe0, zRe0, .inr (3, [.int 64, .int 0]), .inr (4, [.ref 12, .ref 14]), .inr (2, [.int 0, .int 0, .long 0, .long 0]), .inr (5, [.ref 12, .ref 16, .ref 17, .long 0]), .inr (2, [.int 0, .int 0, .long 0, .long 0]), zRe0,
  .inr (6, [.ref 19, .long 0, .long 0, .int 0, .int 0, .long 0]), .inl (1, 8, .inr (.inl (fun _ => 0))),
  .inr (7, [.int 0, .int 64, .int 0, .int 31, .int 0, .int 0, .int 0, .int 0, .ref 21, .ref 22, .ref 23, .ref 24, .ref 25, .int 0, .int (-1), .long 0, .long 0, .ref 26]), .inl (0, 11, .inl (fun _ => 0)), .inl (2, 11, .inl (fun _ => 0)), .inl (0, 11, .inl (fun _ => 0)), .inl (1, 11, .inr (.inl (fun _ => 0))), .inl (1, 8, .inr (.inl (fun _ => 0))), .inl (0, 160, .inl (fun _ => 0)), .inl (1, 1, .inr (.inl (fun _ => 0)))]
def zLv : zL := [(4, .int 0), (3, .ref 27), (2, .ref 20), (1, .ref 0), (0, .ref 1000)]
abbrev zBc : Nat := 12
abbrev zBs : Nat := 276
set_option maxRecDepth 100000 in
set_option maxHeartbeats 4000000 in
theorem zLaw_run {L : Nat} {xs : Nat → Int32} : zbld L xs 2000 (some 23) 11 m_law 0 [(0, .ref 1000)] [] [] 40 600 = some (zLv, zH0, zBc, zBs) := by rfl
