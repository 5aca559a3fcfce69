/-- a switch's offset -/
def zsw (d lo hi : Int) (offs : Array Int) (x : Int) : Int := if x < lo ∨ hi < x then d else (offs[(x - lo).toNat]?).getD d
/-- what a table of instructions promises of each: its length, its stores within the locals, its targets not negative -/
def zok (nL pc : Nat) (i : Instr) (n : Nat) : Bool := match i with
  | .iconst a => n == 1
  | .bipush a => n == 2
  | .sipush a => n == 3
  | .lconst a => n == 1
  | .iload_n a => n == 1
  | .iload a => n == 2
  | .lload_n a => n == 1
  | .lload a => n == 2
  | .aload_n a => n == 1
  | .aload a => n == 2
  | .istore_n a => n == 1 && decide ((a : Nat) < nL)
  | .istore a => n == 2 && decide (a < nL)
  | .lstore_n a => n == 1 && decide ((a : Nat) + 1 < nL)
  | .lstore a => n == 2 && decide (a + 1 < nL)
  | .astore_n a => n == 1 && decide ((a : Nat) < nL)
  | .astore a => n == 2 && decide (a < nL)
  | .iinc a b => n == 3 && decide (a < nL)
  | .iadd => n == 1
  | .isub => n == 1
  | .imul => n == 1
  | .iand => n == 1
  | .ior => n == 1
  | .ixor => n == 1
  | .ishl => n == 1
  | .ishr => n == 1
  | .iushr => n == 1
  | .idiv => n == 1
  | .irem => n == 1
  | .ineg => n == 1
  | .ladd => n == 1
  | .lsub => n == 1
  | .lmul => n == 1
  | .land => n == 1
  | .lor => n == 1
  | .lxor => n == 1
  | .ldiv => n == 1
  | .lrem => n == 1
  | .lneg => n == 1
  | .lshl => n == 1
  | .lshr => n == 1
  | .lushr => n == 1
  | .lcmp => n == 1
  | .i2l => n == 1
  | .l2i => n == 1
  | .dup => n == 1
  | .pop => n == 1
  | .dup_x1 => n == 1
  | .dup2 => n == 1
  | .dup2_x1 => n == 1
  | .pop2 => n == 1
  | .ifCond .eq off => n == 3 && decide (0 ≤ (pc : Int) + off)
  | .if_icmp .eq off => n == 3 && decide (0 ≤ (pc : Int) + off)
  | .ifCond .ne off => n == 3 && decide (0 ≤ (pc : Int) + off)
  | .if_icmp .ne off => n == 3 && decide (0 ≤ (pc : Int) + off)
  | .ifCond .lt off => n == 3 && decide (0 ≤ (pc : Int) + off)
  | .if_icmp .lt off => n == 3 && decide (0 ≤ (pc : Int) + off)
  | .ifCond .ge off => n == 3 && decide (0 ≤ (pc : Int) + off)
  | .if_icmp .ge off => n == 3 && decide (0 ≤ (pc : Int) + off)
  | .ifCond .gt off => n == 3 && decide (0 ≤ (pc : Int) + off)
  | .if_icmp .gt off => n == 3 && decide (0 ≤ (pc : Int) + off)
  | .ifCond .le off => n == 3 && decide (0 ≤ (pc : Int) + off)
  | .if_icmp .le off => n == 3 && decide (0 ≤ (pc : Int) + off)
  | .goto off => n == 3 && decide (0 ≤ (pc : Int) + off)
  | .tableswitch d lo hi offs => decide (0 ≤ (pc : Int) + d) && decide (offs.size = (hi - lo + 1).toNat) && offs.all (fun o => decide (0 ≤ (pc : Int) + o))
  | .lookupswitch d ps => decide (0 ≤ (pc : Int) + d) && (ps.toList.zip (ps.toList.drop 1)).all (fun (a, next) => a.1 < next.1) && ps.toList.all (fun o => decide (0 ≤ (pc : Int) + o.2))
  | .getfield _ => n == 3
  | .putfield _ => n == 3
  | .getstatic _ => n == 3
  | .ldc _ => n == 2
  | .ldc2_w _ => n == 3
  | .iaload => n == 1
  | .laload => n == 1
  | .baload => n == 1
  | .aaload => n == 1
  | .iastore => n == 1
  | .lastore => n == 1
  | .bastore => n == 1
  | .aastore => n == 1
  | .arraylength => n == 1
  | .invokevirtual _ => n == 3
  | .invokestatic _ => n == 3
  | .ireturn => n == 1
  | .lreturn => n == 1
  | .areturn => n == 1
  | .return_ => n == 1
  | _ => true
/-- an instruction that touches neither heap nor tables: the next pc, locals, stack -/
def z1 (pc : Nat) (i : Instr) (lv : zL) (st : List Value) : Option (Nat × zL × List Value) := match i with
  | .iconst a => some (pc + 1, lv, .int (Int32.ofInt a) :: st)
  | .bipush a => some (pc + 2, lv, .int (Int8.ofInt a).toInt32 :: st)
  | .sipush a => some (pc + 3, lv, .int (Int16.ofInt a).toInt32 :: st)
  | .lconst a => some (pc + 1, lv, .long (Int64.ofNat (a : Nat)) :: st)
  | .iload_n a => (match zget lv a with | some (.int x) => some (pc + 1, lv, .int x :: st) | _ => none)
  | .iload a => (match zget lv a with | some (.int x) => some (pc + 2, lv, .int x :: st) | _ => none)
  | .lload_n a => (match zget lv a with | some (.long x) => some (pc + 1, lv, .long x :: st) | _ => none)
  | .lload a => (match zget lv a with | some (.long x) => some (pc + 2, lv, .long x :: st) | _ => none)
  | .aload_n a => (match zget lv a with | some (.ref x) => some (pc + 1, lv, .ref x :: st) | _ => none)
  | .aload a => (match zget lv a with | some (.ref x) => some (pc + 2, lv, .ref x :: st) | _ => none)
  | .istore_n a => (match st with | .int x :: r => some (pc + 1, (a.val, .int x) :: zdrop1 a lv, r) | _ => none)
  | .istore a => (match st with | .int x :: r => some (pc + 2, (a, .int x) :: zdrop1 a lv, r) | _ => none)
  | .lstore_n a => (match st with | .long x :: r => some (pc + 1, (a.val, .long x) :: zdrop2 a lv, r) | _ => none)
  | .lstore a => (match st with | .long x :: r => some (pc + 2, (a, .long x) :: zdrop2 a lv, r) | _ => none)
  | .astore_n a => (match st with | .ref x :: r => some (pc + 1, (a.val, .ref x) :: zdrop1 a lv, r) | _ => none)
  | .astore a => (match st with | .ref x :: r => some (pc + 2, (a, .ref x) :: zdrop1 a lv, r) | _ => none)
  | .iinc a b => (match zget lv a with | some (.int x) => some (pc + 3, (a, .int (x + Int32.ofInt b)) :: zdrop1 a lv, st) | _ => none)
  | .iadd => (match st with | .int y :: .int x :: r => some (pc + 1, lv, .int (x + y) :: r) | _ => none)
  | .isub => (match st with | .int y :: .int x :: r => some (pc + 1, lv, .int (x - y) :: r) | _ => none)
  | .imul => (match st with | .int y :: .int x :: r => some (pc + 1, lv, .int (x * y) :: r) | _ => none)
  | .iand => (match st with | .int y :: .int x :: r => some (pc + 1, lv, .int (x &&& y) :: r) | _ => none)
  | .ior => (match st with | .int y :: .int x :: r => some (pc + 1, lv, .int (x ||| y) :: r) | _ => none)
  | .ixor => (match st with | .int y :: .int x :: r => some (pc + 1, lv, .int (x ^^^ y) :: r) | _ => none)
  | .ishl => (match st with | .int y :: .int x :: r => some (pc + 1, lv, .int (x <<< (y &&& 31)) :: r) | _ => none)
  | .ishr => (match st with | .int y :: .int x :: r => some (pc + 1, lv, .int (x >>> (y &&& 31)) :: r) | _ => none)
  | .iushr => (match st with | .int y :: .int x :: r => some (pc + 1, lv, .int ((x.toUInt32 >>> (y.toUInt32 &&& Int32.toUInt32 31)).toInt32) :: r) | _ => none)
  | .idiv => (match st with | .int y :: .int x :: r => if y = 0 then none else some (pc + 1, lv, .int (x / y) :: r) | _ => none)
  | .irem => (match st with | .int y :: .int x :: r => if y = 0 then none else some (pc + 1, lv, .int (x - x / y * y) :: r) | _ => none)
  | .ineg => (match st with | .int x :: r => some (pc + 1, lv, .int (-x) :: r) | _ => none)
  | .ladd => (match st with | .long y :: .long x :: r => some (pc + 1, lv, .long (x + y) :: r) | _ => none)
  | .lsub => (match st with | .long y :: .long x :: r => some (pc + 1, lv, .long (x - y) :: r) | _ => none)
  | .lmul => (match st with | .long y :: .long x :: r => some (pc + 1, lv, .long (x * y) :: r) | _ => none)
  | .land => (match st with | .long y :: .long x :: r => some (pc + 1, lv, .long (x &&& y) :: r) | _ => none)
  | .lor => (match st with | .long y :: .long x :: r => some (pc + 1, lv, .long (x ||| y) :: r) | _ => none)
  | .lxor => (match st with | .long y :: .long x :: r => some (pc + 1, lv, .long (x ^^^ y) :: r) | _ => none)
  | .ldiv => (match st with | .long y :: .long x :: r => if y = 0 then none else some (pc + 1, lv, .long (x / y) :: r) | _ => none)
  | .lrem => (match st with | .long y :: .long x :: r => if y = 0 then none else some (pc + 1, lv, .long (x - x / y * y) :: r) | _ => none)
  | .lneg => (match st with | .long x :: r => some (pc + 1, lv, .long (-x) :: r) | _ => none)
  | .lshl => (match st with | .int y :: .long x :: r => some (pc + 1, lv, .long (x <<< (y.toInt64 &&& 63)) :: r) | _ => none)
  | .lshr => (match st with | .int y :: .long x :: r => some (pc + 1, lv, .long (x >>> (y.toInt64 &&& 63)) :: r) | _ => none)
  | .lushr => (match st with | .int y :: .long x :: r => some (pc + 1, lv, .long ((x.toUInt64 >>> (y.toInt64.toUInt64 &&& Int64.toUInt64 63)).toInt64) :: r) | _ => none)
  | .lcmp => (match st with | .long y :: .long x :: r => some (pc + 1, lv, .int (lg_cmp x y) :: r) | _ => none)
  | .i2l => (match st with | .int x :: r => some (pc + 1, lv, .long x.toInt64 :: r) | _ => none)
  | .l2i => (match st with | .long x :: r => some (pc + 1, lv, .int x.toInt32 :: r) | _ => none)
  | .dup => (match st with | v :: r => if v.category = 1 then some (pc + 1, lv, v :: v :: r) else none | _ => none)
  | .pop => (match st with | v :: r => if v.category = 1 then some (pc + 1, lv, r) else none | _ => none)
  | .dup_x1 => (match st with | v :: w :: r => if v.category = 1 ∧ w.category = 1 then some (pc + 1, lv, v :: w :: v :: r) else none | _ => none)
  | .dup2 => (match st with | .int v :: .ref w :: r => some (pc + 1, lv, .int v :: .ref w :: .int v :: .ref w :: r) | .long v :: r => some (pc + 1, lv, .long v :: .long v :: r) | _ => none)
  | .dup2_x1 => (match st with | .long v :: w :: r => if w.category = 1 then some (pc + 1, lv, .long v :: w :: .long v :: r) else none | _ => none)
  | .pop2 => (match st with | .long v :: r => some (pc + 1, lv, r) | _ => none)
  | .ifCond .eq off => (match st with | .int x :: r => some (if x = 0 then ((pc : Int) + off).toNat else pc + 3, lv, r) | _ => none)
  | .if_icmp .eq off => (match st with | .int y :: .int x :: r => some (if x = y then ((pc : Int) + off).toNat else pc + 3, lv, r) | _ => none)
  | .ifCond .ne off => (match st with | .int x :: r => some (if ¬ x = 0 then ((pc : Int) + off).toNat else pc + 3, lv, r) | _ => none)
  | .if_icmp .ne off => (match st with | .int y :: .int x :: r => some (if ¬ x = y then ((pc : Int) + off).toNat else pc + 3, lv, r) | _ => none)
  | .ifCond .lt off => (match st with | .int x :: r => some (if x < 0 then ((pc : Int) + off).toNat else pc + 3, lv, r) | _ => none)
  | .if_icmp .lt off => (match st with | .int y :: .int x :: r => some (if x < y then ((pc : Int) + off).toNat else pc + 3, lv, r) | _ => none)
  | .ifCond .ge off => (match st with | .int x :: r => some (if 0 ≤ x then ((pc : Int) + off).toNat else pc + 3, lv, r) | _ => none)
  | .if_icmp .ge off => (match st with | .int y :: .int x :: r => some (if y ≤ x then ((pc : Int) + off).toNat else pc + 3, lv, r) | _ => none)
  | .ifCond .gt off => (match st with | .int x :: r => some (if 0 < x then ((pc : Int) + off).toNat else pc + 3, lv, r) | _ => none)
  | .if_icmp .gt off => (match st with | .int y :: .int x :: r => some (if y < x then ((pc : Int) + off).toNat else pc + 3, lv, r) | _ => none)
  | .ifCond .le off => (match st with | .int x :: r => some (if x ≤ 0 then ((pc : Int) + off).toNat else pc + 3, lv, r) | _ => none)
  | .if_icmp .le off => (match st with | .int y :: .int x :: r => some (if x ≤ y then ((pc : Int) + off).toNat else pc + 3, lv, r) | _ => none)
  | .goto off => some (((pc : Int) + off).toNat, lv, st)
  | .tableswitch d lo hi offs => (match st with | .int x :: r => some (((pc : Int) + zsw d lo hi offs x.toInt).toNat, lv, r) | _ => none)
  | .lookupswitch d ps => (match st with | .int x :: r => some (((pc : Int) + Op.lookupswitch.offset ps.toList d x.toInt).toNat, lv, r) | _ => none)
  | _ => none
section Z1
variable {p : Program} {l : Launch} {e : Env} {R : Room} {s : State} {m : MethodId} {args : Array Value} {below : List Frame} {meth : Method} {c : Code} {H : Heap} {locs : List Loc} {cells slots : Nat} {Q : State → Prop}
variable {cc : ByteArray} {pc : Nat} {ls : Array Slot}
theorem z_tab {rest : List Value} (hx : p.tables.exec = Jvm.exec) (hb : c.code = cc) {d lo hi : Int} {offs : Array Int} {n : Nat} {x : Int32} (hd : decode cc pc = .ok (.tableswitch d lo hi offs, n)) (h0 : 0 ≤ (pc : Int) + d) (hs : offs.size = (hi - lo + 1).toNat) (ha : ∀ (j : Nat) (hj : j < offs.size), 0 ≤ (pc : Int) + offs[j])
    (k : W p l e R s m args below meth c H locs cells slots Q (F0 m (((pc : Int) + zsw d lo hi offs x.toInt).toNat) ls rest)) : W p l e R s m args below meth c H locs cells slots Q (F0 m pc ls (.int x :: rest)) := by
  by_cases h : x.toInt < lo ∨ hi < x.toInt
  · rw [zsw, if_pos h] at k
    exact lv_tableOut hx hb hd h (Int.toNat_of_nonneg h0).symm k
  · rw [zsw, if_neg h] at k
    have h1 : ¬ x.toInt < lo := fun z => h (Or.inl z)
    have h2 : ¬ hi < x.toInt := fun z => h (Or.inr z)
    have hj : (x.toInt - lo).toNat < offs.size := by rw [hs]; omega
    rw [Array.getElem?_eq_getElem hj, Option.getD_some] at k
    exact lv_tableIn hx hb hd h1 h2 (Array.getElem?_eq_getElem hj) (Int.toNat_of_nonneg (ha _ hj)).symm k
theorem z_look {d x : Int} : ∀ (ps : List (Int × Int)), 0 ≤ (pc : Int) + d → (∀ o ∈ ps, 0 ≤ (pc : Int) + o.2) → 0 ≤ (pc : Int) + Op.lookupswitch.offset ps d x
  | [], h, _ => h
  | (a, o) :: ps, h, ha => by
    rw [Op.lookupswitch.offset_cons]
    split
    · exact ha (a, o) List.mem_cons_self
    · exact z_look ps h (fun q hq => ha q (List.mem_cons_of_mem _ hq))
set_option maxHeartbeats 4000000 in
theorem sim1 {ad : Nat → Nat} {nL n : Nat} {i : Instr} {lv lv' : zL} {st st' : List Value} {pc' : Nat} (hx : p.tables.exec = Jvm.exec) (hb : c.code = cc) (hd : decode cc pc = .ok (i, n)) (hz : zok nL pc i n = true) (h1 : z1 pc i lv st = some (pc', lv', st'))
    (hl : lv_has ls nL (tl ad lv)) (k : ∀ ls' : Array Slot, lv_has ls' nL (tl ad lv') → W p l e R s m args below meth c H locs cells slots Q (F0 m pc' ls' (st'.map (tv ad)))) :
    W p l e R s m args below meth c H locs cells slots Q (F0 m pc ls (st.map (tv ad))) := by
  unfold z1 at h1
  split at h1
  · -- .iconst a
    cases h1
    obtain rfl : n = 1 := by simpa [zok] using hz
    exact lv_iconst hx hb hd rfl (k _ hl)
  · -- .bipush a
    cases h1
    obtain rfl : n = 2 := by simpa [zok] using hz
    exact lv_bipush hx hb hd rfl (k _ hl)
  · -- .sipush a
    cases h1
    obtain rfl : n = 3 := by simpa [zok] using hz
    exact lv_sipush hx hb hd rfl (k _ hl)
  · -- .lconst a
    cases h1
    obtain rfl : n = 1 := by simpa [zok] using hz
    exact lv_lconst hx hb hd rfl (k _ hl)
  · -- .iload_n a
    split at h1
    · rename_i x hg
      cases h1
      obtain rfl : n = 1 := by simpa [zok] using hz
      exact lv_iload_n hx hb hd rfl (zget_at hl hg) (k _ hl)
    · cases h1
  · -- .iload a
    split at h1
    · rename_i x hg
      cases h1
      obtain rfl : n = 2 := by simpa [zok] using hz
      exact lv_iload hx hb hd (zget_at hl hg) (k _ hl)
    · cases h1
  · -- .lload_n a
    split at h1
    · rename_i x hg
      cases h1
      obtain rfl : n = 1 := by simpa [zok] using hz
      exact lv_lload_n hx hb hd rfl (zget_at hl hg) (k _ hl)
    · cases h1
  · -- .lload a
    split at h1
    · rename_i x hg
      cases h1
      obtain rfl : n = 2 := by simpa [zok] using hz
      exact lv_lload hx hb hd (zget_at hl hg) (k _ hl)
    · cases h1
  · -- .aload_n a
    split at h1
    · rename_i x hg
      cases h1
      obtain rfl : n = 1 := by simpa [zok] using hz
      exact lv_aload_n hx hb hd rfl (zget_at hl hg) (k _ hl)
    · cases h1
  · -- .aload a
    split at h1
    · rename_i x hg
      cases h1
      obtain rfl : n = 2 := by simpa [zok] using hz
      exact lv_aload hx hb hd (zget_at hl hg) (k _ hl)
    · cases h1
  · -- .istore_n a
    split at h1
    · rename_i x r
      cases h1
      simp only [zok, Bool.and_eq_true, beq_iff_eq, decide_eq_true_eq] at hz
      obtain rfl : n = 1 := hz.1
      exact lv_istore_n hx hb hd rfl hl hz.2 (tl_zdrop1 ad _ (.int _) _ rfl) (fun ls' h => k ls' h)
    · cases h1
  · -- .istore a
    split at h1
    · rename_i x r
      cases h1
      simp only [zok, Bool.and_eq_true, beq_iff_eq, decide_eq_true_eq] at hz
      obtain rfl : n = 2 := hz.1
      exact lv_istore hx hb hd hl hz.2 (tl_zdrop1 ad _ (.int _) _ rfl) (fun ls' h => k ls' h)
    · cases h1
  · -- .lstore_n a
    split at h1
    · rename_i x r
      cases h1
      simp only [zok, Bool.and_eq_true, beq_iff_eq, decide_eq_true_eq] at hz
      obtain rfl : n = 1 := hz.1
      exact lv_lstore_n hx hb hd rfl hl hz.2 (tl_zdrop2 ad _ (.long _) _ rfl) (fun ls' h => k ls' h)
    · cases h1
  · -- .lstore a
    split at h1
    · rename_i x r
      cases h1
      simp only [zok, Bool.and_eq_true, beq_iff_eq, decide_eq_true_eq] at hz
      obtain rfl : n = 2 := hz.1
      exact lv_lstore hx hb hd hl hz.2 (tl_zdrop2 ad _ (.long _) _ rfl) (fun ls' h => k ls' h)
    · cases h1
  · -- .astore_n a
    split at h1
    · rename_i x r
      cases h1
      simp only [zok, Bool.and_eq_true, beq_iff_eq, decide_eq_true_eq] at hz
      obtain rfl : n = 1 := hz.1
      exact lv_astore_n hx hb hd rfl hl hz.2 (tl_zdrop1 ad _ (.ref _) _ rfl) (fun ls' h => k ls' h)
    · cases h1
  · -- .astore a
    split at h1
    · rename_i x r
      cases h1
      simp only [zok, Bool.and_eq_true, beq_iff_eq, decide_eq_true_eq] at hz
      obtain rfl : n = 2 := hz.1
      exact lv_astore hx hb hd hl hz.2 (tl_zdrop1 ad _ (.ref _) _ rfl) (fun ls' h => k ls' h)
    · cases h1
  · -- .iinc a b
    split at h1
    · rename_i x hg
      cases h1
      simp only [zok, Bool.and_eq_true, beq_iff_eq, decide_eq_true_eq] at hz
      obtain rfl : n = 3 := hz.1
      obtain ⟨j, hj⟩ := zget_ix ad hg
      exact lv_iinc hx hb hd hl hj rfl hz.2 (tl_zdrop1 ad _ (.int _) _ rfl) (fun ls' h => k ls' h)
    · cases h1
  · -- .iadd
    split at h1
    · rename_i y x r
      cases h1
      obtain rfl : n = 1 := by simpa [zok] using hz
      exact lv_iadd hx hb hd (k _ hl)
    · cases h1
  · -- .isub
    split at h1
    · rename_i y x r
      cases h1
      obtain rfl : n = 1 := by simpa [zok] using hz
      exact lv_isub hx hb hd (k _ hl)
    · cases h1
  · -- .imul
    split at h1
    · rename_i y x r
      cases h1
      obtain rfl : n = 1 := by simpa [zok] using hz
      exact lv_imul hx hb hd (k _ hl)
    · cases h1
  · -- .iand
    split at h1
    · rename_i y x r
      cases h1
      obtain rfl : n = 1 := by simpa [zok] using hz
      exact lv_iand hx hb hd (k _ hl)
    · cases h1
  · -- .ior
    split at h1
    · rename_i y x r
      cases h1
      obtain rfl : n = 1 := by simpa [zok] using hz
      exact lv_ior hx hb hd (k _ hl)
    · cases h1
  · -- .ixor
    split at h1
    · rename_i y x r
      cases h1
      obtain rfl : n = 1 := by simpa [zok] using hz
      exact lv_ixor hx hb hd (k _ hl)
    · cases h1
  · -- .ishl
    split at h1
    · rename_i y x r
      cases h1
      obtain rfl : n = 1 := by simpa [zok] using hz
      exact lv_ishl hx hb hd (k _ hl)
    · cases h1
  · -- .ishr
    split at h1
    · rename_i y x r
      cases h1
      obtain rfl : n = 1 := by simpa [zok] using hz
      exact lv_ishr hx hb hd (k _ hl)
    · cases h1
  · -- .iushr
    split at h1
    · rename_i y x r
      cases h1
      obtain rfl : n = 1 := by simpa [zok] using hz
      exact lv_iushr hx hb hd rfl (k _ hl)
    · cases h1
  · -- .idiv
    split at h1
    · rename_i y x r
      split at h1
      · cases h1
      · rename_i hy
        cases h1
        obtain rfl : n = 1 := by simpa [zok] using hz
        exact lv_idiv hx hb hd hy (k _ hl)
    · cases h1
  · -- .irem
    split at h1
    · rename_i y x r
      split at h1
      · cases h1
      · rename_i hy
        cases h1
        obtain rfl : n = 1 := by simpa [zok] using hz
        exact lv_irem hx hb hd hy (k _ hl)
    · cases h1
  · -- .ineg
    split at h1
    · rename_i x r
      cases h1
      obtain rfl : n = 1 := by simpa [zok] using hz
      exact lv_ineg hx hb hd (k _ hl)
    · cases h1
  · -- .ladd
    split at h1
    · rename_i y x r
      cases h1
      obtain rfl : n = 1 := by simpa [zok] using hz
      exact lv_ladd hx hb hd (k _ hl)
    · cases h1
  · -- .lsub
    split at h1
    · rename_i y x r
      cases h1
      obtain rfl : n = 1 := by simpa [zok] using hz
      exact lv_lsub hx hb hd (k _ hl)
    · cases h1
  · -- .lmul
    split at h1
    · rename_i y x r
      cases h1
      obtain rfl : n = 1 := by simpa [zok] using hz
      exact lv_lmul hx hb hd (k _ hl)
    · cases h1
  · -- .land
    split at h1
    · rename_i y x r
      cases h1
      obtain rfl : n = 1 := by simpa [zok] using hz
      exact lv_land hx hb hd (k _ hl)
    · cases h1
  · -- .lor
    split at h1
    · rename_i y x r
      cases h1
      obtain rfl : n = 1 := by simpa [zok] using hz
      exact lv_lor hx hb hd (k _ hl)
    · cases h1
  · -- .lxor
    split at h1
    · rename_i y x r
      cases h1
      obtain rfl : n = 1 := by simpa [zok] using hz
      exact lv_lxor hx hb hd (k _ hl)
    · cases h1
  · -- .ldiv
    split at h1
    · rename_i y x r
      split at h1
      · cases h1
      · rename_i hy
        cases h1
        obtain rfl : n = 1 := by simpa [zok] using hz
        exact lv_ldiv hx hb hd hy (k _ hl)
    · cases h1
  · -- .lrem
    split at h1
    · rename_i y x r
      split at h1
      · cases h1
      · rename_i hy
        cases h1
        obtain rfl : n = 1 := by simpa [zok] using hz
        exact lv_lrem hx hb hd hy (k _ hl)
    · cases h1
  · -- .lneg
    split at h1
    · rename_i x r
      cases h1
      obtain rfl : n = 1 := by simpa [zok] using hz
      exact lv_lneg hx hb hd (k _ hl)
    · cases h1
  · -- .lshl
    split at h1
    · rename_i y x r
      cases h1
      obtain rfl : n = 1 := by simpa [zok] using hz
      exact lv_lshl hx hb hd rfl (k _ hl)
    · cases h1
  · -- .lshr
    split at h1
    · rename_i y x r
      cases h1
      obtain rfl : n = 1 := by simpa [zok] using hz
      exact lv_lshr hx hb hd rfl (k _ hl)
    · cases h1
  · -- .lushr
    split at h1
    · rename_i y x r
      cases h1
      obtain rfl : n = 1 := by simpa [zok] using hz
      exact lv_lushr hx hb hd rfl (k _ hl)
    · cases h1
  · -- .lcmp
    split at h1
    · rename_i y x r
      cases h1
      obtain rfl : n = 1 := by simpa [zok] using hz
      exact W.lcmp hx hb hd (k _ hl)
    · cases h1
  · -- .i2l
    split at h1
    · rename_i x r
      cases h1
      obtain rfl : n = 1 := by simpa [zok] using hz
      exact lv_i2l hx hb hd rfl (k _ hl)
    · cases h1
  · -- .l2i
    split at h1
    · rename_i x r
      cases h1
      obtain rfl : n = 1 := by simpa [zok] using hz
      exact lv_l2i hx hb hd rfl (k _ hl)
    · cases h1
  · -- .dup
    split at h1
    · rename_i v r
      split at h1
      · rename_i hc
        cases h1
        obtain rfl : n = 1 := by simpa [zok] using hz
        exact lv_dup hx hb hd (by rw [tv_cat]; exact hc) (k _ hl)
      · cases h1
    · cases h1
  · -- .pop
    split at h1
    · rename_i v r
      split at h1
      · rename_i hc
        cases h1
        obtain rfl : n = 1 := by simpa [zok] using hz
        exact lv_pop hx hb hd (by rw [tv_cat]; exact hc) (k _ hl)
      · cases h1
    · cases h1
  · -- .dup_x1
    split at h1
    · rename_i v w r
      split at h1
      · rename_i hc
        cases h1
        obtain rfl : n = 1 := by simpa [zok] using hz
        exact lv_dup_x1 hx hb hd (by rw [tv_cat]; exact hc.1) (by rw [tv_cat]; exact hc.2) (k _ hl)
      · cases h1
    · cases h1
  · -- .dup2
    split at h1
    · rename_i v w r
      cases h1
      obtain rfl : n = 1 := by simpa [zok] using hz
      exact lv_dup2_11 hx hb hd rfl rfl (k _ hl)
    · rename_i v r
      cases h1
      obtain rfl : n = 1 := by simpa [zok] using hz
      exact lv_dup2_2 hx hb hd rfl (k _ hl)
    · cases h1
  · -- .dup2_x1
    split at h1
    · rename_i v w r
      split at h1
      · rename_i hc
        cases h1
        obtain rfl : n = 1 := by simpa [zok] using hz
        exact lv_dup2_x1_2 hx hb hd rfl (by rw [tv_cat]; exact hc) (k _ hl)
      · cases h1
    · cases h1
  · -- .pop2
    split at h1
    · rename_i v r
      cases h1
      obtain rfl : n = 1 := by simpa [zok] using hz
      exact lv_pop2_2 hx hb hd rfl (k _ hl)
    · cases h1
  · -- .ifCond .eq off
    split at h1
    · rename_i x r
      cases h1
      simp only [zok, Bool.and_eq_true, beq_iff_eq, decide_eq_true_eq] at hz
      obtain rfl : n = 3 := hz.1
      refine lv_if_eq hx hb hd (Int.toNat_of_nonneg hz.2).symm (fun hc => ?_) (fun hc => ?_)
      · have q := k _ hl; rw [if_pos hc] at q; exact q
      · have q := k _ hl; rw [if_neg hc] at q; exact q
    · cases h1
  · -- .if_icmp .eq off
    split at h1
    · rename_i y x r
      cases h1
      simp only [zok, Bool.and_eq_true, beq_iff_eq, decide_eq_true_eq] at hz
      obtain rfl : n = 3 := hz.1
      refine lv_icmp_eq hx hb hd (Int.toNat_of_nonneg hz.2).symm (fun hc => ?_) (fun hc => ?_)
      · have q := k _ hl; rw [if_pos hc] at q; exact q
      · have q := k _ hl; rw [if_neg hc] at q; exact q
    · cases h1
  · -- .ifCond .ne off
    split at h1
    · rename_i x r
      cases h1
      simp only [zok, Bool.and_eq_true, beq_iff_eq, decide_eq_true_eq] at hz
      obtain rfl : n = 3 := hz.1
      refine lv_if_ne hx hb hd (Int.toNat_of_nonneg hz.2).symm (fun hc => ?_) (fun hc => ?_)
      · have q := k _ hl; rw [if_pos hc] at q; exact q
      · have q := k _ hl; rw [if_neg (fun z => z hc)] at q; exact q
    · cases h1
  · -- .if_icmp .ne off
    split at h1
    · rename_i y x r
      cases h1
      simp only [zok, Bool.and_eq_true, beq_iff_eq, decide_eq_true_eq] at hz
      obtain rfl : n = 3 := hz.1
      refine lv_icmp_ne hx hb hd (Int.toNat_of_nonneg hz.2).symm (fun hc => ?_) (fun hc => ?_)
      · have q := k _ hl; rw [if_pos hc] at q; exact q
      · have q := k _ hl; rw [if_neg (fun z => z hc)] at q; exact q
    · cases h1
  · -- .ifCond .lt off
    split at h1
    · rename_i x r
      cases h1
      simp only [zok, Bool.and_eq_true, beq_iff_eq, decide_eq_true_eq] at hz
      obtain rfl : n = 3 := hz.1
      refine lv_if_lt hx hb hd (Int.toNat_of_nonneg hz.2).symm (fun hc => ?_) (fun hc => ?_)
      · have q := k _ hl; rw [if_pos hc] at q; exact q
      · have q := k _ hl; rw [if_neg hc] at q; exact q
    · cases h1
  · -- .if_icmp .lt off
    split at h1
    · rename_i y x r
      cases h1
      simp only [zok, Bool.and_eq_true, beq_iff_eq, decide_eq_true_eq] at hz
      obtain rfl : n = 3 := hz.1
      refine lv_icmp_lt hx hb hd (Int.toNat_of_nonneg hz.2).symm (fun hc => ?_) (fun hc => ?_)
      · have q := k _ hl; rw [if_pos hc] at q; exact q
      · have q := k _ hl; rw [if_neg hc] at q; exact q
    · cases h1
  · -- .ifCond .ge off
    split at h1
    · rename_i x r
      cases h1
      simp only [zok, Bool.and_eq_true, beq_iff_eq, decide_eq_true_eq] at hz
      obtain rfl : n = 3 := hz.1
      refine lv_if_ge hx hb hd (Int.toNat_of_nonneg hz.2).symm (fun hc => ?_) (fun hc => ?_)
      · have q := k _ hl; rw [if_pos hc] at q; exact q
      · have q := k _ hl; rw [if_neg hc] at q; exact q
    · cases h1
  · -- .if_icmp .ge off
    split at h1
    · rename_i y x r
      cases h1
      simp only [zok, Bool.and_eq_true, beq_iff_eq, decide_eq_true_eq] at hz
      obtain rfl : n = 3 := hz.1
      refine lv_icmp_ge hx hb hd (Int.toNat_of_nonneg hz.2).symm (fun hc => ?_) (fun hc => ?_)
      · have q := k _ hl; rw [if_pos hc] at q; exact q
      · have q := k _ hl; rw [if_neg hc] at q; exact q
    · cases h1
  · -- .ifCond .gt off
    split at h1
    · rename_i x r
      cases h1
      simp only [zok, Bool.and_eq_true, beq_iff_eq, decide_eq_true_eq] at hz
      obtain rfl : n = 3 := hz.1
      refine lv_if_gt hx hb hd (Int.toNat_of_nonneg hz.2).symm (fun hc => ?_) (fun hc => ?_)
      · have q := k _ hl; rw [if_pos hc] at q; exact q
      · have q := k _ hl; rw [if_neg hc] at q; exact q
    · cases h1
  · -- .if_icmp .gt off
    split at h1
    · rename_i y x r
      cases h1
      simp only [zok, Bool.and_eq_true, beq_iff_eq, decide_eq_true_eq] at hz
      obtain rfl : n = 3 := hz.1
      refine lv_icmp_gt hx hb hd (Int.toNat_of_nonneg hz.2).symm (fun hc => ?_) (fun hc => ?_)
      · have q := k _ hl; rw [if_pos hc] at q; exact q
      · have q := k _ hl; rw [if_neg hc] at q; exact q
    · cases h1
  · -- .ifCond .le off
    split at h1
    · rename_i x r
      cases h1
      simp only [zok, Bool.and_eq_true, beq_iff_eq, decide_eq_true_eq] at hz
      obtain rfl : n = 3 := hz.1
      refine lv_if_le hx hb hd (Int.toNat_of_nonneg hz.2).symm (fun hc => ?_) (fun hc => ?_)
      · have q := k _ hl; rw [if_pos hc] at q; exact q
      · have q := k _ hl; rw [if_neg hc] at q; exact q
    · cases h1
  · -- .if_icmp .le off
    split at h1
    · rename_i y x r
      cases h1
      simp only [zok, Bool.and_eq_true, beq_iff_eq, decide_eq_true_eq] at hz
      obtain rfl : n = 3 := hz.1
      refine lv_icmp_le hx hb hd (Int.toNat_of_nonneg hz.2).symm (fun hc => ?_) (fun hc => ?_)
      · have q := k _ hl; rw [if_pos hc] at q; exact q
      · have q := k _ hl; rw [if_neg hc] at q; exact q
    · cases h1
  · -- .goto off
    cases h1
    simp only [zok, Bool.and_eq_true, beq_iff_eq, decide_eq_true_eq] at hz
    obtain rfl : n = 3 := hz.1
    exact lv_goto hx hb hd (Int.toNat_of_nonneg hz.2).symm (k _ hl)
  · -- .tableswitch d lo hi offs
    split at h1
    · rename_i x r
      cases h1
      simp only [zok, Bool.and_eq_true, decide_eq_true_eq, Array.all_eq_true] at hz
      exact z_tab hx hb hd hz.1.1 hz.1.2 (fun j hj => by simpa using hz.2 j hj) (k _ hl)
    · cases h1
  · -- .lookupswitch d ps
    split at h1
    · rename_i x r
      cases h1
      simp only [zok, Bool.and_eq_true, decide_eq_true_eq] at hz
      exact lv_lookup hx hb hd hz.1.2 rfl (Int.toNat_of_nonneg (z_look _ hz.1.1 (fun o ho => by have h9 := List.all_eq_true.mp hz.2 o ho; simpa using h9))).symm (k _ hl)
    · cases h1
  · cases h1
end Z1
