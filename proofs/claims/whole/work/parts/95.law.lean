/-! THE CLAIM OUT OF ONE WALK OF THE LAW'S BODY. Your part is whole_start (and what it stands on); all else here is the same for every law, but numbers. -/
def R_law : String := "StackRealLaw"
def lw_P (b : Addr) (xs : List Int32) (args : Array Value) (s : State) : Prop := args = #[.ref b] ∧ s.IntsAt b xs ∧ xs.length ≤ 2048 ∧ (Jvm.Cond.and given_1 narrow_1).before args s = true
def lw_Q (_ : Array Value) (s : State) (o : Outcome) (t : State) : Prop := o = .returned (some (.int 1)) ∧ Framed s o t [] 658431 7120810
def lw_Z (below : List Frame) (a : Array Value) (s : State) : State → Prop := fun t => ∃ o, t.status = .running ∧ Ended t below o ∧ lw_Q a s o t
/-- the law's own end, with 1 on the stack, nothing written that was there before, its room as the claim has it -/
theorem lw_ret {p : Program} {l : Launch} {e : Env} {s : State} {m : MethodId} {below : List Frame} {meth : Method} {c : Code} {b : Nat} (hx : p.tables.exec = Jvm.exec) (hb : c.code = code) (hr : meth.sig.returnType = ret) (hlocks : meth.locks = false) {pc : Nat} {H : Heap} {ls : Array Slot} (hdg : decode code pc = .ok (.ireturn, 1)) : W p l e room_1 s m #[Value.ref b] below meth c H [] 658431 7120810 (lw_Z below #[Value.ref b] s) (F0 m pc ls [.int 1]) := by
  intro T hT X
  obtain ⟨fs, hret, hrun, hended, hW, hframe⟩ := X.leave (v := some (.int 1)) (hlocks := hlocks) (fun h => by rw [hr] at h; cases h)
  have hmeth' : T.vm.method? m = some meth := X.method'
  refine ⟨T.setFrames fs, ?_, .returned (some (.int 1)), hrun, hended, rfl, ⟨_, rfl⟩, hW, hframe⟩
  jvm_step X.here [X.here.top, hx, hb, hdg, hmeth', hr, ret, narrow_b1]
  (try refine ⟨rfl, ?_⟩); (try refine ⟨rfl, ?_⟩)
  first | (intro acts; rw [hret _ acts rfl rfl rfl]) | rw [hret _ _ rfl rfl rfl]
  exact Steps.refl _
/-- what holds at the law's entry: the machine, the code, the tables' words (any of lw_tbl by 'hts w (by decide +kernel)'), the script of L ints xs at the cell b, what the Statement gives of the start (any of its parts by flat_of_before) -/
def lw_At (p : Program) (s : State) (m : MethodId) (meth : Method) (c : Code) (b L : Nat) (xs : Nat → Int32) : Prop :=
  p.tables.exec = Jvm.exec ∧ c.code = code ∧ meth.sig.returnType = ret ∧ c.maxLocals = 8 ∧ s.vm.findClass R_law = some m.cls ∧ (∀ w ∈ lw_tbl, w.before #[Value.ref b] s = true) ∧ va_X b L xs s s.heap ∧ b < s.heap.size ∧ meth.locks = false ∧ (Jvm.Cond.and given_1 narrow_1).before #[Value.ref b] s = true
theorem zk_le {L : Nat} {xs : Nat → Int32} : ∀ {n d : Nat} {mi : ZM} {pc : Nat} {lv : zL} {st : List Value} {h : zH} {k : Nat} {o : zO} {h' : zH} {k' : Nat}, zrun L xs n d mi pc lv st h k = some (o, h', k') → k ≤ zKm mi → k' ≤ zKm mi := by
  intro n
  induction n with
  | zero => intro d mi pc lv st h k o h' k' hr; unfold zrun at hr; cases hr
  | succ n ih =>
    intro d mi pc lv st h k o h' k' hr hk
    unfold zrun at hr
    split at hr
    · cases hr
    · split at hr
      · exact ih hr hk
      · split at hr
        · exact ih hr hk
        · split at hr
          · split at hr
            · cases hr
            · split at hr
              · rename_i hk2
                split at hr
                · cases hr
                · split at hr
                  · exact ih hr hk2
                  · cases hr
                · split at hr
                  · split at hr
                    · cases hr; exact hk2
                    · split at hr
                      · cases hr
                      · split at hr
                        · exact ih hr hk2
                        · exact ih hr hk2
                        · cases hr
                  · cases hr
              · cases hr
          · split at hr
            · cases hr; exact hk
            · split at hr
              · split at hr
                · rename_i hk2; cases hr; exact hk2.1
                · cases hr
              · cases hr
/-! The law's start: what the Statement gives, in the simulation's words -/
/-- the pure statement that is still owed: from the loop's head the law answers 1 -/
def zPure : Prop := ∀ (L : Nat) (xs : Nat → Int32), L ≤ 2048 → ∃ h' k', zR L xs 11 m_law 23 zLv [] zH0 0 (.inl (some (.int 1))) h' k'
theorem z_flat (j : Nat) {w : Jvm.Cond} (h : (flatC (Jvm.Cond.and given_1 narrow_1))[j]? = some w) : w ∈ flatC (Jvm.Cond.and given_1 narrow_1) := List.mem_of_getElem? h
set_option maxRecDepth 100000 in
set_option maxHeartbeats 4000000 in
theorem z_start {p : Program} {s : State} {m : MethodId} {meth : Method} {c : Code} {b L : Nat} {xs : Nat → Int32} (C0 : lw_At p s m meth c b L xs) :
    ∃ (D : va_G) (cA : Nat → ClassId) (ex : Nat → Nat), ex 1000 = b ∧ va_AO zRealN s ∧ zS D (zad ex []) cA (fun q => s.heap.size ≤ q) L xs s #[Value.ref b] := by
  obtain ⟨hx, hb, hret, hml, hown, hts, hX, hbl, hlk, hgv⟩ := C0
  have hfl := flat_of_before _ hgv
  have hA : ∀ a : Nat, a < s.heap.size → ¬ (s.heap.size ≤ a) := fun a h => by omega
  have hW : ∀ w ∈ zWs, w.before #[Value.ref b] s = true := by
    intro w hw
    rcases List.mem_append.mp (List.mem_filter.mp hw).1 with h | h
    · exact hts w h
    · refine hfl w ?_
      simp only [zXtra, List.mem_cons, List.not_mem_nil, or_false] at h
      rcases h with rfl | rfl
      · exact zf_no21
      · exact zf_no12
  -- the classes
  have hcls : ∀ ci : Nat, ∃ (cC : ClassId) (iS : Nat → Nat), ∀ r : vw_C, zCl[ci]? = some r → u_Kn s r.1 r.2.1 r.2.2 cC iS := by
    intro ci
    cases h : zCl[ci]? with
    | none => exact ⟨0, fun _ => 0, fun r hr => by cases hr⟩
    | some r =>
      obtain ⟨n, hn⟩ := zInst_ok h
      obtain ⟨cC, iS, hK⟩ := u_known (n := n) hW (zCl_all h).1 (hW _ hn)
      exact ⟨cC, iS, fun r' hr' => by cases hr'; exact hK⟩
  -- the array classes
  have harr : ∀ ty : FieldType, (ty = .int ∨ ty = .long ∨ ty = .boolean) → Jvm.Cond.arrayClass ty ∈ zWs → ∃ k : ClassId, ArrOfT s k ty ∧ va_RA s k ty := by
    intro ty h3 hw
    obtain ⟨k, kc, comp, f1, f2, f3⟩ := Cond.arrayClass_spec (hW _ hw)
    refine ⟨k, fun N z => ⟨(fun _ h => by cases h), kc, f2, comp, f3⟩, ?_⟩
    rcases h3 with rfl | rfl | rfl <;> exact f1
  obtain ⟨k0, a0, r0⟩ := harr .int (Or.inl rfl) zArr_int
  obtain ⟨k1, a1, r1⟩ := harr .long (Or.inr (Or.inl rfl)) zArr_long
  obtain ⟨k2, a2, r2⟩ := harr .boolean (Or.inr (Or.inr rfl)) zArr_boolean
  have hAO : va_AO zRealN s := va_AO.of (hts _ zArr_over)
  obtain ⟨comp, k3, kc3, f1, -, f2, f3, f4⟩ := Cond.arrayOver_spec (hts _ zArr_over)
  have a3 : ArrOfT s k3 (.object zRealN) := fun N z => ⟨(fun _ h => by cases h), kc3, f2, comp, f3⟩
  have r3 : va_RA s k3 (.object zRealN) := ⟨kc3, comp, f2, f3, f1, f4⟩
  -- the tables
  have htab : ∀ (nm : String) (l : List Int32), (Jvm.Cond.arrayOf (.static "StackReal" nm "[I") .int) ∈ flatC (Jvm.Cond.and given_1 narrow_1) → (Jvm.Cond.eq (.length (.static "StackReal" nm "[I")) (.int 16)) ∈ flatC (Jvm.Cond.and given_1 narrow_1) → (∀ j, j < 16 → (Jvm.Cond.eq (.elem (.static "StackReal" nm "[I") (.int (Int32.ofNat j))) (.int (l.getD j 0))) ∈ flatC (Jvm.Cond.and given_1 narrow_1)) → Jvm.Cond.laysStatic "StackReal" nm "[I" ∈ lw_tbl →
      ∃ t : Nat, va_Z "StackReal" nm "[I" (.ref t) (fun q => s.heap.size ≤ q) s s.heap ∧ va_T .int t 16 (fun j => .int (l.getD j 0)) (fun q => s.heap.size ≤ q) s s.heap := by
    intro nm l h1 h2 h3 h4
    obtain ⟨t, e1, e2⟩ := va_Tof (f := fun j => .int (l.getD j 0)) (A := fun q => s.heap.size ≤ q) (by decide : 16 < 2 ^ 31) (hfl _ h1) (va_eqt (hfl _ h2)) (fun j hj => va_eqt (hfl _ (h3 j hj))) hA
    exact ⟨t, va_Zref (hts _ h4) (hW _ zIn_SR) e1 hA, e2⟩
  obtain ⟨tT, z1, t1⟩ := htab "TICKS" zA_TICKS zf_T1 zf_T2 zf_T3 zl_T
  obtain ⟨tN, z2, t2⟩ := htab "NEEDED" zA_NEEDED zf_N1 zf_N2 zf_N3 zl_N
  refine ⟨(fun ci => (hcls ci).choose, fun ci => (hcls ci).choose_spec.choose), (fun t => if t = 0 then k0 else if t = 1 then k1 else if t = 2 then k2 else k3), (fun k => if k = 1000 then b else if k = 1001 then tT else tN), rfl, hAO, hW, ⟨fun ci r hr => (hcls ci).choose_spec.choose_spec r hr, fun k q hk => ?_⟩, fun k N f hf => ?_, fun k C n d hk => ?_, fun q hq => hq, fun C n d hk => ?_, fun cn i tx hk => ?_⟩
  · match k, hk with
    | 0, hk => cases hk; exact ⟨a0, r0⟩
    | 1, hk => cases hk; exact ⟨a1, r1⟩
    | 2, hk => cases hk; exact ⟨a2, r2⟩
    | 3, hk => cases hk; exact ⟨a3, r3⟩
    | (n + 4), hk => simp [zTt] at hk
  · rw [zad_hi (zEx_hi hf)]
    unfold zEx zTab at hf
    split at hf
    · rename_i h9
      cases hf
      subst h9
      obtain ⟨scr, q1, q2, q3, q4, q5⟩ := hX
      exact ⟨scr, q1, q2, q3, by rw [q4]; exact Nat.le_refl _, by rw [q4], q5, hA _ hbl⟩
    · split at hf
      · rename_i h9
        cases hf
        subst h9
        exact t1
      · split at hf
        · rename_i h9
          cases hf
          subst h9
          exact t2
        · cases hf
  · rw [zad_hi (zStN_hi hk)]
    simp only [zStN, List.mem_cons, List.not_mem_nil, or_false, Prod.mk.injEq] at hk
    rcases hk with ⟨rfl, rfl, rfl, rfl⟩ | ⟨rfl, rfl, rfl, rfl⟩
    · exact z1
    · exact z2
  · simp only [zStQ, List.mem_cons, List.not_mem_nil, or_false, Prod.mk.injEq] at hk
    rcases hk with ⟨rfl, rfl, rfl⟩ | ⟨rfl, rfl, rfl⟩
    · exact vx_Zqof (hts _ zl_U) (hW _ zIn_Th) (hfl _ zf_U) hA
    · exact vx_Zqof (hts _ zl_S) (hW _ zIn_Th) (hfl _ zf_S) hA
  · obtain ⟨h1, h2⟩ := zStr_ok _ hk
    obtain ⟨a, _, _, _, q1, -⟩ := Cond.exactly_spec (hfl _ h2)
    exact ⟨a, vk_R.of (hts _ h1) q1⟩
set_option maxRecDepth 100000 in
set_option maxHeartbeats 4000000 in
/-- the law's walk, from the pure statement -/
theorem whole_open (hp : zPure) {p : Program} {e : Env} {s : State} {m : MethodId} {below : List Frame} {meth : Method} {c : Code} (l : Launch) (hflg : l.flags = flags0) {b L : Nat} {xs : Nat → Int32} (hL : L ≤ 2048) (htab : c.exceptionTable.toList = []) (C0 : lw_At p s m meth c b L xs) : W p l e room_1 s m #[Value.ref b] below meth c s.heap [] 0 0 (lw_Z below #[Value.ref b] s) (entryFrame m ([Value.ref b] : List Value).toArray 8) := by
  intro T hT X
  have htr : e.platform.stackTraces = false := Launch.traces_off hflg X.admits
  revert T
  show W p l e room_1 s m #[Value.ref b] below meth c s.heap [] 0 0 (lw_Z below #[Value.ref b] s) (entryFrame m ([Value.ref b] : List Value).toArray 8)
  obtain ⟨D, cA, ex, hex, hAO, hs⟩ := z_start C0
  obtain ⟨hx, hb, hret, hml, hown, hts, hX, hbl, hlk, hgv⟩ := C0
  have hm : zM m_law s m meth c := ⟨hown, hb, hml, hret, hlk, by rw [htab]; rfl⟩
  have hl := lv_entry ([.ref b]) (n := 8) (Nat.le_of_ble_eq_true rfl)
  rw [lg_entry_eq]
  generalize (lg_sl ([.ref b]) ++ List.replicate (8 - (lg_sl ([.ref b])).length) Slot.unset).toArray = ls at hl ⊢
  have hl : lv_has ls 8 (tl (zad ex []) [(0, .ref 1000)]) := by
    have e1 : tl (zad ex []) [(0, Value.ref 1000)] = [(0, .ref b)] := by
      show [(0, Value.ref (zad ex [] 1000))] = _
      rw [zad_hi (Nat.le_refl _), hex]
    rw [e1]
    exact hl
  refine simB (ex := ex) (D := D) (cA := cA) hx 2000 (some 23) 11 m_law 0 [(0, .ref 1000)] [] [] 40 600 zLv zH0 zBc zBs zLaw_run (al := []) (Or.inl rfl) hm (fun h => absurd h (by decide)) hAO hs ⟨fun k q hk => (by cases hk), ⟨fun i j p9 q hi => (by cases hi), fun k q hk => (by cases hk)⟩, va_S.rf⟩ rfl (fun k t N f hk => by cases hk) hl (by decide) (by decide) (by decide) (by decide) (fun al' ls' H' locs' pcE cells' slots' k1 k2 k3 k4 k5 k6 k7 k8 k9 => ?_)
  have hpc : pcE = 23 := by
    rcases k1 with k1 | k1
    · cases k1; rfl
    · cases k1.2
  subst hpc
  obtain ⟨h', k', n, hrun⟩ := hp L xs hL
  have hc : cells' ≤ 40 ∧ slots' ≤ 600 := by
    constructor <;> omega
  have hW := sim (ad := zad ex al') (cA := cA) (D := D) (l := l) hx htr n 11 m_law 23 zLv [] zH0 0 _ _ _ hrun (R := room_1) (c0 := cells') (s0 := slots') (Q := lw_Z below #[Value.ref b] s) (below := below) (Or.inl rfl) hm (zS_al hs) k4 k7 (by decide) (by decide) (by show cells' + 600 ≤ 658431; omega) (by show slots' + 6 * 600 ≤ 7120810; omega)
    (fun v hv pc1 n1 i1 ls1 st1 H1 locs1 g1 g2 g3 g4 => by
      cases hv
      have hst : i1 = .ireturn ∧ n1 = 1 ∧ st1 = [.int 1] := by
        unfold zret3 at g3
        split at g3
        · obtain rfl : n1 = 1 := by simpa [zok] using g2
          refine ⟨rfl, rfl, ?_⟩
          split at g3
          · split at g3
            · cases g3; rfl
            · split at g3
              · cases g3; rfl
              · cases g3
            · cases g3
          · cases g3
        · repeat' (split at g3)
          all_goals cases g3
        · repeat' (split at g3)
          all_goals cases g3
        · repeat' (split at g3)
          all_goals cases g3
        · cases g3
      obtain ⟨rfl, rfl, rfl⟩ := hst
      refine va_forget (fun q hq => g4.2.2.2.2 q hq) ?_
      refine W.widen (k := 658431) (n := 7120810) (by have h9 := zk_le hrun (Nat.zero_le _); have h8 : zKm m_law = 600 := rfl; omega) (by have h9 := zk_le hrun (Nat.zero_le _); have h8 : zKm m_law = 600 := rfl; omega) ?_
      exact lw_ret hx hb hret hlk g1)
    (fun x hx9 => by cases hx9)
  exact hW
set_option maxHeartbeats 4000000 in
theorem lw_walk (hp : zPure) (l : Launch) (hflg : l.flags = flags0) (b : Addr) (xs : List Int32) : MetFree l x (headSpec (Jvm.Cond.code x code maxLocals ret :: tables_1) room_1) (lw_P b xs) (fun _ _ _ _ _ => True) lw_Q := by
  refine MetFree.of_bodyS (code := code) (maxLocals := maxLocals) (ret := ret) (by decide) ?_ ?_
  · intro args s m h hn
    obtain ⟨meth, c, h1, h2, h3, h4, h5, h6, -, -⟩ := Cond.code_spec hn (atoms_spec (ws := Jvm.Cond.code x code maxLocals ret :: tables_1) h _ List.mem_cons_self)
    exact ⟨meth, c, h1, h2, h3, h4, h5, h6⟩
  · intro p e s m args below meth c s₁ B hml0 hP _
    obtain ⟨rfl, hx, hbd, hgv⟩ := hP
    obtain ⟨scr, harrAt, hlist, hof, hsmall⟩ := hx
    obtain ⟨hcb, hkn, -, -⟩ := State.arrayAt?_spec harrAt
    have hown : s.vm.findClass R_law = some m.cls := findClass_of_methodNamed B.named
    have hts0 : ∀ c ∈ (Jvm.Cond.code x code maxLocals ret :: tables_1), c.before #[Value.ref b] s = true := atoms_spec (ws := Jvm.Cond.code x code maxLocals ret :: tables_1) B.pre
    have hts : ∀ w ∈ lw_tbl, w.before #[Value.ref b] s = true := k2_hts_sels lw_privs (fun w hw => hts0 w (List.mem_cons_of_mem _ hw)) lw_privs_ok
    have hml : c.maxLocals = 8 := B.maxLocals_eq (hts0 _ List.mem_cons_self)
    obtain ⟨methK, cK, w1, w2, -, -, -, -, w7, -⟩ := Cond.code_spec B.named (hts0 _ List.mem_cons_self)
    have X₀' : Stand p l e room_1 s m #[Value.ref b] below meth c s₁ [] 0 0 := Stand.of_body B
    have htab : c.exceptionTable.toList = [] := by
      cases B.method.symm.trans w1
      cases X₀'.code.symm.trans w2
      have z0 : c.exceptionTable.size = 0 := by simpa [Array.isEmpty] using w7
      exact List.eq_nil_of_length_eq_zero (by simpa using z0)
    have X₀ : Stand p l e room_1 s m #[Value.ref b] below meth c s₁ [] 0 0 := Stand.of_body B
    have hh0 : s₁.heap = s.heap := by rw [B.state]; rfl
    have hsz : scr.slots.size = xs.length := by rw [← Array.length_toList, hlist, List.length_map]
    have hval : ∀ j : Nat, j < xs.length → scr.slots[j]? = some (.int (xs.getD j 0)) := fun j hj => by
      rw [← Array.getElem?_toList, hlist]
      simp [hj]
    have hbl : b < s.heap.size := (Array.getElem?_eq_some_iff.mp hcb).1
    have hX : va_X b xs.length (fun j => xs.getD j 0) s s.heap := ⟨scr, hcb, hof, hkn, hsz, hval⟩
    have K : W p l e room_1 s m #[Value.ref b] below meth c s₁.heap [] 0 0 (lw_Z below #[Value.ref b] s) (entryFrame m ([Value.ref b] : List Value).toArray 8) := by
      rw [hh0]
      exact whole_open hp l hflg hbd htab ⟨B.exec, B.bytes, B.returns, hml, hown, hts, hX, hbl, B.notSynchronized, hgv⟩
    obtain ⟨t, a1, o, b1, b2, b3⟩ := K s₁ rfl X₀
    exact ⟨t, o, a1, b1, b2, b3⟩
theorem lw_pre_spec {args : Array Value} {s : State} (h : (Jvm.Cond.and given_1 narrow_1).before args s = true) (hr : rest_1_c.before args s = true) : ∃ (b : Addr) (xs : List Int32), lw_P b xs args s := by
  have hs := flat_of_before _ h
  have hq := flat_of_before _ hr
  have hc : (Cond.count 1).before args s = true := hs _ (by decide +kernel)
  have harr : (Cond.arrayOf (.arg 0) .int).before args s = true := hs _ (by decide +kernel)
  have hle : (Cond.le (.length (.arg 0)) (.int 2048)).before args s = true := hs _ (by decide +kernel)
  have hlen : (Cond.isInt (.length (.arg 0))).before args s = true := hq _ (by decide +kernel)
  have hall : (Cond.all (.arg 0) (.isInt (.elem (.arg 0) (.index 0)))).before args s = true := hq _ (by decide +kernel)
  obtain ⟨b, xs, hb, hx⟩ := State.ints_of_pre rfl harr hlen hall
  have hsm : xs.length < 2 ^ 31 := hx.choose_spec.2.2.2
  have hev : (Term.length (.arg 0)).eval args s none [] s = some (.int xs.length.toInt32) := hx.length_eval hb
  have hv := Cond.le_ints hev (show (Term.int 2048).eval args s none [] s = some (.int 2048) from rfl)
  have hd : xs.length.toInt32 ≤ 2048 := by
    simpa [Cond.before, Cond.holds, hv] using hle
  have hN : xs.length ≤ 2048 := (Int32.ofNat_le_ofNat hsm (by decide)).mp (show Int32.ofNat xs.length ≤ Int32.ofNat 2048 from hd)
  exact ⟨b, xs, Cond.one_arg hc (show args[0]? = some (.ref b) from hb), hx, hN, h⟩
theorem lw_comes (hp : zPure) (l : Launch) (hflg : l.flags = flags0) : Comes l x (Jvm.Cond.code x code maxLocals ret :: tables_1) room_1 (fun tb e args s => Calls_1 tb e args s ∧ rest_1 tb e args s ∧ Pre_1 tb e args s)
    (fun _ _ args s o t => lw_Q args s o t) := by
  intro p e ha hc hk s m args below hf hfit hheap happ hpre
  obtain ⟨b, xs, hP⟩ := lw_pre_spec hpre.2.2 hpre.2.1
  obtain ⟨k, o, h1, h2, h3, hQ⟩ := lw_walk hp l hflg b xs p e ha hc hk s m args below hf ((Spec.applies_iff_loose hf).mp happ).1 hP trivial
  exact ⟨k, o, h1, h2, h3, hQ⟩
theorem lw_frame {s t : State} {o : Outcome} {args : Array Value} (h : Framed s o t [] 658431 7120810) :
    Framed s o t (fieldLocs frame_1_writes args s ++ arrayLocs frame_1_arrays args s ++ staticLocs frame_1_statics s) 658431 7120810 := h
theorem lw_limb (hp : zPure) (L : Cond) (hL : ∀ (args : Array Value) (s t : State), L.after args s (.returned (some (.int 1))) t = true) :
    ArmFor flags0 classFile x code maxLocals ret World_1 tables_1 room_1 Calls_1 rest_1 Pre_1
      (fun tb e a s o t => postC L tb e a s o t ∧ Framed s o t (fieldLocs frame_1_writes a s ++ arrayLocs frame_1_arrays a s ++ staticLocs frame_1_statics s) 658431 7120810) := by
  intro l hflg _ _ p e ha hc hk s m args below hf hfit hheap happ hpre
  obtain ⟨k, o, h1, h2, h3, rfl, hF⟩ := lw_comes hp l hflg p e ha hc hk s m args below hf hfit hheap happ hpre
  exact ⟨k, _, h1, h2, h3, hL args s _, lw_frame hF⟩
theorem i_vc_open (hp : zPure) : Claimed_1_1 ∧ Claimed_1_2 := ⟨lw_limb hp limb_1_1 (fun args s t => by simp [limb_1_1, Cond.after, Cond.holds, Cond.value]), lw_limb hp limb_1_2 (fun args s t => Cond.after_iff.mpr (by
  first | (rw [show limb_1_2 = Cond.eq .result (.int 1) from rfl, Cond.eq_ints (x := 1) (y := 1) rfl rfl]; simp; done) | (simp [limb_1_2, Cond.value, Term.eval]; done)))⟩
