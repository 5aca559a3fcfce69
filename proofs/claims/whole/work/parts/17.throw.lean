/-! Throws and catches -/
section ZT
variable {p : Program} {l : Launch} {e : Env} {R : Room} {s : State} {m : MethodId} {args : Array Value} {below : List Frame} {meth : Method} {c : Code} {T : State} {H : Heap} {locs : List Loc} {cells slots : Nat} {Q : State → Prop}
variable {pc : Nat} {ls : Array Slot} {D : va_G} {ad : Nat → Nat} {cA : Nat → ClassId} {A : Nat → Prop} {L : Nat} {xs : Nat → Int32}
theorem z_same {U B : State} {F : List Frame} {lc : List Loc} {k n : Nat} (h : (U.setFrames F).sameButNew B lc k n) : U.sameButNew B lc k n := by
  obtain ⟨h1, h2⟩ := h
  rw [State.setFrames_setFrames] at h1
  exact ⟨h1, h2⟩
/-- the point at which a walk stands, as if the method began there -/
theorem z_rebase (X : Stand p l e R s m args below meth c T locs cells slots) (h1 : cells ≤ R.cells) (h2 : slots ≤ R.slots) :
    Stand p l e { R with cells := R.cells - cells, slots := R.slots - slots } (T.setFrames (.invoking m args :: below)) m args below meth c T [] 0 0 := by
  obtain ⟨g₀, hfr⟩ := X.frames_eq
  have hcur : T.cur < T.threads.size := State.cur_lt_of_frames hfr
  obtain ⟨th, hth, -⟩ := State.frames_cons hfr
  have hF : (T.setFrames (.invoking m args :: below)).frames = .invoking m args :: below := State.frames_setFrames _ hcur
  have hal := X.warmed.alike
  have hcode : ∀ x : MethodId, (T.setFrames (.invoking m args :: below)).code? x = s.code? x := by
    intro x
    rw [State.code?_eq, State.code?_eq]
    show (T.vm.method? x).bind _ = (s.vm.method? x).bind _
    rw [hal.method?]
  have hmeth : (T.setFrames (.invoking m args :: below)).vm.method? m = s.vm.method? m := by
    show T.vm.method? m = s.vm.method? m
    rw [hal.method?]
  have hlim : e.platform.stackLimits (T.setFrames (.invoking m args :: below)).me = e.platform.stackLimits s.me := by rw [State.stackLimits_setFrames]; exact X.limits
  have hbyt : (T.setFrames (.invoking m args :: below)).me.stackBytes = s.me.stackBytes := by rw [State.stackBytes_setFrames]; exact X.bytes
  obtain ⟨q1, q2⟩ := X.heapHas (a := R.cells - cells) (b := R.slots - slots) (by omega) (by omega)
  have hself : (T.setFrames (.invoking m args :: below)).setFrames T.frames = T := by rw [State.setFrames_setFrames, State.setFrames_self hth]
  have hth2 : ∃ th2, (T.setFrames (.invoking m args :: below)).threads[(T.setFrames (.invoking m args :: below)).cur]? = some th2 := by
    obtain ⟨t2, h, -⟩ := State.frames_cons hF
    exact ⟨t2, h⟩
  obtain ⟨th2, hth2⟩ := hth2
  refine ⟨X.admits, X.cas, X.clock, hF, ?_, ?_, hmeth.trans X.method, X.code, X.here, X.tail, State.WarmedH.refl _, by rw [State.stackLimits_setFrames], by rw [State.stackBytes_setFrames], ?_⟩
  · have hr := X.room
    simp only [State.hasRoom, Bool.and_eq_true, decide_eq_true_eq] at hr ⊢
    rw [State.localsInUse_invoking X.frames X.method X.code, X.frames] at hr
    rw [State.localsInUse_invoking hF (hmeth.trans X.method) X.code, hF, hlim, hbyt]
    exact ⟨⟨⟨⟨hr.1.1.1.1, hr.1.1.1.2⟩, q1⟩, q2⟩, X.book⟩
  · have hh := X.hears
    unfold State.hears at hh ⊢
    split
    · rename_i g r
      simp only [] at hh
      rw [hcode]
      exact hh
    · rfl
    · rfl
    · rename_i h1 h2 h3
      rw [hmeth]
      split at hh
      · exact absurd rfl (h1 _ _)
      · exact absurd rfl (h2 _ _)
      · exact absurd rfl (h3 _ _)
      · exact hh
  · have h := (State.sameButNew.refl (T.setFrames (.invoking m args :: below)) hth2).setFrames T.frames (State.cur_lt_of_frames hF)
    rw [hself] at h
    exact h
theorem z_static {C n d : String} {v : Value} (h : va_Z C n d v A s s.heap) : (Term.static C n d).eval args s none [] s = some v := by
  obtain ⟨cf, kf, fi, f, a, cell, hi, hst, -, ha, hcell, hs, hv, -⟩ := h
  simp [Term.eval, State.fieldNamed?, hi, hst, ha, hcell, hs, hv]
theorem z_isRef {C n d : String} (h : va_Zq C n d A s s.heap) : (Jvm.Cond.isRef (.static C n d)).before args s = true := by
  rcases h with h | ⟨t, h⟩
  · simp [Cond.before, Cond.holds, Cond.value, z_static (args := args) h]
  · simp [Cond.before, Cond.holds, Cond.value, z_static (args := args) h]
/-- 'throw new X("..")', from 'new' to the method's end -/
theorem z_throw {mi : ZM} {x : Nat} {h : zH} (hmi : mi ∈ zAll) (hx : p.tables.exec = Jvm.exec) (htr : e.platform.stackTraces = false) (hm : zM mi s m meth c) (hs : zS D ad cA A L xs s args) (ht : zThr mi pc = some x) (hI : zI D ad cA A s h H locs) (hls : ls.size = zMl mi)
    (hRf : 6 ≤ R.frames) (hRl : 90 ≤ R.locals) (hRc : cells + 1 ≤ R.cells) (hRs : slots + 6 ≤ R.slots)
    (kt : ∀ (U : State) (a : Nat) (ce : Cell), U.status = .running → Ended U below (.threw a) → s.WarmedH U.vm → s.sameButNew ({ U with vm := s.vm } : State) locs (cells + 1) (slots + 6) → zI D ad cA A s h U.heap locs → U.heap[a]? = some ce → ce.vm = .none → s.vm.findClass (zXn x) = some ce.cls → Q U) :
    W p l e R s m args below meth c H locs cells slots Q (F0 m pc ls []) := by
  obtain ⟨hown, hb, hml, -, hlk, hhs⟩ := hm
  obtain ⟨h0, ia, ib, ic, tx, hd0, hd3, hd4, hd6, hd9, hw1, hw2, hw3, hstr, hfit, hnames, hlen, hat⟩ := zThr_ok hmi ht
  intro T hT X
  subst hT
  have X₂ := z_rebase X (Nat.le_trans (Nat.le_succ _) hRc) (by omega)
  obtain ⟨hs2, hI2, hsub⟩ := zS_into (s' := T.setFrames (.invoking m args :: below)) (a' := args) hs hI X.warmed rfl
  obtain ⟨hts2, -, -, -, -, hZq2, hStr2⟩ := hs2
  have hown2 : (T.setFrames (.invoking m args :: below)).vm.findClass (zCn (zCno mi)) = some m.cls := by
    show T.vm.findClass _ = _
    rw [X.warmed.alike.findClass]
    exact hown
  obtain ⟨q, hq⟩ := hStr2 _ _ _ hstr
  have hout : ∀ y ∈ c.exceptionTable.toList, covers y (pc + 3 + 1 + 2 + 3) = false := by
    rw [h0] at hhs
    have e1 : c.exceptionTable.toList = [] := List.map_eq_nil_iff.mp hhs
    rw [e1]
    intro y hy
    cases hy
  have key : W p l e { R with cells := R.cells - cells, slots := R.slots - slots } (T.setFrames (.invoking m args :: below)) m args below meth c T.heap [] 0 0
      (fun U => U.status = .running ∧ ∃ a ce, Ended U below (.threw a) ∧ T.WarmedH U.vm ∧ (T.setFrames (.invoking m args :: below)).sameButNew ({ U with vm := T.vm } : State) [] 1 6 ∧ U.heap[a]? = some ce ∧ ce.vm = .none ∧ T.vm.findClass (zXn x) = some ce.cls) (F0 m pc ls []) := by
    refine W.newc hx hb hown2 (hts2 _ hw1) (hts2 _ hw2) (hts2 _ hw3) rfl hd0 (show 0 + 1 ≤ R.cells - cells by omega) (show 0 + 6 ≤ R.slots - slots by omega) (fun cC kC f1 f2 f3 f4 => ?_)
    refine W.eq (g2 := F0 m (pc + 3) ls [.ref T.heap.size]) rfl ?_
    refine lv_dup hx hb hd3 rfl ?_
    refine va_ldcS hx hb hown2 hq hd4 ?_
    intro T3 hT3 X3
    obtain ⟨U, st, run, en, wa, sa, ce, hce, ow⟩ := X3.ctorThrowS hx htr (own := zCn (zCno mi)) (cls := zXn x) (names := zXs x) (ic := ic) hown2 hfit hnames
      (fun w hw => by
        rcases hat w hw with h | ⟨C, n, d, rfl, h⟩ | ⟨C, n, d, rfl, h⟩
        · exact hts2 w h
        · exact z_isRef (hZq2 C n d h).1
        · exact (hZq2 C n d h).2.word)
      (fun y hy => by cases hy) (a := T.heap.size) f1 f2 (by rw [hT3]; exact Array.getElem?_push_size) (Nat.le_refl _) (msg := .ref q) rfl
      (g := F0 m (pc + 3 + 1 + 2) ls [.ref q, .ref T.heap.size, .ref T.heap.size]) rfl (hls.trans hml.symm) rfl rfl (rest := []) rfl (by rw [hb]; exact hd6) (by rw [hb]; exact hd9) hout
      (show (zXs x).length + 3 < R.frames by omega) (show 2 * 0 + (1 + 0) + (13 * ((zXs x).length + 1) + 42) ≤ R.locals by omega) hlk
    exact ⟨U, st, run, T.heap.size, ce, en, wa, sa, hce, ow.vm, ow.cls⟩
  obtain ⟨U, st, run, a, ce, en, wa, sa, hce, hvm, hcl⟩ := key T rfl X₂
  refine ⟨U, st, kt U a ce run en (State.WarmedH.trans X.warmed wa) ?_ ?_ hce hvm ?_⟩
  · have h1 := X.same.trans ((z_same sa).setVm s.vm)
    rw [List.append_nil] at h1
    exact h1
  · have hk : ∀ q, q < T.heap.size → U.heap[q]? = T.heap[q]? := by
      intro q hq'
      obtain ⟨cq, hcq⟩ : ∃ cq, T.heap[q]? = some cq := ⟨_, Array.getElem?_eq_getElem hq'⟩
      rw [hcq]
      exact State.sameButNew.old_cell sa hcq
    refine ⟨hI.1.kept (fun k y hy => hk _ (hI.1 k y hy).lt), hI.2.1, Nat.le_trans hI.2.2.1 sa.2.1, fun y h1 h2 => ?_, hI.2.2.2.2⟩
    rw [hk y (Nat.lt_of_lt_of_le h1 hI.2.2.1)]
    exact hI.2.2.2.1 y h1 h2
  · rw [← X.warmed.alike.findClass]
    exact hcl
/-! the search for a handler, its classes linked or not yet -/
def zFinds (e : Env) (u : State) (f : JFrame) (a : Addr) (h : Handler) (vm' : Vm) : Prop :=
  ∀ (Q : Handler → Pre) (E : CtlPost) (d : Bool) (acts : List Action), wp (findHandler f a) Q E e d acts u ↔ Q h d acts (u.setVm vm')
theorem z_goLink {Q : Handler → Pre} {E : CtlPost} {d : Bool} {acts : List Action} {u : State} {f : JFrame} {a : Addr} {x : ExceptionTableEntry} {t : List ExceptionTableEntry} {k : ClassId} {cell : Cell} (hx : covers x f.pc = true) (h0 : x.catchType ≠ 0)
    (hl : u.vm.ClassLinks e.platform f.method.cls x.catchType k) (hcell : u.heap[a]? = some cell) (hobj : ∀ k, cell.vm ≠ .statics k) (hk : ∃ k, u.vm.classes[cell.cls]? = some k) (hc : ∃ k', u.vm.classes[k]? = some k') :
    wp (findHandler.go f a (x :: t)) Q E e d acts u ↔ (if u.vm.assignable cell.cls k = true then Q (.found x.handlerPc) d acts (u.setVm (u.vm.noted f.method.cls x.catchType (.cls k))) else wp (findHandler.go f a t) Q E e d acts (u.setVm (u.vm.noted f.method.cls x.catchType (.cls k)))) := by
  simp only [covers] at hx
  obtain ⟨ha, ht⟩ := (resolveClass_links e.toSetting hl).op (op := VmOp.resolveClass f.method.cls x.catchType) rfl
  have hal : u.vm.Alike (u.vm.noted f.method.cls x.catchType (.cls k)) := (Vm.Alike.refl u.vm).noted _ _ _
  obtain ⟨k1, hk1⟩ := hk
  obtain ⟨k2, hk2⟩ := hc
  obtain ⟨k1', hk1', -⟩ := hal.2.2 _ _ hk1
  obtain ⟨k2', hk2', -⟩ := hal.2.2 _ _ hk2
  cases hfit : u.vm.assignable cell.cls k
  · have hfit' : (u.vm.noted f.method.cls x.catchType (.cls k)).assignable cell.cls k = false := by rw [hal.assignable]; exact hfit
    simp [findHandler.go, hx, h0, ha, ht, hcell, hobj, hk1', hk2', hfit', VmOp.dirties, VmOp.acts]
  · have hfit' : (u.vm.noted f.method.cls x.catchType (.cls k)).assignable cell.cls k = true := by rw [hal.assignable]; exact hfit
    simp [findHandler.go, hx, h0, ha, ht, hcell, hobj, hk1', hk2', hfit', VmOp.dirties, VmOp.acts]
/-- a table's row and an object's class: it lies outside; or it takes it ('true') or not -/
def zRow (pl : Platform) (s₀ : State) (d : ClassId) (thrown : ClassId) (x : ExceptionTableEntry) (b : Bool) : Prop :=
  x.catchType ≠ 0 ∧ ∃ k, s₀.vm.ClassLinks pl d x.catchType k ∧ s₀.vm.assignable thrown k = b
theorem z_go {s₀ : State} {f : JFrame} {a : Addr} {cell : Cell} (hobj : ∀ k, cell.vm ≠ .statics k) (hk0 : ∃ k, s₀.vm.classes[cell.cls]? = some k) (x : ExceptionTableEntry) (rest : List ExceptionTableEntry) (hx : covers x f.pc = true) (hend : zRow e.platform s₀ f.method.cls cell.cls x true) :
    ∀ (pre : List ExceptionTableEntry) (u : State), s₀.WarmedH u.vm → u.heap[a]? = some cell → (∀ y ∈ pre, covers y f.pc = false ∨ zRow e.platform s₀ f.method.cls cell.cls y false) →
      ∃ vm', s₀.WarmedH vm' ∧ ∀ (Q : Handler → Pre) (E : CtlPost) (d : Bool) (acts : List Action), wp (findHandler.go f a (pre ++ x :: rest)) Q E e d acts u ↔ Q (.found x.handlerPc) d acts (u.setVm vm') := by
  obtain ⟨k0, hk0⟩ := hk0
  intro pre
  induction pre with
  | nil =>
    intro u hW hcell _
    obtain ⟨k0', hk0', -⟩ := hW.alike.2.2 _ _ hk0
    obtain ⟨h0, k, hl, hfit⟩ := hend
    obtain ⟨dk, _, _, kt, hd, _, _, _, _, hkt, _, hopen⟩ := hl.here
    obtain ⟨kt', hkt', -⟩ := hW.alike.2.2 _ _ hkt
    refine ⟨_, hW.noted hd hopen (State.rightAt_cls hl), fun Q E d acts => ?_⟩
    rw [List.nil_append, z_goLink hx h0 (hW.classLinks hl) hcell hobj ⟨k0', hk0'⟩ ⟨kt', hkt'⟩, if_pos (by rw [hW.alike.assignable]; exact hfit)]
  | cons y ys ih =>
    intro u hW hcell hpass
    obtain ⟨k0', hk0', -⟩ := hW.alike.2.2 _ _ hk0
    have hrest : ∀ z ∈ ys, covers z f.pc = false ∨ zRow e.platform s₀ f.method.cls cell.cls z false := fun z hz => hpass z (List.mem_cons_of_mem _ hz)
    by_cases hcov : covers y f.pc = true
    · rcases hpass y List.mem_cons_self with h | ⟨h0, k, hl, hno⟩
      · rw [h] at hcov; cases hcov
      · obtain ⟨dk, _, _, kt, hd, _, _, _, _, hkt, _, hopen⟩ := hl.here
        obtain ⟨kt', hkt', -⟩ := hW.alike.2.2 _ _ hkt
        obtain ⟨vm', hW', hq⟩ := ih (u.setVm (u.vm.noted f.method.cls y.catchType (.cls k))) (hW.noted hd hopen (State.rightAt_cls hl)) hcell hrest
        refine ⟨vm', hW', fun Q E d acts => ?_⟩
        rw [List.cons_append, z_goLink hcov h0 (hW.classLinks hl) hcell hobj ⟨k0', hk0'⟩ ⟨kt', hkt'⟩, if_neg (by rw [hW.alike.assignable, hno]; decide)]
        exact hq Q E d acts
    · obtain ⟨vm', hW', hq⟩ := ih u hW hcell hrest
      refine ⟨vm', hW', fun Q E d acts => ?_⟩
      rw [List.cons_append, W.findHandler_go_skip (by simpa using hcov)]
      exact hq Q E d acts
theorem z_stepCatch {u : State} {a : Addr} {f : JFrame} {r : List Frame} {hp : Nat} {vm' : Vm} (hfind : zFinds e u f a (.found hp) vm') :
    (stepThrowing e u a (.java f :: r)).Is ((u.setVm vm').setFrames (.java { f with pc := hp, stack := [.ref a] } :: r)) [] := by
  simp only [stepThrowing, searchFrame, vmDo]
  generalize hr : Sem.go _ e false [] u = res
  obtain ⟨as, rfl, ha⟩ := Sem.eq_ok_of hr (a := Handler.found hp) (s' := u.setVm vm') (acts' := []) (by simp [hfind _ _ _ _])
  exact ⟨rfl, ha⟩
theorem z_framesVm (u : State) (vm' : Vm) (F G : List Frame) : ((u.setFrames F).setVm vm').setFrames G = (u.setVm vm').setFrames G := by
  have h1 : (u.setFrames F).setVm vm' = (u.setVm vm').setFrames F := rfl
  rw [h1, State.setFrames_setFrames]
theorem z_caught {tb : Tables} {u target : State} {g : JFrame} {a : Addr} (h : At u g.method c below) {hp : Nat} {vm' : Vm}
    (hfind : zFinds e ((u.setTop g).pushFrame (.throwing a)) g a (.found hp) vm') (hrest : Steps tb e below ((u.setVm vm').setTop { g with pc := hp, stack := [.ref a] }) target) :
    Steps tb e below ((u.setTop g).pushFrame (.throwing a)) target := by
  obtain ⟨hgo, hw⟩ := h.throwing a
  refine Steps.head hgo hw ?_
  rw [stepThread_throwing (frames_entered h.top _), (z_stepCatch (u := (u.setTop g).pushFrame (.throwing a)) hfind).1]
  obtain ⟨g₀, hg⟩ := Option.isSome_iff_exists.mp h.top
  obtain ⟨r, hr⟩ := State.topJava?_eq_some.mp hg
  have hr' : (u.setVm vm').frames = .java g₀ :: r := hr
  rw [State.setTop_of_frames _ hr'] at hrest
  rw [hr, List.tail_cons, State.pushFrame, z_framesVm, State.setTop_of_frames _ hr, z_framesVm]
  exact hrest
/-- an exception of kind x, thrown by a callee, comes to the handler that zHan names -/
theorem z_catch {mi : ZM} {x hp a : Nat} {ce : Cell} (hmi : mi ∈ zAll) (X : Stand p l e R s m args below meth c T locs cells slots) (hm : zM mi s m meth c) (hts : ∀ w ∈ zWs, w.before args s = true) (hh : zHan mi pc x = some hp)
    (hce : T.heap[a]? = some ce) (hvm : ce.vm = .none) (hcl : s.vm.findClass (zXn x) = some ce.cls) {st : List Value} :
    ∃ vm', Stand p l e R s m args below meth c (T.setVm vm') locs cells slots ∧
      ∀ target, Steps p.tables e below ((T.setVm vm').setTop (F0 m hp ls [.ref a])) target → Steps p.tables e below ((T.setTop (F0 m pc ls st)).pushFrame (.throwing a)) target := by
  obtain ⟨hown, hb, hml, -, hlk, hhs⟩ := hm
  have hpl : e.platform.magicAccessors = ({} : Platform).magicAccessors := by rw [X.admits.platform]
  obtain ⟨pre, q, post, hz, hq1, hq2, hpass⟩ := zHan_ok hmi hh
  rw [hz] at hhs
  obtain ⟨pre', rest', e1, e2, e3⟩ := List.map_eq_append_iff.mp hhs
  obtain ⟨y, post', rfl, e4, e5⟩ := List.map_eq_cons_iff.mp e3
  have row : ∀ (b : Bool) (z : ExceptionTableEntry) (k : Nat), z.catchType ≠ 0 → Jvm.Cond.classLink (zCn (zCno mi)) z.catchType (zXn k) ∈ zWs → (if b then Jvm.Cond.castable (zXn x) (zXn k) ∈ zWs else Jvm.Cond.not (.castable (zXn x) (zXn k)) ∈ zWs) → zRow e.platform s m.cls ce.cls z b := by
    intro b z k h0 hlink hcast
    obtain ⟨c', hc', hlc⟩ := Cond.classLink_spec hown (hts _ hlink) e.platform hpl
    refine ⟨h0, c', hlc, ?_⟩
    cases b with
    | true =>
      have hv := hts _ (by simpa using hcast)
      simp only [Cond.before, Cond.holds, Cond.value, hcl, hc'] at hv
      simpa using hv
    | false =>
      have hv := Cond.holds_not_iff.mp (hts _ (by simpa using hcast))
      simp only [Cond.value, hcl, hc'] at hv
      exact Option.some.inj hv
  have hk0 : ∃ k, s.vm.classes[ce.cls]? = some k := Vm.classAt_of_findClass hcl
  have hy1 : y.catchType = q.2.2.2 := by rw [← e4]
  have hy2 : y.handlerPc = hp := by rw [← hq1, ← e4]
  obtain ⟨hcov, hct, hlink, hcast⟩ := hq2
  obtain ⟨vm', hW', hf⟩ := z_go (e := e) (s₀ := s) (f := F0 m pc ls st) (a := a) (cell := ce) (fun k hk => by rw [hvm] at hk; cases hk) hk0 y post' (by rw [← e4] at hcov; simpa [covers] using hcov)
    (row true y x (by rw [hy1]; exact hct) (by rw [hy1]; exact hlink) (by simpa using hcast)) pre' ((T.setTop (F0 m pc ls st)).pushFrame (.throwing a)) X.warmed hce (fun z hz' => by
      have hzm : (z.startPc, z.endPc, z.handlerPc, z.catchType) ∈ pre := by rw [← e2]; exact List.mem_map.mpr ⟨z, hz', rfl⟩
      rcases hpass _ hzm with h | ⟨h0, k, h1, h2⟩
      · left
        simpa [covers] using h
      · exact Or.inr (row false z k h0 h1 (by simpa using h2)))
  refine ⟨vm', X.noted hW', fun target hrest => ?_⟩
  refine z_caught (g := F0 m pc ls st) X.here (hp := hp) (vm' := vm') ?_ hrest
  intro Q E d acts
  rw [W.findHandler_eq (meth := meth) (code := c) X.method' X.code, e1, ← hy2]
  exact hf Q E d acts
end ZT
