/-! The simulation of runs that make objects -/
section ZB
variable {p : Program} {l : Launch} {e : Env} {R : Room} {s : State} {m : MethodId} {args : Array Value} {below : List Frame} {meth : Method} {c : Code} {T : State} {H : Heap} {locs : List Loc} {cells slots : Nat} {Q : State → Prop}
variable {pc : Nat} {ls : Array Slot} {D : va_G} {cA : Nat → ClassId} {A : Nat → Prop} {L : Nat} {xs : Nat → Int32} {ex : Nat → Nat} {al al' : List Nat}
theorem zEx_hi {k N : Nat} {f : Nat → Int32} (h : zEx L xs k = some (N, f)) : 1000 ≤ k := by
  unfold zEx zTab at h
  split at h
  · omega
  · split at h
    · omega
    · split at h
      · omega
      · cases h
theorem zStN_hi {k : Nat} {C n d : String} (h : (k, C, n, d) ∈ zStN) : 1000 ≤ k := by
  simp only [zStN, List.mem_cons, List.not_mem_nil, or_false, Prod.mk.injEq] at h
  rcases h with h | h <;> omega
theorem zad_hi {k : Nat} (h : 1000 ≤ k) : zad ex al k = ex k := by
  unfold zad
  rw [if_neg (by omega)]
theorem zS_al (h : zS D (zad ex al) cA A L xs s args) : zS D (zad ex al') cA A L xs s args := by
  obtain ⟨h1, h2, h3, h4, h5⟩ := h
  refine ⟨h1, h2, fun k N f hf => ?_, fun k C n d hk => ?_, h5⟩
  · rw [zad_hi (zEx_hi hf)]
    have := h3 k N f hf
    rwa [zad_hi (zEx_hi hf)] at this
  · rw [zad_hi (zStN_hi hk)]
    have := h4 k C n d hk
    rwa [zad_hi (zStN_hi hk)] at this
theorem zI_back2 {ad ad' : Nat → Nat} {h h1 : zH} {s' : State} {H1 : Heap} {L1 : List Loc} (hI : zI D ad cA A s h H locs) (hH : s'.heap = H) (hsub : ∀ q, va_A (wd ad cA h) H.size q → A q) (hJ : zI D ad' cA (va_A (wd ad cA h) H.size) s' h1 H1 L1) : zI D ad' cA A s h1 H1 (locs ++ L1) := by
  obtain ⟨hP, hD, hS⟩ := hI
  obtain ⟨jP, jD, jS⟩ := hJ
  rw [hH] at jS
  refine ⟨jP, jD.weaken (fun k q _ hq => hsub _ hq), Nat.le_trans hS.1 jS.1, fun q h1 h2 => ?_, fun q hq => ?_⟩
  · rw [jS.2.1 q (Nat.lt_of_lt_of_le h1 hS.1) (fun z => h2 (hsub q z))]
    exact hS.2.1 q h1 h2
  · rcases List.mem_append.mp hq with h | h
    · exact hS.2.2 q h
    · exact hsub _ (jS.2.2 q h)
theorem zRef_fits {ci j y : Nat} (h : zRef ci j = true) : narrow (zTyp ci j) (.ref y) = .ref y ∧ fits (zTyp ci j) (.ref y) = true := by
  unfold zRef at h
  generalize zTyp ci j = ty at h ⊢
  split at h
  · exact ⟨rfl, rfl⟩
  · exact ⟨rfl, rfl⟩
  · cases h
theorem zCl_decl {ci : Nat} {r : vw_C} (h : zCl[ci]? = some r) : ∀ j, j < r.2.2 → (r.2.1 j).1 = r.1 := by
  match ci, h with
  | 0, h => cases h; decide +kernel
  | 1, h => cases h; decide +kernel
  | 2, h => cases h; decide +kernel
  | 3, h => cases h; decide +kernel
  | 4, h => cases h; decide +kernel
  | 5, h => cases h; decide +kernel
  | 6, h => cases h; decide +kernel
  | 7, h => cases h; decide +kernel
  | (n + 8), h => simp at h
theorem z_cA {ty : FieldType} {c1 c2 : ClassId} (h3 : ty = .int ∨ ty = .long ∨ ty = .boolean) (h1 : va_RA s c1 ty) (h2 : va_RA s c2 ty) : c1 = c2 := by
  rcases h3 with rfl | rfl | rfl <;> exact Option.some.inj (Eq.trans (Eq.symm h1) h2)
theorem z_cAo {C : String} {c1 c2 : ClassId} (h1 : va_RA s c1 (.object C)) (h2 : va_RA s c2 (.object C)) : c1 = c2 := by
  obtain ⟨_, _, _, _, _, q1⟩ := h1
  obtain ⟨_, _, _, _, _, q2⟩ := h2
  exact Option.some.inj (q1.symm.trans q2)
theorem zArT_ok {t : ArrayType} {tn : Nat} {ty : FieldType} {x0 : (Nat → Int32) ⊕ (Nat → Int64) ⊕ (Nat → UInt32) ⊕ (Nat → UInt64) ⊕ (Nat → Option Nat)} (h : zArT t = some (tn, ty, x0)) :
    newarray.typeOf t = ty ∧ (ty = .int ∨ ty = .long ∨ ty = .boolean) ∧ Jvm.Cond.arrayClass ty ∈ zWs ∧ (∀ (N : Nat) (k : ClassId), vp_cell k (N, x0) = arrV k N (fun _ => defaultValue ty)) ∧ componentBytes ty ≤ 8 ∧ (∀ k : Nat → ClassId, (zTt k)[tn]? = some (k tn, ty)) ∧ (∀ (ad : Nat → Nat) (N : Nat), tA ad (N, x0) = (N, x0)) ∧ (∀ f, x0 ≠ .inr (.inr (.inr (.inr f)))) := by
  unfold zArT at h
  split at h <;> cases h
  · exact ⟨rfl, Or.inl rfl, zArr_int, fun _ _ => rfl, by decide, fun _ => rfl, fun _ _ => rfl, fun _ h => by cases h⟩
  · exact ⟨rfl, Or.inr (Or.inl rfl), zArr_long, fun _ _ => rfl, by decide, fun _ => rfl, fun _ _ => rfl, fun _ h => by cases h⟩
  · exact ⟨rfl, Or.inr (Or.inr rfl), zArr_boolean, fun _ _ => rfl, by decide, fun _ => rfl, fun _ _ => rfl, fun _ h => by cases h⟩
theorem z_new_st {q : Nat} {h : zH} {st : List Value} (hal : al.length = h.length) (h9 : h.length < 900) (hst : st.all (zwV al.length) = true) : (Value.ref h.length :: st).map (tv (zad ex (al ++ [q]))) = .ref q :: st.map (tv (zad ex al)) := by
  rw [List.map_cons, map_pre (zPre.push _ _) hst]
  congr 1
  show Value.ref (zad ex (al ++ [q]) h.length) = _
  unfold zad
  rw [if_pos (by omega), ← hal, List.getD_eq_getElem?_getD, List.getElem?_append_right (Nat.le_refl _), Nat.sub_self]
  rfl
/-- an instruction that makes an object, or puts a reference into a final field, or calls Object() -/
theorem simM {mi : ZM} {d n w bc bs bc' bs' : Nat} {i : Instr} {lv : zL} {st st' : List Value} {h h' : zH} (hx : p.tables.exec = Jvm.exec) (hm : zM mi s m meth c) (hd : decode (zCode mi) pc = .ok (i, n)) (hml : ls.size = zMl mi)
    (hnm : (zNm mi).name = "<init>" → meth.name = "<init>") (hAO : va_AO zRealN s) (hs : zS D (zad ex al) cA A L xs s args) (hI : zI D (zad ex al) cA A s h H locs) (hal : al.length = h.length) (hwA : zwA h)
    (hk : zmk (decide ((zNm mi).name = "<init>")) d (zCno mi) i lv st h bc bs = some (w, st', h', bc', bs')) (hRf : d ≤ R.frames) (hRl : 30 * d + 90 ≤ R.locals) (hRc : cells + bc ≤ R.cells) (hRs : slots + bs ≤ R.slots) (hlen : n = w)
    (k : ∀ (al' : List Nat) (H' : Heap) (locs' : List Loc) (cells' slots' : Nat), zPre al al' → al.length ≤ al'.length → zI D (zad ex al') cA A s h' H' locs' → al'.length = h'.length → zwA h' → tl (zad ex al') lv = tl (zad ex al) lv → cells' + bc' = cells + bc → slots' + bs' = slots + bs → W p l e R s m args below meth c H' locs' cells' slots' Q (F0 m (pc + w) ls (st'.map (tv (zad ex al'))))) :
    W p l e R s m args below meth c H locs cells slots Q (F0 m pc ls (st.map (tv (zad ex al)))) := by
  subst hlen
  obtain ⟨hown, hb, hmx, -, -, -⟩ := hm
  obtain ⟨hts, hK, -, -, hA, -, -⟩ := id hs
  obtain ⟨hP, hD, hS⟩ := id hI
  unfold zmk at hk
  split at hk
  · -- a final field
    split at hk
    · rename_i ci j hv
      split at hk
      · rename_i y q r
        split at hk
        · rename_i cj fs hq
          split at hk
          · rename_i hc
            obtain ⟨hc, hcn, hj, hfin, href, hini⟩ := hc
            subst hc
            subst hcn
            cases hk
            obtain ⟨C, T9, N, h1, h3, h4⟩ := zFlI_ok hv
            have he := wd_get (ad := zad ex al) (cA := cA) hq
            obtain ⟨hn9, hf9⟩ := zRef_fits (y := zad ex al y) href
            have hw : (wd (zad ex al) cA h).set q (zad ex al q, .inr (zCno mi, (fs.map (tv (zad ex al))).set j (.ref (zad ex al y)))) = wd (zad ex al) cA (h.set q (.inr (zCno mi, fs.set j (.ref y)))) := by
              rw [← wd_set, show (fs.map (tv (zad ex al))).set j (.ref (zad ex al y)) = (fs.set j (.ref y)).map (tv (zad ex al)) from by rw [List.map_set]; rfl]
              rfl
            refine va_putF hx hb hts (zCl_ok h1).1 (zTyp (zCno mi)) (zCl_ok h1).2.1 (zCl_ok h1).2.2.1 hown hK hP hD hS q he h1 j h3 (hts _ h4) (fun _ z => z) (((zCl_ok h1).2.2.2 j h3).symm.trans hfin) (hnm (by simpa using hini)) ((zCl_decl h1 j h3).trans (zCl_nm h1)) ((zCl_ok h1).2.1 j h3) hn9 hf9 (by rw [List.length_map]; exact hj) hd (fun H1 locs1 hP1 hD1 hS1 => ?_)
            exact k al H1 locs1 cells slots (zPre.refl _) (Nat.le_refl _) ⟨by rw [← hw]; exact hP1, by rw [← hw]; exact hD1, hS1⟩ (by rw [List.length_set]; exact hal) (zwA_set hwA) rfl rfl rfl
          · cases hk
        · cases hk
      · cases hk
    · cases hk
  · -- new
    split at hk
    · rename_i ci hv
      split at hk
      · rename_i hc
        obtain ⟨hc1, hc2, hc3, hc4, hc5⟩ := hc
        cases hk
        obtain ⟨T9, N, h1, g1, g2, g3⟩ := zNew_ok hv
        obtain ⟨hdl, hdf⟩ := zDef_ok h1
        replace hdl : (zDef ci).length = N := hdl
        unfold zwF at hc3
        rw [Bool.and_eq_true] at hc3
        rw [← hal] at hc3 hc4
        refine va_new hx hb hts (zCl_ok h1).1 (zTyp ci) (zCl_ok h1).2.1 hown (hts _ g1) (hts _ g2) (hts _ g3) hK hP hD hS hA h1 (fs := zDef ci) hdf (by omega) (by omega) hd (fun q H1 hP1 hD1 hS1 => ?_)
        have hw : wd (zad ex (al ++ [q])) cA (h ++ [.inr (ci, zDef ci)]) = wd (zad ex al) cA h ++ [(q, .inr (ci, zDef ci))] := by
          rw [wd_push hal.symm (by omega) hc4 hwA (by show Sum.inr _ = Sum.inr _; rw [zDef_map, zDef_map])]
          show _ ++ [(q, Sum.inr (ci, (zDef ci).map _))] = _
          rw [zDef_map]
        rw [← hw] at hP1 hD1
        have h9 := k (al ++ [q]) H1 locs (cells + 1) (slots + N) (zPre.push _ _) (by rw [List.length_append]; omega) ⟨hP1, hD1, hS1⟩ (by rw [List.length_append, List.length_append, hal]; rfl) (zwA_push hwA (fun _ _ _ hz => by cases hz)) (tl_pre (zPre.push _ _) hc3.1) (by omega) (by omega)
        rw [z_new_st hal hc5 hc3.2] at h9
        exact h9
      · cases hk
    · cases hk
  · -- newarray
    split at hk
    · rename_i a r
      split at hk
      · rename_i tn ty x0 hv
        split at hk
        · rename_i hc
          obtain ⟨hc0, hc1, hc2, hc3, hc4, hc5, hc6⟩ := hc
          cases hk
          obtain ⟨g1, g2, g3, g4, g5, g6, g7, g8⟩ := zArT_ok hv
          unfold zwF at hc4
          rw [Bool.and_eq_true] at hc4
          rw [← hal] at hc4 hc5
          refine va_newa hx hb (by rw [g1]; exact hts _ g3) g1 hK hP hD hS hA (a0 := (a.toNatClampNeg, x0)) (fun k => g4 _ k) hc0 rfl (Nat.le_trans (Nat.mul_le_mul hc1 g5) (by decide)) (by omega) (by omega) hd (fun q cX H1 hK1 hP1 hD1 hS1 => ?_)
          have e0 : cX = cA tn := z_cA g2 (hK1.2 4 (cX, ty) rfl).2 (hK.2 tn _ (g6 cA)).2
          subst e0
          have hw : wd (zad ex (al ++ [q])) cA (h ++ [.inl (tn, a.toNatClampNeg, x0)]) = wd (zad ex al) cA h ++ [(q, .inl (cA tn, a.toNatClampNeg, x0))] := by
            rw [wd_push hal.symm (by omega) hc5 hwA (by show Sum.inl (cA tn, tA _ _) = Sum.inl (cA tn, tA _ _); rw [g7, g7])]
            show _ ++ [(q, Sum.inl (cA tn, tA _ _))] = _
            rw [g7]
          rw [← hw] at hP1 hD1
          have h9 := k (al ++ [q]) H1 locs (cells + 1) (slots + a.toNatClampNeg) (zPre.push _ _) (by rw [List.length_append]; omega) ⟨hP1, hD1, hS1⟩ (by rw [List.length_append, List.length_append, hal]; rfl) (zwA_push hwA (fun _ _ f hz => by cases hz; exact absurd rfl (g8 f))) (tl_pre (zPre.push _ _) hc4.1) (by omega) (by omega)
          rw [z_new_st hal hc6 hc4.2] at h9
          exact h9
        · cases hk
      · cases hk
    · cases hk
  · -- anewarray
    split at hk
    · rename_i a r
      split at hk
      · rename_i hc
        obtain ⟨hcn, hc0, hc1, hc2, hc3, hc4, hc5, hc6⟩ := hc
        cases hk
        unfold zwF at hc4
        rw [Bool.and_eq_true] at hc4
        rw [← hal] at hc4 hc5
        refine va_newq hx hb hown (hts _ (zANew_ok hcn)) hAO hK hP hD hS hA hc0 rfl (Nat.le_trans (Nat.mul_le_mul_right 4 hc1) (by decide)) (by omega) (by omega) hd (fun q cX H1 hK1 hP1 hD1 hS1 => ?_)
        have e0 : cX = cA 3 := z_cAo (hK1.2 4 (cX, .object zRealN) rfl).2 (hK.2 3 (cA 3, .object zRealN) rfl).2
        subst e0
        have hw : wd (zad ex (al ++ [q])) cA (h ++ [.inl (3, a.toNatClampNeg, .inr (.inr (.inr (.inr (fun _ => none)))))]) = wd (zad ex al) cA h ++ [(q, .inl (cA 3, a.toNatClampNeg, .inr (.inr (.inr (.inr (fun _ => none))))))] := wd_push hal.symm (by omega) hc5 hwA rfl
        rw [← hw] at hP1 hD1
        have h9 := k (al ++ [q]) H1 locs (cells + 1) (slots + a.toNatClampNeg) (zPre.push _ _) (by rw [List.length_append]; omega) ⟨hP1, hD1, hS1⟩ (by rw [List.length_append, List.length_append, hal]; rfl) (zwA_push hwA (fun _ _ f hz i y hy => by cases hz; cases hy)) (tl_pre (zPre.push _ _) hc4.1) (by omega) (by omega)
        rw [z_new_st hal hc6 hc4.2] at h9
        exact h9
      · cases hk
    · cases hk
  · -- Object()
    split at hk
    · rename_i q r
      split at hk
      · rename_i hc
        obtain ⟨hc1, hc2, hc3⟩ := hc
        cases hk
        refine W.objInit hx hb hown (hts _ (zObj_ok hc1)) (hts _ zObj_i) (hts _ zObj_c) rfl (hml.trans hmx.symm) (rest := st'.map (tv (zad ex al))) rfl hd (by omega) ?_ ?_
        · have : (F0 m pc ls ((Value.ref q :: st').map (tv (zad ex al)))).monitorRoom = 0 := by simp [F0, JFrame.monitorRoom]
          rw [this, tv_sum]
          omega
        · exact k al H locs cells slots (zPre.refl _) (Nat.le_refl _) hI hal hwA rfl rfl rfl
      · cases hk
    · cases hk
  · cases hk
/-- a constructor's invoking instruction -/
theorem z_invI {cn x n a q : Nat} {y : ZM} {st r : List Value} {ad : Nat → Nat} (X : Stand p l e R s m args below meth c T locs cells slots) (hx : p.tables.exec = Jvm.exec) (hown : s.vm.findClass (zCn cn) = some m.cls) (hts : ∀ w ∈ zWs, w.before args s = true)
    (hd : decode c.code pc = .ok (.invokespecial x, n)) (hz : n = 3) (hc : zCalI cn x = some (y, a)) (hal : a ≤ st.length) (hr : st.drop a = .ref q :: r) :
    y ∈ zIni ∧ ∃ mk methk ck vm₁, s.methodNamed? (zNm y) = some mk ∧ s.vm.method? mk = some methk ∧ methk.code = some ck ∧ zM y s mk methk ck ∧ methk.name = "<init>" ∧ Stand p l e R s m args below meth c (T.setVm vm₁) locs cells slots ∧
      ∀ target, (∀ acts, Steps p.tables e below (doInvoke e ((T.setVm vm₁).setTop (F0 m pc ls (r.map (tv ad)))) acts mk ((Value.ref q :: (st.take a).reverse).map (tv ad)).toArray).1 target) → Steps p.tables e below (T.setTop (F0 m pc ls (st.map (tv ad)))) target := by
  subst hz
  obtain ⟨hy, hpl, hin, hlk⟩ := zCalI_ok hc
  obtain ⟨h1, -, hne, h2⟩ := zIni_ok y hy
  have hni := zIni_nm y hy
  have hpl' : e.platform.magicAccessors = ({} : Platform).magicAccessors := by rw [X.admits.platform]
  have h0 := zIni_hs y hy
  have hrt := zIni_rt y hy
  have hcode : (Jvm.Cond.code (zNm y) (zCode y) (zMl y) none).before args s = true := by
    rw [← hrt]
    exact hts _ h2
  have hlen : ∀ sig, parseMethodDescriptor (zNm y).desc = some sig → (((st.take a).reverse).map (tv ad)).length = sig.parameters.length := by
    intro sig hsig
    rw [hsig] at hpl
    rw [List.length_map, List.length_reverse, List.length_take, Nat.min_eq_left hal]
    exact (Option.some.inj hpl).symm
  have hstk : (F0 m pc ls (st.map (tv ad))).stack = (((st.take a).reverse).map (tv ad)).reverse ++ .ref (ad q) :: r.map (tv ad) := by
    show st.map (tv ad) = _
    rw [List.map_reverse, List.reverse_reverse]
    show st.map (tv ad) = (st.take a).map (tv ad) ++ (Value.ref q :: r).map (tv ad)
    rw [← hr, ← List.map_append, List.take_append_drop]
  refine ⟨hy, ?_⟩
  have fin : ∀ {tm : MethodId} {mth : Method} {cd : Code} {k9 : Class} {vm' : Vm}, s.methodNamed? (zNm y) = some tm → s.vm.method? tm = some mth → mth.code = some cd → s.WarmedH vm' →
      (∀ target, (∀ acts, Steps p.tables e below (doInvoke e ((T.setVm vm').setTop { (F0 m pc ls (st.map (tv ad))) with stack := r.map (tv ad) }) acts tm (Value.ref (ad q) :: ((st.take a).reverse).map (tv ad)).toArray).1 target) → Steps p.tables e below (T.setTop (F0 m pc ls (st.map (tv ad)))) target) →
      ∃ mk methk ck vm₁, s.methodNamed? (zNm y) = some mk ∧ s.vm.method? mk = some methk ∧ methk.code = some ck ∧ zM y s mk methk ck ∧ methk.name = "<init>" ∧ Stand p l e R s m args below meth c (T.setVm vm₁) locs cells slots ∧
        ∀ target, (∀ acts, Steps p.tables e below (doInvoke e ((T.setVm vm₁).setTop (F0 m pc ls (r.map (tv ad)))) acts mk ((Value.ref q :: (st.take a).reverse).map (tv ad)).toArray).1 target) → Steps p.tables e below (T.setTop (F0 m pc ls (st.map (tv ad)))) target := by
    intro tm mth cd k9 vm' e1 e2 e3 e4 e5
    obtain ⟨methk, ck, q1, q2, q3, q4, q5, q6, q7, q8⟩ := Cond.code_spec e1 hcode
    cases e2.symm.trans q1
    cases e3.symm.trans q2
    refine ⟨tm, mth, cd, vm', e1, e2, e3, ⟨by rw [← h1]; exact findClass_of_methodNamed e1, q3, q4, by rw [hrt]; exact q5, q6, ?_⟩, by rw [← hni]; exact (name_of_methodNamed e1 e2).1, X.noted e4, e5⟩
    have z0 : cd.exceptionTable.size = 0 := by simpa [Array.isEmpty] using q7
    have z9 : cd.exceptionTable.toList = [] := List.eq_nil_of_length_eq_zero (by simpa using z0)
    rw [z9, h0]
    rfl
  rcases hlk with hlk | ⟨host, hlk⟩
  · obtain ⟨tm, mth, cd, k9, vm', e1, e2, e3, -, -, -, -, -, e4, e5⟩ := Steps.initColdArgs (e := e) X.here hx X.warmed hpl' hown hni hne (hts _ hlk) (hts _ hin) hcode (f := F0 m pc ls (st.map (tv ad))) rfl hlen hstk hd
    exact fin (k9 := k9) e1 e2 e3 e4 e5
  · obtain ⟨tm, mth, cd, k9, vm', e1, e2, e3, -, -, -, -, -, e4, e5⟩ := Steps.initColdArgsNest (e := e) X.here hx X.warmed hpl' hown hni hne (hts _ hlk) (hts _ hin) hcode (f := F0 m pc ls (st.map (tv ad))) rfl hlen hstk hd
    exact fin (k9 := k9) e1 e2 e3 e4 e5
end ZB
