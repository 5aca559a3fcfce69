/-! Into a callee and out of it -/
theorem z_castn {s U : State} {args a' : Array Value} {a b : String} (hW : s.WarmedH U.vm) : (Jvm.Cond.not (.castable a b)).before a' U = (Jvm.Cond.not (.castable a b)).before args s := by
  simp only [Cond.before, Cond.holds, Cond.value, hW.alike.findClass, hW.alike.assignable]
theorem zmoved {s U : State} {args a' : Array Value} {w : Jvm.Cond} (hW : s.WarmedH U.vm) (hm : zmov w = true) (h : w.before args s = true) : w.before a' U = true := by
  unfold zmov at hm
  rw [Bool.or_eq_true] at hm
  rcases hm with hm | hm
  · rw [Bool.and_eq_true] at hm
    have h1 : w.before args (s.setVm U.vm) = true := Cond.before_shiftedFace (State.Shifted.of_warmed hW) w hm.2 h
    rw [Cond.onTables_vm (A' := a') (U' := U) U.vm w hm.1] at h1
    exact h1
  · split at hm
    · exact word_at hW (Or.inr ⟨_, rfl⟩) h
    · exact va_Nw.use rfl (va_Nw.warmM hW (va_Nw.of rfl h))
    · exact va_Nw.use rfl (va_Nw.warmF hW (va_Nw.of rfl h))
    · rw [z_castn hW]; exact h
    · cases hm
def zRm (d : Nat) (y : ZM) : Room := { frames := d, cells := zKm y, slots := 6 * zKm y, locals := 30 * d + 90 }
section ZC
variable {p : Program} {l : Launch} {e : Env} {R : Room} {s : State} {m : MethodId} {args : Array Value} {below : List Frame} {meth : Method} {c : Code} {T : State} {H : Heap} {locs : List Loc} {cells slots : Nat} {Q : State → Prop}
variable {pc : Nat} {ls : Array Slot} {D : va_G} {ad : Nat → Nat} {cA : Nat → ClassId} {A : Nat → Prop} {L : Nat} {xs : Nat → Int32}
/-- the code of a method of ours, out of its word -/
theorem z_code {y : ZM} (hy : y ∈ zAll) (hts : ∀ w ∈ zWs, w.before args s = true) : ∃ mk methk ck, s.methodNamed? (zNm y) = some mk ∧ s.vm.method? mk = some methk ∧ methk.code = some ck ∧ zM y s mk methk ck ∧ parseMethodDescriptor (zNm y).desc = some methk.sig := by
  obtain ⟨h1, -, -, h2⟩ := zMeth_ok y hy
  rcases h2 with ⟨h0, h2⟩ | h2
  · have hw := hts _ h2
    obtain ⟨mk, hn⟩ := Cond.code_named hw
    obtain ⟨methk, ck, q1, q2, q3, q4, q5, q6, q7, q8⟩ := Cond.code_spec hn hw
    refine ⟨mk, methk, ck, hn, q1, q2, ⟨by rw [← h1]; exact findClass_of_methodNamed hn, q3, q4, q5, q6, ?_⟩, q8⟩
    have e0 : ck.exceptionTable.size = 0 := by simpa [Array.isEmpty] using q7
    have e1 : ck.exceptionTable.toList = [] := List.eq_nil_of_length_eq_zero (by simpa using e0)
    rw [e1, h0]
    rfl
  · have hw := hts _ h2
    obtain ⟨mk, methk, ck, hn, q1, q2, q3, q4, q5, q6, q7, q8⟩ := Cond.codeWith_spec hw
    exact ⟨mk, methk, ck, hn, q1, q2, ⟨by rw [← h1]; exact findClass_of_methodNamed hn, q3, q4, q6, q7, q5⟩, q8⟩
/-- the invoking instruction -/
theorem z_inv {cn n nL : Nat} {y : ZM} {i : Instr} {st as rest : List Value} {h : zH} (X : Stand p l e R s m args below meth c T locs cells slots) (hx : p.tables.exec = Jvm.exec) (hown : s.vm.findClass (zCn cn) = some m.cls) (hts : ∀ w ∈ zWs, w.before args s = true) (hK : va_K D zCl (zTt cA) s) (hP : va_P D zCl (wd ad cA h) T.heap)
    (hd : decode c.code pc = .ok (i, n)) (hz : zok nL pc i n = true) (hc : zcall cn i st h = some (y, as, rest)) :
    n = 3 ∧ y ∈ zAll ∧ ((rest.map fun v => v.category).sum + zMl y ≤ 19) ∧ ((as.map fun v => v.category).sum ≤ zMl y) ∧ ∃ mk methk ck vm₁, s.methodNamed? (zNm y) = some mk ∧ s.vm.method? mk = some methk ∧ methk.code = some ck ∧ zM y s mk methk ck ∧ Stand p l e R s m args below meth c (T.setVm vm₁) locs cells slots ∧
      ∀ target, (∀ acts, Steps p.tables e below (doInvoke e ((T.setVm vm₁).setTop (F0 m pc ls (rest.map (tv ad)))) acts mk (as.map (tv ad)).toArray).1 target) → Steps p.tables e below (T.setTop (F0 m pc ls (st.map (tv ad)))) target := by
  unfold zcall at hc
  split at hc
  · -- invokestatic
    obtain rfl : n = 3 := by simpa [zok] using hz
    split at hc
    · rename_i x y' a hv
      split at hc
      · rename_i hs
        obtain ⟨hs1, hs2, hs3⟩ := hs
        cases hc
        obtain ⟨hy, hpl, hst, hini, hlk⟩ := zCalS_ok hv
        obtain ⟨h1, -, hne, -⟩ := zMeth_ok y hy
        obtain ⟨mk, methk, ck, hn, q1, q2, hM, q8⟩ := z_code hy hts
        have hstat : methk.isStatic = true := Cond.static_spec hn q1 (hts _ hst)
        obtain ⟨kP, hkP, -⟩ := className_of_methodNamed hn
        have hinit : kP.init = .initialized := Cond.initialized_spec (findClass_of_methodNamed hn) hkP (hts _ hini)
        have hlen : (((st.take a).reverse).map (tv ad)).length = methk.sig.parameters.length := by
          rw [q8] at hpl
          rw [List.length_map, List.length_reverse, List.length_take, Nat.min_eq_left hs1]
          exact (Option.some.inj hpl).symm
        have hstk : (F0 m pc ls (st.map (tv ad))).stack = (((st.take a).reverse).map (tv ad)).reverse ++ (st.drop a).map (tv ad) := by
          show st.map (tv ad) = _
          rw [List.map_reverse, List.reverse_reverse, ← List.map_append, List.take_append_drop]
        refine ⟨rfl, hy, hs2, hs3, mk, methk, ck, ?_⟩
        rcases hlk with hlk | ⟨host, hlk⟩
        · obtain ⟨vm₁, X₁, st₁⟩ := X.invokestatic hx hown (hts _ hlk) hn q1 hstat hkP hinit hne (g := F0 m pc ls (st.map (tv ad))) rfl hlen hstk hd
          exact ⟨vm₁, hn, q1, q2, hM, X₁, st₁⟩
        · obtain ⟨vm₁, X₁, st₁⟩ := X.invokestaticNest hx hown (hts _ hlk) hn q1 hstat hkP hinit hne (g := F0 m pc ls (st.map (tv ad))) rfl hlen hstk hd
          exact ⟨vm₁, hn, q1, q2, hM, X₁, st₁⟩
      · cases hc
    · cases hc
  · -- invokevirtual
    obtain rfl : n = 3 := by simpa [zok] using hz
    split at hc
    · rename_i x y' a hv
      split at hc
      · rename_i q r hr
        split at hc
        · rename_i ci fs hq
          split at hc
          · rename_i hs
            obtain ⟨hs1, hs2, hs3⟩ := hs
            subst hs1
            cases hc
            obtain ⟨hy, hpl, hin, hsel, hlk⟩ := zCalV_ok hv
            obtain ⟨h1, -, hne, -⟩ := zMeth_ok y hy
            obtain ⟨mk, methk, ck, hn, q1, q2, hM, q8⟩ := z_code hy hts
            obtain ⟨mk', methk', hn', hm', hst', hab'⟩ := Cond.instanceMethod_spec (hts _ hin)
            cases hn.symm.trans hn'
            cases q1.symm.trans hm'
            obtain ⟨rr, hcl, -⟩ := hP q _ (wd_get (ad := ad) (cA := cA) hq)
            obtain ⟨cellB, hcB, hoB, hclB⟩ := va_recv hK hP hcl (wd_get (ad := ad) (cA := cA) hq)
            rw [zCl_nm hcl] at hclB
            obtain ⟨c2, r2, m2, w1, w2, w3, w4, kP, hkP, hkPi⟩ := Cond.selects_spec (hts _ hsel)
            cases hclB.symm.trans w1
            cases (State.methodFound?_of_named hn hne).symm.trans w2
            cases hn.symm.trans w3
            have hselP : selectMethod e.platform s.vm cellB.cls mk = .method mk := by rw [Launch.admits_selectMethod X.admits]; exact w4
            have hal : a ≤ st.length := by
              have h9 : (st.drop a).length = rest.length + 1 := by rw [hr]; rfl
              rw [List.length_drop] at h9
              omega
            have hlen : (((st.take a).reverse).map (tv ad)).length = methk.sig.parameters.length := by
              rw [q8] at hpl
              rw [List.length_map, List.length_reverse, List.length_take, Nat.min_eq_left hal]
              exact (Option.some.inj hpl).symm
            have hstk : (F0 m pc ls (st.map (tv ad))).stack = (((st.take a).reverse).map (tv ad)).reverse ++ .ref (ad q) :: rest.map (tv ad) := by
              show st.map (tv ad) = _
              rw [List.map_reverse, List.reverse_reverse]
              show st.map (tv ad) = (st.take a).map (tv ad) ++ (Value.ref q :: rest).map (tv ad)
              rw [← hr, ← List.map_append, List.take_append_drop]
            refine ⟨rfl, hy, hs2, hs3, mk, methk, ck, ?_⟩
            rcases hlk with hlk | ⟨host, hlk⟩
            · obtain ⟨vm₁, X₁, st₁⟩ := X.invokevirtual hx hown (hts _ hlk) hn q1 hst' hkP hkPi hne (a := ad q) (cell := cellB) hcB (fun z h => by rw [h] at hoB; cases hoB) hselP q1 hab' hkP hkPi (g := F0 m pc ls (st.map (tv ad))) rfl hlen hstk hd
              exact ⟨vm₁, hn, q1, q2, hM, X₁, st₁⟩
            · obtain ⟨vm₁, X₁, st₁⟩ := X.invokevirtualNest hx hown (hts _ hlk) hn q1 hst' hkP hkPi hne (a := ad q) (cell := cellB) hcB (fun z h => by rw [h] at hoB; cases hoB) hselP q1 hab' hkP hkPi (g := F0 m pc ls (st.map (tv ad))) rfl hlen hstk hd
              exact ⟨vm₁, hn, q1, q2, hM, X₁, st₁⟩
          · cases hc
        · cases hc
      · cases hc
    · cases hc
  · cases hc
/-- a callee's start holds what the caller's holds -/
theorem zS_into {h : zH} {s' : State} {a' : Array Value} (hs : zS D ad cA A L xs s args) (hI : zI D ad cA A s h H locs) (hW : s.WarmedH s'.vm) (hH : s'.heap = H) :
    zS D ad cA (va_A (wd ad cA h) H.size) L xs s' a' ∧ zI D ad cA (va_A (wd ad cA h) H.size) s' h H [] ∧ ∀ q, va_A (wd ad cA h) H.size q → A q := by
  obtain ⟨hts, hK, hE, hZ, hA, hZq, hStr⟩ := hs
  obtain ⟨hP, hD, hS⟩ := hI
  have hsub : ∀ q, va_A (wd ad cA h) H.size q → A q := by
    intro q hq
    rcases hq with ⟨k, e, hk⟩ | hq
    · exact hD.2 k (q, e) hk
    · exact hA q (Nat.le_trans hS.1 hq)
  refine ⟨⟨fun w hw => zmoved hW (zWs_mov w hw) (hts w hw), hK.moved hW.alike, fun k N f hf => ?_, fun k C n d hk => ?_, fun q hq => Or.inr (by rw [← hH]; exact hq), fun C n d hk => ?_, fun cn i tx hk => ?_⟩, ⟨hP, ⟨hD.1, fun k q hk => Or.inl ⟨k, q.2, hk⟩⟩, ?_⟩, hsub⟩
  · rw [hH]
    exact (((hE k N f hf).kept (fun a h1 h2 => hS.2.1 a h1 h2)).moved hW.alike).narrow hsub
  · rw [hH]
    exact (((hZ k C n d hk).kept (fun a h1 h2 => hS.2.1 a h1 h2)).moved hW.alike).narrow hsub
  · rw [hH]
    exact (((hZq C n d hk).kept (fun a h1 h2 => hS.2.1 a h1 h2)).moved hW.alike).narrow hsub
  · obtain ⟨q, hq⟩ := hStr cn i tx hk
    exact ⟨q, hq.warm hW⟩
  · rw [hH]
    exact va_S.rf
/-- behind a callee, the caller's world -/
theorem zI_back {h h1 : zH} {s' : State} {H1 : Heap} {L1 : List Loc} (hI : zI D ad cA A s h H locs) (hH : s'.heap = H) (hsub : ∀ q, va_A (wd ad cA h) H.size q → A q) (hJ : zI D ad cA (va_A (wd ad cA h) H.size) s' h1 H1 L1) : zI D ad cA A s h1 H1 (locs ++ L1) := by
  obtain ⟨hP, hD, hS⟩ := hI
  obtain ⟨jP, jD, jS⟩ := hJ
  rw [hH] at jS
  refine ⟨jP, jD.weaken (fun k q _ hq => hsub _ hq), Nat.le_trans hS.1 jS.1, fun q h1 h2 => ?_, fun q hq => ?_⟩
  · rw [jS.2.1 q (Nat.lt_of_lt_of_le h1 hS.1) (fun z => h2 (hsub q z))]
    exact hS.2.1 q h1 h2
  · rcases List.mem_append.mp hq with h | h
    · exact hS.2.2 q h
    · exact hsub _ (jS.2.2 q h)
end ZC
