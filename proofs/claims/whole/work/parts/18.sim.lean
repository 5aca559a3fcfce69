/-! The simulation: what the pure machine does, the real one does -/
section ZZ
variable {p : Program} {l : Launch} {e : Env} {D : va_G} {ad : Nat → Nat} {cA : Nat → ClassId} {L : Nat} {xs : Nat → Int32}
theorem z_weaken {tb : Tables} {mid below : List Frame} {a b : State} (h : Steps tb e (mid ++ below) a b) : Steps tb e below a b := by
  obtain ⟨n, h1, h2⟩ := h
  exact ⟨n, h1, fun k hk => (h2 k hk).weaken⟩
theorem z_tail {ls : Array Slot} {nL j : Nat} {v : Value} {lv : zL} (h : lv_has ls nL ((j, v) :: (tl ad lv).filter (fun q => !(q.1 == j) && !(q.1 + 1 == j && q.2.category == 2)))) : lv_has ls nL (tl ad (zdrop1 j lv)) := by
  rw [(List.cons.inj (tl_zdrop1 ad j (.int 0) lv rfl)).2] at h
  exact ⟨h.1, h.2.1, fun q hq => h.2.2 q (List.mem_cons_of_mem _ hq)⟩
/-- the walk of a frame from (pc, lv, st, h), with k exceptions made so far; c0, s0: what was made before -/
def zGoal (p : Program) (l : Launch) (e : Env) (D : va_G) (ad : Nat → Nat) (cA : Nat → ClassId) (L : Nat) (xs : Nat → Int32) (d : Nat) (mi : ZM) (pc : Nat) (lv : zL) (st : List Value) (h : zH) (k : Nat) (o : zO) (h' : zH) (k' : Nat) : Prop :=
  ∀ {R : Room} {s : State} {m : MethodId} {args : Array Value} {below : List Frame} {meth : Method} {c : Code} {H : Heap} {locs : List Loc} {c0 s0 : Nat} {ls : Array Slot} {A : Nat → Prop} {Q : State → Prop},
    (mi = m_law ∨ mi ∈ zAll) → zM mi s m meth c → zS D ad cA A L xs s args → zI D ad cA A s h H locs → lv_has ls (zMl mi) (tl ad lv) → d ≤ R.frames → 30 * d + 90 ≤ R.locals → c0 + zKm mi ≤ R.cells → s0 + 6 * zKm mi ≤ R.slots →
    (∀ (v : Option Value), o = .inl v → ∀ (pc1 n1 : Nat) (i1 : Instr) (ls1 : Array Slot) (st1 : List Value) (H1 : Heap) (locs1 : List Loc), decode (zCode mi) pc1 = .ok (i1, n1) → zok (zMl mi) pc1 i1 n1 = true → zret3 mi i1 st1 = some v → zI D ad cA A s h' H1 locs1 →
      W p l e R s m args below meth c H1 locs1 (c0 + k') (s0 + 6 * k') Q (F0 m pc1 ls1 (st1.map (tv ad)))) →
    (∀ x, o = .inr x → ∀ (U : State) (a : Nat) (ce : Cell) (locs1 : List Loc), U.status = .running → Ended U below (.threw a) → s.WarmedH U.vm → s.sameButNew ({ U with vm := s.vm } : State) locs1 (c0 + k') (s0 + 6 * k') → zI D ad cA A s h' U.heap locs1 → U.heap[a]? = some ce → ce.vm = .none → s.vm.findClass (zXn x) = some ce.cls → Q U) →
    W p l e R s m args below meth c H locs (c0 + k) (s0 + 6 * k) Q (F0 m pc ls (st.map (tv ad)))
set_option maxHeartbeats 4000000 in
theorem sim (hx : p.tables.exec = Jvm.exec) (htr : e.platform.stackTraces = false) : ∀ (n d : Nat) (mi : ZM) (pc : Nat) (lv : zL) (st : List Value) (h : zH) (k : Nat) (o : zO) (h' : zH) (k' : Nat), zrun L xs n d mi pc lv st h k = some (o, h', k') → zGoal p l e D ad cA L xs d mi pc lv st h k o h' k' := by
  intro n
  induction n with
  | zero =>
    intro d mi pc lv st h k o h' k' hr
    unfold zrun at hr
    cases hr
  | succ n ih =>
    intro d mi pc lv st h k o h' k' hr R s m args below meth c H locs c0 s0 ls A Q hmi hm hs hI hl hRf hRl hRc hRs kret kthr
    unfold zrun at hr
    split at hr
    · cases hr
    · rename_i i nn hf
      obtain ⟨hd, hz⟩ := zfetch_ok hmi hf
      split at hr
      · -- an instruction on locals and stack
        rename_i pc' lv' st' h1
        exact sim1 hx hm.2.1 hd hz h1 hl (fun ls' hl' => ih _ _ _ _ _ _ _ _ _ _ hr hmi hm hs hI hl' hRf hRl hRc hRs kret kthr)
      · split at hr
        · -- one on the heap
          rename_i w st' h1 h2
          exact sim2 hx hm.2.1 hd hz hm.1 hs h2 hI (fun H' locs' hI' => ih _ _ _ _ _ _ _ _ _ _ hr hmi hm hs hI' hl hRf hRl hRc hRs kret kthr)
        · split at hr
          · -- a call
            rename_i y as rest hc
            split at hr
            · cases hr
            · rename_i d'
              split at hr
              · rename_i hk
                intro T hT X
                subst hT
                have hb := hm.2.1
                obtain ⟨rfl, hy, hw8, hwa, mk, methk, ck, vm₁, hn, q1, q2, hMy, X₁, st₁⟩ := z_inv (ls := ls) X hx hm.1 hs.1 hs.2.1 hI.1 (by rw [hb]; exact hd) hz hc
                obtain ⟨-, hpn, -, -⟩ := zMeth_ok y hy
                have hsz : (F0 m pc ls (rest.map (tv ad))).locals.size = c.maxLocals := hl.1.trans hm.2.2.1.symm
                have hmk : (T.setVm vm₁).vm.method? mk = some methk := X₁.warmed.methodAt q1
                have hpk : (T.setVm vm₁).plainMethod mk := X₁.warmed.plainAt (U := T.setVm vm₁) (fun k9 hk9 => by
                  obtain ⟨k8, hk8, hn8⟩ := className_of_methodNamed hn
                  cases hk9.symm.trans hk8
                  rw [hn8]
                  exact hpn)
                have hmr : (F0 m pc ls (rest.map (tv ad))).monitorRoom = 0 := by simp [F0, JFrame.monitorRoom]
                obtain ⟨Y, hin⟩ := X₁.into (g := F0 m pc ls (rest.map (tv ad))) rfl hsz (by rw [hb]; exact hd) (as.map (tv ad)).toArray (R' := zRm d' y) hmk q2 hMy.2.2.2.2.1 hpk
                  (show d' + 1 ≤ R.frames by omega) (by rw [hmr, tv_sum, hMy.2.2.1]; show 2 * 0 + _ + (zMl y + 11) + (30 * d' + 90) ≤ _; omega) (show c0 + k + zKm y ≤ R.cells by omega) (show s0 + 6 * k + 6 * zKm y ≤ R.slots by omega)
                obtain ⟨hs', hI', hsub⟩ := zS_into (s' := (T.setVm vm₁).calling (F0 m pc ls (rest.map (tv ad))) mk (as.map (tv ad)).toArray) (a' := (as.map (tv ad)).toArray) hs hI X₁.warmed rfl
                have hM' : zM y ((T.setVm vm₁).calling (F0 m pc ls (rest.map (tv ad))) mk (as.map (tv ad)).toArray) mk methk ck := ⟨by
                  show (T.setVm vm₁).vm.findClass _ = _
                  rw [X₁.warmed.alike.findClass]
                  exact hMy.1, hMy.2⟩
                have hle := lv_entry (as.map (tv ad)) (n := zMl y) (by rw [lg_sl_len]; exact hwa)
                rw [tl_args] at hle
                -- the callee's walk
                have callee : ∀ (o1 : zO) (h1 : zH) (k1 : Nat), zrun L xs n d' y 0 (lv_args 0 as) [] h 0 = some (o1, h1, k1) → k1 ≤ zKm y →
                    ∃ t, Steps p.tables e (.java (F0 m pc ls (rest.map (tv ad))) :: below) ((((T.setVm vm₁).setTop (F0 m pc ls (rest.map (tv ad)))).pushFrame (.java (entryFrame mk (as.map (tv ad)).toArray ck.maxLocals))).setTop (entryFrame mk (as.map (tv ad)).toArray ck.maxLocals)) t ∧
                      zQ D ad cA (va_A (wd ad cA h) T.heap.size) ((T.setVm vm₁).calling (F0 m pc ls (rest.map (tv ad))) mk (as.map (tv ad)).toArray) (.java (F0 m pc ls (rest.map (tv ad))) :: below) o1 h1 k1 t := by
                  intro o1 h1 k1 hr1 hk1
                  have hW := ih _ _ _ _ _ _ _ _ _ _ hr1 (R := zRm d' y) (c0 := 0) (s0 := 0) (Q := zQ D ad cA (va_A (wd ad cA h) T.heap.size) ((T.setVm vm₁).calling (F0 m pc ls (rest.map (tv ad))) mk (as.map (tv ad)).toArray) (.java (F0 m pc ls (rest.map (tv ad))) :: below) o1 h1 k1)
                    (args := (as.map (tv ad)).toArray) (below := .java (F0 m pc ls (rest.map (tv ad))) :: below) (Or.inr hy) hM' hs' hI' hle (Nat.le_refl _) (Nat.le_refl _) (by rw [Nat.zero_add]; exact Nat.le_refl _) (by rw [Nat.zero_add]; exact Nat.le_refl _)
                    (fun v hv pc1 n1 i1 ls1 st1 H1 locs1 g1 g2 g3 g4 => by subst hv; rw [Nat.zero_add, Nat.zero_add]; exact z_ret hx hM' g1 g2 g3 g4)
                    (fun x hx' U a ce locs1 g1 g2 g3 g4 g5 g6 g7 g8 => by subst hx'; rw [Nat.zero_add, Nat.zero_add] at g4; exact ⟨g1, g3, locs1, g4, g5, a, ce, g2, g6, g7, g8⟩)
                  have e0 : entryFrame mk (as.map (tv ad)).toArray ck.maxLocals = F0 mk 0 ((lg_sl (as.map (tv ad)) ++ List.replicate (zMl y - (lg_sl (as.map (tv ad))).length) Slot.unset).toArray) [] := by rw [hMy.2.2.1]; exact lg_entry_eq _ _ _
                  obtain ⟨t, a1, b1⟩ := hW (((T.setVm vm₁).setTop (F0 m pc ls (rest.map (tv ad)))).pushFrame (.java (entryFrame mk (as.map (tv ad)).toArray ck.maxLocals))) rfl Y
                  refine ⟨t, ?_, b1⟩
                  rw [show F0 mk 0 ((lg_sl (as.map (tv ad)) ++ List.replicate (zMl y - (lg_sl (as.map (tv ad))).length) Slot.unset).toArray) (List.map (tv ad) []) = entryFrame mk (as.map (tv ad)).toArray ck.maxLocals from e0.symm] at a1
                  exact a1
                split at hr
                · cases hr
                · -- it returned
                  rename_i v h1 k1 hr1
                  split at hr
                  · rename_i hk1
                    obtain ⟨t, st2, g1, g2, L1, g3, g4, g5⟩ := callee _ _ _ hr1 hk1
                    obtain ⟨T', X', hW', -, ht⟩ := X₁.outOf (g := F0 m pc ls (rest.map (tv ad))) rfl (by rw [hb]; exact hd) g5 g2 g3
                    have hheap : T'.heap = t.heap := by rw [ht]; rfl
                    have hJ := zI_back hI rfl hsub g4
                    have hgo := ih _ _ _ _ _ _ _ _ _ _ hr (ls := ls) hmi hm hs (by rw [← hheap] at hJ; exact hJ) hl hRf hRl hRc hRs kret kthr
                    obtain ⟨t3, st3, hq3⟩ := hgo T' rfl (stand_widen X' (by omega) (by omega))
                    refine ⟨t3, st₁ _ (fun acts => ?_), hq3⟩
                    rw [hin acts]
                    refine (z_weaken (mid := [.java (F0 m pc ls (rest.map (tv ad)))]) st2).trans ?_
                    rw [ht]
                    have e9 : (v.map (tv ad)).toList ++ rest.map (tv ad) = (v.toList ++ rest).map (tv ad) := by cases v <;> simp
                    show Steps p.tables e below (T'.setTop (F0 m (pc + 3) ls ((v.map (tv ad)).toList ++ rest.map (tv ad)))) t3
                    rw [e9]
                    exact st3
                  · cases hr
                · -- it threw
                  rename_i x h1 k1 hr1
                  split at hr
                  · rename_i hk1
                    obtain ⟨t, st2, g1, g2, L1, g3, g4, a, ce, g5, g6, g7, g8⟩ := callee _ _ _ hr1 hk1
                    obtain ⟨T', X', hW', -, ht⟩ := X₁.outOfThrown (g := F0 m pc ls (rest.map (tv ad))) rfl g5 g2 g3
                    have hheap : T'.heap = t.heap := by rw [ht]; rfl
                    have hJ := zI_back hI rfl hsub g4
                    rw [← hheap] at hJ g6
                    have hcl : s.vm.findClass (zXn x) = some ce.cls := by
                      rw [← X₁.warmed.alike.findClass]
                      exact g8
                    have X'' := stand_widen (k := c0 + (k + zKm y)) (n := s0 + 6 * (k + zKm y)) X' (by omega) (by omega)
                    split at hr
                    · -- nobody catches
                      rename_i h0
                      cases hr
                      have hout : ∀ y9 ∈ c.exceptionTable.toList, covers y9 pc = false := by
                        have h9 := hm.2.2.2.2.2
                        rw [h0] at h9
                        rw [List.map_eq_nil_iff.mp h9]
                        intro y9 hy9
                        cases hy9
                      obtain ⟨w1, w2, w3, w4, w5⟩ := X''.leaveThrown a (g := F0 m pc ls (rest.map (tv ad))) rfl rfl rfl hout hm.2.2.2.2.1
                      refine ⟨_, st₁ _ (fun acts => ?_), kthr x rfl _ a ce _ w2 w3 w4 w5 hJ g6 g7 hcl⟩
                      rw [hin acts]
                      refine (z_weaken (mid := [.java (F0 m pc ls (rest.map (tv ad)))]) st2).trans ?_
                      rw [ht]
                      exact w1
                    · split at hr
                      · cases hr
                      · rename_i hp hh
                        obtain ⟨vm₂, X₂, st3⟩ := z_catch (zH_in hmi hh) (ls := ls) (st := rest.map (tv ad)) X'' hm hs.1 hh g6 g7 hcl
                        split at hr
                        · rename_i j nj hfj
                          obtain ⟨hdj, hzj⟩ := zfetch_ok hmi hfj
                          simp only [zok, Bool.and_eq_true, beq_iff_eq, decide_eq_true_eq] at hzj
                          obtain ⟨rfl, hzj⟩ := hzj
                          have hgo : W p l e R s m args below meth c T'.heap (locs ++ L1) (c0 + (k + zKm y)) (s0 + 6 * (k + zKm y)) Q (F0 m hp ls [.ref a]) :=
                            lv_astore hx hb hdj hl hzj rfl (fun ls' hl' => ih _ _ _ _ _ _ _ _ _ _ hr hmi hm hs hJ (z_tail hl') hRf hRl hRc hRs kret kthr)
                          obtain ⟨t4, st4, hq4⟩ := hgo (T'.setVm vm₂) rfl X₂
                          refine ⟨t4, st₁ _ (fun acts => ?_), hq4⟩
                          rw [hin acts]
                          refine (z_weaken (mid := [.java (F0 m pc ls (rest.map (tv ad)))]) st2).trans ?_
                          rw [ht]
                          exact st3 _ st4
                        · rename_i j nj hfj
                          obtain ⟨hdj, hzj⟩ := zfetch_ok hmi hfj
                          simp only [zok, Bool.and_eq_true, beq_iff_eq, decide_eq_true_eq] at hzj
                          obtain ⟨rfl, hzj⟩ := hzj
                          have hgo : W p l e R s m args below meth c T'.heap (locs ++ L1) (c0 + (k + zKm y)) (s0 + 6 * (k + zKm y)) Q (F0 m hp ls [.ref a]) :=
                            lv_astore_n hx hb hdj rfl hl hzj rfl (fun ls' hl' => ih _ _ _ _ _ _ _ _ _ _ hr hmi hm hs hJ (z_tail hl') hRf hRl hRc hRs kret kthr)
                          obtain ⟨t4, st4, hq4⟩ := hgo (T'.setVm vm₂) rfl X₂
                          refine ⟨t4, st₁ _ (fun acts => ?_), hq4⟩
                          rw [hin acts]
                          refine (z_weaken (mid := [.java (F0 m pc ls (rest.map (tv ad)))]) st2).trans ?_
                          rw [ht]
                          exact st3 _ st4
                        · cases hr
                  · cases hr
              · cases hr
          · split at hr
            · -- a return
              rename_i v hv
              cases hr
              exact kret v rfl _ _ _ _ _ _ _ hd hz hv hI
            · split at hr
              · -- a throw
                rename_i x hx9
                split at hr
                · rename_i hk
                  obtain ⟨hk, hst, hd6⟩ := hk
                  subst hst
                  cases hr
                  exact z_throw (zT_in hmi hx9) hx htr hm hs hx9 hI hl.1 (by omega) (by omega) (show c0 + k + 1 ≤ R.cells by omega) (show s0 + 6 * k + 6 ≤ R.slots by omega) (fun U a ce g1 g2 g3 g4 g5 g6 g7 g8 => kthr x rfl U a ce locs g1 g2 g3 (by
                    have e1 : s0 + 6 * (k + 1) = s0 + 6 * k + 6 := by omega
                    rw [e1]
                    exact g4) g5 g6 g7 g8)
                · cases hr
              · cases hr
end ZZ
