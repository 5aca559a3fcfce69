/-! .. the whole of such a run -/
section ZD
variable {p : Program} {l : Launch} {e : Env} {D : va_G} {cA : Nat → ClassId} {L : Nat} {xs : Nat → Int32} {ex : Nat → Nat}
/-- the end of a constructor's walk -/
def zQB (D : va_G) (cA : Nat → ClassId) (ex : Nat → Nat) (al : List Nat) (A : Nat → Prop) (s : State) (below : List Frame) (h' : zH) (kc ks : Nat) : State → Prop := fun t =>
  t.status = .running ∧ s.WarmedH t.vm ∧ ∃ locs al', s.sameButNew ({ t with vm := s.vm } : State) locs kc ks ∧ zPre al al' ∧ al.length ≤ al'.length ∧ al'.length = h'.length ∧ zwA h' ∧ zI D (zad ex al') cA A s h' t.heap locs ∧ Ended t below (.returned none)
def zGoalB (p : Program) (l : Launch) (e : Env) (D : va_G) (cA : Nat → ClassId) (L : Nat) (xs : Nat → Int32) (ex : Nat → Nat) (stop : Option Nat) (d : Nat) (mi : ZM) (pc : Nat) (lv : zL) (st : List Value) (h : zH) (bc bs : Nat) (lv' : zL) (h' : zH) (bc' bs' : Nat) : Prop :=
  ∀ {R : Room} {s : State} {m : MethodId} {args : Array Value} {below : List Frame} {meth : Method} {c : Code} {H : Heap} {locs : List Loc} {cells slots : Nat} {ls : Array Slot} {A : Nat → Prop} {Q : State → Prop} {al : List Nat},
    (mi = m_law ∨ mi ∈ zIni) → zM mi s m meth c → ((zNm mi).name = "<init>" → meth.name = "<init>") → va_AO zRealN s → zS D (zad ex al) cA A L xs s args → zI D (zad ex al) cA A s h H locs → al.length = h.length → zwA h → lv_has ls (zMl mi) (tl (zad ex al) lv) → d ≤ R.frames → 30 * d + 90 ≤ R.locals → cells + bc ≤ R.cells → slots + bs ≤ R.slots →
    (∀ (al' : List Nat) (ls' : Array Slot) (H' : Heap) (locs' : List Loc) (pcE cells' slots' : Nat), (stop = some pcE ∨ (decode (zCode mi) pcE = .ok (.return_, 1) ∧ zRt mi = none)) → zPre al al' → al.length ≤ al'.length → zI D (zad ex al') cA A s h' H' locs' → al'.length = h'.length → zwA h' → lv_has ls' (zMl mi) (tl (zad ex al') lv') → cells' + bc' = cells + bc → slots' + bs' = slots + bs →
      W p l e R s m args below meth c H' locs' cells' slots' Q (F0 m pcE ls' [])) →
    W p l e R s m args below meth c H locs cells slots Q (F0 m pc ls (st.map (tv (zad ex al))))
theorem zmk_w {ini : Bool} {d cn n nL pc w bc bs bc' bs' : Nat} {i : Instr} {lv : zL} {st st' : List Value} {h h' : zH} (hz : zok nL pc i n = true) (hn : (∀ x, i = .new x → n = 3) ∧ (∀ t, i = .newarray t → n = 2) ∧ (∀ x, i = .anewarray x → n = 3) ∧ (∀ x, i = .invokespecial x → n = 3)) (hk : zmk ini d cn i lv st h bc bs = some (w, st', h', bc', bs')) : n = w := by
  unfold zmk at hk
  split at hk
  · obtain rfl : n = 3 := by simpa [zok] using hz
    repeat' (split at hk)
    all_goals cases hk
    rfl
  · have := hn.1 _ rfl
    repeat' (split at hk)
    all_goals cases hk
    exact this
  · have := hn.2.1 _ rfl
    repeat' (split at hk)
    all_goals cases hk
    exact this
  · have := hn.2.2.1 _ rfl
    repeat' (split at hk)
    all_goals cases hk
    exact this
  · have := hn.2.2.2 _ rfl
    repeat' (split at hk)
    all_goals cases hk
    exact this
  · cases hk
set_option maxHeartbeats 4000000 in
theorem simB (hx : p.tables.exec = Jvm.exec) : ∀ (n : Nat) (stop : Option Nat) (d : Nat) (mi : ZM) (pc : Nat) (lv : zL) (st : List Value) (h : zH) (bc bs : Nat) (lv' : zL) (h' : zH) (bc' bs' : Nat), zbld L xs n stop d mi pc lv st h bc bs = some (lv', h', bc', bs') → zGoalB p l e D cA L xs ex stop d mi pc lv st h bc bs lv' h' bc' bs' := by
  intro n
  induction n with
  | zero =>
    intro stop d mi pc lv st h bc bs lv' h' bc' bs' hr
    unfold zbld at hr
    cases hr
  | succ n ih =>
    intro stop d mi pc lv st h bc bs lv' h' bc' bs' hr R s m args below meth c H locs cells slots ls A Q al hmi hm hnm hAO hs hI hal hwA hl hRf hRl hRc hRs kend
    unfold zbld at hr
    split at hr
    · -- the stop
      rename_i hpc
      split at hr
      · cases hr
        exact kend al ls H locs pc cells slots (Or.inl hpc) (zPre.refl _) (Nat.le_refl _) hI hal hwA hl rfl rfl
      · cases hr
    · split at hr
      · cases hr
      · rename_i i nn hf
        obtain ⟨hd, hz⟩ := zfetchI hmi hf
        have hlens := zLens hmi hf
        split at hr
        · rename_i pc' lv2 st2 h1
          exact sim1 hx hm.2.1 hd hz h1 hl (fun ls' hl' => ih _ _ _ _ _ _ _ _ _ _ _ _ _ hr hmi hm hnm hAO hs hI hal hwA hl' hRf hRl hRc hRs kend)
        · split at hr
          · rename_i w st2 h2' h2
            obtain ⟨q1, q2⟩ := z2_len h2 hwA
            exact sim2 hx hm.2.1 hd hz hm.1 hs h2 hI (fun H' locs' hI' => ih _ _ _ _ _ _ _ _ _ _ _ _ _ hr hmi hm hnm hAO hs hI' (by rw [q1]; exact hal) q2 hl hRf hRl hRc hRs kend)
          · split at hr
            · rename_i w st2 h2' bc2 bs2 hk
              refine simM hx hm hd hl.1 hnm hAO hs hI hal hwA hk hRf hRl hRc hRs (zmk_w hz hlens hk) (fun al2 H' locs' cells' slots' g1 g2 g3 g4 g5 g6 g7 g8 => ?_)
              refine ih _ _ _ _ _ _ _ _ _ _ _ _ _ hr hmi hm hnm hAO (zS_al hs) g3 g4 g5 (by rw [g6]; exact hl) hRf hRl (by omega) (by omega) (fun al3 ls3 H3 locs3 pcE c3 s3 k1 k2 k3 k4 k5 k6 k7 k8 k9 => ?_)
              exact kend al3 ls3 H3 locs3 pcE c3 s3 k1 (g1.trans g2 k2) (Nat.le_trans g2 k3) k4 k5 k6 k7 (by omega) (by omega)
            · split at hr
              · -- return
                obtain rfl : nn = 1 := by simpa [zok] using hz
                split at hr
                · cases hr
                  exact kend al ls H locs pc cells slots (Or.inr ⟨hd, by assumption⟩) (zPre.refl _) (Nat.le_refl _) hI hal hwA hl rfl rfl
                · cases hr
              · -- a constructor's call
                rename_i x
                split at hr
                · cases hr
                · rename_i y a hc
                  split at hr
                  · cases hr
                  · rename_i d'
                    split at hr
                    · rename_i q r hdr
                      split at hr
                      · rename_i hcc
                        obtain ⟨hc1, hc2, hc3, hc4, hc5⟩ := hcc
                        split at hr
                        · cases hr
                        · rename_i lv1 h1 bc1 bs1 hr1
                          split at hr
                          · rename_i hbb
                            have hn3 : nn = 3 := hlens.2.2.2 _ rfl
                            intro T hT X
                            subst hT
                            have hb := hm.2.1
                            obtain ⟨hy, mk, methk, ck, vm₁, hn, q1, q2, hMy, hnmy, X₁, st₁⟩ := z_invI (ls := ls) (ad := zad ex al) X hx hm.1 hs.1 (by rw [hb]; exact hd) hn3 hc hc1 hdr
                            subst hn3
                            obtain ⟨hcy, hpn, -, -⟩ := zIni_ok y hy
                            have hsz : (F0 m pc ls (r.map (tv (zad ex al)))).locals.size = c.maxLocals := hl.1.trans hm.2.2.1.symm
                            have hmk : (T.setVm vm₁).vm.method? mk = some methk := X₁.warmed.methodAt q1
                            have hpk : (T.setVm vm₁).plainMethod mk := X₁.warmed.plainAt (U := T.setVm vm₁) (fun k9 hk9 => by
                              obtain ⟨k8, hk8, hn8⟩ := className_of_methodNamed hn
                              cases hk9.symm.trans hk8
                              rw [hn8]
                              exact hpn)
                            have hmr : (F0 m pc ls (r.map (tv (zad ex al)))).monitorRoom = 0 := by simp [F0, JFrame.monitorRoom]
                            generalize has : (Value.ref q :: (st.take a).reverse) = as at hr1 hc3 st₁
                            obtain ⟨Y, hin⟩ := X₁.into (g := F0 m pc ls (r.map (tv (zad ex al)))) rfl hsz (by rw [hb]; exact hd) (as.map (tv (zad ex al))).toArray (R' := { frames := d', cells := bc, slots := bs, locals := 30 * d' + 90 }) hmk q2 hMy.2.2.2.2.1 hpk
                              (show d' + 1 ≤ R.frames by omega) (by rw [hmr, tv_sum, hMy.2.2.1]; show 2 * 0 + _ + (zMl y + 11) + (30 * d' + 90) ≤ _; omega) (show cells + bc ≤ R.cells by omega) (show slots + bs ≤ R.slots by omega)
                            obtain ⟨hs', hI', hsub⟩ := zS_into (s' := (T.setVm vm₁).calling (F0 m pc ls (r.map (tv (zad ex al)))) mk (as.map (tv (zad ex al))).toArray) (a' := (as.map (tv (zad ex al))).toArray) hs hI X₁.warmed rfl
                            have hM' : zM y ((T.setVm vm₁).calling (F0 m pc ls (r.map (tv (zad ex al)))) mk (as.map (tv (zad ex al))).toArray) mk methk ck := ⟨by
                              show (T.setVm vm₁).vm.findClass _ = _
                              rw [X₁.warmed.alike.findClass]
                              exact hMy.1, hMy.2⟩
                            have hle := lv_entry (as.map (tv (zad ex al))) (n := zMl y) (by rw [lg_sl_len]; exact hc3)
                            rw [tl_args] at hle
                            have hW := ih _ _ _ _ _ _ _ _ _ _ _ _ _ hr1 (R := { frames := d', cells := bc, slots := bs, locals := 30 * d' + 90 }) (cells := 0) (slots := 0) (Q := zQB D cA ex al (va_A (wd (zad ex al) cA h) T.heap.size) ((T.setVm vm₁).calling (F0 m pc ls (r.map (tv (zad ex al)))) mk (as.map (tv (zad ex al))).toArray) (.java (F0 m pc ls (r.map (tv (zad ex al)))) :: below) h1 (bc - bc1) (bs - bs1))
                              (args := (as.map (tv (zad ex al))).toArray) (below := .java (F0 m pc ls (r.map (tv (zad ex al)))) :: below) (Or.inr hy) hM' (fun _ => hnmy) (va_AO.moved X₁.warmed.alike hAO) hs' hI' hal hwA hle (Nat.le_refl _) (Nat.le_refl _) (by rw [Nat.zero_add]; exact Nat.le_refl _) (by rw [Nat.zero_add]; exact Nat.le_refl _)
                              (fun al2 ls2 H2 locs2 pcE c2 s2 k1 k2 k3 k4 k5 k6 k7 k8 k9 => by
                                have k1' : decode (zCode y) pcE = .ok (.return_, 1) ∧ zRt y = none := by
                                  rcases k1 with k1 | k1
                                  · cases k1
                                  · exact k1
                                have z1 : bc - bc1 = c2 := by omega
                                have z2 : bs - bs1 = s2 := by omega
                                rw [z1, z2]
                                refine W.mono (Q := MQ (.java (F0 m pc ls (r.map (tv (zad ex al)))) :: below) (fun _ _ o' t => o' = .returned none ∧ t.heap = H2) (as.map (tv (zad ex al))).toArray ((T.setVm vm₁).calling (F0 m pc ls (r.map (tv (zad ex al)))) mk (as.map (tv (zad ex al))).toArray) c2 s2 (fun q => ∃ l9 ∈ locs2, l9.base = q)) (fun t ht => ?_) (W.vret hx hM'.2.1 (hM'.2.2.2.1.trans k1'.2) (fun t ht _ => ⟨rfl, ht⟩) (fun q hq => ⟨q, hq, rfl⟩) k1'.1 hM'.2.2.2.2.1)
                                obtain ⟨o', w1, w2, ⟨w3, w4⟩, L9, ⟨-, w5, w6⟩, w7⟩ := ht
                                subst w3
                                refine ⟨w1, w5, L9, al2, w6, k2, k3, k5, k6, ⟨by rw [w4]; exact k4.1, k4.2.1, by rw [w4]; exact k4.2.2.1, by rw [w4]; exact k4.2.2.2.1, fun q9 hq9 => ?_⟩, w2⟩
                                obtain ⟨l9, e1, e2⟩ := w7 q9 hq9
                                rw [← e2]
                                exact k4.2.2.2.2 l9 e1)
                            have e0 : entryFrame mk (as.map (tv (zad ex al))).toArray ck.maxLocals = F0 mk 0 ((lg_sl (as.map (tv (zad ex al))) ++ List.replicate (zMl y - (lg_sl (as.map (tv (zad ex al)))).length) Slot.unset).toArray) [] := by rw [hMy.2.2.1]; exact lg_entry_eq _ _ _
                            obtain ⟨t, a1, g1, g2, L1, al2, g3, g4, g4', g5, g6, g7, g8⟩ := hW (((T.setVm vm₁).setTop (F0 m pc ls (r.map (tv (zad ex al))))).pushFrame (.java (entryFrame mk (as.map (tv (zad ex al))).toArray ck.maxLocals))) rfl Y
                            obtain ⟨T', X', hW', -, ht⟩ := X₁.outOf (g := F0 m pc ls (r.map (tv (zad ex al)))) rfl (by rw [hb]; exact hd) g8 g2 g3
                            have hheap : T'.heap = t.heap := by rw [ht]; rfl
                            have hJ := zI_back2 hI rfl hsub g7
                            rw [← hheap] at hJ
                            unfold zwF at hc4
                            rw [Bool.and_eq_true] at hc4
                            rw [← hal] at hc4
                            have hgo := ih _ _ _ _ _ _ _ _ _ _ _ _ _ hr (ls := ls) (cells := cells + (bc - bc1)) (slots := slots + (bs - bs1)) hmi hm hnm hAO (zS_al (al' := al2) hs) hJ g5 g6 (by rw [tl_pre g4 hc4.1]; exact hl) hRf hRl (by omega) (by omega) (fun al3 ls3 H3 locs3 pcE c3 s3 k1 k2 k3 k4 k5 k6 k7 k8 k9 =>
                              kend al3 ls3 H3 locs3 pcE c3 s3 k1 (g4.trans g4' k2) (Nat.le_trans g4' k3) k4 k5 k6 k7 (by omega) (by omega))
                            obtain ⟨t3, st3, hq3⟩ := hgo T' rfl X'
                            refine ⟨t3, st₁ _ (fun acts => ?_), hq3⟩
                            rw [hin acts]
                            refine (z_weaken (b := t) (mid := [.java (F0 m pc ls (r.map (tv (zad ex al))))]) ?_).trans ?_
                            · rw [show F0 mk 0 ((lg_sl (as.map (tv (zad ex al))) ++ List.replicate (zMl y - (lg_sl (as.map (tv (zad ex al)))).length) Slot.unset).toArray) (List.map (tv (zad ex al)) []) = entryFrame mk (as.map (tv (zad ex al))).toArray ck.maxLocals from e0.symm] at a1
                              exact a1
                            · rw [ht]
                              rw [map_pre g4 hc4.2] at st3
                              exact st3
                          · cases hr
                      · cases hr
                    · cases hr
              · cases hr
end ZD
