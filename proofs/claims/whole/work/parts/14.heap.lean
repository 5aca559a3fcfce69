/-! The instructions that touch the heap or the tables (zFld, zInt, zLng, zSta, zTyp, zFin, zCl, zWs: part 01) -/
/-- what may be put into a field -/
def zput (ci j : Nat) (v : Value) : Bool := !zFin ci j && (match zTyp ci j, v with
  | .int, .int _ => true
  | .long, .long _ => true
  | .boolean, .int x => x == 0 || x == 1
  | _, _ => false)
theorem zput_spec {ci j : Nat} {v : Value} (h : zput ci j v = true) (ad : Nat → Nat) : zFin ci j = false ∧ narrow (zTyp ci j) (tv ad v) = tv ad v ∧ fits (zTyp ci j) (tv ad v) = true := by
  unfold zput at h
  rw [Bool.and_eq_true] at h
  obtain ⟨h0, h⟩ := h
  refine ⟨by simpa using h0, ?_⟩
  generalize zTyp ci j = ty at h ⊢
  split at h
  · exact ⟨rfl, rfl⟩
  · exact ⟨rfl, rfl⟩
  · rename_i x
    rw [Bool.or_eq_true, beq_iff_eq, beq_iff_eq] at h
    rcases h with rfl | rfl
    · exact (show narrow FieldType.boolean (.int 0) = .int 0 ∧ fits FieldType.boolean (.int 0) = true from by decide +kernel)
    · exact (show narrow FieldType.boolean (.int 1) = .int 1 ∧ fits FieldType.boolean (.int 1) = true from by decide +kernel)
  · cases h
/-- int arrays that nobody writes: the script, static tables -/
def zEx (L : Nat) (xs : Nat → Int32) (k : Nat) : Option (Nat × (Nat → Int32)) := if k = 1000 then some (L, xs) else zTab k
def z2 (L : Nat) (xs : Nat → Int32) (cn : Nat) (i : Instr) (st : List Value) (h : zH) : Option (Nat × List Value × zH) := match i with
  | .ldc x => (match zInt cn x with | some v => some (2, .int v :: st, h) | none => none)
  | .ldc2_w x => (match zLng cn x with | some v => some (3, .long v :: st, h) | none => none)
  | .getstatic x => (match zSta cn x with | some k => some (3, .ref k :: st, h) | none => none)
  | .getfield x => (match zFld cn x with
      | some (ci, j) => (match st with
        | .ref k :: r => (match h[k]? with
          | some (.inr (cj, fs)) => if cj = ci then (match fs[j]? with | some v => some (3, v :: r, h) | none => none) else none
          | _ => none)
        | _ => none)
      | none => none)
  | .putfield x => (match zFld cn x with
      | some (ci, j) => (match st with
        | v :: .ref k :: r => (match h[k]? with
          | some (.inr (cj, fs)) => if cj = ci ∧ j < fs.length ∧ zput ci j v = true then some (3, r, h.set k (.inr (ci, fs.set j v))) else none
          | _ => none)
        | _ => none)
      | none => none)
  | .arraylength => (match st with
      | .ref k :: r => (match zEx L xs k with | some (N, _) => some (1, .int (Int32.ofNat N) :: r, h) | none => none)
      | _ => none)
  | .iaload => (match st with
      | .int a :: .ref k :: r => (match zEx L xs k with
        | some (N, f) => if 0 ≤ a.toInt ∧ a.toInt < N then some (1, .int (f a.toNatClampNeg) :: r, h) else none
        | none => (match h[k]? with
          | some (.inl (0, N, .inl f)) => if 0 ≤ a.toInt ∧ a.toInt < N then some (1, .int (f a.toNatClampNeg) :: r, h) else none
          | _ => none))
      | _ => none)
  | .laload => (match st with
      | .int a :: .ref k :: r => (match h[k]? with
        | some (.inl (1, N, .inr (.inl f))) => if 0 ≤ a.toInt ∧ a.toInt < N then some (1, .long (f a.toNatClampNeg) :: r, h) else none
        | _ => none)
      | _ => none)
  | .baload => (match st with
      | .int a :: .ref k :: r => (match h[k]? with
        | some (.inl (2, N, .inl f)) => if 0 ≤ a.toInt ∧ a.toInt < N then some (1, .int (f a.toNatClampNeg) :: r, h) else none
        | _ => none)
      | _ => none)
  | .aaload => (match st with
      | .int a :: .ref k :: r => (match h[k]? with
        | some (.inl (3, N, .inr (.inr (.inr (.inr f))))) => if 0 ≤ a.toInt ∧ a.toInt < N then (match f a.toNatClampNeg with | some q => some (1, .ref q :: r, h) | none => none) else none
        | _ => none)
      | _ => none)
  | .iastore => (match st with
      | .int v :: .int a :: .ref k :: r => (match h[k]? with
        | some (.inl (0, N, .inl f)) => if 0 ≤ a.toInt ∧ a.toInt < N then some (1, r, h.set k (.inl (0, N, .inl (upd f a.toNatClampNeg v)))) else none
        | _ => none)
      | _ => none)
  | .lastore => (match st with
      | .long v :: .int a :: .ref k :: r => (match h[k]? with
        | some (.inl (1, N, .inr (.inl f))) => if 0 ≤ a.toInt ∧ a.toInt < N then some (1, r, h.set k (.inl (1, N, .inr (.inl (vp_updL f a.toNatClampNeg v))))) else none
        | _ => none)
      | _ => none)
  | .bastore => (match st with
      | .int v :: .int a :: .ref k :: r => (match h[k]? with
        | some (.inl (2, N, .inl f)) => if 0 ≤ a.toInt ∧ a.toInt < N then some (1, r, h.set k (.inl (2, N, .inl (upd f a.toNatClampNeg (vp_nar .boolean v))))) else none
        | _ => none)
      | _ => none)
  | .aastore => (match st with
      | .ref v :: .int a :: .ref k :: r => (match h[k]? with
        | some (.inl (3, N, .inr (.inr (.inr (.inr f))))) => (match h[v]? with
          | some (.inr (cj, _)) => if cj = zReal ∧ 0 ≤ a.toInt ∧ a.toInt < N then some (1, r, h.set k (.inl (3, N, .inr (.inr (.inr (.inr (va_up f a.toNatClampNeg (some v)))))))) else none
          | _ => none)
        | _ => none)
      | _ => none)
  | _ => none
/-- the array classes of a world -/
def zTt (cA : Nat → ClassId) : List (ClassId × FieldType) := [(cA 0, .int), (cA 1, .long), (cA 2, .boolean), (cA 3, .object zRealN)]
/-- what is true of the heap at any point of a method: the world h at the addresses ad, nothing outside A changed -/
def zI (D : va_G) (ad : Nat → Nat) (cA : Nat → ClassId) (A : Nat → Prop) (s : State) (h : zH) (H : Heap) (locs : List Loc) : Prop :=
  va_P D zCl (wd ad cA h) H ∧ va_D A (wd ad cA h) ∧ va_S A s.heap H locs
/-- what is true of a method's start for all its time: the tables' words, the classes, the arrays that nobody writes, the statics -/
def zS (D : va_G) (ad : Nat → Nat) (cA : Nat → ClassId) (A : Nat → Prop) (L : Nat) (xs : Nat → Int32) (s : State) (args : Array Value) : Prop :=
  (∀ w ∈ zWs, w.before args s = true) ∧ va_K D zCl (zTt cA) s ∧ (∀ (k N : Nat) (f : Nat → Int32), zEx L xs k = some (N, f) → va_T .int (ad k) N (fun j => .int (f j)) A s s.heap) ∧ (∀ (k : Nat) (C n d : String), (k, C, n, d) ∈ zStN → va_Z C n d (.ref (ad k)) A s s.heap) ∧ (∀ q : Nat, s.heap.size ≤ q → A q) ∧
  (∀ (C n d : String), (C, n, d) ∈ zStQ → vx_Zq C n d A s s.heap) ∧ (∀ (cn i : Nat) (tx : String), (cn, i, tx) ∈ zStr → ∃ q, vk_R (zCn cn) i tx q s)
section Z2
variable {p : Program} {l : Launch} {e : Env} {R : Room} {s : State} {m : MethodId} {args : Array Value} {below : List Frame} {meth : Method} {c : Code} {H : Heap} {locs : List Loc} {cells slots : Nat} {Q : State → Prop}
variable {cc : ByteArray} {pc : Nat} {ls : Array Slot} {D : va_G} {ad : Nat → Nat} {cA : Nat → ClassId} {A : Nat → Prop} {L : Nat} {xs : Nat → Int32}
theorem z_in {a : Int32} {N : Nat} (h : 0 ≤ a.toInt ∧ a.toInt < N) : vp_in a N := vp_in_iff.mpr h
set_option maxHeartbeats 4000000 in
theorem sim2 {cn nL n n' : Nat} {i : Instr} {st st' : List Value} {h h' : zH} (hx : p.tables.exec = Jvm.exec) (hb : c.code = cc) (hd : decode cc pc = .ok (i, n)) (hz : zok nL pc i n = true) (hown : s.vm.findClass (zCn cn) = some m.cls)
    (hs : zS D ad cA A L xs s args) (h2 : z2 L xs cn i st h = some (n', st', h')) (hI : zI D ad cA A s h H locs)
    (k : ∀ (H' : Heap) (locs' : List Loc), zI D ad cA A s h' H' locs' → W p l e R s m args below meth c H' locs' cells slots Q (F0 m (pc + n') ls (st'.map (tv ad)))) :
    W p l e R s m args below meth c H locs cells slots Q (F0 m pc ls (st.map (tv ad))) := by
  obtain ⟨hts, hK, hE, hZ, hA, -, -⟩ := hs
  obtain ⟨hP, hD, hS⟩ := id hI
  unfold z2 at h2
  split at h2
  · -- ldc
    obtain rfl : n = 2 := by simpa [zok] using hz
    split at h2
    · rename_i v hv
      cases h2
      exact lv_ldc hx hb hown (hts _ (zInt_ok hv)) hd (k _ _ hI)
    · cases h2
  · -- ldc2_w
    obtain rfl : n = 3 := by simpa [zok] using hz
    split at h2
    · rename_i v hv
      cases h2
      exact lv_ldc2 hx hb hown (hts _ (zLng_ok hv)) hd (k _ _ hI)
    · cases h2
  · -- getstatic
    obtain rfl : n = 3 := by simpa [zok] using hz
    split at h2
    · rename_i q hv
      cases h2
      obtain ⟨C, nm, ds, h1, h3⟩ := zSta_ok hv
      exact va_gets hx hb (hZ _ _ _ _ h1) hS hown (hts _ h3) (fun _ z => z) hd (k _ _ hI)
    · cases h2
  · -- getfield
    obtain rfl : n = 3 := by simpa [zok] using hz
    split at h2
    · rename_i ci j hv
      split at h2
      · rename_i q r
        split at h2
        · rename_i cj fs hq
          split at h2
          · rename_i hc
            subst hc
            split at h2
            · rename_i v hf
              cases h2
              obtain ⟨C, T, N, h1, h3, h4⟩ := zFld_ok hv
              have he := wd_get (ad := ad) (cA := cA) hq
              have hfv : (fs.map (tv ad))[j]? = some (tv ad v) := by rw [List.getElem?_map, hf]; rfl
              rcases h4 with h4 | ⟨host, h4⟩
              · exact va_get hx hb hts (zCl_ok h1).1 hown hK hP q he h1 j h3 (hts _ h4) (fun _ z => z) hfv hd (k _ _ hI)
              · exact va_getN hx hb hts (zCl_ok h1).1 hown hK hP q he h1 j h3 (hts _ h4) (fun _ z => z) hfv hd (k _ _ hI)
            · cases h2
          · cases h2
        · cases h2
      · cases h2
    · cases h2
  · -- putfield
    obtain rfl : n = 3 := by simpa [zok] using hz
    split at h2
    · rename_i ci j hv
      split at h2
      · rename_i v q r
        split at h2
        · rename_i cj fs hq
          split at h2
          · rename_i hc
            obtain ⟨hc, hj, hp⟩ := hc
            subst hc
            cases h2
            obtain ⟨C, T, N, h1, h3, h4⟩ := zFld_ok hv
            obtain ⟨hf, hn, hfit⟩ := zput_spec hp ad
            have he := wd_get (ad := ad) (cA := cA) hq
            have hw : (wd ad cA h).set q (ad q, .inr (cj, (fs.map (tv ad)).set j (tv ad v))) = wd ad cA (h.set q (.inr (cj, fs.set j v))) := by
              rw [← wd_set, show (fs.map (tv ad)).set j (tv ad v) = (fs.set j v).map (tv ad) from List.map_set.symm]
              rfl
            rcases h4 with h4 | ⟨host, h4⟩
            · refine va_put hx hb hts (zCl_ok h1).1 (zTyp cj) (zCl_ok h1).2.1 (zCl_ok h1).2.2.1 hown hK hP hD hS q he h1 j h3 (hts _ h4) (fun _ z => z) (((zCl_ok h1).2.2.2 j h3).symm.trans hf) ((zCl_ok h1).2.1 j h3) hn hfit (by rw [List.length_map]; exact hj) hd (fun H1 locs1 hP1 hD1 hS1 => k H1 locs1 ⟨?_, ?_, hS1⟩)
              · rw [← hw]; exact hP1
              · rw [← hw]; exact hD1
            · refine va_putN hx hb hts (zCl_ok h1).1 (zTyp cj) (zCl_ok h1).2.1 (zCl_ok h1).2.2.1 hown hK hP hD hS q he h1 j h3 (hts _ h4) (fun _ z => z) (((zCl_ok h1).2.2.2 j h3).symm.trans hf) ((zCl_ok h1).2.1 j h3) hn hfit (by rw [List.length_map]; exact hj) hd (fun H1 locs1 hP1 hD1 hS1 => k H1 locs1 ⟨?_, ?_, hS1⟩)
              · rw [← hw]; exact hP1
              · rw [← hw]; exact hD1
          · cases h2
        · cases h2
      · cases h2
    · cases h2
  · -- arraylength
    obtain rfl : n = 1 := by simpa [zok] using hz
    split at h2
    · rename_i q r
      split at h2
      · rename_i N f hf
        cases h2
        obtain ⟨cell, q1, q2, q3, q4, q5, q6, q7⟩ := hE _ _ _ hf
        have hq : H[ad q]? = some cell := by rw [hS.2.1 _ (Array.getElem?_eq_some_iff.mp q1).1 q7]; exact q1
        exact W.alen hx hb hq q2 q5 rfl rfl hd (k _ _ hI)
      · cases h2
    · cases h2
  · -- iaload
    obtain rfl : n = 1 := by simpa [zok] using hz
    split at h2
    · rename_i a q r
      split at h2
      · rename_i N f hf
        split at h2
        · rename_i hin
          cases h2
          exact va_ti hx hb (hE _ _ _ hf) hS (z_in hin) rfl hd (k _ _ hI)
        · cases h2
      · split at h2
        · rename_i N f hq
          split at h2
          · rename_i hin
            cases h2
            exact va_iald hx hb hK hP q 0 (wd_get hq) rfl (z_in hin) hd (k _ _ hI)
          · cases h2
        · cases h2
    · cases h2
  · -- laload
    obtain rfl : n = 1 := by simpa [zok] using hz
    split at h2
    · rename_i a q r
      split at h2
      · rename_i N f hq
        split at h2
        · rename_i hin
          cases h2
          exact va_lald hx hb hK hP q 1 (wd_get hq) rfl (z_in hin) hd (k _ _ hI)
        · cases h2
      · cases h2
    · cases h2
  · -- baload
    obtain rfl : n = 1 := by simpa [zok] using hz
    split at h2
    · rename_i a q r
      split at h2
      · rename_i N f hq
        split at h2
        · rename_i hin
          cases h2
          exact va_zald hx hb hK hP q 2 (wd_get hq) rfl (z_in hin) hd (k _ _ hI)
        · cases h2
      · cases h2
    · cases h2
  · -- aaload
    obtain rfl : n = 1 := by simpa [zok] using hz
    split at h2
    · rename_i a q r
      split at h2
      · rename_i N f hq
        split at h2
        · rename_i hin
          split at h2
          · rename_i y hy
            cases h2
            refine va_aldq hx hb hK hP q 3 (wd_get hq) rfl (z_in hin) hd ?_
            have h9 := k _ _ hI
            rw [hy]
            exact h9
          · cases h2
        · cases h2
      · cases h2
    · cases h2
  · -- iastore
    obtain rfl : n = 1 := by simpa [zok] using hz
    split at h2
    · rename_i v a q r
      split at h2
      · rename_i N f hq
        split at h2
        · rename_i hin
          cases h2
          refine va_iast hx hb hK hP hD hS q 0 (wd_get hq) rfl (z_in hin) hd (fun H1 locs1 hP1 hD1 hS1 => k H1 locs1 ⟨?_, ?_, hS1⟩)
          · rw [← wd_set]; exact hP1
          · rw [← wd_set]; exact hD1
        · cases h2
      · cases h2
    · cases h2
  · -- lastore
    obtain rfl : n = 1 := by simpa [zok] using hz
    split at h2
    · rename_i v a q r
      split at h2
      · rename_i N f hq
        split at h2
        · rename_i hin
          cases h2
          refine va_last hx hb hK hP hD hS q 1 (wd_get hq) rfl (z_in hin) hd (fun H1 locs1 hP1 hD1 hS1 => k H1 locs1 ⟨?_, ?_, hS1⟩)
          · rw [← wd_set]; exact hP1
          · rw [← wd_set]; exact hD1
        · cases h2
      · cases h2
    · cases h2
  · -- bastore
    obtain rfl : n = 1 := by simpa [zok] using hz
    split at h2
    · rename_i v a q r
      split at h2
      · rename_i N f hq
        split at h2
        · rename_i hin
          cases h2
          refine va_zast hx hb hK hP hD hS q 2 (wd_get hq) rfl (z_in hin) hd (fun H1 locs1 hP1 hD1 hS1 => k H1 locs1 ⟨?_, ?_, hS1⟩)
          · rw [← wd_set]; exact hP1
          · rw [← wd_set]; exact hD1
        · cases h2
      · cases h2
    · cases h2
  · -- aastore
    obtain rfl : n = 1 := by simpa [zok] using hz
    split at h2
    · rename_i v a q r
      split at h2
      · rename_i N f hq
        split at h2
        · rename_i cj fs hv
          split at h2
          · rename_i hin
            obtain ⟨rfl, hin⟩ := hin
            cases h2
            have hw : (wd ad cA h).set q (ad q, .inl (cA 3, N, .inr (.inr (.inr (.inr (va_up (fun i => (f i).map ad) a.toNatClampNeg (some (ad v)))))))) = wd ad cA (h.set q (.inl (3, N, .inr (.inr (.inr (.inr (va_up f a.toNatClampNeg (some v)))))))) := by
              rw [← wd_set]
              have e1 : va_up (fun i => (f i).map ad) a.toNatClampNeg (some (ad v)) = (fun i => (va_up f a.toNatClampNeg (some v) i).map ad) := by
                funext i
                unfold va_up
                by_cases hi : i = a.toNatClampNeg
                · rw [if_pos hi, if_pos hi]; rfl
                · rw [if_neg hi, if_neg hi]
              rw [e1]
              rfl
            refine va_astq hx hb hK hP hD hS q 3 v zReal (wd_get hq) rfl (wd_get hv) zReal_ok (z_in hin) hd (fun H1 locs1 hP1 hD1 hS1 => k H1 locs1 ⟨?_, ?_, hS1⟩)
            · rw [← hw]; exact hP1
            · rw [← hw]; exact hD1
          · cases h2
        · cases h2
      · cases h2
    · cases h2
  · cases h2
end Z2
