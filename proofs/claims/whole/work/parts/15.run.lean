/-! Calls, returns, throws; the pure machine's run -/
def zcall (cn : Nat) (i : Instr) (st : List Value) (h : zH) : Option (ZM × List Value × List Value) := match i with
  | .invokestatic x => (match zCalS cn x with
      | some (y, a) => if a ≤ st.length ∧ ((st.drop a).map fun v => v.category).sum + zMl y ≤ 19 ∧ ((st.take a).reverse.map fun v => v.category).sum ≤ zMl y then some (y, (st.take a).reverse, st.drop a) else none
      | none => none)
  | .invokevirtual x => (match zCalV cn x with
      | some (y, a) => (match st.drop a with
        | .ref k :: r => (match h[k]? with
          | some (.inr (ci, _)) => if ci = zCno y ∧ (r.map fun v => v.category).sum + zMl y ≤ 19 ∧ ((Value.ref k :: (st.take a).reverse).map fun v => v.category).sum ≤ zMl y then some (y, .ref k :: (st.take a).reverse, r) else none
          | _ => none)
        | _ => none)
      | none => none)
  | _ => none
def zret3 (mi : ZM) (i : Instr) (st : List Value) : Option (Option Value) := match i with
  | .ireturn => (match st with
      | [.int v] => (match zRt mi with | some .int => some (some (.int v)) | some .boolean => if v = 0 ∨ v = 1 then some (some (.int v)) else none | _ => none)
      | _ => none)
  | .lreturn => (match st with | [.long v] => (match zRt mi with | some .long => some (some (.long v)) | _ => none) | _ => none)
  | .areturn => (match st with | [.ref k] => (match zRt mi with | some (.object _) => some (some (.ref k)) | _ => none) | _ => none)
  | .return_ => (match st with | [] => (match zRt mi with | none => some none | _ => none) | _ => none)
  | _ => none
abbrev zO : Type := Option Value ⊕ Nat
def zrun (L : Nat) (xs : Nat → Int32) : Nat → Nat → ZM → Nat → zL → List Value → zH → Nat → Option (zO × zH × Nat)
  | 0, _, _, _, _, _, _, _ => none
  | n + 1, d, mi, pc, lv, st, h, k =>
    match zfetch mi pc with
    | none => none
    | some (i, _) =>
      match z1 pc i lv st with
      | some (pc', lv', st') => zrun L xs n d mi pc' lv' st' h k
      | none =>
      match z2 L xs (zCno mi) i st h with
      | some (w, st', h') => zrun L xs n d mi (pc + w) lv st' h' k
      | none =>
      match zcall (zCno mi) i st h with
      | some (y, as, rest) =>
        (match d with
         | 0 => none
         | d' + 1 => if k + zKm y ≤ zKm mi then
            (match zrun L xs n d' y 0 (lv_args 0 as) [] h 0 with
             | none => none
             | some (.inl v, h', k1) => if k1 ≤ zKm y then zrun L xs n (d' + 1) mi (pc + 3) lv (v.toList ++ rest) h' (k + zKm y) else none
             | some (.inr x, h', k1) => if k1 ≤ zKm y then (match zHs mi with
                | [] => some (.inr x, h', k + zKm y)
                | _ => (match zHan mi pc x with
                  | none => none
                  | some hp => (match zfetch mi hp with
                    | some (.astore j, _) => zrun L xs n (d' + 1) mi (hp + 2) (zdrop1 j lv) [] h' (k + zKm y)
                    | some (.astore_n j, _) => zrun L xs n (d' + 1) mi (hp + 1) (zdrop1 j lv) [] h' (k + zKm y)
                    | _ => none))) else none)
            else none)
      | none =>
      match zret3 mi i st with
      | some v => some (.inl v, h, k)
      | none =>
      match zThr mi pc with
      | some x => if k + 1 ≤ zKm mi ∧ st = [] ∧ 6 ≤ d then some (.inr x, h, k + 1) else none
      | none => none
/-- what is true of a method's frame -/
def zM (mi : ZM) (s : State) (m : MethodId) (meth : Method) (c : Code) : Prop :=
  s.vm.findClass (zCn (zCno mi)) = some m.cls ∧ c.code = zCode mi ∧ c.maxLocals = zMl mi ∧ meth.sig.returnType = zRt mi ∧ meth.locks = false ∧ c.exceptionTable.toList.map (fun h => (h.startPc, h.endPc, h.handlerPc, h.catchType)) = zHs mi
/-- the ends of a method's walk -/
def zQ (D : va_G) (ad : Nat → Nat) (cA : Nat → ClassId) (A : Nat → Prop) (s : State) (below : List Frame) (o : zO) (h : zH) (kc : Nat) : State → Prop := fun t =>
  t.status = .running ∧ s.WarmedH t.vm ∧ ∃ locs, s.sameButNew ({ t with vm := s.vm } : State) locs kc (6 * kc) ∧ zI D ad cA A s h t.heap locs ∧ (match o with
    | .inl v => Ended t below (.returned (v.map (tv ad)))
    | .inr x => ∃ (a : Nat) (ce : Cell), Ended t below (.threw a) ∧ t.heap[a]? = some ce ∧ ce.vm = .none ∧ s.vm.findClass (zXn x) = some ce.cls)
section ZR
variable {p : Program} {l : Launch} {e : Env} {R : Room} {s : State} {m : MethodId} {args : Array Value} {below : List Frame} {meth : Method} {c : Code} {H : Heap} {locs : List Loc} {cells slots : Nat} {Q : State → Prop}
variable {cc : ByteArray} {pc : Nat} {ls : Array Slot} {D : va_G} {ad : Nat → Nat} {cA : Nat → ClassId} {A : Nat → Prop} {L : Nat} {xs : Nat → Int32}
theorem W.mono {Q' : State → Prop} {g : JFrame} (hq : ∀ t, Q t → Q' t) (k : W p l e R s m args below meth c H locs cells slots Q g) : W p l e R s m args below meth c H locs cells slots Q' g := fun T hT X => by
  obtain ⟨t, a, b⟩ := k T hT X
  exact ⟨t, a, hq t b⟩
/-- a return -/
theorem z_ret {mi : ZM} {nL n kc : Nat} {i : Instr} {st : List Value} {v : Option Value} {h : zH} (hx : p.tables.exec = Jvm.exec) (hm : zM mi s m meth c) (hd : decode (zCode mi) pc = .ok (i, n)) (hz : zok nL pc i n = true) (hr : zret3 mi i st = some v) (hI : zI D ad cA A s h H locs) :
    W p l e R s m args below meth c H locs kc (6 * kc) (zQ D ad cA A s below (.inl v) h kc) (F0 m pc ls (st.map (tv ad))) := by
  obtain ⟨-, hb, -, hrt, hlk, -⟩ := hm
  have key : ∀ (o : Option Value) (t : State), MQ below (fun _ _ o' t => o' = .returned o ∧ t.heap = H) args s kc (6 * kc) (fun q => ∃ l9 ∈ locs, l9.base = q) t → o = v.map (tv ad) → zQ D ad cA A s below (.inl v) h kc t := by
    intro o t ht ho
    obtain ⟨o', h1, h2, ⟨h3, h4⟩, L9, ⟨-, h5, h6⟩, h7⟩ := ht
    subst h3
    subst ho
    refine ⟨h1, h5, L9, h6, ⟨by rw [h4]; exact hI.1, hI.2.1, by rw [h4]; exact hI.2.2.1, by rw [h4]; exact hI.2.2.2.1, fun q hq => ?_⟩, h2⟩
    obtain ⟨l9, e1, e2⟩ := h7 q hq
    rw [← e2]
    exact hI.2.2.2.2 l9 e1
  have hf : ∀ q ∈ locs, ∃ l9 ∈ locs, l9.base = q.base := fun q hq => ⟨q, hq, rfl⟩
  unfold zret3 at hr
  split at hr
  · obtain rfl : n = 1 := by simpa [zok] using hz
    split at hr
    · split at hr
      · rename_i hty
        cases hr
        exact W.mono (fun t ht => key _ t ht rfl) (W.iret hx hb (hrt.trans hty) (fun t ht _ => ⟨rfl, ht⟩) hf hd hlk)
      · rename_i hty
        split at hr
        · rename_i hv
          cases hr
          exact W.mono (fun t ht => key _ t ht rfl) (W.zret hx hb (hrt.trans hty) (by rcases hv with rfl | rfl <;> decide +kernel) (fun t ht _ => ⟨rfl, ht⟩) hf hd hlk)
        · cases hr
      · cases hr
    · cases hr
  · obtain rfl : n = 1 := by simpa [zok] using hz
    split at hr
    · split at hr
      · rename_i hty
        cases hr
        exact W.mono (fun t ht => key _ t ht rfl) (W.lret hx hb (hrt.trans hty) (fun t ht _ => ⟨rfl, ht⟩) hf hd hlk)
      · cases hr
    · cases hr
  · obtain rfl : n = 1 := by simpa [zok] using hz
    split at hr
    · split at hr
      · rename_i hty
        cases hr
        exact W.mono (fun t ht => key _ t ht rfl) (W.aret hx hb (hrt.trans hty) (Or.inl ⟨_, rfl⟩) (Or.inr ⟨_, rfl⟩) (fun t ht _ => ⟨rfl, ht⟩) hf hd hlk)
      · cases hr
    · cases hr
  · obtain rfl : n = 1 := by simpa [zok] using hz
    split at hr
    · split at hr
      · rename_i hty
        cases hr
        exact W.mono (fun t ht => key _ t ht rfl) (W.vret hx hb (hrt.trans hty) (fun t ht _ => ⟨rfl, ht⟩) hf hd hlk)
      · cases hr
    · cases hr
  · cases hr
end ZR
