/-! .. until a place in the code -/
def zto (L : Nat) (xs : Nat → Int32) (mi : ZM) (tg : Nat) : Nat → Nat → zL → List Value → zH → Option (zL × List Value × zH)
  | 0, _, _, _, _ => none
  | n + 1, pc, lv, st, h => if pc = tg then some (lv, st, h) else match zfetch mi pc with
    | some (i, _) => (match z1 pc i lv st with
      | some (pc', lv', st') => zto L xs mi tg n pc' lv' st' h
      | none => (match z2 L xs (zCno mi) i st h with
        | some (w, st', h') => zto L xs mi tg n (pc + w) lv st' h'
        | none => none))
    | none => none
theorem zR_to' {L : Nat} {xs : Nat → Int32} {d : Nat} {mi : ZM} {tg : Nat} {lv' : zL} {st' : List Value} {h1 h' : zH} {k k' : Nat} {o : zO} : ∀ (n : Nat) {pc : Nat} {lv : zL} {st : List Value} {h : zH}, zto L xs mi tg n pc lv st h = some (lv', st', h1) → zR L xs d mi tg lv' st' h1 k o h' k' → zR L xs d mi pc lv st h k o h' k'
  | 0, pc, lv, st, h, h0, hR => by
    unfold zto at h0
    cases h0
  | n + 1, pc, lv, st, h, h0, hR => by
    unfold zto at h0
    split at h0
    · rename_i hp
      subst hp
      cases h0
      exact hR
    · split at h0
      · rename_i i nn hf
        split at h0
        · rename_i a b c h1
          exact zR_s hf h1 (zR_to' n h0 hR)
        · rename_i hn
          split at h0
          · rename_i a b c h2
            exact zR_h hf hn h2 rfl (zR_to' n h0 hR)
          · cases h0
      · cases h0
theorem zR_to {L : Nat} {xs : Nat → Int32} {d : Nat} {mi : ZM} (tg : Nat) {lv' : zL} {st' : List Value} {h1 h' : zH} {k k' : Nat} {o : zO} {pc : Nat} {lv : zL} {st : List Value} {h : zH} (h0 : zto L xs mi tg 80 pc lv st h = some (lv', st', h1)) (hR : zR L xs d mi tg lv' st' h1 k o h' k') : zR L xs d mi pc lv st h k o h' k' := zR_to' 80 h0 hR
