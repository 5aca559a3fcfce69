/-! writeReal of the reference -/
def bnS (v : RV) : Nat := if rn v then 1 else 0
def bnE (fd : Nat) (v : RV) : Nat := if rk v = 0 then 0 else if rk v = 2 then 2 ^ fd - 1 else (zr v + (2 ^ (fd - 1) - 1 : Nat)).toNat
def bnF (fr : Nat) (v : RV) : Nat := if rk v = 1 then rs v / 2 ^ (63 - fr) % 2 ^ fr else 0
def bnI (fd fr : Nat) (v : RV) : Int64 := lN ((bnS v * 2 ^ fd + bnE fd v) * 2 ^ fr + bnF fr v)
def bOk (fd : Nat) (v : RV) : Prop := rk v = 0 ∨ rk v = 2 ∨ (rk v = 1 ∧ 1 - ((2 ^ (fd - 1) - 1 : Nat) : Int) ≤ zr v ∧ zr v ≤ ((2 ^ (fd - 1) - 1 : Nat) : Int))
theorem uN_lN {n : Nat} (h : n < 2 ^ 64) : uN (lN n) = n := by
  show (lN n).toBitVec.toNat = n
  exact wb_tn h
theorem rSg_ge {K : Nat} (h : K ≠ 0) : 2 ^ 63 ≤ rSg K := by
  have h1 := nb_shZ h (n := 64 - (nb K : Int)) (by omega)
  have h2 : nb (rSg K) = 64 := by
    show nb (shZ K (64 - (nb K : Int))) = 64
    omega
  have h3 : rSg K ≠ 0 := fun h9 => by
    rw [h9] at h2
    cases h2
  have h4 := nb_le h3
  rw [h2] at h4
  exact h4
/-- what a rounded number is -/
theorem rVal_is {w p X : Nat} {mb : Bool} {g q : Int} (hX : X ≠ 0) (hp : pOk p) (hg : 1 ≤ g ∧ g ≤ 20000) :
    (rk (rVal w mb X p g q) = 0 ∧ re (rVal w mb X p g q) = 0 ∧ (rVal w mb X p g q).2.2.2 = 0) ∨ (rk (rVal w mb X p g q) = 2 ∧ re (rVal w mb X p g q) = 0 ∧ (rVal w mb X p g q).2.2.2 = 0) ∨ (rk (rVal w mb X p g q) = 1 ∧ 2 ^ 63 ≤ rs (rVal w mb X p g q) ∧ 1 - g ≤ zr (rVal w mb X p g q) ∧ zr (rVal w mb X p g q) ≤ g) := by
  have hp1 : 1 ≤ p ∧ p ≤ 64 := by rcases hp with rfl | rfl | rfl <;> decide
  have hK0 : rK1 w mb X p ≠ 0 := by
    obtain ⟨h1, -⟩ := rK_rng hX hp1.1
    have := Nat.pow_pos (n := p - 1) (show 0 < 2 by decide)
    unfold rK1
    omega
  unfold rVal
  split
  · split
    · refine Or.inr (Or.inr ⟨rfl, ?_, ?_, ?_⟩)
      · show 2 ^ 63 ≤ uN (sgM p)
        rcases hp with rfl | rfl | rfl <;> decide +kernel
      · show 1 - g ≤ (iZ g).toInt
        rw [iZ_toInt (by omega) (by omega)]
        omega
      · show (iZ g).toInt ≤ g
        rw [iZ_toInt (by omega) (by omega)]
        omega
    · exact Or.inr (Or.inl ⟨rfl, rfl, rfl⟩)
  · split
    · exact Or.inl ⟨rfl, rfl, rfl⟩
    · rename_i h1 h2
      refine Or.inr (Or.inr ⟨rfl, ?_, ?_, ?_⟩)
      · show 2 ^ 63 ≤ uN (lN (rSg (rK1 w mb X p)))
        rw [uN_lN (rSg_lt hK0)]
        exact rSg_ge hK0
      · show 1 - g ≤ (iZ _).toInt
        rw [iZ_toInt (by omega) (by omega)]
        omega
      · show (iZ _).toInt ≤ g
        rw [iZ_toInt (by omega) (by omega)]
        omega
def wrG (fd : Nat) : Int := ((2 ^ (fd - 1) - 1 : Nat) : Int)
def wrR (w fd fr : Nat) (v : RV) : Int64 × Int32 := if rk v = 3 then (lN (2 ^ (fd + fr) - 1), 0) else if rk v = 1 then (bnI fd fr (rVal w (rn v) (rs v) (fr + 1) (wrG fd) (zr v - 63)), rNt w (rn v) (rs v) (fr + 1) (wrG fd) (zr v - 63)) else (bnI fd fr v, 0)
theorem i2l_iZ {z : Int} (h : -2147483648 ≤ z ∧ z < 2147483648) : (iZ z).toInt64 = Int64.ofInt z := by
  apply Int64.toInt_inj.mp
  rw [Int32.toInt_toInt64, iZ_toInt h.1 h.2, Int64.toInt_ofInt]
  exact (Int.bmod_eq_of_le (by show -(18446744073709551616 / 2 : Int) ≤ z; omega) (by show z < (18446744073709551616 + 1) / 2; omega)).symm
theorem i2l_add {z : Int} {g : Nat} (h : -2147483648 ≤ z ∧ z < 2147483648) (h0 : 0 ≤ z + g) : (iZ z).toInt64 + lN g = lN (z + g).toNat := by
  have hl : ∀ n : Nat, lN n = Int64.ofInt (n : Int) := fun n => Int64.ofInt_eq_ofNat.symm
  rw [i2l_iZ h, hl, hl, ← Int64.ofInt_add, show (((z + g).toNat : Nat) : Int) = z + g by omega]
section WR
variable {L : Nat} {xs : Nat → Int32} {d : Nat} {C : Nat → zC} {u : zC} {a : Nat → Int32} {b : Nat → Int64} {M : Nat → Int64} {R : Nat → Nat} {V : Nat → RV}
theorem fOk_half {fd fr : Nat} (h : fOk fd fr) : (2 ^ fd - 1) / 2 = 2 ^ (fd - 1) - 1 ∧ 2 ^ fd - 1 < 2 ^ 31 ∧ 2 * (2 ^ (fd - 1) - 1) = 2 ^ fd - 2 ∧ 4 ≤ 2 ^ fd := by
  rcases h with ⟨rfl, rfl⟩ | ⟨rfl, rfl⟩ <;> decide
theorem bn_lt {fd fr : Nat} {v : RV} (hf : fOk fd fr) (hb : bOk fd v) : bnE fd v < 2 ^ fd ∧ bnF fr v < 2 ^ fr := by
  obtain ⟨h1, h2, h3, h4⟩ := fOk_half hf
  constructor
  · unfold bnE
    split
    · omega
    · rename_i h0
      split
      · omega
      · rename_i h9
        rcases hb with hb | hb | hb
        · exact absurd hb h0
        · exact absurd hb h9
        · omega
  · unfold bnF
    split
    · exact Nat.mod_lt _ (Nat.pow_pos (by decide))
    · exact Nat.pow_pos (by decide)
theorem bn_or {s E F fd fr : Nat} (hs : s < 2) (hE : E < 2 ^ fd) (hF : F < 2 ^ fr) (hf : fd + fr < 64) : lN (s * 2 ^ (fd + fr)) ||| lN (E * 2 ^ fr) ||| lN F = lN ((s * 2 ^ fd + E) * 2 ^ fr + F) := by
  have e1 : E * 2 ^ fr < 2 ^ (fd + fr) := by
    rw [Nat.pow_add]
    exact Nat.mul_lt_mul_of_pos_right hE (Nat.pow_pos (by decide))
  have e2 : (2 : Nat) ^ (fd + fr) ≤ 2 ^ 63 := Nat.pow_le_pow_right (by decide) (by omega)
  have e3 : s * 2 ^ (fd + fr) ≤ 1 * 2 ^ (fd + fr) := Nat.mul_le_mul_right _ (by omega)
  have e4 : s * 2 ^ (fd + fr) + E * 2 ^ fr = (s * 2 ^ fd + E) * 2 ^ fr := by
    rw [Nat.add_mul, Nat.pow_add, Nat.mul_assoc]
  have e5 : E * 2 ^ fr + 2 ^ fr ≤ 2 ^ (fd + fr) := by
    rw [Nat.pow_add]
    have := Nat.mul_le_mul_right (2 ^ fr) (show E + 1 ≤ 2 ^ fd from hE)
    rw [Nat.add_mul, Nat.one_mul] at this
    exact this
  rw [g_or (k := fd + fr) rfl e1 (by omega), e4, g_or (k := fr) rfl hF (by rw [← e4]; omega)]
set_option maxRecDepth 10000 in
set_option maxHeartbeats 4000000 in
theorem t_Mo_writeReal {fd fr : Nat} {v : RV} (hf : fOk fd fr) (hV : V 10 = v) (hb : bOk fd v) : zR L xs d m_Mo_writeReal 86 [(3, .long (lN (2 ^ fd - 1))), (0, .ref 20), (1, .int (nI fd)), (2, .int (nI fr))] [] (mV C u a b V M R) 0 (.inl (some (.long (bnI fd fr v)))) (mV C u a b V M R) 0 := by
  obtain ⟨h1, h2, h3, h4⟩ := fOk_half hf
  obtain ⟨hE, hF⟩ := bn_lt hf hb
  have hfd : fd ≤ 11 ∧ fr ≤ 52 ∧ fd + fr < 64 ∧ 1 ≤ fr := by rcases hf with ⟨rfl, rfl⟩ | ⟨rfl, rfl⟩ <;> decide
  have hk : rk (V 10) = rk v := by rw [hV]
  -- the end
  have fin : ∀ s : Nat, bnS v = s → s < 2 → zR L xs d m_Mo_writeReal 187 [(9, .long (lN (s * 2 ^ (fd + fr)))), (7, .long (lN (bnF fr v))), (5, .long (lN (bnE fd v))), (2, .int (nI fr))] [] (mV C u a b V M R) 0 (.inl (some (.long (bnI fd fr v)))) (mV C u a b V M R) 0 := by
    intro s hs h9
    refine zR_to 193 (st' := [.long (lN (bnE fd v) <<< ((nI fr).toInt64 &&& 63)), .long (lN (s * 2 ^ (fd + fr)))]) rfl ?_
    rw [wb_shl _ (show fr < 64 by omega)]
    refine zR_to 197 (st' := [.long (lN (s * 2 ^ (fd + fr)) ||| lN (bnE fd v * 2 ^ fr) ||| lN (bnF fr v))]) rfl ?_
    rw [bn_or h9 hE hF hfd.2.2.1]
    unfold bnI
    rw [hs]
    exact zR_e rfl rfl rfl rfl rfl rfl
  -- the sign
  have sgn : zR L xs d m_Mo_writeReal 166 [(7, .long (lN (bnF fr v))), (5, .long (lN (bnE fd v))), (0, .ref 20), (1, .int (nI fd)), (2, .int (nI fr))] [] (mV C u a b V M R) 0 (.inl (some (.long (bnI fd fr v)))) (mV C u a b V M R) 0 := by
    refine zR_to 173 (st' := [.int (bI (rn (V 10)))]) rfl ?_
    rw [hV]
    cases hn : rn v with
    | true =>
      refine zR_to 180 (st' := [.int (nI fd + nI fr), .long (lN 1)]) rfl ?_
      rw [nI_add]
      refine zR_to 181 (st' := [.long (lN 1 <<< ((nI (fd + fr)).toInt64 &&& 63))]) rfl ?_
      rw [wb_shl 1 hfd.2.2.1]
      refine zR_to 187 rfl ?_
      refine zR_w (fin 1 (by unfold bnS; rw [hn]; rfl) (by decide)) rfl rfl ⟨rfl, rfl, rfl, rfl, trivial⟩
    | false =>
      refine zR_to 187 rfl ?_
      have h9 := fin 0 (by unfold bnS; rw [hn]; rfl) (by decide)
      rw [Nat.zero_mul] at h9
      exact zR_w h9 rfl rfl ⟨rfl, rfl, rfl, rfl, trivial⟩
  -- the fraction
  have fra : zR L xs d m_Mo_writeReal 131 [(5, .long (lN (bnE fd v))), (0, .ref 20), (1, .int (nI fd)), (2, .int (nI fr))] [] (mV C u a b V M R) 0 (.inl (some (.long (bnI fd fr v)))) (mV C u a b V M R) 0 := by
    refine zR_to 139 (st' := [.int 1, .int (rk (V 10))]) rfl ?_
    rw [hk]
    refine zR_m 1 rfl ?_
    refine zR_if (fun h => ?_) (fun h => ?_)
    · rw [show bnF fr v = 0 from if_neg h] at sgn
      refine zR_to 166 rfl ?_
      exact zR_w sgn rfl rfl ⟨rfl, rfl, rfl, rfl, rfl, trivial⟩
    · rw [show bnF fr v = rs v / 2 ^ (63 - fr) % 2 ^ fr from if_pos (Decidable.of_not_not h)] at sgn
      refine zR_to 152 (st' := [.int (nI fr), .int (nI 63), .long (V 10).2.2.2]) rfl ?_
      rw [hV, ← lN_uN v.2.2.2]
      refine zR_to 153 (st' := [.int (nI 63 - nI fr), .long (lN (uN v.2.2.2))]) rfl ?_
      rw [pk_sub (show fr ≤ 63 by omega)]
      refine zR_to 154 (st' := [.long ((lN (uN v.2.2.2)).toUInt64 >>> ((nI (63 - fr)).toInt64.toUInt64 &&& Int64.toUInt64 63)).toInt64]) rfl ?_
      rw [wb_shr (uN_lt2 _) (show 63 - fr < 64 by omega)]
      refine zR_to 157 (st' := [.long (lN 1 <<< ((nI fr).toInt64 &&& 63)), .long (lN (uN v.2.2.2 / 2 ^ (63 - fr)))]) rfl ?_
      rw [wb_shl 1 (show fr < 64 by omega)]
      refine zR_to 159 (st' := [.long (lN (1 * 2 ^ fr) - lN 1), .long (lN (uN v.2.2.2 / 2 ^ (63 - fr)))]) rfl ?_
      rw [lN_sub (by have := Nat.pow_pos (n := fr) (show 0 < 2 by decide); omega), Nat.one_mul]
      refine zR_to 160 (st' := [.long (lN (uN v.2.2.2 / 2 ^ (63 - fr)) &&& lN (2 ^ fr - 1))]) rfl ?_
      rw [wb_mask (Nat.lt_of_le_of_lt (Nat.div_le_self _ _) (uN_lt2 _)) (show fr < 64 by omega)]
      refine zR_to 166 rfl ?_
      exact zR_w sgn rfl rfl ⟨rfl, rfl, rfl, rfl, rfl, trivial⟩
  refine zR_to 93 (st' := [.int (rk (V 10))]) rfl ?_
  rw [hk]
  refine zR_m 1 rfl ?_
  refine zR_if (fun h0 => ?_) (fun h0 => ?_)
  · refine zR_to 108 (st' := [.int 2, .int (rk (V 10))]) rfl ?_
    rw [hk]
    refine zR_m 1 rfl ?_
    refine zR_if (fun h9 => ?_) (fun h9 => ?_)
    · have hb1 : rk v = 1 ∧ 1 - ((2 ^ (fd - 1) - 1 : Nat) : Int) ≤ zr v ∧ zr v ≤ ((2 ^ (fd - 1) - 1 : Nat) : Int) := by
        rcases hb with hb | hb | hb
        · exact absurd hb h0
        · exact absurd hb h9
        · exact hb
      rw [show bnE fd v = (zr v + (2 ^ (fd - 1) - 1 : Nat)).toNat from by unfold bnE; rw [if_neg h0, if_neg h9]] at fra
      refine zR_to 122 (st' := [.int (re (V 10))]) rfl ?_
      rw [hV, re_zr v]
      refine zR_to 128 (st' := [.long (lN (2 ^ fd - 1) / lN 2), .long (iZ (zr v)).toInt64]) rfl ?_
      rw [pk_lDiv (by omega) (by decide) (by decide), h1]
      refine zR_to 129 (st' := [.long ((iZ (zr v)).toInt64 + lN (2 ^ (fd - 1) - 1))]) rfl ?_
      rw [i2l_add (by omega) (by omega)]
      refine zR_to 131 rfl ?_
      exact zR_w fra rfl rfl ⟨rfl, rfl, rfl, rfl, trivial⟩
    · rw [show bnE fd v = 2 ^ fd - 1 from by unfold bnE; rw [if_neg h0, if_pos (Decidable.of_not_not h9)]] at fra
      refine zR_to 131 rfl ?_
      exact zR_w fra rfl rfl ⟨rfl, rfl, rfl, rfl, trivial⟩
  · rw [show bnE fd v = 0 from if_pos (Decidable.of_not_not h0)] at fra
    refine zR_to 131 rfl ?_
    exact zR_w fra rfl rfl ⟨rfl, rfl, rfl, rfl, trivial⟩
set_option maxRecDepth 10000 in
set_option maxHeartbeats 4000000 in
theorem e_Mo_writeReal {fd fr w : Nat} (hf : fOk fd fr) (hw : a 2 = nI w) (hw4 : w < 4) (hx : vOk (V 8)) (hR : Rok R) : ∃ R' V', Rok R' ∧ (∀ i, i < 8 → V' i = V i) ∧ zE L xs (d + 4) m_Mo_writeReal [.ref 20, .int (nI fd), .int (nI fr)] (mV C u a b V M R) (.inl (some (.long (wrR w fd fr (V 8)).1))) (mV C u (nt a (wrR w fd fr (V 8)).2) b V' M R') := by
  obtain ⟨h1, h2, h3, h4⟩ := fOk_half hf
  have hfd : fd ≤ 11 ∧ fr ≤ 52 ∧ fd + fr < 64 ∧ 1 ≤ fr := by rcases hf with ⟨rfl, rfl⟩ | ⟨rfl, rfl⟩ <;> decide
  have hp : pOk (fr + 1) := by
    rcases hf with ⟨rfl, rfl⟩ | ⟨rfl, rfl⟩
    · exact Or.inr (Or.inl rfl)
    · exact Or.inl rfl
  have hg : 1 ≤ wrG fd ∧ wrG fd ≤ 20000 := by
    rcases hf with ⟨rfl, rfl⟩ | ⟨rfl, rfl⟩ <;> decide
  have go : ∀ {o : zO} {h9 : zH}, zR L xs (d + 4) m_Mo_writeReal 22 [(3, .long (lN (2 ^ fd - 1))), (0, .ref 20), (1, .int (nI fd)), (2, .int (nI fr))] [.int 3, .int (rk (V 8))] (mV C u a b (fu V 10 (V 8)) M R) 0 o h9 0 → zE L xs (d + 4) m_Mo_writeReal [.ref 20, .int (nI fd), .int (nI fr)] (mV C u a b V M R) o h9 := fun {o h9} hr => by
    refine ⟨0, Nat.zero_le _, ?_⟩
    refine zR_to 3 (st' := [.long (lN 1 <<< ((nI fd).toInt64 &&& 63))]) rfl ?_
    rw [wb_shl 1 (show fd < 64 by omega)]
    refine zR_to 5 (st' := [.long (lN (1 * 2 ^ fd) - lN 1)]) rfl ?_
    rw [lN_sub (by omega), Nat.one_mul]
    refine zR_to 11 (st' := [.int (nI 10), .int (nI 8), .ref 20]) rfl ?_
    refine zR_v rfl rfl rfl rfl rfl ⟨rfl, Nat.le_of_ble_eq_true rfl, Nat.le_of_ble_eq_true rfl⟩ rfl (Nat.le_refl _) (e_Mo_copy (f := 8) (t := 10) (by decide) (by decide)) rfl rfl ?_
    exact zR_to 22 rfl hr
  unfold wrR
  by_cases h3k : rk (V 8) = 3
  · rw [if_pos h3k, nt_0]
    refine ⟨R, fu V 10 (V 8), hR, fun i hi => fu_n (by omega), go ?_⟩
    rw [h3k]
    refine zR_to 29 (st' := [.int (nI fd + nI fr), .long (lN 1)]) rfl ?_
    rw [nI_add]
    refine zR_to 30 (st' := [.long (lN 1 <<< ((nI (fd + fr)).toInt64 &&& 63))]) rfl ?_
    rw [wb_shl 1 hfd.2.2.1]
    refine zR_to 32 (st' := [.long (lN (1 * 2 ^ (fd + fr)) - lN 1)]) rfl ?_
    rw [lN_sub (by have := Nat.pow_pos (n := fd + fr) (show 0 < 2 by decide); omega), Nat.one_mul]
    exact zR_e rfl rfl rfl rfl rfl rfl
  · rw [if_neg h3k]
    by_cases h1k : rk (V 8) = 1
    · rw [if_pos h1k]
      obtain ⟨x1, x2, x3⟩ := hx.2.1 h1k
      have hX : rs (V 8) ≠ 0 := by omega
      have h64 := nb64 x1 (uN_lt2 _)
      have hR1 : Rok (fu R 0 (rs (V 8))) := hR.fu (uN_rok _)
      have hro := e_Mo_round (L := L) (xs := xs) (d := d) (C := C) (u := u) (a := a) (b := b) (V := fu V 10 (V 8)) (M := M) (R := fu R 0 (rs (V 8))) (X := rs (V 8)) (p := fr + 1) (w := w) (q := zr (V 8) - 63) (g := wrG fd) (mb := rn (V 8)) hp hw hw4 hg (by omega) hX (by omega) hR1 fu_s
      rw [fu_fu] at hro
      have hbk : bOk fd (rVal w (rn (V 8)) (rs (V 8)) (fr + 1) (wrG fd) (zr (V 8) - 63)) := by
        rcases rVal_is (w := w) (mb := rn (V 8)) (q := zr (V 8) - 63) hX hp hg with h9 | h9 | h9
        · exact Or.inl h9.1
        · exact Or.inr (Or.inl h9.1)
        · exact Or.inr (Or.inr ⟨h9.1, h9.2.2.1, h9.2.2.2⟩)
      refine ⟨_, fu V 10 (rVal w (rn (V 8)) (rs (V 8)) (fr + 1) (wrG fd) (zr (V 8) - 63)), rok_round (w := w) (mb := rn (V 8)) hX hp hR1, fun i hi => fu_n (by omega), go ?_⟩
      · refine zR_m 1 rfl ?_
        refine zR_if (fun _ => ?_) (fun h9 => absurd h3k h9)
        refine zR_to 41 (st' := [.int 1, .int (rk (V 8))]) rfl ?_
        rw [h1k]
        refine zR_to 53 (st' := [.long (V 8).2.2.2, .int (nI 0), .ref 20]) rfl ?_
        refine zR_v rfl rfl rfl rfl rfl ⟨rfl, Nat.le_of_ble_eq_true rfl, Nat.le_of_ble_eq_true rfl⟩ rfl (Nat.le_refl _) (e_Mo_putU (r := 0) (by decide) hR) rfl rfl ?_
        refine zR_to 74 (st' := [.int (re (V 8) - iZ 63), .int (bI (rn (V 8))), .ref 20]) rfl ?_
        rw [re_zr (V 8), iZ_sub]
        refine zR_to 77 (st' := [.int (nI fr + 1), .int (iZ (zr (V 8) - 63)), .int (bI (rn (V 8))), .ref 20]) rfl ?_
        rw [nI_1]
        refine zR_to 82 (st' := [.long (lN (2 ^ fd - 1) / lN 2), .int (nI (fr + 1)), .int (iZ (zr (V 8) - 63)), .int (bI (rn (V 8))), .ref 20]) rfl ?_
        rw [pk_lDiv (by omega) (by decide) (by decide), h1]
        refine zR_to 83 (st' := [.int (lN (2 ^ (fd - 1) - 1)).toInt32, .int (nI (fr + 1)), .int (iZ (zr (V 8) - 63)), .int (bI (rn (V 8))), .ref 20]) rfl ?_
        rw [lN_i, ← iZ_nat]
        refine zR_v rfl rfl rfl rfl rfl ⟨rfl, Nat.le_of_ble_eq_true rfl, Nat.le_of_ble_eq_true rfl⟩ rfl (Nat.le_refl _) hro rfl rfl ?_
        exact t_Mo_writeReal (V := fu V 10 (rVal w (rn (V 8)) (rs (V 8)) (fr + 1) (wrG fd) (zr (V 8) - 63))) hf fu_s hbk
    · rw [if_neg h1k, nt_0]
      have hbk : bOk fd (V 8) := by
        rcases hx.1 with h9 | h9 | h9 | h9
        · exact Or.inl h9
        · exact absurd h9 h1k
        · exact Or.inr (Or.inl h9)
        · exact absurd h9 h3k
      refine ⟨R, fu V 10 (V 8), hR, fun i hi => fu_n (by omega), go ?_⟩
      refine zR_m 1 rfl ?_
      refine zR_if (fun _ => ?_) (fun h9 => absurd h3k h9)
      refine zR_to 41 (st' := [.int 1, .int (rk (V 8))]) rfl ?_
      refine zR_m 1 rfl ?_
      refine zR_if (fun _ => ?_) (fun h9 => absurd h1k h9)
      exact t_Mo_writeReal (V := fu V 10 (V 8)) hf fu_s hbk
end WR
