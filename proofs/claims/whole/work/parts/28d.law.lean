/-! the law's own helpers: a call, and what it throws as a number -/
def uO (o : Nat → Int64) : zC := .inl (1, 1, .inr (.inl o))
def isS (C : Nat → zC) : Prop := ∃ f g sg A W x y Mc, C = sC f g sg A W x y Mc
theorem cS_is {C : Nat → zC} {n p w : Nat} {mk fl cd : Int32} {v : Nat → RV} {t fA : Nat} {c : Int32} {cm : Int64} {Mm : Nat → Int64} (hC : cS C n p w mk fl cd v t fA c cm Mm) : isS C := by
  obtain ⟨f, g, sg, A, W, x, y, Mc, S, h, -⟩ := hC
  exact ⟨f, g, sg, A, W, x, y, Mc, h⟩
section LA
variable {L : Nat} {xs : Nat → Int32} {d : Nat} {C C' : Nat → zC} {o : Nat → Int64} {a : Nat → Int32} {b : Nat → Int64} {V : Nat → RV} {M : Nat → Int64} {R : Nat → Nat} {y x e z : Int32} {l : Int64}
/-- an exception is caught: its number is answered -/
def kO (q : Nat) : Int32 := if q = 1 then 1 else 2
set_option maxRecDepth 10000 in
theorem la_op_t {q : Nat} (hq : q = 1 ∨ q = 2) (hC : isS C) (h : zE L xs d m_SR_operate [.ref 0, .int y, .int x] (mV C (uO o) a b V M R) (.inr q) (mV C' (uO o) a b V M R)) : zE L xs (d + 1) m_La_operate [.ref 0, .int y, .int x, .ref 27] (mV C (uO o) a b V M R) (.inl (some (.int (kO q)))) (mV C' (uO o) a b V M R) := by
  obtain ⟨f, g, sg, A, W, x9, y9, Mc, rfl⟩ := hC
  refine ⟨1, Nat.le_refl _, ?_⟩
  refine zR_n 5 rfl ?_
  rcases hq with rfl | rfl
  · refine zR_cc rfl rfl rfl rfl (Nat.le_refl _) h rfl rfl rfl ?_
    exact zR_n 1 rfl (zR_e rfl rfl rfl rfl rfl rfl)
  · refine zR_cc rfl rfl rfl rfl (Nat.le_refl _) h rfl rfl rfl ?_
    exact zR_n 1 rfl (zR_e rfl rfl rfl rfl rfl rfl)
set_option maxRecDepth 10000 in
theorem la_op (hC : isS C) (h : zE L xs d m_SR_operate [.ref 0, .int y, .int x] (mV C (uO o) a b V M R) (.inl (some (.int e))) (mV C' (uO o) a b V M R)) : zE L xs (d + 1) m_La_operate [.ref 0, .int y, .int x, .ref 27] (mV C (uO o) a b V M R) (.inl (some (.int 0))) (mV C' (uO (fu o 0 e.toInt64)) a b V M R) := by
  obtain ⟨f, g, sg, A, W, x9, y9, Mc, rfl⟩ := hC
  refine ⟨1, Nat.le_refl _, ?_⟩
  refine zR_n 5 rfl ?_
  refine zR_v rfl rfl rfl rfl rfl ⟨rfl, Nat.le_of_ble_eq_true rfl, Nat.le_of_ble_eq_true rfl⟩ rfl (Nat.le_of_ble_eq_true rfl) h rfl rfl ?_
  refine zR_n 1 rfl ?_
  refine zR_ls (q := 27) (N := 1) (f := o) rfl rfl (by decide) rfl ?_
  exact zR_n 2 rfl (zR_e rfl rfl rfl rfl rfl rfl)
set_option maxRecDepth 10000 in
theorem la_ld_t {q : Nat} (hq : q = 1 ∨ q = 2) (hC : isS C) (h : zE L xs d m_SR_load [.ref 0, .int y, .int x] (mV C (uO o) a b V M R) (.inr q) (mV C' (uO o) a b V M R)) : zE L xs (d + 1) m_La_load [.ref 0, .int y, .int x, .ref 27] (mV C (uO o) a b V M R) (.inl (some (.int (kO q)))) (mV C' (uO o) a b V M R) := by
  obtain ⟨f, g, sg, A, W, x9, y9, Mc, rfl⟩ := hC
  refine ⟨1, Nat.le_refl _, ?_⟩
  refine zR_n 5 rfl ?_
  rcases hq with rfl | rfl
  · refine zR_cc rfl rfl rfl rfl (Nat.le_refl _) h rfl rfl rfl ?_
    exact zR_n 1 rfl (zR_e rfl rfl rfl rfl rfl rfl)
  · refine zR_cc rfl rfl rfl rfl (Nat.le_refl _) h rfl rfl rfl ?_
    exact zR_n 1 rfl (zR_e rfl rfl rfl rfl rfl rfl)
set_option maxRecDepth 10000 in
theorem la_ld (hC : isS C) (h : zE L xs d m_SR_load [.ref 0, .int y, .int x] (mV C (uO o) a b V M R) (.inl (some (.int e))) (mV C' (uO o) a b V M R)) : zE L xs (d + 1) m_La_load [.ref 0, .int y, .int x, .ref 27] (mV C (uO o) a b V M R) (.inl (some (.int 0))) (mV C' (uO (fu o 0 e.toInt64)) a b V M R) := by
  obtain ⟨f, g, sg, A, W, x9, y9, Mc, rfl⟩ := hC
  refine ⟨1, Nat.le_refl _, ?_⟩
  refine zR_n 5 rfl ?_
  refine zR_v rfl rfl rfl rfl rfl ⟨rfl, Nat.le_of_ble_eq_true rfl, Nat.le_of_ble_eq_true rfl⟩ rfl (Nat.le_of_ble_eq_true rfl) h rfl rfl ?_
  refine zR_n 1 rfl ?_
  refine zR_ls (q := 27) (N := 1) (f := o) rfl rfl (by decide) rfl ?_
  exact zR_n 2 rfl (zR_e rfl rfl rfl rfl rfl rfl)
set_option maxRecDepth 10000 in
theorem la_st_t {q : Nat} (hq : q = 1 ∨ q = 2) (hC : isS C) (h : zE L xs d m_SR_store [.ref 0, .int y, .int x] (mV C (uO o) a b V M R) (.inr q) (mV C' (uO o) a b V M R)) : zE L xs (d + 1) m_La_store [.ref 0, .int y, .int x, .ref 27] (mV C (uO o) a b V M R) (.inl (some (.int (kO q)))) (mV C' (uO o) a b V M R) := by
  obtain ⟨f, g, sg, A, W, x9, y9, Mc, rfl⟩ := hC
  refine ⟨1, Nat.le_refl _, ?_⟩
  refine zR_n 5 rfl ?_
  rcases hq with rfl | rfl
  · refine zR_cc rfl rfl rfl rfl (Nat.le_refl _) h rfl rfl rfl ?_
    exact zR_n 1 rfl (zR_e rfl rfl rfl rfl rfl rfl)
  · refine zR_cc rfl rfl rfl rfl (Nat.le_refl _) h rfl rfl rfl ?_
    exact zR_n 1 rfl (zR_e rfl rfl rfl rfl rfl rfl)
set_option maxRecDepth 10000 in
theorem la_st (hC : isS C) (h : zE L xs d m_SR_store [.ref 0, .int y, .int x] (mV C (uO o) a b V M R) (.inl (some (.int e))) (mV C' (uO o) a b V M R)) : zE L xs (d + 1) m_La_store [.ref 0, .int y, .int x, .ref 27] (mV C (uO o) a b V M R) (.inl (some (.int 0))) (mV C' (uO (fu o 0 e.toInt64)) a b V M R) := by
  obtain ⟨f, g, sg, A, W, x9, y9, Mc, rfl⟩ := hC
  refine ⟨1, Nat.le_refl _, ?_⟩
  refine zR_n 5 rfl ?_
  refine zR_v rfl rfl rfl rfl rfl ⟨rfl, Nat.le_of_ble_eq_true rfl, Nat.le_of_ble_eq_true rfl⟩ rfl (Nat.le_of_ble_eq_true rfl) h rfl rfl ?_
  refine zR_n 1 rfl ?_
  refine zR_ls (q := 27) (N := 1) (f := o) rfl rfl (by decide) rfl ?_
  exact zR_n 2 rfl (zR_e rfl rfl rfl rfl rfl rfl)
set_option maxRecDepth 10000 in
theorem la_ct_t (hC : isS C) (h : zE L xs d m_SR_control [.ref 0, .int y, .int x, .int z] (mV C (uO o) a b V M R) (.inr 1) (mV C' (uO o) a b V M R)) : zE L xs (d + 1) m_La_control [.ref 0, .int y, .int x, .int z] (mV C (uO o) a b V M R) (.inl (some (.int 1))) (mV C' (uO o) a b V M R) := by
  obtain ⟨f, g, sg, A, W, x9, y9, Mc, rfl⟩ := hC
  refine ⟨1, Nat.le_refl _, ?_⟩
  refine zR_n 4 rfl ?_
  refine zR_cc rfl rfl rfl rfl (Nat.le_refl _) h rfl rfl rfl ?_
  exact zR_n 1 rfl (zR_e rfl rfl rfl rfl rfl rfl)
set_option maxRecDepth 10000 in
theorem la_ct (hC : isS C) (h : zE L xs d m_SR_control [.ref 0, .int y, .int x, .int z] (mV C (uO o) a b V M R) (.inl none) (mV C' (uO o) a b V M R)) : zE L xs (d + 1) m_La_control [.ref 0, .int y, .int x, .int z] (mV C (uO o) a b V M R) (.inl (some (.int 0))) (mV C' (uO o) a b V M R) := by
  obtain ⟨f, g, sg, A, W, x9, y9, Mc, rfl⟩ := hC
  refine ⟨1, Nat.le_refl _, ?_⟩
  refine zR_n 4 rfl ?_
  refine zR_v rfl rfl rfl rfl rfl ⟨rfl, Nat.le_of_ble_eq_true rfl, Nat.le_of_ble_eq_true rfl⟩ rfl (Nat.le_of_ble_eq_true rfl) h rfl rfl ?_
  exact zR_n 2 rfl (zR_e rfl rfl rfl rfl rfl rfl)
set_option maxRecDepth 10000 in
theorem la_wr_t (hC : isS C) (h : zE L xs d m_SR_write [.ref 0, .int y, .long l] (mV C (uO o) a b V M R) (.inr 1) (mV C' (uO o) a b V M R)) : zE L xs (d + 1) m_La_write [.ref 0, .int y, .long l] (mV C (uO o) a b V M R) (.inl (some (.int 1))) (mV C' (uO o) a b V M R) := by
  obtain ⟨f, g, sg, A, W, x9, y9, Mc, rfl⟩ := hC
  refine ⟨1, Nat.le_refl _, ?_⟩
  refine zR_n 3 rfl ?_
  refine zR_cc rfl rfl rfl rfl (Nat.le_refl _) h rfl rfl rfl ?_
  exact zR_n 1 rfl (zR_e rfl rfl rfl rfl rfl rfl)
set_option maxRecDepth 10000 in
theorem la_wr (hC : isS C) (h : zE L xs d m_SR_write [.ref 0, .int y, .long l] (mV C (uO o) a b V M R) (.inl none) (mV C' (uO o) a b V M R)) : zE L xs (d + 1) m_La_write [.ref 0, .int y, .long l] (mV C (uO o) a b V M R) (.inl (some (.int 0))) (mV C' (uO o) a b V M R) := by
  obtain ⟨f, g, sg, A, W, x9, y9, Mc, rfl⟩ := hC
  refine ⟨1, Nat.le_refl _, ?_⟩
  refine zR_n 3 rfl ?_
  refine zR_v rfl rfl rfl rfl rfl ⟨rfl, Nat.le_of_ble_eq_true rfl, Nat.le_of_ble_eq_true rfl⟩ rfl (Nat.le_of_ble_eq_true rfl) h rfl rfl ?_
  exact zR_n 2 rfl (zR_e rfl rfl rfl rfl rfl rfl)
set_option maxRecDepth 10000 in
theorem la_me_t (hC : isS C) (h : zE L xs d m_SR_memory [.ref 0, .int y] (mV C (uO o) a b V M R) (.inr 1) (mV C' (uO o) a b V M R)) : zE L xs (d + 1) m_La_memory [.ref 0, .int y, .ref 27] (mV C (uO o) a b V M R) (.inl (some (.int 1))) (mV C' (uO o) a b V M R) := by
  obtain ⟨f, g, sg, A, W, x9, y9, Mc, rfl⟩ := hC
  refine ⟨1, Nat.le_refl _, ?_⟩
  refine zR_n 4 rfl ?_
  refine zR_cn rfl rfl rfl rfl (Nat.le_refl _) h rfl rfl rfl ?_
  exact zR_n 1 rfl (zR_e rfl rfl rfl rfl rfl rfl)
set_option maxRecDepth 10000 in
theorem la_me (hC : isS C) (h : zE L xs d m_SR_memory [.ref 0, .int y] (mV C (uO o) a b V M R) (.inl (some (.long l))) (mV C' (uO o) a b V M R)) : zE L xs (d + 1) m_La_memory [.ref 0, .int y, .ref 27] (mV C (uO o) a b V M R) (.inl (some (.int 0))) (mV C' (uO (fu o 0 l)) a b V M R) := by
  obtain ⟨f, g, sg, A, W, x9, y9, Mc, rfl⟩ := hC
  refine ⟨1, Nat.le_refl _, ?_⟩
  refine zR_n 4 rfl ?_
  refine zR_v rfl rfl rfl rfl rfl ⟨rfl, Nat.le_of_ble_eq_true rfl, Nat.le_of_ble_eq_true rfl⟩ rfl (Nat.le_of_ble_eq_true rfl) h rfl rfl ?_
  refine zR_ls (q := 27) (N := 1) (f := o) rfl rfl (by decide) rfl ?_
  exact zR_n 2 rfl (zR_e rfl rfl rfl rfl rfl rfl)
set_option maxRecDepth 10000 in
theorem la_sg_t (hC : isS C) (h : zE L xs d m_SR_significand [.ref 0, .int y] (mV C (uO o) a b V M R) (.inr 1) (mV C' (uO o) a b V M R)) : zE L xs (d + 1) m_La_significand [.ref 0, .int y, .ref 27] (mV C (uO o) a b V M R) (.inl (some (.int 1))) (mV C' (uO o) a b V M R) := by
  obtain ⟨f, g, sg, A, W, x9, y9, Mc, rfl⟩ := hC
  refine ⟨1, Nat.le_refl _, ?_⟩
  refine zR_n 4 rfl ?_
  refine zR_cn rfl rfl rfl rfl (Nat.le_refl _) h rfl rfl rfl ?_
  exact zR_n 1 rfl (zR_e rfl rfl rfl rfl rfl rfl)
set_option maxRecDepth 10000 in
theorem la_sg (hC : isS C) (h : zE L xs d m_SR_significand [.ref 0, .int y] (mV C (uO o) a b V M R) (.inl (some (.long l))) (mV C' (uO o) a b V M R)) : zE L xs (d + 1) m_La_significand [.ref 0, .int y, .ref 27] (mV C (uO o) a b V M R) (.inl (some (.int 0))) (mV C' (uO (fu o 0 l)) a b V M R) := by
  obtain ⟨f, g, sg, A, W, x9, y9, Mc, rfl⟩ := hC
  refine ⟨1, Nat.le_refl _, ?_⟩
  refine zR_n 4 rfl ?_
  refine zR_v rfl rfl rfl rfl rfl ⟨rfl, Nat.le_of_ble_eq_true rfl, Nat.le_of_ble_eq_true rfl⟩ rfl (Nat.le_of_ble_eq_true rfl) h rfl rfl ?_
  refine zR_ls (q := 27) (N := 1) (f := o) rfl rfl (by decide) rfl ?_
  exact zR_n 2 rfl (zR_e rfl rfl rfl rfl rfl rfl)
set_option maxRecDepth 10000 in
theorem la_ki_t (hC : isS C) (h : zE L xs d m_SR_kind [.ref 0, .int y] (mV C (uO o) a b V M R) (.inr 1) (mV C' (uO o) a b V M R)) : zE L xs (d + 1) m_La_kind [.ref 0, .int y, .ref 27] (mV C (uO o) a b V M R) (.inl (some (.int 1))) (mV C' (uO o) a b V M R) := by
  obtain ⟨f, g, sg, A, W, x9, y9, Mc, rfl⟩ := hC
  refine ⟨1, Nat.le_refl _, ?_⟩
  refine zR_n 4 rfl ?_
  refine zR_cn rfl rfl rfl rfl (Nat.le_refl _) h rfl rfl rfl ?_
  exact zR_n 1 rfl (zR_e rfl rfl rfl rfl rfl rfl)
set_option maxRecDepth 10000 in
theorem la_ki (hC : isS C) (h : zE L xs d m_SR_kind [.ref 0, .int y] (mV C (uO o) a b V M R) (.inl (some (.int e))) (mV C' (uO o) a b V M R)) : zE L xs (d + 1) m_La_kind [.ref 0, .int y, .ref 27] (mV C (uO o) a b V M R) (.inl (some (.int 0))) (mV C' (uO (fu o 0 e.toInt64)) a b V M R) := by
  obtain ⟨f, g, sg, A, W, x9, y9, Mc, rfl⟩ := hC
  refine ⟨1, Nat.le_refl _, ?_⟩
  refine zR_n 4 rfl ?_
  refine zR_v rfl rfl rfl rfl rfl ⟨rfl, Nat.le_of_ble_eq_true rfl, Nat.le_of_ble_eq_true rfl⟩ rfl (Nat.le_of_ble_eq_true rfl) h rfl rfl ?_
  refine zR_n 1 rfl ?_
  refine zR_ls (q := 27) (N := 1) (f := o) rfl rfl (by decide) rfl ?_
  exact zR_n 2 rfl (zR_e rfl rfl rfl rfl rfl rfl)
set_option maxRecDepth 10000 in
theorem la_ex_t (hC : isS C) (h : zE L xs d m_SR_exponent [.ref 0, .int y] (mV C (uO o) a b V M R) (.inr 1) (mV C' (uO o) a b V M R)) : zE L xs (d + 1) m_La_exponent [.ref 0, .int y, .ref 27] (mV C (uO o) a b V M R) (.inl (some (.int 1))) (mV C' (uO o) a b V M R) := by
  obtain ⟨f, g, sg, A, W, x9, y9, Mc, rfl⟩ := hC
  refine ⟨1, Nat.le_refl _, ?_⟩
  refine zR_n 4 rfl ?_
  refine zR_cn rfl rfl rfl rfl (Nat.le_refl _) h rfl rfl rfl ?_
  exact zR_n 1 rfl (zR_e rfl rfl rfl rfl rfl rfl)
set_option maxRecDepth 10000 in
theorem la_ex (hC : isS C) (h : zE L xs d m_SR_exponent [.ref 0, .int y] (mV C (uO o) a b V M R) (.inl (some (.int e))) (mV C' (uO o) a b V M R)) : zE L xs (d + 1) m_La_exponent [.ref 0, .int y, .ref 27] (mV C (uO o) a b V M R) (.inl (some (.int 0))) (mV C' (uO (fu o 0 e.toInt64)) a b V M R) := by
  obtain ⟨f, g, sg, A, W, x9, y9, Mc, rfl⟩ := hC
  refine ⟨1, Nat.le_refl _, ?_⟩
  refine zR_n 4 rfl ?_
  refine zR_v rfl rfl rfl rfl rfl ⟨rfl, Nat.le_of_ble_eq_true rfl, Nat.le_of_ble_eq_true rfl⟩ rfl (Nat.le_of_ble_eq_true rfl) h rfl rfl ?_
  refine zR_n 1 rfl ?_
  refine zR_ls (q := 27) (N := 1) (f := o) rfl rfl (by decide) rfl ?_
  exact zR_n 2 rfl (zR_e rfl rfl rfl rfl rfl rfl)
set_option maxRecDepth 10000 in
theorem la_pa_t (hC : isS C) (h : zE L xs d m_SR_pass [.ref 0, .int y] (mV C (uO o) a b V M R) (.inr 1) (mV C' (uO o) a b V M R)) : zE L xs (d + 1) m_La_pass [.ref 0, .int y] (mV C (uO o) a b V M R) (.inl (some (.int 1))) (mV C' (uO o) a b V M R) := by
  obtain ⟨f, g, sg, A, W, x9, y9, Mc, rfl⟩ := hC
  refine ⟨1, Nat.le_refl _, ?_⟩
  refine zR_n 2 rfl ?_
  refine zR_cn rfl rfl rfl rfl (Nat.le_refl _) h rfl rfl rfl ?_
  exact zR_n 1 rfl (zR_e rfl rfl rfl rfl rfl rfl)
set_option maxRecDepth 10000 in
theorem la_pa (hC : isS C) (h : zE L xs d m_SR_pass [.ref 0, .int y] (mV C (uO o) a b V M R) (.inl none) (mV C' (uO o) a b V M R)) : zE L xs (d + 1) m_La_pass [.ref 0, .int y] (mV C (uO o) a b V M R) (.inl (some (.int 0))) (mV C' (uO o) a b V M R) := by
  obtain ⟨f, g, sg, A, W, x9, y9, Mc, rfl⟩ := hC
  refine ⟨1, Nat.le_refl _, ?_⟩
  refine zR_n 2 rfl ?_
  refine zR_v rfl rfl rfl rfl rfl ⟨rfl, Nat.le_of_ble_eq_true rfl, Nat.le_of_ble_eq_true rfl⟩ rfl (Nat.le_of_ble_eq_true rfl) h rfl rfl ?_
  exact zR_n 2 rfl (zR_e rfl rfl rfl rfl rfl rfl)
end LA
