/-! the plain answers -/
section AN
variable {L : Nat} {xs : Nat → Int32} {d : Nat} {C : Nat → zC} {u : zC} {a : Nat → Int32} {b : Nat → Int64} {M : Nat → Int64} {R : Nat → Nat} {V : Nat → RV}
theorem e_Mo_thrown : zE L xs d m_Mo_thrown [.ref 20] (mV C u a b V M R) (.inl (some (.int (a 0)))) (mV C u a b V M R) := zE_m (n := 10) rfl (Nat.le_refl _)
theorem e_Mo_time : zE L xs d m_Mo_time [.ref 20] (mV C u a b V M R) (.inl (some (.long (b 16)))) (mV C u (fu a 0 0) b V M R) := zE_m (n := 10) rfl (Nat.le_refl _)
theorem e_Mo_flags : zE L xs d m_Mo_flags [.ref 20] (mV C u a b V M R) (.inl (some (.int (a 4)))) (mV C u (fu a 0 0) b V M R) := zE_m (n := 10) rfl (Nat.le_refl _)
theorem e_Mo_clear : zE L xs d m_Mo_clear [.ref 20] (mV C u a b V M R) (.inl none) (mV C u (fu (fu a 0 0) 4 0) b V M R) := zE_m (n := 10) rfl (Nat.le_refl _)
theorem e_Mo_condition : zE L xs d m_Mo_condition [.ref 20] (mV C u a b V M R) (.inl (some (.int (a 6)))) (mV C u (fu a 0 0) b V M R) := zE_m (n := 10) rfl (Nat.le_refl _)
theorem e_Mo_depth : zE L xs d m_Mo_depth [.ref 20] (mV C u a b V M R) (.inl (some (.int (a 7)))) (mV C u (fu a 0 0) b V M R) := zE_m (n := 10) rfl (Nat.le_refl _)
end AN
