/-! THE CALL -/
theorem step_all : ∃ (E : Nat → Prop) (Inv : Nat → MH → Prop), EC E ∧ STEP E 8 Inv ∧ Inv 0 S0 := sorry
