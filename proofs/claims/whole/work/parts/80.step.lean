/-! ALL CALLS -/
theorem step_all : ∃ Inv : MH → Prop, STEP Inv ∧ Inv S0 := sorry
