/-! THE CALLS: what stood before one stands before the next; alike, but for worn -/
theorem step_all : ∃ (E : Nat → Prop) (Inv : Nat → MH → Prop), EC E ∧ STEP E 4096 Inv ∧ Inv 0 S0 := by
  refine ⟨fun k => k ≠ 20, fun _ σ => Inv σ, by unfold EC; simp, ⟨fun i σ _ h => h, ?_, ?_, ?_, ?_, ?_, ?_, ?_, ?_, ?_, ?_, ?_, ?_, ?_, ?_, ?_, ?_, ?_, ?_, ?_, ?_, ?_, ?_, ?_, ?_, ?_, ?_, ?_, ?_, ?_⟩, Inv_S0⟩
  · intro i σ hi hI a0 a1 a2
    obtain ⟨r, r', σ1, σ2, h1, h2, h3, h4⟩ := st_person hI a0 a1 a2
    exact ⟨r, r', σ1, σ2, h1, h2, fun _ => h3, h4⟩
  · intro i σ hi hI a0 a1
    obtain ⟨r, r', σ1, σ2, h1, h2, h3, h4⟩ := st_wear hI a0 a1
    exact ⟨r, r', σ1, σ2, h1, h2, fun _ => h3, h4⟩
  · intro i σ hi hI a0
    obtain ⟨r, r', σ1, σ2, h1, h2, h3, h4⟩ := st_dies hI a0
    exact ⟨r, r', σ1, σ2, h1, h2, fun _ => h3, h4⟩
  · intro i σ hi hI a0 a1
    obtain ⟨r, r', σ1, σ2, h1, h2, h3, h4⟩ := st_weds hI a0 a1
    exact ⟨r, r', σ1, σ2, h1, h2, fun _ => h3, h4⟩
  · intro i σ hi hI a0 a1 a2 a3 a4
    obtain ⟨r, r', σ1, σ2, h1, h2, h3, h4⟩ := st_feed hI a0 a1 a2 a3 a4
    exact ⟨r, r', σ1, σ2, h1, h2, fun _ => h3, h4⟩
  · intro i σ hi hI a0
    obtain ⟨r, r', σ1, σ2, h1, h2, h3, h4⟩ := st_law hI a0
    exact ⟨r, r', σ1, σ2, h1, h2, fun _ => h3, h4⟩
  · intro i σ hi hI a0 a1
    obtain ⟨r, r', σ1, σ2, h1, h2, h3, h4⟩ := st_edge hI a0 a1
    exact ⟨r, r', σ1, σ2, h1, h2, fun _ => h3, h4⟩
  · intro i σ hi hI a0 a1
    obtain ⟨r, r', σ1, σ2, h1, h2, h3, h4⟩ := st_journey hI a0 a1
    exact ⟨r, r', σ1, σ2, h1, h2, fun _ => h3, h4⟩
  · intro i σ hi hI a0
    obtain ⟨r, r', σ1, σ2, h1, h2, h3, h4⟩ := st_days hI a0
    exact ⟨r, r', σ1, σ2, h1, h2, fun _ => h3, h4⟩
  · intro i σ hi hI a0 a1
    obtain ⟨r, r', σ1, σ2, h1, h2, h3, h4⟩ := st_tried hI a0 a1
    exact ⟨r, r', σ1, σ2, h1, h2, fun _ => h3, h4⟩
  · intro i σ hi hI a0 a1
    obtain ⟨r, r', σ1, σ2, h1, h2, h3, h4⟩ := st_personIs hI a0 a1
    exact ⟨r, r', σ1, σ2, h1, h2, fun _ => h3, h4⟩
  · intro i σ hi hI a0 a1
    obtain ⟨r, r', h1, h2, h3, h4⟩ := st_piece hI a0 a1
    exact ⟨r, r', h1, h2, fun _ => h3, h4⟩
  · intro i σ hi hI a0 a1 a2
    obtain ⟨r, r', σ1, σ2, h1, h2, h3, h4⟩ := st_slack hI a0 a1 a2
    exact ⟨r, r', σ1, σ2, h1, h2, fun _ => h3, h4⟩
  · intro i σ hi hI a0
    obtain ⟨r, r', σ1, σ2, h1, h2, h3, h4⟩ := st_locks hI a0
    exact ⟨r, r', σ1, σ2, h1, h2, fun _ => h3, h4⟩
  · intro i σ hi hI a0
    obtain ⟨r, r', σ1, σ2, h1, h2, h3, h4⟩ := st_most hI a0
    exact ⟨r, r', σ1, σ2, h1, h2, fun _ => h3, h4⟩
  · intro i σ hi hI a0
    obtain ⟨r, r', σ1, σ2, h1, h2, h3, h4⟩ := st_stable hI a0
    exact ⟨r, r', σ1, σ2, h1, h2, fun _ => h3, h4⟩
  · intro i σ hi hI a0
    obtain ⟨r, r', σ1, σ2, h1, h2, h3, h4⟩ := st_unrest hI a0
    exact ⟨r, r', σ1, σ2, h1, h2, fun _ => h3, h4⟩
  · intro i σ hi hI a0 a1
    obtain ⟨r, r', σ1, σ2, h1, h2, h3, h4⟩ := st_search hI a0 a1
    exact ⟨r, r', σ1, σ2, h1, h2, fun _ => h3, h4⟩
  · intro i σ hi hI a0 a1 a2 a3 a4 a5 a6
    obtain ⟨r, r', σ1, σ2, h1, h2, h3, h4⟩ := st_sanding hI a0 a1 a2 a3 a4 a5 a6
    exact ⟨r, r', σ1, σ2, h1, h2, fun _ => h3, h4⟩
  · intro i σ hi hI a0 a1 a2 a3
    obtain ⟨r, r', σ1, h1, h2, h3, h4⟩ := st_steaming hI a0 a1 a2 a3
    exact ⟨r, r', σ1, h1, h2, fun _ => h3, h4⟩
  · intro i σ hi hI a0 a1
    obtain ⟨r, r', σ1, σ2, h1, h2, h4⟩ := st_worn hI a0 a1
    exact ⟨r, r', σ1, σ2, h1, h2, fun z => absurd rfl z, h4⟩
  · intro i σ hi hI a0 a1
    obtain ⟨r, r', σ1, σ2, h1, h2, h3, h4⟩ := st_cutter hI a0 a1
    exact ⟨r, r', σ1, σ2, h1, h2, fun _ => h3, h4⟩
  · intro i σ hi hI a0
    obtain ⟨r, r', h1, h2, h3, h4⟩ := st_copies hI a0
    exact ⟨r, r', h1, h2, fun _ => h3, h4⟩
  · intro i σ hi hI a0 a1
    obtain ⟨r, r', h1, h2, h3, h4⟩ := st_mate hI a0 a1
    exact ⟨r, r', h1, h2, fun _ => h3, h4⟩
  · intro i σ hi hI a0
    obtain ⟨r, r', σ1, σ2, h1, h2, h3, h4⟩ := st_seed hI a0
    exact ⟨r, r', σ1, σ2, h1, h2, fun _ => h3, h4⟩
  · intro i σ hi hI
    obtain ⟨r, r', σ1, σ2, h1, h2, h3, h4⟩ := st_keep hI 
    exact ⟨r, r', σ1, σ2, h1, h2, fun _ => h3, h4⟩
  · intro i σ hi hI
    obtain ⟨r, r', σ1, σ2, h1, h2, h3, h4⟩ := st_undo hI 
    exact ⟨r, r', σ1, σ2, h1, h2, fun _ => h3, h4⟩
  · intro i σ hi hI a0 a1
    obtain ⟨r, r', σ1, σ2, h1, h2, h3, h4⟩ := st_check hI a0 a1
    exact ⟨r, r', σ1, σ2, h1, h2, fun _ => h3, h4⟩
  · intro i σ hi hI a0
    obtain ⟨r, r', h1, h2, h3, h4⟩ := st_count hI a0
    exact ⟨r, r', h1, h2, fun _ => h3, h4⟩
