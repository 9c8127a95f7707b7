/-! THE START: what holds before the first call -/
theorem S0_row : ∀ k, k < 1936 → S0.1 167 k = if k = 111 then 1 else if 24 ≤ k ∧ k < 36 then -2 else 0 := by decide +kernel
theorem S0_c1 : ∀ i, i < 12 → S0.1 (1 + 1) i = 0 ∧ S0.1 (1 + 2) i = 0 ∧ S0.1 (1 + 3) i = -2 ∧ S0.1 (1 + 4) i = 0 ∧ S0.1 (1 + 5) i = 0 ∧ S0.1 (1 + 7) i = 0 ∧ S0.1 (1 + 34) i = 0 ∧ S0.1 (1 + 35) i = 0 ∧ S0.1 (1 + 6) i = nI i := by decide +kernel
theorem S0_c2 : ∀ k, k < 12 → ∀ h, h < 8 → S0.1 (1 + 9 + k) h = 0 := by decide +kernel
theorem S0_c3 : S0.1 1 0 = 0 ∧ S0.1 1 1 = 0 ∧ S0.1 1 13 = 0 ∧ S0.1 1 14 = 1 ∧ S0.1 0 3 = 0 ∧ S0.1 166 46 = 0 ∧ S0.1 109 1 = 0 ∧ S0.1 166 4 = 0 ∧ S0.1 111 6 = 0 ∧ S0.1 166 13 = 0 := by decide +kernel
theorem S0_c4 : ∀ j, j < 260 → S0.1 110 j = 0 ∧ S0.1 170 j = 0 := by decide +kernel
theorem S0_r0 {k : Nat} (h : k < 1936) (h1 : k ≠ 111) (h2 : k < 24 ∨ 36 ≤ k) : S0.1 167 k = 0 := by rw [S0_row k h, if_neg h1, if_neg (by omega)]
theorem S0_rt {i : Nat} (hi : i < 12) : toldR (S0.1 167) i = false := by
  unfold toldR
  rw [S0_r0 (by decide) (by decide) (by decide)]
  exact bt_0 (by omega)
theorem S0_rl {i : Nat} (hi : i < 12) : liveR (S0.1 167) i = false := by
  have := S0_rt hi
  unfold toldR at this
  unfold liveR
  rw [this]
  rfl
theorem LD_S0 : LD 1 (S0.1 167) S0 := by
  obtain ⟨a, b, c, d, -⟩ := S0_c3
  refine ⟨⟨?_, ?_, ?_, ?_⟩, fun i hi => ?_, fun k h hk hh => ?_, fun i j hi hj q => ?_, fun k hk => ⟨fun i hi => ?_, Or.inr ⟨k, hk, (S0_c1 k hk).2.2.2.2.2.2.2.2⟩⟩⟩
  · rw [a, S0_r0 (by decide) (by decide) (by decide)]
  · rw [b, S0_r0 (by decide) (by decide) (by decide)]
  · rw [c, S0_r0 (by decide) (by decide) (by decide)]
  · rw [d, S0_row 111 (by decide), if_pos rfl]
  · obtain ⟨e1, e2, e3, e4, e5, e6, e7, e8, -⟩ := S0_c1 i hi
    refine ⟨?_, ?_, ?_, ?_, ?_, ?_, ?_, ?_⟩
    · rw [e1, S0_r0 (by omega) (by omega) (by omega)]
    · rw [e2, S0_r0 (by omega) (by omega) (by omega)]
    · rw [e3, S0_row _ (by omega), if_neg (by omega), if_pos (by omega)]
    · rw [e4, S0_r0 (by omega) (by omega) (by omega)]
    · rw [e5, S0_r0 (by omega) (by omega) (by omega)]
    · rw [e6, S0_r0 (by omega) (by omega) (by omega)]
    · rw [e7, S0_r0 (by omega) (by omega) (by omega)]
    · rw [e8, S0_r0 (by omega) (by omega) (by omega)]
  · rw [S0_c2 k hk h hh, S0_r0 (by omega) (by omega) (by omega)]
  · rw [S0_r0 (by omega) (by omega) (by omega)] at q
    have e0 : (0 : Int32).toInt = 0 := rfl
    rw [e0] at q
    omega
  · unfold hldR
    rw [S0_rt hi, if_neg (by decide), (S0_c1 k hk).2.2.2.2.2.2.2.2, decide_eq_true_eq]
    exact nI_eq (by omega) (by omega)
theorem WF_S0 : WF (S0.1 167) := by
  refine ⟨fun k h1 h2 => ⟨?_, ?_⟩, fun k hk => ?_, ?_, ?_, fun i hi => ⟨Or.inl ?_, ⟨0, by decide, ?_⟩, Or.inl ?_, ?_, fun k h1 h2 => ?_, ?_, ⟨0, 0, by decide, by decide, ?_, ?_, fun j hj => absurd hj (Nat.not_lt_zero j)⟩, fun h hh => ?_, fun q => ?_⟩⟩
  · rw [S0_r0 (by decide) (by decide) (by decide)]; exact bt_0 (by omega)
  · rw [S0_r0 (by decide) (by decide) (by decide)]; exact bt_0 (by omega)
  · rw [S0_r0 (k := 109) (by decide) (by decide) (by decide), bt_0 (by omega)]
    intro h
    cases h
  · rw [S0_r0 (by decide) (by decide) (by decide)]; decide
  · rw [S0_row 111 (by decide), if_pos rfl]; decide
  · exact S0_r0 (by omega) (by omega) (by omega)
  · exact S0_r0 (by omega) (by omega) (by omega)
  · rw [S0_row _ (by omega), if_neg (by omega), if_pos (by omega)]
  · rw [S0_r0 (by omega) (by omega) (by omega)]; decide
  · rw [S0_r0 (by omega) (by omega) (by omega)]; exact bt_0 (by omega)
  · rw [S0_r0 (by omega) (by omega) (by omega)]; decide
  · exact S0_r0 (by omega) (by omega) (by omega)
  · exact S0_r0 (by omega) (by omega) (by omega)
  · rw [S0_r0 (by omega) (by omega) (by omega)]; decide
  · rw [S0_rl hi] at q
    cases q
theorem InvW_S0 : InvW S0 := by
  obtain ⟨-, -, -, -, -, -, -, -, a, b⟩ := S0_c3
  refine ⟨a.trans b.symm, fun _ _ _ => 0, ⟨fun _ _ _ _ _ => rfl, fun a b f hb => ⟨Int32.le_refl _, hb⟩⟩, fun σ' h x y hy => ⟨σ', ?_, Fx.rf⟩, fun σ' h h2 x y hy => ⟨σ', ?_, Fx.rf⟩⟩
  · have e : σ'.1 111 6 = 0 := (h 111 6 (by decide) (by decide)).trans a
    have : Judge_rule_L14 x y (0, σ') = some (.inr (0, σ')) := by
      refine itr_end (n := FU - 1) ?_
      show Judge_rule_l14 x y 0 σ' = _
      unfold Judge_rule_l14
      rw [e, if_pos (Int32.le_refl _)]
    unfold ruleC
    rw [this]
    rfl
  · have e : σ'.1 166 13 = 0 := h2.trans b
    have : Md_byLaw_L2 x y (0, σ') = some (.inr (0, σ')) := by
      refine itr_end (n := FU - 1) ?_
      show Md_byLaw_l2 x y 0 σ' = _
      unfold Md_byLaw_l2
      rw [e, if_pos (Int32.le_refl _)]
    unfold Md_byLaw Md_byLaw0
    rw [this]
    rfl
theorem Inv_S0 : Inv S0 := by
  obtain ⟨-, -, -, -, a, b, c, d, -⟩ := S0_c3
  exact ⟨LD_S0, WF_S0, ⟨a.trans b.symm, Or.inl a⟩, ⟨c.trans d.symm, ⟨0, by decide, c⟩, fun j hj => ⟨0, by decide, (S0_c4 j hj).1, (S0_c4 j hj).2⟩⟩, InvW_S0⟩
