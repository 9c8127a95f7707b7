/-! ONE CALL ON A FRESH OBJECT -/
section FRESH
variable {σ : MH}
def InvF (i : Nat) (σ : MH) : Prop := i = 0 → Inv σ ∧ σ.1 109 1 = 0 ∧ σ.1 166 4 = 0 ∧ ∀ k, k < 12 → liveR (σ.1 167) k = false
theorem InvF_1 {i : Nat} {σ : MH} : InvF (i + 1) σ := fun h => absurd h (Nat.succ_ne_zero i)
theorem fr_law (h1 : σ.1 109 1 = 0) (h2 : σ.1 166 4 = 0) (x : Int32) : Pz_law x σ = some (-1, σ) ∧ Md_law x σ = some (-1, σ) := by
  have e0 : (0 : Int32).toInt = 0 := rfl
  have e1 : (1 : Int32).toInt = 1 := rfl
  unfold Pz_law Pz_law0 Md_law Md_law0
  rw [h1, h2, m_in, Option.bind_some]
  by_cases q : x < 1
  · rw [if_pos q, decide_eq_false (show ¬ 1 ≤ x from ne_of_lt32 q), Bool.false_and, bI_f, if_pos rfl]
    exact ⟨rfl, rfl⟩
  · have q2 : ¬ x ≤ 0 := fun z => q (by rw [ti_lt]; rw [ti_le] at z; omega)
    rw [if_neg q, if_neg q2, if_neg q2]
    refine ⟨?_, ?_⟩
    · split <;> rfl
    · split <;> rfl
theorem fr_search (h1 : σ.1 109 1 = 0) (h2 : σ.1 166 4 = 0) (x y : Int32) : Pz_search x y σ = some (-1, σ) ∧ Md_search x y σ = some (-1, σ) := by
  unfold Pz_search Pz_search0 Md_search Md_search0
  rw [h1, h2, m_in, Option.bind_some]
  by_cases q : x < 2
  · rw [if_pos q, decide_eq_false (show ¬ 2 ≤ x from ne_of_lt32 q), Bool.false_and, bI_f, if_pos rfl]
    exact ⟨rfl, rfl⟩
  · rw [if_neg q]
    by_cases q1 : 6 < x
    · rw [if_pos q1, decide_eq_false (show ¬ x ≤ 6 from ne_of_lt32 q1), Bool.and_false, bI_f, if_pos rfl]
      exact ⟨rfl, rfl⟩
    · rw [if_neg q1]
      have q2 : ¬ x + x * x ≤ 0 := by
        rcases limN x 6 with ⟨w, hw, rfl⟩ | h
        · have : ∀ w, w ≤ 6 → ¬ nI w < 2 → ¬ nI w + nI w * nI w ≤ 0 := by decide +kernel
          exact this w hw q
        · rcases h with h | h
          · exact absurd (show x < 2 by
              rw [ti_lt] at h ⊢
              have e0 : (0 : Int32).toInt = 0 := rfl
              have e2 : (2 : Int32).toInt = 2 := rfl
              omega) q
          · exact absurd h q1
      rw [if_neg q2, if_neg q2]
      refine ⟨rfl, ?_⟩
      split <;> rfl
theorem step_all : ∃ (E : Nat → Prop) (Inv : Nat → MH → Prop), EC E ∧ STEP E 8 Inv ∧ Inv 0 S0 := by
  have z : ∀ {i : Nat}, 8 * i + 8 ≤ 8 → i = 0 := fun h => by omega
  refine ⟨fun _ => True, InvF, by unfold EC; simp only [and_self], ⟨fun i σ _ _ => InvF_1, ?_, ?_, ?_, ?_, ?_, ?_, ?_, ?_, ?_, ?_, ?_, ?_, ?_, ?_, ?_, ?_, ?_, ?_, ?_, ?_, ?_, ?_, ?_, ?_, ?_, ?_, ?_, ?_, ?_⟩, fun _ => ⟨Inv_S0, S0_c3.2.2.2.2.2.2.1, S0_c3.2.2.2.2.2.2.2.1, fun k hk => S0_rl hk⟩⟩
  · intro i σ hi hI a0 a1 a2
    obtain ⟨r, r', σ1, σ2, h1, h2, h3, h4⟩ := st_person (hI (z hi)).1 a0 a1 a2
    exact ⟨r, r', σ1, σ2, h1, h2, fun _ => h3, InvF_1⟩
  · intro i σ hi hI a0 a1
    obtain ⟨r, r', σ1, σ2, h1, h2, h3, h4⟩ := st_wear (hI (z hi)).1 a0 a1
    exact ⟨r, r', σ1, σ2, h1, h2, fun _ => h3, InvF_1⟩
  · intro i σ hi hI a0
    obtain ⟨r, r', σ1, σ2, h1, h2, h3, h4⟩ := st_dies (hI (z hi)).1 a0
    exact ⟨r, r', σ1, σ2, h1, h2, fun _ => h3, InvF_1⟩
  · intro i σ hi hI a0 a1
    obtain ⟨r, r', σ1, σ2, h1, h2, h3, h4⟩ := st_weds (hI (z hi)).1 a0 a1
    exact ⟨r, r', σ1, σ2, h1, h2, fun _ => h3, InvF_1⟩
  · intro i σ hi hI a0 a1 a2 a3 a4
    obtain ⟨r, r', σ1, σ2, h1, h2, h3, h4⟩ := st_feed (hI (z hi)).1 a0 a1 a2 a3 a4
    exact ⟨r, r', σ1, σ2, h1, h2, fun _ => h3, InvF_1⟩
  · intro i σ hi hI a0
    obtain ⟨-, t1, t2, -⟩ := hI (z hi)
    exact ⟨-1, -1, σ, σ, (fr_law t1 t2 a0).1, (fr_law t1 t2 a0).2, fun _ => rfl, InvF_1⟩
  · intro i σ hi hI a0 a1
    obtain ⟨r, r', σ1, σ2, h1, h2, h3, h4⟩ := st_edge (hI (z hi)).1 a0 a1
    exact ⟨r, r', σ1, σ2, h1, h2, fun _ => h3, InvF_1⟩
  · intro i σ hi hI a0 a1
    obtain ⟨r, r', σ1, σ2, h1, h2, h3, h4⟩ := st_journey (hI (z hi)).1 a0 a1
    exact ⟨r, r', σ1, σ2, h1, h2, fun _ => h3, InvF_1⟩
  · intro i σ hi hI a0
    obtain ⟨r, r', σ1, σ2, h1, h2, h3, h4⟩ := st_days (hI (z hi)).1 a0
    exact ⟨r, r', σ1, σ2, h1, h2, fun _ => h3, InvF_1⟩
  · intro i σ hi hI a0 a1
    obtain ⟨r, r', σ1, σ2, h1, h2, h3, h4⟩ := st_tried (hI (z hi)).1 a0 a1
    exact ⟨r, r', σ1, σ2, h1, h2, fun _ => h3, InvF_1⟩
  · intro i σ hi hI a0 a1
    obtain ⟨r, r', σ1, σ2, h1, h2, h3, h4⟩ := st_personIs (hI (z hi)).1 a0 a1
    exact ⟨r, r', σ1, σ2, h1, h2, fun _ => h3, InvF_1⟩
  · intro i σ hi hI a0 a1
    obtain ⟨r, r', h1, h2, h3, h4⟩ := st_piece (hI (z hi)).1 a0 a1
    exact ⟨r, r', h1, h2, fun _ => h3, InvF_1⟩
  · intro i σ hi hI a0 a1 a2
    obtain ⟨r, r', σ1, σ2, h1, h2, h3, h4⟩ := st_slack (hI (z hi)).1 a0 a1 a2
    exact ⟨r, r', σ1, σ2, h1, h2, fun _ => h3, InvF_1⟩
  · intro i σ hi hI a0
    obtain ⟨r, r', σ1, σ2, h1, h2, h3, h4⟩ := st_locks (hI (z hi)).1 a0
    exact ⟨r, r', σ1, σ2, h1, h2, fun _ => h3, InvF_1⟩
  · intro i σ hi hI a0
    obtain ⟨r, r', σ1, σ2, h1, h2, h3, h4⟩ := st_most (hI (z hi)).1 a0
    exact ⟨r, r', σ1, σ2, h1, h2, fun _ => h3, InvF_1⟩
  · intro i σ hi hI a0
    obtain ⟨r, r', σ1, σ2, h1, h2, h3, h4⟩ := st_stable (hI (z hi)).1 a0
    exact ⟨r, r', σ1, σ2, h1, h2, fun _ => h3, InvF_1⟩
  · intro i σ hi hI a0
    obtain ⟨r, r', σ1, σ2, h1, h2, h3, h4⟩ := st_unrest (hI (z hi)).1 a0
    exact ⟨r, r', σ1, σ2, h1, h2, fun _ => h3, InvF_1⟩
  · intro i σ hi hI a0 a1
    obtain ⟨-, t1, t2, -⟩ := hI (z hi)
    exact ⟨-1, -1, σ, σ, (fr_search t1 t2 a0 a1).1, (fr_search t1 t2 a0 a1).2, fun _ => rfl, InvF_1⟩
  · intro i σ hi hI a0 a1 a2 a3 a4 a5 a6
    obtain ⟨r, r', σ1, σ2, h1, h2, h3, h4⟩ := st_sanding (hI (z hi)).1 a0 a1 a2 a3 a4 a5 a6
    exact ⟨r, r', σ1, σ2, h1, h2, fun _ => h3, InvF_1⟩
  · intro i σ hi hI a0 a1 a2 a3
    obtain ⟨r, r', σ1, h1, h2, h3, h4⟩ := st_steaming (hI (z hi)).1 a0 a1 a2 a3
    exact ⟨r, r', σ1, h1, h2, fun _ => h3, InvF_1⟩
  · intro i σ hi hI a0 a1
    obtain ⟨hI, -, -, hl⟩ := hI (z hi)
    rcases c_worn_no (x := a0) (y := a1) hI with ⟨i, j, hi, hj, rfl, rfl, li, lj, q⟩ | ⟨e1, e2⟩
    · rw [hl i hi] at li
      cases li
    · exact ⟨-1, -1, σ, σ, e1, e2, fun _ => rfl, InvF_1⟩
  · intro i σ hi hI a0 a1
    obtain ⟨r, r', σ1, σ2, h1, h2, h3, h4⟩ := st_cutter (hI (z hi)).1 a0 a1
    exact ⟨r, r', σ1, σ2, h1, h2, fun _ => h3, InvF_1⟩
  · intro i σ hi hI a0
    obtain ⟨r, r', h1, h2, h3, h4⟩ := st_copies (hI (z hi)).1 a0
    exact ⟨r, r', h1, h2, fun _ => h3, InvF_1⟩
  · intro i σ hi hI a0 a1
    obtain ⟨r, r', h1, h2, h3, h4⟩ := st_mate (hI (z hi)).1 a0 a1
    exact ⟨r, r', h1, h2, fun _ => h3, InvF_1⟩
  · intro i σ hi hI a0
    obtain ⟨r, r', σ1, σ2, h1, h2, h3, h4⟩ := st_seed (hI (z hi)).1 a0
    exact ⟨r, r', σ1, σ2, h1, h2, fun _ => h3, InvF_1⟩
  · intro i σ hi hI
    obtain ⟨r, r', σ1, σ2, h1, h2, h3, h4⟩ := st_keep (hI (z hi)).1
    exact ⟨r, r', σ1, σ2, h1, h2, fun _ => h3, InvF_1⟩
  · intro i σ hi hI
    obtain ⟨r, r', σ1, σ2, h1, h2, h3, h4⟩ := st_undo (hI (z hi)).1
    exact ⟨r, r', σ1, σ2, h1, h2, fun _ => h3, InvF_1⟩
  · intro i σ hi hI a0 a1
    obtain ⟨r, r', σ1, σ2, h1, h2, h3, h4⟩ := st_check (hI (z hi)).1 a0 a1
    exact ⟨r, r', σ1, σ2, h1, h2, fun _ => h3, InvF_1⟩
  · intro i σ hi hI a0
    obtain ⟨r, r', h1, h2, h3, h4⟩ := st_count (hI (z hi)).1 a0
    exact ⟨r, r', h1, h2, fun _ => h3, InvF_1⟩
end FRESH
