/-! keep, undo, days, tried -/
def twosR (A : Nat → Int32) : Int32 := fo (fun i n => if A (24 + i) ≤ nI i then n else n + 1) 12 0
section CALLS
variable {L : LawF} {σ : MH} {A : Nat → Int32} {t i j k n : Nat}
theorem c_countTwos (ht : isLd t) (h : LD t A σ) : Land_countTwos t σ = some (twosR A) := by
  have hl : Land_countTwos_L4 t σ (0, 0) = some (twosR A) := by
    refine itr_acc 12 (fun i n hi => ?_) (fun n => ?_)
    · show Land_countTwos_l4 t n (nI i) σ = _
      obtain ⟨f1, f2, f3, f4⟩ := ix3 12 hi
      unfold Land_countTwos_l4 Land_countTwos_b23
      rw [if_neg f1, if_pos f2, f3, (rf2 ht).2.2.1, (h.2.1 i hi).2.2.1, lit_nI 1, nI_add]
      split <;> rfl
    · show Land_countTwos_l4 t n (nI 12) σ = _
      unfold Land_countTwos_l4
      rw [if_pos (by decide)]
  unfold Land_countTwos Land_countTwos0
  rw [hl]
  rfl
theorem m_wedTwos : Md_wedTwos σ = some (twosR (σ.1 167)) := by
  have hl : Md_wedTwos_L4 σ (0, 0) = some (twosR (σ.1 167)) := by
    refine itr_acc 12 (fun i n hi => ?_) (fun n => ?_)
    · show Md_wedTwos_l4 n (nI i) σ = _
      obtain ⟨f1, f2, f3, f4⟩ := ix3 12 hi
      have a1 := ixc (c := 24) hi (by decide)
      unfold Md_wedTwos_l4 Md_wedTwos_b29
      rw [if_neg f1, lit_nI 24, if_pos a1.1, a1.2, lit_nI 1, nI_add, Int32.add_zero]
      split <;> rfl
    · show Md_wedTwos_l4 n (nI 12) σ = _
      unfold Md_wedTwos_l4
      rw [if_pos (by decide)]
  unfold Md_wedTwos Md_wedTwos0
  rw [hl]
  rfl
theorem twosR_agree {B : Nat → Int32} (e : ∀ k, k < 1936 → B k = A k) : twosR B = twosR A := by
  unfold twosR
  exact fo_congr (fun i n hi => by rw [e _ (by omega)]) 0
theorem st_keep (hI : Inv σ) : ∃ (r r' : Int32) (σ1 : MH) (σ2 : MH), Pz_keep σ = some (r, σ1) ∧ Md_keep σ1 = some (r', σ2) ∧ r = r' ∧ Inv σ2 := by
  obtain ⟨h1, h2, h3, h4, h5⟩ := hI
  obtain ⟨σ1, e1, c1, f1⟩ := c_copyFrom (t := 37) (u := 1) (by omega) σ
  have g1 : LD 1 (σ.1 167) (sI σ1 0 3 1) := LD_of h1 (fun b k a c => by rw [sI_obj (by omega)]; exact f1 b k (by omega))
  have g2 : LD 37 (σ.1 167) (sI σ1 0 3 1) := LD_of (LD_CP h1 c1) (fun b k a c => by rw [sI_obj (by omega)])
  have x1 : ∀ b k, ¬ (37 ≤ b ∧ b < 73) → b ≠ 0 → (sI σ1 0 3 1).1 b k = σ.1 b k := fun b k p q => by
    rw [sI_obj q]; exact f1 b k p
  have e2 : Pz_keep σ = some (twosR (σ.1 167), sI σ1 0 3 1) := by
    unfold Pz_keep Pz_keep0
    rw [e1, Option.bind_some, c_countTwos ld1 g1]
    rfl
  have x03 : (sI σ1 0 3 1).1 0 3 = 1 := sI_same
  generalize sI σ1 0 3 1 = τ at g1 g2 x1 e2 x03
  have rt : τ.1 167 = σ.1 167 := funext fun k => x1 167 k (by omega) (by omega)
  have e3 : Md_keep τ = some (twosR (σ.1 167), sR (sI τ 166 46 1) 169 (fun m => if m < 1936 then σ.1 167 m else σ.1 169 m)) := by
    unfold Md_keep Md_keep0
    rw [m_copiesRow (by decide), Option.bind_some, m_wedTwos, Option.bind_some, sR_ne _ _ (by decide), sI_objF (by decide), sI_objF (by decide), rt]
    have : τ.1 169 = σ.1 169 := funext fun k => x1 169 k (by omega) (by omega)
    rw [this]
  refine ⟨_, _, _, _, e2, e3, rfl, ?_⟩
  have y1 : ∀ b k, b ≠ 169 → (b ≠ 166 ∨ k ≠ 46) → (sR (sI τ 166 46 1) 169 (fun m => if m < 1936 then σ.1 167 m else σ.1 169 m)).1 b k = τ.1 b k := fun b k p q => by
    rw [sR_ne _ _ p, sI_ne (by omega)]
  have y46 : (sR (sI τ 166 46 1) 169 (fun m => if m < 1936 then σ.1 167 m else σ.1 169 m)).1 166 46 = 1 := by
    rw [sR_ne _ _ (by decide), sI_same]
  have y169 : (sR (sI τ 166 46 1) 169 (fun m => if m < 1936 then σ.1 167 m else σ.1 169 m)).1 169 = fun m => if m < 1936 then σ.1 167 m else σ.1 169 m := sR_at _ _ _
  generalize sR (sI τ 166 46 1) 169 (fun m => if m < 1936 then σ.1 167 m else σ.1 169 m) = υ at y1 y46 y169
  have ru : υ.1 167 = σ.1 167 := (funext fun k => y1 167 k (by omega) (by omega)).trans rt
  refine ⟨?_, ?_, ⟨?_, ?_⟩, InvT_of h4 (fun b k q => ?_), InvW_of h5 (fun b k q => ?_)⟩
  · rw [ru]
    exact LD_of g1 (fun b k a c => y1 b k (by omega) (by omega))
  · rw [ru]; exact h2
  · rw [y46, y1 0 3 (by omega) (by omega)]; exact x03
  · right
    rw [y169, y1 0 3 (by omega) (by omega)]
    refine ⟨x03, LD_agree (LD_of g2 (fun b k a c => y1 b k (by omega) (by omega))) (fun k hk => if_pos hk), WF_agree h2 (fun k hk => if_pos hk)⟩
  · rw [y1 b k (by omega) (by omega), x1 b k (by omega) (by omega)]
  · rw [y1 b k (by omega) (by omega), x1 b k (by omega) (by omega)]
theorem st_undo (hI : Inv σ) : ∃ (r r' : Int32) (σ1 : MH) (σ2 : MH), Pz_undo σ = some (r, σ1) ∧ Md_undo σ1 = some (r', σ2) ∧ r = r' ∧ Inv σ2 := by
  have hI0 := hI
  obtain ⟨h1, h2, ⟨h3, h3'⟩, h4, h5⟩ := hI
  rcases h3' with h0 | ⟨k1, k2, k3⟩
  · refine ⟨0, 0, σ, σ, ?_, ?_, rfl, hI0⟩
    · unfold Pz_undo Pz_undo0
      rw [if_pos h0]; rfl
    · unfold Md_undo Md_undo0
      rw [if_pos (h3.symm.trans h0)]; rfl
  · obtain ⟨σ1, e1, c1, f1⟩ := c_copyFrom (t := 1) (u := 37) (by omega) σ
    have rt : σ1.1 167 = σ.1 167 := funext fun k => f1 167 k (by omega)
    have r9 : σ1.1 169 = σ.1 169 := funext fun k => f1 169 k (by omega)
    refine ⟨1, 1, σ1, sR σ1 167 (fun m => if m < 1936 then σ.1 169 m else σ.1 167 m), ?_, ?_, rfl, ?_⟩
    · unfold Pz_undo Pz_undo0
      rw [if_neg (by rw [k1]; decide), e1]; rfl
    · unfold Md_undo Md_undo0
      rw [if_neg (by rw [f1 166 46 (by omega), ← h3, k1]; decide), m_copiesRow (by decide), Option.bind_some, rt, r9]
      rfl
    · exact Inv_two hI0 (f1.mo (fun b k q => by omega)) (LD_agree (LD_CP k2 c1) (fun k hk => if_pos hk)) (WF_agree k3 (fun k hk => if_pos hk))
theorem lim60 (x : Int32) : (∃ n : Nat, 1 ≤ n ∧ n ≤ 60 ∧ x = nI n) ∨ (x < 1 ∨ 60 < x) := by
  by_cases h1 : x < 1
  · exact Or.inr (Or.inl h1)
  · by_cases h2 : 60 < x
    · exact Or.inr (Or.inr h2)
    · left
      have e : (60 : Int32).toInt = ((60 : Nat) : Int) := rfl
      obtain ⟨n, hn, rfl⟩ := nI_of2 (x := x) (n := 60) e (by grind) (Int32.not_lt.mp h2)
      refine ⟨n, ?_, hn, rfl⟩
      rw [show (1 : Int32) = nI 1 from rfl, nI_ltI (by omega) (by omega)] at h1
      omega
theorem lim60_m {x : Int32} (h : x < 1 ∨ 60 < x) : Md_in x 1 60 σ = some 0 := by
  rw [m_in]
  rcases h with h | h
  · rw [decide_eq_false (ne_of_lt32 h)]; rfl
  · rw [decide_eq_false (ne_of_lt32 h), Bool.and_false]; rfl
theorem lim60_y (h1 : 1 ≤ n) (h2 : n ≤ 60) : Md_in (nI n) 1 60 σ = some 1 ∧ ¬ nI n < 1 ∧ nI n ≤ 60 ∧ ¬ 60 < nI n := by
  have a1 : ¬ nI n < 1 := by
    rw [show (1 : Int32) = nI 1 from rfl, nI_ltI (by omega) (by omega)]; omega
  have a2 : nI n ≤ 60 := by
    rw [show (60 : Int32) = nI 60 from rfl, nI_leI (by omega) (by omega)]; omega
  refine ⟨?_, a1, a2, fun q => ne_of_lt32 q a2⟩
  rw [m_in, decide_eq_true (Int32.not_lt.mp a1), decide_eq_true a2]; rfl
/-- a day of the class, then one of the reference -/
theorem st_days (hI : Inv σ) (x : Int32) : ∃ (r r' : Int32) (σ1 : MH) (σ2 : MH), Pz_days x σ = some (r, σ1) ∧ Md_days x σ1 = some (r', σ2) ∧ r = r' ∧ Inv σ2 := by
  rcases lim60 x with ⟨n, n1, n2, rfl⟩ | h
  · obtain ⟨y1, y2, y3, y4⟩ := lim60_y (σ := σ) n1 n2
    obtain ⟨-, L, hL, hC, hM⟩ := hI.2.2.2.2
    obtain ⟨σ1, e1, c1, f1⟩ := c_pass ld1 hL hI.1 hI.2.1 hC n2
    have rt : σ1.1 167 = σ.1 167 := funext fun k => f1 167 k (by unfold PD; omega)
    have hM1 : LawM L σ1 := LawM_of hM (fun b k a c => f1 b k (by unfold PD; omega)) (f1 166 13 (by unfold PD; omega))
    obtain ⟨σ2, e2, c2, f2⟩ := m_daysGo hL hM1 (by rw [rt]; exact hI.2.1) n2
    rw [rt] at c2
    refine ⟨σ1.1 128 1, σ2.1 166 31, σ1, σ2, ?_, ?_, ?_, ?_⟩
    · unfold Pz_days Pz_days0
      rw [if_neg y2, if_pos y3, e1]; rfl
    · unfold Md_days Md_days0
      rw [(lim60_y (σ := σ1) n1 n2).1, Option.bind_some, if_neg (by decide), e2]; rfl
    · rw [c1.2.2.2.1, c2.2.2.1]
    · have F : Fx PLd σ σ2 := (f1.mo (fun b k q => by unfold PD at q; unfold PLd PX PC PQ; omega)).tr (f2.mo (fun b k q => by unfold PM at q; unfold PLd PX PC PQ; omega))
      refine Inv_land hI F ?_ ?_
      · rw [c2.1]
        exact LD_of c1.1 (fun b k a c => f2 b k (by unfold PM; omega))
      · rw [c2.1]; exact c1.2.1
  · refine ⟨-1, -1, σ, σ, ?_, ?_, rfl, hI⟩
    · unfold Pz_days Pz_days0
      rcases h with h | h
      · rw [if_pos h]
      · rw [if_neg (by grind), if_neg (ne_of_lt32 h)]
    · unfold Md_days Md_days0
      rw [lim60_m h, Option.bind_some, if_pos rfl]
end CALLS
