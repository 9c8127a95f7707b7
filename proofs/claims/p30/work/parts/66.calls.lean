/-! wear, weds, dies, seed -/
section CALLS
variable {σ : MH} {A : Nat → Int32} {i j k : Nat}
theorem LD_wearN (h : LD 1 A σ) (hk : k < 12) (n : Int32) : LD 1 (upd A (72 + k) n) (sI σ 8 k n) := by
  have o : ∀ m, m ≠ 72 + k → upd A (72 + k) n m = A m := fun m h => by rw [upd_at, if_neg h]
  have z : ∀ b m, b ≠ 8 → (sI σ 8 k n).1 b m = σ.1 b m := fun b m h1 => sI_obj h1
  refine LD_upd h (fun m hm => o m (by omega)) (fun b m q => z b m (by omega)) ⟨z _ _ (by omega), z _ _ (by omega), ?_, ?_⟩ (fun i hi => ?_)
  · rw [z _ _ (by omega), o 110 (by omega)]; exact h.1.2.2.1
  · rw [z _ _ (by omega), o 111 (by omega)]; exact h.1.2.2.2
  obtain ⟨e1, e2, e3, e4, e5, e6, e7, e8⟩ := h.2.1 i hi
  refine ⟨?_, ?_, ?_, ?_, ?_, ?_, ?_⟩
  · rw [z _ _ (by omega), o _ (by omega)]; exact e1
  · rw [z _ _ (by omega), o _ (by omega)]; exact e2
  · rw [z _ _ (by omega), o _ (by omega)]; exact e3
  · rw [z _ _ (by omega), o _ (by omega)]; exact e4
  · rw [z _ _ (by omega), o _ (by omega)]; exact e5
  · rw [sI_at, upd_at]
    by_cases q : i = k
    · rw [if_pos (show 1 + 7 = 8 ∧ i = k from ⟨rfl, q⟩), if_pos (show 72 + i = 72 + k by omega)]
    · rw [if_neg (show ¬ (1 + 7 = 8 ∧ i = k) from fun z => q z.2), if_neg (show ¬ 72 + i = 72 + k by omega)]; exact e6
  · rw [z _ _ (by omega), o _ (by omega)]; exact e8
theorem WF_wearN (w : WF A) (hk : k < 12) {n : Int32} (h0 : 0 ≤ n) (h9 : n ≤ 99) : WF (upd A (72 + k) n) := by
  have o : ∀ m, m ≠ 72 + k → upd A (72 + k) n m = A m := fun m h => by rw [upd_at, if_neg h]
  refine WF_upd w (fun m hm => o m (by omega)) ?_ (fun i hi => ?_) (fun i hi => ?_) (fun i hi => ?_) (fun i hi => ?_) (fun i hi => ?_)
  · rw [o 111 (by omega)]; exact w.2.2.2.1
  · rw [o _ (by omega)]; exact w_town w i hi
  · rw [o _ (by omega)]
    rcases w_wed w i hi with q | ⟨m, a, b, c, d, e⟩
    · exact Or.inl q
    · exact Or.inr ⟨m, a, b, c, by rw [o _ (by omega)]; exact d, e⟩
  · rw [o _ (by omega)]; exact w_creaks w i hi
  · rw [upd_at]
    split
    · exact ⟨h0, h9⟩
    · exact w_wear w i hi
  · rw [o _ (by omega)]; exact w_way w i hi
theorem c_wear (hk : k < 12) (n : Int32) : Pz_wear (nI k) n σ = some (bI (decide (0 ≤ n) && decide (n ≤ 99)), if (decide (0 ≤ n) && decide (n ≤ 99)) = true then sI σ 8 k n else σ) := by
  obtain ⟨f1, f2, f3, f4⟩ := ix3 12 hk
  unfold Pz_wear Pz_wear0
  rw [v_isNumber hk, Option.bind_some, if_neg (by decide), f3]
  by_cases q1 : n < 0
  · rw [if_pos q1, decide_eq_false (ne_of_lt32 q1)]; rfl
  · rw [if_neg q1, decide_eq_true (Int32.not_lt.mp q1)]
    by_cases q2 : n ≤ 99
    · rw [if_pos q2, decide_eq_true q2, if_pos f2]; rfl
    · rw [if_neg q2, decide_eq_false q2]; rfl
theorem c_wearF {x : Int32} (h : x < 0 ∨ 12 ≤ x) (n : Int32) : Pz_wear x n σ = some (0, σ) := by
  unfold Pz_wear Pz_wear0
  rw [v_isNumberF h, Option.bind_some, if_pos rfl]
  rfl
/-- land and row have changed together -/
theorem Inv_two {σ1 : MH} {B : Nat → Int32} (hI : Inv σ) (hf : Fx (fun b _ => 1 ≤ b ∧ b < 37) σ σ1) (h1 : LD 1 B σ1) (h2 : WF B) : Inv (sR σ1 167 B) := by
  refine Inv_land hI (fun b m hb => ?_) ?_ ?_
  · unfold PLd PX PC PQ at hb
    rw [sR_ne _ _ (by omega)]
    exact hf b m (by dsimp only; omega)
  · rw [sR_at]
    exact LD_of h1 (fun b m h1 h2 => by rw [sR_ne _ _ (by omega)])
  · rw [sR_at]; exact h2
theorem row_two {σ1 : MH} (hf : Fx (fun b _ => 1 ≤ b ∧ b < 37) σ σ1) : σ1.1 167 = σ.1 167 := funext fun k => hf 167 k (by dsimp only; omega)
theorem st_wear (hI : Inv σ) (a0 a1 : Int32) : ∃ (r r' : Int32) (σ1 : MH) (σ2 : MH), Pz_wear a0 a1 σ = some (r, σ1) ∧ Md_wear a0 a1 σ1 = some (r', σ2) ∧ r = r' ∧ Inv σ2 := by
  rcases tw_ix a0 with ⟨k, hk, rfl⟩ | h
  · refine ⟨_, _, _, _, c_wear hk a1, m_wear hk a1 _, ?_⟩
    cases q : (decide (0 ≤ a1) && decide (a1 ≤ 99))
    · rw [if_neg (by decide), if_neg (by decide)]
      exact ⟨rfl, hI⟩
    · rw [if_pos rfl, if_pos rfl]
      simp only [Bool.and_eq_true, decide_eq_true_eq] at q
      have F : Fx (fun b _ => 1 ≤ b ∧ b < 37) σ (sI σ 8 k a1) := Fx_sI (by omega)
      rw [row_two F]
      exact ⟨rfl, Inv_two hI F (LD_wearN hI.1 hk a1) (WF_wearN hI.2.1 hk q.1 q.2)⟩
  · exact ⟨0, 0, σ, σ, c_wearF h a1, m_wearF h a1 σ, rfl, hI⟩
/-! weds -/
def wedsOK (A : Nat → Int32) (i j : Nat) : Bool := freeR A i && (freeR A j && (decide (A i = 0) && decide (A j = 1)))
theorem c_weds (h : LD 1 A σ) (w : WF A) (hi : i < 12) (hj : j < 12) : Pz_weds (nI i) (nI j) σ = some (bI (wedsOK A i j), if wedsOK A i j = true then sI (sI (sI (sI σ 4 i (nI j)) 4 j (nI i)) 5 i 0) 5 j 0 else σ) := by
  obtain ⟨f1, f2, f3, f4⟩ := ix3 12 hi
  obtain ⟨g1, g2, g3, g4⟩ := ix3 12 hj
  have e1 : σ.1 2 i = A i := (h.2.1 i hi).1
  have e2 : σ.1 2 j = A j := (h.2.1 j hj).1
  unfold Pz_weds Pz_weds0 wedsOK
  rw [c_isFree ld1 h w hi, Option.bind_some, c_isFree ld1 h w hj, Option.bind_some, f3, g3, e1, e2]
  cases freeR A i
  · rfl
  · rw [bI_t, if_neg (by decide)]
    cases freeR A j
    · rfl
    · rw [bI_t, if_neg (by decide), if_pos f2]
      by_cases q1 : A i = 0
      · rw [if_pos q1, if_pos g2]
        by_cases q2 : A j = 1
        · rw [if_pos q2, c_join ld1 hi hj, decide_eq_true q1, decide_eq_true q2]
          rfl
        · rw [if_neg q2, decide_eq_false q2]
          cases decide (A i = 0) <;> rfl
      · rw [if_neg q1, decide_eq_false q1]
        rfl
theorem c_wedsF {x y : Int32} (h : (x < 0 ∨ 12 ≤ x) ∨ (∃ i, i < 12 ∧ x = nI i) ∧ (y < 0 ∨ 12 ≤ y)) (hD : LD 1 A σ) (w : WF A) : Pz_weds x y σ = some (0, σ) := by
  unfold Pz_weds Pz_weds0
  rcases h with h | ⟨⟨i, hi, rfl⟩, h⟩
  · rw [c_isFreeF h, Option.bind_some, if_pos rfl]; rfl
  · rw [c_isFree ld1 hD w hi, Option.bind_some, c_isFreeF h, Option.bind_some]
    cases freeR A i <;> rfl
theorem m_weds (hi : i < 12) (hj : j < 12) : Md_weds (nI i) (nI j) σ = some (bI (wedsOK (σ.1 167) i j), if wedsOK (σ.1 167) i j = true then sR σ 167 (wedR (σ.1 167) i j) else σ) := by
  have b0 := ix0 hi
  have b1 := ix0 hj
  unfold Md_weds Md_weds0 wedsOK
  rw [m_isFree hi, Option.bind_some, m_isFree hj, Option.bind_some, lit0k, lit0k, b0.2, b1.2]
  cases freeR (σ.1 167) i
  · rfl
  · rw [bI_t, if_neg (by decide)]
    cases freeR (σ.1 167) j
    · rfl
    · rw [bI_t, if_neg (by decide), if_pos b0.1]
      by_cases q1 : σ.1 167 i = 0
      · rw [if_pos q1, if_pos b1.1]
        by_cases q2 : σ.1 167 j = 1
        · rw [if_pos q2, m_wedsTwo hi hj, decide_eq_true q1, decide_eq_true q2]
          rfl
        · rw [if_neg q2, decide_eq_false q2]
          cases decide (σ.1 167 i = 0) <;> rfl
      · rw [if_neg q1, decide_eq_false q1]
        rfl
theorem m_wedsF {x y : Int32} (h : (x < 0 ∨ 12 ≤ x) ∨ (∃ i, i < 12 ∧ x = nI i) ∧ (y < 0 ∨ 12 ≤ y)) : Md_weds x y σ = some (0, σ) := by
  unfold Md_weds Md_weds0
  rcases h with h | ⟨⟨i, hi, rfl⟩, h⟩
  · rw [m_isFreeF h, Option.bind_some, if_pos rfl]; rfl
  · rw [m_isFree hi, Option.bind_some, m_isFreeF h, Option.bind_some]
    cases freeR (σ.1 167) i <;> rfl
theorem tw_two (x y : Int32) : (∃ i j : Nat, i < 12 ∧ j < 12 ∧ x = nI i ∧ y = nI j) ∨ ((x < 0 ∨ 12 ≤ x) ∨ (∃ i, i < 12 ∧ x = nI i) ∧ (y < 0 ∨ 12 ≤ y)) := by
  rcases tw_ix x with ⟨i, hi, rfl⟩ | h
  · rcases tw_ix y with ⟨j, hj, rfl⟩ | h2
    · exact Or.inl ⟨i, j, hi, hj, rfl, rfl⟩
    · exact Or.inr (Or.inr ⟨⟨i, hi, rfl⟩, h2⟩)
  · exact Or.inr (Or.inl h)
theorem st_weds (hI : Inv σ) (a0 a1 : Int32) : ∃ (r r' : Int32) (σ1 : MH) (σ2 : MH), Pz_weds a0 a1 σ = some (r, σ1) ∧ Md_weds a0 a1 σ1 = some (r', σ2) ∧ r = r' ∧ Inv σ2 := by
  rcases tw_two a0 a1 with ⟨i, j, hi, hj, rfl, rfl⟩ | h
  · refine ⟨_, _, _, _, c_weds hI.1 hI.2.1 hi hj, m_weds hi hj, ?_⟩
    cases q : wedsOK (σ.1 167) i j
    · rw [if_neg (by decide), q, if_neg (by decide)]
      exact ⟨rfl, hI⟩
    · rw [if_pos rfl]
      have F : Fx (fun b _ => 1 ≤ b ∧ b < 37) σ (sI (sI (sI (sI σ 4 i (nI j)) 4 j (nI i)) 5 i 0) 5 j 0) := (((Fx_sI (by omega)).tr (Fx_sI (by omega))).tr (Fx_sI (by omega))).tr (Fx_sI (by omega))
      rw [row_two F, q, if_pos rfl]
      unfold wedsOK at q
      simp only [Bool.and_eq_true, decide_eq_true_eq] at q
      have hij : i ≠ j := fun z => by
        have q2 := q.2.2
        rw [← z, q2.1] at q2
        exact absurd q2.2 (by decide)
      exact ⟨rfl, Inv_two hI F (LD_wed hI.1 hi hj) (WF_wed hI.2.1 hi hj hij q.1 q.2.1)⟩
  · exact ⟨0, 0, σ, σ, c_wedsF h hI.1 hI.2.1, m_wedsF h, rfl, hI⟩
/-! seed -/
theorem LD_seed {t : Nat} (h : LD t A σ) (v : Int32) : LD t (upd A 111 v) (sI σ t 14 v) := by
  have o : ∀ n, n ≠ 111 → upd A 111 v n = A n := fun n h => by rw [upd_at, if_neg h]
  have z : ∀ b k, (b ≠ t ∨ k ≠ 14) → (sI σ t 14 v).1 b k = σ.1 b k := fun b k h1 => by rw [sI_at, if_neg (by omega)]
  refine LD_upd h (fun n hn => o n (by omega)) (fun b k q => z b k (by omega)) ⟨z _ _ (by omega), z _ _ (by omega), ?_, ?_⟩ (fun k hk => ?_)
  · rw [z _ _ (by omega), o 110 (by omega)]; exact h.1.2.2.1
  · rw [sI_same, upd_at, if_pos rfl]
  obtain ⟨e1, e2, e3, e4, e5, e6, e7, e8⟩ := h.2.1 k hk
  refine ⟨?_, ?_, ?_, ?_, ?_, ?_, ?_⟩
  · rw [z _ _ (by omega), o _ (by omega)]; exact e1
  · rw [z _ _ (by omega), o _ (by omega)]; exact e2
  · rw [z _ _ (by omega), o _ (by omega)]; exact e3
  · rw [z _ _ (by omega), o _ (by omega)]; exact e4
  · rw [z _ _ (by omega), o _ (by omega)]; exact e5
  · rw [z _ _ (by omega), o _ (by omega)]; exact e6
  · rw [z _ _ (by omega), o _ (by omega)]; exact e8
theorem WF_seed (w : WF A) {v : Int32} (h0 : 0 ≤ v) (h9 : v ≤ 65535) : WF (upd A 111 v) := by
  have o : ∀ n, n ≠ 111 → upd A 111 v n = A n := fun n h => by rw [upd_at, if_neg h]
  refine WF_upd w (fun m hm => o m (by omega)) ?_ (fun i hi => ?_) (fun i hi => ?_) (fun i hi => ?_) (fun i hi => ?_) (fun i hi => ?_)
  · rw [upd_at, if_pos rfl]; exact ⟨h0, h9⟩
  · rw [o _ (by omega)]; exact w_town w i hi
  · rw [o _ (by omega)]
    rcases w_wed w i hi with q | ⟨m, a, b, c, d, e⟩
    · exact Or.inl q
    · exact Or.inr ⟨m, a, b, c, by rw [o _ (by omega)]; exact d, e⟩
  · rw [o _ (by omega)]; exact w_creaks w i hi
  · rw [o _ (by omega)]; exact w_wear w i hi
  · rw [o _ (by omega)]; exact w_way w i hi
theorem st_seed (hI : Inv σ) (x : Int32) : ∃ (r r' : Int32) (σ1 : MH) (σ2 : MH), Pz_seed x σ = some (r, σ1) ∧ Md_seed x σ1 = some (r', σ2) ∧ r = r' ∧ Inv σ2 := by
  unfold Pz_seed Pz_seed0 Md_seed Md_seed0
  by_cases q1 : x < 0
  · refine ⟨0, 0, σ, σ, by rw [if_pos q1]; rfl, ?_, rfl, hI⟩
    rw [m_in, decide_eq_false (ne_of_lt32 q1)]; rfl
  · by_cases q2 : x ≤ 65535
    · have F : Fx (fun b _ => 1 ≤ b ∧ b < 37) σ (sI σ 1 14 x) := Fx_sI (by omega)
      refine ⟨1, 1, sI σ 1 14 x, sR (sI σ 1 14 x) 167 (upd (σ.1 167) 111 x), by rw [if_neg q1, if_pos q2]; rfl, ?_, rfl, Inv_two hI F (LD_seed hI.1 x) (WF_seed hI.2.1 (Int32.not_lt.mp q1) q2)⟩
      rw [m_in, decide_eq_true (Int32.not_lt.mp q1), decide_eq_true q2, Option.bind_some, Bool.and_self, bI_t, if_neg (by decide), sI_sR, row_two F]
      rfl
    · refine ⟨0, 0, σ, σ, by rw [if_neg q1, if_neg q2]; rfl, ?_, rfl, hI⟩
      rw [m_in, decide_eq_false q2, Bool.and_false]; rfl
end CALLS
