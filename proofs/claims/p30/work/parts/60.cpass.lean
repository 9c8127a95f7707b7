/-! DAYS IN THE CLASS -/
def CR (L : LawF) (t : Nat) (S : RS) (σ : MH) : Prop := LD t S.1 σ ∧ WF S.1 ∧ LawC L σ ∧ σ.1 128 1 = S.2.1 ∧ σ.1 128 2 = S.2.2.1 ∧ σ.1 128 3 = S.2.2.2
theorem ld128 {t : Nat} (ht : isLd t) : t + 36 < 111 := by
  rcases ht with rfl | rfl | rfl <;> decide
theorem CR_PJ {L : LawF} {t : Nat} {S : RS} {σ σ' : MH} (ht : isLd t) (h : CR L t S σ) (hf : Fx PJ σ σ') : CR L t S σ' := by
  obtain ⟨h1, h2, h3, h4, h5, h6⟩ := h
  refine ⟨LD_PJ ht h1 hf, h2, LawC_PJ h3 hf, ?_, ?_, ?_⟩
  · rw [hf 128 1 (by unfold PJ; omega)]; exact h4
  · rw [hf 128 2 (by unfold PJ; omega)]; exact h5
  · rw [hf 128 3 (by unfold PJ; omega)]; exact h6
theorem PJ_PD {t : Nat} {σ σ' : MH} (hf : Fx PJ σ σ') : Fx (PD t) σ σ' := hf.mo (fun b k q => by unfold PJ at q; unfold PD; omega)
theorem PL_PD {t : Nat} {σ σ' : MH} (hf : Fx (fun b _ => t ≤ b ∧ b < t + 36) σ σ') : Fx (PD t) σ σ' := hf.mo (fun b k q => Or.inl q)
/-- the land alone has changed -/
theorem CR_land {L : LawF} {t : Nat} {A B : Nat → Int32} {s : Int32 × Int32 × Int32} {σ σ' : MH} (ht : isLd t) (h : CR L t (A, s) σ) (hB : LD t B σ') (w : WF B) (hf : Fx (fun b _ => t ≤ b ∧ b < t + 36) σ σ') : CR L t (B, s) σ' := by
  obtain ⟨h1, h2, h3, h4, h5, h6⟩ := h
  have z := ld128 ht
  have e : ∀ b k, 111 ≤ b → σ'.1 b k = σ.1 b k := fun b k hb => hf b k (by dsimp only; omega)
  exact ⟨hB, w, LawC_of h3 (fun b k a _ => e b k a), (e 128 1 (by decide)).trans h4, (e 128 2 (by decide)).trans h5, (e 128 3 (by decide)).trans h6⟩
section CLS
variable {L : LawF} {σ : MH} {A : Nat → Int32} {t i j k town : Nat} {S : RS} {s : Int32 × Int32 × Int32}
theorem c_travel1 (ht : isLd t) (h : CR L t (A, s) σ) (hi : i < 12) : ∃ σ', Course_travel_l2 t (nI i) σ = some (.inl (nI (i + 1), σ')) ∧ CR L t (travelR A i, s) σ' ∧ Fx (PD t) σ σ' := by
  obtain ⟨r2, r3, r4, r5, r6, r7, r8, r9, r10, r11, r12⟩ := rf2 ht
  obtain ⟨f1, f2, f3, f4⟩ := ix3 12 hi
  have hD := h.1
  have w := h.2.1
  dsimp only at hD w
  obtain ⟨g, m, a1, a2, a3, a4, a5⟩ := (w.2.2.2.2 i hi).2.2.2.2.2.2.1
  obtain ⟨e1, e2, e3, e4, e5, e6, e7, e8⟩ := hD.2.1 i hi
  have c1 : (nI g).toNatClampNeg = g := nI_clamp (by omega)
  have wt := WF_travel w hi
  unfold Course_travel_l2 Course_travel_b67
  simp only [f1, f2, f3, r3, r10, r11, r12, c_isFree ht hD w hi, Option.bind_some, if_true, if_false, e7, e8, a3, a4, rfW ht hi, c1, nI_leI (show m < 2 ^ 31 by omega) (show g < 2 ^ 31 by omega), nI_pos (show g < 2 ^ 31 by omega), lit_nI 144, lit_nI 1, nI_add, nI_leI (show 144 < 2 ^ 31 by omega) (show g < 2 ^ 31 by omega)]
  cases hF : freeR A i
  · refine ⟨σ, by simp [bI], ?_, Fx.rf⟩
    unfold travelR
    rw [hF]
    exact h
  · by_cases q : m ≤ g
    · refine ⟨σ, by simp [bI, q], ?_, Fx.rf⟩
      unfold travelR
      rw [a3, a4, show g = m by omega]
      simpa using h
    · have hg : ¬ 144 ≤ g := by omega
      refine ⟨sI (sI σ (t + 2) i (σ.1 (t + 22 + i) g)) (t + 35) i (nI (g + 1)), by simp [bI, q, hg, inb_nI (show g < 144 by omega) (by decide)], ?_, ?_⟩
      · have hT : travelR A i = upd (upd A (12 + i) (A (208 + 144 * i + g))) (84 + i) (nI (g + 1)) := by
          unfold travelR
          rw [if_pos, a3, c1, lit_nI 1, nI_add]
          rw [hF, a3, a4]
          simp only [Bool.true_and, Bool.not_eq_true', decide_eq_false_iff_not]
          exact fun z => q (by have := (nI_eq (show g < 2 ^ 31 by omega) (show m < 2 ^ 31 by omega)).mp z; omega)
        rw [hT] at wt ⊢
        have hv : σ.1 (t + 22 + i) g = A (208 + 144 * i + g) := hD.2.2.2.1 i g hi (by omega) (by rw [a4, nI_toInt (by omega)]; omega)
        rw [hv]
        have o : ∀ n, n ≠ 12 + i → n ≠ 84 + i → upd (upd A (12 + i) (A (208 + 144 * i + g))) (84 + i) (nI (g + 1)) n = A n := fun n h h' => by
          rw [upd_at, if_neg h', upd_at, if_neg h]
        have z : ∀ b k, b ≠ t + 2 → b ≠ t + 35 → (sI (sI σ (t + 2) i (A (208 + 144 * i + g))) (t + 35) i (nI (g + 1))).1 b k = σ.1 b k := fun b k h1 h2 => by rw [sI_obj h2, sI_obj h1]
        refine CR_land ht h ?_ wt (fun b k hb => z b k (by dsimp only at hb; omega) (by dsimp only at hb; omega))
        refine LD_upd hD (fun n hn => o n (by omega) (by omega)) (fun b k q => z b k (by omega) (by omega)) ⟨z _ _ (by omega) (by omega), z _ _ (by omega) (by omega), ?_, ?_⟩ (fun k hk => ?_)
        · rw [z _ _ (by omega) (by omega), o 110 (by omega) (by omega)]; exact hD.1.2.2.1
        · rw [z _ _ (by omega) (by omega), o 111 (by omega) (by omega)]; exact hD.1.2.2.2
        · obtain ⟨d1, d2, d3, d4, d5, d6, d7, d8⟩ := hD.2.1 k hk
          refine ⟨?_, ?_, ?_, ?_, ?_, ?_, ?_⟩
          · rw [z _ _ (by omega) (by omega), o _ (by omega) (by omega)]; exact d1
          · rw [sI_obj (show t + 2 ≠ t + 35 by omega), upd_at, if_neg (show 12 + k ≠ 84 + i by omega), upd_at, sI_at]
            by_cases qk : k = i
            · rw [if_pos (show t + 2 = t + 2 ∧ k = i from ⟨rfl, qk⟩), if_pos (show 12 + k = 12 + i by omega)]
            · rw [if_neg (show ¬ (t + 2 = t + 2 ∧ k = i) from fun z => qk z.2), if_neg (show ¬ 12 + k = 12 + i by omega)]; exact d2
          · rw [z _ _ (by omega) (by omega), o _ (by omega) (by omega)]; exact d3
          · rw [z _ _ (by omega) (by omega), o _ (by omega) (by omega)]; exact d4
          · rw [z _ _ (by omega) (by omega), o _ (by omega) (by omega)]; exact d5
          · rw [z _ _ (by omega) (by omega), o _ (by omega) (by omega)]; exact d6
          · rw [sI_at, upd_at]
            by_cases qk : k = i
            · rw [if_pos (show t + 35 = t + 35 ∧ k = i from ⟨rfl, qk⟩), if_pos (show 84 + k = 84 + i by omega)]
            · rw [if_neg (show ¬ (t + 35 = t + 35 ∧ k = i) from fun z => qk z.2), if_neg (show ¬ 84 + k = 84 + i by omega), sI_obj (show t + 35 ≠ t + 2 by omega), upd_at, if_neg (show 84 + k ≠ 12 + i by omega)]; exact d8
      · intro b k hb
        unfold PD at hb
        rw [sI_obj (by omega), sI_obj (by omega)]
theorem c_travel (ht : isLd t) (h : CR L t S σ) : ∃ σ', Course_travel t σ = some σ' ∧ CR L t (fo (fun i A => travelR A i) 12 S.1, S.2) σ' ∧ Fx (PD t) σ σ' := by
  obtain ⟨A, s⟩ := S
  obtain ⟨r, e, h1, h2⟩ : ∃ r, Course_travel_L2 t (0, σ) = some r ∧ CR L t (fo (fun i A => travelR A i) 12 A, s) r ∧ Fx (PD t) σ r := by
    refine itr_n 12 (fun (k : Nat) (z : Int32 × MH) => z.1 = nI k ∧ CR L t (fo (fun i A => travelR A i) k A, s) z.2 ∧ Fx (PD t) σ z.2) _ ⟨rfl, h, Fx.rf⟩ (fun k z hk hz => ?_) (fun z hz => ?_)
    · obtain ⟨z1, z2⟩ := z
      obtain ⟨rfl, hz2, hz3⟩ := hz
      obtain ⟨σ', e, h1, h2⟩ := c_travel1 ht hz2 hk
      exact Or.inl ⟨_, e, rfl, h1, hz3.tr h2⟩
    · obtain ⟨z1, z2⟩ := z
      obtain ⟨rfl, hz2, hz3⟩ := hz
      refine ⟨z2, ?_, hz2, hz3⟩
      show Course_travel_l2 t (nI 12) z2 = _
      unfold Course_travel_l2
      rw [if_pos (by decide)]
  refine ⟨r, ?_, h1, h2⟩
  unfold Course_travel Course_travel0
  rw [e]
  rfl
theorem c_nextFor (ht : isLd t) (h : LD t A σ) (w : WF A) (hi : i < 12) (htn : town < 6) : Course_nextFor t (nI i) (nI town) σ = some (if (freeR A i && decide (A i = 0) && decide (A (12 + i) = nI town) && !decide (nextR A i town = 12)) = true then nI (nextR A i town) else -1) := by
  obtain ⟨r2, r3, r4, r5, r6, r7, r8, r9, r10, r11, r12⟩ := rf2 ht
  obtain ⟨f1, f2, f3, f4⟩ := ix3 12 hi
  have hl : Course_nextFor_L31 t (nI i) (nI town) σ 0 = some (if nextR A i town = 12 then -1 else nI (nextR A i town)) := by
    obtain ⟨r, e, hr⟩ : ∃ r, Course_nextFor_L31 t (nI i) (nI town) σ 0 = some r ∧ r = (if nextR A i town = 12 then -1 else nI (nextR A i town)) := by
      refine itr_n 12 (fun k z => z = nI k ∧ nextR A i town = fnd (mayTry A i town) (12 - k) k) _ ⟨rfl, rfl⟩ (fun k z hk hz => ?_) (fun z hz => ?_)
      · obtain ⟨rfl, hz⟩ := hz
        obtain ⟨g1, g2, g3, g4⟩ := ix3 12 hk
        obtain ⟨e1, e2, -⟩ := h.2.1 k hk
        have hst : Course_nextFor_l31 t (nI i) (nI town) (nI k) σ = if mayTry A i town k = true then some (.inr (nI k)) else some (.inl (nI (k + 1))) := by
          unfold Course_nextFor_l31 Course_nextFor_b76 mayTry
          simp only [g1, g2, g3, r2, r3, c_isFree ht h w hk, c_hasTried ht h hi hk, Option.bind_some, if_true, if_false, e1, e2, lit_nI 1, nI_add]
          cases freeR A k
          · simp [bI]
          · by_cases q1 : A k = nI 1
            · by_cases q2 : A (12 + k) = nI town
              · cases bt (A (60 + i)) k <;> simp [bI, q1, q2]
              · simp [bI, q1, q2]
            · simp [bI, q1]
        by_cases q : mayTry A i town k = true
        · right
          refine ⟨nI k, by rw [hst, if_pos q], ?_⟩
          have : fnd (mayTry A i town) (12 - k) k = k := by
            rw [show 12 - k = (11 - k) + 1 by omega]
            unfold fnd
            rw [if_pos q]
          rw [hz, this, if_neg (by omega)]
        · left
          refine ⟨nI (k + 1), by rw [hst, if_neg q], rfl, ?_⟩
          rw [hz, show 12 - k = (12 - (k + 1)) + 1 by omega]
          show (if mayTry A i town k = true then k else fnd (mayTry A i town) (12 - (k + 1)) (k + 1)) = _
          rw [if_neg q]
      · obtain ⟨rfl, hz⟩ := hz
        refine ⟨-1, ?_, ?_⟩
        · show Course_nextFor_l31 t (nI i) (nI town) (nI 12) σ = _
          unfold Course_nextFor_l31
          rw [if_pos (by decide)]
        · rw [hz]
          rfl
    rw [e, hr]
  obtain ⟨e1, e2, -⟩ := h.2.1 i hi
  unfold Course_nextFor Course_nextFor0
  simp only [f2, f3, r2, r3, c_isFree ht h w hi, Option.bind_some, if_true, e1, e2, hl]
  cases freeR A i
  · simp [bI]
  · by_cases q1 : A i = 0
    · by_cases q2 : A (12 + i) = nI town
      · by_cases q3 : nextR A i town = 12
        · simp [bI, q1, q2, q3]
        · simp [bI, q1, q2, q3]
      · simp [bI, q1, q2]
    · simp [bI, q1]
theorem CR_cnt (h : CR L t S σ) (ht : isLd t) (k : Nat) (hk : k = 1 ∨ k = 2 ∨ k = 3) (v : Int32) : CR L t (S.1, if k = 1 then (v, S.2.2) else if k = 2 then (S.2.1, v, S.2.2.2) else (S.2.1, S.2.2.1, v)) (sI σ 128 k v) := by
  obtain ⟨h1, h2, h3, h4, h5, h6⟩ := h
  have z := ld128 ht
  refine ⟨LD_of h1 (fun b m a c => sI_obj (by omega)), h2, LawC_of h3 (fun b m a c => sI_obj (by omega)), ?_⟩
  rcases hk with rfl | rfl | rfl
  · exact ⟨sI_same, by rw [sI_fld (by decide)]; exact h5, by rw [sI_fld (by decide)]; exact h6⟩
  · exact ⟨by rw [sI_fld (by decide)]; exact h4, sI_same, by rw [sI_fld (by decide)]; exact h6⟩
  · exact ⟨by rw [sI_fld (by decide)]; exact h4, by rw [sI_fld (by decide)]; exact h5, sI_same⟩
theorem fo_hit {g : Nat → Int32 → Int32} {m : Nat} (hit : ∀ l, 0 ≤ (g m l).toInt) : ∀ (n : Nat) (l : Int32), m < n → (∀ k l, k < n → 0 ≤ l.toInt → 0 ≤ (g k l).toInt) → 0 ≤ (fo g n l).toInt
  | 0, _, h, _ => by omega
  | n + 1, l, h, hk => by
    unfold fo
    by_cases q : m < n
    · exact hk n _ (by omega) (fo_hit hit n l q (fun k l a b => hk k l (by omega) b))
    · obtain rfl : n = m := by omega
      exact hit _
theorem min_pos {c : Bool} {l s : Int32} (hs : 0 ≤ s.toInt) (hl : c = true ∨ 0 ≤ l.toInt) : 0 ≤ (if c = true then (if 0 ≤ l then jmin l s else s) else l).toInt := by
  split
  · split
    · rename_i h0
      unfold jmin
      split
      · exact hs
      · exact ti_le.mp h0
    · exact hs
  · rename_i h
    exact hl.resolve_left h
theorem slack_alive (w : WF A) (hi : i < 12) (hj : j < 12) (li : liveR A i = true) (lj : liveR A j = true) : slackR A i j ≠ -1 := by
  rw [slackR_eq w]
  have hb : holdR A i i = true := (w.2.2.2.2 i hi).2.2.2.2.2.2.2.2 li
  have hb2 : holdR A j j = true := (w.2.2.2.2 j hj).2.2.2.2.2.2.2.2 lj
  have : 0 ≤ (leastC A i j).toInt := by
    unfold leastC
    refine fo_hit (m := i) (fun l => ?_) 12 (-1) hi (fun p l hp hl => ?_)
    · refine fo_hit (m := j) (fun l => ?_) 12 l hj (fun q l hq hl => ?_)
      · exact min_pos (slkR_bd w hi hj).1 (Or.inl (by rw [hb, hb2]; rfl))
      · exact min_pos (slkR_bd w hi hq).1 (Or.inr hl)
    · refine fo_inv (P := fun _ (l : Int32) => 0 ≤ l.toInt) hl (fun q l hq h => ?_)
      exact min_pos (slkR_bd w hp hq).1 (Or.inr h)
  intro q
  rw [q] at this
  exact absurd this (by decide)
end CLS
