/-! A DAY IN THE CLASS -/
section WFT
variable {L : LawF} {A : Nat → Int32} {i j k town : Nat} {S : RS}
theorem live_told (h : liveR A i = true) : toldR A i = true := by
  unfold liveR at h
  unfold toldR
  simp only [Bool.and_eq_true] at h
  exact h.1
theorem lt_same {B : Nat → Int32} (h1 : B 108 = A 108) (h2 : B 109 = A 109) : liveR B k = liveR A k ∧ toldR B k = toldR A k := by
  unfold liveR toldR
  rw [h1, h2]
  exact ⟨rfl, rfl⟩
theorem WF_try (w : WF A) (hL : LawOK L) (hi : i < 12) (hj : j < 12) (hij : i ≠ j) (fi : freeR A i = true) (fj : freeR A j = true) (s : Int32 × Int32 × Int32) : WF (tryR L A i j s).1 := by
  have w1 : WF (triedR A i j) := WF_tried w hi hj
  have o := fun n h => triedR_o (A := A) n h hi hj
  have f1 : ∀ k, k < 12 → freeR (triedR A i j) k = freeR A k := fun k hk => by
    unfold freeR
    rw [(lt_same (o 108 (by omega)) (o 109 (by omega))).1, o (24 + k) (by omega)]
  unfold tryR
  split
  · exact WF_wed w1 hi hj hij (by rw [f1 i hi]; exact fi) (by rw [f1 j hj]; exact fj)
  · have := hL.2 119 9 (factsR (triedR A i j) i j (slackR (triedR A i j) i j)) (by decide)
    exact WF_wear (WF_wear w1 this.1 this.2) this.1 this.2
theorem next_ok (h : nextR A i town ≠ 12) : nextR A i town < 12 ∧ mayTry A i town (nextR A i town) = true := by
  have h1 := fnd_le (p := mayTry A i town) 12 0
  have h2 : nextR A i town < 12 := by
    have : nextR A i town ≤ 0 + 12 := h1.2
    omega
  exact ⟨h2, fnd_p 12 0 (by show nextR A i town < _; omega)⟩
theorem meet_cond (h : (freeR A i && decide (A i = 0) && decide (A (12 + i) = nI town) && !decide (nextR A i town = 12)) = true) : freeR A i = true ∧ A i = 0 ∧ A (12 + i) = nI town ∧ nextR A i town < 12 ∧ freeR A (nextR A i town) = true ∧ A (nextR A i town) = 1 ∧ i ≠ nextR A i town := by
  simp only [Bool.and_eq_true, decide_eq_true_eq, Bool.not_eq_true', decide_eq_false_iff_not] at h
  obtain ⟨⟨⟨h1, h2⟩, h3⟩, h4⟩ := h
  obtain ⟨h5, h6⟩ := next_ok h4
  unfold mayTry at h6
  simp only [Bool.and_eq_true, decide_eq_true_eq] at h6
  refine ⟨h1, h2, h3, h5, h6.1.1.1, h6.1.1.2, fun q => ?_⟩
  rw [← q, h2] at h6
  exact absurd h6.1.1.2 (by decide)
theorem WF_meet (w : WF S.1) (hL : LawOK L) (hi : i < 12) : WF (meetR L town i S).1 := by
  unfold meetR
  split
  · rename_i h
    obtain ⟨h1, h2, h3, h4, h5, h6, h7⟩ := meet_cond h
    exact WF_try w hL hi h4 h7 h1 h5 _
  · exact w
theorem slackR_ext {A B : Nat → Int32} (h1 : ∀ n, 48 ≤ n → n < 60 → B n = A n) (h2 : ∀ n, 72 ≤ n → n < 84 → B n = A n) (h3 : ∀ n, 112 ≤ n → n < 208 → B n = A n) (hi : i < 12) (hj : j < 12) : slackR B i j = slackR A i j := by
  have hl : ∀ F, leastR B i j F = leastR A i j F := fun F => by
    unfold leastR
    refine fo_congr (fun p l hp => fo_congr (fun q l hq => ?_) l) F
    unfold holdR slkR
    rw [h1 (48 + i) (by omega) (by omega), h1 (48 + j) (by omega) (by omega), h2 (72 + p) (by omega) (by omega), h2 (72 + q) (by omega) (by omega), gapR_ext (f := hgR B p) (g := hgR B q) (f' := hgR A p) (g' := hgR A q) (fun k hk => h3 _ (by omega) (by omega)) (fun k hk => h3 _ (by omega) (by omega))]
  unfold slackR slackF
  rw [hl]
/-- the partner of one that is WED -/
theorem wed_with (w : WF A) (hi : i < 12) (h : nI i ≤ A (24 + i)) : ∃ j, j < 12 ∧ j ≠ i ∧ A (24 + i) = nI j ∧ A (24 + j) = nI i ∧ liveR A i = true ∧ liveR A j = true ∧ (A (24 + i)).toNatClampNeg = j ∧ i < j := by
  rcases w_wed w i hi with q | ⟨j, a, b, c, d, e, f⟩
  · rw [q, ti_le, nI_toInt (by omega)] at h
    have e : (-2 : Int32).toInt = -2 := rfl
    omega
  · refine ⟨j, a, b, c, d, e, f, by rw [c]; exact nI_clamp (by omega), ?_⟩
    rw [c, nI_leI (by omega) (by omega)] at h
    omega
theorem WF_creak1 (w : WF A) (hi : i < 12) (hj : j < 12) : WF (creak1 L A i j) := by
  unfold creak1
  split
  · exact WF_creakUp (WF_lot w) hi hj
  · exact WF_lot w
theorem creak1_o (n : Nat) (h : n < 36 ∨ (48 ≤ n ∧ n ≠ 111)) (hi : i < 12) (hj : j < 12) : creak1 L A i j n = A n := by
  unfold creak1 creakUp
  split
  · rw [upd_at, if_neg (by omega), upd_at, if_neg (by omega), upd_at, if_neg (by omega)]
  · rw [upd_at, if_neg (by omega)]
theorem WF_creak (w : WF S.1) (hi : i < 12) : WF (creakR L i S).1 := by
  unfold creakR
  split
  · rename_i h
    obtain ⟨j, a, b, c, d, e, f, g, g2⟩ := wed_with w hi h
    rw [g]
    have w1 : WF (creak1 L S.1 i j) := WF_creak1 w hi a
    have o := fun n h => creak1_o (L := L) (A := S.1) n h hi a
    unfold creak2
    split
    · exact WF_tried (WF_part w1 hi a (Ne.symm b) (by rw [o _ (by omega)]; exact c) (by rw [o _ (by omega)]; exact d)) hi a
    · exact w1
  · exact w
/-- told, living, pieces' heights, ways, lengths stay -/
def SameT (A B : Nat → Int32) : Prop := ∀ n, (n < 12 ∨ (48 ≤ n ∧ n < 60) ∨ (96 ≤ n ∧ n ≤ 110) ∨ 112 ≤ n) → B n = A n
theorem SameT.rf {A : Nat → Int32} : SameT A A := fun _ _ => rfl
theorem SameT.tr {A B C : Nat → Int32} (h1 : SameT A B) (h2 : SameT B C) : SameT A C := fun n h => (h2 n h).trans (h1 n h)
theorem same_travel (hi : i < 12) : SameT A (travelR A i) := fun n h => by
  unfold travelR
  split
  · rw [upd_at, if_neg (by omega), upd_at, if_neg (by omega)]
  · rfl
theorem same_meet (hi : i < 12) : SameT S.1 (meetR L town i S).1 := fun n h => by
  unfold meetR
  split
  · rename_i q
    obtain ⟨h1, h2, h3, h4, h5, h6, h7⟩ := meet_cond q
    unfold tryR
    split
    · dsimp only
      rw [wedR_o _ (by omega) hi h4, triedR_o _ (by omega) hi h4]
    · dsimp only
      rw [wearR_o _ (by omega), wearR_o _ (by omega), triedR_o _ (by omega) hi h4]
  · rfl
theorem same_creak (w : WF S.1) (hi : i < 12) : SameT S.1 (creakR L i S).1 := fun n h => by
  unfold creakR
  split
  · rename_i q
    obtain ⟨j, a, b, c, d, e, f, g, g2⟩ := wed_with w hi q
    rw [g]
    unfold creak2
    split
    · dsimp only
      rw [triedR_o _ (by omega) hi a, partR_o _ (by omega) hi a, creak1_o _ (by omega) hi a]
    · dsimp only
      rw [creak1_o _ (by omega) hi a]
  · rfl
end WFT
theorem fo_pt (c : Nat) (p : Nat → Bool) (v : Nat → Int32 → Int32) (f0 : Nat → Int32) : ∀ n, fo (fun k f => if p k = true then upd f (c + k) (v k (f (c + k))) else f) n f0 = fun m => if c ≤ m ∧ m < c + n ∧ p (m - c) = true then v (m - c) (f0 m) else f0 m
  | 0 => funext fun m => by rw [if_neg (by omega)]; rfl
  | n + 1 => by
    show (if p n = true then upd (fo _ n f0) (c + n) (v n (fo _ n f0 (c + n))) else fo _ n f0) = _
    rw [fo_pt c p v f0 n]
    funext m
    by_cases hp : p n = true
    · rw [if_pos hp]
      dsimp only [upd_at]
      by_cases hm : m = c + n
      · subst hm
        rw [if_pos rfl, if_neg (by omega), if_pos ⟨by omega, by omega, by rw [Nat.add_sub_cancel_left]; exact hp⟩, Nat.add_sub_cancel_left]
      · rw [if_neg hm]
        by_cases h2 : c ≤ m ∧ m < c + n ∧ p (m - c) = true
        · rw [if_pos h2, if_pos ⟨h2.1, by omega, h2.2.2⟩]
        · rw [if_neg h2, if_neg (fun q => h2 ⟨q.1, by omega, q.2.2⟩)]
    · rw [if_neg hp]
      by_cases h2 : c ≤ m ∧ m < c + n ∧ p (m - c) = true
      · rw [if_pos h2, if_pos ⟨h2.1, by omega, h2.2.2⟩]
      · rw [if_neg h2, if_neg]
        rintro ⟨q1, q2, q3⟩
        by_cases hm : m = c + n
        · subst hm
          rw [Nat.add_sub_cancel_left] at q3
          exact hp q3
        · exact h2 ⟨q1, by omega, q3⟩
theorem LD_upd {t : Nat} {A B : Nat → Int32} {σ σ' : MH} (h : LD t A σ) (hs : ∀ n, ((48 ≤ n ∧ n < 60) ∨ (96 ≤ n ∧ n ≤ 109) ∨ 112 ≤ n) → B n = A n) (hc : ∀ b k, (b = t + 6 ∨ (t + 9 ≤ b ∧ b < t + 35)) → σ'.1 b k = σ.1 b k) (h0 : σ'.1 t 0 = σ.1 t 0 ∧ σ'.1 t 1 = σ.1 t 1 ∧ σ'.1 t 13 = B 110 ∧ σ'.1 t 14 = B 111)
    (hp : ∀ i, i < 12 → σ'.1 (t + 1) i = B i ∧ σ'.1 (t + 2) i = B (12 + i) ∧ σ'.1 (t + 3) i = B (24 + i) ∧ σ'.1 (t + 4) i = B (36 + i) ∧ σ'.1 (t + 5) i = B (60 + i) ∧ σ'.1 (t + 7) i = B (72 + i) ∧ σ'.1 (t + 35) i = B (84 + i)) : LD t B σ' := by
  obtain ⟨a1, a2, a3, a4⟩ := h0
  refine ⟨⟨a1.trans (h.1.1.trans (hs 108 (by omega)).symm), a2.trans (h.1.2.1.trans (hs 109 (by omega)).symm), a3, a4⟩, fun i hi => ?_, fun k m hk hm => ?_, fun i j hi hj q => ?_, fun k hk => ?_⟩
  · obtain ⟨p1, p2, p3, p4, p5, p6, p7⟩ := hp i hi
    refine ⟨p1, p2, p3, p4, p5, p6, ?_, p7⟩
    rw [hc _ _ (by omega), hs _ (by omega)]
    exact (h.2.1 i hi).2.2.2.2.2.2.1
  · rw [hc _ _ (by omega), hs _ (by omega)]; exact h.2.2.1 k m hk hm
  · rw [hs _ (by omega)] at q
    rw [hc _ _ (by omega), hs _ (by omega)]; exact h.2.2.2.1 i j hi hj q
  · have := h.2.2.2.2 k hk
    rw [hc _ _ (by omega)]
    have e : ∀ i, i < 12 → hldR B i k = hldR A i k := fun i hi => by
      unfold hldR toldR
      rw [hs 108 (by omega), hs _ (by omega)]
    exact ⟨fun i hi => by rw [e i hi]; exact this.1 i hi, this.2⟩
/-- what a day changes in the class -/
def PD (t b _k : Nat) : Prop := (t ≤ b ∧ b < t + 36) ∨ b = 116 ∨ b = 127 ∨ b = 128
section CLS
variable {L : LawF} {σ : MH} {A : Nat → Int32} {t i j k : Nat}
theorem LD_tried (h : LD t A σ) (hi : i < 12) (hj : j < 12) (hij : i ≠ j) : LD t (triedR A i j) (sI (sI σ (t + 5) i (σ.1 (t + 5) i ||| sh1 j)) (t + 5) j (σ.1 (t + 5) j ||| sh1 i)) := by
  have o := fun n h => triedR_o (A := A) n h hi hj
  have z : ∀ b k, b ≠ t + 5 → (sI (sI σ (t + 5) i (σ.1 (t + 5) i ||| sh1 j)) (t + 5) j (σ.1 (t + 5) j ||| sh1 i)).1 b k = σ.1 b k := fun b k h1 => by rw [sI_obj h1, sI_obj h1]
  refine LD_upd h (fun n hn => o n (by omega)) (fun b k q => z b k (by omega)) ⟨z _ _ (by omega), z _ _ (by omega), ?_, ?_⟩ (fun k hk => ?_)
  · rw [z _ _ (by omega), o 110 (by omega)]; exact h.1.2.2.1
  · rw [z _ _ (by omega), o 111 (by omega)]; exact h.1.2.2.2
  obtain ⟨e1, e2, e3, e4, e5, e6, e7, e8⟩ := h.2.1 k hk
  refine ⟨?_, ?_, ?_, ?_, ?_, ?_, ?_⟩
  · rw [z _ _ (by omega), o _ (by omega)]; exact e1
  · rw [z _ _ (by omega), o _ (by omega)]; exact e2
  · rw [z _ _ (by omega), o _ (by omega)]; exact e3
  · rw [z _ _ (by omega), o _ (by omega)]; exact e4
  · rw [(h.2.1 i hi).2.2.2.2.1, (h.2.1 j hj).2.2.2.2.1]
    unfold triedR
    rw [upd_at, upd_at, sI_at, sI_at, e5]
    by_cases q1 : k = j
    · rw [if_pos (show t + 5 = t + 5 ∧ k = j from ⟨rfl, q1⟩), if_pos (show 60 + k = 60 + j by omega)]
    · rw [if_neg (show ¬ (t + 5 = t + 5 ∧ k = j) from fun q => q1 q.2), if_neg (show ¬ 60 + k = 60 + j by omega)]
      by_cases q2 : k = i
      · rw [if_pos (show t + 5 = t + 5 ∧ k = i from ⟨rfl, q2⟩), if_pos (show 60 + k = 60 + i by omega)]
      · rw [if_neg (show ¬ (t + 5 = t + 5 ∧ k = i) from fun q => q2 q.2), if_neg (show ¬ 60 + k = 60 + i by omega)]
  · rw [z _ _ (by omega), o _ (by omega)]; exact e6
  · rw [z _ _ (by omega), o _ (by omega)]; exact e8
theorem LD_wed (h : LD t A σ) (hi : i < 12) (hj : j < 12) : LD t (wedR A i j) (sI (sI (sI (sI σ (t + 3) i (nI j)) (t + 3) j (nI i)) (t + 4) i 0) (t + 4) j 0) := by
  have o := fun n h => wedR_o (A := A) n h hi hj
  have z : ∀ b k, b ≠ t + 3 → b ≠ t + 4 → (sI (sI (sI (sI σ (t + 3) i (nI j)) (t + 3) j (nI i)) (t + 4) i 0) (t + 4) j 0).1 b k = σ.1 b k := fun b k h1 h2 => by rw [sI_obj h2, sI_obj h2, sI_obj h1, sI_obj h1]
  refine LD_upd h (fun n hn => o n (by omega)) (fun b k q => z b k (by omega) (by omega)) ⟨z _ _ (by omega) (by omega), z _ _ (by omega) (by omega), ?_, ?_⟩ (fun k hk => ?_)
  · rw [z _ _ (by omega) (by omega), o 110 (by omega)]; exact h.1.2.2.1
  · rw [z _ _ (by omega) (by omega), o 111 (by omega)]; exact h.1.2.2.2
  obtain ⟨e1, e2, e3, e4, e5, e6, e7, e8⟩ := h.2.1 k hk
  refine ⟨?_, ?_, ?_, ?_, ?_, ?_, ?_⟩
  · rw [z _ _ (by omega) (by omega), o _ (by omega)]; exact e1
  · rw [z _ _ (by omega) (by omega), o _ (by omega)]; exact e2
  · unfold wedR
    simp only [sI_at, upd_at, e3]
    clear e1 e2 e4 e5 e6 e7 e8 z o h
    grind
  · unfold wedR
    simp only [sI_at, upd_at, e4]
    clear e1 e2 e3 e5 e6 e7 e8 z o h
    grind
  · rw [z _ _ (by omega) (by omega), o _ (by omega)]; exact e5
  · rw [z _ _ (by omega) (by omega), o _ (by omega)]; exact e6
  · rw [z _ _ (by omega) (by omega), o _ (by omega)]; exact e8
theorem LD_part (h : LD t A σ) (hi : i < 12) (hj : j < 12) : LD t (partR A i j) (sI (sI σ (t + 3) i (-2)) (t + 3) j (-2)) := by
  have o := fun n h => partR_o (A := A) n h hi hj
  have z : ∀ b k, b ≠ t + 3 → (sI (sI σ (t + 3) i (-2)) (t + 3) j (-2)).1 b k = σ.1 b k := fun b k h1 => by rw [sI_obj h1, sI_obj h1]
  refine LD_upd h (fun n hn => o n (by omega)) (fun b k q => z b k (by omega)) ⟨z _ _ (by omega), z _ _ (by omega), ?_, ?_⟩ (fun k hk => ?_)
  · rw [z _ _ (by omega), o 110 (by omega)]; exact h.1.2.2.1
  · rw [z _ _ (by omega), o 111 (by omega)]; exact h.1.2.2.2
  obtain ⟨e1, e2, e3, e4, e5, e6, e7, e8⟩ := h.2.1 k hk
  refine ⟨?_, ?_, ?_, ?_, ?_, ?_, ?_⟩
  · rw [z _ _ (by omega), o _ (by omega)]; exact e1
  · rw [z _ _ (by omega), o _ (by omega)]; exact e2
  · unfold partR
    simp only [sI_at, upd_at, e3]
    clear e1 e2 e4 e5 e6 e7 e8 z o h
    grind
  · rw [z _ _ (by omega), o _ (by omega)]; exact e4
  · rw [z _ _ (by omega), o _ (by omega)]; exact e5
  · rw [z _ _ (by omega), o _ (by omega)]; exact e6
  · rw [z _ _ (by omega), o _ (by omega)]; exact e8
theorem LD_lot (h : LD t A σ) : LD t (upd A 111 (lotR A)) (sI σ t 14 (lotR A)) := by
  have o : ∀ n, n ≠ 111 → upd A 111 (lotR A) n = A n := fun n h => by rw [upd_at, if_neg h]
  have z : ∀ b k, (b ≠ t ∨ k ≠ 14) → (sI σ t 14 (lotR A)).1 b k = σ.1 b k := fun b k h1 => by rw [sI_at, if_neg (by omega)]
  refine LD_upd h (fun n hn => o n (by omega)) (fun b k q => z b k (by omega)) ⟨z _ _ (by omega), z _ _ (by omega), ?_, ?_⟩ (fun k hk => ?_)
  · rw [z _ _ (by omega), o 110 (by omega)]; exact h.1.2.2.1
  · rw [sI_same, upd_at, if_pos rfl]
  obtain ⟨e1, e2, e3, e4, e5, e6, e7, e8⟩ := h.2.1 k hk
  refine ⟨?_, ?_, ?_, ?_, ?_, ?_, ?_⟩
  · rw [z _ _ (by omega), o _ (by omega)]; exact e1
  · rw [z _ _ (by omega), o _ (by omega)]; exact e2
  · rw [z _ _ (by omega), o _ (by omega)]; exact e3
  · rw [z _ _ (by omega), o _ (by omega)]; exact e4
  · rw [z _ _ (by omega), o _ (by omega)]; exact e5
  · rw [z _ _ (by omega), o _ (by omega)]; exact e6
  · rw [z _ _ (by omega), o _ (by omega)]; exact e8
theorem LD_creakUp (h : LD t A σ) (hi : i < 12) (hj : j < 12) (hij : i ≠ j) : LD t (creakUp A i j) (sI (sI σ (t + 4) i (jmin 99 (σ.1 (t + 4) i + 1))) (t + 4) j (jmin 99 (σ.1 (t + 4) j + 1))) := by
  have o : ∀ n, (n < 36 ∨ 48 ≤ n) → creakUp A i j n = A n := fun n h => by
    unfold creakUp
    rw [upd_at, if_neg (by omega), upd_at, if_neg (by omega)]
  have z : ∀ b k, b ≠ t + 4 → (sI (sI σ (t + 4) i (jmin 99 (σ.1 (t + 4) i + 1))) (t + 4) j (jmin 99 (σ.1 (t + 4) j + 1))).1 b k = σ.1 b k := fun b k h1 => by rw [sI_obj h1, sI_obj h1]
  refine LD_upd h (fun n hn => o n (by omega)) (fun b k q => z b k (by omega)) ⟨z _ _ (by omega), z _ _ (by omega), ?_, ?_⟩ (fun k hk => ?_)
  · rw [z _ _ (by omega), o 110 (by omega)]; exact h.1.2.2.1
  · rw [z _ _ (by omega), o 111 (by omega)]; exact h.1.2.2.2
  obtain ⟨e1, e2, e3, e4, e5, e6, e7, e8⟩ := h.2.1 k hk
  refine ⟨?_, ?_, ?_, ?_, ?_, ?_, ?_⟩
  · rw [z _ _ (by omega), o _ (by omega)]; exact e1
  · rw [z _ _ (by omega), o _ (by omega)]; exact e2
  · rw [z _ _ (by omega), o _ (by omega)]; exact e3
  · rw [(h.2.1 i hi).2.2.2.1, (h.2.1 j hj).2.2.2.1]
    unfold creakUp
    simp only [sI_at, upd_at, e4]
    clear e1 e2 e3 e5 e6 e7 e8 z o h
    grind
  · rw [z _ _ (by omega), o _ (by omega)]; exact e5
  · rw [z _ _ (by omega), o _ (by omega)]; exact e6
  · rw [z _ _ (by omega), o _ (by omega)]; exact e8
theorem c_wearDown (ht : isLd t) (h : LD t A σ) (hi : i < 12) (Ti : toldR A i = true) (y : Int32) : ∃ σ', Land_wearDown t (nI i) y σ = some σ' ∧ LD t (wearR A i y) σ' ∧ Fx (fun b _ => b = t + 7) σ σ' := by
  obtain ⟨r2, r3, r4, r5, r6, r7, r8, r9, r10, r11, r12⟩ := rf2 ht
  have hl : Land_wearDown_L2 t (nI i) y (0, σ) = some (sR σ (t + 7) (fo (fun k f => if decide (σ.1 (t + 6) k = nI i) = true then upd f (0 + k) (jmin 99 (f (0 + k) + y)) else f) 12 (σ.1 (t + 7)))) := by
    have e0 : ((0 : Int32), σ) = ((fun (n : Nat) (f : Nat → Int32) => (nI n, sR σ (t + 7) f)) 0 (σ.1 (t + 7))) := by
      show _ = (nI 0, sR σ (t + 7) (σ.1 (t + 7)))
      rw [sR_self]; rfl
    rw [e0]
    refine (itr_fo (f := fun s : Int32 × MH => Land_wearDown_l2 t (nI i) y s.1 s.2) (mk := fun (n : Nat) (f : Nat → Int32) => (nI n, sR σ (t + 7) f)) (g := fun k f => if decide (σ.1 (t + 6) k = nI i) = true then upd f (0 + k) (jmin 99 (f (0 + k) + y)) else f) (fin := fun f => sR σ (t + 7) f) (P := fun _ _ => True) (N := 12) (m := FU) (s0 := σ.1 (t + 7)) trivial (fun k f hk _ => ⟨?_, trivial⟩) (fun f _ => ?_) (by decide)).1
    · show Land_wearDown_l2 t (nI i) y (nI k) (sR σ (t + 7) f) = _
      obtain ⟨f1, f2, f3, f4⟩ := ix3 12 hk
      unfold Land_wearDown_l2 Land_wearDown_b37
      rw [if_neg f1, if_pos f2, f3, r7, r8, sR_ne σ f (show t + 6 ≠ t + 7 by omega), sR_at, sI_sR, sR_sR, sR_at, lit_nI 1, nI_add, Nat.zero_add]
      by_cases q : σ.1 (t + 6) k = nI i
      · rw [if_pos q, if_pos (decide_eq_true q)]
      · rw [if_neg q, if_neg (by simpa using q)]
    · show Land_wearDown_l2 t (nI i) y (nI 12) (sR σ (t + 7) f) = _
      unfold Land_wearDown_l2
      rw [if_pos (by decide)]
  have hw : Land_wearDown t (nI i) y σ = some (sR σ (t + 7) (fo (fun k f => if decide (σ.1 (t + 6) k = nI i) = true then upd f (0 + k) (jmin 99 (f (0 + k) + y)) else f) 12 (σ.1 (t + 7)))) := by
    unfold Land_wearDown Land_wearDown0
    rw [hl]
    rfl
  refine ⟨_, hw, ?_, Fx_row (fun _ => rfl)⟩
  · rw [fo_pt 0 (fun k => decide (σ.1 (t + 6) k = nI i)) (fun _ x => jmin 99 (x + y))]
    have o := fun n h => wearR_o (A := A) (i := i) (y := y) n h
    have z : ∀ (f : Nat → Int32) b k, b ≠ t + 7 → (sR σ (t + 7) f).1 b k = σ.1 b k := fun f b k h1 => by rw [sR_ne σ _ h1]
    refine LD_upd h (fun n hn => o n (by omega)) (fun b k q => z _ b k (by omega)) ⟨z _ _ _ (by omega), z _ _ _ (by omega), ?_, ?_⟩ (fun k hk => ?_)
    · rw [z _ _ _ (by omega), o 110 (by omega)]; exact h.1.2.2.1
    · rw [z _ _ _ (by omega), o 111 (by omega)]; exact h.1.2.2.2
    obtain ⟨e1, e2, e3, e4, e5, e6, e7, e8⟩ := h.2.1 k hk
    refine ⟨?_, ?_, ?_, ?_, ?_, ?_, ?_⟩
    · rw [z _ _ _ (by omega), o _ (by omega)]; exact e1
    · rw [z _ _ _ (by omega), o _ (by omega)]; exact e2
    · rw [z _ _ _ (by omega), o _ (by omega)]; exact e3
    · rw [z _ _ _ (by omega), o _ (by omega)]; exact e4
    · rw [z _ _ _ (by omega), o _ (by omega)]; exact e5
    · rw [sR_at]
      show (if 0 ≤ k ∧ k < 0 + 12 ∧ decide (σ.1 (t + 6) (k - 0) = nI i) = true then jmin 99 (σ.1 (t + 7) k + y) else σ.1 (t + 7) k) = wearR A i y (72 + k)
      unfold wearR
      rw [Nat.sub_zero, LD_hold h hi hk Ti, e6, show 72 + k - 72 = k by omega]
      by_cases q : holdR A i k = true
      · rw [if_pos ⟨by omega, by omega, q⟩, if_pos ⟨by omega, by omega, q⟩]
      · rw [if_neg (fun z => q z.2.2), if_neg (fun z => q z.2.2)]
    · rw [z _ _ _ (by omega), o _ (by omega)]; exact e8
end CLS
