/-! WHAT A DAY DOES TO A ROW -/
def wedR (A : Nat → Int32) (i j : Nat) : Nat → Int32 := upd (upd (upd (upd A (24 + i) (nI j)) (24 + j) (nI i)) (36 + i) 0) (36 + j) 0
def partR (A : Nat → Int32) (i j : Nat) : Nat → Int32 := upd (upd A (24 + i) (-2)) (24 + j) (-2)
def triedR (A : Nat → Int32) (i j : Nat) : Nat → Int32 := upd (upd A (60 + i) (A (60 + i) ||| sh1 j)) (60 + j) (A (60 + j) ||| sh1 i)
def wearR (A : Nat → Int32) (i : Nat) (y : Int32) : Nat → Int32 := fun n => if 72 ≤ n ∧ n < 84 ∧ holdR A i (n - 72) = true then jmin 99 (A n + y) else A n
def travelR (A : Nat → Int32) (i : Nat) : Nat → Int32 := if (freeR A i && !decide (A (84 + i) = A (96 + i))) = true then upd (upd A (12 + i) (A (208 + 144 * i + (A (84 + i)).toNatClampNeg))) (84 + i) (A (84 + i) + 1) else A
def mayTry (A : Nat → Int32) (i town j : Nat) : Bool := freeR A j && decide (A j = 1) && decide (A (12 + j) = nI town) && !bt (A (60 + i)) j
def fnd (p : Nat → Bool) : Nat → Nat → Nat
  | 0, j => j
  | n + 1, j => if p j = true then j else fnd p n (j + 1)
theorem fnd_le {p : Nat → Bool} : ∀ n j, j ≤ fnd p n j ∧ fnd p n j ≤ j + n
  | 0, j => ⟨Nat.le_refl _, Nat.le_refl _⟩
  | n + 1, j => by
    unfold fnd
    split
    · omega
    · have := fnd_le (p := p) n (j + 1); omega
theorem fnd_p {p : Nat → Bool} : ∀ n j, fnd p n j < j + n → p (fnd p n j) = true
  | 0, j => fun h => by unfold fnd at h; omega
  | n + 1, j => fun h => by
    unfold fnd at h ⊢
    split
    · assumption
    · rename_i q
      rw [if_neg q] at h
      exact fnd_p n (j + 1) (by omega)
def nextR (A : Nat → Int32) (i town : Nat) : Nat := fnd (mayTry A i town) 12 0
def lotR (A : Nat → Int32) : Int32 := (25173 * A 111 + 13849) &&& 65535
abbrev RS : Type := (Nat → Int32) × Int32 × Int32 × Int32
def tryR (L : LawF) (A : Nat → Int32) (i j : Nat) (s : Int32 × Int32 × Int32) : RS :=
  if fitR L (triedR A i j) i j = true then (wedR (triedR A i j) i j, s.1 + 1, s.2.1 + 1, s.2.2)
  else (wearR (wearR (triedR A i j) i (wearByR L (triedR A i j) i j)) j (wearByR L (triedR A i j) i j), s.1, s.2.1 + 1, s.2.2)
def meetR (L : LawF) (town i : Nat) (S : RS) : RS :=
  if (freeR S.1 i && decide (S.1 i = 0) && decide (S.1 (12 + i) = nI town) && !decide (nextR S.1 i town = 12)) = true then tryR L S.1 i (nextR S.1 i town) S.2 else S
def creakUp (A : Nat → Int32) (i j : Nat) : Nat → Int32 := upd (upd A (36 + i) (jmin 99 (A (36 + i) + 1))) (36 + j) (jmin 99 (A (36 + j) + 1))
def creak1 (L : LawF) (A : Nat → Int32) (i j : Nat) : Nat → Int32 := if jrem (lotR A) 10 < L 99 10 (factsR (upd A 111 (lotR A)) i j (slackR A i j)) then creakUp (upd A 111 (lotR A)) i j else upd A 111 (lotR A)
def creak2 (L : LawF) (A0 A : Nat → Int32) (i j : Nat) (s : Int32 × Int32 × Int32) : RS := if L 98 99 (factsR A i j (slackR A0 i j)) < A (36 + i) then (triedR (partR A i j) i j, s.1, s.2.1, s.2.2 + 1) else (A, s)
def creakR (L : LawF) (i : Nat) (S : RS) : RS := if nI i ≤ S.1 (24 + i) then creak2 L S.1 (creak1 L S.1 i (S.1 (24 + i)).toNatClampNeg) i (S.1 (24 + i)).toNatClampNeg S.2 else S
/-- the day's work, but for the count -/
def workR (L : LawF) (S : RS) : RS := fo (fun i S => creakR L i S) 12 (fo (fun town S => fo (fun i S => meetR L town i S) 12 S) 6 ((fo (fun i A => travelR A i) 12 S.1, S.2) : RS))
def dayR (L : LawF) (S : RS) : RS := (upd (workR L S).1 110 ((workR L S).1 110 + 1), (workR L S).2)
def daysR (L : LawF) (n : Nat) (A : Nat → Int32) : RS := fo (fun _ S => if S.1 110 < 9999 then dayR L S else S) n (A, 0, 0, 0)
/-! the well-formedness stays -/
theorem WF_upd {A B : Nat → Int32} (w : WF A) (hs : ∀ n, (n < 12 ∨ (48 ≤ n ∧ n < 60) ∨ (96 ≤ n ∧ n ≤ 110) ∨ 112 ≤ n) → B n = A n) (hx : 0 ≤ B 111 ∧ B 111 ≤ 65535)
    (h1 : ∀ i, i < 12 → ∃ u, u < 6 ∧ B (12 + i) = nI u) (h2 : ∀ i, i < 12 → B (24 + i) = -2 ∨ ∃ j, j < 12 ∧ j ≠ i ∧ B (24 + i) = nI j ∧ B (24 + j) = nI i ∧ liveR A i = true ∧ liveR A j = true)
    (h3 : ∀ i, i < 12 → 0 ≤ B (36 + i) ∧ B (36 + i) ≤ 99) (h4 : ∀ i, i < 12 → 0 ≤ B (72 + i) ∧ B (72 + i) ≤ 99) (h5 : ∀ i, i < 12 → ∃ g m, g ≤ m ∧ m ≤ 144 ∧ B (84 + i) = nI g ∧ A (96 + i) = nI m) : WF B := by
  have hl : ∀ k, liveR B k = liveR A k := fun k => by unfold liveR; rw [hs 108 (by omega), hs 109 (by omega)]
  refine ⟨?_, ?_, ?_, hx, fun i hi => ?_⟩
  · rw [hs 108 (by omega), hs 109 (by omega)]; exact w.1
  · rw [hs 108 (by omega), hs 109 (by omega)]; exact w.2.1
  · rw [hs 110 (by omega)]; exact w.2.2.1
  · obtain ⟨p1, p2, p3, p4, p5, p6, ⟨g0, m0, q1, q2, q3, q4, q5⟩, p8, p9⟩ := w.2.2.2.2 i hi
    refine ⟨?_, h1 i hi, ?_, h3 i hi, ?_, h4 i hi, ?_, ?_, ?_⟩
    · rw [hs i (by omega)]; exact p1
    · rw [hl]
      rcases h2 i hi with q | ⟨j, a1, a2, a3, a4, a5, a6⟩
      · exact Or.inl q
      · exact Or.inr ⟨j, a1, a2, a3, a4, a5, (hl j).trans a6⟩
    · rw [hs (48 + i) (by omega)]; exact p5
    · obtain ⟨g, m, a1, a2, a3, a4⟩ := h5 i hi
      have : m = m0 := (nI_eq (by omega) (by omega)).mp (a4.symm.trans q4)
      subst this
      refine ⟨g, m, a1, a2, a3, (hs (96 + i) (by omega)).trans q4, fun j hj => ?_⟩
      rw [hs (208 + 144 * i + j) (by omega)]
      exact q5 j hj
    · intro h hh
      rw [hs (112 + 8 * i + h) (by omega)]
      exact p8 h hh
    · rw [hl, hs (48 + i) (by omega)]
      exact p9
section WFS
variable {A : Nat → Int32} {i j k : Nat}
theorem w_town (w : WF A) : ∀ i, i < 12 → ∃ u, u < 6 ∧ A (12 + i) = nI u := fun i hi => (w.2.2.2.2 i hi).2.1
theorem w_wed (w : WF A) : ∀ i, i < 12 → A (24 + i) = -2 ∨ ∃ j, j < 12 ∧ j ≠ i ∧ A (24 + i) = nI j ∧ A (24 + j) = nI i ∧ liveR A i = true ∧ liveR A j = true := fun i hi => (w.2.2.2.2 i hi).2.2.1
theorem w_creaks (w : WF A) : ∀ i, i < 12 → 0 ≤ A (36 + i) ∧ A (36 + i) ≤ 99 := fun i hi => (w.2.2.2.2 i hi).2.2.2.1
theorem w_wear (w : WF A) : ∀ i, i < 12 → 0 ≤ A (72 + i) ∧ A (72 + i) ≤ 99 := fun i hi => (w.2.2.2.2 i hi).2.2.2.2.2.1
theorem w_way (w : WF A) : ∀ i, i < 12 → ∃ g m, g ≤ m ∧ m ≤ 144 ∧ A (84 + i) = nI g ∧ A (96 + i) = nI m := fun i hi => by
  obtain ⟨g, m, a, b, c, d, -⟩ := (w.2.2.2.2 i hi).2.2.2.2.2.2.1
  exact ⟨g, m, a, b, c, d⟩
theorem nI_m2 {k : Nat} (h : k < 2 ^ 31) : nI k ≠ -2 := fun q => by
  have := congrArg Int32.toInt q
  rw [nI_toInt h] at this
  have e : (-2 : Int32).toInt = -2 := rfl
  omega
theorem upd_at (f : Nat → Int32) (k n : Nat) (x : Int32) : upd f k x n = if n = k then x else f n := rfl
theorem wedR_o (n : Nat) (h : n < 24 ∨ 48 ≤ n) (hi : i < 12) (hj : j < 12) : wedR A i j n = A n := by
  unfold wedR
  rw [upd_at, if_neg (by omega), upd_at, if_neg (by omega), upd_at, if_neg (by omega), upd_at, if_neg (by omega)]
theorem partR_o (n : Nat) (h : n < 24 ∨ 36 ≤ n) (hi : i < 12) (hj : j < 12) : partR A i j n = A n := by
  unfold partR
  rw [upd_at, if_neg (by omega), upd_at, if_neg (by omega)]
theorem triedR_o (n : Nat) (h : n < 60 ∨ 72 ≤ n) (hi : i < 12) (hj : j < 12) : triedR A i j n = A n := by
  unfold triedR
  rw [upd_at, if_neg (by omega), upd_at, if_neg (by omega)]
theorem wearR_o {y : Int32} (n : Nat) (h : n < 72 ∨ 84 ≤ n) : wearR A i y n = A n := by
  unfold wearR
  rw [if_neg (by omega)]
theorem WF_tried (w : WF A) (hi : i < 12) (hj : j < 12) : WF (triedR A i j) := by
  have o := fun n h => triedR_o (A := A) n h hi hj
  refine WF_upd w (fun n hn => o n (by omega)) ?_ (fun k hk => ?_) (fun k hk => ?_) (fun k hk => ?_) (fun k hk => ?_) (fun k hk => ?_)
  · rw [o 111 (by omega)]; exact w.2.2.2.1
  · rw [o _ (by omega)]; exact w_town w k hk
  · rw [o _ (by omega)]
    rcases w_wed w k hk with q | ⟨m, a, b, c, d, e⟩
    · exact Or.inl q
    · exact Or.inr ⟨m, a, b, c, by rw [o _ (by omega)]; exact d, e⟩
  · rw [o _ (by omega)]; exact w_creaks w k hk
  · rw [o _ (by omega)]; exact w_wear w k hk
  · rw [o _ (by omega)]; exact w_way w k hk
theorem WF_wear (w : WF A) {y : Int32} (h0 : 0 ≤ y) (h9 : y ≤ 9) : WF (wearR A i y) := by
  have o := fun n h => wearR_o (A := A) (i := i) (y := y) n h
  refine WF_upd w (fun n hn => o n (by omega)) ?_ (fun k hk => ?_) (fun k hk => ?_) (fun k hk => ?_) (fun k hk => ?_) (fun k hk => ?_)
  · rw [o 111 (by omega)]; exact w.2.2.2.1
  · rw [o _ (by omega)]; exact w_town w k hk
  · rw [o _ (by omega)]
    rcases w_wed w k hk with q | ⟨m, a, b, c, d, e⟩
    · exact Or.inl q
    · exact Or.inr ⟨m, a, b, c, by rw [o _ (by omega)]; exact d, e⟩
  · rw [o _ (by omega)]; exact w_creaks w k hk
  · have := w_wear w k hk
    unfold wearR
    split
    · generalize A (72 + k) = x at *
      grind [jmin]
    · exact this
  · rw [o _ (by omega)]; exact w_way w k hk
theorem WF_lot (w : WF A) : WF (upd A 111 (lotR A)) := by
  have o : ∀ n, n ≠ 111 → upd A 111 (lotR A) n = A n := fun n h => by rw [upd_at, if_neg h]
  refine WF_upd w (fun n hn => o n (by omega)) ?_ (fun k hk => ?_) (fun k hk => ?_) (fun k hk => ?_) (fun k hk => ?_) (fun k hk => ?_)
  · rw [upd_at, if_pos rfl]
    unfold lotR
    obtain ⟨n, hn, e⟩ := pk_andE (25173 * A 111 + 13849) (m := 65535) 16 (by decide)
    rw [e, ti_le, ti_le, nI_toInt (by omega)]
    have e1 : (65535 : Int32).toInt = 65535 := rfl
    have e0 : (0 : Int32).toInt = 0 := rfl
    omega
  · rw [o _ (by omega)]; exact w_town w k hk
  · rw [o _ (by omega)]
    rcases w_wed w k hk with q | ⟨m, a, b, c, d, e⟩
    · exact Or.inl q
    · exact Or.inr ⟨m, a, b, c, by rw [o _ (by omega)]; exact d, e⟩
  · rw [o _ (by omega)]; exact w_creaks w k hk
  · rw [o _ (by omega)]; exact w_wear w k hk
  · rw [o _ (by omega)]; exact w_way w k hk
theorem WF_creakUp (w : WF A) (hi : i < 12) (hj : j < 12) : WF (creakUp A i j) := by
  have o : ∀ n, (n < 36 ∨ 48 ≤ n) → creakUp A i j n = A n := fun n h => by
    unfold creakUp
    rw [upd_at, if_neg (by omega), upd_at, if_neg (by omega)]
  refine WF_upd w (fun n hn => o n (by omega)) ?_ (fun k hk => ?_) (fun k hk => ?_) (fun k hk => ?_) (fun k hk => ?_) (fun k hk => ?_)
  · rw [o 111 (by omega)]; exact w.2.2.2.1
  · rw [o _ (by omega)]; exact w_town w k hk
  · rw [o _ (by omega)]
    rcases w_wed w k hk with q | ⟨m, a, b, c, d, e⟩
    · exact Or.inl q
    · exact Or.inr ⟨m, a, b, c, by rw [o _ (by omega)]; exact d, e⟩
  · have h1 := w_creaks w k hk
    have h2 := w_creaks w i hi
    have h3 := w_creaks w j hj
    unfold creakUp
    rw [upd_at, upd_at]
    generalize A (36 + i) = x at *
    generalize A (36 + j) = y at *
    split
    · grind [jmin]
    · split
      · grind [jmin]
      · exact h1
  · rw [o _ (by omega)]; exact w_wear w k hk
  · rw [o _ (by omega)]; exact w_way w k hk
theorem free_iff : freeR A i = true ↔ liveR A i = true ∧ A (24 + i) = -2 := by
  unfold freeR
  simp
theorem WF_wed (w : WF A) (hi : i < 12) (hj : j < 12) (hij : i ≠ j) (fi : freeR A i = true) (fj : freeR A j = true) : WF (wedR A i j) := by
  have o := fun n h => wedR_o (A := A) n h hi hj
  obtain ⟨li, ni⟩ := free_iff.mp fi
  obtain ⟨lj, nj⟩ := free_iff.mp fj
  have v : ∀ k, k < 12 → wedR A i j (24 + k) = if k = j then nI i else if k = i then nI j else A (24 + k) := fun k hk => by
    unfold wedR
    rw [upd_at, if_neg (by omega), upd_at, if_neg (by omega), upd_at, upd_at]
    by_cases q1 : k = j
    · rw [if_pos (by omega), if_pos q1]
    · rw [if_neg (by omega), if_neg q1]
      by_cases q2 : k = i
      · rw [if_pos (by omega), if_pos q2]
      · rw [if_neg (by omega), if_neg q2]
  refine WF_upd w (fun n hn => o n (by omega)) ?_ (fun k hk => ?_) (fun k hk => ?_) (fun k hk => ?_) (fun k hk => ?_) (fun k hk => ?_)
  · rw [o 111 (by omega)]; exact w.2.2.2.1
  · rw [o _ (by omega)]; exact w_town w k hk
  · rw [v k hk]
    by_cases q1 : k = j
    · subst q1
      exact Or.inr ⟨i, hi, hij, if_pos rfl, by rw [v i hi, if_neg hij, if_pos rfl], lj, li⟩
    · by_cases q2 : k = i
      · subst q2
        exact Or.inr ⟨j, hj, Ne.symm hij, by rw [if_neg q1, if_pos rfl], by rw [v j hj, if_pos rfl], li, lj⟩
      · rw [if_neg q1, if_neg q2]
        rcases w_wed w k hk with q | ⟨m, a, b, c, d, e⟩
        · exact Or.inl q
        · refine Or.inr ⟨m, a, b, c, ?_, e⟩
          rw [v m a, if_neg, if_neg]
          · exact d
          · rintro rfl
            rw [ni] at d
            exact nI_m2 (by omega) d.symm
          · rintro rfl
            rw [nj] at d
            exact nI_m2 (by omega) d.symm
  · have h1 := w_creaks w k hk
    unfold wedR
    rw [upd_at, upd_at, upd_at, if_neg (show 36 + k ≠ 24 + j by omega), upd_at, if_neg (show 36 + k ≠ 24 + i by omega)]
    split
    · decide
    · split
      · decide
      · exact h1
  · rw [o _ (by omega)]; exact w_wear w k hk
  · rw [o _ (by omega)]; exact w_way w k hk
theorem WF_part (w : WF A) (hi : i < 12) (hj : j < 12) (hij : i ≠ j) (ei : A (24 + i) = nI j) (ej : A (24 + j) = nI i) : WF (partR A i j) := by
  have o := fun n h => partR_o (A := A) n h hi hj
  have v : ∀ k, k < 12 → partR A i j (24 + k) = if k = j ∨ k = i then -2 else A (24 + k) := fun k hk => by
    unfold partR
    rw [upd_at, upd_at]
    by_cases q1 : k = j
    · rw [if_pos (by omega), if_pos (Or.inl q1)]
    · rw [if_neg (by omega)]
      by_cases q2 : k = i
      · rw [if_pos (by omega), if_pos (Or.inr q2)]
      · rw [if_neg (by omega), if_neg (by omega)]
  refine WF_upd w (fun n hn => o n (by omega)) ?_ (fun k hk => ?_) (fun k hk => ?_) (fun k hk => ?_) (fun k hk => ?_) (fun k hk => ?_)
  · rw [o 111 (by omega)]; exact w.2.2.2.1
  · rw [o _ (by omega)]; exact w_town w k hk
  · rw [v k hk]
    by_cases q1 : k = j ∨ k = i
    · rw [if_pos q1]; exact Or.inl rfl
    · rw [if_neg q1]
      rcases w_wed w k hk with q | ⟨m, a, b, c, d, e⟩
      · exact Or.inl q
      · refine Or.inr ⟨m, a, b, c, ?_, e⟩
        rw [v m a, if_neg]
        · exact d
        · rintro (rfl | rfl)
          · rw [ej] at d
            exact q1 (Or.inr ((nI_eq (by omega) (by omega)).mp d).symm)
          · rw [ei] at d
            exact q1 (Or.inl ((nI_eq (by omega) (by omega)).mp d).symm)
  · rw [o _ (by omega)]; exact w_creaks w k hk
  · rw [o _ (by omega)]; exact w_wear w k hk
  · rw [o _ (by omega)]; exact w_way w k hk
theorem WF_travel (w : WF A) (hi : i < 12) : WF (travelR A i) := by
  unfold travelR
  split
  · rename_i hc
    simp only [Bool.and_eq_true, Bool.not_eq_true', decide_eq_false_iff_not] at hc
    obtain ⟨g, m, a1, a2, a3, a4, a5⟩ := (w.2.2.2.2 i hi).2.2.2.2.2.2.1
    have hgm : g < m := by
      rcases Nat.lt_or_ge g m with q | q
      · exact q
      · exact absurd (by rw [a3, a4, show g = m by omega]) hc.2
    have o : ∀ n, n ≠ 12 + i → n ≠ 84 + i → upd (upd A (12 + i) (A (208 + 144 * i + (A (84 + i)).toNatClampNeg))) (84 + i) (A (84 + i) + 1) n = A n := fun n h h' => by
      rw [upd_at, if_neg h', upd_at, if_neg h]
    refine WF_upd w (fun n hn => o n (by omega) (by omega)) ?_ (fun k hk => ?_) (fun k hk => ?_) (fun k hk => ?_) (fun k hk => ?_) (fun k hk => ?_)
    · rw [o 111 (by omega) (by omega)]; exact w.2.2.2.1
    · by_cases q : k = i
      · subst q
        rw [upd_at, if_neg (by omega), upd_at, if_pos rfl, a3, nI_clamp (by omega)]
        exact a5 g hgm
      · rw [o _ (by omega) (by omega)]; exact w_town w k hk
    · rw [o _ (by omega) (by omega)]
      rcases w_wed w k hk with q | ⟨m, a, b, c, d, e⟩
      · exact Or.inl q
      · exact Or.inr ⟨m, a, b, c, by rw [o _ (by omega) (by omega)]; exact d, e⟩
    · rw [o _ (by omega) (by omega)]; exact w_creaks w k hk
    · rw [o _ (by omega) (by omega)]; exact w_wear w k hk
    · by_cases q : k = i
      · subst q
        refine ⟨g + 1, m, by omega, a2, ?_, a4⟩
        rw [upd_at, if_pos rfl, a3, lit_nI 1, nI_add]
      · rw [o _ (by omega) (by omega)]; exact w_way w k hk
  · exact w
end WFS
