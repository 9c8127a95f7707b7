/-! ROWS: a land of the class (object t) and the row of the reference (A) -/
def hldR (A : Nat → Int32) (i k : Nat) : Bool := if toldR A i = true then bt (A (48 + i)) k else decide (k = i)
/-- who holds piece k, in the class, by the row -/
def HR (A : Nat → Int32) (k : Nat) (h : Int32) : Prop := (∀ i, i < 12 → (h = nI i ↔ hldR A i k = true)) ∧ (h = -2 ∨ ∃ i, i < 12 ∧ h = nI i)
def LD (t : Nat) (A : Nat → Int32) (σ : MH) : Prop :=
  (σ.1 t 0 = A 108 ∧ σ.1 t 1 = A 109 ∧ σ.1 t 13 = A 110 ∧ σ.1 t 14 = A 111) ∧
  (∀ i, i < 12 → σ.1 (t + 1) i = A i ∧ σ.1 (t + 2) i = A (12 + i) ∧ σ.1 (t + 3) i = A (24 + i) ∧ σ.1 (t + 4) i = A (36 + i) ∧ σ.1 (t + 5) i = A (60 + i) ∧ σ.1 (t + 7) i = A (72 + i) ∧ σ.1 (t + 34) i = A (96 + i) ∧ σ.1 (t + 35) i = A (84 + i)) ∧
  (∀ k h : Nat, k < 12 → h < 8 → σ.1 (t + 9 + k) h = A (112 + 8 * k + h)) ∧
  (∀ i j : Nat, i < 12 → j < 144 → (j : Int) < (A (96 + i)).toInt → σ.1 (t + 22 + i) j = A (208 + 144 * i + j)) ∧
  (∀ k, k < 12 → HR A k (σ.1 (t + 6) k))
/-- a person of the row -/
def WP (A : Nat → Int32) (i : Nat) : Prop :=
  (A i = 0 ∨ A i = 1) ∧ (∃ u, u < 6 ∧ A (12 + i) = nI u) ∧
  (A (24 + i) = -2 ∨ ∃ j, j < 12 ∧ j ≠ i ∧ A (24 + i) = nI j ∧ A (24 + j) = nI i ∧ liveR A i = true ∧ liveR A j = true) ∧
  (0 ≤ A (36 + i) ∧ A (36 + i) ≤ 99) ∧ (∀ k, 12 ≤ k → k < 32 → bt (A (48 + i)) k = false) ∧
  (0 ≤ A (72 + i) ∧ A (72 + i) ≤ 99) ∧ (∃ g m, g ≤ m ∧ m ≤ 144 ∧ A (84 + i) = nI g ∧ A (96 + i) = nI m ∧ ∀ j, j < m → ∃ u, u < 6 ∧ A (208 + 144 * i + j) = nI u) ∧
  (∀ h, h < 8 → -9 ≤ A (112 + 8 * i + h) ∧ A (112 + 8 * i + h) ≤ 9) ∧
  (liveR A i = true → bt (A (48 + i)) i = true)
def WF (A : Nat → Int32) : Prop :=
  (∀ k, 12 ≤ k → k < 32 → bt (A 108) k = false ∧ bt (A 109) k = false) ∧ (∀ k, k < 12 → bt (A 109) k = true → bt (A 108) k = true) ∧
  (0 ≤ A 110 ∧ A 110 ≤ 9999) ∧ (0 ≤ A 111 ∧ A 111 ≤ 65535) ∧ (∀ i, i < 12 → WP A i)
theorem WF.live {A : Nat → Int32} (h : WF A) {k : Nat} (hk : k < 12) : liveR A k = bt (A 109) k := by
  unfold liveR
  cases h2 : bt (A 109) k
  · simp
  · simp [h.2.1 k hk h2]
theorem rf2 {t : Nat} (ht : isLd t) : rfv t 2 = t + 1 ∧ rfv t 3 = t + 2 ∧ rfv t 4 = t + 3 ∧ rfv t 5 = t + 4 ∧ rfv t 6 = t + 5 ∧ rfv t 7 = t + 6 ∧ rfv t 8 = t + 7 ∧ rfv t 9 = t + 8 ∧ rfv t 10 = t + 21 ∧ rfv t 11 = t + 34 ∧ rfv t 12 = t + 35 := by
  rcases ht with rfl | rfl | rfl <;> decide +kernel
theorem rfH {t i : Nat} (ht : isLd t) (hi : i < 12) : rfv (t + 8) i = t + 9 + i := by
  have : ∀ i, i < 12 → rfv (1 + 8) i = 1 + 9 + i ∧ rfv (37 + 8) i = 37 + 9 + i ∧ rfv (73 + 8) i = 73 + 9 + i := by decide +kernel
  rcases ht with rfl | rfl | rfl
  · exact (this i hi).1
  · exact (this i hi).2.1
  · exact (this i hi).2.2
theorem rfW {t i : Nat} (ht : isLd t) (hi : i < 12) : rfv (t + 21) i = t + 22 + i := by
  have : ∀ i, i < 12 → rfv (1 + 21) i = 1 + 22 + i ∧ rfv (37 + 21) i = 37 + 22 + i ∧ rfv (73 + 21) i = 73 + 22 + i := by decide +kernel
  rcases ht with rfl | rfl | rfl
  · exact (this i hi).1
  · exact (this i hi).2.1
  · exact (this i hi).2.2
section CLS
variable {σ : MH} {A : Nat → Int32} {t i j k : Nat}
theorem c_isTold (h : LD t A σ) (hi : i < 12) : Land_isTold t (nI i) σ = some (bI (toldR A i)) := by
  unfold Land_isTold Land_isTold0 toldR bt
  simp only [v_isNumber hi, Option.bind_some, h.1.1]
  by_cases q : jshr (A 108) (nI i) &&& 1 = 1 <;> simp [q, bI, bzp, bz]
theorem c_isToldF {x : Int32} (h : x < 0 ∨ 12 ≤ x) : Land_isTold t x σ = some 0 := by
  unfold Land_isTold Land_isTold0
  simp [v_isNumberF h, bzp, bz]
theorem c_isAlive (h : LD t A σ) (w : WF A) (hi : i < 12) : Land_isAlive t (nI i) σ = some (bI (liveR A i)) := by
  rw [w.live hi]
  unfold Land_isAlive Land_isAlive0 bt
  simp only [v_isNumber hi, Option.bind_some, h.1.2.1]
  by_cases q : jshr (A 109) (nI i) &&& 1 = 1 <;> simp [q, bI, bzp, bz]
theorem c_isAliveF {x : Int32} (h : x < 0 ∨ 12 ≤ x) : Land_isAlive t x σ = some 0 := by
  unfold Land_isAlive Land_isAlive0
  simp [v_isNumberF h, bzp, bz]
theorem c_isFree (ht : isLd t) (h : LD t A σ) (w : WF A) (hi : i < 12) : Land_isFree t (nI i) σ = some (bI (freeR A i)) := by
  unfold Land_isFree Land_isFree0 freeR
  obtain ⟨f1, f2, f3, f4⟩ := ix3 12 hi
  simp only [c_isAlive h w hi, Option.bind_some]
  cases liveR A i
  · rfl
  · simp only [bI_t, f2, f3, if_true, (rf2 ht).2.2.1, (h.2.1 i hi).2.2.1]
    by_cases q : A (24 + i) = -2 <;> simp [q, bI, bzp, bz]
theorem c_isFreeF {x : Int32} (h : x < 0 ∨ 12 ≤ x) : Land_isFree t x σ = some 0 := by
  unfold Land_isFree Land_isFree0
  simp [c_isAliveF h, bzp, bz]
theorem c_hasTried (ht : isLd t) (h : LD t A σ) (hi : i < 12) (hj : j < 12) : Land_hasTried t (nI i) (nI j) σ = some (bI (bt (A (60 + i)) j)) := by
  unfold Land_hasTried Land_hasTried0 bt
  obtain ⟨f1, f2, f3, f4⟩ := ix3 12 hi
  simp only [v_isNumber hi, v_isNumber hj, Option.bind_some, f2, f3, if_true, (rf2 ht).2.2.2.2.1, (h.2.1 i hi).2.2.2.2.1]
  by_cases q : jshr (A (60 + i)) (nI j) &&& 1 = 1 <;> simp [q, bI, bzp, bz]
theorem c_join (ht : isLd t) (hi : i < 12) (hj : j < 12) : Land_join t (nI i) (nI j) σ = some (sI (sI (sI (sI σ (t + 3) i (nI j)) (t + 3) j (nI i)) (t + 4) i 0) (t + 4) j 0) := by
  unfold Land_join Land_join0
  obtain ⟨f1, f2, f3, f4⟩ := ix3 12 hi
  obtain ⟨g1, g2, g3, g4⟩ := ix3 12 hj
  obtain ⟨r2, r3, r4, r5, r6, r7, r8, r9, r10, r11, r12⟩ := rf2 ht
  simp [v_isNumber hi, v_isNumber hj, f2, f3, g2, g3, r4, r5]
theorem c_separate (ht : isLd t) (hi : i < 12) (hj : j < 12) : Land_separate t (nI i) (nI j) σ = some (sI (sI σ (t + 3) i (-2)) (t + 3) j (-2)) := by
  unfold Land_separate Land_separate0
  obtain ⟨f1, f2, f3, f4⟩ := ix3 12 hi
  obtain ⟨g1, g2, g3, g4⟩ := ix3 12 hj
  obtain ⟨r2, r3, r4, r5, r6, r7, r8, r9, r10, r11, r12⟩ := rf2 ht
  simp [v_isNumber hi, v_isNumber hj, f2, f3, g2, g3, r4, r5]
theorem c_separateF {x y : Int32} (h : y < 0 ∨ 12 ≤ y) : Land_separate t x y σ = some σ := by
  unfold Land_separate Land_separate0
  rcases tw_ix x with ⟨i, hi, rfl⟩ | hx
  · simp [v_isNumber hi, v_isNumberF h]
  · simp [v_isNumberF hx]
theorem c_markTried (ht : isLd t) (hi : i < 12) (hj : j < 12) (hij : i ≠ j) : Land_markTried t (nI i) (nI j) σ = some (sI (sI σ (t + 5) i (σ.1 (t + 5) i ||| sh1 j)) (t + 5) j (σ.1 (t + 5) j ||| sh1 i)) := by
  unfold Land_markTried Land_markTried0 sh1
  obtain ⟨f1, f2, f3, f4⟩ := ix3 12 hi
  obtain ⟨g1, g2, g3, g4⟩ := ix3 12 hj
  obtain ⟨r2, r3, r4, r5, r6, r7, r8, r9, r10, r11, r12⟩ := rf2 ht
  simp [v_isNumber hi, v_isNumber hj, f2, f3, g2, g3, r6, sI_at, Ne.symm hij]
end CLS
