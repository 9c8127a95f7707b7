/-! PIECES, SLACK, LETTERS OF THE CLASS, BY THE ROW -/
theorem itr_acc {f : Int32 × Int32 → Option ((Int32 × Int32) ⊕ Int32)} {g : Nat → Int32 → Int32} (N : Nat) (hs : ∀ i a, i < N → f (a, nI i) = some (.inl (g i a, nI (i + 1)))) (he : ∀ a, f (a, nI N) = some (.inr a)) {a0 : Int32} (hN : N < FU := by decide) : itr f FU (a0, (0 : Int32)) = some (fo g N a0) :=
  (itr_fo (f := f) (mk := fun i a => (a, nI i)) (g := g) (fin := fun a => a) (P := fun _ _ => True) (N := N) (m := FU) (s0 := a0) trivial (fun i a hi _ => ⟨hs i a hi, trivial⟩) (fun a _ => he a) hN).1
/-- a set by its members -/
def setR (p : Nat → Bool) (n : Nat) : Int32 := fo (fun k b => if p k = true then b ||| sh1 k else b) n 0
theorem bt_setR {p : Nat → Bool} {n k : Nat} (hn : n ≤ 32) (hk : k < 32) : bt (setR p n) k = (decide (k < n) && p k) := by
  unfold setR
  induction n with
  | zero => simpa [fo] using bt_0 hk
  | succ n ih =>
    have ih := ih (by omega)
    show bt (if p n = true then _ ||| sh1 n else _) k = _
    by_cases hp : p n = true
    · rw [if_pos hp, show sh1 n = jshl 1 (nI n) from rfl, bt_or1 (by omega) hk, ih]
      by_cases h : k = n
      · subst h; simp [hp]
      · have : decide (k < n) = decide (k < n + 1) := by simp; omega
        simp [h, this]
    · rw [if_neg hp, ih]
      by_cases h : k = n
      · subst h; simp [hp]
      · have : decide (k < n) = decide (k < n + 1) := by simp; omega
        simp [this]
theorem setR_eq {s : Int32} {p : Nat → Bool} {n : Nat} (hn : n ≤ 32) (h1 : ∀ k, k < n → bt s k = p k) (h2 : ∀ k, n ≤ k → k < 32 → bt s k = false) : setR p n = s := by
  refine bt_ext fun k hk => ?_
  rw [bt_setR hn hk]
  by_cases h : k < n
  · simp [h, h1 k h]
  · simp [h, h2 k (by omega) hk]
theorem bt_and {s t : Int32} {k : Nat} (hk : k < 32) : bt (s &&& t) k = (bt s k && bt t k) := by
  rw [bt_bit hk, bt_bit hk, bt_bit hk, Int32.toBitVec_and, BitVec.getLsbD_and]
theorem low12 {s : Int32} (h : ∀ k, 12 ≤ k → k < 32 → bt s k = false) : ∃ n, n < 4096 ∧ s = nI n := by
  refine ⟨s.toBitVec.toNat % 4096, Nat.mod_lt _ (by decide), ?_⟩
  have h2 : ∀ k, k < 32 → bt 4095 k = decide (k < 12) := by decide +kernel
  rw [← pk_and s (m := 4095) 12 (by decide)]
  refine bt_ext fun k hk => ?_
  rw [bt_and hk, h2 k hk]
  by_cases q : k < 12
  · simp [q]
  · simp [q, h k (by omega) hk]
theorem c_bitCount {s : Int32} (h : ∀ k, 12 ≤ k → k < 32 → bt s k = false) (σ : MH) : Integer_bitCount s σ = some (cntR s) := by
  obtain ⟨n, hn, rfl⟩ := low12 h
  have : ∀ a, a < 64 → ∀ b, b < 64 → Integer_bitCount0 (nI (64 * a + b)) (fun _ _ => 0, fun _ _ => 0) = some (cntR (nI (64 * a + b))) := by decide +kernel
  have := this (n / 64) (by omega) (n % 64) (by omega)
  rw [show 64 * (n / 64) + n % 64 = n by omega] at this
  exact this
section CLS
variable {σ : MH} {A : Nat → Int32} {t i j k : Nat}
theorem c_gap (a b : Nat) : Judge_gap a b σ = some (gapR (σ.1 a) (σ.1 b)) := by
  have hl : Judge_gap_L4 a b σ (0, 0) = some (gapR (σ.1 a) (σ.1 b)) := by
    refine itr_acc 8 (fun h s hh => ?_) (fun s => ?_)
    · show Judge_gap_l4 a b s (nI h) σ = _
      obtain ⟨f1, f2, f3, f4⟩ := ix3 8 hh
      obtain ⟨g1, g2, g3, g4⟩ := ix3 8 (show 7 - h < 8 by omega)
      unfold Judge_gap_l4
      rw [if_neg f1, lit_nI 7, pk_sub (by omega), if_pos f2, if_pos g2, f3, g3, lit_nI 1, nI_add]
    · show Judge_gap_l4 a b s (nI 8) σ = _
      unfold Judge_gap_l4
      rw [if_pos (by decide)]
  unfold Judge_gap Judge_gap0
  rw [hl]
  rfl
theorem fo_ext {S : Type} {g k : Nat → S → S} {n : Nat} (h : ∀ i s, i < n → g i s = k i s) {s t : S} (e : s = t) : fo g n s = fo k n t := by
  rw [e]; exact fo_congr h t
theorem gapR_ext {f g f' g' : Nat → Int32} (h1 : ∀ k, k < 8 → f k = f' k) (h2 : ∀ k, k < 8 → g k = g' k) : gapR f g = gapR f' g' := by
  unfold gapR
  refine fo_congr (fun i s hi => ?_) 0
  rw [h1 i hi, h2 (7 - i) (by omega)]
theorem c_piecesOf (ht : isLd t) (hk : i < 12) : Land_piecesOf t (nI i) σ = some (setR (fun k => decide (σ.1 (t + 6) k = nI i)) 12) := by
  have hl : Land_piecesOf_L4 t (nI i) σ (0, 0) = some (setR (fun k => decide (σ.1 (t + 6) k = nI i)) 12) := by
    refine itr_acc 12 (fun h s hh => ?_) (fun s => ?_)
    · show Land_piecesOf_l4 t (nI i) s (nI h) σ = _
      obtain ⟨f1, f2, f3, f4⟩ := ix3 12 hh
      unfold Land_piecesOf_l4 Land_piecesOf_b26
      rw [if_neg f1, if_pos f2, f3, (rf2 ht).2.2.2.2.2.1, lit_nI 1, nI_add]
      by_cases q : σ.1 (t + 6) h = nI i
      · simp [q, sh1, lit_nI]
      · simp [q]
    · show Land_piecesOf_l4 t (nI i) s (nI 12) σ = _
      unfold Land_piecesOf_l4
      rw [if_pos (by decide)]
  unfold Land_piecesOf Land_piecesOf0
  rw [hl]
  rfl
theorem c_pieces (ht : isLd t) (h : LD t A σ) (w : WF A) (hi : i < 12) (hT : toldR A i = true) : Land_piecesOf t (nI i) σ = some (A (48 + i)) := by
  rw [c_piecesOf ht hi]
  refine congrArg some (setR_eq (by omega) (fun k hk => ?_) ((w.2.2.2.2 i hi).2.2.2.2.1))
  have := (h.2.2.2.2 k hk).1 i hi
  unfold hldR at this
  rw [if_pos hT] at this
  cases hb : bt (A (48 + i)) k
  · exact (decide_eq_false (fun q => by rw [this.mp q] at hb; cases hb)).symm
  · exact (decide_eq_true (this.mpr hb)).symm
def firstR (A : Nat → Int32) (i j : Nat) : Bool := decide (A i < A j) || (decide (A i = A j) && decide (i < j))
theorem c_isFirst (ht : isLd t) (h : LD t A σ) (hi : i < 12) (hj : j < 12) : Judge_isFirst t (nI i) (nI j) σ = some (bI (firstR A i j)) := by
  unfold Judge_isFirst Judge_isFirst0 firstR Judge_isFirst_b51
  obtain ⟨f1, f2, f3, f4⟩ := ix3 12 hi
  obtain ⟨g1, g2, g3, g4⟩ := ix3 12 hj
  simp only [v_isNumber hi, v_isNumber hj, Option.bind_some, f2, f3, g2, g3, (rf2 ht).1, (h.2.1 i hi).1, (h.2.1 j hj).1, nI_leI (show j < 2 ^ 31 by omega) (show i < 2 ^ 31 by omega)]
  grind [bI, bzp, bz]
theorem jabs_bd {x : Int32} {b : Int} (h1 : -b ≤ x.toInt) (h2 : x.toInt ≤ b) (hb : b < 2147483648) : 0 ≤ (jabs x).toInt ∧ (jabs x).toInt ≤ b := by
  unfold jabs
  by_cases h : 0 ≤ x
  · rw [if_pos h]
    rw [ti_le] at h
    exact ⟨h, h2⟩
  · rw [if_neg h]
    rw [ti_le] at h
    have h0 : (0 : Int32).toInt = 0 := rfl
    rw [ti_sub (by omega) (by omega)]
    omega
theorem gapR_bd {f g : Nat → Int32} (hf : ∀ k, k < 8 → -9 ≤ f k ∧ f k ≤ 9) (hg : ∀ k, k < 8 → -9 ≤ g k ∧ g k ≤ 9) : 0 ≤ (gapR f g).toInt ∧ (gapR f g).toInt ≤ 144 := by
  unfold gapR
  refine fo_inv (P := fun n (s : Int32) => 0 ≤ s.toInt ∧ s.toInt ≤ 18 * (n : Int)) (n := 8) (s := (0 : Int32)) ⟨by decide, by decide⟩ (fun n s hn ih => ?_)
  have a1 := hf n hn
  have a2 := hg (7 - n) (by omega)
  simp only [ti_le] at a1 a2
  have e1 : (-9 : Int32).toInt = -9 := rfl
  have e2 : (9 : Int32).toInt = 9 := rfl
  have hs : (f n + g (7 - n)).toInt = (f n).toInt + (g (7 - n)).toInt := ti_add (by omega) (by omega)
  have hj := jabs_bd (x := f n + g (7 - n)) (b := 18) (by omega) (by omega) (by omega)
  rw [ti_add (by omega) (by omega)]
  push_cast
  omega
theorem slkR_bd (w : WF A) {p q : Nat} (hp : p < 12) (hq : q < 12) : 0 ≤ (slkR A p q).toInt ∧ (slkR A p q).toInt ≤ 144 := by
  have hg := gapR_bd (w.2.2.2.2 p hp).2.2.2.2.2.2.2.1 (w.2.2.2.2 q hq).2.2.2.2.2.2.2.1
  have w1 := (w.2.2.2.2 p hp).2.2.2.2.2.1
  have w2 := (w.2.2.2.2 q hq).2.2.2.2.2.1
  simp only [ti_le] at w1 w2
  have e0 : (0 : Int32).toInt = 0 := rfl
  have e1 : (99 : Int32).toInt = 99 := rfl
  unfold slkR
  show 0 ≤ (jmax 0 (gapR (fun h => A (112 + 8 * p + h)) (fun h => A (112 + 8 * q + h)) - A (72 + p) - A (72 + q))).toInt ∧ (jmax 0 (gapR (fun h => A (112 + 8 * p + h)) (fun h => A (112 + 8 * q + h)) - A (72 + p) - A (72 + q))).toInt ≤ 144
  generalize gapR (fun h => A (112 + 8 * p + h)) (fun h => A (112 + 8 * q + h)) = g at *
  have s1 : (g - A (72 + p)).toInt = g.toInt - (A (72 + p)).toInt := ti_sub (by omega) (by omega)
  have s2 : (g - A (72 + p) - A (72 + q)).toInt = g.toInt - (A (72 + p)).toInt - (A (72 + q)).toInt := by rw [ti_sub (by omega) (by omega), s1]
  unfold jmax
  split
  · rename_i h
    rw [ti_lt] at h
    omega
  · omega
end CLS
