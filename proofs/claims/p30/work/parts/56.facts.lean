/-! SLACK OF TWO, THE LETTERS' VALUES -/
theorem fo_id {S : Type} {g : Nat → S → S} {n : Nat} (h : ∀ i s, i < n → g i s = s) (s : S) : fo g n s = s := by
  induction n with
  | zero => rfl
  | succ n ih =>
    show g n (fo g n s) = s
    rw [ih (fun i s hi => h i s (by omega)), h n s (by omega)]
theorem LD_of {t : Nat} {A : Nat → Int32} {σ σ' : MH} (h : LD t A σ) (hf : ∀ b k, t ≤ b → b < t + 36 → σ'.1 b k = σ.1 b k) : LD t A σ' := by
  obtain ⟨⟨a1, a2, a3, a4⟩, h2, h3, h4, h5⟩ := h
  refine ⟨⟨?_, ?_, ?_, ?_⟩, fun i hi => ?_, fun k m hk hm => ?_, fun i j hi hj q => ?_, fun k hk => ?_⟩
  · rw [hf _ _ (by omega) (by omega)]; exact a1
  · rw [hf _ _ (by omega) (by omega)]; exact a2
  · rw [hf _ _ (by omega) (by omega)]; exact a3
  · rw [hf _ _ (by omega) (by omega)]; exact a4
  · rw [hf _ _ (by omega) (by omega), hf _ _ (by omega) (by omega), hf _ _ (by omega) (by omega), hf _ _ (by omega) (by omega), hf _ _ (by omega) (by omega), hf _ _ (by omega) (by omega), hf _ _ (by omega) (by omega), hf _ _ (by omega) (by omega)]
    exact h2 i hi
  · rw [hf _ _ (by omega) (by omega)]; exact h3 k m hk hm
  · rw [hf _ _ (by omega) (by omega)]; exact h4 i j hi hj q
  · rw [hf _ _ (by omega) (by omega)]; exact h5 k hk
section CLS
variable {σ : MH} {A : Nat → Int32} {t i j k : Nat}
theorem LD_hold (h : LD t A σ) (hi : i < 12) (hk : k < 12) (hT : toldR A i = true) : decide (σ.1 (t + 6) k = nI i) = holdR A i k := by
  have := (h.2.2.2.2 k hk).1 i hi
  unfold hldR at this
  rw [if_pos hT] at this
  unfold holdR
  cases hb : bt (A (48 + i)) k
  · exact decide_eq_false (fun q => by rw [this.mp q] at hb; cases hb)
  · exact decide_eq_true (this.mpr hb)
def leastC (A : Nat → Int32) (i j : Nat) : Int32 := fo (fun p l => fo (fun q l => if (holdR A i p && holdR A j q) = true then (if 0 ≤ l then jmin l (slkR A p q) else slkR A p q) else l) 12 l) 12 (-1)
theorem leastC_eq (w : WF A) (F : Int32) (hF : 144 < F.toInt) : slackF A i j F = leastC A i j := by
  have key : (leastC A i j = -1 ∧ leastR A i j F = F) ∨ (leastC A i j = leastR A i j F ∧ 0 ≤ (leastR A i j F).toInt ∧ (leastR A i j F).toInt ≤ 144) := by
    unfold leastC leastR
    refine fo_rel (R := fun _ (l m : Int32) => (l = -1 ∧ m = F) ∨ (l = m ∧ 0 ≤ m.toInt ∧ m.toInt ≤ 144)) (Or.inl ⟨rfl, rfl⟩) (fun p l m hp hr => ?_)
    refine fo_rel (R := fun _ (l m : Int32) => (l = -1 ∧ m = F) ∨ (l = m ∧ 0 ≤ m.toInt ∧ m.toInt ≤ 144)) hr (fun q l m hq hr => ?_)
    have hb := slkR_bd w hp hq
    generalize slkR A p q = s at hb
    by_cases hc : (holdR A i p && holdR A j q) = true
    · rw [if_pos hc, if_pos hc]
      right
      rcases hr with ⟨rfl, rfl⟩ | ⟨rfl, h1, h2⟩
      · rw [if_neg (by decide)]
        unfold jmin
        rw [if_pos (ti_lt.mpr (by omega))]
        exact ⟨rfl, hb⟩
      · rw [if_pos (ti_le.mpr (by show (0 : Int32).toInt ≤ _; exact h1))]
        refine ⟨rfl, ?_⟩
        unfold jmin
        split <;> omega
    · rw [if_neg hc, if_neg hc]
      exact hr
  unfold slackF
  rcases key with ⟨h1, h2⟩ | ⟨h1, h2, h3⟩
  · rw [if_pos h2, h1]
  · rw [if_neg, h1]
    intro q
    rw [q] at h3
    omega
theorem slackR_eq (w : WF A) : slackR A i j = leastC A i j := leastC_eq w _ (by decide +kernel)
theorem leastC_bd (w : WF A) : leastC A i j = -1 ∨ (0 ≤ (leastC A i j).toInt ∧ (leastC A i j).toInt ≤ 144) := by
  unfold leastC
  refine fo_inv (P := fun _ (l : Int32) => l = -1 ∨ (0 ≤ l.toInt ∧ l.toInt ≤ 144)) (Or.inl rfl) (fun p l hp hr => ?_)
  refine fo_inv (P := fun _ (l : Int32) => l = -1 ∨ (0 ≤ l.toInt ∧ l.toInt ≤ 144)) hr (fun q l hq hr => ?_)
  have hb := slkR_bd w hp hq
  generalize slkR A p q = s at hb
  unfold jmin
  split
  · right
    rcases hr with rfl | hr
    · rw [if_neg (by decide)]; exact hb
    · split
      · split <;> omega
      · exact hb
  · exact hr
theorem slackR_bd (w : WF A) : slackR A i j = -1 ∨ (0 ≤ (slackR A i j).toInt ∧ (slackR A i j).toInt ≤ 144) := by
  rw [slackR_eq w]; exact leastC_bd w
theorem c_slk (ht : isLd t) (h : LD t A σ) {p q : Nat} (hp : p < 12) (hq : q < 12) : jmax 0 ((gapR (σ.1 (t + 9 + p)) (σ.1 (t + 9 + q)) - σ.1 (t + 7) p) - σ.1 (t + 7) q) = slkR A p q := by
  rw [gapR_ext (f := σ.1 (t + 9 + p)) (g := σ.1 (t + 9 + q)) (f' := hgR A p) (g' := hgR A q) (fun k hk => h.2.2.1 p k hp hk) (fun k hk => h.2.2.1 q k hq hk), (h.2.1 p hp).2.2.2.2.2.1, (h.2.1 q hq).2.2.2.2.2.1]
  rfl
theorem c_slackOf (ht : isLd t) (h : LD t A σ) (w : WF A) (hi : i < 12) (hj : j < 12) (Ti : toldR A i = true) (Tj : toldR A j = true) : Judge_slackOf t (nI i) (nI j) σ = some (slackR A i j) := by
  obtain ⟨r2, r3, r4, r5, r6, r7, r8, r9, r10, r11, r12⟩ := rf2 ht
  have inner : ∀ (p : Nat) (l : Int32), p < 12 → Judge_slackOf_L16 t (nI i) (nI j) (nI p) σ (l, 0) = some (fo (fun q l => if (holdR A i p && holdR A j q) = true then (if 0 ≤ l then jmin l (slkR A p q) else slkR A p q) else l) 12 l) := by
    intro p l hp
    obtain ⟨f1, f2, f3, f4⟩ := ix3 12 hp
    have e1 := LD_hold h hi hp Ti
    by_cases hc : σ.1 (t + 6) p = nI i
    · rw [decide_eq_true hc] at e1
      refine itr_acc 12 (fun q l hq => ?_) (fun l => ?_)
      · show Judge_slackOf_l16 t (nI i) (nI j) (nI p) l (nI q) σ = _
        obtain ⟨g1, g2, g3, g4⟩ := ix3 12 hq
        unfold Judge_slackOf_l16 Judge_slackOf_b105 Judge_slackOf_b107
        have e2 := LD_hold h hj hq Tj
        simp only [f2, f3, g1, g2, g3, r7, r8, r9, hc, if_true, if_false, rfH ht hp, rfH ht hq, c_gap, Option.bind_some, c_slk ht h hp hq, ← e1, ← e2, Bool.true_and, decide_eq_true_eq, lit_nI 1, nI_add]
        split <;> (try split) <;> rfl
      · show Judge_slackOf_l16 t (nI i) (nI j) (nI p) l (nI 12) σ = _
        unfold Judge_slackOf_l16
        simp only [f2, f3, r7, hc, if_true]
        rw [if_pos (by decide)]
    · rw [decide_eq_false hc] at e1
      have : Judge_slackOf_L16 t (nI i) (nI j) (nI p) σ (l, 0) = some l := by
        refine itr_end (n := FU - 1) ?_
        show Judge_slackOf_l16 t (nI i) (nI j) (nI p) l 0 σ = _
        unfold Judge_slackOf_l16
        simp only [f2, f3, r7, hc, if_true, if_false]
      rw [this]
      refine congrArg some (fo_id (fun q l _ => ?_) l).symm
      simp only [← e1, Bool.false_and, Bool.false_eq_true, if_false]
  have hl : Judge_slackOf_L6 t (nI i) (nI j) σ (-1, 0) = some (leastC A i j) := by
    refine itr_acc 12 (fun p l hp => ?_) (fun l => ?_)
    · show Judge_slackOf_l6 t (nI i) (nI j) l (nI p) σ = _
      obtain ⟨f1, f2, f3, f4⟩ := ix3 12 hp
      unfold Judge_slackOf_l6 Judge_slackOf_b113
      rw [if_neg f1, inner p l hp, Option.bind_some, lit_nI 1, nI_add]
    · show Judge_slackOf_l6 t (nI i) (nI j) l (nI 12) σ = _
      unfold Judge_slackOf_l6
      rw [if_pos (by decide)]
  unfold Judge_slackOf Judge_slackOf0
  rw [hl, slackR_eq w]
  rfl
/-- what the letters stand for -/
def factsR (A : Nat → Int32) (i j : Nat) (s : Int32) : Nat → Int32 := fun n => match n with
  | 0 => nI i
  | 1 => nI j
  | 2 => s
  | 3 => cntR (A (48 + i))
  | 4 => cntR (A (48 + j))
  | 5 => A (12 + i)
  | 6 => A (12 + j)
  | 7 => A 110
  | 8 => A (36 + i)
  | 9 => A i
  | 10 => A j
  | _ => 0
theorem n11 {P : Nat → Prop} (h : P 0 ∧ P 1 ∧ P 2 ∧ P 3 ∧ P 4 ∧ P 5 ∧ P 6 ∧ P 7 ∧ P 8 ∧ P 9 ∧ P 10) : ∀ n, n < 11 → P n := by
  intro n hn
  match n, hn with
  | 0, _ => exact h.1
  | 1, _ => exact h.2.1
  | 2, _ => exact h.2.2.1
  | 3, _ => exact h.2.2.2.1
  | 4, _ => exact h.2.2.2.2.1
  | 5, _ => exact h.2.2.2.2.2.1
  | 6, _ => exact h.2.2.2.2.2.2.1
  | 7, _ => exact h.2.2.2.2.2.2.2.1
  | 8, _ => exact h.2.2.2.2.2.2.2.2.1
  | 9, _ => exact h.2.2.2.2.2.2.2.2.2.1
  | 10, _ => exact h.2.2.2.2.2.2.2.2.2.2
theorem c_fill (ht : isLd t) (h : LD t A σ) (w : WF A) (hi : i < 12) (hj : j < 12) (Ti : toldR A i = true) (Tj : toldR A j = true) (s : Int32) : ∃ σ', Judge_fill t (nI i) (nI j) s σ = some σ' ∧ Fx (fun b _ => b = 127) σ σ' ∧ ∀ n, n < 11 → σ'.1 127 n = factsR A i j (jmax 0 s) n := by
  obtain ⟨r2, r3, r4, r5, r6, r7, r8, r9, r10, r11, r12⟩ := rf2 ht
  obtain ⟨f1, f2, f3, f4⟩ := ix3 12 hi
  obtain ⟨g1, g2, g3, g4⟩ := ix3 12 hj
  have ht' : t = 1 ∨ t = 37 ∨ t = 73 := ht
  have h1 : LD t A (sI (sI (sI σ 127 0 (nI i)) 127 1 (nI j)) 127 2 (jmax 0 s)) := LD_of h (fun b k h1 h2 => by
    have : b ≠ 127 := by omega
    simp only [sI_obj this])
  have h2 : ∀ x, LD t A (sI (sI (sI (sI σ 127 0 (nI i)) 127 1 (nI j)) 127 2 (jmax 0 s)) 127 3 x) := fun x => LD_of h1 (fun b k h1 h2 => by
    have : b ≠ 127 := by omega
    simp only [sI_obj this])
  have q0 : (t = 127) = False := by simp; omega
  have q1 : (t + 1 = 127) = False := by simp; omega
  have q2 : (t + 2 = 127) = False := by simp; omega
  have q4 : (t + 4 = 127) = False := by simp; omega
  unfold Judge_fill Judge_fill0
  simp only [v_isNumber hi, v_isNumber hj, Option.bind_some, c_pieces ht h1 w hi Ti, c_bitCount (w.2.2.2.2 i hi).2.2.2.2.1, c_pieces ht (h2 _) w hj Tj, c_bitCount (w.2.2.2.2 j hj).2.2.2.2.1, f2, f3, g2, g3, if_true, show ((1 : Int32) = 0) = False by decide, if_false, r2, r3, r5]
  refine ⟨_, rfl, fun b k hb => by simp only [sI_obj hb], n11 ?_⟩
  have e := h.2.1 i hi
  have e' := h.2.1 j hj
  simp [sI_at, q0, q1, q2, q4, factsR, e.1, e.2.1, e.2.2.2.1, e'.1, e'.2.1, h.1.2.2.1]
end CLS
