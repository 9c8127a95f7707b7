/-! NONE WOULD LEAVE: how it goes, by the tables -/
def candP (L : LawF) (A : Nat → Int32) (a : Int32) (i j : Nat) : Bool := fpR L A i j && (decide (A j = 1) && (!bt a j && !decide (likeN L A i j = 0)))
def nextS (L : LawF) (A : Nat → Int32) (a : Int32) (i n : Nat) : Nat := fo (fun j b => if candP L A a i j = true then (if b = 12 then j else if likeN L A i b < likeN L A i j then j else b) else b) n 12
def keepS (L : LawF) (A : Nat → Int32) (get : Nat → Int32) (j i : Nat) : Bool := !decide (likeN L A j i = 0) && (decide (get j = -2) || (decide (likeN L A j (get j).toNatClampNeg < likeN L A j i) || (decide (likeN L A j i = likeN L A j (get j).toNatClampNeg) && decide (nI i < get j))))
def getUp (get : Nat → Int32) (i j : Nat) : Nat → Int32 := upd (upd (if get j = -2 then get else upd get (get j).toNatClampNeg (-2)) i (nI j)) j (nI i)
abbrev SS : Type := (Nat → Int32) × (Nat → Int32) × Bool
def askS (L : LawF) (A : Nat → Int32) (i j : Nat) (S : SS) : SS := (upd S.1 i (S.1 i ||| sh1 j), if keepS L A S.2.1 j i = true then getUp S.2.1 i j else S.2.1, true)
def stepS (L : LawF) (A : Nat → Int32) (i : Nat) (S : SS) : SS := if S.2.1 i = -2 then (if nextS L A (S.1 i) i 12 = 12 then S else askS L A i (nextS L A (S.1 i) i 12) S) else S
def foldS (L : LawF) (A : Nat → Int32) (l : List Nat) (S : SS) : SS := l.foldl (fun S i => stepS L A i S) S
def roundS (L : LawF) (A : Nat → Int32) (S : SS) : SS := foldS L A (onesL A) (S.1, S.2.1, false)
def RdS (L : LawF) (A : Nat → Int32) (r : Nat) : SS := fo (fun _ S => roundS L A S) r (fun _ => 0, fun _ => -2, true)
section SPEC
variable {L : LawF} {σ : MH} {A : Nat → Int32} {i j k n w : Nat} {a : Int32} {S : SS}
theorem nextS_ok : ∀ n, n ≤ 12 → nextS L A a i n = 12 ∨ (nextS L A a i n < n ∧ candP L A a i (nextS L A a i n) = true)
  | 0, _ => Or.inl rfl
  | n + 1, h => by
    have ih := nextS_ok n (by omega)
    show (if candP L A a i n = true then (if nextS L A a i n = 12 then n else if likeN L A i (nextS L A a i n) < likeN L A i n then n else nextS L A a i n) else nextS L A a i n) = 12 ∨ _
    have e : nextS L A a i (n + 1) = (if candP L A a i n = true then (if nextS L A a i n = 12 then n else if likeN L A i (nextS L A a i n) < likeN L A i n then n else nextS L A a i n) else nextS L A a i n) := rfl
    rw [← e]
    by_cases hc : candP L A a i n = true
    · rw [if_pos hc] at e
      by_cases h1 : nextS L A a i n = 12
      · rw [if_pos h1] at e
        right; rw [e]; exact ⟨by omega, hc⟩
      · rw [if_neg h1] at e
        by_cases h2 : likeN L A i (nextS L A a i n) < likeN L A i n
        · rw [if_pos h2] at e
          right; rw [e]; exact ⟨by omega, hc⟩
        · rw [if_neg h2] at e
          rw [e]
          rcases ih with ih | ih
          · exact Or.inl ih
          · exact Or.inr ⟨by omega, ih.2⟩
    · rw [if_neg hc] at e
      rw [e]
      rcases ih with ih | ih
      · exact Or.inl ih
      · exact Or.inr ⟨by omega, ih.2⟩
theorem next12 (h : nextS L A a i 12 ≠ 12) : nextS L A a i 12 < 12 ∧ candP L A a i (nextS L A a i 12) = true := (nextS_ok 12 (Nat.le_refl _)).resolve_left h
theorem cand_oth (wf : WF A) (hi : oneP A i = true) (hj : j < 12) (h : candP L A a i j = true) : othP A j = true ∧ j ≠ i := by
  unfold candP fpR fitP at h
  simp only [Bool.and_eq_true, decide_eq_true_eq, Bool.not_eq_true', decide_eq_false_iff_not] at h
  unfold othP oneP at *
  simp only [Bool.and_eq_true, decide_eq_true_eq] at hi
  refine ⟨?_, h.1.2.1⟩
  rw [h.1.2.2.1, h.2.1]
  rfl
/-- who is with whom: both ways, one of each -/
def GI (A : Nat → Int32) (get : Nat → Int32) : Prop := ∀ i, i < 12 → get i = -2 ∨ ∃ j, j < 12 ∧ j ≠ i ∧ get i = nI j ∧ get j = nI i ∧ ((oneP A i = true ∧ othP A j = true) ∨ (othP A i = true ∧ oneP A j = true))
theorem one_oth (h1 : oneP A i = true) (h2 : othP A i = true) : False := by
  unfold oneP at h1
  unfold othP at h2
  simp only [Bool.and_eq_true, Bool.not_eq_true'] at h1 h2
  rw [h1.2] at h2
  cases h2.2
theorem GI_up {get : Nat → Int32} (h : GI A get) (hi : i < 12) (hj : j < 12) (oi : oneP A i = true) (oj : othP A j = true) (gi : get i = -2) : GI A (getUp get i j) := by
  have hij : i ≠ j := fun z => by subst z; exact one_oth oi oj
  intro k hk
  have hg : ∀ m, m < 12 → getUp get i j m = if m = j then nI i else if m = i then nI j else if get j = nI m then -2 else get m := fun m hm => by
    unfold getUp
    rw [upd_at]
    by_cases q1 : m = j
    · rw [if_pos q1, if_pos q1]
    · rw [if_neg q1, if_neg q1, upd_at]
      by_cases q2 : m = i
      · rw [if_pos q2, if_pos q2]
      · rw [if_neg q2, if_neg q2]
        by_cases q3 : get j = -2
        · rw [if_pos q3, q3, if_neg (fun z => nI_m2 (show m < 2 ^ 31 by omega) z.symm)]
        · rw [if_neg q3, upd_at]
          rcases h j hj with z | ⟨r, a, b, c, d, e⟩
          · exact absurd z q3
          · rw [c, nI_clamp (by omega)]
            by_cases q4 : m = r
            · rw [if_pos q4, if_pos (by rw [q4])]
            · rw [if_neg q4, if_neg (fun z => q4 ((nI_eq (by omega) (by omega)).mp z).symm)]
  rw [hg k hk]
  by_cases q1 : k = j
  · subst q1
    rw [if_pos rfl]
    exact Or.inr ⟨i, hi, hij, rfl, by rw [hg i hi, if_neg hij, if_pos rfl], Or.inr ⟨oj, oi⟩⟩
  · rw [if_neg q1]
    by_cases q2 : k = i
    · subst q2
      rw [if_pos rfl]
      exact Or.inr ⟨j, hj, Ne.symm hij, rfl, by rw [hg j hj, if_pos rfl], Or.inl ⟨oi, oj⟩⟩
    · rw [if_neg q2]
      by_cases q3 : get j = nI k
      · rw [if_pos q3]; exact Or.inl rfl
      · rw [if_neg q3]
        rcases h k hk with z | ⟨m, a, b, c, d, e⟩
        · exact Or.inl z
        · refine Or.inr ⟨m, a, b, c, ?_, e⟩
          rw [hg m a, if_neg, if_neg, if_neg]
          · exact d
          · intro z
            rcases h j hj with y | ⟨r, a1, b1, c1, d1, e1⟩
            · rw [y] at z; exact nI_m2 (by omega) z.symm
            · rw [c1] at z
              have := (nI_eq (by omega) (by omega)).mp z
              subst this
              rw [d1] at d
              exact q1 ((nI_eq (by omega) (by omega)).mp d).symm
          · intro z
            subst z
            rw [gi] at d; exact nI_m2 (by omega) d.symm
          · intro z
            subst z
            exact q3 d
theorem GI_step (wf : WF A) (hi : i < 12) (oi : oneP A i = true) (h : GI A S.2.1) : GI A (stepS L A i S).2.1 := by
  unfold stepS
  split
  · rename_i g
    split
    · exact h
    · rename_i q
      obtain ⟨n1, n2⟩ := next12 q
      unfold askS
      dsimp only
      split
      · exact GI_up h hi n1 oi (cand_oth wf oi n1 n2).1 g
      · exact h
  · exact h
theorem GI_fold (wf : WF A) (l : List Nat) (hl : ∀ x, x ∈ l → x < 12 ∧ oneP A x = true) : ∀ S : SS, GI A S.2.1 → GI A (foldS L A l S).2.1 := by
  induction l with
  | nil => intro S h; exact h
  | cons x l ih =>
    intro S h
    exact ih (fun y hy => hl y (List.mem_cons_of_mem _ hy)) _ (GI_step wf (hl x List.mem_cons_self).1 (hl x List.mem_cons_self).2 h)
theorem ones_mem : ∀ x, x ∈ onesL A → x < 12 ∧ oneP A x = true := fun _ hx => lstP_mem hx
theorem GI_Rd (wf : WF A) : ∀ r, GI A (RdS L A r).2.1
  | 0 => fun i hi => Or.inl rfl
  | r + 1 => GI_fold wf _ ones_mem _ (GI_Rd wf r)
/-! how many have been asked -/
def Tk (a : Nat → Int32) : Nat := fo (fun i s => s + cnN (bt (a i)) 12) 12 0
theorem fo_add (f : Nat → Nat) : ∀ n b, (∀ i, i < n → f i ≤ 12) → b ≤ fo (fun i s => s + f i) n b ∧ fo (fun i s => s + f i) n b ≤ b + 12 * n
  | 0, b, _ => ⟨Nat.le_refl _, by show b ≤ _; omega⟩
  | n + 1, b, h => by
    have ih := fo_add f n b (fun i hi => h i (by omega))
    have := h n (by omega)
    show b ≤ fo (fun i s => s + f i) n b + f n ∧ fo (fun i s => s + f i) n b + f n ≤ _
    omega
theorem Tk_le (a : Nat → Int32) : Tk a ≤ 144 := by
  have := (fo_add (fun i => cnN (bt (a i)) 12) 12 0 (fun i _ => cnN_le _ _)).2
  unfold Tk
  omega
theorem cn_or {s : Int32} {j : Nat} (hb : bt s j = false) : ∀ n, n ≤ 12 → j < 12 → cnN (bt (s ||| sh1 j)) n = cnN (bt s) n + (if j < n then 1 else 0)
  | 0, _, _ => rfl
  | n + 1, h, hj => by
    rw [cnN_s, cnN_s, cn_or hb n (by omega) hj, show sh1 j = jshl 1 (nI j) from rfl, bt_or1 (by omega) (by omega)]
    by_cases q : n = j
    · subst q
      rw [hb, decide_eq_true rfl]
      simp
    · rw [decide_eq_false q, Bool.or_false]
      by_cases q2 : j < n
      · rw [if_pos q2, if_pos (show j < n + 1 by omega)]; omega
      · rw [if_neg q2, if_neg (show ¬ j < n + 1 by omega)]; omega
theorem Tk_up {a : Nat → Int32} (hi : i < 12) (hj : j < 12) (hb : bt (a i) j = false) : Tk (upd a i (a i ||| sh1 j)) = Tk a + 1 := by
  unfold Tk
  have : ∀ n, n ≤ 12 → fo (fun k s => s + cnN (bt (upd a i (a i ||| sh1 j) k)) 12) n 0 = fo (fun k s => s + cnN (bt (a k)) 12) n 0 + (if i < n then 1 else 0) := by
    intro n
    induction n with
    | zero => intro _; rfl
    | succ n ih =>
      intro hn
      show fo (fun k s => s + cnN (bt (upd a i (a i ||| sh1 j) k)) 12) n 0 + cnN (bt (upd a i (a i ||| sh1 j) n)) 12 = fo (fun k s => s + cnN (bt (a k)) 12) n 0 + cnN (bt (a n)) 12 + _
      rw [ih (by omega), upd_at]
      by_cases q : n = i
      · subst q
        rw [if_pos rfl, cn_or hb 12 (Nat.le_refl _) hj, if_pos hj, if_neg (by omega), if_pos (by omega)]
        omega
      · rw [if_neg q]
        by_cases q2 : i < n
        · rw [if_pos q2, if_pos (by omega)]; omega
        · rw [if_neg q2, if_neg (by omega)]; omega
  rw [this 12 (Nat.le_refl _), if_pos hi]
theorem step_tk (hi : i < 12) : stepS L A i S = S ∨ ((stepS L A i S).2.2 = true ∧ Tk (stepS L A i S).1 = Tk S.1 + 1) := by
  unfold stepS
  split
  · split
    · exact Or.inl rfl
    · rename_i q
      right
      obtain ⟨n1, n2⟩ := next12 q
      refine ⟨rfl, ?_⟩
      unfold askS
      refine Tk_up hi n1 ?_
      unfold candP at n2
      simp only [Bool.and_eq_true, Bool.not_eq_true'] at n2
      exact n2.2.2.1
  · exact Or.inl rfl
theorem fold_tk (l : List Nat) (hl : ∀ x, x ∈ l → x < 12) : ∀ S : SS, Tk S.1 ≤ Tk (foldS L A l S).1 ∧ (foldS L A l S = S ∨ ((foldS L A l S).2.2 = true ∧ Tk S.1 < Tk (foldS L A l S).1)) := by
  induction l with
  | nil => intro S; exact ⟨Nat.le_refl _, Or.inl rfl⟩
  | cons x l ih =>
    intro S
    have e : foldS L A (x :: l) S = foldS L A l (stepS L A x S) := rfl
    rw [e]
    obtain ⟨h1, h2⟩ := ih (fun y hy => hl y (List.mem_cons_of_mem _ hy)) (stepS L A x S)
    rcases step_tk (L := L) (A := A) (S := S) (hl x List.mem_cons_self) with q | ⟨q1, q2⟩
    · rw [q] at h1 h2 ⊢
      exact ⟨h1, h2⟩
    · refine ⟨by omega, Or.inr ⟨?_, by omega⟩⟩
      rcases h2 with z | z
      · rw [z]; exact q1
      · exact z.1
theorem round_tk (S : SS) : (roundS L A S = (S.1, S.2.1, false)) ∨ ((roundS L A S).2.2 = true ∧ Tk S.1 < Tk (roundS L A S).1) := by
  rcases (fold_tk (L := L) (A := A) (onesL A) (fun x hx => (ones_mem x hx).1) (S.1, S.2.1, false)).2 with h | h
  · exact Or.inl h
  · exact Or.inr h
theorem Rd_s (r : Nat) : RdS L A (r + 1) = roundS L A (RdS L A r) := rfl
/-- at rest it stays -/
theorem Rd_rest {r : Nat} (h : (RdS L A r).2.2 = false) : roundS L A (RdS L A r) = RdS L A r := by
  cases r with
  | zero => exact absurd (show true = false from h) (by decide)
  | succ r =>
    rw [Rd_s] at h ⊢
    rcases round_tk (L := L) (A := A) (RdS L A r) with q | q
    · rw [q]
      have : roundS L A ((RdS L A r).1, (RdS L A r).2.1, false) = roundS L A (RdS L A r) := rfl
      rw [this, q]
    · rw [q.1] at h; cases h
theorem Rd_tk : ∀ r, (RdS L A r).2.2 = true → r ≤ Tk (RdS L A r).1
  | 0, _ => Nat.zero_le _
  | r + 1, h => by
    have h2 : (RdS L A r).2.2 = true := by
      cases q : (RdS L A r).2.2
      · have := Rd_rest q
        rw [Rd_s, this, q] at h
        cases h
      · rfl
    have ih := Rd_tk r h2
    rw [Rd_s] at h ⊢
    rcases round_tk (L := L) (A := A) (RdS L A r) with q | q
    · rw [q] at h; cases h
    · omega
theorem Rd_end : (RdS L A 145).2.2 = false := by
  cases q : (RdS L A 145).2.2
  · rfl
  · have h1 := Rd_tk 145 q
    have h2 := Tk_le (RdS L A 145).1
    omega
theorem Rd_final {r : Nat} (hr : r ≤ 145) (h : (RdS L A r).2.2 = false) : RdS L A 145 = RdS L A r := fo_stop 145 hr (fun k _ => Rd_rest h)
/-! how many are WED then: by the ones, by the lower ones -/
theorem sum_swap (f : Nat → Nat → Nat) (n m : Nat) : fo (fun i s => s + fo (fun j s => s + f i j) m 0) n 0 = fo (fun j s => s + fo (fun i s => s + f i j) n 0) m 0 := by
  have add : ∀ (g h : Nat → Nat) n, fo (fun i s => s + (g i + h i)) n 0 = fo (fun i s => s + g i) n 0 + fo (fun i s => s + h i) n 0 := by
    intro g h n
    induction n with
    | zero => rfl
    | succ n ih =>
      show fo (fun i s => s + (g i + h i)) n 0 + (g n + h n) = (fo (fun i s => s + g i) n 0 + g n) + (fo (fun i s => s + h i) n 0 + h n)
      rw [ih]; omega
  induction n with
  | zero =>
    show 0 = fo (fun j s => s + 0) m 0
    induction m with
    | zero => rfl
    | succ m ih => exact ih
  | succ n ih =>
    show fo (fun i s => s + fo (fun j s => s + f i j) m 0) n 0 + fo (fun j s => s + f n j) m 0 = fo (fun j s => s + (fo (fun i s => s + f i j) n 0 + f n j)) m 0
    rw [add, ih]
def bN (b : Bool) : Nat := if b = true then 1 else 0
theorem sum_one {f : Nat → Nat} {k n : Nat} (hk : k < n) (h : ∀ j, j < n → j ≠ k → f j = 0) : fo (fun j s => s + f j) n 0 = f k := by
  induction n with
  | zero => omega
  | succ n ih =>
    show fo (fun j s => s + f j) n 0 + f n = f k
    by_cases q : n = k
    · subst q
      have : ∀ m, m ≤ n → fo (fun j s => s + f j) m 0 = 0 := fun m hm => by
        induction m with
        | zero => rfl
        | succ m im =>
          show fo (fun j s => s + f j) m 0 + f m = 0
          rw [im (by omega), h m (by omega) (by omega)]
      rw [this n (Nat.le_refl _)]; omega
    · rw [ih (by omega) (fun j hj hne => h j (by omega) hne), h n (by omega) q]; omega
theorem sum_zero {f : Nat → Nat} {n : Nat} (h : ∀ j, j < n → f j = 0) : fo (fun j s => s + f j) n 0 = 0 := by
  induction n with
  | zero => rfl
  | succ n ih =>
    show fo (fun j s => s + f j) n 0 + f n = 0
    rw [ih (fun j hj => h j (by omega)), h n (by omega)]
theorem cn_sum (p : Nat → Bool) : ∀ n, cnN p n = fo (fun i s => s + bN (p i)) n 0
  | 0 => rfl
  | n + 1 => by rw [cnN_s, cn_sum p n]; rfl
theorem cn_pairs {get : Nat → Int32} (h : GI A get) : cnN (fun i => oneP A i && !decide (get i = -2)) 12 = cnN (fun i => !decide (get i ≤ nI i)) 12 := by
  rw [cn_sum, cn_sum]
  have e1 : fo (fun i s => s + bN (oneP A i && !decide (get i = -2))) 12 0 = fo (fun i s => s + fo (fun j s => s + (bN (oneP A i && (decide (get i = nI j) && decide (i < j))) + bN (oneP A i && (decide (get i = nI j) && decide (j < i))))) 12 0) 12 0 := by
    refine fo_congr (fun i s hi => ?_) 0
    congr 1
    rcases h i hi with q | ⟨j, a, b, c, d, e⟩
    · rw [q, decide_eq_true rfl, Bool.not_true, Bool.and_false]
      refine (sum_zero (fun j hj => ?_)).symm
      rw [decide_eq_false (fun z => nI_m2 (show j < 2 ^ 31 by omega) z.symm)]
      simp [bN]
    · rw [sum_one (k := j) a (fun m hm hne => by
        rw [c, decide_eq_false (fun z => hne ((nI_eq (by omega) (by omega)).mp z).symm)]
        simp [bN])]
      rw [c, decide_eq_true rfl, decide_eq_false (nI_m2 (show j < 2 ^ 31 by omega))]
      by_cases q : i < j
      · rw [decide_eq_true q, decide_eq_false (show ¬ j < i by omega)]
        cases oneP A i <;> rfl
      · rw [decide_eq_false q, decide_eq_true (show j < i by omega)]
        cases oneP A i <;> rfl
  have add : ∀ (g h : Nat → Nat) n, fo (fun i s => s + (g i + h i)) n 0 = fo (fun i s => s + g i) n 0 + fo (fun i s => s + h i) n 0 := by
    intro g h n
    induction n with
    | zero => rfl
    | succ n ih =>
      show fo (fun i s => s + (g i + h i)) n 0 + (g n + h n) = (fo (fun i s => s + g i) n 0 + g n) + (fo (fun i s => s + h i) n 0 + h n)
      rw [ih]; omega
  have e2 : fo (fun i s => s + fo (fun j s => s + (bN (oneP A i && (decide (get i = nI j) && decide (i < j))) + bN (oneP A i && (decide (get i = nI j) && decide (j < i))))) 12 0) 12 0 = fo (fun i s => s + fo (fun j s => s + bN (oneP A i && (decide (get i = nI j) && decide (i < j)))) 12 0) 12 0 + fo (fun i s => s + fo (fun j s => s + bN (oneP A j && (decide (get j = nI i) && decide (i < j)))) 12 0) 12 0 := by
    rw [← sum_swap (fun i j => bN (oneP A i && (decide (get i = nI j) && decide (j < i)))), ← add]
    exact fo_congr (fun i s hi => by rw [add]) 0
  rw [e1, e2, ← add]
  refine fo_congr (fun i s hi => ?_) 0
  congr 1
  rw [← add]
  rcases h i hi with q | ⟨j, a, b, c, d, e⟩
  · rw [sum_zero (fun j hj => ?_)]
    · rw [q, decide_eq_true (show (-2 : Int32) ≤ nI i from by rw [ti_le, nI_toInt (by omega)]; have : (-2 : Int32).toInt = -2 := rfl; omega)]
      rfl
    · have n1 : ¬ get i = nI j := fun z => by rw [q] at z; exact nI_m2 (by omega) z.symm
      have n2 : ¬ get j = nI i := fun z => by
        rcases h j hj with y | ⟨m, a1, b1, c1, d1, -⟩
        · rw [y] at z; exact nI_m2 (by omega) z.symm
        · rw [c1] at z
          have := (nI_eq (by omega) (by omega)).mp z
          subst this
          exact n1 d1
      rw [decide_eq_false n1, decide_eq_false n2]
      simp [bN]
  · rw [sum_one (k := j) a (fun m hm hne => ?_)]
    · rw [c, d, decide_eq_true rfl, decide_eq_true rfl]
      simp only [Bool.true_and]
      have le : (nI j ≤ nI i) = (j ≤ i) := propext (nI_leI (by omega) (by omega))
      simp only [le]
      by_cases q : i < j
      · rw [decide_eq_true q, decide_eq_false (show ¬ j ≤ i by omega)]
        rcases e with ⟨e1, e2⟩ | ⟨e1, e2⟩
        · have : oneP A j = false := Bool.eq_false_iff.mpr (fun z => one_oth z e2)
          rw [e1, this]; rfl
        · have : oneP A i = false := Bool.eq_false_iff.mpr (fun z => one_oth z e1)
          rw [e2, this]; rfl
      · rw [decide_eq_false q, decide_eq_true (show j ≤ i by omega), Bool.and_false, Bool.and_false]; rfl
    · have n1 : ¬ get i = nI m := fun z => by
        rw [c] at z; exact hne ((nI_eq (by omega) (by omega)).mp z).symm
      have n2 : ¬ get m = nI i := fun z => by
        rcases h m hm with y | ⟨m', a1, b1, c1, d1, -⟩
        · rw [y] at z; exact nI_m2 (by omega) z.symm
        · rw [c1] at z
          have := (nI_eq (by omega) (by omega)).mp z
          subst this
          exact n1 d1
      rw [decide_eq_false n1, decide_eq_false n2]
      simp [bN]
theorem likeN_pos (hL : LawOK L) : 0 ≤ likeN L A i j := by
  unfold likeN
  split
  · exact (hL.2 108 99 _ (by decide)).1
  · decide
end SPEC
