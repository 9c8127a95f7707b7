/-! most: the best sum, and who is chosen -/
section MSP
variable {L : LawF} {A : Nat → Int32} {i j k n x : Nat} {t : Nat → Bool}
def stB (t : Nat → Bool) (j : Nat) : Nat → Bool := fun m => t m || decide (m = j)
def slN (L : LawF) (A : Nat → Int32) (i j : Nat) : Nat := (slackN L A i j).toNatClampNeg
def bnd (L : LawF) (A : Nat → Int32) (i j : Nat) : Nat := 10000 - slN L A i j
def okM (L : LawF) (A : Nat → Int32) (t : Nat → Bool) (i j : Nat) : Bool := fpR L A i j && (decide (A j = 1) && !t j)
theorem fp_fit (h : fpR L A i j = true) : fitR L A i j = true := by
  unfold fpR fitP at h
  simp only [Bool.and_eq_true] at h
  exact h.2.2.2
theorem sl_ok (wf : WF A) (h : fpR L A i j = true) : slackN L A i j = nI (slN L A i j) ∧ slN L A i j ≤ 144 := by
  have hs : slackN L A i j = slackR A i j := by unfold slackN; rw [if_pos h]
  have hf := fp_fit h
  unfold slN
  rw [hs]
  rcases slackR_bd (i := i) (j := j) wf with q | q
  · exact absurd q (fit_slack hf)
  · rcases limN (slackR A i j) 144 with ⟨w, hw, e⟩ | e
    · rw [e, nI_clamp (by omega)]
      exact ⟨rfl, hw⟩
    · rw [ti_lt, ti_lt, show (0 : Int32).toInt = 0 from rfl, show (OfNat.ofNat 144 : Int32).toInt = 144 from rfl] at e
      omega
theorem bnd_sl (wf : WF A) (h : fpR L A i j = true) : bnd L A i j + slN L A i j = 10000 ∧ 9856 ≤ bnd L A i j := by
  have := (sl_ok wf h).2
  unfold bnd
  omega
theorem ok_fp (h : okM L A t i j = true) : fpR L A i j = true ∧ A j = 1 ∧ t j = false := by
  unfold okM at h
  simp only [Bool.and_eq_true, decide_eq_true_eq, Bool.not_eq_true'] at h
  exact h
def VM (L : LawF) (A : Nat → Int32) : List Nat → (Nat → Bool) → Nat
  | [], _ => 0
  | i :: r, t => fo (fun j m => if okM L A t i j = true then max m (bnd L A i j + VM L A r (stB t j)) else m) 12 (VM L A r t)
theorem fo_mx (p : Nat → Bool) (f : Nat → Nat) (b : Nat) : ∀ n, b ≤ fo (fun j m => if p j = true then max m (f j) else m) n b ∧ (fo (fun j m => if p j = true then max m (f j) else m) n b = b ∨ ∃ j, j < n ∧ p j = true ∧ fo (fun j m => if p j = true then max m (f j) else m) n b = f j) := fun n => by
  induction n with
  | zero => exact ⟨Nat.le_refl _, Or.inl rfl⟩
  | succ n ih =>
    have e : fo (fun j m => if p j = true then max m (f j) else m) (n + 1) b = if p n = true then max (fo (fun j m => if p j = true then max m (f j) else m) n b) (f n) else fo (fun j m => if p j = true then max m (f j) else m) n b := rfl
    rw [e]
    generalize fo (fun j m => if p j = true then max m (f j) else m) n b = y at ih
    obtain ⟨h1, h2⟩ := ih
    by_cases h : p n = true
    · rw [if_pos h]
      refine ⟨by omega, ?_⟩
      by_cases hm : f n ≤ y
      · rw [Nat.max_eq_left hm]
        rcases h2 with h2 | ⟨j, a1, a2, a3⟩
        · exact Or.inl h2
        · exact Or.inr ⟨j, by omega, a2, a3⟩
      · exact Or.inr ⟨n, by omega, h, by omega⟩
    · rw [if_neg h]
      refine ⟨h1, ?_⟩
      rcases h2 with h2 | ⟨j, a1, a2, a3⟩
      · exact Or.inl h2
      · exact Or.inr ⟨j, by omega, a2, a3⟩
theorem VM_le : ∀ (l : List Nat) (t : Nat → Bool), VM L A l t ≤ 10000 * l.length := fun l => by
  induction l with
  | nil => intro t; exact Nat.le_refl _
  | cons i r ih =>
    intro t
    have e : VM L A (i :: r) t = fo (fun j m => if okM L A t i j = true then max m (bnd L A i j + VM L A r (stB t j)) else m) 12 (VM L A r t) := rfl
    obtain ⟨-, h⟩ := fo_mx (okM L A t i) (fun j => bnd L A i j + VM L A r (stB t j)) (VM L A r t) 12
    rw [← e] at h
    rw [List.length_cons]
    rcases h with h | ⟨j, -, -, h⟩
    · have := ih t
      omega
    · have := ih (stB t j)
      have hb : bnd L A i j ≤ 10000 := by unfold bnd; omega
      omega
/-- the first below n, or n -/
def fsP (p : Nat → Bool) (n : Nat) : Nat := fo (fun j b => if b < j then b else if p j = true then j else j + 1) n 0
theorem fsP_ok (p : Nat → Bool) : ∀ n, (fsP p n = n ∧ ∀ j, j < n → p j = false) ∨ (fsP p n < n ∧ p (fsP p n) = true ∧ ∀ j, j < fsP p n → p j = false) := fun n => by
  induction n with
  | zero => exact Or.inl ⟨rfl, fun j hj => by omega⟩
  | succ n ih =>
    have e : fsP p (n + 1) = if fsP p n < n then fsP p n else if p n = true then n else n + 1 := rfl
    rw [e]
    rcases ih with ⟨a, b⟩ | ⟨a, b, c⟩
    · rw [if_neg (by omega)]
      by_cases h : p n = true
      · rw [if_pos h]
        exact Or.inr ⟨by omega, h, b⟩
      · rw [if_neg h]
        refine Or.inl ⟨rfl, fun j hj => ?_⟩
        by_cases q : j = n
        · rw [q]; exact Bool.eq_false_iff.mpr h
        · exact b j (by omega)
    · rw [if_pos a]
      exact Or.inr ⟨by omega, b, c⟩
theorem fsP_hit {p : Nat → Bool} (hj : j < n) (h : p j = true) (h2 : ∀ k, k < j → p k = false) : fsP p n = j := by
  rcases fsP_ok p n with ⟨a, b⟩ | ⟨a, b, c⟩
  · rw [b j hj] at h; cases h
  · rcases Nat.lt_trichotomy (fsP p n) j with q | q | q
    · rw [h2 _ q] at b; cases b
    · exact q
    · rw [c j q] at h; cases h
theorem fsP_no {p : Nat → Bool} (h : ∀ k, k < n → p k = false) : fsP p n = n := by
  rcases fsP_ok p n with ⟨a, b⟩ | ⟨a, b, c⟩
  · exact a
  · rw [h _ a] at b; cases b
def hitM (L : LawF) (A : Nat → Int32) (i : Nat) (r : List Nat) (t : Nat → Bool) (j : Nat) : Bool := okM L A t i j && decide (bnd L A i j + VM L A r (stB t j) = VM L A (i :: r) t)
def chM (L : LawF) (A : Nat → Int32) (i : Nat) (r : List Nat) (t : Nat → Bool) : Nat := fsP (hitM L A i r t) 12
theorem VM_no {r : List Nat} (h : chM L A i r t = 12) : VM L A (i :: r) t = VM L A r t := by
  have e : VM L A (i :: r) t = fo (fun j m => if okM L A t i j = true then max m (bnd L A i j + VM L A r (stB t j)) else m) 12 (VM L A r t) := rfl
  obtain ⟨-, h1⟩ := fo_mx (okM L A t i) (fun j => bnd L A i j + VM L A r (stB t j)) (VM L A r t) 12
  rw [← e] at h1
  rcases h1 with h1 | ⟨j, a1, a2, a3⟩
  · exact h1
  · rcases fsP_ok (hitM L A i r t) 12 with ⟨a, b⟩ | ⟨a, b, c⟩
    · have := b j a1
      unfold hitM at this
      rw [a2, decide_eq_true a3.symm] at this
      cases this
    · unfold chM at h
      omega
theorem VM_ch {r : List Nat} (h : chM L A i r t ≠ 12) : chM L A i r t < 12 ∧ okM L A t i (chM L A i r t) = true ∧ VM L A (i :: r) t = bnd L A i (chM L A i r t) + VM L A r (stB t (chM L A i r t)) := by
  rcases fsP_ok (hitM L A i r t) 12 with ⟨a, b⟩ | ⟨a, b, c⟩
  · exact absurd a h
  · refine ⟨a, ?_⟩
    have b' : hitM L A i r t (chM L A i r t) = true := b
    unfold hitM at b'
    simp only [Bool.and_eq_true, decide_eq_true_eq] at b'
    exact ⟨b'.1, b'.2.symm⟩
/-- those of SIDE 0 from 12 - n on -/
def frm (A : Nat → Int32) : Nat → List Nat
  | 0 => []
  | n + 1 => if oneP A (11 - n) = true then (11 - n) :: frm A n else frm A n
theorem lst_frm : ∀ n, n ≤ 12 → onesL A = lstP (oneP A) (12 - n) ++ frm A n := fun n => by
  induction n with
  | zero => intro _; exact (List.append_nil _).symm
  | succ n ih =>
    intro hn
    rw [ih (by omega), show 12 - n = (12 - (n + 1)) + 1 by omega, lstP_s, List.append_assoc]
    congr 1
    show _ = (if oneP A (11 - n) = true then (11 - n) :: frm A n else frm A n)
    rw [show 12 - (n + 1) = 11 - n by omega]
    by_cases h : oneP A (11 - n) = true
    · rw [if_pos h, if_pos h]; rfl
    · rw [if_neg h, if_neg h]; rfl
theorem frm_at (hk : k < 12) : frm A (12 - k) = if oneP A k = true then k :: frm A (11 - k) else frm A (11 - k) := by
  rw [show 12 - k = (11 - k) + 1 by omega]
  show (if oneP A (11 - (11 - k)) = true then (11 - (11 - k)) :: frm A (11 - k) else frm A (11 - k)) = _
  rw [show 11 - (11 - k) = k by omega]
theorem lstP_mid {p : Nat → Bool} {x : Nat} : ∀ (n : Nat) (pre post : List Nat), lstP p n = pre ++ x :: post → pre = lstP p x := fun n => by
  induction n with
  | zero =>
    intro pre post h
    have := congrArg List.length h
    rw [List.length_append, List.length_cons] at this
    have z : (lstP p 0).length = 0 := rfl
    omega
  | succ n ih =>
    intro pre post h
    rw [lstP_s] at h
    by_cases q : p n = true
    · rw [if_pos q] at h
      rcases List.eq_nil_or_concat post with e | ⟨l, y, e⟩
      · subst e
        obtain ⟨a, b⟩ := List.append_inj' h rfl
        cases b
        exact a.symm
      · subst e
        rw [List.concat_eq_append, ← List.cons_append, ← List.append_assoc] at h
        obtain ⟨a, b⟩ := List.append_inj' h rfl
        exact ih pre l a
    · rw [if_neg q, List.append_nil] at h
      exact ih pre post h
theorem ones_mid {pre post : List Nat} (h : onesL A = pre ++ x :: post) : pre = lstP (oneP A) x ∧ post = frm A (11 - x) := by
  have e := lstP_mid 12 pre post h
  have hx := lstP_mem (mid_mem h)
  refine ⟨e, ?_⟩
  have e2 := lst_frm (A := A) (12 - x) (by omega)
  rw [show 12 - (12 - x) = x by omega, frm_at hx.1, if_pos hx.2, h, e] at e2
  have := List.append_cancel_left e2
  cases this
  rfl
abbrev SM : Type := (Nat → Bool) × Nat × Nat
def sgM (L : LawF) (A : Nat → Int32) (k : Nat) (S : SM) : SM := if chM L A k (frm A (11 - k)) S.1 = 12 then S else (stB S.1 (chM L A k (frm A (11 - k)) S.1), S.2.1 + 1, S.2.2 + slN L A k (chM L A k (frm A (11 - k)) S.1))
def stM (L : LawF) (A : Nat → Int32) (k : Nat) : SM := fo (fun k S => if oneP A k = true then sgM L A k S else S) k (fun _ => false, 0, 0)
def gtM (L : LawF) (A : Nat → Int32) (k : Nat) : Nat := chM L A k (frm A (11 - k)) (stM L A k).1
theorem stM_s (k : Nat) : stM L A (k + 1) = if oneP A k = true then sgM L A k (stM L A k) else stM L A k := rfl
theorem st_sum (wf : WF A) : ∀ k, k ≤ 12 → VM L A (onesL A) (fun _ => false) + (stM L A k).2.2 = 10000 * (stM L A k).2.1 + VM L A (frm A (12 - k)) (stM L A k).1 ∧ (stM L A k).2.2 ≤ 144 * (stM L A k).2.1 ∧ (stM L A k).2.1 ≤ k := fun k => by
  induction k with
  | zero =>
    intro _
    refine ⟨?_, Nat.le_refl _, Nat.le_refl _⟩
    rw [lst_frm (A := A) 12 (Nat.le_refl _)]
    show VM L A ([] ++ frm A 12) _ + 0 = 10000 * 0 + VM L A (frm A 12) _
    rw [List.nil_append]
    show _ = 10000 * 0 + VM L A (frm A 12) (fun _ => false)
    omega
  | succ k ih =>
    intro hk
    obtain ⟨h1, h2, h3⟩ := ih (by omega)
    rw [stM_s, show 12 - (k + 1) = 11 - k by omega]
    rw [frm_at (by omega)] at h1
    generalize stM L A k = S at h1 h2 h3
    by_cases o : oneP A k = true
    · rw [if_pos o]
      rw [if_pos o] at h1
      unfold sgM
      by_cases c : chM L A k (frm A (11 - k)) S.1 = 12
      · rw [if_pos c]
        rw [VM_no c] at h1
        exact ⟨h1, h2, by omega⟩
      · rw [if_neg c]
        obtain ⟨c1, c2, c3⟩ := VM_ch c
        rw [c3] at h1
        have b := bnd_sl wf (ok_fp c2).1
        have b2 := sl_ok wf (ok_fp c2).1
        dsimp only
        omega
    · rw [if_neg o]
      rw [if_neg o] at h1
      exact ⟨h1, h2, by omega⟩
theorem st_all (wf : WF A) : VM L A (onesL A) (fun _ => false) + (stM L A 12).2.2 = 10000 * (stM L A 12).2.1 ∧ (stM L A 12).2.2 ≤ 144 * (stM L A 12).2.1 ∧ (stM L A 12).2.1 ≤ 12 := st_sum wf 12 (Nat.le_refl _)
end MSP
/-! masks as numbers -/
section MSK
theorem bt_nI {t q : Nat} (hq : q < 32) : bt (nI t) q = t.testBit q := by
  rw [bt_bit hq]
  show (BitVec.ofNat 32 t).getLsbD q = _
  rw [BitVec.getLsbD_ofNat, decide_eq_true hq]
  rfl
theorem tb_or (t q m : Nat) : (t ||| 2 ^ q).testBit m = (t.testBit m || decide (m = q)) := by
  rw [Nat.testBit_or, Nat.testBit_two_pow]
  congr 1
  by_cases h : m = q
  · rw [decide_eq_true h, decide_eq_true h.symm]
  · rw [decide_eq_false h, decide_eq_false (fun z => h z.symm)]
theorem or_nI {t q : Nat} (hq : q < 32) : nI t ||| jshl 1 (nI q) = nI (t ||| 2 ^ q) := bt_ext fun m hm => by
  rw [bt_or1 hq hm, bt_nI hm, bt_nI hm, tb_or]
theorem or_lt {t q n : Nat} (ht : t < 2 ^ n) (hq : q < n) : t ||| 2 ^ q < 2 ^ n := Nat.or_lt_two_pow ht (Nat.pow_lt_pow_right (by decide) hq)
theorem shl_nI {p o : Nat} (hp : p < 13) (ho : o < 13) : jshl (nI p) (nI o) = nI (p * 2 ^ o) := by
  have : ∀ p, p < 13 → ∀ o, o < 13 → jshl (nI p) (nI o) = nI (p * 2 ^ o) := by decide +kernel
  exact this p hp o ho
theorem room {n o : Nat} (h : n + o ≤ 12) : (n + 1) * 2 ^ o ≤ 4096 := by
  have : ∀ n, n < 13 → ∀ o, o < 13 → n + o ≤ 12 → (n + 1) * 2 ^ o ≤ 4096 := by decide +kernel
  exact this n (by omega) o (by omega) h
theorem jmax_nI {a b : Nat} (ha : a < 2 ^ 31) (hb : b < 2 ^ 31) : jmax (nI a) (nI b) = nI (max a b) := by
  unfold jmax
  by_cases h : a < b
  · rw [if_pos ((nI_ltI ha hb).mpr h), Nat.max_eq_right (by omega)]
  · rw [if_neg (fun z => h ((nI_ltI ha hb).mp z)), Nat.max_eq_left (by omega)]
theorem jmax_m1 {a : Nat} (ha : a < 2 ^ 31) : jmax (nI a) (-1) = nI a := by
  unfold jmax
  refine if_neg fun z => ?_
  rw [ti_lt, nI_toInt ha, show (-1 : Int32).toInt = -1 from rfl] at z
  omega
theorem nI_m1 {k : Nat} (h : k < 2 ^ 31) : nI k ≠ -1 := fun z => by
  have := congrArg Int32.toInt z
  rw [nI_toInt h, show (-1 : Int32).toInt = -1 from rfl] at this
  omega
end MSK
