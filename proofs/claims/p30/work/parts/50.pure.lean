/-! PURE: loops as folds, small ints, the small heap's cells -/
def fo {S : Type} (g : Nat → S → S) : Nat → S → S
  | 0, s => s
  | n + 1, s => g n (fo g n s)
theorem fo_congr {S : Type} {g k : Nat → S → S} {n : Nat} (h : ∀ i s, i < n → g i s = k i s) (s : S) : fo g n s = fo k n s := by
  induction n with
  | zero => rfl
  | succ n ih =>
    show g n (fo g n s) = k n (fo k n s)
    rw [ih (fun i s hi => h i s (by omega)), h n _ (by omega)]
theorem fo_rel {S T : Type} {R : Nat → S → T → Prop} {g : Nat → S → S} {k : Nat → T → T} {n : Nat} {s : S} {t : T} (h0 : R 0 s t) (h : ∀ i s t, i < n → R i s t → R (i + 1) (g i s) (k i t)) : R n (fo g n s) (fo k n t) := by
  induction n with
  | zero => exact h0
  | succ n ih => exact h n _ _ (by omega) (ih (fun i s t hi => h i s t (by omega)))
theorem fo_inv {S : Type} {P : Nat → S → Prop} {g : Nat → S → S} {n : Nat} {s : S} (h0 : P 0 s) (h : ∀ i s, i < n → P i s → P (i + 1) (g i s)) : P n (fo g n s) := by
  induction n with
  | zero => exact h0
  | succ n ih => exact h n _ (by omega) (ih (fun i s hi => h i s (by omega)))
theorem itr_one {S R : Type} {f : S → Option (S ⊕ R)} {n : Nat} {s s' : S} (h : f s = some (.inl s')) : itr f (n + 1) s = itr f n s' := by
  show (match f s with | none => none | some (.inl s') => itr f n s' | some (.inr r) => some r) = _
  rw [h]
theorem itr_end {S R : Type} {f : S → Option (S ⊕ R)} {n : Nat} {s : S} {r : R} (h : f s = some (.inr r)) : itr f (n + 1) s = some r := by
  show (match f s with | none => none | some (.inl s') => itr f n s' | some (.inr r) => some r) = _
  rw [h]
/-- n times on, then out: the states by their numbers -/
theorem itr_tr {S R : Type} {f : S → Option (S ⊕ R)} (st : Nat → S) {r : R} : ∀ (n k m : Nat), (∀ i, k ≤ i → i < k + n → f (st i) = some (.inl (st (i + 1)))) → f (st (k + n)) = some (.inr r) → n < m → itr f m (st k) = some r := by
  intro n
  induction n with
  | zero =>
    intro k m _ he hm
    obtain ⟨m, rfl⟩ : ∃ q, m = q + 1 := ⟨m - 1, by omega⟩
    exact itr_end he
  | succ n ih =>
    intro k m hb he hm
    obtain ⟨m, rfl⟩ : ∃ q, m = q + 1 := ⟨m - 1, by omega⟩
    rw [itr_one (hb k (Nat.le_refl _) (by omega))]
    exact ih (k + 1) m (fun i h1 h2 => hb i (by omega) (by omega)) (by rw [show k + 1 + n = k + (n + 1) by omega]; exact he) (by omega)
/-- a loop over numbers is a fold -/
theorem itr_fo {S T R : Type} {f : T → Option (T ⊕ R)} {mk : Nat → S → T} {g : Nat → S → S} {fin : S → R} {P : Nat → S → Prop} {N m : Nat} {s0 : S} (h0 : P 0 s0) (hs : ∀ i s, i < N → P i s → f (mk i s) = some (.inl (mk (i + 1) (g i s))) ∧ P (i + 1) (g i s)) (he : ∀ s, P N s → f (mk N s) = some (.inr (fin s))) (hN : N < m) : itr f m (mk 0 s0) = some (fin (fo g N s0)) ∧ P N (fo g N s0) := by
  have hP : ∀ i, i ≤ N → P i (fo g i s0) := fun i hi => fo_inv h0 (fun j s hj h => (hs j s (by omega) h).2)
  refine ⟨?_, hP N (Nat.le_refl _)⟩
  refine itr_tr (fun i => mk i (fo g i s0)) N 0 m (fun i _ hi => ?_) ?_ hN
  · exact (hs i _ (by omega) (hP i (by omega))).1
  · rw [Nat.zero_add]
    exact he _ (hP N (Nat.le_refl _))
/-- a loop over numbers that may go out early -/
def fe {S R : Type} (g : Nat → S → S ⊕ R) (fin : S → R) : Nat → Nat → S → R
  | _, 0, s => fin s
  | i, n + 1, s => match g i s with
    | .inl s' => fe g fin (i + 1) n s'
    | .inr r => r
def mpL {S T R : Type} (mk : S → T) : S ⊕ R → T ⊕ R
  | .inl s => .inl (mk s)
  | .inr r => .inr r
theorem itr_fe {S T R : Type} {f : T → Option (T ⊕ R)} {mk : Nat → S → T} {g : Nat → S → S ⊕ R} {fin : S → R} {P : Nat → S → Prop} {N : Nat} : ∀ (n i m : Nat) (s : S), i + n = N → P i s → (∀ i s, i < N → P i s → f (mk i s) = some (mpL (mk (i + 1)) (g i s)) ∧ ∀ s', g i s = .inl s' → P (i + 1) s') → (∀ s, P N s → f (mk N s) = some (.inr (fin s))) → n < m → itr f m (mk i s) = some (fe g fin i n s) := by
  intro n
  induction n with
  | zero =>
    intro i m s hi hP _ he hm
    obtain ⟨m, rfl⟩ : ∃ q, m = q + 1 := ⟨m - 1, by omega⟩
    obtain rfl : i = N := by omega
    exact itr_end (he s hP)
  | succ n ih =>
    intro i m s hi hP hs he hm
    obtain ⟨m, rfl⟩ : ∃ q, m = q + 1 := ⟨m - 1, by omega⟩
    obtain ⟨h1, h2⟩ := hs i s (by omega) hP
    unfold fe
    cases hg : g i s with
    | inl s' =>
      rw [hg] at h1
      rw [itr_one h1]
      exact ih (i + 1) m s' (by omega) (h2 s' hg) hs he (by omega)
    | inr r =>
      rw [hg] at h1
      exact itr_end h1
theorem fe_inr {S R : Type} {g : Nat → S → S ⊕ R} {fin : S → R} {i n : Nat} {s : S} {r : R} (h : g i s = .inr r) : fe g fin i (n + 1) s = r := by
  unfold fe
  rw [h]
theorem fe_inl {S R : Type} {g : Nat → S → S ⊕ R} {fin : S → R} {i n : Nat} {s s' : S} (h : g i s = .inl s') : fe g fin i (n + 1) s = fe g fin (i + 1) n s' := by
  show (match g i s with | .inl s' => fe g fin (i + 1) n s' | .inr r => r) = _
  rw [h]
/-! Int32 by its number -/
theorem ti_add {x y : Int32} (h1 : -2147483648 ≤ x.toInt + y.toInt) (h2 : x.toInt + y.toInt < 2147483648) : (x + y).toInt = x.toInt + y.toInt := by
  rw [Int32.toInt_add]
  exact Int.bmod_eq_of_le (by omega) (by omega)
theorem ti_sub {x y : Int32} (h1 : -2147483648 ≤ x.toInt - y.toInt) (h2 : x.toInt - y.toInt < 2147483648) : (x - y).toInt = x.toInt - y.toInt := by
  rw [Int32.toInt_sub]
  exact Int.bmod_eq_of_le (by omega) (by omega)
theorem ti_mul {x y : Int32} (h1 : -2147483648 ≤ x.toInt * y.toInt) (h2 : x.toInt * y.toInt < 2147483648) : (x * y).toInt = x.toInt * y.toInt := by
  rw [Int32.toInt_mul]
  exact Int.bmod_eq_of_le (by omega) (by omega)
theorem ti_lt {x y : Int32} : x < y ↔ x.toInt < y.toInt := Int32.lt_iff_toInt_lt
theorem ti_le {x y : Int32} : x ≤ y ↔ x.toInt ≤ y.toInt := Int32.le_iff_toInt_le
theorem ti_eq {x y : Int32} : x = y ↔ x.toInt = y.toInt := ⟨fun h => by rw [h], fun h => Int32.toInt_inj.mp h⟩
/-- the small int of a number -/
def zI (z : Int) : Int32 := Int32.ofInt z
theorem zI_toInt {z : Int} (h1 : -2147483648 ≤ z) (h2 : z < 2147483648) : (zI z).toInt = z := Int32.toInt_ofInt_of_le h1 h2
theorem zI_of (x : Int32) : zI x.toInt = x := Int32.ofInt_toInt x
theorem ti_lo (x : Int32) : -2147483648 ≤ x.toInt := Int32.minValue_le_toInt x
theorem ti_hi (x : Int32) : x.toInt < 2147483648 := by
  have := Int32.toInt_le x
  exact Int.lt_of_le_of_lt this (by decide)
/-! the cells of the small heap -/
theorem sI_same {σ : MH} {a i : Nat} {v : Int32} : (sI σ a i v).1 a i = v := by simp [sI, upd]
theorem sI_obj {σ : MH} {a b i j : Nat} {v : Int32} (h : b ≠ a) : (sI σ a i v).1 b j = σ.1 b j := by simp [sI, h]
theorem sI_objF {σ : MH} {a b i : Nat} {v : Int32} (h : b ≠ a) : (sI σ a i v).1 b = σ.1 b := by simp [sI, h]
theorem sI_fld {σ : MH} {a i j : Nat} {v : Int32} (h : j ≠ i) : (sI σ a i v).1 a j = σ.1 a j := by simp [sI, upd, h]
theorem sI_at {σ : MH} {a b i j : Nat} {v : Int32} : (sI σ a i v).1 b j = if b = a ∧ j = i then v else σ.1 b j := by
  by_cases h : b = a
  · subst h
    by_cases h2 : j = i
    · subst h2; simp [sI, upd]
    · simp [sI, upd, h2]
  · simp [sI, h]
/-- nothing but the objects of T has changed -/
def Fr (T : List Nat) (σ σ' : MH) : Prop := ∀ b, b ∉ T → σ'.1 b = σ.1 b
theorem Fr.rf {T : List Nat} {σ : MH} : Fr T σ σ := fun _ _ => rfl
theorem Fr.tr {T : List Nat} {σ σ1 σ2 : MH} (h1 : Fr T σ σ1) (h2 : Fr T σ1 σ2) : Fr T σ σ2 := fun b hb => (h2 b hb).trans (h1 b hb)
theorem Fr.mo {T U : List Nat} {σ σ1 : MH} (h1 : Fr T σ σ1) (h : ∀ b, b ∈ T → b ∈ U) : Fr U σ σ1 := fun b hb => h1 b (fun q => hb (h b q))
theorem Fr.sI {T : List Nat} {σ : MH} {a i : Nat} {v : Int32} (h : a ∈ T) : Fr T σ (sI σ a i v) := fun b hb => by
  have : b ≠ a := fun q => hb (q ▸ h)
  exact sI_objF this
theorem Fr.sJ {T : List Nat} {σ : MH} {a i : Nat} {v : Int64} : Fr T σ (sJ σ a i v) := fun _ _ => rfl
/-! twelve -/
theorem tw_ix (x : Int32) : (∃ k : Nat, k < 12 ∧ x = nI k) ∨ x < 0 ∨ 12 ≤ x := by
  rcases pk_ix x (n := 12) (by decide) with h | h | h
  · exact Or.inr (Or.inl h)
  · exact Or.inr (Or.inr h)
  · exact Or.inl h
theorem inb_nI {n N : Nat} (h : n < N) (hN : N < 2 ^ 31) : inb (nI n) N = true := by
  unfold inb
  rw [nI_clamp (by omega)]
  have h1 : decide (nI n < 0) = false := decide_eq_false (nI_pos (by omega))
  have h2 : Nat.ble N n = false := by
    cases q : Nat.ble N n with
    | false => rfl
    | true => exact absurd (Nat.le_of_ble_eq_true q) (by omega)
  rw [h1, h2]
  rfl
theorem ne_of_lt32 {x y : Int32} (h : x < y) : ¬ y ≤ x := by
  rw [ti_le]
  rw [ti_lt] at h
  omega
theorem v_isNumber {k : Nat} (h : k < 12) (σ : MH) : Pz_isNumber (nI k) σ = some 1 := by
  have h1 : ¬ nI k < 0 := nI_pos (by omega)
  have h2 : ¬ (12 : Int32) ≤ nI k := nI_ge (a := k) (b := 12) h (by decide)
  unfold Pz_isNumber Pz_isNumber0
  rw [if_neg h1, if_neg h2]
  rfl
theorem v_isNumberF {x : Int32} (h : x < 0 ∨ 12 ≤ x) (σ : MH) : Pz_isNumber x σ = some 0 := by
  unfold Pz_isNumber Pz_isNumber0
  rcases h with h | h
  · rw [if_pos h]; rfl
  · by_cases h0 : x < 0
    · rw [if_pos h0]; rfl
    · rw [if_neg h0, if_pos h]; rfl
/-! bits of a set -/
def bt (s : Int32) (k : Nat) : Bool := decide ((jshr s (nI k)) &&& (1 : Int32) = (1 : Int32))
theorem one_and (x : BitVec 32) : x &&& 1#32 = 1#32 ↔ x.getLsbD 0 = true := by
  constructor
  · intro h
    have := congrArg (fun z => z.getLsbD 0) h
    simpa using this
  · intro h
    apply BitVec.eq_of_getLsbD_eq
    intro i hi
    rcases i with _ | i
    · simp [h]
    · simp
theorem sh_amt {k : Nat} (h : k < 32) : ((nI k &&& 31).toBitVec.smod 32).toNat = k := by
  have : ∀ k : Nat, k < 32 → ((nI k &&& 31).toBitVec.smod 32).toNat = k := by decide
  exact this k h
theorem jshr_bit {s : Int32} {k : Nat} (h : k < 32) (j : Nat) (hj : j + k < 32) : (jshr s (nI k)).toBitVec.getLsbD j = s.toBitVec.getLsbD (k + j) := by
  unfold jshr
  rw [Int32.toBitVec_shiftRight, BitVec.sshiftRight_eq', sh_amt h, BitVec.getLsbD_sshiftRight]
  rw [decide_eq_false (show ¬ 32 ≤ j by omega), if_pos (show k + j < 32 by omega)]
  rfl
theorem bt_bit {s : Int32} {k : Nat} (h : k < 32) : bt s k = s.toBitVec.getLsbD k := by
  have h1 := jshr_bit (s := s) h 0 (by omega)
  rw [Nat.add_zero] at h1
  unfold bt
  rw [← h1]
  have h2 : (jshr s (nI k) &&& 1 = 1) ↔ (jshr s (nI k)).toBitVec &&& 1#32 = 1#32 := by
    constructor
    · intro q
      have := congrArg Int32.toBitVec q
      simpa using this
    · intro q
      apply Int32.toBitVec_inj.mp
      simpa using q
  cases hb : (jshr s (nI k)).toBitVec.getLsbD 0 with
  | true => exact decide_eq_true (h2.mpr ((one_and _).mpr hb))
  | false => exact decide_eq_false (fun q => by
      have := (one_and _).mp (h2.mp q)
      rw [hb] at this
      cases this)
theorem jshl_bit {k j : Nat} (h : k < 32) (hj : j < 32) : (jshl 1 (nI k)).toBitVec.getLsbD j = decide (j = k) := by
  have : ∀ k : Nat, k < 32 → ∀ j : Nat, j < 32 → (jshl 1 (nI k)).toBitVec.getLsbD j = decide (j = k) := by decide +kernel
  exact this k h j hj
theorem bt_or1 {s : Int32} {i k : Nat} (hi : i < 32) (hk : k < 32) : bt (s ||| jshl 1 (nI i)) k = (bt s k || decide (k = i)) := by
  rw [bt_bit hk, bt_bit hk, Int32.toBitVec_or, BitVec.getLsbD_or, jshl_bit hi hk]
theorem bt_or {s t : Int32} {k : Nat} (hk : k < 32) : bt (s ||| t) k = (bt s k || bt t k) := by
  rw [bt_bit hk, bt_bit hk, bt_bit hk, Int32.toBitVec_or, BitVec.getLsbD_or]
theorem bt_one {i k : Nat} (hi : i < 32) (hk : k < 32) : bt (jshl 1 (nI i)) k = decide (k = i) := by
  rw [bt_bit hk, jshl_bit hi hk]
theorem bt_off {s : Int32} {i k : Nat} (hi : i < 32) (hk : k < 32) : bt (s &&& (jshl 1 (nI i) ^^^ (-1 : Int32))) k = (bt s k && !decide (k = i)) := by
  rw [bt_bit hk, bt_bit hk, Int32.toBitVec_and, BitVec.getLsbD_and, Int32.toBitVec_xor, BitVec.getLsbD_xor, jshl_bit hi hk]
  have : ∀ k : Nat, k < 32 → (-1 : Int32).toBitVec.getLsbD k = true := by decide +kernel
  rw [this k hk]
  cases decide (k = i) <;> rfl
theorem bt_0 {k : Nat} (hk : k < 32) : bt 0 k = false := by
  have : ∀ k : Nat, k < 32 → bt 0 k = false := by decide +kernel
  exact this k hk
theorem bt_ext {s t : Int32} (h : ∀ k, k < 32 → bt s k = bt t k) : s = t := by
  apply Int32.toBitVec_inj.mp
  apply BitVec.eq_of_getLsbD_eq
  intro i hi
  rw [← bt_bit hi, ← bt_bit hi]
  exact h i hi
