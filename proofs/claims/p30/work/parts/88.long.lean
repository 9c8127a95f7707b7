/-! longs -/
section LONG
def jI (n : Nat) : Int64 := Int64.ofNat n
theorem jI_toInt {n : Nat} (h : n < 2 ^ 63) : (jI n).toInt = n := by
  unfold jI
  rw [Int64.toInt_ofNat_of_lt h]
theorem litJ (n : Nat) : (OfNat.ofNat n : Int64) = jI n := rfl
theorem jI_add (a b : Nat) : jI a + jI b = jI (a + b) := (Int64.ofNat_add a b).symm
theorem jI_mul (a b : Nat) : jI a * jI b = jI (a * b) := (Int64.ofNat_mul a b).symm
theorem jI_inj {a b : Nat} (ha : a < 2 ^ 63) (hb : b < 2 ^ 63) : jI a = jI b ↔ a = b := by
  refine ⟨fun h => ?_, fun h => by rw [h]⟩
  have := congrArg Int64.toInt h
  rw [jI_toInt ha, jI_toInt hb] at this
  omega
theorem jI_lt {a b : Nat} (ha : a < 2 ^ 63) (hb : b < 2 ^ 63) : jI a < jI b ↔ a < b := by
  rw [Int64.lt_iff_toInt_lt, jI_toInt ha, jI_toInt hb]
  omega
theorem jI_of {n : Nat} (h : n < 2 ^ 31) : (nI n).toInt64 = jI n := by
  apply Int64.toInt_inj.mp
  rw [Int32.toInt_toInt64, nI_toInt h, jI_toInt (by omega)]
theorem jI_to {n : Nat} (h : n < 2 ^ 31) : (jI n).toInt32 = nI n := by
  apply Int32.toInt_inj.mp
  rw [Int64.toInt_toInt32, jI_toInt (by omega), nI_toInt h]
  exact Int.bmod_eq_of_le (by omega) (by omega)
theorem jlmin_J {a b : Nat} (ha : a < 2 ^ 63) (hb : b < 2 ^ 63) : jlmin (jI a) (jI b) = jI (min a b) := by
  unfold jlmin
  by_cases h : b < a
  · rw [if_pos ((jI_lt hb ha).mpr h), Nat.min_eq_right (by omega)]
  · rw [if_neg (fun z => h ((jI_lt hb ha).mp z)), Nat.min_eq_left (by omega)]
theorem lg_J {a b : Nat} (ha : a < 2 ^ 63) (hb : b < 2 ^ 63) : (lg_cmp (jI a) (jI b) = 0) ↔ a = b := by
  unfold lg_cmp
  by_cases h : jI a > jI b
  · rw [if_pos h]
    have := (jI_lt hb ha).mp h
    exact ⟨fun z => absurd z (by decide), fun z => by omega⟩
  · rw [if_neg h]
    by_cases q : a = b
    · rw [if_pos ((jI_inj ha hb).mpr q)]
      exact ⟨fun _ => q, fun _ => rfl⟩
    · rw [if_neg (fun z => q ((jI_inj ha hb).mp z))]
      exact ⟨fun z => absurd z (by decide), fun z => absurd z q⟩
theorem jI_div {n : Nat} (h : n < 2 ^ 63) (m : Nat) (hm : m < 2 ^ 31) (h0 : 0 < m) : jI n / jI m = jI (n / m) := by
  apply Int64.toInt_inj.mp
  have hle : n / m ≤ n := Nat.div_le_self _ _
  rw [Int64.toInt_div, jI_toInt h, jI_toInt (by omega), jI_toInt (by omega)]
  rw [show ((n : Int).tdiv (m : Int)) = ((n / m : Nat) : Int) from rfl]
  generalize n / m = q at hle
  exact Int.bmod_eq_of_le (by omega) (by omega)
theorem jI_sub {a b : Nat} (h : b ≤ a) : jI a - jI b = jI (a - b) := by
  unfold jI
  rw [Int64.ofNat_sub _ _ h]
theorem jI_rem {n : Nat} (h : n < 2 ^ 63) (m : Nat) (hm : m < 2 ^ 31) (h0 : 0 < m) : jlrem (jI n) (jI m) = jI (n % m) := by
  unfold jlrem
  have := Nat.div_add_mod n m
  have h2 : n / m * m ≤ n := Nat.div_mul_le_self _ _
  rw [jI_div h m hm h0, jI_mul, jI_sub h2]
  congr 1
  rw [Nat.mul_comm] at this
  omega
theorem sJ_same {σ : MH} {a i : Nat} {v : Int64} : (sJ σ a i v).2 a i = v := by simp [sJ, vp_updL]
theorem sJ_ne {σ : MH} {a b i k : Nat} {v : Int64} (h : ¬ (b = a ∧ k = i)) : (sJ σ a i v).2 b k = σ.2 b k := by
  unfold sJ
  dsimp only
  by_cases q : b = a
  · rw [if_pos q]
    unfold vp_updL
    rw [if_neg (fun z => h ⟨q, z⟩), q]
  · rw [if_neg q]
theorem sJ_1 {σ : MH} {a i : Nat} {v : Int64} : (sJ σ a i v).1 = σ.1 := rfl
theorem sI_2 {σ : MH} {a i : Nat} {v : Int32} : (sI σ a i v).2 = σ.2 := rfl
theorem Fx_sJ {P : Nat → Nat → Prop} {σ : MH} {a i : Nat} {v : Int64} : Fx P σ (sJ σ a i v) := fun _ _ _ => rfl
end LONG
