/-! LOOPS BY WHAT HOLDS; FRAMES BY CELLS -/
theorem itr_h {S R : Type} {f : S → Option (S ⊕ R)} (P : Nat → S → Prop) (Q : R → Prop) {N : Nat} : ∀ (n i m : Nat) (s : S), i + n = N → P i s → (∀ i s, i < N → P i s → (∃ s', f s = some (.inl s') ∧ P (i + 1) s') ∨ (∃ r, f s = some (.inr r) ∧ Q r)) → (∀ s, P N s → ∃ r, f s = some (.inr r) ∧ Q r) → n < m → ∃ r, itr f m s = some r ∧ Q r := by
  intro n
  induction n with
  | zero =>
    intro i m s hi hP _ he hm
    obtain ⟨m, rfl⟩ : ∃ q, m = q + 1 := ⟨m - 1, by omega⟩
    obtain rfl : i = N := by omega
    obtain ⟨r, h1, h2⟩ := he s hP
    exact ⟨r, itr_end h1, h2⟩
  | succ n ih =>
    intro i m s hi hP hs he hm
    obtain ⟨m, rfl⟩ : ∃ q, m = q + 1 := ⟨m - 1, by omega⟩
    rcases hs i s (by omega) hP with ⟨s', h1, h2⟩ | ⟨r, h1, h2⟩
    · rw [itr_one h1]
      exact ih (i + 1) m s' (by omega) h2 hs he (by omega)
    · exact ⟨r, itr_end h1, h2⟩
/-- a loop from 0 to N -/
theorem itr_n {S R : Type} {f : S → Option (S ⊕ R)} (N : Nat) (P : Nat → S → Prop) (Q : R → Prop) {m : Nat} {s : S} (h0 : P 0 s) (hs : ∀ i s, i < N → P i s → (∃ s', f s = some (.inl s') ∧ P (i + 1) s') ∨ (∃ r, f s = some (.inr r) ∧ Q r)) (he : ∀ s, P N s → ∃ r, f s = some (.inr r) ∧ Q r) (hm : N < m := by decide) : ∃ r, itr f m s = some r ∧ Q r :=
  itr_h P Q N 0 m s (by omega) h0 hs he hm
/-- a loop by a measure -/
theorem itr_w {S R : Type} {f : S → Option (S ⊕ R)} (P : S → Prop) (Q : R → Prop) (μ : S → Nat) (hs : ∀ s, P s → (∃ s', f s = some (.inl s') ∧ P s' ∧ μ s' < μ s) ∨ (∃ r, f s = some (.inr r) ∧ Q r)) : ∀ (n m : Nat) (s : S), P s → μ s ≤ n → n < m → ∃ r, itr f m s = some r ∧ Q r := by
  intro n
  induction n with
  | zero =>
    intro m s hP hn hm
    obtain ⟨m, rfl⟩ : ∃ q, m = q + 1 := ⟨m - 1, by omega⟩
    rcases hs s hP with ⟨s', h1, h2, h3⟩ | ⟨r, h1, h2⟩
    · omega
    · exact ⟨r, itr_end h1, h2⟩
  | succ n ih =>
    intro m s hP hn hm
    obtain ⟨m, rfl⟩ : ∃ q, m = q + 1 := ⟨m - 1, by omega⟩
    rcases hs s hP with ⟨s', h1, h2, h3⟩ | ⟨r, h1, h2⟩
    · rw [itr_one h1]
      exact ih m s' h2 (by omega) (by omega)
    · exact ⟨r, itr_end h1, h2⟩
/-- nothing but the cells of P has changed -/
def Fx (P : Nat → Nat → Prop) (σ σ' : MH) : Prop := ∀ b k, ¬ P b k → σ'.1 b k = σ.1 b k
theorem Fx.rf {P : Nat → Nat → Prop} {σ : MH} : Fx P σ σ := fun _ _ _ => rfl
theorem Fx.tr {P : Nat → Nat → Prop} {σ σ1 σ2 : MH} (h1 : Fx P σ σ1) (h2 : Fx P σ1 σ2) : Fx P σ σ2 := fun b k hb => (h2 b k hb).trans (h1 b k hb)
theorem Fx.mo {P U : Nat → Nat → Prop} {σ σ1 : MH} (h1 : Fx P σ σ1) (h : ∀ b k, P b k → U b k) : Fx U σ σ1 := fun b k hb => h1 b k (fun q => hb (h b k q))
theorem Fx_sI {P : Nat → Nat → Prop} {σ : MH} {a i : Nat} {v : Int32} (h : P a i) : Fx P σ (sI σ a i v) := fun b k hb => by
  rw [sI_at, if_neg]
  rintro ⟨rfl, rfl⟩
  exact hb h
theorem Fx_row {P : Nat → Nat → Prop} {σ : MH} {a : Nat} {A : Nat → Int32} (h : ∀ k, P a k) : Fx P σ (sR σ a A) := fun b k hb => by
  unfold sR
  by_cases q : b = a
  · exact absurd (q ▸ h k) hb
  · simp only [if_neg q]
theorem ix3 (n : Nat) {k : Nat} (h : k < n) (hn : n < 2 ^ 31 := by decide) : (¬ (OfNat.ofNat n : Int32) ≤ nI k) ∧ inb (nI k) n = true ∧ (nI k).toNatClampNeg = k ∧ (¬ nI k < 0) := ⟨nI_ge h hn, inb_nI h hn, nI_clamp (by omega), nI_pos (by omega)⟩
