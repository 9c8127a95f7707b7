/-! search: the reference -/
section MQ
variable {σ : MH} {tb : Nat → Nat} {n c k t u : Nat}
def TBb (tb : Nat → Nat) (σ : MH) : Prop := ∀ j, j < 260 → tb j < 256 ∧ σ.1 170 j = jb (nI (tb j))
theorem jb_in99 : ∀ b, b < 256 → (decide ((0 : Int32) ≤ jb (nI b)) && decide (jb (nI b) ≤ 99)) = decide (b ≤ 99) := by decide +kernel
theorem jb_in20 : ∀ b, b < 256 → (decide ((1 : Int32) ≤ jb (nI b)) && decide (jb (nI b) ≤ 20)) = (decide (1 ≤ b) && decide (b ≤ 20)) := by decide +kernel
theorem jb_small : ∀ b, b < 128 → jb (nI b) = nI b := by decide +kernel
theorem m_bd4 (hT : TBb tb σ) (h6 : n ≤ 6) : ∃ r, Md_areBounds_L4 (nI n) σ (0, 0) = some r ∧ ((r = .inl (nI (sumW tb n)) ∧ ∀ s, s < n → tb s ≤ 99) ∨ (r = .inr 0 ∧ ∃ s, s < n ∧ ¬ tb s ≤ 99)) := by
  refine itr_n n (fun (t : Nat) (z : Int32 × Int32) => z.1 = nI (sumW tb t) ∧ z.2 = nI t ∧ ∀ s, s < t → tb s ≤ 99) _ ⟨rfl, rfl, fun s hs => absurd hs (Nat.not_lt_zero s)⟩ (fun t z ht hz => ?_) (fun z hz => ?_) (by show n < 1000000; omega)
  · obtain ⟨z1, z2⟩ := z
    obtain ⟨e1, e2, hv⟩ := hz
    dsimp only at e1 e2 hv
    subst e1; subst e2
    obtain ⟨i1, i2, i3, i4⟩ := ix3 260 (show t < 260 by omega)
    have hb := hT t (by omega)
    have hu : Md_areBounds_l4 (nI n) (nI (sumW tb t)) (nI t) σ = if tb t ≤ 99 then some (.inl (nI (sumW tb t) + jb (nI (tb t)), nI (t + 1))) else some (.inr (.inr 0)) := by
      unfold Md_areBounds_l4
      rw [if_neg (by rw [nI_leI (by omega) (by omega)]; omega), if_pos i2, i3, hb.2, m_in, Option.bind_some, jb_in99 _ hb.1, show nI t + 1 = nI (t + 1) from nI_1 _]
      by_cases q : tb t ≤ 99
      · rw [decide_eq_true q, bI_t, if_neg (show ¬ (1 : Int32) = 0 by decide), if_pos q]
      · rw [decide_eq_false q, bI_f, if_pos rfl, if_neg q]
    show (∃ s', Md_areBounds_l4 (nI n) (nI (sumW tb t)) (nI t) σ = some (.inl s') ∧ _) ∨ (∃ r, Md_areBounds_l4 (nI n) (nI (sumW tb t)) (nI t) σ = some (.inr r) ∧ _)
    rw [hu]
    by_cases q : tb t ≤ 99
    · rw [if_pos q, jb_small _ (by omega), nI_add]
      refine Or.inl ⟨_, rfl, rfl, rfl, fun s hs => ?_⟩
      rcases Nat.lt_or_ge s t with h | h
      · exact hv s h
      · rw [show s = t by omega]; exact q
    · rw [if_neg q]
      exact Or.inr ⟨_, rfl, Or.inr ⟨rfl, t, ht, q⟩⟩
  · obtain ⟨z1, z2⟩ := z
    obtain ⟨e1, e2, hv⟩ := hz
    dsimp only at e1 e2 hv
    subst e1; subst e2
    refine ⟨.inl (nI (sumW tb n)), ?_, Or.inl ⟨rfl, hv⟩⟩
    show Md_areBounds_l4 (nI n) _ (nI n) σ = _
    unfold Md_areBounds_l4
    rw [if_pos (Int32.le_refl _)]
theorem m_bd51 (hT : TBb tb σ) (h2 : 2 ≤ n) (h6 : n ≤ 6) (ht : t < n) (w : Int32) : ∃ r, Md_areBounds_L51 (nI n) w (nI t) σ 0 = some r ∧ ((r = .inl () ∧ ∀ u, u < n → okD tb n t u = true) ∨ (r = .inr 0 ∧ ∃ u, u < n ∧ okD tb n t u = false)) := by
  refine itr_n n (fun (u : Nat) (z : Int32) => z = nI u ∧ ∀ m, m < u → okD tb n t m = true) _ ⟨rfl, fun s hs => absurd hs (Nat.not_lt_zero s)⟩ (fun u z hu' hz => ?_) (fun z hz => ?_) (by show n < 1000000; omega)
  · obtain ⟨e1, hv⟩ := hz
    subst e1
    have hm : t * n ≤ 5 * 6 := Nat.mul_le_mul (by omega) h6
    obtain ⟨i1, i2, i3, i4⟩ := ix3 260 (show n + t * n + u < 260 by omega)
    have hb := hT _ (show n + t * n + u < 260 by omega)
    have hu : Md_areBounds_l51 (nI n) w (nI t) (nI u) σ = if okD tb n t u = true then some (.inl (nI (u + 1))) else some (.inr (.inr 0)) := by
      unfold Md_areBounds_l51 Md_areBounds_b87 okD dT
      rw [if_neg (by rw [nI_leI (by omega) (by omega)]; omega), pk_mul, Nat.mul_comm n t, nI_add, nI_add, if_pos i2, i3, hb.2, m_in, Option.bind_some, jb_in20 _ hb.1, show nI u + 1 = nI (u + 1) from nI_1 _]
      by_cases q : t = u
      · rw [if_pos (by rw [q]), decide_eq_true q, Bool.true_or, if_pos rfl]
      · rw [if_neg (fun z => q ((nI_eq (by omega) (by omega)).mp z)), decide_eq_false q, Bool.false_or]
        cases (decide (1 ≤ tb (n + t * n + u)) && decide (tb (n + t * n + u) ≤ 20))
        · rw [bI_f, if_pos rfl, if_neg (by decide)]
        · rw [bI_t, if_neg (show ¬ (1 : Int32) = 0 by decide), if_pos rfl]
    rw [hu]
    cases q : okD tb n t u with
    | true =>
      rw [if_pos rfl]
      refine Or.inl ⟨_, rfl, rfl, fun s hs => ?_⟩
      rcases Nat.lt_or_ge s u with h | h
      · exact hv s h
      · rw [show s = u by omega]; exact q
    | false =>
      rw [if_neg (by decide)]
      exact Or.inr ⟨_, rfl, Or.inr ⟨rfl, u, hu', q⟩⟩
  · obtain ⟨e1, hv⟩ := hz
    subst e1
    refine ⟨.inl (), ?_, Or.inl ⟨rfl, hv⟩⟩
    unfold Md_areBounds_l51
    rw [if_pos (Int32.le_refl _)]
theorem m_bd43 (hT : TBb tb σ) (h2 : 2 ≤ n) (h6 : n ≤ 6) (w : Int32) : ∃ r, Md_areBounds_L43 (nI n) w σ 0 = some r ∧ ((r = .inl () ∧ ∀ t, t < n → ∀ u, u < n → okD tb n t u = true) ∨ (r = .inr 0 ∧ ∃ t u, t < n ∧ u < n ∧ okD tb n t u = false)) := by
  refine itr_n n (fun (t : Nat) (z : Int32) => z = nI t ∧ ∀ m, m < t → ∀ u, u < n → okD tb n m u = true) _ ⟨rfl, fun s hs => absurd hs (Nat.not_lt_zero s)⟩ (fun t z ht hz => ?_) (fun z hz => ?_) (by show n < 1000000; omega)
  · obtain ⟨e1, hv⟩ := hz
    subst e1
    obtain ⟨r, k1, k2⟩ := m_bd51 hT h2 h6 ht w
    unfold Md_areBounds_l43
    rw [if_neg (by rw [nI_leI (by omega) (by omega)]; omega), k1, Option.bind_some]
    rcases k2 with ⟨rfl, q⟩ | ⟨rfl, u, hu, q⟩
    · refine Or.inl ⟨nI (t + 1), ?_, rfl, fun s hs => ?_⟩
      · dsimp only
        rw [show nI t + 1 = nI (t + 1) from nI_1 _]
      · rcases Nat.lt_or_ge s t with h | h
        · exact hv s h
        · rw [show s = t by omega]; exact q
    · exact Or.inr ⟨_, rfl, Or.inr ⟨rfl, t, u, ht, hu, q⟩⟩
  · obtain ⟨e1, hv⟩ := hz
    subst e1
    refine ⟨.inl (), ?_, Or.inl ⟨rfl, hv⟩⟩
    unfold Md_areBounds_l43
    rw [if_pos (Int32.le_refl _)]
theorem m_bounds (hT : TBb tb σ) (h2 : 2 ≤ n) (h6 : n ≤ 6) : Md_areBounds (nI n) σ = some (bI (okT tb n)) := by
  have hno : (¬ ((∀ t, t < n → tb t ≤ 99 ∧ ∀ u, u < n → okD tb n t u = true) ∧ 0 < sumW tb n)) → okT tb n = false := fun h => by
    cases q : okT tb n with
    | false => rfl
    | true => exact absurd (okT_iff.mp q) h
  have hsb : sumW tb n ≤ 256 * n := sumW_b (fun t ht => (hT t (by omega)).1)
  unfold Md_areBounds Md_areBounds0
  obtain ⟨r, k1, k2⟩ := m_bd4 hT h6
  rw [k1, Option.bind_some]
  rcases k2 with ⟨rfl, q⟩ | ⟨rfl, s, hs, q⟩
  · obtain ⟨r2, g1, g2⟩ := m_bd43 hT h2 h6 (nI (sumW tb n))
    dsimp only
    rw [g1, Option.bind_some]
    rcases g2 with ⟨rfl, p⟩ | ⟨rfl, t, u, ht, hu, p⟩
    · dsimp only
      by_cases c : 0 < sumW tb n
      · rw [if_neg (mt (leL 0 (by omega) (by decide)).mp (by omega)), okT_iff.mpr ⟨fun t ht => ⟨q t ht, p t ht⟩, c⟩]
        rfl
      · rw [if_pos ((leL 0 (by omega) (by decide)).mpr (by omega)), hno (fun z => c z.2)]
        rfl
    · rw [hno (fun z => by
        have := (z.1 t ht).2 u hu
        rw [p] at this
        cases this)]
      rfl
  · rw [hno (fun z => q (z.1 s hs).1)]
    rfl
/-! a row by its code -/
def PRw (b _k : Nat) : Prop := b = 192
theorem rC_j (h2 : 2 ≤ n) {j : Nat} (hj : j < n - 1) : rC n c (n - 1 - j) = c / n ^ j % n := by
  unfold rC
  rw [if_neg (by omega), if_pos (by omega), show n - 1 - (n - 1 - j) = j by omega]
theorem m_readsRow (h2 : 2 ≤ n) (h6 : n ≤ 6) (hc : c < 2 ^ 31) : ∃ σ', Md_readsRow (nI n) (nI c) σ = some (bI (vC n c), σ') ∧ Fx PRw σ σ' ∧ (vC n c = true → ∀ k, k < n → σ'.1 192 k = nI (rC n c k)) := by
  have hlt : ∀ k, k < n → rC n c k < 6 := fun k hk => Nat.lt_of_lt_of_le (rC_lt h2 hk) h6
  obtain ⟨r, k1, k2, k3, k4⟩ : ∃ r, Md_readsRow_L17 (nI n) (nI c, 1, nI n - 1, sI σ 192 0 0) = some r ∧ r.1 = bI (vC n c) ∧ Fx PRw σ r.2 ∧ (vC n c = true → ∀ k, k < n → r.2.1 192 k = nI (rC n c k)) := by
    refine itr_n (n - 1) (fun (j : Nat) (z : Int32 × Int32 × Int32 × MH) => z.1 = nI (c / n ^ j) ∧ (∀ d, d < 6 → (bt z.2.1 d = true ↔ d = 0 ∨ ∃ m, n - 1 - j < m ∧ m < n ∧ rC n c m = d)) ∧ z.2.2.1 = nI (n - 1 - j) ∧ Fx PRw σ z.2.2.2 ∧ z.2.2.2.1 192 0 = 0 ∧ (∀ k, n - 1 - j < k → k < n → z.2.2.2.1 192 k = nI (rC n c k)) ∧ ∀ k, n - 1 - j < k → k < n → dsB n c k = true) _ ⟨?_, ?_, ?_, Fx_sI rfl, sI_same, fun k a b => by omega, fun k a b => by omega⟩ (fun j z hj hz => ?_) (fun z hz => ?_) (by show n - 1 < 1000000; omega)
    · show nI c = nI (c / n ^ 0)
      rw [Nat.pow_zero, Nat.div_one]
    · intro d hd
      have : ∀ d, d < 6 → (bt 1 d = true ↔ d = 0) := by decide +kernel
      rw [this d hd]
      exact ⟨Or.inl, fun h => h.resolve_right (fun ⟨m, a, b, _⟩ => by omega)⟩
    · show nI n - 1 = _
      rw [show nI n - 1 = nI (n - 1) from subL 1 (by omega)]
      rfl
    · obtain ⟨z1, z2, z3, z4⟩ := z
      obtain ⟨e1, hs, e3, hf, h0, hv, hd⟩ := hz
      dsimp only at e1 hs e3 hf h0 hv hd
      subst e1; subst e3
      have hk6 : n - 1 - j < 6 := by omega
      have ka : n - 1 - (j + 1) < n - 1 - j := by omega
      have kb : n - 1 - j < n := by omega
      have kc : ∀ m, n - 1 - j < m → n - 1 - (j + 1) < m := fun m h => by omega
      have kd : ∀ m, n - 1 - (j + 1) < m → m ≠ n - 1 - j → n - 1 - j < m := fun m h1 h2 => by omega
      obtain ⟨f1, f2, f3, f4⟩ := ix3 6 hk6
      have er := rC_j (c := c) h2 hj
      have hr6 := hlt (n - 1 - j) (by omega)
      have hcj : c / n ^ j < 2 ^ 31 := Nat.lt_of_le_of_lt (Nat.div_le_self _ _) hc
      have hu : Md_readsRow_l17 (nI n) (nI (c / n ^ j)) z2 (nI (n - 1 - j)) z4 = if bt z2 (rC n c (n - 1 - j)) = true then some (.inr (0, sI z4 192 (n - 1 - j) (nI (rC n c (n - 1 - j))))) else some (.inl (nI (c / n ^ (j + 1)), z2 ||| jshl 1 (nI (rC n c (n - 1 - j))), nI (n - 1 - (j + 1)), sI z4 192 (n - 1 - j) (nI (rC n c (n - 1 - j))))) := by
        unfold Md_readsRow_l17
        rw [if_neg (mt (leL 0 (by omega) (by decide)).mp (by omega)), if_pos (bne0 (by omega) (by omega)), if_pos f2, f3, jrem_nI hcj (by omega) (by omega), ← er, sI_same, m_has, Option.bind_some, pk_div hcj (by omega) (by omega), Nat.div_div_eq_div_mul, ← Nat.pow_succ, show nI (n - 1 - j) + -1 = nI (n - 1 - (j + 1)) by
          rw [show n - 1 - j = n - 1 - (j + 1) + 1 by omega]
          exact pk_m1 _]
        cases bt z2 (rC n c (n - 1 - j))
        · rw [bI_f, if_pos rfl, if_neg (by decide)]
        · rw [bI_t, if_neg (show ¬ (1 : Int32) = 0 by decide), if_pos rfl]
      show (∃ s', Md_readsRow_l17 (nI n) (nI (c / n ^ j)) z2 (nI (n - 1 - j)) z4 = some (.inl s') ∧ _) ∨ (∃ r, Md_readsRow_l17 (nI n) (nI (c / n ^ j)) z2 (nI (n - 1 - j)) z4 = some (.inr r) ∧ _)
      rw [hu]
      have hb := hs _ hr6
      by_cases q : bt z2 (rC n c (n - 1 - j)) = true
      · rw [if_pos q]
        have hno : vC n c = false := by
          cases hvc : vC n c with
          | false => rfl
          | true =>
            have := dsB_iff.mp (vC_iff.mp hvc (n - 1 - j) (by omega) (by omega))
            rcases hb.mp q with h | ⟨m, a, b, e⟩
            · exact absurd h this.1
            · exact absurd e (this.2 m b a)
        refine Or.inr ⟨_, rfl, ?_, hf.tr (Fx_sI rfl), fun h => ?_⟩
        · rw [hno]; rfl
        · rw [hno] at h; cases h
      · rw [if_neg q]
        have hds : dsB n c (n - 1 - j) = true := dsB_iff.mpr ⟨fun h => q (hb.mpr (Or.inl h)), fun m hm hk e => q (hb.mpr (Or.inr ⟨m, hk, hm, e⟩))⟩
        refine Or.inl ⟨_, rfl, rfl, fun d hd' => ?_, rfl, hf.tr (Fx_sI rfl), ?_, fun k a b => ?_, fun k a b => ?_⟩
        · show bt (z2 ||| jshl 1 (nI (rC n c (n - 1 - j)))) d = true ↔ _
          rw [bt_or1 (by omega) (by omega), Bool.or_eq_true, hs d hd', decide_eq_true_eq]
          refine ⟨fun h => ?_, fun h => ?_⟩
          · rcases h with (h | ⟨m, a, b, e⟩) | h
            · exact Or.inl h
            · exact Or.inr ⟨m, kc m a, b, e⟩
            · exact Or.inr ⟨n - 1 - j, ka, kb, h.symm⟩
          · rcases h with h | ⟨m, a, b, e⟩
            · exact Or.inl (Or.inl h)
            · by_cases p : m = n - 1 - j
              · exact Or.inr (by rw [← e, p])
              · exact Or.inl (Or.inr ⟨m, kd m a p, b, e⟩)
        · show (sI z4 192 (n - 1 - j) _).1 192 0 = 0
          rw [sI_fld (by omega)]; exact h0
        · show (sI z4 192 (n - 1 - j) _).1 192 k = _
          rw [sI_at]
          by_cases p : k = n - 1 - j
          · rw [if_pos ⟨rfl, p⟩, p]
          · rw [if_neg (fun z => p z.2)]; exact hv k (kd k a p) b
        · by_cases p : k = n - 1 - j
          · rw [p]; exact hds
          · exact hd k (kd k a p) b
    · obtain ⟨z1, z2, z3, z4⟩ := z
      obtain ⟨e1, hs, e3, hf, h0, hv, hd⟩ := hz
      dsimp only at e1 hs e3 hf h0 hv hd
      rw [show n - 1 - (n - 1) = 0 by omega] at e3 hv hd
      subst e3
      have hyes : vC n c = true := vC_iff.mpr (fun k hk h => hd k (by omega) hk)
      refine ⟨(1, z4), ?_, ?_, hf, fun _ k hk => ?_⟩
      · show Md_readsRow_l17 (nI n) z1 z2 (nI 0) z4 = _
        unfold Md_readsRow_l17
        rw [if_pos (by decide)]
      · rw [hyes]; rfl
      · by_cases p : k = 0
        · rw [p]
          exact h0.trans rfl
        · exact hv k (by omega) hk
  refine ⟨r.2, ?_, k3, k4⟩
  unfold Md_readsRow Md_readsRow0
  rw [k1, Option.bind_some, k2]
  cases vC n c <;> rfl
theorem m_sumBy (hT : TBb tb σ) (h2 : 2 ≤ n) (h6 : n ≤ 6) (hO : okT tb n = true) (hv : vC n c = true) (hR : ∀ k, k < n → σ.1 192 k = nI (rC n c k)) : Md_sumBy (nI n) σ = some (nI (sumN tb n c)) := by
  obtain ⟨r, k1, k2⟩ : ∃ r, Md_sumBy_L7 (nI n) σ (0, 0, 1) = some r ∧ r = nI (sumN tb n c) := by
    refine itr_n (n - 1) (fun (p : Nat) (z : Int32 × Int32 × Int32) => z.1 = nI (dyN tb n c p).1 ∧ z.2.1 = nI (dyN tb n c p).2 ∧ z.2.2 = nI (p + 1)) _ ⟨rfl, rfl, rfl⟩ (fun p z hp hz => ?_) (fun z hz => ?_) (by show n - 1 < 1000000; omega)
    · obtain ⟨z1, z2, z3⟩ := z
      obtain ⟨e1, e2, e3⟩ := hz
      dsimp only at e1 e2 e3
      subst e1; subst e2; subst e3
      have r1 := rC_lt (c := c) h2 (show p < n by omega)
      have r2 := rC_lt (c := c) h2 (show p + 1 < n by omega)
      obtain ⟨f1, f2, f3, f4⟩ := ix3 6 (show p < 6 by omega)
      obtain ⟨k1, k2, k3, k4⟩ := ix3 6 (show p + 1 < 6 by omega)
      have hm : rC n c p * n ≤ 5 * 6 := Nat.mul_le_mul (by omega) h6
      obtain ⟨i1, i2, i3, i4⟩ := ix3 260 (show n + rC n c p * n + rC n c (p + 1) < 260 by omega)
      obtain ⟨j1, j2, j3, j4⟩ := ix3 260 (show rC n c (p + 1) < 260 by omega)
      have hb1 := hT _ (show n + rC n c p * n + rC n c (p + 1) < 260 by omega)
      have hb2 := hT _ (show rC n c (p + 1) < 260 by omega)
      have hd := ((okT_iff.mp hO).1 _ r1).2 _ r2
      have hw := ((okT_iff.mp hO).1 _ r2).1
      unfold okD dT at hd
      rw [decide_eq_false (vC_ne hv (by omega)), Bool.false_or, Bool.and_eq_true, decide_eq_true_eq, decide_eq_true_eq] at hd
      refine Or.inl ⟨(nI (dyN tb n c (p + 1)).1, nI (dyN tb n c (p + 1)).2, nI (p + 1 + 1)), ?_, rfl, rfl, rfl⟩
      show Md_sumBy_l7 (nI n) _ _ (nI (p + 1)) σ = _
      unfold Md_sumBy_l7
      rw [if_neg (by rw [nI_leI (by omega) (by omega)]; omega), nI_pred, if_pos f2, f3, if_pos k2, k3, hR p (by omega), hR (p + 1) (by omega), pk_mul, Nat.mul_comm n (rC n c p), nI_add, nI_add, if_pos i2, i3, if_pos j2, j3, hb1.2, hb2.2, jb_small _ (by omega), jb_small _ (by omega), nI_add, pk_mul, nI_add, show nI (p + 1) + 1 = nI (p + 1 + 1) from nI_1 _, Nat.mul_comm _ (tb (rC n c (p + 1)))]
      rfl
    · obtain ⟨z1, z2, z3⟩ := z
      obtain ⟨e1, e2, e3⟩ := hz
      dsimp only at e1 e2 e3
      subst e1; subst e2; subst e3
      refine ⟨_, ?_, rfl⟩
      show Md_sumBy_l7 (nI n) _ _ (nI (n - 1 + 1)) σ = _
      unfold Md_sumBy_l7
      rw [if_pos (by rw [nI_leI (by omega) (by omega)]; omega)]
      rfl
  unfold Md_sumBy Md_sumBy0
  rw [k1, k2]
  rfl
/-- the best so far, in the reference -/
def RBq (tb : Nat → Nat) (n : Nat) (b : Option Nat) (x y : Int32) : Prop := match b with
  | none => x = -1 ∧ y = 1000000000
  | some c => x = nI c ∧ y = nI (sumN tb n c) ∧ sumN tb n c ≤ 49500 ∧ c < 2 ^ 31 ∧ vC n c = true
theorem TBb_of {σ' : MH} (h : TBb tb σ) (hf : Fx PRw σ σ') : TBb tb σ' := fun j hj => ⟨(h j hj).1, (hf 170 j (by unfold PRw; omega)).trans (h j hj).2⟩
theorem pw_bd (h6 : n ≤ 6) (h2 : 2 ≤ n) : n ^ (n - 1) ≤ 7776 := by
  rcases (show n = 2 ∨ n = 3 ∨ n = 4 ∨ n = 5 ∨ n = 6 by omega) with rfl | rfl | rfl | rfl | rfl <;> decide
theorem m_codes (h2 : 2 ≤ n) (h6 : n ≤ 6) (w : Int32) : Md_search_L70 (nI n) w σ (1, 1) = some (nI (n ^ (n - 1))) := by
  obtain ⟨r, k1, k2⟩ : ∃ r, Md_search_L70 (nI n) w σ (1, 1) = some r ∧ r = nI (n ^ (n - 1)) := by
    refine itr_n (n - 1) (fun (k : Nat) (z : Int32 × Int32) => z.1 = nI (n ^ k) ∧ z.2 = nI (k + 1)) _ ⟨rfl, rfl⟩ (fun k z hk hz => ?_) (fun z hz => ?_) (by show n - 1 < 1000000; omega)
    · obtain ⟨z1, z2⟩ := z
      obtain ⟨e1, e2⟩ := hz
      dsimp only at e1 e2
      subst e1; subst e2
      refine Or.inl ⟨(nI (n ^ (k + 1)), nI (k + 1 + 1)), ?_, rfl, rfl⟩
      show Md_search_l70 (nI n) w _ (nI (k + 1)) σ = _
      unfold Md_search_l70
      rw [if_neg (by rw [nI_leI (by omega) (by omega)]; omega), pk_mul, ← Nat.pow_succ, show nI (k + 1) + 1 = nI (k + 1 + 1) from nI_1 _]
    · obtain ⟨z1, z2⟩ := z
      obtain ⟨e1, e2⟩ := hz
      dsimp only at e1 e2
      subst e1; subst e2
      refine ⟨_, ?_, rfl⟩
      show Md_search_l70 (nI n) w _ (nI (n - 1 + 1)) σ = _
      unfold Md_search_l70
      rw [if_pos (by rw [nI_leI (by omega) (by omega)]; omega)]
  rw [k1, k2]
theorem m_L96 (hT : TBb tb σ) (h2 : 2 ≤ n) (h6 : n ≤ 6) (hO : okT tb n = true) (w : Int32) : ∃ r, Md_search_L96 (nI n) w (nI (n ^ (n - 1))) (-1, 1000000000, 0, σ) = some r ∧ RBq tb n (bestO tb n) r.1 r.2.1 ∧ Fx PRw σ r.2.2 := by
  have hN := pw_bd h6 h2
  refine itr_n (n ^ (n - 1)) (fun (i : Nat) (z : Int32 × Int32 × Int32 × MH) => RBq tb n (((List.range i).filter (vC n)).foldl (stepB tb n) none) z.1 z.2.1 ∧ z.2.2.1 = nI i ∧ Fx PRw σ z.2.2.2) _ ⟨⟨rfl, rfl⟩, rfl, Fx.rf⟩ (fun i z hi hz => ?_) (fun z hz => ?_) (by show n ^ (n - 1) < 1000000; omega)
  · obtain ⟨z1, z2, z3, z4⟩ := z
    obtain ⟨hB, e3, hf⟩ := hz
    dsimp only at hB e3 hf
    subst e3
    have efl : ((List.range (i + 1)).filter (vC n)).foldl (stepB tb n) none = if vC n i = true then stepB tb n (((List.range i).filter (vC n)).foldl (stepB tb n) none) i else ((List.range i).filter (vC n)).foldl (stepB tb n) none := by
      rw [List.range_succ, List.filter_append, List.foldl_append]
      cases h : vC n i with
      | false => rw [List.filter_cons_of_neg (by rw [h]; decide), if_neg (by decide)]; rfl
      | true => rw [List.filter_cons_of_pos h, if_pos rfl]; rfl
    rw [efl]
    generalize ((List.range i).filter (vC n)).foldl (stepB tb n) none = b at hB
    obtain ⟨σ1, k1, k2, k3⟩ := m_readsRow (σ := z4) (c := i) h2 h6 (by omega)
    have hf1 := hf.tr k2
    have hT1 := TBb_of hT hf1
    left
    show ∃ s', Md_search_l96 (nI n) w (nI (n ^ (n - 1))) z1 z2 (nI i) z4 = some (.inl s') ∧ _
    unfold Md_search_l96 Md_search_b136
    rw [if_neg (by rw [nI_leI (by omega) (by omega)]; omega), k1, Option.bind_some, show nI i + 1 = nI (i + 1) from nI_1 _]
    dsimp only
    cases hv : vC n i with
    | false =>
      rw [bI_f, if_pos rfl, if_neg (by decide)]
      exact ⟨_, rfl, hB, rfl, hf1⟩
    | true =>
      have hs := sumN_bd h2 h6 hO hv
      rw [bI_t, if_neg (show ¬ (1 : Int32) = 0 by decide), if_pos rfl, m_sumBy hT1 h2 h6 hO hv (k3 hv), Option.bind_some, Option.bind_some]
      cases b with
      | none =>
        obtain ⟨rfl, rfl⟩ := hB
        rw [if_pos ((ltL 1000000000 (by omega) (by decide)).mpr (by omega))]
        exact ⟨_, rfl, ⟨rfl, rfl, hs, by omega, hv⟩, rfl, hf1⟩
      | some d =>
        obtain ⟨rfl, rfl, b3, b4, b5⟩ := hB
        show ∃ s', _ ∧ RBq tb n (if sumN tb n i < sumN tb n d then some i else some d) _ _ ∧ _
        by_cases q : sumN tb n i < sumN tb n d
        · rw [if_pos ((nI_ltI (by omega) (by omega)).mpr q), if_pos q]
          exact ⟨_, rfl, ⟨rfl, rfl, hs, by omega, hv⟩, rfl, hf1⟩
        · rw [if_neg (mt (nI_ltI (by omega) (by omega)).mp q), if_neg q]
          exact ⟨_, rfl, ⟨rfl, rfl, b3, b4, b5⟩, rfl, hf1⟩
  · obtain ⟨z1, z2, z3, z4⟩ := z
    obtain ⟨hB, e3, hf⟩ := hz
    dsimp only at hB e3 hf
    subst e3
    refine ⟨(z1, z2, z4), ?_, hB, hf⟩
    show Md_search_l96 (nI n) w (nI (n ^ (n - 1))) z1 z2 (nI (n ^ (n - 1))) z4 = _
    unfold Md_search_l96
    rw [if_pos (Int32.le_refl _)]
theorem m_L169 (hT : TBb tb σ) (h6 : n ≤ 6) (hw : ∀ t, t < n → tb t ≤ 99) (w y : Int32) : Md_search_L169 (nI n) w y σ (0, 0) = some (nI (sumW tb n)) := by
  obtain ⟨r, k1, k2⟩ : ∃ r, Md_search_L169 (nI n) w y σ (0, 0) = some r ∧ r = nI (sumW tb n) := by
    refine itr_n n (fun (t : Nat) (z : Int32 × Int32) => z.1 = nI (sumW tb t) ∧ z.2 = nI t) _ ⟨rfl, rfl⟩ (fun t z ht hz => ?_) (fun z hz => ?_) (by show n < 1000000; omega)
    · obtain ⟨z1, z2⟩ := z
      obtain ⟨e1, e2⟩ := hz
      dsimp only at e1 e2
      subst e1; subst e2
      obtain ⟨i1, i2, i3, i4⟩ := ix3 260 (show t < 260 by omega)
      have h99 := hw t ht
      refine Or.inl ⟨(nI (sumW tb (t + 1)), nI (t + 1)), ?_, rfl, rfl⟩
      show Md_search_l169 (nI n) w y _ (nI t) σ = _
      unfold Md_search_l169
      rw [if_neg (by rw [nI_leI (by omega) (by omega)]; omega), if_pos i2, i3, (hT t (by omega)).2, jb_small _ (by omega), nI_add, show nI t + 1 = nI (t + 1) from nI_1 _]
      rfl
    · obtain ⟨z1, z2⟩ := z
      obtain ⟨e1, e2⟩ := hz
      dsimp only at e1 e2
      subst e1; subst e2
      refine ⟨_, ?_, rfl⟩
      show Md_search_l169 (nI n) w y _ (nI n) σ = _
      unfold Md_search_l169
      rw [if_pos (Int32.le_refl _)]
  rw [k1, k2]
end MQ
