/-! locks -/
def cnN (p : Nat → Bool) : Nat → Nat
  | 0 => 0
  | n + 1 => cnN p n + (if p n = true then 1 else 0)
def lowN (p : Nat → Bool) : Nat → Nat
  | 0 => 0
  | n + 1 => if cnN p n = 0 then n else lowN p n
theorem cnN_s (p : Nat → Bool) (n : Nat) : cnN p (n + 1) = cnN p n + (if p n = true then 1 else 0) := rfl
theorem lowN_s (p : Nat → Bool) (n : Nat) : lowN p (n + 1) = if cnN p n = 0 then n else lowN p n := rfl
theorem cnN_le (p : Nat → Bool) : ∀ n, cnN p n ≤ n
  | 0 => Nat.le_refl _
  | n + 1 => by
    have := cnN_le p n
    unfold cnN
    split <;> omega
theorem cnN_mono (p : Nat → Bool) : ∀ (n k : Nat), k ≤ n → cnN p k ≤ cnN p n
  | 0, k, h => by rw [show k = 0 by omega]; exact Nat.le_refl _
  | n + 1, k, h => by
    by_cases q : k = n + 1
    · rw [q]; exact Nat.le_refl _
    · have := cnN_mono p n k (by omega)
      show _ ≤ cnN p n + _
      omega
theorem lowN_lt (p : Nat → Bool) : ∀ n, 0 < n → lowN p n < n
  | 0, h => by omega
  | n + 1, _ => by
    unfold lowN
    split
    · omega
    · by_cases q : n = 0
      · subst q
        rename_i h
        exact absurd rfl h
      · have := lowN_lt p n (by omega)
        omega
theorem lowN_at {p : Nat → Bool} {k : Nat} (h0 : cnN p k = 0) (hp : p k = true) : ∀ n, k < n → lowN p n = k
  | 0, h => by omega
  | n + 1, h => by
    unfold lowN
    by_cases q : k = n
    · subst q
      rw [if_pos h0]
    · rw [if_neg, lowN_at h0 hp n (by omega)]
      have h1 : cnN p (k + 1) = 1 := by
        show cnN p k + _ = 1
        rw [h0, if_pos hp]
      have := cnN_mono p n (k + 1) (by omega)
      omega
def q3 (code : Nat → Nat) (p : Nat → Bool) (n : Nat) (s : Nat × Nat) : Nat × Nat := fo (fun c s => if p c = true then (s.1 + 1, if s.1 = 0 then code c else s.2) else s) n s
theorem q3_eq (code : Nat → Nat) (p : Nat → Bool) (s : Nat × Nat) : ∀ n, q3 code p n s = (s.1 + cnN p n, if s.1 = 0 then (if cnN p n = 0 then s.2 else code (lowN p n)) else s.2)
  | 0 => by
    show s = (s.1 + 0, if s.1 = 0 then (if 0 = 0 then s.2 else _) else s.2)
    simp
  | n + 1 => by
    show (if p n = true then ((q3 code p n s).1 + 1, if (q3 code p n s).1 = 0 then code n else (q3 code p n s).2) else q3 code p n s) = _
    rw [q3_eq code p s n, cnN_s, lowN_s]
    dsimp only
    by_cases hp : p n = true
    · rw [if_pos hp, if_pos hp]
      by_cases hs : s.1 = 0
      · rw [if_pos hs, if_pos hs, hs]
        by_cases hc : cnN p n = 0
        · simp [hc]
        · simp [hc]
      · simp [hs]; omega
    · rw [if_neg hp, if_neg hp, Nat.add_zero]
      by_cases hc : cnN p n = 0 <;> simp [hc]
section LOCKS
variable {L : LawF} {σ : MH} {A : Nat → Int32} {i j k n w a b c : Nat}
theorem and1 (s : Int32) (hk : k < 32) : jshr s (nI k) &&& 1 = bI (bt s k) := by
  have h0 : ∀ x : Int32, x &&& 1 = 1 ∨ x &&& 1 = 0 := fun x => by
    obtain ⟨m, hm, e⟩ := pk_andE x (m := 1) 1 (by decide)
    rw [e]
    match m, hm with
    | 0, _ => exact Or.inr rfl
    | 1, _ => exact Or.inl rfl
  unfold bt
  rcases h0 (jshr s (nI k)) with h | h
  · rw [h]; rfl
  · rw [h]; rfl
theorem cnt_set {p : Nat → Bool} : cntR (setR p 12) = nI (cnN p 12) := by
  unfold cntR
  refine fo_inv (P := fun k (n : Int32) => n = nI (cnN p k)) rfl (fun k n hk hn => ?_)
  rw [and1 _ (by omega), bt_setR (by omega) (by omega), decide_eq_true hk, Bool.true_and, hn, cnN_s]
  cases p k
  · exact Int32.add_zero _
  · exact nI_add _ 1
theorem up_set {p : Nat → Bool} : ∀ k, 12 ≤ k → k < 32 → bt (setR p 12) k = false := fun k h1 h2 => by
  rw [bt_setR (by omega) h2, decide_eq_false (by omega)]; rfl
theorem set0 {p : Nat → Bool} : (setR p 12 = 0) ↔ cnN p 12 = 0 := by
  constructor
  · intro h
    have := cnt_set (p := p)
    rw [h] at this
    have e : cntR 0 = nI 0 := by decide
    rw [e] at this
    have hl := cnN_le p 12
    exact ((nI_eq (by omega) (by omega)).mp this).symm
  · intro h
    refine setR_eq (by omega) (fun k hk => ?_) (fun k _ hk => bt_0 hk)
    rw [bt_0 (by omega)]
    have := cnN_mono p 12 (k + 1) (by omega)
    have e : cnN p (k + 1) = cnN p k + (if p k = true then 1 else 0) := rfl
    cases hp : p k
    · rfl
    · rw [hp, if_pos rfl] at e; omega
theorem c_lowest {p : Nat → Bool} (h : cnN p 12 ≠ 0) : Pz_lowestOf (setR p 12) σ = some (nI (lowN p 12)) := by
  obtain ⟨r, e, hr⟩ : ∃ r, Pz_lowestOf_L2 (setR p 12) σ 0 = some r ∧ r = nI (lowN p 12) := by
    refine itr_n 12 (fun (k : Nat) (z : Int32) => z = nI k ∧ cnN p k = 0) _ ⟨rfl, rfl⟩ (fun k z hk hz => ?_) (fun z hz => absurd hz.2 h)
    obtain ⟨rfl, hz⟩ := hz
    obtain ⟨f1, f2, f3, f4⟩ := ix3 12 hk
    have e0 : Pz_lowestOf_l2 (setR p 12) (nI k) σ = if p k = true then some (.inr (nI k)) else some (.inl (nI (k + 1))) := by
      unfold Pz_lowestOf_l2
      rw [if_neg f1, and1 _ (by omega), bt_setR (by omega) (by omega), decide_eq_true hk, Bool.true_and, lit_nI 1, nI_add]
      cases p k <;> rfl
    cases hp : p k
    · left
      rw [hp, if_neg (by decide)] at e0
      refine ⟨_, e0, rfl, ?_⟩
      rw [cnN_s, hz, hp, if_neg (by decide)]
    · right
      rw [hp, if_pos rfl] at e0
      exact ⟨_, e0, by rw [lowN_at hz hp 12 hk]⟩
  unfold Pz_lowestOf Pz_lowestOf0
  rw [e, hr]
  rfl
def abP (L : LawF) (A : Nat → Int32) (i j : Nat) : Bool := decide (i < j) && fpR L A i j
theorem c_fitsAbove (hD : LD 1 A σ) (wf : WF A) (hL : LawOK L) (hC : LawC L σ) (hi : i < 12) : ∃ σ', Pz_fitsAbove (nI i) σ = some (setR (abP L A i) 12, σ') ∧ Fx PJ σ σ' := by
  unfold Pz_fitsAbove Pz_fitsAbove0
  rw [c_isAlive hD wf hi, Option.bind_some]
  cases hl : liveR A i
  · refine ⟨σ, ?_, Fx.rf⟩
    rw [bI_f, if_pos rfl]
    have : setR (abP L A i) 12 = 0 := set0.mpr (by
      have : ∀ n, cnN (abP L A i) n = 0 := fun n => by
        induction n with
        | zero => rfl
        | succ n ih =>
          rw [cnN_s, ih, if_neg]
          unfold abP fpR
          rw [hl, Bool.false_and, Bool.and_false]; decide
      exact this 12)
    rw [this]
  · rw [bI_t, if_neg (show ¬ (1 : Int32) = 0 by decide)]
    have Ti := live_told hl
    obtain ⟨r, e, h1, h2⟩ : ∃ r, Pz_fitsAbove_L19 (nI i) (0, nI i + 1, σ) = some r ∧ r.1 = setR (abP L A i) 12 ∧ Fx PJ σ r.2 := by
      refine itr_h (fun (k : Nat) (z : Int32 × Int32 × MH) => z.1 = setR (abP L A i) k ∧ z.2.1 = nI k ∧ Fx PJ σ z.2.2 ∧ i < k) _ (N := 12) (11 - i) (i + 1) FU _ (by omega) ⟨?_, ?_, Fx.rf, by omega⟩ (fun k z hk hz => ?_) (fun z hz => ?_) (by show 11 - i < 1000000; omega)
      · have : ∀ n, n ≤ i + 1 → setR (abP L A i) n = 0 := fun n hn => by
          induction n with
          | zero => rfl
          | succ n ih =>
            rw [setR_s, ih (by omega), if_neg]
            unfold abP
            rw [decide_eq_false (by omega), Bool.false_and]; decide
        rw [this (i + 1) (by omega)]
      · show nI i + 1 = _
        rw [lit_nI 1, nI_add]
      · obtain ⟨z1, z2, z3⟩ := z
        obtain ⟨e1, e2, hf, hik⟩ := hz
        dsimp only at e1 e2 hf hik
        subst e1; subst e2
        obtain ⟨f1, f2, f3, f4⟩ := ix3 12 hk
        have hD' := LD_PJ ld1 hD hf
        left
        show ∃ s', Pz_fitsAbove_l19 (nI i) _ (nI k) z3 = _ ∧ _
        unfold Pz_fitsAbove_l19 Pz_fitsAbove_b58
        rw [if_neg f1, lit_nI 1, nI_add, c_isAlive hD' wf hk, Option.bind_some]
        cases hl2 : liveR A k
        · refine ⟨_, by rw [bI_f, if_pos rfl], ?_, rfl, hf, by omega⟩
          rw [setR_s, if_neg]
          unfold abP fpR fitP
          rw [hl2, Bool.false_and, Bool.and_false, Bool.and_false, Bool.and_false]; decide
        · obtain ⟨σ1, e1, g1⟩ := c_fit ld1 hD' wf hL (LawC_PJ hC hf) hi hk Ti (live_told hl2)
          rw [bI_t, if_neg (show ¬ (1 : Int32) = 0 by decide), e1, Option.bind_some]
          dsimp only
          have hp : abP L A i k = fitR L A i k := by
            unfold abP fpR fitP
            rw [hl, hl2, decide_eq_true hik, decide_eq_false (show ¬ k = i by omega)]
            rfl
          cases hq : fitR L A i k
          · refine ⟨_, by rw [bI_f, if_pos rfl], ?_, rfl, hf.tr g1, by omega⟩
            rw [setR_s, hp, hq, if_neg (by decide)]
          · refine ⟨_, by rw [bI_t, if_neg (show ¬ (1 : Int32) = 0 by decide)], ?_, rfl, hf.tr g1, by omega⟩
            rw [setR_s, hp, hq, if_pos rfl]
            rfl
      · obtain ⟨z1, z2, z3⟩ := z
        obtain ⟨e1, e2, hf, hik⟩ := hz
        dsimp only at e1 e2 hf
        subst e2
        refine ⟨(z1, z3), ?_, e1, hf⟩
        show Pz_fitsAbove_l19 (nI i) z1 (nI 12) z3 = _
        unfold Pz_fitsAbove_l19
        rw [if_pos (by decide)]
    refine ⟨r.2, ?_, h2⟩
    rw [e, Option.bind_some, h1]
/-- the third ones -/
def bothP (L : LawF) (A : Nat → Int32) (a b c : Nat) : Bool := abP L A a c && abP L A b c
theorem and_set {p q : Nat → Bool} : setR p 12 &&& setR q 12 = setR (fun c => p c && q c) 12 := by
  refine (setR_eq (by omega) (fun k hk => ?_) (fun k h1 h2 => ?_)).symm
  · rw [bt_and (by omega), bt_setR (by omega) (by omega), bt_setR (by omega) (by omega), decide_eq_true hk, Bool.true_and, Bool.true_and]
  · rw [bt_and h2, up_set k h1 h2]; rfl
def lk2 (L : LawF) (A : Nat → Int32) (a b : Nat) (s : Nat × Nat) : Nat × Nat := if abP L A a b = true then q3 (fun c => 144 * a + 12 * b + c) (bothP L A a b) 12 s else s
def lk1 (L : LawF) (A : Nat → Int32) (a n : Nat) (s : Nat × Nat) : Nat × Nat := fo (fun b s => lk2 L A a b s) n s
def lkS (L : LawF) (A : Nat → Int32) (n : Nat) : Nat × Nat := fo (fun a s => lk1 L A a 12 s) n (0, 0)
theorem lk2_bd (ha : a < 12) (hb : b < 12) {s : Nat × Nat} {m : Nat} (h : s.1 ≤ m ∧ (0 < s.1 → s.2 < 1728)) : (lk2 L A a b s).1 ≤ m + 12 ∧ (0 < (lk2 L A a b s).1 → (lk2 L A a b s).2 < 1728) := by
  unfold lk2
  split
  · rw [q3_eq]
    have h1 := cnN_le (bothP L A a b) 12
    have h2 := lowN_lt (bothP L A a b) 12 (by decide)
    refine ⟨by dsimp only; omega, fun h0 => ?_⟩
    dsimp only at h0 ⊢
    split
    · split
      · omega
      · omega
    · exact h.2 (by omega)
  · exact ⟨by omega, h.2⟩
theorem lk1_bd (ha : a < 12) {s : Nat × Nat} {m : Nat} (h : s.1 ≤ m ∧ (0 < s.1 → s.2 < 1728)) : ∀ n, n ≤ 12 → (lk1 L A a n s).1 ≤ m + 12 * n ∧ (0 < (lk1 L A a n s).1 → (lk1 L A a n s).2 < 1728)
  | 0, _ => h
  | n + 1, hn => by
    have := lk2_bd (L := L) (A := A) ha (show n < 12 by omega) (lk1_bd ha h n (by omega))
    exact ⟨by show (lk2 L A a n (lk1 L A a n s)).1 ≤ _; omega, this.2⟩
theorem lkS_bd : ∀ n, n ≤ 12 → (lkS L A n).1 ≤ 144 * n ∧ (0 < (lkS L A n).1 → (lkS L A n).2 < 1728)
  | 0, _ => ⟨Nat.le_refl _, fun h => absurd (show 0 < 0 from h) (by decide)⟩
  | n + 1, hn => by
    have := lk1_bd (L := L) (A := A) (show n < 12 by omega) (lkS_bd n (by omega)) 12 (Nat.le_refl _)
    exact ⟨by show (lk1 L A n 12 (lkS L A n)).1 ≤ _; omega, this.2⟩
def lkA (w : Nat) (s : Nat × Nat) : Int32 := if s.1 = 0 then -2 else if w = 1 then nI (s.2 / 144) else if w = 2 then nI (s.2 / 12 % 12) else nI (s.2 % 12)
theorem c_lock2 (hD : LD 1 A σ) (wf : WF A) (hL : LawOK L) (hC : LawC L σ) (hw : w ≤ 3) (ha : a < 12) (hb : b < 12) {s : Nat × Nat} (hs : s.1 ≤ 2000) : ∃ σ', Pz_locks_l40 (nI w) (nI a) (setR (abP L A a) 12) (nI s.1) (lkA w s) (nI b) σ = some (.inl (nI (lk2 L A a b s).1, lkA w (lk2 L A a b s), nI (b + 1), σ')) ∧ Fx PJ σ σ' := by
  obtain ⟨f1, f2, f3, f4⟩ := ix3 12 hb
  unfold Pz_locks_l40 Pz_locks_b105 Pz_locks_b106 Pz_locks_b114
  rw [if_neg f1, and1 _ (by omega), bt_setR (by omega) (by omega), decide_eq_true hb, Bool.true_and]
  unfold lk2
  have c0 : (nI s.1 = (0 : Int32)) = (s.1 = 0) := propext (eqL 0 (by omega) (by decide))
  have c1 : (nI w = (1 : Int32)) = (w = 1) := propext (eqL 1 (by omega) (by decide))
  have c2 : (nI w = (2 : Int32)) = (w = 2) := propext (eqL 2 (by omega) (by decide))
  cases hp : abP L A a b
  · refine ⟨σ, ?_, Fx.rf⟩
    rw [bI_f, if_pos rfl, if_neg (by decide), lit_nI 1, nI_add]
  · obtain ⟨σ', e, g⟩ := c_fitsAbove hD wf hL hC hb
    refine ⟨σ', ?_, g⟩
    rw [bI_t, if_neg (show ¬ (1 : Int32) = 0 by decide), e, Option.bind_some, if_pos rfl, q3_eq]
    dsimp only
    rw [and_set]
    have hB : setR (fun c => abP L A a c && abP L A b c) 12 = setR (bothP L A a b) 12 := rfl
    rw [hB, c_bitCount up_set, Option.bind_some, cnt_set, nI_add]
    simp only [c0, c1, c2]
    have h0 : (setR (bothP L A a b) 12 = 0) = (cnN (bothP L A a b) 12 = 0) := propext set0
    simp only [h0]
    have hl := lowN_lt (bothP L A a b) 12 (by decide)
    by_cases q : s.1 = 0
    · rw [if_pos q]
      by_cases q2 : cnN (bothP L A a b) 12 = 0
      · rw [if_pos q2, lit_nI 1, nI_add]
        unfold lkA
        rw [q, q2]
        rfl
      · rw [if_neg q2, c_lowest q2, Option.bind_some, lit_nI 1, nI_add]
        unfold lkA
        dsimp only
        rw [if_neg (show ¬ s.1 + cnN (bothP L A a b) 12 = 0 by omega), if_pos q, if_neg q2, show (144 * a + 12 * b + lowN (bothP L A a b) 12) / 144 = a by omega, show (144 * a + 12 * b + lowN (bothP L A a b) 12) / 12 % 12 = b by omega, show (144 * a + 12 * b + lowN (bothP L A a b) 12) % 12 = lowN (bothP L A a b) 12 by omega]
        by_cases w1 : w = 1
        · rw [if_pos w1, if_pos w1, nI_add]
        · rw [if_neg w1, if_neg w1]
          by_cases w2 : w = 2
          · rw [if_pos w2, if_pos w2, Option.bind_some, nI_add, nI_add]
          · rw [if_neg w2, if_neg w2, Option.bind_some, Option.bind_some, nI_add, nI_add]
    · rw [if_neg q, lit_nI 1, nI_add]
      unfold lkA
      dsimp only
      rw [if_neg q, if_neg (show ¬ s.1 + cnN (bothP L A a b) 12 = 0 by omega), if_neg q]
theorem c_locks (hD : LD 1 A σ) (wf : WF A) (hL : LawOK L) (hC : LawC L σ) (hw : w ≤ 3) : ∃ σ', Pz_locks (nI w) σ = some (if w = 0 then nI (lkS L A 12).1 else lkA w (lkS L A 12), σ') ∧ Fx PJ σ σ' := by
  obtain ⟨y1, y2, y3, y4⟩ := limN_y 3 hw (σ := σ)
  have inner : ∀ a, a < 12 → ∀ (s : Nat × Nat) (τ : MH), s.1 ≤ 144 * a → LD 1 A τ → LawC L τ → ∃ r, Pz_locks_L40 (nI w) (nI a) (setR (abP L A a) 12) (nI s.1, lkA w s, nI a + 1, τ) = some r ∧ r.1 = nI (lk1 L A a 12 s).1 ∧ r.2.1 = lkA w (lk1 L A a 12 s) ∧ Fx PJ τ r.2.2 := by
    intro a ha s τ hs hDt hCt
    refine itr_h (fun (b : Nat) (z : Int32 × Int32 × Int32 × MH) => z.1 = nI (lk1 L A a b s).1 ∧ z.2.1 = lkA w (lk1 L A a b s) ∧ z.2.2.1 = nI b ∧ Fx PJ τ z.2.2.2) _ (N := 12) (11 - a) (a + 1) FU _ (by omega) ?_ (fun b z hb hz => ?_) (fun z hz => ?_) (by show 11 - a < 1000000; omega)
    · have : ∀ n, n ≤ a + 1 → lk1 L A a n s = s := fun n hn => by
        induction n with
        | zero => rfl
        | succ n ih =>
          show lk2 L A a n (lk1 L A a n s) = s
          rw [ih (by omega)]
          unfold lk2 abP
          rw [decide_eq_false (by omega), Bool.false_and, if_neg (by decide)]
      rw [this (a + 1) (by omega)]
      exact ⟨rfl, rfl, by dsimp only; rw [lit_nI 1, nI_add], Fx.rf⟩
    · obtain ⟨z1, z2, z3, z4⟩ := z
      obtain ⟨e1, e2, e3, hf⟩ := hz
      dsimp only at e1 e2 e3 hf
      subst e1; subst e2; subst e3
      have hbd : (lk1 L A a b s).1 ≤ 2000 := by
        have : ∀ n, n ≤ 12 → (lk1 L A a n s).1 ≤ 144 * a + 12 * n := fun n hn => by
          induction n with
          | zero => show s.1 ≤ _; omega
          | succ n ih =>
            have ih := ih (by omega)
            show (lk2 L A a n (lk1 L A a n s)).1 ≤ _
            unfold lk2
            split
            · rw [q3_eq]
              have h1 := cnN_le (bothP L A a n) 12
              dsimp only; omega
            · omega
        have := this b (by omega)
        omega
      obtain ⟨σ', e, g⟩ := c_lock2 (LD_PJ ld1 hDt hf) wf hL (LawC_PJ hCt hf) hw ha hb hbd
      exact Or.inl ⟨_, e, rfl, rfl, rfl, hf.tr g⟩
    · obtain ⟨z1, z2, z3, z4⟩ := z
      obtain ⟨e1, e2, e3, hf⟩ := hz
      dsimp only at e1 e2 e3 hf
      subst e3
      refine ⟨(z1, z2, z4), ?_, e1, e2, hf⟩
      show Pz_locks_l40 (nI w) (nI a) _ z1 z2 (nI 12) z4 = _
      unfold Pz_locks_l40
      rw [if_pos (by decide)]
  obtain ⟨r, e, r1, r2, r3⟩ : ∃ r, Pz_locks_L19 (nI w) (0, -2, 0, σ) = some r ∧ r.1 = nI (lkS L A 12).1 ∧ r.2.1 = lkA w (lkS L A 12) ∧ Fx PJ σ r.2.2 := by
    refine itr_n 12 (fun (a : Nat) (z : Int32 × Int32 × Int32 × MH) => z.1 = nI (lkS L A a).1 ∧ z.2.1 = lkA w (lkS L A a) ∧ z.2.2.1 = nI a ∧ Fx PJ σ z.2.2.2) _ ⟨rfl, rfl, rfl, Fx.rf⟩ (fun a z ha hz => ?_) (fun z hz => ?_)
    · obtain ⟨z1, z2, z3, z4⟩ := z
      obtain ⟨e1, e2, e3, hf⟩ := hz
      dsimp only at e1 e2 e3 hf
      subst e1; subst e2; subst e3
      obtain ⟨f1, f2, f3, f4⟩ := ix3 12 ha
      have hD' := LD_PJ ld1 hD hf
      have hC' := LawC_PJ hC hf
      obtain ⟨τ, et, gt⟩ := c_fitsAbove hD' wf hL hC' ha
      obtain ⟨r, er, h1, h2, h3⟩ := inner a ha (lkS L A a) τ (lkS_bd a (by omega)).1 (LD_PJ ld1 hD' gt) (LawC_PJ hC' gt)
      refine Or.inl ⟨(nI (lkS L A (a + 1)).1, lkA w (lkS L A (a + 1)), nI (a + 1), r.2.2), ?_, rfl, rfl, rfl, (hf.tr gt).tr h3⟩
      show Pz_locks_l19 (nI w) _ _ (nI a) z4 = _
      unfold Pz_locks_l19
      rw [if_neg f1, et, Option.bind_some]
      dsimp only
      rw [er, Option.bind_some, h1, h2, lit_nI 1, nI_add]
      rfl
    · obtain ⟨z1, z2, z3, z4⟩ := z
      obtain ⟨e1, e2, e3, hf⟩ := hz
      dsimp only at e1 e2 e3 hf
      subst e3
      refine ⟨(z1, z2, z4), ?_, e1, e2, hf⟩
      show Pz_locks_l19 (nI w) z1 z2 (nI 12) z4 = _
      unfold Pz_locks_l19
      rw [if_pos (by decide)]
  refine ⟨r.2.2, ?_, r3⟩
  unfold Pz_locks Pz_locks0
  rw [if_neg y2, if_pos y3, e, Option.bind_some, r1, r2]
  by_cases q : w = 0
  · subst q; rfl
  · rw [if_neg (fun z => q ((eqL 0 (by omega) (by decide)).mp z)), if_neg q]
theorem m_lock3 (h6 : ∀ i, i < 12 → σ.1 186 i = fitOfR L A i) (ha : a < 12) (hb : b < 12) (hab : a < b) {s : Nat × Nat} (hs : s.1 ≤ 2000) (v1 : Int32) : Md_locks_L48 v1 (nI a) (nI b) σ (nI s.1, frsQ s, nI b + 1) = some (nI (lk2 L A a b s).1, frsQ (lk2 L A a b s)) := by
  obtain ⟨f1, f2, f3, f4⟩ := ix3 12 ha
  obtain ⟨g1, g2, g3, g4⟩ := ix3 12 hb
  have hst : ∀ (c : Nat) (s : Nat × Nat), c < 12 → s.1 ≤ 2100 → b < c → Md_locks_l48 v1 (nI a) (nI b) (nI s.1) (frsQ s) (nI c) σ = some (.inl (nI (if (abP L A a b && bothP L A a b c) = true then (s.1 + 1, if s.1 = 0 then 144 * a + 12 * b + c else s.2) else s).1, frsQ (if (abP L A a b && bothP L A a b c) = true then (s.1 + 1, if s.1 = 0 then 144 * a + 12 * b + c else s.2) else s), nI (c + 1))) := by
    intro c s hc hs hbc
    obtain ⟨k1, k2, k3, k4⟩ := ix3 12 hc
    have c0 : (nI s.1 = (0 : Int32)) = (s.1 = 0) := propext (eqL 0 (by omega) (by decide))
    unfold Md_locks_l48 Md_locks_b126 Md_locks_b131 bothP abP
    rw [if_neg k1, if_pos f2, f3, if_pos g2, g3, h6 a ha, h6 b hb, m_has, Option.bind_some, m_has, Option.bind_some, m_has, Option.bind_some, bt_fitOf hb, bt_fitOf hc, bt_fitOf hc, decide_eq_true hab, decide_eq_true hbc, decide_eq_true (show a < c by omega), Bool.true_and, Bool.true_and, Bool.true_and]
    simp only [c0, lit_nI 144, lit_nI 12, lit_nI 1, pk_mul, nI_add]
    cases fpR L A a b
    · rfl
    · cases fpR L A a c
      · rfl
      · cases fpR L A b c
        · rfl
        · simp only [bI, Bool.and_self, if_true, show (nI 1 = nI 0) = False by simp; decide, if_false]
          by_cases q : s.1 = 0
          · rw [if_pos q, if_pos q]
            unfold frsQ
            rw [if_neg (show ¬ s.1 + 1 = 0 by omega)]
            rfl
          · rw [if_neg q, if_neg q]
            unfold frsQ
            rw [if_neg q, if_neg (show ¬ s.1 + 1 = 0 by omega)]
            rfl
  obtain ⟨r, e, hr⟩ : ∃ r, Md_locks_L48 v1 (nI a) (nI b) σ (nI s.1, frsQ s, nI b + 1) = some r ∧ r = (nI (q3 (fun c => 144 * a + 12 * b + c) (fun c => abP L A a b && bothP L A a b c) 12 s).1, frsQ (q3 (fun c => 144 * a + 12 * b + c) (fun c => abP L A a b && bothP L A a b c) 12 s)) := by
    refine itr_h (fun (c : Nat) (z : Int32 × Int32 × Int32) => z = (nI (q3 (fun c => 144 * a + 12 * b + c) (fun c => abP L A a b && bothP L A a b c) c s).1, frsQ (q3 (fun c => 144 * a + 12 * b + c) (fun c => abP L A a b && bothP L A a b c) c s), nI c) ∧ b < c) _ (N := 12) (11 - b) (b + 1) FU _ (by omega) ⟨?_, by omega⟩ (fun c z hc hz => ?_) (fun z hz => ?_) (by show 11 - b < 1000000; omega)
    · have : ∀ n, n ≤ b + 1 → q3 (fun c => 144 * a + 12 * b + c) (fun c => abP L A a b && bothP L A a b c) n s = s := fun n hn => by
        induction n with
        | zero => rfl
        | succ n ih =>
          show (if (abP L A a b && bothP L A a b n) = true then ((q3 (fun c => 144 * a + 12 * b + c) (fun c => abP L A a b && bothP L A a b c) n s).1 + 1, if (q3 (fun c => 144 * a + 12 * b + c) (fun c => abP L A a b && bothP L A a b c) n s).1 = 0 then 144 * a + 12 * b + n else (q3 (fun c => 144 * a + 12 * b + c) (fun c => abP L A a b && bothP L A a b c) n s).2) else q3 (fun c => 144 * a + 12 * b + c) (fun c => abP L A a b && bothP L A a b c) n s) = s
          rw [if_neg, ih (by omega)]
          unfold bothP
          unfold abP
          rw [show decide (b < n) = false from decide_eq_false (by omega), Bool.false_and, Bool.and_false, Bool.and_false]; decide
      rw [this (b + 1) (by omega), lit_nI 1, nI_add]
    · obtain ⟨rfl, hbc⟩ := hz
      have hq := q3_eq (fun c => 144 * a + 12 * b + c) (fun c => abP L A a b && bothP L A a b c) s c
      have hle := cnN_le (fun c => abP L A a b && bothP L A a b c) c
      refine Or.inl ⟨_, hst c (q3 (fun c => 144 * a + 12 * b + c) (fun c => abP L A a b && bothP L A a b c) c s) hc (by rw [hq]; dsimp only; omega) hbc, rfl, by omega⟩
    · obtain ⟨rfl, hbc⟩ := hz
      refine ⟨_, ?_, rfl⟩
      show Md_locks_l48 v1 (nI a) (nI b) _ _ (nI 12) σ = _
      unfold Md_locks_l48
      rw [if_pos (by decide)]
  rw [e, hr]
  unfold lk2
  cases hp : abP L A a b
  · rw [if_neg (by decide)]
    have : q3 (fun c => 144 * a + 12 * b + c) (fun c => false && bothP L A a b c) 12 s = s := by
      unfold q3
      exact fo_id (fun c s _ => if_neg (by show ¬ (false && _) = true; rw [Bool.false_and]; decide)) s
    rw [this]
  · rw [if_pos rfl]
    simp only [Bool.true_and]
theorem m_locks (hL : LawOK L) (hM : LawM L σ) (hw : w ≤ 3) : ∃ σ', Md_locks (nI w) σ = some (if w = 0 then nI (lkS L (σ.1 167) 12).1 else lkA w (lkS L (σ.1 167) 12), σ') ∧ Fx PT σ σ' := by
  have y1 : Md_in (nI w) 0 3 σ = some 1 := (limN_y 3 hw (σ := σ)).1
  obtain ⟨τ, e1, p1, h6, -⟩ := m_laysFits hL hM
  refine ⟨τ, ?_, p1⟩
  generalize σ.1 167 = A at h6
  have inner : ∀ a, a < 12 → ∀ s : Nat × Nat, s.1 ≤ 144 * a → ∃ r, Md_locks_L35 (nI w) (nI a) τ (nI s.1, frsQ s, nI a + 1) = some r ∧ r = (nI (lk1 L A a 12 s).1, frsQ (lk1 L A a 12 s)) := by
    intro a ha s hs
    refine itr_h (fun (b : Nat) (z : Int32 × Int32 × Int32) => z = (nI (lk1 L A a b s).1, frsQ (lk1 L A a b s), nI b) ∧ a < b) _ (N := 12) (11 - a) (a + 1) FU _ (by omega) ⟨?_, by omega⟩ (fun b z hb hz => ?_) (fun z hz => ?_) (by show 11 - a < 1000000; omega)
    · have : ∀ n, n ≤ a + 1 → lk1 L A a n s = s := fun n hn => by
        induction n with
        | zero => rfl
        | succ n ih =>
          show lk2 L A a n (lk1 L A a n s) = s
          rw [ih (by omega)]
          unfold lk2 abP
          rw [decide_eq_false (by omega), Bool.false_and, if_neg (by decide)]
      rw [this (a + 1) (by omega), lit_nI 1, nI_add]
    · obtain ⟨rfl, hab⟩ := hz
      obtain ⟨f1, f2, f3, f4⟩ := ix3 12 hb
      have hbd : (lk1 L A a b s).1 ≤ 2000 := by
        have : ∀ n, n ≤ 12 → (lk1 L A a n s).1 ≤ 144 * a + 12 * n := fun n hn => by
          induction n with
          | zero => show s.1 ≤ _; omega
          | succ n ih =>
            have ih := ih (by omega)
            show (lk2 L A a n (lk1 L A a n s)).1 ≤ _
            unfold lk2
            split
            · rw [q3_eq]
              have h1 := cnN_le (bothP L A a n) 12
              dsimp only; omega
            · omega
        have := this b (by omega)
        omega
      refine Or.inl ⟨(nI (lk1 L A a (b + 1) s).1, frsQ (lk1 L A a (b + 1) s), nI (b + 1)), ?_, rfl, by omega⟩
      show Md_locks_l35 (nI w) (nI a) _ _ (nI b) τ = _
      unfold Md_locks_l35
      rw [if_neg f1, m_lock3 h6 ha hb hab hbd, Option.bind_some, lit_nI 1, nI_add]
      rfl
    · obtain ⟨rfl, hab⟩ := hz
      refine ⟨_, ?_, rfl⟩
      show Md_locks_l35 (nI w) (nI a) _ _ (nI 12) τ = _
      unfold Md_locks_l35
      rw [if_pos (by decide)]
  obtain ⟨r, e, hr⟩ : ∃ r, Md_locks_L22 (nI w) τ (0, -1, 0) = some r ∧ r = (nI (lkS L A 12).1, frsQ (lkS L A 12)) := by
    refine itr_n 12 (fun (a : Nat) (z : Int32 × Int32 × Int32) => z = (nI (lkS L A a).1, frsQ (lkS L A a), nI a)) _ rfl (fun a z ha hz => ?_) (fun z hz => ?_)
    · subst hz
      obtain ⟨f1, f2, f3, f4⟩ := ix3 12 ha
      obtain ⟨r, e, hr⟩ := inner a ha (lkS L A a) (lkS_bd a (by omega)).1
      refine Or.inl ⟨(nI (lkS L A (a + 1)).1, frsQ (lkS L A (a + 1)), nI (a + 1)), ?_, rfl⟩
      show Md_locks_l22 (nI w) _ _ (nI a) τ = _
      unfold Md_locks_l22
      rw [if_neg f1, e, Option.bind_some, hr, lit_nI 1, nI_add]
      rfl
    · subst hz
      refine ⟨_, ?_, rfl⟩
      show Md_locks_l22 (nI w) _ _ (nI 12) τ = _
      unfold Md_locks_l22
      rw [if_pos (by decide)]
  unfold Md_locks Md_locks0
  rw [y1, Option.bind_some, if_neg (show ¬ (1 : Int32) = 0 by decide), e1, Option.bind_some, e, Option.bind_some, hr]
  have hbd := lkS_bd (L := L) (A := A) 12 (Nat.le_refl _)
  generalize lkS L A 12 = s at hbd
  have c0 : (nI w = (0 : Int32)) = (w = 0) := propext (eqL 0 (by omega) (by decide))
  have c1 : (nI w = (1 : Int32)) = (w = 1) := propext (eqL 1 (by omega) (by decide))
  have c2 : (nI w = (2 : Int32)) = (w = 2) := propext (eqL 2 (by omega) (by decide))
  simp only [c0, c1, c2]
  by_cases q : w = 0
  · rw [if_pos q, if_pos q]
  · rw [if_neg q, if_neg q]
    unfold frsQ lkA
    by_cases q2 : s.1 = 0
    · rw [if_pos q2, if_pos q2, if_pos rfl]
    · have hm1 : ¬ nI s.2 = -1 := fun z => by
        have := congrArg Int32.toInt z
        have h9 := hbd.2 (by omega)
        rw [nI_toInt (by omega)] at this
        have e : (-1 : Int32).toInt = -1 := rfl
        omega
      have h9 := hbd.2 (by omega)
      have d1 : nI s.2 / 144 = nI (s.2 / 144) := pk_div (by omega) (by decide) (by decide)
      have d2 : nI s.2 / 12 = nI (s.2 / 12) := pk_div (by omega) (by decide) (by decide)
      have d3 : jrem (nI (s.2 / 12)) 12 = nI (s.2 / 12 % 12) := by
        unfold jrem
        exact pk_rem (by omega) (by decide) (by decide)
      have d4 : jrem (nI s.2) 12 = nI (s.2 % 12) := by
        unfold jrem
        exact pk_rem (by omega) (by decide) (by decide)
      rw [if_neg q2, if_neg q2, if_neg hm1, d1, d2, d3, d4]
      by_cases w1 : w = 1
      · rw [if_pos w1, if_pos w1]
      · rw [if_neg w1, if_neg w1]
        by_cases w2 : w = 2
        · rw [if_pos w2, if_pos w2]
        · rw [if_neg w2, if_neg w2]
theorem st_locks (hI : Inv σ) (x : Int32) : ∃ (r r' : Int32) (σ1 : MH) (σ2 : MH), Pz_locks x σ = some (r, σ1) ∧ Md_locks x σ1 = some (r', σ2) ∧ r = r' ∧ Inv σ2 := by
  rcases limN x 3 with ⟨w, hw, rfl⟩ | h
  · obtain ⟨-, L, hL, hC, hM⟩ := hI.2.2.2.2
    obtain ⟨σ1, e1, g1⟩ := c_locks hI.1 hI.2.1 hL hC hw
    have rt := row_PX (PJ_PX g1)
    obtain ⟨σ2, e2, g2⟩ := m_locks hL (LawM_of hM (fun b k a c => g1 b k (by unfold PJ; omega)) (g1 166 13 (by unfold PJ; omega))) hw
    rw [rt] at e2
    exact ⟨_, _, σ1, σ2, e1, e2, rfl, Inv_q (Inv_q hI (PJ_PX g1)) (PT_PX g2)⟩
  · refine ⟨-1, -1, σ, σ, ?_, ?_, rfl, hI⟩
    · unfold Pz_locks Pz_locks0
      rcases h with h | h
      · rw [if_pos h]
      · have h' : (3 : Int32) < x := h
        rw [if_neg (by grind), if_neg (ne_of_lt32 h')]
    · unfold Md_locks Md_locks0
      have : Md_in x 0 3 σ = some 0 := limN_n h σ
      rw [this, Option.bind_some, if_pos rfl]
end LOCKS
