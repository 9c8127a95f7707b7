/-! count, piece, mate, copies -/
theorem limN (x : Int32) (N : Nat) (hN : N < 2 ^ 31 := by decide) : (∃ w, w ≤ N ∧ x = nI w) ∨ (x < 0 ∨ (OfNat.ofNat N : Int32) < x) := by
  by_cases h1 : x < 0
  · exact Or.inr (Or.inl h1)
  · by_cases h2 : (OfNat.ofNat N : Int32) < x
    · exact Or.inr (Or.inr h2)
    · left
      have e : (OfNat.ofNat N : Int32).toInt = ((N : Nat) : Int) := nI_toInt hN
      obtain ⟨n, hn, rfl⟩ := nI_of2 (x := x) (n := N) e h1 (Int32.not_lt.mp h2)
      exact ⟨n, hn, rfl⟩
theorem limN_y {w : Nat} (N : Nat) (h : w ≤ N) (hN : N < 2 ^ 31 := by decide) (σ : MH) : Md_in (nI w) 0 (OfNat.ofNat N) σ = some 1 ∧ (¬ nI w < 0) ∧ nI w ≤ (OfNat.ofNat N : Int32) ∧ ¬ (OfNat.ofNat N : Int32) < nI w := by
  have a1 : ¬ nI w < 0 := nI_pos (by omega)
  have a2 : nI w ≤ (OfNat.ofNat N : Int32) := (leL N (by omega) hN).mpr h
  refine ⟨?_, a1, a2, fun q => ne_of_lt32 q a2⟩
  rw [m_in, decide_eq_true (Int32.not_lt.mp a1), decide_eq_true a2]; rfl
theorem limN_n {x N : Int32} (h : x < 0 ∨ N < x) (σ : MH) : Md_in x 0 N σ = some 0 := by
  rw [m_in]
  rcases h with h | h
  · rw [decide_eq_false (ne_of_lt32 h)]; rfl
  · rw [decide_eq_false (ne_of_lt32 h), Bool.and_false]; rfl
/-- a gone-through of twos: how many, the first -/
def qst (p : Nat → Nat → Bool) (i j : Nat) (s : Nat × Nat) : Nat × Nat := if p i j = true then (s.1 + 1, if s.1 = 0 then 12 * i + j else s.2) else s
def rowQ (p : Nat → Nat → Bool) (i n : Nat) (s : Nat × Nat) : Nat × Nat := fo (fun j s => qst p i j s) n s
def allQ (p : Nat → Nat → Bool) (n : Nat) : Nat × Nat := fo (fun i s => rowQ p i 12 s) n (0, 0)
theorem rowQ_bd {p : Nat → Nat → Bool} {i : Nat} (hi : i < 12) {s : Nat × Nat} {b : Nat} (h : s.1 ≤ b ∧ (0 < s.1 → s.2 < 144)) : ∀ n, n ≤ 12 → (rowQ p i n s).1 ≤ b + n ∧ (0 < (rowQ p i n s).1 → (rowQ p i n s).2 < 144)
  | 0, _ => ⟨h.1, h.2⟩
  | n + 1, hn => by
    obtain ⟨a, c⟩ := rowQ_bd (p := p) hi h n (by omega)
    show (qst p i n (rowQ p i n s)).1 ≤ _ ∧ _
    generalize hs : rowQ p i n s = z at a c
    have : rowQ p i (n + 1) s = qst p i n z := by rw [← hs]; rfl
    rw [this]
    unfold qst
    split
    · refine ⟨by dsimp only; omega, fun _ => ?_⟩
      dsimp only
      split
      · omega
      · exact c (by omega)
    · exact ⟨by omega, c⟩
theorem allQ_bd {p : Nat → Nat → Bool} : ∀ n, n ≤ 12 → (allQ p n).1 ≤ 12 * n ∧ (0 < (allQ p n).1 → (allQ p n).2 < 144)
  | 0, _ => ⟨Nat.le_refl _, fun h => absurd (show 0 < 0 from h) (by decide)⟩
  | n + 1, hn => by
    obtain ⟨a, c⟩ := allQ_bd (p := p) n (by omega)
    have := rowQ_bd (p := p) (i := n) (by omega) (s := allQ p n) ⟨a, c⟩ 12 (Nat.le_refl _)
    exact ⟨by show (rowQ p n 12 (allQ p n)).1 ≤ _; omega, this.2⟩
/-- nothing below a number -/
theorem rowQ_lo {p : Nat → Nat → Bool} {i : Nat} {s : Nat × Nat} : ∀ n, (∀ j, j < n → p i j = false) → rowQ p i n s = s
  | 0, _ => rfl
  | n + 1, h => by
    show qst p i n (rowQ p i n s) = s
    rw [rowQ_lo n (fun j hj => h j (by omega))]
    unfold qst
    rw [h n (by omega), if_neg (by decide)]
def sameR (A : Nat → Int32) (i j : Nat) : Bool := (List.range 8).all (fun h => decide (hgR A i h = hgR A j h))
theorem same_fe {f g : Nat → Int32} {F : Int32 → Option (Int32 ⊕ Int32)} (hs : ∀ h, h < 8 → F (nI h) = if f h = g h then some (.inl (nI (h + 1))) else some (.inr 0)) (he : F (nI 8) = some (.inr 1)) : itr F FU 0 = some (bI ((List.range 8).all (fun h => decide (f h = g h)))) := by
  obtain ⟨r, e, hr⟩ : ∃ r, itr F FU 0 = some r ∧ r = bI ((List.range 8).all (fun h => decide (f h = g h))) := by
    refine itr_n 8 (fun (k : Nat) (z : Int32) => z = nI k ∧ ∀ h, h < k → f h = g h) _ ⟨rfl, fun h hh => by omega⟩ (fun k z hk hz => ?_) (fun z hz => ?_)
    · obtain ⟨rfl, hz⟩ := hz
      by_cases q : f k = g k
      · exact Or.inl ⟨nI (k + 1), by rw [hs k hk, if_pos q], rfl, fun h hh => by
          by_cases z : h = k
          · rw [z]; exact q
          · exact hz h (by omega)⟩
      · refine Or.inr ⟨0, by rw [hs k hk, if_neg q], ?_⟩
        have : (List.range 8).all (fun h => decide (f h = g h)) = false := by
          rw [Bool.eq_false_iff]
          intro z
          exact q (of_decide_eq_true (List.all_eq_true.mp z k (List.mem_range.mpr hk)))
        rw [this]; rfl
    · obtain ⟨rfl, hz⟩ := hz
      refine ⟨1, he, ?_⟩
      have : (List.range 8).all (fun h => decide (f h = g h)) = true := List.all_eq_true.mpr (fun h hh => decide_eq_true (hz h (List.mem_range.mp hh)))
      rw [this]; rfl
  rw [e, hr]
theorem all_ext {f g : Nat → Bool} : ∀ {l : List Nat}, (∀ x, x ∈ l → f x = g x) → l.all f = l.all g
  | [], _ => rfl
  | a :: l, h => by
    rw [List.all_cons, List.all_cons, h a List.mem_cons_self, all_ext (fun x hx => h x (List.mem_cons_of_mem _ hx))]
section CALLS
variable {σ : MH} {A : Nat → Int32} {i j k n w : Nat}
theorem bzp_bI (b : Bool) : bzp (some (bI b)) = some (bI b) := by cases b <;> rfl
theorem rf9 (hi : i < 12) : rfv 9 i = 10 + i := by
  have := rfH ld1 hi
  rw [show 1 + 8 = 9 from rfl, show 1 + 9 + i = 10 + i by omega] at this
  exact this
theorem c_sameRow (a b : Nat) : Pz_sameRow a b σ = some (bI ((List.range 8).all (fun h => decide (σ.1 a h = σ.1 b h)))) := by
  have hl : Pz_sameRow_L2 a b σ 0 = some (bI ((List.range 8).all (fun h => decide (σ.1 a h = σ.1 b h)))) := by
    refine same_fe (fun h hh => ?_) ?_
    · obtain ⟨f1, f2, f3, f4⟩ := ix3 8 hh
      unfold Pz_sameRow_l2
      rw [if_neg f1, if_pos f2, f3, lit_nI 1, nI_add]
    · unfold Pz_sameRow_l2
      rw [if_pos (by decide)]
  unfold Pz_sameRow Pz_sameRow0
  rw [hl, Option.bind_some, bzp_bI]
theorem c_sameR (h : LD 1 A σ) (hi : i < 12) (hj : j < 12) : Pz_sameRow (10 + i) (10 + j) σ = some (bI (sameR A i j)) := by
  rw [c_sameRow]
  unfold sameR
  congr 2
  refine all_ext (fun x hx => ?_)
  have hx := List.mem_range.mp hx
  have e1 : σ.1 (10 + i) x = hgR A i x := h.2.2.1 i x hi hx
  have e2 : σ.1 (10 + j) x = hgR A j x := h.2.2.1 j x hj hx
  rw [e1, e2]
theorem m_areSame (hi : i < 12) (hj : j < 12) : Md_areSame (nI i) (nI j) σ = some (bI (sameR (σ.1 167) i j)) := by
  have hl : Md_areSame_L2 (nI i) (nI j) σ 0 = some (bI (sameR (σ.1 167) i j)) := by
    refine same_fe (fun h hh => ?_) ?_
    · obtain ⟨f1, f2, f3, f4⟩ := ix3 8 hh
      unfold Md_areSame_l2
      rw [if_neg f1, m_heightOf hi hh, Option.bind_some, m_heightOf hj hh, Option.bind_some, lit_nI 1, nI_add]
    · unfold Md_areSame_l2
      rw [if_pos (by decide)]
  unfold Md_areSame Md_areSame0
  rw [hl, Option.bind_some, bzp_bI]
def cpyP (A : Nat → Int32) (i j : Nat) : Bool := decide (i < j) && (toldR A i && (toldR A j && sameR A i j))
/-- the answer by the first two -/
def cpyA (A : Nat → Int32) (w i j : Nat) : Int32 := if w = 1 then nI i else if w = 2 then nI j else if A (72 + i) < A (72 + j) then nI i else nI j
def ansQ (f : Nat → Nat → Int32) (s : Nat × Nat) : Int32 := if s.1 = 0 then -2 else f (s.2 / 12) (s.2 % 12)
theorem c_copies1 (h : LD 1 A σ) (hw : w ≤ 3) (hi : i < 12) (hj : j < 12) (hij : i < j) {s : Nat × Nat} (hs : s.1 < 1000) : Pz_copies_l32 (nI w) (nI i) (nI s.1) (ansQ (cpyA A w) s) (nI j) σ = some (.inl (nI (qst (cpyP A) i j s).1, ansQ (cpyA A w) (qst (cpyP A) i j s), nI (j + 1))) := by
  obtain ⟨f1, f2, f3, f4⟩ := ix3 12 hi
  obtain ⟨g1, g2, g3, g4⟩ := ix3 12 hj
  have e1 : σ.1 8 i = A (72 + i) := (h.2.1 i hi).2.2.2.2.2.1
  have e2 : σ.1 8 j = A (72 + j) := (h.2.1 j hj).2.2.2.2.2.1
  unfold Pz_copies_l32 Pz_copies_b151 Pz_copies_b123 Pz_copies_b147 Pz_copies_b148
  rw [if_neg g1, c_isTold h hi, Option.bind_some, c_isTold h hj, Option.bind_some, if_pos f2, if_pos g2, f3, g3, rf9 hi, rf9 hj, c_sameR h hi hj, Option.bind_some, e1, e2]
  unfold qst cpyP
  rw [decide_eq_true hij, Bool.true_and]
  simp only [lit_nI 1, nI_add]
  cases toldR A i
  · rfl
  · cases toldR A j
    · rfl
    · cases sameR A i j
      · rfl
      · by_cases q : s.1 = 0
        · have e0 : (12 * i + j) / 12 = i := by omega
          have e0' : (12 * i + j) % 12 = j := by omega
          rw [q]
          simp only [bI, Bool.and_self, if_true, show ¬ ((1 : Int32) = 0) by decide, if_false, show nI 0 = 0 from rfl]
          unfold ansQ cpyA
          rw [if_neg (show ¬ (0 + 1 = 0) by omega)]
          dsimp only
          rw [e0, e0']
          have c1 : (nI w = nI 1) = (w = 1) := propext (nI_eq (by omega) (by decide))
          have c2 : (nI w = (2 : Int32)) = (w = 2) := propext (eqL 2 (by omega) (by decide))
          simp only [Pz_copies_b151, lit_nI 1, nI_add, c1, c2]
          by_cases w1 : w = 1
          · simp only [w1, if_true]
            split <;> rfl
          · by_cases w2 : w = 2
            · simp only [w2, if_true, show ¬ (2 = 1) by decide, if_false]
              split <;> rfl
            · simp only [w1, w2, if_false]
              by_cases q2 : A (72 + i) < A (72 + j)
              · rw [if_neg (ne_of_lt32 q2), if_pos q2]
              · rw [if_pos (Int32.not_lt.mp q2), if_neg q2]
        · have q0 : ¬ nI s.1 = 0 := fun z => q ((eqL 0 (by omega) (by decide)).mp z)
          simp only [bI, Bool.and_self, if_true, show ¬ ((1 : Int32) = 0) by decide, if_false, q0, q]
          unfold ansQ Pz_copies_b151
          rw [if_neg q, if_neg (by omega), lit_nI 1, nI_add]
theorem c_copies (h : LD 1 A σ) (hw : w ≤ 3) : Pz_copies (nI w) σ = some (if w = 0 then nI (allQ (cpyP A) 12).1 else ansQ (cpyA A w) (allQ (cpyP A) 12)) := by
  obtain ⟨y1, y2, y3, y4⟩ := limN_y 3 hw (σ := σ)
  have inner : ∀ i, i < 12 → ∀ s : Nat × Nat, s.1 ≤ 12 * i → ∃ r, Pz_copies_L32 (nI w) (nI i) σ (nI s.1, ansQ (cpyA A w) s, nI i + 1) = some r ∧ r = (nI (rowQ (cpyP A) i 12 s).1, ansQ (cpyA A w) (rowQ (cpyP A) i 12 s)) := by
    intro i hi s hs
    refine itr_h (fun (j : Nat) (z : Int32 × Int32 × Int32) => z = (nI (rowQ (cpyP A) i j s).1, ansQ (cpyA A w) (rowQ (cpyP A) i j s), nI j) ∧ i < j) _ (N := 12) (11 - i) (i + 1) FU _ (by omega) ⟨?_, by omega⟩ (fun j z hj hz => ?_) (fun z hz => ?_) (by show 11 - i < 1000000; omega)
    · rw [rowQ_lo (i + 1) (fun j hj => by unfold cpyP; rw [decide_eq_false (by omega)]; rfl), lit_nI 1, nI_add]
    · obtain ⟨rfl, hij⟩ := hz
      have hb : (rowQ (cpyP A) i j s).1 ≤ 144 + j := by
        have : ∀ n, (rowQ (cpyP A) i n s).1 ≤ 144 + n := by
          intro n
          induction n with
          | zero => show s.1 ≤ _; omega
          | succ n ih =>
            show (qst (cpyP A) i n (rowQ (cpyP A) i n s)).1 ≤ _
            unfold qst
            split
            · dsimp only; omega
            · omega
        exact this j
      exact Or.inl ⟨_, c_copies1 h hw hi hj hij (by omega), rfl, by omega⟩
    · obtain ⟨rfl, hij⟩ := hz
      refine ⟨_, ?_, rfl⟩
      show Pz_copies_l32 (nI w) (nI i) _ _ (nI 12) σ = _
      unfold Pz_copies_l32
      rw [if_pos (by decide)]
  obtain ⟨r, e, hr⟩ : ∃ r, Pz_copies_L19 (nI w) σ (0, -2, 0) = some r ∧ r = (nI (allQ (cpyP A) 12).1, ansQ (cpyA A w) (allQ (cpyP A) 12)) := by
    refine itr_n 12 (fun (i : Nat) (z : Int32 × Int32 × Int32) => z = (nI (allQ (cpyP A) i).1, ansQ (cpyA A w) (allQ (cpyP A) i), nI i)) _ rfl (fun i z hi hz => ?_) (fun z hz => ?_)
    · subst hz
      obtain ⟨f1, f2, f3, f4⟩ := ix3 12 hi
      obtain ⟨r, e, hr⟩ := inner i hi (allQ (cpyP A) i) (allQ_bd i (by omega)).1
      refine Or.inl ⟨(nI (allQ (cpyP A) (i + 1)).1, ansQ (cpyA A w) (allQ (cpyP A) (i + 1)), nI (i + 1)), ?_, rfl⟩
      show Pz_copies_l19 (nI w) _ _ (nI i) σ = _
      unfold Pz_copies_l19
      rw [if_neg f1, e, Option.bind_some, hr, lit_nI 1, nI_add]
      rfl
    · subst hz
      refine ⟨_, ?_, rfl⟩
      show Pz_copies_l19 (nI w) _ _ (nI 12) σ = _
      unfold Pz_copies_l19
      rw [if_pos (by decide)]
  unfold Pz_copies Pz_copies0
  rw [if_neg y2, if_pos y3, e, Option.bind_some, hr]
  by_cases q : w = 0
  · subst q; rfl
  · rw [if_neg (fun z => q ((eqL 0 (by omega) (by decide)).mp z)), if_neg q]
def frsQ (s : Nat × Nat) : Int32 := if s.1 = 0 then -1 else nI s.2
theorem m_copies1 (hi : i < 12) (hj : j < 12) (hij : i < j) {s : Nat × Nat} (hs : s.1 < 1000) (v1 : Int32) : Md_copies_l31 v1 (nI i) (nI s.1) (frsQ s) (nI j) σ = some (.inl (nI (qst (cpyP (σ.1 167)) i j s).1, frsQ (qst (cpyP (σ.1 167)) i j s), nI (j + 1))) := by
  obtain ⟨g1, g2, g3, g4⟩ := ix3 12 hj
  unfold Md_copies_l31 Md_copies_b91 Md_copies_b86
  rw [if_neg g1, m_isPerson hi, Option.bind_some, m_isPerson hj, Option.bind_some, m_areSame hi hj, Option.bind_some]
  unfold qst cpyP Md_copies_b91
  rw [decide_eq_true hij, Bool.true_and]
  simp only [lit_nI 1, nI_add]
  cases toldR (σ.1 167) i
  · rfl
  · cases toldR (σ.1 167) j
    · rfl
    · cases sameR (σ.1 167) i j
      · rfl
      · by_cases q : s.1 = 0
        · rw [q]
          simp only [bI, Bool.and_self, if_true, show ¬ ((1 : Int32) = 0) by decide, if_false, show nI 0 = 0 from rfl]
          unfold frsQ
          rw [if_neg (show ¬ (0 + 1 = 0) by omega), lit_nI 12, pk_mul, nI_add]
        · have q0 : ¬ nI s.1 = 0 := fun z => q ((eqL 0 (by omega) (by decide)).mp z)
          simp only [bI, Bool.and_self, if_true, show ¬ ((1 : Int32) = 0) by decide, if_false, q0, q]
          unfold frsQ
          rw [if_neg q, if_neg (by omega)]
theorem div12 {n : Nat} (h : n < 144) : nI n / 12 = nI (n / 12) ∧ jrem (nI n) 12 = nI (n % 12) := by
  refine ⟨pk_div (by omega) (by decide) (by decide), ?_⟩
  unfold jrem
  exact pk_rem (by omega) (by decide) (by decide)
theorem m_copies (hw : w ≤ 3) : Md_copies (nI w) σ = some (if w = 0 then nI (allQ (cpyP (σ.1 167)) 12).1 else ansQ (cpyA (σ.1 167) w) (allQ (cpyP (σ.1 167)) 12)) := by
  obtain ⟨y1, y2, y3, y4⟩ := limN_y 3 hw (σ := σ)
  have inner : ∀ i, i < 12 → ∀ s : Nat × Nat, s.1 ≤ 12 * i → ∃ r, Md_copies_L31 (nI w) (nI i) σ (nI s.1, frsQ s, nI i + 1) = some r ∧ r = (nI (rowQ (cpyP (σ.1 167)) i 12 s).1, frsQ (rowQ (cpyP (σ.1 167)) i 12 s)) := by
    intro i hi s hs
    refine itr_h (fun (j : Nat) (z : Int32 × Int32 × Int32) => z = (nI (rowQ (cpyP (σ.1 167)) i j s).1, frsQ (rowQ (cpyP (σ.1 167)) i j s), nI j) ∧ i < j) _ (N := 12) (11 - i) (i + 1) FU _ (by omega) ⟨?_, by omega⟩ (fun j z hj hz => ?_) (fun z hz => ?_) (by show 11 - i < 1000000; omega)
    · rw [rowQ_lo (i + 1) (fun j hj => by unfold cpyP; rw [decide_eq_false (by omega)]; rfl), lit_nI 1, nI_add]
    · obtain ⟨rfl, hij⟩ := hz
      have hb : (rowQ (cpyP (σ.1 167)) i j s).1 ≤ 144 + j := by
        have : ∀ n, (rowQ (cpyP (σ.1 167)) i n s).1 ≤ 144 + n := by
          intro n
          induction n with
          | zero => show s.1 ≤ _; omega
          | succ n ih =>
            show (qst (cpyP (σ.1 167)) i n (rowQ (cpyP (σ.1 167)) i n s)).1 ≤ _
            unfold qst
            split
            · dsimp only; omega
            · omega
        exact this j
      exact Or.inl ⟨_, m_copies1 hi hj hij (by omega) (nI w), rfl, by omega⟩
    · obtain ⟨rfl, hij⟩ := hz
      refine ⟨_, ?_, rfl⟩
      show Md_copies_l31 (nI w) (nI i) _ _ (nI 12) σ = _
      unfold Md_copies_l31
      rw [if_pos (by decide)]
  obtain ⟨r, e, hr⟩ : ∃ r, Md_copies_L18 (nI w) σ (0, -1, 0) = some r ∧ r = (nI (allQ (cpyP (σ.1 167)) 12).1, frsQ (allQ (cpyP (σ.1 167)) 12)) := by
    refine itr_n 12 (fun (i : Nat) (z : Int32 × Int32 × Int32) => z = (nI (allQ (cpyP (σ.1 167)) i).1, frsQ (allQ (cpyP (σ.1 167)) i), nI i)) _ rfl (fun i z hi hz => ?_) (fun z hz => ?_)
    · subst hz
      obtain ⟨f1, f2, f3, f4⟩ := ix3 12 hi
      obtain ⟨r, e, hr⟩ := inner i hi (allQ (cpyP (σ.1 167)) i) (allQ_bd i (by omega)).1
      refine Or.inl ⟨(nI (allQ (cpyP (σ.1 167)) (i + 1)).1, frsQ (allQ (cpyP (σ.1 167)) (i + 1)), nI (i + 1)), ?_, rfl⟩
      show Md_copies_l18 (nI w) _ _ (nI i) σ = _
      unfold Md_copies_l18
      rw [if_neg f1, e, Option.bind_some, hr, lit_nI 1, nI_add]
      rfl
    · subst hz
      refine ⟨_, ?_, rfl⟩
      show Md_copies_l18 (nI w) _ _ (nI 12) σ = _
      unfold Md_copies_l18
      rw [if_pos (by decide)]
  have y1' : Md_in (nI w) 0 3 σ = some 1 := y1
  unfold Md_copies Md_copies0
  rw [y1', Option.bind_some, if_neg (by decide), e, Option.bind_some, hr]
  have hbd := allQ_bd (p := cpyP (σ.1 167)) 12 (Nat.le_refl _)
  generalize allQ (cpyP (σ.1 167)) 12 = s at hbd
  by_cases q : w = 0
  · subst q; rfl
  · rw [if_neg (fun z => q ((eqL 0 (by omega) (by decide)).mp z)), if_neg q]
    unfold frsQ ansQ
    dsimp only
    by_cases q2 : s.1 = 0
    · rw [if_pos q2, if_pos q2, if_pos rfl]
    · have h144 := hbd.2 (by omega)
      obtain ⟨d1, d2⟩ := div12 h144
      have hm1 : ¬ nI s.2 = -1 := fun z => by
        have := congrArg Int32.toInt z
        rw [nI_toInt (by omega)] at this
        have e : (-1 : Int32).toInt = -1 := rfl
        omega
      have b1 := ixc (c := 72) (show s.2 / 12 < 12 by omega) (by decide)
      have b2 := ixc (c := 72) (show s.2 % 12 < 12 by omega) (by decide)
      rw [if_neg q2, if_neg q2, if_neg hm1, d1, d2, lit_nI 72, if_pos b1.1, if_pos b2.1, b1.2, b2.2]
      unfold cpyA
      have c1 : (nI w = (1 : Int32)) = (w = 1) := propext (eqL 1 (by omega) (by decide))
      have c2 : (nI w = (2 : Int32)) = (w = 2) := propext (eqL 2 (by omega) (by decide))
      simp only [c1, c2]
      by_cases w1 : w = 1
      · simp only [w1, if_true]
      · by_cases w2 : w = 2
        · simp only [w2, if_true, show ¬ (2 = 1) by decide, if_false]
        · simp only [w1, w2, if_false]
          by_cases q3 : σ.1 167 (72 + s.2 / 12) < σ.1 167 (72 + s.2 % 12)
          · rw [if_neg (ne_of_lt32 q3), if_pos q3]
          · rw [if_pos (Int32.not_lt.mp q3), if_neg q3]
theorem st_copies (hI : Inv σ) (x : Int32) : ∃ (r r' : Int32), Pz_copies x σ = some r ∧ Md_copies x σ = some r' ∧ r = r' ∧ Inv σ := by
  rcases limN x 3 with ⟨w, hw, rfl⟩ | h
  · exact ⟨_, _, c_copies hI.1 hw, m_copies hw, rfl, hI⟩
  · refine ⟨-1, -1, ?_, ?_, rfl, hI⟩
    · unfold Pz_copies Pz_copies0
      rcases h with h | h
      · rw [if_pos h]
      · have h' : (3 : Int32) < x := h
        rw [if_neg (by grind), if_neg (ne_of_lt32 h')]
    · unfold Md_copies Md_copies0
      have : Md_in x 0 3 σ = some 0 := limN_n h σ
      rw [this, Option.bind_some, if_pos rfl]
end CALLS
