/-! dies -/
theorem fo_pt2 (P : Int32 → Bool) (v : Int32) (f0 : Nat → Int32) : ∀ n, fo (fun k f => if P (f k) = true then upd f k v else f) n f0 = fun m => if m < n ∧ P (f0 m) = true then v else f0 m
  | 0 => funext fun m => by rw [if_neg (by omega)]; rfl
  | n + 1 => by
    show (if P (fo (fun k f => if P (f k) = true then upd f k v else f) n f0 n) = true then upd (fo (fun k f => if P (f k) = true then upd f k v else f) n f0) n v else fo (fun k f => if P (f k) = true then upd f k v else f) n f0) = _
    have e := fo_pt2 P v f0 n
    have en : fo (fun k f => if P (f k) = true then upd f k v else f) n f0 n = f0 n := by
      rw [e]
      exact if_neg (by omega)
    rw [show P (fo (fun k f => if P (f k) = true then upd f k v else f) n f0 n) = P (f0 n) from congrArg P en, e]
    funext m
    by_cases hp : P (f0 n) = true
    · rw [if_pos hp, upd_at]
      by_cases hm : m = n
      · subst hm
        rw [if_pos rfl, if_pos ⟨by omega, hp⟩]
      · rw [if_neg hm]
        by_cases h2 : m < n ∧ P (f0 m) = true
        · rw [if_pos h2, if_pos ⟨by omega, h2.2⟩]
        · rw [if_neg h2, if_neg (fun q => h2 ⟨by omega, q.2⟩)]
    · rw [if_neg hp]
      by_cases h2 : m < n ∧ P (f0 m) = true
      · rw [if_pos h2, if_pos ⟨by omega, h2.2⟩]
      · rw [if_neg h2, if_neg]
        rintro ⟨q1, q2⟩
        by_cases hm : m = n
        · subst hm; exact hp q2
        · exact h2 ⟨by omega, q2⟩
def notB (i : Nat) : Int32 := jshl 1 (nI i) ^^^ (-1 : Int32)
theorem bt_not {s : Int32} {i k : Nat} (hi : i < 32) (hk : k < 32) : bt (s &&& notB i) k = (bt s k && !decide (k = i)) := bt_off hi hk
/-- the holders when i dies, its heir y -/
def heirF (f : Nat → Int32) (i : Nat) (y : Int32) : Nat → Int32 := fun m => if m < 12 ∧ decide (f m = nI i) = true then y else f m
section CALLS
variable {σ : MH} {A B : Nat → Int32} {t i j k n : Nat}
theorem c_buryL (ht : isLd t) (y : Int32) : Land_bury_L17 t (nI i) y (0, σ) = some (sR σ (t + 6) (heirF (σ.1 (t + 6)) i y)) := by
  have hl : Land_bury_L17 t (nI i) y (0, σ) = some (sR σ (t + 6) (fo (fun k f => if decide (f k = nI i) = true then upd f k y else f) 12 (σ.1 (t + 6)))) := by
    have e0 : ((0 : Int32), σ) = ((fun (n : Nat) (f : Nat → Int32) => (nI n, sR σ (t + 6) f)) 0 (σ.1 (t + 6))) := by
      show _ = (nI 0, sR σ (t + 6) (σ.1 (t + 6)))
      rw [sR_self]; rfl
    rw [e0]
    refine (itr_fo (f := fun s : Int32 × MH => Land_bury_l17 t (nI i) y s.1 s.2) (mk := fun (n : Nat) (f : Nat → Int32) => (nI n, sR σ (t + 6) f)) (g := fun k f => if decide (f k = nI i) = true then upd f k y else f) (fin := fun f => sR σ (t + 6) f) (P := fun _ _ => True) (N := 12) (m := FU) (s0 := σ.1 (t + 6)) trivial (fun k f hk _ => ⟨?_, trivial⟩) (fun f _ => ?_) (by decide)).1
    · show Land_bury_l17 t (nI i) y (nI k) (sR σ (t + 6) f) = _
      obtain ⟨f1, f2, f3, f4⟩ := ix3 12 hk
      unfold Land_bury_l17 Land_bury_b40
      rw [if_neg f1, if_pos f2, f3, (rf2 ht).2.2.2.2.2.1, sR_at, sI_sR, sR_sR, sR_at, lit_nI 1, nI_add]
      by_cases q : f k = nI i
      · rw [if_pos q, if_pos (decide_eq_true q)]
      · rw [if_neg q, if_neg (by simpa using q)]
    · show Land_bury_l17 t (nI i) y (nI 12) (sR σ (t + 6) f) = _
      unfold Land_bury_l17
      rw [if_pos (by decide)]
  rw [hl, fo_pt2 (fun x => decide (x = nI i)) y]
  rfl
/-- one dies unwed -/
def dies0 (A : Nat → Int32) (i : Nat) : Nat → Int32 := upd (upd A (48 + i) 0) 109 (A 109 &&& notB i)
/-- one dies that is WED to j -/
def dies2 (A : Nat → Int32) (i j : Nat) : Nat → Int32 := upd (upd (upd (partR A i j) (48 + j) (A (48 + j) ||| A (48 + i))) (48 + i) 0) 109 (A 109 &&& notB i)
theorem dies0_o (n : Nat) (h : n ≠ 48 + i) (h2 : n ≠ 109) : dies0 A i n = A n := by
  unfold dies0
  rw [upd_at, if_neg h2, upd_at, if_neg h]
theorem dies2_o (n : Nat) (h : n ≠ 48 + i) (h2 : n ≠ 109) (h3 : n ≠ 48 + j) (h4 : n ≠ 24 + i) (h5 : n ≠ 24 + j) : dies2 A i j n = A n := by
  unfold dies2 partR
  rw [upd_at, if_neg h2, upd_at, if_neg h, upd_at, if_neg h3, upd_at, if_neg h5, upd_at, if_neg h4]
/-- the common part of the two -/
theorem LD_dies {σ' : MH} (h : LD 1 A σ) (hi : i < 12) (Ti : toldR A i = true) {y : Int32} (hy : y = -2 ∨ ∃ j, j < 12 ∧ j ≠ i ∧ y = nI j)
    (hB : ∀ n, (n < 24 ∨ (36 ≤ n ∧ n < 48) ∨ (60 ≤ n ∧ n ≠ 109)) → B n = A n) (hw : ∀ k, k < 12 → σ'.1 4 k = B (24 + k)) (hl : σ'.1 1 1 = B 109) (hbi : B (48 + i) = 0)
    (hbj : ∀ k, k < 12 → k ≠ i → ∀ m, m < 12 → bt (B (48 + k)) m = (bt (A (48 + k)) m || (decide (y = nI k) && bt (A (48 + i)) m)))
    (hTy : ∀ j, j < 12 → y = nI j → toldR A j = true)
    (hh : ∀ k, k < 12 → σ'.1 7 k = if σ.1 7 k = nI i then y else σ.1 7 k) (hz : ∀ b k, b ≠ 4 → b ≠ 7 → (b ≠ 1 ∨ k ≠ 1) → 1 ≤ b → b < 37 → σ'.1 b k = σ.1 b k) : LD 1 B σ' := by
  refine ⟨⟨?_, ?_, ?_, ?_⟩, fun k hk => ?_, fun m n hm hn => ?_, fun k m hk hm q => ?_, fun k hk => ?_⟩
  · rw [hz _ _ (by omega) (by omega) (by omega) (by omega) (by omega), hB _ (by omega)]; exact h.1.1
  · exact hl
  · rw [hz _ _ (by omega) (by omega) (by omega) (by omega) (by omega), hB _ (by omega)]; exact h.1.2.2.1
  · rw [hz _ _ (by omega) (by omega) (by omega) (by omega) (by omega), hB _ (by omega)]; exact h.1.2.2.2
  · obtain ⟨e1, e2, e3, e4, e5, e6, e7, e8⟩ := h.2.1 k hk
    refine ⟨?_, ?_, hw k hk, ?_, ?_, ?_, ?_, ?_⟩
    · rw [hz _ _ (by omega) (by omega) (by omega) (by omega) (by omega), hB _ (by omega)]; exact e1
    · rw [hz _ _ (by omega) (by omega) (by omega) (by omega) (by omega), hB _ (by omega)]; exact e2
    · rw [hz _ _ (by omega) (by omega) (by omega) (by omega) (by omega), hB _ (by omega)]; exact e4
    · rw [hz _ _ (by omega) (by omega) (by omega) (by omega) (by omega), hB _ (by omega)]; exact e5
    · rw [hz _ _ (by omega) (by omega) (by omega) (by omega) (by omega), hB _ (by omega)]; exact e6
    · rw [hz _ _ (by omega) (by omega) (by omega) (by omega) (by omega), hB _ (by omega)]; exact e7
    · rw [hz _ _ (by omega) (by omega) (by omega) (by omega) (by omega), hB _ (by omega)]; exact e8
  · rw [hz _ _ (by omega) (by omega) (by omega) (by omega) (by omega), hB _ (by omega)]; exact h.2.2.1 m n hm hn
  · rw [hB _ (by omega)] at q
    rw [hz _ _ (by omega) (by omega) (by omega) (by omega) (by omega), hB _ (by omega)]; exact h.2.2.2.1 k m hk hm q
  · obtain ⟨h1, h2⟩ := h.2.2.2.2 k hk
    have hh := hh k hk
    have h1 : ∀ i, i < 12 → (σ.1 7 k = nI i ↔ hldR A i k = true) := h1
    have h2 : σ.1 7 k = -2 ∨ ∃ i, i < 12 ∧ σ.1 7 k = nI i := h2
    show HR B k (σ'.1 7 k)
    rw [hh]
    generalize σ.1 7 k = x at h1 h2
    have eT : ∀ m, toldR B m = toldR A m := fun m => by unfold toldR; rw [hB 108 (by omega)]
    constructor
    · intro m hm
      by_cases qx : x = nI i
      · rw [if_pos qx]
        have xi := (h1 i hi).mp qx
        unfold hldR at xi
        rw [if_pos Ti] at xi
        by_cases qm : m = i
        · subst qm
          unfold hldR
          rw [eT, if_pos Ti, hbi, bt_0 (by omega)]
          constructor
          · intro q
            rcases hy with hy | ⟨j, hj, hji, hy⟩
            · rw [hy] at q; exact absurd q.symm (nI_m2 (by omega))
            · rw [hy] at q
              exact absurd ((nI_eq (by omega) (by omega)).mp q) hji
          · intro q; cases q
        · have nx : ¬ hldR A m k = true := fun q => by
            have := (h1 m hm).mpr q
            rw [qx] at this
            exact qm ((nI_eq (by omega) (by omega)).mp this).symm
          unfold hldR at nx ⊢
          rw [eT]
          by_cases qT : toldR A m = true
          · rw [if_pos qT] at nx ⊢
            rw [hbj m hm qm k hk, xi, Bool.and_true]
            constructor
            · intro q; rw [decide_eq_true q, Bool.or_true]
            · intro q
              simp only [Bool.or_eq_true, decide_eq_true_eq] at q
              rcases q with q | q
              · exact absurd q nx
              · exact q
          · rw [if_neg qT] at nx ⊢
            constructor
            · intro q; exact absurd (hTy m hm q) qT
            · intro q; exact absurd q nx
      · rw [if_neg qx]
        have xi : ¬ bt (A (48 + i)) k = true := fun q => qx ((h1 i hi).mpr (by unfold hldR; rw [if_pos Ti]; exact q))
        rw [h1 m hm]
        unfold hldR
        rw [eT]
        by_cases qT : toldR A m = true
        · rw [if_pos qT, if_pos qT]
          by_cases qm : m = i
          · subst qm
            rw [hbi, bt_0 (by omega)]
            constructor
            · intro q; exact absurd q xi
            · intro q; cases q
          · rw [hbj m hm qm k hk, Bool.eq_false_iff.mpr xi, Bool.and_false, Bool.or_false]
        · rw [if_neg qT, if_neg qT]
    · split
      · rcases hy with hy | ⟨j, hj, hji, hy⟩
        · exact Or.inl hy
        · exact Or.inr ⟨j, hj, hy⟩
      · exact h2
theorem WF_dies (w : WF A) (hi : i < 12) (hB : ∀ n, (n < 24 ∨ (36 ≤ n ∧ n < 48) ∨ (60 ≤ n ∧ n ≠ 109)) → B n = A n) (hl : B 109 = A 109 &&& notB i)
    (hw : ∀ k, k < 12 → B (24 + k) = -2 ∨ (k ≠ i ∧ B (24 + k) = A (24 + k) ∧ ∀ m, m < 12 → A (24 + k) = nI m → m ≠ i ∧ B (24 + m) = A (24 + m)))
    (hup : ∀ k, k < 12 → ∀ m, 12 ≤ m → m < 32 → bt (B (48 + k)) m = false) (hown : ∀ k, k < 12 → k ≠ i → bt (A (48 + k)) k = true → bt (B (48 + k)) k = true) : WF B := by
  have eb : ∀ k, k < 32 → bt (B 109) k = (bt (A 109) k && !decide (k = i)) := fun k hk => by
    rw [hl]; exact bt_not (by omega) hk
  have hv : ∀ k, k < 12 → liveR B k = (liveR A k && !decide (k = i)) := fun k hk => by
    unfold liveR
    rw [hB 108 (by omega), eb k (by omega), Bool.and_assoc]
  refine ⟨fun k h1 h2 => ?_, fun k hk => ?_, ?_, ?_, fun k hk => ?_⟩
  · rw [hB 108 (by omega), eb k h2, (w.1 k h1 h2).2]
    exact ⟨(w.1 k h1 h2).1, rfl⟩
  · rw [hB 108 (by omega), eb k (by omega)]
    intro q
    simp only [Bool.and_eq_true] at q
    exact w.2.1 k hk q.1
  · rw [hB 110 (by omega)]; exact w.2.2.1
  · rw [hB 111 (by omega)]; exact w.2.2.2.1
  · obtain ⟨p1, p2, p3, p4, p5, p6, ⟨g, m, q1, q2, q3, q4, q5⟩, p8, p9⟩ := w.2.2.2.2 k hk
    refine ⟨?_, ?_, ?_, ?_, hup k hk, ?_, ?_, ?_, ?_⟩
    · rw [hB _ (by omega)]; exact p1
    · rw [hB _ (by omega)]; exact p2
    · rcases hw k hk with q | ⟨n1, n2, n3⟩
      · exact Or.inl q
      · rcases p3 with q | ⟨j, a, b, c, d, e, f⟩
        · rw [n2]; exact Or.inl q
        · obtain ⟨m1, m2⟩ := n3 j a c
          refine Or.inr ⟨j, a, b, by rw [n2]; exact c, by rw [m2]; exact d, ?_, ?_⟩
          · rw [hv k hk, e, decide_eq_false n1]; rfl
          · rw [hv j a, f, decide_eq_false m1]; rfl
    · rw [hB _ (by omega)]; exact p4
    · rw [hB _ (by omega)]; exact p6
    · exact ⟨g, m, q1, q2, by rw [hB _ (by omega)]; exact q3, by rw [hB _ (by omega)]; exact q4, fun j hj => by rw [hB _ (by omega)]; exact q5 j hj⟩
    · intro h hh
      rw [hB _ (by omega)]; exact p8 h hh
    · intro q
      rw [hv k hk] at q
      simp only [Bool.and_eq_true, Bool.not_eq_true', decide_eq_false_iff_not] at q
      exact hown k hk q.2 (p9 q.1)
theorem m_b59 (hi : i < 12) : Md_dies_b59 (nI i) σ = some (1, sR σ 167 (upd (upd (σ.1 167) (48 + i) 0) 109 (σ.1 167 109 &&& notB i))) := by
  have a1 := ixc (c := 48) hi (by decide)
  unfold Md_dies_b59 notB
  rw [lit_nI 48, if_pos a1.1, a1.2]
  simp only [sI_sR, sR_sR, sR_at, upd_at, show ¬ 109 = 48 + i by omega, if_false]
theorem st_dies (hI : Inv σ) (a0 : Int32) : ∃ (r r' : Int32) (σ1 : MH) (σ2 : MH), Pz_dies a0 σ = some (r, σ1) ∧ Md_dies a0 σ1 = some (r', σ2) ∧ r = r' ∧ Inv σ2 := by
  rcases tw_ix a0 with ⟨i, hi, rfl⟩ | h
  · have w := hI.2.1
    have hD := hI.1
    obtain ⟨f1, f2, f3, f4⟩ := ix3 12 hi
    have a1 := ixc (c := 24) hi (by decide)
    have a2 := ixc (c := 48) hi (by decide)
    cases hl : liveR (σ.1 167) i
    · refine ⟨0, 0, σ, σ, ?_, ?_, rfl, hI⟩
      · unfold Pz_dies Pz_dies0
        rw [c_isAlive hD w hi, hl, Option.bind_some, bI_f, if_pos rfl]; rfl
      · unfold Md_dies Md_dies0
        rw [m_lives hi, hl, Option.bind_some, bI_f, if_pos rfl]; rfl
    · have Ti := live_told hl
      have ew : σ.1 4 i = σ.1 167 (24 + i) := (hD.2.1 i hi).2.2.1
      have eC : Pz_dies (nI i) σ = ((Land_separate 1 (nI i) (σ.1 167 (24 + i)) (sR σ 7 (heirF (σ.1 7) i (σ.1 167 (24 + i))))).bind fun σ11 => some (1, sI σ11 1 1 (σ11.1 1 1 &&& notB i))) := by
        unfold Pz_dies Pz_dies0 Land_bury Land_bury0
        rw [c_isAlive hD w hi, hl, Option.bind_some, bI_t, if_neg (by decide), v_isNumber hi, Option.bind_some, if_neg (by decide), if_pos f2, f3, (rf2 ld1).2.2.1, show 1 + 3 = 4 from rfl, ew, c_buryL ld1, Option.bind_some]
        cases Land_separate 1 (nI i) (σ.1 167 (24 + i)) (sR σ (1 + 6) (heirF (σ.1 (1 + 6)) i (σ.1 167 (24 + i)))) <;> rfl
      have eM : ∀ τ : MH, τ.1 167 = σ.1 167 → Md_dies (nI i) τ = bzo (if σ.1 167 (24 + i) = -2 then Md_dies_b59 (nI i) τ else ((Md_parts (nI i) τ).bind fun σ7 => if inb (48 + σ.1 167 (24 + i)) 1936 = true then if inb (nI (48 + i)) 1936 = true then Md_dies_b59 (nI i) (sI σ7 167 (48 + σ.1 167 (24 + i)).toNatClampNeg ((σ7.1 167 (48 + σ.1 167 (24 + i)).toNatClampNeg) ||| (σ7.1 167 (48 + i)))) else none else none)) := by
        intro τ ht
        unfold Md_dies Md_dies0
        rw [m_lives hi, ht, hl, Option.bind_some, bI_t, if_neg (by decide), lit_nI 24, if_pos a1.1, a1.2]
        have := a2.2
        rw [nI_add] at this
        simp only [lit_nI 48, nI_add, this]
        rfl
      by_cases q : σ.1 167 (24 + i) = -2
      · have sF := c_separateF (σ := sR σ 7 (heirF (σ.1 7) i (-2))) (t := 1) (x := nI i) (y := -2) (Or.inl (by decide))
        rw [q, sF, Option.bind_some] at eC
        have F : Fx (fun b _ => 1 ≤ b ∧ b < 37) σ (sI (sR σ 7 (heirF (σ.1 7) i (-2))) 1 1 ((sR σ 7 (heirF (σ.1 7) i (-2))).1 1 1 &&& notB i)) := (Fx_row (fun _ => by omega)).tr (Fx_sI (by omega))
        have e11 : (sR σ 7 (heirF (σ.1 7) i (-2))).1 1 1 = σ.1 167 109 := by rw [sR_ne _ _ (by decide)]; exact hD.1.2.1
        rw [e11] at eC F
        have hLD : LD 1 (dies0 (σ.1 167) i) (sI (sR σ 7 (heirF (σ.1 7) i (-2))) 1 1 (σ.1 167 109 &&& notB i)) := by
          refine LD_dies hD hi Ti (y := -2) (Or.inl rfl) (fun n hn => dies0_o n (by omega) (by omega)) (fun k hk => ?_) ?_ ?_ (fun k hk hki m hm => ?_) (fun j hj q => absurd q.symm (nI_m2 (by omega))) (fun k hk => ?_) (fun b k h1 h2 h3 h4 h5 => ?_)
          · rw [sI_ne (by omega), sR_ne _ _ (by decide), dies0_o _ (by omega) (by omega)]
            exact (hD.2.1 k hk).2.2.1
          · rw [sI_same]
            unfold dies0
            rw [upd_at, if_pos rfl]
          · unfold dies0
            rw [upd_at, if_neg (by omega), upd_at, if_pos rfl]
          · rw [dies0_o _ (by omega) (by omega), decide_eq_false (fun q => nI_m2 (show k < 2 ^ 31 by omega) q.symm), Bool.false_and, Bool.or_false]
          · rw [sI_ne (by omega), sR_at]
            unfold heirF
            by_cases qk : σ.1 7 k = nI i
            · rw [if_pos ⟨hk, decide_eq_true qk⟩, if_pos qk]
            · rw [if_neg (fun z => qk (of_decide_eq_true z.2)), if_neg qk]
          · rw [sI_ne (by omega), sR_ne _ _ h2]
        have hWF : WF (dies0 (σ.1 167) i) := by
          refine WF_dies w hi (fun n hn => dies0_o n (by omega) (by omega)) ?_ (fun k hk => ?_) (fun k hk m h1 h2 => ?_) (fun k hk hki hb => ?_)
          · unfold dies0
            rw [upd_at, if_pos rfl]
          · by_cases qk : k = i
            · subst qk
              left
              rw [dies0_o _ (by omega) (by omega)]; exact q
            · right
              refine ⟨qk, dies0_o _ (by omega) (by omega), fun m hm e => ⟨fun qm => ?_, dies0_o _ (by omega) (by omega)⟩⟩
              subst qm
              rcases w_wed w k hk with z | ⟨j, a, b, c, d, -⟩
              · rw [z] at e; exact nI_m2 (by omega) e.symm
              · rw [e] at c
                have := (nI_eq (by omega) (by omega)).mp c
                subst this
                rw [q] at d; exact nI_m2 (by omega) d.symm
          · by_cases qk : k = i
            · subst qk
              unfold dies0
              rw [upd_at, if_neg (by omega), upd_at, if_pos rfl]
              exact bt_0 h2
            · rw [dies0_o _ (by omega) (by omega)]
              exact (w.2.2.2.2 k hk).2.2.2.2.1 m h1 h2
          · rw [dies0_o _ (by omega) (by omega)]; exact hb
        generalize sI (sR σ 7 (heirF (σ.1 7) i (-2))) 1 1 (σ.1 167 109 &&& notB i) = τ at eC F hLD
        have rt := row_two F
        refine ⟨1, 1, τ, sR τ 167 (dies0 (σ.1 167) i), eC, ?_, rfl, Inv_two hI F hLD hWF⟩
        rw [eM τ rt, if_pos q, m_b59 hi, rt]
        rfl
      · rcases w_wed w i hi with z | ⟨j, hj, hji, ei, ej, li, lj⟩
        · exact absurd z q
        have a3 := ixc (c := 48) hj (by decide)
        have sT := c_separate (σ := sR σ 7 (heirF (σ.1 7) i (nI j))) ld1 hi hj
        rw [ei, sT, Option.bind_some] at eC
        have F : Fx (fun b _ => 1 ≤ b ∧ b < 37) σ (sI (sI (sI (sR σ 7 (heirF (σ.1 7) i (nI j))) (1 + 3) i (-2)) (1 + 3) j (-2)) 1 1 ((sI (sI (sR σ 7 (heirF (σ.1 7) i (nI j))) (1 + 3) i (-2)) (1 + 3) j (-2)).1 1 1 &&& notB i)) := (((Fx_row (fun _ => by omega)).tr (Fx_sI (by omega))).tr (Fx_sI (by omega))).tr (Fx_sI (by omega))
        have e11 : (sI (sI (sR σ 7 (heirF (σ.1 7) i (nI j))) (1 + 3) i (-2)) (1 + 3) j (-2)).1 1 1 = σ.1 167 109 := by
          rw [sI_obj (by decide), sI_obj (by decide), sR_ne _ _ (by decide)]; exact hD.1.2.1
        rw [e11] at eC F
        have hp : ∀ k, k < 12 → partR (σ.1 167) i j (24 + k) = if k = j ∨ k = i then -2 else σ.1 167 (24 + k) := fun k hk => by
          unfold partR
          rw [upd_at, upd_at]
          by_cases q1 : k = j
          · rw [if_pos (by omega), if_pos (Or.inl q1)]
          · rw [if_neg (by omega)]
            by_cases q2 : k = i
            · rw [if_pos (by omega), if_pos (Or.inr q2)]
            · rw [if_neg (by omega), if_neg (by omega)]
        have d24 : ∀ k, k < 12 → dies2 (σ.1 167) i j (24 + k) = if k = j ∨ k = i then -2 else σ.1 167 (24 + k) := fun k hk => by
          unfold dies2
          rw [upd_at, if_neg (by omega), upd_at, if_neg (by omega), upd_at, if_neg (by omega)]
          exact hp k hk
        have d48 : ∀ k, k < 12 → dies2 (σ.1 167) i j (48 + k) = if k = i then 0 else if k = j then σ.1 167 (48 + j) ||| σ.1 167 (48 + i) else σ.1 167 (48 + k) := fun k hk => by
          unfold dies2
          rw [upd_at, if_neg (by omega), upd_at]
          by_cases q1 : k = i
          · rw [if_pos (by omega), if_pos q1]
          · rw [if_neg (by omega), if_neg q1, upd_at]
            by_cases q2 : k = j
            · rw [if_pos (by omega), if_pos q2]
            · rw [if_neg (by omega), if_neg q2, partR_o _ (by omega) hi hj]
        have hLD : LD 1 (dies2 (σ.1 167) i j) (sI (sI (sI (sR σ 7 (heirF (σ.1 7) i (nI j))) (1 + 3) i (-2)) (1 + 3) j (-2)) 1 1 (σ.1 167 109 &&& notB i)) := by
          refine LD_dies hD hi Ti (y := nI j) (Or.inr ⟨j, hj, hji, rfl⟩) (fun n hn => dies2_o n (by omega) (by omega) (by omega) (by omega) (by omega)) (fun k hk => ?_) ?_ ?_ (fun k hk hki m hm => ?_) (fun m hm z => ?_) (fun k hk => ?_) (fun b k h1 h2 h3 h4 h5 => ?_)
          · rw [d24 k hk, sI_ne (by omega), sI_at]
            by_cases q1 : k = j
            · rw [if_pos ⟨rfl, q1⟩, if_pos (Or.inl q1)]
            · rw [if_neg (fun z => q1 z.2), sI_at]
              by_cases q2 : k = i
              · rw [if_pos ⟨rfl, q2⟩, if_pos (Or.inr q2)]
              · rw [if_neg (fun z => q2 z.2), if_neg (by omega), sR_ne _ _ (by decide)]
                exact (hD.2.1 k hk).2.2.1
          · rw [sI_same]
            unfold dies2
            rw [upd_at, if_pos rfl]
          · rw [d48 i hi, if_pos rfl]
          · rw [d48 k hk, if_neg hki]
            by_cases q1 : k = j
            · subst q1
              rw [if_pos rfl, bt_or (by omega), decide_eq_true rfl, Bool.true_and]
            · rw [if_neg q1, decide_eq_false (fun z => q1 ((nI_eq (by omega) (by omega)).mp z).symm), Bool.false_and, Bool.or_false]
          · have := (nI_eq (by omega) (by omega)).mp z
            subst this
            exact live_told lj
          · rw [sI_ne (by omega), sI_ne (by omega), sI_ne (by omega), sR_at]
            unfold heirF
            by_cases qk : σ.1 7 k = nI i
            · rw [if_pos ⟨hk, decide_eq_true qk⟩, if_pos qk]
            · rw [if_neg (fun z => qk (of_decide_eq_true z.2)), if_neg qk]
          · rw [sI_ne (by omega), sI_ne (by omega), sI_ne (by omega), sR_ne _ _ h2]
        have hWF : WF (dies2 (σ.1 167) i j) := by
          refine WF_dies w hi (fun n hn => dies2_o n (by omega) (by omega) (by omega) (by omega) (by omega)) ?_ (fun k hk => ?_) (fun k hk m h1 h2 => ?_) (fun k hk hki hb => ?_)
          · unfold dies2
            rw [upd_at, if_pos rfl]
          · rw [d24 k hk]
            by_cases qk : k = j ∨ k = i
            · left; rw [if_pos qk]
            · right
              refine ⟨by omega, if_neg qk, fun m hm e => ?_⟩
              rcases w_wed w k hk with z | ⟨j', a, b, c, d, -⟩
              · rw [z] at e; exact absurd e.symm (nI_m2 (by omega))
              · rw [e] at c
                have hmj := (nI_eq (by omega) (by omega)).mp c
                subst hmj
                have n1 : m ≠ i := fun z => by
                  subst z
                  rw [ei] at d
                  exact qk (Or.inl ((nI_eq (by omega) (by omega)).mp d).symm)
                have n2 : m ≠ j := fun z => by
                  subst z
                  rw [ej] at d
                  exact qk (Or.inr ((nI_eq (by omega) (by omega)).mp d).symm)
                exact ⟨n1, by rw [d24 m hm, if_neg (by omega)]⟩
          · rw [d48 k hk]
            have u1 := (w.2.2.2.2 k hk).2.2.2.2.1 m h1 h2
            have u2 := (w.2.2.2.2 i hi).2.2.2.2.1 m h1 h2
            have u3 := (w.2.2.2.2 j hj).2.2.2.2.1 m h1 h2
            split
            · exact bt_0 h2
            · split
              · rw [bt_or h2, u2, u3]; rfl
              · exact u1
          · rw [d48 k hk, if_neg hki]
            split
            · rename_i q1
              subst q1
              rw [bt_or (by omega), hb]; rfl
            · exact hb
        generalize sI (sI (sI (sR σ 7 (heirF (σ.1 7) i (nI j))) (1 + 3) i (-2)) (1 + 3) j (-2)) 1 1 (σ.1 167 109 &&& notB i) = τ at eC F hLD
        have rt := row_two F
        refine ⟨1, 1, τ, sR τ 167 (dies2 (σ.1 167) i j), eC, ?_, rfl, Inv_two hI F hLD hWF⟩
        rw [eM τ rt, if_neg q, m_parts hi hj (by rw [rt]; exact ei), Option.bind_some, rt, ei, lit_nI 48, if_pos a3.1, if_pos (inb_nI (by omega) (by decide)), a3.2, sI_sR, sR_sR, sR_at, m_b59 hi, sR_sR, sR_at]
        have e1 : partR (σ.1 167) i j (48 + j) = σ.1 167 (48 + j) := partR_o _ (by omega) hi hj
        have e2 : partR (σ.1 167) i j (48 + i) = σ.1 167 (48 + i) := partR_o _ (by omega) hi hj
        have e3 : partR (σ.1 167) i j 109 = σ.1 167 109 := partR_o _ (by omega) hi hj
        rw [e1, e2, upd_at _ (48 + j) 109, if_neg (show ¬ 109 = 48 + j by omega), e3]
        rfl
  · refine ⟨0, 0, σ, σ, ?_, ?_, rfl, hI⟩
    · unfold Pz_dies Pz_dies0
      rw [c_isAliveF h, Option.bind_some, if_pos rfl]; rfl
    · unfold Md_dies Md_dies0
      rw [m_livesF h, Option.bind_some, if_pos rfl]; rfl
end CALLS
