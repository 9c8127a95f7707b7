/-! unrest; to fit is mutual -/
section SYM
variable {L : LawF} {σ : MH} {A : Nat → Int32} {i j k n w : Nat}
theorem gapR_symm (f g : Nat → Int32) : gapR f g = gapR g f := by
  unfold gapR
  simp only [fo]
  have e : ∀ x y : Int32, jabs (x + y) = jabs (y + x) := fun x y => by rw [Int32.add_comm]
  rw [e (g 0) (f (7 - 0)), e (g 1) (f (7 - 1)), e (g 2) (f (7 - 2)), e (g 3) (f (7 - 3)), e (g 4) (f (7 - 4)), e (g 5) (f (7 - 5)), e (g 6) (f (7 - 6)), e (g 7) (f (7 - 7))]
  simp only [show 7 - 0 = 7 from rfl, show 7 - 1 = 6 from rfl, show 7 - 2 = 5 from rfl, show 7 - 3 = 4 from rfl, show 7 - 4 = 3 from rfl, show 7 - 5 = 2 from rfl, show 7 - 6 = 1 from rfl, show 7 - 7 = 0 from rfl]
  grind
theorem slkR_symm (p q : Nat) : slkR A p q = slkR A q p := by
  unfold slkR
  rw [gapR_symm]
  congr 1
  grind
/-- the least of a row of ints, or none -/
theorem leastC_spec (wf : WF A) : (leastC A i j = -1 ∧ ∀ p q, p < 12 → q < 12 → (holdR A i p && holdR A j q) = false) ∨ ((∃ p q, p < 12 ∧ q < 12 ∧ (holdR A i p && holdR A j q) = true ∧ leastC A i j = slkR A p q) ∧ ∀ p q, p < 12 → q < 12 → (holdR A i p && holdR A j q) = true → (leastC A i j).toInt ≤ (slkR A p q).toInt) := by
  have step : ∀ p, p < 12 → ∀ (l : Int32) (D : Nat → Nat → Prop), ((l = -1 ∧ ∀ a b, D a b → a < 12 → b < 12 → (holdR A i a && holdR A j b) = false) ∨ ((∃ a b, a < 12 ∧ b < 12 ∧ (holdR A i a && holdR A j b) = true ∧ l = slkR A a b) ∧ ∀ a b, D a b → a < 12 → b < 12 → (holdR A i a && holdR A j b) = true → l.toInt ≤ (slkR A a b).toInt)) → ∀ q, q < 12 → (((if (holdR A i p && holdR A j q) = true then (if 0 ≤ l then jmin l (slkR A p q) else slkR A p q) else l) = -1 ∧ ∀ a b, (D a b ∨ (a = p ∧ b = q)) → a < 12 → b < 12 → (holdR A i a && holdR A j b) = false) ∨ ((∃ a b, a < 12 ∧ b < 12 ∧ (holdR A i a && holdR A j b) = true ∧ (if (holdR A i p && holdR A j q) = true then (if 0 ≤ l then jmin l (slkR A p q) else slkR A p q) else l) = slkR A a b) ∧ ∀ a b, (D a b ∨ (a = p ∧ b = q)) → a < 12 → b < 12 → (holdR A i a && holdR A j b) = true → (if (holdR A i p && holdR A j q) = true then (if 0 ≤ l then jmin l (slkR A p q) else slkR A p q) else l).toInt ≤ (slkR A a b).toInt)) := by
    intro p hp l D h q hq
    have hb := slkR_bd wf hp hq
    by_cases hc : (holdR A i p && holdR A j q) = true
    · rw [if_pos hc]
      right
      rcases h with ⟨rfl, h2⟩ | ⟨⟨a, b, a1, a2, a3, a4⟩, h2⟩
      · rw [if_neg (by decide)]
        refine ⟨⟨p, q, hp, hq, hc, rfl⟩, fun a b hab ha hb' hh => ?_⟩
        rcases hab with hab | ⟨rfl, rfl⟩
        · rw [h2 a b hab ha hb'] at hh; cases hh
        · exact Int.le_refl _
      · have hb2 := slkR_bd wf a1 a2
        have h0 : (0 : Int32) ≤ l := by
          rw [a4]; exact ti_le.mpr hb2.1
        rw [if_pos h0]
        unfold jmin
        by_cases hlt : slkR A p q < l
        · rw [if_pos hlt]
          refine ⟨⟨p, q, hp, hq, hc, rfl⟩, fun x y hab hx hy hh => ?_⟩
          rcases hab with hab | ⟨rfl, rfl⟩
          · have := h2 x y hab hx hy hh
            rw [ti_lt] at hlt
            omega
          · exact Int.le_refl _
        · rw [if_neg hlt]
          refine ⟨⟨a, b, a1, a2, a3, a4⟩, fun x y hab hx hy hh => ?_⟩
          rcases hab with hab | ⟨rfl, rfl⟩
          · exact h2 x y hab hx hy hh
          · rw [ti_lt] at hlt
            omega
    · rw [if_neg hc]
      rcases h with ⟨h1, h2⟩ | ⟨h1, h2⟩
      · left
        refine ⟨h1, fun a b hab ha hb' => ?_⟩
        rcases hab with hab | ⟨rfl, rfl⟩
        · exact h2 a b hab ha hb'
        · exact Bool.eq_false_iff.mpr hc
      · right
        refine ⟨h1, fun a b hab ha hb' hh => ?_⟩
        rcases hab with hab | ⟨rfl, rfl⟩
        · exact h2 a b hab ha hb' hh
        · exact absurd hh hc
  have inner : ∀ p, p < 12 → ∀ (l : Int32) (D : Nat → Nat → Prop), ((l = -1 ∧ ∀ a b, D a b → a < 12 → b < 12 → (holdR A i a && holdR A j b) = false) ∨ ((∃ a b, a < 12 ∧ b < 12 ∧ (holdR A i a && holdR A j b) = true ∧ l = slkR A a b) ∧ ∀ a b, D a b → a < 12 → b < 12 → (holdR A i a && holdR A j b) = true → l.toInt ≤ (slkR A a b).toInt)) → ∀ n, n ≤ 12 → ((fo (fun q l => if (holdR A i p && holdR A j q) = true then (if 0 ≤ l then jmin l (slkR A p q) else slkR A p q) else l) n l = -1 ∧ ∀ a b, (D a b ∨ (a = p ∧ b < n)) → a < 12 → b < 12 → (holdR A i a && holdR A j b) = false) ∨ ((∃ a b, a < 12 ∧ b < 12 ∧ (holdR A i a && holdR A j b) = true ∧ fo (fun q l => if (holdR A i p && holdR A j q) = true then (if 0 ≤ l then jmin l (slkR A p q) else slkR A p q) else l) n l = slkR A a b) ∧ ∀ a b, (D a b ∨ (a = p ∧ b < n)) → a < 12 → b < 12 → (holdR A i a && holdR A j b) = true → (fo (fun q l => if (holdR A i p && holdR A j q) = true then (if 0 ≤ l then jmin l (slkR A p q) else slkR A p q) else l) n l).toInt ≤ (slkR A a b).toInt)) := by
    intro p hp l D h n
    induction n with
    | zero =>
      intro _
      rcases h with ⟨h1, h2⟩ | ⟨h1, h2⟩
      · exact Or.inl ⟨h1, fun a b hab => h2 a b (hab.resolve_right (by omega))⟩
      · exact Or.inr ⟨h1, fun a b hab => h2 a b (hab.resolve_right (by omega))⟩
    | succ n ih =>
      intro hn
      have := step p hp _ (fun a b => D a b ∨ (a = p ∧ b < n)) (ih (by omega)) n (by omega)
      rcases this with ⟨h1, h2⟩ | ⟨h1, h2⟩
      · exact Or.inl ⟨h1, fun a b hab => h2 a b (by
          rcases hab with q | ⟨q1, q2⟩
          · exact Or.inl (Or.inl q)
          · by_cases e : b = n
            · exact Or.inr ⟨q1, e⟩
            · exact Or.inl (Or.inr ⟨q1, by omega⟩))⟩
      · exact Or.inr ⟨h1, fun a b hab => h2 a b (by
          rcases hab with q | ⟨q1, q2⟩
          · exact Or.inl (Or.inl q)
          · by_cases e : b = n
            · exact Or.inr ⟨q1, e⟩
            · exact Or.inl (Or.inr ⟨q1, by omega⟩))⟩
  have outer : ∀ n, n ≤ 12 → ((fo (fun p l => fo (fun q l => if (holdR A i p && holdR A j q) = true then (if 0 ≤ l then jmin l (slkR A p q) else slkR A p q) else l) 12 l) n (-1) = -1 ∧ ∀ a b, a < n → a < 12 → b < 12 → (holdR A i a && holdR A j b) = false) ∨ ((∃ a b, a < 12 ∧ b < 12 ∧ (holdR A i a && holdR A j b) = true ∧ fo (fun p l => fo (fun q l => if (holdR A i p && holdR A j q) = true then (if 0 ≤ l then jmin l (slkR A p q) else slkR A p q) else l) 12 l) n (-1) = slkR A a b) ∧ ∀ a b, a < n → a < 12 → b < 12 → (holdR A i a && holdR A j b) = true → (fo (fun p l => fo (fun q l => if (holdR A i p && holdR A j q) = true then (if 0 ≤ l then jmin l (slkR A p q) else slkR A p q) else l) 12 l) n (-1)).toInt ≤ (slkR A a b).toInt)) := by
    intro n
    induction n with
    | zero => intro _; exact Or.inl ⟨rfl, fun a b h => by omega⟩
    | succ n ih =>
      intro hn
      have := inner n (by omega) _ (fun a _ => a < n) (ih (by omega)) 12 (Nat.le_refl _)
      rcases this with ⟨h1, h2⟩ | ⟨h1, h2⟩
      · exact Or.inl ⟨h1, fun a b ha h3 h4 => h2 a b (by
          by_cases e : a = n
          · exact Or.inr ⟨e, h4⟩
          · exact Or.inl (by omega)) h3 h4⟩
      · exact Or.inr ⟨h1, fun a b ha h3 h4 => h2 a b (by
          by_cases e : a = n
          · exact Or.inr ⟨e, h4⟩
          · exact Or.inl (by omega)) h3 h4⟩
  rcases outer 12 (Nat.le_refl _) with ⟨h1, h2⟩ | ⟨h1, h2⟩
  · exact Or.inl ⟨h1, fun p q hp hq => h2 p q hp hp hq⟩
  · exact Or.inr ⟨h1, fun p q hp hq => h2 p q hp hp hq⟩
theorem slackR_symm (wf : WF A) : slackR A i j = slackR A j i := by
  rw [slackR_eq wf, slackR_eq wf]
  rcases leastC_spec (i := i) (j := j) wf with ⟨h1, h2⟩ | ⟨⟨p, q, p1, p2, p3, p4⟩, h2⟩
  · rcases leastC_spec (i := j) (j := i) wf with ⟨k1, k2⟩ | ⟨⟨p, q, p1, p2, p3, p4⟩, k2⟩
    · rw [h1, k1]
    · have := h2 q p p2 p1
      rw [Bool.and_comm, p3] at this
      cases this
  · rcases leastC_spec (i := j) (j := i) wf with ⟨k1, k2⟩ | ⟨⟨a, b, a1, a2, a3, a4⟩, k2⟩
    · have := k2 q p p2 p1
      rw [Bool.and_comm, p3] at this
      cases this
    · have e1 := h2 b a a2 a1 (by rw [Bool.and_comm]; exact a3)
      have e2 := k2 q p p2 p1 (by rw [Bool.and_comm]; exact p3)
      rw [slkR_symm b a] at e1
      rw [slkR_symm q p] at e2
      rw [← a4] at e1
      rw [← p4] at e2
      exact Int32.toInt_inj.mp (by omega)
theorem allow_symm (hi : i ≠ j) : allowR L A i j = allowR L A j i := by
  unfold allowR firstR
  by_cases h1 : A i < A j
  · have h2 : ¬ A j < A i := fun h => by grind
    have h3 : ¬ A j = A i := fun h => by grind
    simp [h1, h2, h3]
  · by_cases h2 : A i = A j
    · rw [h2]
      by_cases h3 : i < j
      · simp [h3, show ¬ j < i by omega]
      · simp [h3, show j < i by omega]
    · have h3 : A j < A i := by grind
      have h4 : ¬ A j = A i := fun h => h2 h.symm
      simp [h1, h2, h3]
theorem fit_symm (wf : WF A) (hi : i ≠ j) : fitR L A i j = fitR L A j i := by
  unfold fitR
  rw [slackR_symm wf, allow_symm hi]
theorem fpR_symm (wf : WF A) : fpR L A i j = fpR L A j i := by
  unfold fpR fitP
  by_cases h : i = j
  · subst h; rfl
  · rw [fit_symm wf h, decide_eq_false h, decide_eq_false (fun q => h q.symm)]
    cases liveR A i <;> cases liveR A j <;> rfl
end SYM
section UNREST
variable {L : LawF} {σ : MH} {A : Nat → Int32} {i j k n w : Nat}
def likeWedR (L : LawF) (A : Nat → Int32) (i : Nat) : Int32 := if A (24 + i) = -2 then 0 else likeR L A i (A (24 + i)).toNatClampNeg
def leaveP (L : LawF) (A : Nat → Int32) (i j : Nat) : Bool := liveR A i && (liveR A j && (decide (A i = 0) && (decide (A j = 1) && (!decide (A (24 + i) = nI j) && (fitR L A i j && (decide (likeWedR L A i < likeR L A i j) && decide (likeWedR L A j < likeR L A j i)))))))
theorem fit_slack (h : fitR L A i j = true) : slackR A i j ≠ -1 := by
  unfold fitR at h
  simp only [Bool.and_eq_true, Bool.not_eq_true', decide_eq_false_iff_not] at h
  exact h.1
theorem c_likingNow (hD : LD 1 A σ) (wf : WF A) (hL : LawOK L) (hC : LawC L σ) (hi : i < 12) (li : liveR A i = true) : ∃ σ', Pz_likingNow (nI i) σ = some (likeWedR L A i, σ') ∧ Fx PJ σ σ' := by
  obtain ⟨f1, f2, f3, f4⟩ := ix3 12 hi
  have e : σ.1 4 i = A (24 + i) := (hD.2.1 i hi).2.2.1
  unfold Pz_likingNow Pz_likingNow0 Pz_likingNow_b21 likeWedR
  rw [v_isNumber hi, Option.bind_some, if_neg (show ¬ (1 : Int32) = 0 by decide), if_pos f2, f3, e]
  rcases w_wed wf i hi with q | ⟨j, a, b, c, d, e1, e2⟩
  · refine ⟨σ, ?_, Fx.rf⟩
    rw [q, c_isAliveF (Or.inl (by decide)), Option.bind_some, if_pos rfl, if_pos rfl]
  · obtain ⟨σ1, g1, g2⟩ := c_liking ld1 hD wf hL hC hi a (live_told e1) (live_told e2) (slack_alive wf hi a e1 e2)
    refine ⟨σ1, ?_, g2⟩
    rw [c, c_isAlive hD wf a, e2, Option.bind_some, bI_t, if_neg (show ¬ (1 : Int32) = 0 by decide), g1, Option.bind_some, if_neg (nI_m2 (by omega)), nI_clamp (by omega)]
theorem m_likesWed (wf : WF (σ.1 167)) (hL : LawOK L) (hM : LawM L σ) (hi : i < 12) : ∃ σ', Md_likesWed (nI i) σ = some (likeWedR L (σ.1 167) i, σ') ∧ Fx PK σ σ' := by
  have b1 := ixc (c := 24) hi (by decide)
  unfold Md_likesWed Md_likesWed0 likeWedR
  rw [lit_nI 24, if_pos b1.1, b1.2]
  rcases w_wed wf i hi with q | ⟨j, a, b, c, d, e1, e2⟩
  · exact ⟨σ, by rw [q, if_pos rfl, if_pos rfl], Fx.rf⟩
  · obtain ⟨σ1, g1, g2⟩ := m_likes hL hM hi a
    refine ⟨σ1, ?_, g2⟩
    rw [c, if_neg (nI_m2 (by omega)), if_neg (nI_m2 (by omega)), g1, Option.bind_some, nI_clamp (by omega)]
theorem c_wouldLeave (hD : LD 1 A σ) (wf : WF A) (hL : LawOK L) (hC : LawC L σ) (hi : i < 12) (hj : j < 12) : ∃ σ', Pz_wouldLeave (nI i) (nI j) σ = some (bI (leaveP L A i j), σ') ∧ Fx PJ σ σ' := by
  obtain ⟨f1, f2, f3, f4⟩ := ix3 12 hi
  obtain ⟨g1, g2, g3, g4⟩ := ix3 12 hj
  have e1 : σ.1 2 i = A i := (hD.2.1 i hi).1
  have e2 : σ.1 2 j = A j := (hD.2.1 j hj).1
  have e3 : σ.1 4 i = A (24 + i) := (hD.2.1 i hi).2.2.1
  unfold Pz_wouldLeave Pz_wouldLeave0 leaveP
  rw [c_isAlive hD wf hi, Option.bind_some, c_isAlive hD wf hj, Option.bind_some, f3, g3, e1, e2, e3]
  cases li : liveR A i
  · exact ⟨σ, rfl, Fx.rf⟩
  rw [bI_t, if_neg (show ¬ (1 : Int32) = 0 by decide)]
  cases lj : liveR A j
  · exact ⟨σ, rfl, Fx.rf⟩
  rw [bI_t, if_neg (show ¬ (1 : Int32) = 0 by decide), if_pos f2]
  by_cases q1 : A i = 0
  case neg => exact ⟨σ, by rw [if_neg q1, decide_eq_false q1]; rfl, Fx.rf⟩
  rw [if_pos q1, if_pos g2, decide_eq_true q1]
  by_cases q2 : A j = 1
  case neg => exact ⟨σ, by rw [if_neg q2, decide_eq_false q2]; rfl, Fx.rf⟩
  rw [if_pos q2, decide_eq_true q2]
  by_cases q3 : A (24 + i) = nI j
  · exact ⟨σ, by rw [if_pos q3, decide_eq_true q3]; rfl, Fx.rf⟩
  rw [if_neg q3, decide_eq_false q3]
  obtain ⟨σ1, h1, p1⟩ := c_fit ld1 hD wf hL hC hi hj (live_told li) (live_told lj)
  rw [h1, Option.bind_some]
  dsimp only
  cases hf : fitR L A i j
  · exact ⟨σ1, rfl, p1⟩
  rw [bI_t, if_neg (show ¬ (1 : Int32) = 0 by decide)]
  have hij : i ≠ j := fun z => by rw [z, q2] at q1; exact absurd q1 (by decide)
  obtain ⟨σ2, h2, p2⟩ := c_liking ld1 (LD_PJ ld1 hD p1) wf hL (LawC_PJ hC p1) hi hj (live_told li) (live_told lj) (fit_slack hf)
  have p12 := p1.tr p2
  rw [h2, Option.bind_some]
  dsimp only
  obtain ⟨σ3, h3, p3⟩ := c_likingNow (LD_PJ ld1 hD p12) wf hL (LawC_PJ hC p12) hi li
  have p123 := p12.tr p3
  rw [h3, Option.bind_some]
  dsimp only
  by_cases q4 : likeWedR L A i < likeR L A i j
  case neg => exact ⟨σ3, by rw [if_pos (Int32.not_lt.mp q4), decide_eq_false q4]; rfl, p123⟩
  rw [if_neg (ne_of_lt32 q4), decide_eq_true q4]
  obtain ⟨σ4, h4, p4⟩ := c_liking ld1 (LD_PJ ld1 hD p123) wf hL (LawC_PJ hC p123) hj hi (live_told lj) (live_told li) (by rw [slackR_symm wf]; exact fit_slack hf)
  have p1234 := p123.tr p4
  rw [h4, Option.bind_some]
  dsimp only
  obtain ⟨σ5, h5, p5⟩ := c_likingNow (LD_PJ ld1 hD p1234) wf hL (LawC_PJ hC p1234) hj lj
  rw [h5, Option.bind_some]
  dsimp only
  by_cases q5 : likeWedR L A j < likeR L A j i
  · exact ⟨σ5, by rw [if_neg (ne_of_lt32 q5), decide_eq_true q5]; rfl, p1234.tr p5⟩
  · exact ⟨σ5, by rw [if_pos (Int32.not_lt.mp q5), decide_eq_false q5]; rfl, p1234.tr p5⟩
def unA (w i j : Nat) : Int32 := if w = 1 then nI i else nI j
theorem c_unrest (hD : LD 1 A σ) (wf : WF A) (hL : LawOK L) (hC : LawC L σ) (hw : w ≤ 2) : ∃ σ', Pz_unrest (nI w) σ = some (if w = 0 then nI (allQ (leaveP L A) 12).1 else ansQ (unA w) (allQ (leaveP L A) 12), σ') ∧ Fx PJ σ σ' := by
  obtain ⟨y1, y2, y3, y4⟩ := limN_y 2 hw (σ := σ)
  have c1 : (nI w = (1 : Int32)) = (w = 1) := propext (eqL 1 (by omega) (by decide))
  have inner : ∀ i, i < 12 → ∀ (s : Nat × Nat) (τ : MH), s.1 ≤ 12 * i → LD 1 A τ → LawC L τ → ∃ r, Pz_unrest_L29 (nI w) (nI i) (nI s.1, ansQ (unA w) s, 0, τ) = some r ∧ r.1 = nI (rowQ (leaveP L A) i 12 s).1 ∧ r.2.1 = ansQ (unA w) (rowQ (leaveP L A) i 12 s) ∧ Fx PJ τ r.2.2 := by
    intro i hi s τ hs hDt hCt
    refine itr_n 12 (fun (j : Nat) (z : Int32 × Int32 × Int32 × MH) => z.1 = nI (rowQ (leaveP L A) i j s).1 ∧ z.2.1 = ansQ (unA w) (rowQ (leaveP L A) i j s) ∧ z.2.2.1 = nI j ∧ Fx PJ τ z.2.2.2) _ ⟨rfl, rfl, rfl, Fx.rf⟩ (fun j z hj hz => ?_) (fun z hz => ?_)
    · obtain ⟨z1, z2, z3, z4⟩ := z
      obtain ⟨e1, e2, e3, hf⟩ := hz
      dsimp only at e1 e2 e3 hf
      subst e1; subst e2; subst e3
      obtain ⟨f1, f2, f3, f4⟩ := ix3 12 hj
      obtain ⟨σ', e, g⟩ := c_wouldLeave (LD_PJ ld1 hDt hf) wf hL (LawC_PJ hCt hf) hi hj
      have hbd : ∀ n, (rowQ (leaveP L A) i n s).1 ≤ 144 + n := fun n => by
        induction n with
        | zero => show s.1 ≤ _; omega
        | succ n ih =>
          show (qst (leaveP L A) i n (rowQ (leaveP L A) i n s)).1 ≤ _
          unfold qst
          split
          · dsimp only; omega
          · omega
      have hbj := hbd j
      have hrow : rowQ (leaveP L A) i (j + 1) s = qst (leaveP L A) i j (rowQ (leaveP L A) i j s) := rfl
      refine Or.inl ⟨(nI (rowQ (leaveP L A) i (j + 1) s).1, ansQ (unA w) (rowQ (leaveP L A) i (j + 1) s), nI (j + 1), σ'), ?_, rfl, rfl, rfl, hf.tr g⟩
      show Pz_unrest_l29 (nI w) (nI i) _ _ (nI j) z4 = _
      rw [hrow]
      generalize rowQ (leaveP L A) i j s = u at hbj
      have c0 : (nI u.1 = (0 : Int32)) = (u.1 = 0) := propext (eqL 0 (by omega) (by decide))
      unfold Pz_unrest_l29 Pz_unrest_b63 Pz_unrest_b64 Pz_unrest_b67 qst
      rw [if_neg f1, e, Option.bind_some]
      simp only [c0, c1]
      cases leaveP L A i j
      · rw [bI_f, if_pos rfl, if_neg (by decide), lit_nI 1, nI_add]
      · rw [bI_t, if_neg (show ¬ (1 : Int32) = 0 by decide), if_pos rfl, lit_nI 1, nI_add, nI_add]
        by_cases q : u.1 = 0
        · rw [if_pos q, if_pos q]
          unfold ansQ unA
          dsimp only
          rw [if_neg (show ¬ u.1 + 1 = 0 by omega), show (12 * i + j) / 12 = i by omega, show (12 * i + j) % 12 = j by omega]
          by_cases q1 : w = 1
          · rw [if_pos q1, if_pos q1]
          · rw [if_neg q1, if_neg q1]
        · rw [if_neg q, if_neg q]
          unfold ansQ
          rw [if_neg q, if_neg (by omega)]
    · obtain ⟨z1, z2, z3, z4⟩ := z
      obtain ⟨e1, e2, e3, hf⟩ := hz
      dsimp only at e1 e2 e3 hf
      subst e3
      refine ⟨(z1, z2, z4), ?_, e1, e2, hf⟩
      show Pz_unrest_l29 (nI w) (nI i) z1 z2 (nI 12) z4 = _
      unfold Pz_unrest_l29
      rw [if_pos (by decide)]
  obtain ⟨r, e, r1, r2, r3⟩ : ∃ r, Pz_unrest_L19 (nI w) (0, -2, 0, σ) = some r ∧ r.1 = nI (allQ (leaveP L A) 12).1 ∧ r.2.1 = ansQ (unA w) (allQ (leaveP L A) 12) ∧ Fx PJ σ r.2.2 := by
    refine itr_n 12 (fun (a : Nat) (z : Int32 × Int32 × Int32 × MH) => z.1 = nI (allQ (leaveP L A) a).1 ∧ z.2.1 = ansQ (unA w) (allQ (leaveP L A) a) ∧ z.2.2.1 = nI a ∧ Fx PJ σ z.2.2.2) _ ⟨rfl, rfl, rfl, Fx.rf⟩ (fun a z ha hz => ?_) (fun z hz => ?_)
    · obtain ⟨z1, z2, z3, z4⟩ := z
      obtain ⟨e1, e2, e3, hf⟩ := hz
      dsimp only at e1 e2 e3 hf
      subst e1; subst e2; subst e3
      obtain ⟨f1, f2, f3, f4⟩ := ix3 12 ha
      obtain ⟨r, er, h1, h2, h3⟩ := inner a ha (allQ (leaveP L A) a) z4 (allQ_bd a (by omega)).1 (LD_PJ ld1 hD hf) (LawC_PJ hC hf)
      refine Or.inl ⟨(nI (allQ (leaveP L A) (a + 1)).1, ansQ (unA w) (allQ (leaveP L A) (a + 1)), nI (a + 1), r.2.2), ?_, rfl, rfl, rfl, hf.tr h3⟩
      show Pz_unrest_l19 (nI w) _ _ (nI a) z4 = _
      unfold Pz_unrest_l19
      rw [if_neg f1, er, Option.bind_some, h1, h2, lit_nI 1, nI_add]
      rfl
    · obtain ⟨z1, z2, z3, z4⟩ := z
      obtain ⟨e1, e2, e3, hf⟩ := hz
      dsimp only at e1 e2 e3 hf
      subst e3
      refine ⟨(z1, z2, z4), ?_, e1, e2, hf⟩
      show Pz_unrest_l19 (nI w) z1 z2 (nI 12) z4 = _
      unfold Pz_unrest_l19
      rw [if_pos (by decide)]
  refine ⟨r.2.2, ?_, r3⟩
  unfold Pz_unrest Pz_unrest0
  rw [if_neg y2, if_pos y3, e, Option.bind_some, r1, r2]
  by_cases q : w = 0
  · subst q; rfl
  · rw [if_neg (fun z => q ((eqL 0 (by omega) (by decide)).mp z)), if_neg q]
def oneR (A : Nat → Int32) (i : Nat) (s : Int32) : Bool := liveR A i && decide (A i = s)
theorem m_isOne (hi : i < 12) (s : Int32) : Md_isOne (nI i) s σ = some (bI (oneR (σ.1 167) i s)) := by
  have b0 := ix0 hi
  unfold Md_isOne Md_isOne0 oneR
  rw [m_lives hi, Option.bind_some, lit0k, if_pos b0.1, b0.2]
  cases liveR (σ.1 167) i
  · rfl
  · by_cases q : σ.1 167 i = s
    · rw [bI_t, if_neg (show ¬ (1 : Int32) = 0 by decide), if_pos q, decide_eq_true q]; rfl
    · rw [bI_t, if_neg (show ¬ (1 : Int32) = 0 by decide), if_neg q, decide_eq_false q]; rfl
theorem m_isOneF {x : Int32} (h : x < 0 ∨ 12 ≤ x) (s : Int32) : Md_isOne x s σ = some 0 := by
  unfold Md_isOne Md_isOne0
  rw [m_livesF h]; rfl
def Tab (L : LawF) (A : Nat → Int32) (σ : MH) : Prop := σ.1 167 = A ∧ LawM L σ ∧ (∀ i, i < 12 → σ.1 186 i = fitOfR L A i) ∧ ∀ i j, i < 12 → j < 12 → σ.1 187 (12 * i + j) = slackN L A i j ∧ σ.1 188 (12 * i + j) = likeN L A i j
theorem Tab_PK (h : Tab L A σ) {σ' : MH} (hf : Fx PK σ σ') : Tab L A σ' := by
  obtain ⟨h1, h2, h3, h4⟩ := h
  refine ⟨(row_PK hf).trans h1, LawM_PK h2 hf, fun i hi => (hf 186 i (by unfold PK; omega)).trans (h3 i hi), fun i j hi hj => ?_⟩
  rw [hf 187 _ (by unfold PK; omega), hf 188 _ (by unfold PK; omega)]
  exact h4 i j hi hj
theorem m_unrest1 (wf : WF A) (hL : LawOK L) (h : Tab L A σ) (hi : i < 12) (hj : j < 12) {s : Nat × Nat} (hs : s.1 ≤ 1000) (v1 : Int32) : ∃ σ', Md_unrest_l32 v1 (nI i) (nI s.1) (frsQ s) (nI j) σ = some (.inl (nI (qst (leaveP L A) i j s).1, frsQ (qst (leaveP L A) i j s), nI (j + 1), σ')) ∧ Fx PK σ σ' := by
  obtain ⟨hrow, hM, h6, h78⟩ := h
  obtain ⟨f1, f2, f3, f4⟩ := ix3 12 hi
  obtain ⟨g1, g2, g3, g4⟩ := ix3 12 hj
  have b1 := ixc (c := 24) hi (by decide)
  have d1 : inb (nI (12 * i + j)) 144 = true := inb_nI (by omega) (by decide)
  have d2 : (nI (12 * i + j)).toNatClampNeg = 12 * i + j := nI_clamp (by omega)
  have d3 : inb (nI (12 * j + i)) 144 = true := inb_nI (by omega) (by decide)
  have d4 : (nI (12 * j + i)).toNatClampNeg = 12 * j + i := nI_clamp (by omega)
  have c0 : (nI s.1 = (0 : Int32)) = (s.1 = 0) := propext (eqL 0 (by omega) (by decide))
  have no : leaveP L A i j = false → (some (.inl (nI s.1, frsQ s, nI (j + 1), σ)) : Option ((Int32 × Int32 × Int32 × MH) ⊕ (Int32 × Int32 × MH))) = some (.inl (nI (qst (leaveP L A) i j s).1, frsQ (qst (leaveP L A) i j s), nI (j + 1), σ)) := fun h => by
    unfold qst
    rw [h, if_neg (by decide)]
  unfold Md_unrest_l32 Md_unrest_b155 Md_unrest_b160
  rw [if_neg g1, m_isOne hi, Option.bind_some, m_isOne hj, Option.bind_some, if_pos f2, f3, h6 i hi, m_has, Option.bind_some, bt_fitOf hj, hrow, lit_nI 24, if_pos b1.1, b1.2]
  simp only [lit_nI 12, lit_nI 1, pk_mul, nI_add, d1, d2, d3, d4, if_true, c0, show (nI 0 = (0 : Int32)) from rfl]
  have k1 : leaveP L A i j = (oneR A i 0 && (oneR A j 1 && (fpR L A i j && (!decide (A (24 + i) = nI j) && (decide (likeWedR L A i < likeR L A i j) && decide (likeWedR L A j < likeR L A j i)))))) := by
    unfold leaveP oneR fpR fitP
    by_cases q : j = i
    · subst q
      rw [decide_eq_true rfl]
      by_cases q1 : A j = 0
      · rw [decide_eq_true q1, decide_eq_false (show ¬ A j = 1 by rw [q1]; decide)]
        cases liveR A j <;> rfl
      · rw [decide_eq_false q1]
        cases liveR A j <;> rfl
    · rw [decide_eq_false q]
      cases liveR A i <;> cases liveR A j <;> cases decide (A i = 0) <;> cases decide (A j = 1) <;> cases decide (A (24 + i) = nI j) <;> cases fitR L A i j <;> rfl
  cases o1 : oneR A i 0
  · rw [o1] at k1
    exact ⟨σ, by rw [bI_f, if_pos (show (0 : Int32) = 0 from rfl)]; exact no k1, Fx.rf⟩
  rw [bI_t, if_neg (show ¬ (1 : Int32) = 0 by decide)]
  cases o2 : oneR A j 1
  · rw [o1, o2] at k1
    exact ⟨σ, by rw [show oneR A j (nI 1) = oneR A j 1 from rfl, o2, bI_f, if_pos (show (0 : Int32) = 0 from rfl)]; exact no k1, Fx.rf⟩
  rw [show oneR A j (nI 1) = oneR A j 1 from rfl, o2, bI_t, if_neg (show ¬ (1 : Int32) = 0 by decide)]
  cases o3 : fpR L A i j
  · rw [o1, o2, o3] at k1
    exact ⟨σ, by rw [bI_f, if_pos (show (0 : Int32) = 0 from rfl)]; exact no k1, Fx.rf⟩
  rw [bI_t, if_neg (show ¬ (1 : Int32) = 0 by decide)]
  by_cases q3 : A (24 + i) = nI j
  · rw [o1, o2, o3, decide_eq_true q3] at k1
    exact ⟨σ, by rw [if_pos q3]; exact no k1, Fx.rf⟩
  rw [if_neg q3]
  obtain ⟨σ1, e1, p1⟩ := m_likesWed (i := i) (by rw [hrow]; exact wf) hL hM hi
  rw [e1, Option.bind_some, hrow]
  dsimp only
  have hl : σ.1 188 (12 * i + j) = likeR L A i j := by
    rw [(h78 i j hi hj).2]
    unfold likeN
    rw [o3, if_pos rfl]
  rw [hl]
  have no1 : leaveP L A i j = false → ∀ τ : MH, (some (.inl (nI s.1, frsQ s, nI (j + 1), τ)) : Option ((Int32 × Int32 × Int32 × MH) ⊕ (Int32 × Int32 × MH))) = some (.inl (nI (qst (leaveP L A) i j s).1, frsQ (qst (leaveP L A) i j s), nI (j + 1), τ)) := fun h τ => by
    unfold qst
    rw [h, if_neg (by decide)]
  by_cases q4 : likeWedR L A i < likeR L A i j
  case neg =>
    rw [o1, o2, o3, decide_eq_false q3, decide_eq_false q4] at k1
    exact ⟨σ1, by rw [if_pos (Int32.not_lt.mp q4)]; exact no1 k1 σ1, p1⟩
  rw [if_neg (ne_of_lt32 q4)]
  obtain ⟨σ2, e2, p2⟩ := m_likesWed (i := j) (by rw [row_PK p1, hrow]; exact wf) hL (LawM_PK hM p1) hj
  rw [e2, Option.bind_some, row_PK p1, hrow]
  dsimp only
  have hl2 : σ1.1 188 (12 * j + i) = likeR L A j i := by
    rw [p1 188 _ (by unfold PK; omega), (h78 j i hj hi).2]
    unfold likeN
    rw [fpR_symm wf, o3, if_pos rfl]
  rw [hl2]
  by_cases q5 : likeWedR L A j < likeR L A j i
  case neg =>
    rw [o1, o2, o3, decide_eq_false q3, decide_eq_true q4, decide_eq_false q5] at k1
    exact ⟨σ2, by rw [if_neg q5]; exact no1 k1 σ2, p1.tr p2⟩
  rw [o1, o2, o3, decide_eq_false q3, decide_eq_true q4, decide_eq_true q5] at k1
  have k1 : leaveP L A i j = true := k1
  refine ⟨σ2, ?_, p1.tr p2⟩
  rw [if_pos q5]
  unfold qst
  rw [k1, if_pos rfl]
  by_cases q : s.1 = 0
  · rw [if_pos q, if_pos q]
    unfold frsQ
    rw [if_neg (show ¬ s.1 + 1 = 0 by omega)]
  · rw [if_neg q, if_neg q]
    unfold frsQ
    rw [if_neg q, if_neg (show ¬ s.1 + 1 = 0 by omega)]
theorem m_unrest (wf : WF (σ.1 167)) (hL : LawOK L) (hM : LawM L σ) (hw : w ≤ 2) : ∃ σ', Md_unrest (nI w) σ = some (if w = 0 then nI (allQ (leaveP L (σ.1 167)) 12).1 else ansQ (unA w) (allQ (leaveP L (σ.1 167)) 12), σ') ∧ Fx PT σ σ' := by
  have y1 : Md_in (nI w) 0 2 σ = some 1 := (limN_y 2 hw (σ := σ)).1
  obtain ⟨τ, e1, p1, h6, h78⟩ := m_laysFits hL hM
  have hT : Tab L (σ.1 167) τ := ⟨row_PT p1, LawM_PT hM p1, h6, h78⟩
  generalize σ.1 167 = A at h6 wf hT
  have inner : ∀ i, i < 12 → ∀ (s : Nat × Nat) (τ : MH), s.1 ≤ 12 * i → Tab L A τ → ∃ r, Md_unrest_L32 (nI w) (nI i) (nI s.1, frsQ s, 0, τ) = some r ∧ r.1 = nI (rowQ (leaveP L A) i 12 s).1 ∧ r.2.1 = frsQ (rowQ (leaveP L A) i 12 s) ∧ Fx PK τ r.2.2 := by
    intro i hi s τ hs hTt
    refine itr_n 12 (fun (j : Nat) (z : Int32 × Int32 × Int32 × MH) => z.1 = nI (rowQ (leaveP L A) i j s).1 ∧ z.2.1 = frsQ (rowQ (leaveP L A) i j s) ∧ z.2.2.1 = nI j ∧ Fx PK τ z.2.2.2) _ ⟨rfl, rfl, rfl, Fx.rf⟩ (fun j z hj hz => ?_) (fun z hz => ?_)
    · obtain ⟨z1, z2, z3, z4⟩ := z
      obtain ⟨e1, e2, e3, hf⟩ := hz
      dsimp only at e1 e2 e3 hf
      subst e1; subst e2; subst e3
      have hbd : ∀ n, (rowQ (leaveP L A) i n s).1 ≤ 144 + n := fun n => by
        induction n with
        | zero => show s.1 ≤ _; omega
        | succ n ih =>
          show (qst (leaveP L A) i n (rowQ (leaveP L A) i n s)).1 ≤ _
          unfold qst
          split
          · dsimp only; omega
          · omega
      have hbj := hbd j
      obtain ⟨σ', e, g⟩ := m_unrest1 (s := rowQ (leaveP L A) i j s) wf hL (Tab_PK hTt hf) hi hj (by omega) (nI w)
      exact Or.inl ⟨_, e, rfl, rfl, rfl, hf.tr g⟩
    · obtain ⟨z1, z2, z3, z4⟩ := z
      obtain ⟨e1, e2, e3, hf⟩ := hz
      dsimp only at e1 e2 e3 hf
      subst e3
      refine ⟨(z1, z2, z4), ?_, e1, e2, hf⟩
      show Md_unrest_l32 (nI w) (nI i) z1 z2 (nI 12) z4 = _
      unfold Md_unrest_l32
      rw [if_pos (by decide)]
  obtain ⟨r, e, r1, r2, r3⟩ : ∃ r, Md_unrest_L22 (nI w) (0, -1, 0, τ) = some r ∧ r.1 = nI (allQ (leaveP L A) 12).1 ∧ r.2.1 = frsQ (allQ (leaveP L A) 12) ∧ Fx PK τ r.2.2 := by
    refine itr_n 12 (fun (a : Nat) (z : Int32 × Int32 × Int32 × MH) => z.1 = nI (allQ (leaveP L A) a).1 ∧ z.2.1 = frsQ (allQ (leaveP L A) a) ∧ z.2.2.1 = nI a ∧ Fx PK τ z.2.2.2) _ ⟨rfl, rfl, rfl, Fx.rf⟩ (fun a z ha hz => ?_) (fun z hz => ?_)
    · obtain ⟨z1, z2, z3, z4⟩ := z
      obtain ⟨e1, e2, e3, hf⟩ := hz
      dsimp only at e1 e2 e3 hf
      subst e1; subst e2; subst e3
      obtain ⟨f1, f2, f3, f4⟩ := ix3 12 ha
      obtain ⟨r, er, h1, h2, h3⟩ := inner a ha (allQ (leaveP L A) a) z4 (allQ_bd a (by omega)).1 (Tab_PK hT hf)
      refine Or.inl ⟨(nI (allQ (leaveP L A) (a + 1)).1, frsQ (allQ (leaveP L A) (a + 1)), nI (a + 1), r.2.2), ?_, rfl, rfl, rfl, hf.tr h3⟩
      show Md_unrest_l22 (nI w) _ _ (nI a) z4 = _
      unfold Md_unrest_l22
      rw [if_neg f1, er, Option.bind_some, h1, h2, lit_nI 1, nI_add]
      rfl
    · obtain ⟨z1, z2, z3, z4⟩ := z
      obtain ⟨e1, e2, e3, hf⟩ := hz
      dsimp only at e1 e2 e3 hf
      subst e3
      refine ⟨(z1, z2, z4), ?_, e1, e2, hf⟩
      show Md_unrest_l22 (nI w) z1 z2 (nI 12) z4 = _
      unfold Md_unrest_l22
      rw [if_pos (by decide)]
  refine ⟨r.2.2, ?_, p1.tr (PK_PT r3)⟩
  unfold Md_unrest Md_unrest0
  rw [y1, Option.bind_some, if_neg (show ¬ (1 : Int32) = 0 by decide), e1, Option.bind_some, e, Option.bind_some, r1, r2]
  have hbd := allQ_bd (p := leaveP L A) 12 (Nat.le_refl _)
  generalize allQ (leaveP L A) 12 = s at hbd
  have c0 : (nI w = (0 : Int32)) = (w = 0) := propext (eqL 0 (by omega) (by decide))
  have c1 : (nI w = (1 : Int32)) = (w = 1) := propext (eqL 1 (by omega) (by decide))
  simp only [c0, c1]
  by_cases q : w = 0
  · rw [if_pos q, if_pos q]
  · rw [if_neg q, if_neg q]
    unfold frsQ ansQ unA
    by_cases q2 : s.1 = 0
    · rw [if_pos q2, if_pos q2, if_pos rfl]
    · have h144 := hbd.2 (by omega)
      obtain ⟨d1, d2⟩ := div12 h144
      have hm1 : ¬ nI s.2 = -1 := fun z => by
        have := congrArg Int32.toInt z
        rw [nI_toInt (by omega)] at this
        have e : (-1 : Int32).toInt = -1 := rfl
        omega
      rw [if_neg q2, if_neg q2, if_neg hm1, d1, d2]
      by_cases w1 : w = 1
      · rw [if_pos w1, if_pos w1]
      · rw [if_neg w1, if_neg w1]
theorem st_unrest (hI : Inv σ) (x : Int32) : ∃ (r r' : Int32) (σ1 : MH) (σ2 : MH), Pz_unrest x σ = some (r, σ1) ∧ Md_unrest x σ1 = some (r', σ2) ∧ r = r' ∧ Inv σ2 := by
  rcases limN x 2 with ⟨w, hw, rfl⟩ | h
  · obtain ⟨-, L, hL, hC, hM⟩ := hI.2.2.2.2
    obtain ⟨σ1, e1, g1⟩ := c_unrest hI.1 hI.2.1 hL hC hw
    have rt := row_PX (PJ_PX g1)
    obtain ⟨σ2, e2, g2⟩ := m_unrest (σ := σ1) (by rw [rt]; exact hI.2.1) hL (LawM_of hM (fun b k a c => g1 b k (by unfold PJ; omega)) (g1 166 13 (by unfold PJ; omega))) hw
    rw [rt] at e2
    exact ⟨_, _, σ1, σ2, e1, e2, rfl, Inv_q (Inv_q hI (PJ_PX g1)) (PT_PX g2)⟩
  · refine ⟨-1, -1, σ, σ, ?_, ?_, rfl, hI⟩
    · unfold Pz_unrest Pz_unrest0
      rcases h with h | h
      · rw [if_pos h]
      · have h' : (2 : Int32) < x := h
        rw [if_neg (by grind), if_neg (ne_of_lt32 h')]
    · unfold Md_unrest Md_unrest0
      have : Md_in x 0 2 σ = some 0 := limN_n h σ
      rw [this, Option.bind_some, if_pos rfl]
end UNREST
