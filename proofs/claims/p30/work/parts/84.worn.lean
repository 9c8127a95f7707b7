/-! worn: that it answers, and what it leaves -/
section WORN
variable {L : LawF} {σ : MH} {A : Nat → Int32} {i j k n w : Nat}
def SameW (A B : Nat → Int32) : Prop := ∀ n, n < 72 ∨ 84 ≤ n → B n = A n
theorem SameW.wear {A B : Nat → Int32} (h : SameW A B) (i : Nat) (y : Int32) : SameW A (wearR B i y) := fun n hn => (wearR_o n hn).trans (h n hn)
theorem SameW.told {A B : Nat → Int32} (h : SameW A B) (i : Nat) : toldR B i = toldR A i := by
  unfold toldR
  rw [h 108 (by omega)]
theorem c_worn_go (hD : LD 73 A σ) (wf : WF A) (hi : i < 12) (hj : j < 12) (Ti : toldR A i = true) (Tj : toldR A j = true) {y : Int32} (h0 : 0 ≤ y) (h9 : y ≤ 9) (al : Int32) : ∃ r, Pz_worn_L88 (nI i) (nI j) al y (0, σ) = some r ∧ Fx (fun b _ => b = 80) σ r.2 := by
  refine itr_n 100 (fun (k : Nat) (z : Int32 × MH) => z.1 = nI k ∧ Fx (fun b _ => b = 80) σ z.2 ∧ ∃ B, LD 73 B z.2 ∧ WF B ∧ SameW A B) _ ⟨rfl, Fx.rf, A, hD, wf, fun _ _ => rfl⟩ (fun k z hk hz => ?_) (fun z hz => ?_)
  · obtain ⟨z1, z2⟩ := z
    obtain ⟨e1, hf, B, hB, wB, sB⟩ := hz
    dsimp only at e1 hf hB
    subst e1
    have Bi : toldR B i = true := (sB.told i).trans Ti
    have Bj : toldR B j = true := (sB.told j).trans Tj
    obtain ⟨σ1, e1, d1, p1⟩ := c_wearDown ld73 hB hi Bi y
    obtain ⟨σ2, e2, d2, p2⟩ := c_wearDown ld73 d1 hj (((SameW.wear (fun _ _ => rfl) i y).told j).trans Bj) y
    have eb : Pz_worn_b124 (nI i) (nI j) al y (nI k) z2 = some (.inl (nI (k + 1), σ2)) := by
      unfold Pz_worn_b124
      rw [e1, Option.bind_some, e2, Option.bind_some, show nI k + 1 = nI (k + 1) from nI_1 _]
    have go : ∃ s', Pz_worn_b124 (nI i) (nI j) al y (nI k) z2 = some (.inl s') ∧ s'.1 = nI (k + 1) ∧ Fx (fun b _ => b = 80) σ s'.2 ∧ ∃ B, LD 73 B s'.2 ∧ WF B ∧ SameW A B := ⟨_, eb, rfl, (hf.tr (p1.mo (fun b k q => by omega))).tr (p2.mo (fun b k q => by omega)), _, d2, WF_wear (WF_wear wB h0 h9) h0 h9, (sB.wear i y).wear j y⟩
    have ub : Pz_worn_l88 (nI i) (nI j) al y (nI k) z2 = (if slackR B i j < 0 then Pz_worn_b124 (nI i) (nI j) al y (nI k) z2 else if al < slackR B i j then Pz_worn_b124 (nI i) (nI j) al y (nI k) z2 else some (.inr (nI k, z2))) := by
      unfold Pz_worn_l88
      rw [if_neg (mt (ltR 99 (by omega) (by decide)).mp (by omega)), c_slackOf ld73 hB wB hi hj Bi Bj, Option.bind_some]
    show (∃ s', Pz_worn_l88 (nI i) (nI j) al y (nI k) z2 = some (.inl s') ∧ _) ∨ (∃ r, Pz_worn_l88 (nI i) (nI j) al y (nI k) z2 = some (.inr r) ∧ _)
    rw [ub]
    split
    · exact Or.inl go
    · split
      · exact Or.inl go
      · exact Or.inr ⟨_, rfl, hf⟩
  · obtain ⟨z1, z2⟩ := z
    obtain ⟨e1, hf, -⟩ := hz
    dsimp only at e1 hf
    subst e1
    refine ⟨(-2, z2), ?_, hf⟩
    show Pz_worn_l88 (nI i) (nI j) al y (nI 100) z2 = _
    unfold Pz_worn_l88
    rw [if_pos (by decide)]
theorem c_worn_no {x y : Int32} (hI : Inv σ) : (∃ i j, i < 12 ∧ j < 12 ∧ x = nI i ∧ y = nI j ∧ liveR (σ.1 167) i = true ∧ liveR (σ.1 167) j = true ∧ σ.1 167 i ≠ σ.1 167 j) ∨ (Pz_worn x y σ = some (-1, σ) ∧ Md_worn x y σ = some (-1, σ)) := by
  unfold Pz_worn Pz_worn0 Md_worn Md_worn0
  rcases tw_ix x with ⟨i, hi, rfl⟩ | h
  · obtain ⟨f1, f2, f3, f4⟩ := ix3 12 hi
    rw [c_isAlive hI.1 hI.2.1 hi, m_lives hi, Option.bind_some, Option.bind_some]
    cases hl : liveR (σ.1 167) i
    · exact Or.inr ⟨rfl, rfl⟩
    · rw [bI_t, if_neg (show ¬ (1 : Int32) = 0 by decide), if_neg (show ¬ (1 : Int32) = 0 by decide)]
      rcases tw_ix y with ⟨j, hj, rfl⟩ | h
      · obtain ⟨g1, g2, g3, g4⟩ := ix3 12 hj
        rw [c_isAlive hI.1 hI.2.1 hj, m_lives hj, Option.bind_some, Option.bind_some]
        cases hl2 : liveR (σ.1 167) j
        · exact Or.inr ⟨rfl, rfl⟩
        · rw [bI_t, if_neg (show ¬ (1 : Int32) = 0 by decide), if_neg (show ¬ (1 : Int32) = 0 by decide), if_pos f2, if_pos g2, f3, g3, lit0k, lit0k, if_pos (ix0 hi).1, if_pos (ix0 hj).1, (ix0 hi).2, (ix0 hj).2, (hI.1.2.1 i hi).1, (hI.1.2.1 j hj).1]
          by_cases q : σ.1 167 i = σ.1 167 j
          · rw [if_pos q, if_pos q]
            exact Or.inr ⟨rfl, rfl⟩
          · exact Or.inl ⟨i, j, hi, hj, rfl, rfl, hl, hl2, q⟩
      · rw [c_isAliveF h, m_livesF h]
        exact Or.inr ⟨rfl, rfl⟩
  · rw [c_isAliveF h, m_livesF h]
    exact Or.inr ⟨rfl, rfl⟩
theorem c_worn_yes (hI : Inv σ) (hL : LawOK L) (hC : LawC L σ) (hi : i < 12) (hj : j < 12) (li : liveR (σ.1 167) i = true) (lj : liveR (σ.1 167) j = true) (q : σ.1 167 i ≠ σ.1 167 j) : ∃ r σ', Pz_worn (nI i) (nI j) σ = some (r, σ') ∧ Fx PC σ σ' := by
  obtain ⟨f1, f2, f3, f4⟩ := ix3 12 hi
  obtain ⟨g1, g2, g3, g4⟩ := ix3 12 hj
  have Ti := live_told li
  have Tj := live_told lj
  have hs := slack_alive hI.2.1 hi hj li lj
  obtain ⟨σ1, e1, p1⟩ := c_allowance ld1 hI.1 hI.2.1 hL hC hi hj Ti Tj
  have hD1 := LD_PJ ld1 hI.1 p1
  have hC1 := LawC_PJ hC p1
  obtain ⟨σ2, e2, p2⟩ := c_wearOf ld1 hD1 hI.2.1 hL hC1 hi hj Ti Tj hs
  have hD2 := LD_PJ ld1 hD1 p2
  obtain ⟨σ3, e3, c3, p3⟩ := c_copyFrom (t := 73) (u := 1) (by omega) σ2
  have hy : ∀ f, 0 ≤ L 119 9 f ∧ L 119 9 f ≤ 9 := fun f => hL.2 119 9 f (by decide)
  have hyw : 0 ≤ (if wFirst (σ.1 167) i j = true then L 119 9 (factsR (σ.1 167) i j (slackR (σ.1 167) i j)) else L 119 9 (factsR (σ.1 167) j i (slackR (σ.1 167) i j))) ∧ (if wFirst (σ.1 167) i j = true then L 119 9 (factsR (σ.1 167) i j (slackR (σ.1 167) i j)) else L 119 9 (factsR (σ.1 167) j i (slackR (σ.1 167) i j))) ≤ 9 := by
    split
    · exact hy _
    · exact hy _
  obtain ⟨r, e4, p4⟩ := c_worn_go (LD_CP hD2 c3) hI.2.1 hi hj Ti Tj hyw.1 hyw.2 (allowR L (σ.1 167) i j)
  refine ⟨r.1, r.2, ?_, (((p1.mo (fun b k q => by unfold PJ at q; unfold PC; omega)).tr (p2.mo (fun b k q => by unfold PJ at q; unfold PC; omega))).tr (p3.mo (fun b k q => by unfold PC; omega))).tr (p4.mo (fun b k q => by unfold PC; omega))⟩
  unfold Pz_worn Pz_worn0
  rw [c_isAlive hI.1 hI.2.1 hi, Option.bind_some, li, bI_t, if_neg (show ¬ (1 : Int32) = 0 by decide), c_isAlive hI.1 hI.2.1 hj, Option.bind_some, lj, bI_t, if_neg (show ¬ (1 : Int32) = 0 by decide), if_pos f2, if_pos g2, f3, g3, (hI.1.2.1 i hi).1, (hI.1.2.1 j hj).1, if_neg q, e1, Option.bind_some]
  dsimp only
  rw [e2, Option.bind_some]
  dsimp only
  rw [e3, Option.bind_some, e4]
  rfl
/-- the reference, from the one of SIDE 0 -/
theorem m_worn64 (hL : LawOK L) (hM : LawM L σ) (hi : i < 12) (hj : j < 12) : ∃ r σ', Md_worn_b64 (nI i) (nI j) σ = some (r, σ') ∧ Fx (fun b k => b = 167 ∨ b = 168 ∨ PK b k) σ σ' ∧ ∀ k, k < 1936 → σ'.1 167 k = σ.1 167 k := by
  obtain ⟨σ1, e1, p1⟩ := m_wearsBy hL hM hi hj
  have hM1 := LawM_PK hM p1
  have r1 := row_PK p1
  unfold Md_worn_b64
  rw [e1, Option.bind_some]
  dsimp only
  rw [m_copiesRow (by decide), Option.bind_some]
  have F1 : Fx (fun b k => b = 167 ∨ b = 168 ∨ PK b k) σ (sR σ1 168 (fun m => if m < 1936 then σ1.1 167 m else σ1.1 168 m)) := (p1.mo (fun b k q => Or.inr (Or.inr q))).tr (Fx_row (fun _ => Or.inr (Or.inl rfl)))
  have r8 : (sR σ1 168 (fun m => if m < 1936 then σ1.1 167 m else σ1.1 168 m)).1 168 = fun m => if m < 1936 then σ.1 167 m else σ1.1 168 m := by rw [sR_at, r1]
  have hM2 : LawM L (sR σ1 168 (fun m => if m < 1936 then σ1.1 167 m else σ1.1 168 m)) := LawM_of hM1 (fun b k a c => by rw [sR_ne _ _ (by omega)]) (by rw [sR_ne _ _ (by omega)])
  generalize sR σ1 168 (fun m => if m < 1936 then σ1.1 167 m else σ1.1 168 m) = σ2 at F1 r8 hM2 ⊢
  obtain ⟨r, e2, p2⟩ : ∃ r, Md_worn_L89 (nI i) (nI j) (wearByR L (σ.1 167) i j) (0, σ2) = some r ∧ Fx (fun b k => b = 167 ∨ PK b k) σ2 r.2 := by
    refine itr_n 100 (fun (k : Nat) (z : Int32 × MH) => z.1 = nI k ∧ Fx (fun b k => b = 167 ∨ PK b k) σ2 z.2) _ ⟨rfl, Fx.rf⟩ (fun k z hk hz => ?_) (fun z hz => ?_)
    · obtain ⟨z1, z2⟩ := z
      obtain ⟨rfl, hf⟩ := hz
      dsimp only at hf
      obtain ⟨σ3, e3, p3⟩ := m_fit (σ := z2) hL (LawM_of hM2 (fun b k a c => hf b k (by unfold PK; omega)) (hf 166 13 (by unfold PK; omega))) hi hj
      have hf3 := hf.tr (p3.mo (fun b k q => Or.inr q))
      have u : Md_worn_l89 (nI i) (nI j) (wearByR L (σ.1 167) i j) (nI k) z2 = if bI (fitR L (z2.1 167) i j) = 0 then some (.inl (nI (k + 1), sR (sR σ3 167 (wearR (σ3.1 167) i (wearByR L (σ.1 167) i j))) 167 (wearR ((sR σ3 167 (wearR (σ3.1 167) i (wearByR L (σ.1 167) i j))).1 167) j (wearByR L (σ.1 167) i j)))) else some (.inr (nI k, σ3)) := by
        unfold Md_worn_l89
        rw [if_neg (mt (leR 100 (by omega) (by decide)).mp (by omega)), e3, Option.bind_some]
        dsimp only
        rw [m_wearsAll hi, Option.bind_some, m_wearsAll hj, Option.bind_some, show nI k + 1 = nI (k + 1) from nI_1 _]
      show (∃ s', Md_worn_l89 (nI i) (nI j) (wearByR L (σ.1 167) i j) (nI k) z2 = some (.inl s') ∧ _) ∨ (∃ r, Md_worn_l89 (nI i) (nI j) (wearByR L (σ.1 167) i j) (nI k) z2 = some (.inr r) ∧ _)
      rw [u]
      split
      · exact Or.inl ⟨_, rfl, rfl, (hf3.tr (Fx_row (fun _ => Or.inl rfl))).tr (Fx_row (fun _ => Or.inl rfl))⟩
      · exact Or.inr ⟨_, rfl, hf3⟩
    · obtain ⟨z1, z2⟩ := z
      obtain ⟨rfl, hf⟩ := hz
      refine ⟨(nI 100, z2), ?_, hf⟩
      show Md_worn_l89 (nI i) (nI j) (wearByR L (σ.1 167) i j) (nI 100) z2 = _
      unfold Md_worn_l89
      rw [if_pos (by decide)]
  obtain ⟨σ4, e4, p4⟩ := m_fit (σ := r.2) hL (LawM_of hM2 (fun b k a c => p2 b k (by unfold PK; omega)) (p2 166 13 (by unfold PK; omega))) hi hj
  have F4 : Fx (fun b k => b = 167 ∨ PK b k) σ2 σ4 := p2.tr (p4.mo (fun b k q => Or.inr q))
  have r9 : σ4.1 168 = fun m => if m < 1936 then σ.1 167 m else σ1.1 168 m := by
    rw [← r8]
    exact funext fun k => F4 168 k (by unfold PK; omega)
  have u : Md_worn_b130 (nI i) (nI j) r.1 r.2 = some (if bI (fitR L (r.2.1 167) i j) = 0 then -2 else r.1, sR σ4 167 (fun m => if m < 1936 then σ4.1 168 m else σ4.1 167 m)) := by
    unfold Md_worn_b130
    rw [e4, Option.bind_some]
    dsimp only
    rw [m_copiesRow (by decide), Option.bind_some]
    split <;> rfl
  rw [e2, Option.bind_some, u]
  refine ⟨_, _, rfl, (F1.tr (F4.mo (fun b k q => by unfold PK at *; omega))).tr (Fx_row (fun _ => Or.inl rfl)), fun k hk => ?_⟩
  rw [sR_at]
  show (if k < 1936 then σ4.1 168 k else σ4.1 167 k) = _
  rw [if_pos hk, r9]
  exact if_pos hk
theorem m_worn_yes (wf : WF (σ.1 167)) (hL : LawOK L) (hM : LawM L σ) (hi : i < 12) (hj : j < 12) (li : liveR (σ.1 167) i = true) (lj : liveR (σ.1 167) j = true) (q : σ.1 167 i ≠ σ.1 167 j) : ∃ r σ', Md_worn (nI i) (nI j) σ = some (r, σ') ∧ Fx (fun b k => b = 167 ∨ b = 168 ∨ PK b k) σ σ' ∧ ∀ k, k < 1936 → σ'.1 167 k = σ.1 167 k := by
  have key : Md_worn (nI i) (nI j) σ = Md_worn_b64 (nI i) (nI j) σ ∨ Md_worn (nI i) (nI j) σ = Md_worn_b64 (nI j) (nI i) σ := by
    unfold Md_worn Md_worn0 Md_worn_b53
    rw [m_lives hi, Option.bind_some, li, bI_t, if_neg (show ¬ (1 : Int32) = 0 by decide), m_lives hj, Option.bind_some, lj, bI_t, if_neg (show ¬ (1 : Int32) = 0 by decide), lit0k, lit0k, if_pos (ix0 hi).1, if_pos (ix0 hj).1, (ix0 hi).2, (ix0 hj).2, if_neg q]
    by_cases c : σ.1 167 i = 0
    · rw [if_pos c, if_pos rfl]; exact Or.inl rfl
    · rw [if_neg c]
      have hij : nI j ≠ nI i := fun z => by
        have := (nI_eq (by omega) (by omega)).mp z
        rw [this] at q
        exact q rfl
      rw [if_neg hij]
      exact Or.inr rfl
  rcases key with e | e
  · rw [e]; exact m_worn64 hL hM hi hj
  · rw [e]; exact m_worn64 hL hM hj hi
theorem st_worn (hI : Inv σ) (x y : Int32) : ∃ (r r' : Int32) (σ1 : MH) (σ2 : MH), Pz_worn x y σ = some (r, σ1) ∧ Md_worn x y σ1 = some (r', σ2) ∧ Inv σ2 := by
  rcases c_worn_no (x := x) (y := y) hI with ⟨i, j, hi, hj, rfl, rfl, li, lj, q⟩ | ⟨e1, e2⟩
  · obtain ⟨-, L, hL, hC, hM⟩ := hI.2.2.2.2
    obtain ⟨r, σ1, e1, p1⟩ := c_worn_yes hI hL hC hi hj li lj q
    have p1' : Fx PX σ σ1 := p1.mo (fun b k q => Or.inl q)
    have hJ : Inv σ1 := Inv_q hI p1'
    have rt := row_PX p1'
    have hM1 : LawM L σ1 := LawM_of hM (fun b k a c => p1 b k (by unfold PC; omega)) (p1 166 13 (by unfold PC; omega))
    obtain ⟨r', σ2, e2, f2, g2⟩ := m_worn_yes (σ := σ1) hJ.2.1 hL hM1 hi hj (by rw [rt]; exact li) (by rw [rt]; exact lj) (by rw [rt]; exact q)
    refine ⟨r, r', σ1, σ2, e1, e2, ?_⟩
    refine Inv_land hJ (f2.mo (fun b k q => by unfold PK at q; unfold PLd PX PC PQ; omega)) ?_ (WF_agree hJ.2.1 g2)
    exact LD_agree (LD_of hJ.1 (fun b k a c => f2 b k (by unfold PK; omega))) g2
  · exact ⟨-1, -1, σ, σ, e1, e2, hI⟩
end WORN
