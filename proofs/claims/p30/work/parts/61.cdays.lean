/-! MEETING, STRAIN, DAYS IN THE CLASS -/
section CLS
variable {L : LawF} {σ : MH} {A : Nat → Int32} {t i j k town : Nat} {S : RS} {s : Int32 × Int32 × Int32}
theorem wFirst_of (w : WF A) (hi : i < 12) (hj : j < 12) (h0 : A i = 0) (h1 : A j = 1) (hf : freeR A i = true) : wFirst A i j = true := by
  unfold wFirst firstR
  rw [if_neg, h0, h1]
  · rw [decide_eq_true (show (0 : Int32) < 1 by decide), Bool.true_or]
  · rw [(free_iff.mp hf).2]
    exact fun q => nI_m2 (by omega) q.symm
theorem c_try (ht : isLd t) (hL : LawOK L) (h : CR L t (A, s) σ) (hi : i < 12) (hj : j < 12) (hij : i ≠ j) (fi : freeR A i = true) (fj : freeR A j = true) (h0 : A i = 0) (h1 : A j = 1) (v2 : Int32) : ∃ σ', ((Land_markTried t (nI i) (nI j) (sI σ 128 2 ((σ.1 128 2) + (1 : Int32)))).bind fun σ5 => (Judge_fit t (nI i) (nI j) σ5).bind fun (x7, σ8) => if x7 = (0 : Int32) then ((Judge_wearOf t (nI i) (nI j) σ8).bind fun (x10, σ11) => (Land_wearDown t (nI i) x10 σ11).bind fun σ14 => (Land_wearDown t (nI j) x10 σ14).bind fun σ17 => Course_meet_b111 t v2 (nI i) σ17) else ((Land_join t (nI i) (nI j) σ8).bind fun σ20 => Course_meet_b111 t v2 (nI i) (sI σ20 128 1 ((σ20.1 128 1) + (1 : Int32))))) = some (.inl (nI (i + 1), σ')) ∧ CR L t (tryR L A i j s) σ' ∧ Fx (PD t) σ σ' := by
  obtain ⟨z1, z2, z3⟩ : (∀ b k, t ≤ b → b < t + 36 → b ≠ 128) ∧ t + 36 < 111 ∧ True := ⟨fun b k a c => by have := ld128 ht; omega, ld128 ht, trivial⟩
  have li := (free_iff.mp fi).1
  have lj := (free_iff.mp fj).1
  have Ti := live_told li
  have Tj := live_told lj
  have hA := CR_cnt h ht 2 (by omega) (σ.1 128 2 + 1)
  have e2 : σ.1 128 2 = s.2.1 := h.2.2.2.2.1
  rw [if_neg (by decide), if_pos rfl, e2] at hA
  dsimp only at hA
  rw [e2, c_markTried ht hi hj hij, Option.bind_some]
  generalize hσ1 : sI σ 128 2 (s.2.1 + 1) = σ1 at hA ⊢
  have F1 : Fx (PD t) σ σ1 := hσ1 ▸ Fx_sI (by unfold PD; omega)
  have o := fun n h => triedR_o (A := A) n h hi hj
  have hD : LD t (triedR A i j) (sI (sI σ1 (t + 5) i (σ1.1 (t + 5) i ||| sh1 j)) (t + 5) j (σ1.1 (t + 5) j ||| sh1 i)) := LD_tried hA.1 hi hj hij
  have F2 : Fx (fun b _ => t ≤ b ∧ b < t + 36) σ1 (sI (sI σ1 (t + 5) i (σ1.1 (t + 5) i ||| sh1 j)) (t + 5) j (σ1.1 (t + 5) j ||| sh1 i)) := (Fx_sI (by omega)).tr (Fx_sI (by omega))
  have hB := CR_land ht hA hD (WF_tried h.2.1 hi hj) F2
  have F3 : Fx (PD t) σ _ := F1.tr (PL_PD F2)
  generalize sI (sI σ1 (t + 5) i (σ1.1 (t + 5) i ||| sh1 j)) (t + 5) j (σ1.1 (t + 5) j ||| sh1 i) = σ2 at hB F3
  unfold tryR
  have hfr : ∀ k, k < 12 → freeR (triedR A i j) k = freeR A k := fun k hk => by
    unfold freeR
    rw [(lt_same (o 108 (by omega)) (o 109 (by omega))).1, o (24 + k) (by omega)]
  have hst : ∀ k, toldR (triedR A i j) k = toldR A k ∧ liveR (triedR A i j) k = liveR A k := fun k => ⟨(lt_same (o 108 (by omega)) (o 109 (by omega))).2, (lt_same (o 108 (by omega)) (o 109 (by omega))).1⟩
  have o0 : triedR A i j i = 0 := by rw [o i (by omega)]; exact h0
  have o1 : triedR A i j j = 1 := by rw [o j (by omega)]; exact h1
  have g1 : toldR (triedR A i j) i = true := by rw [(hst i).1]; exact Ti
  have g2 : toldR (triedR A i j) j = true := by rw [(hst j).1]; exact Tj
  have g3 : liveR (triedR A i j) i = true := by rw [(hst i).2]; exact li
  have g4 : liveR (triedR A i j) j = true := by rw [(hst j).2]; exact lj
  have g5 : freeR (triedR A i j) i = true := by rw [hfr i hi]; exact fi
  have g6 : freeR (triedR A i j) j = true := by rw [hfr j hj]; exact fj
  generalize triedR A i j = B at hB o0 o1 g1 g2 g3 g4 g5 g6
  have wB : WF B := hB.2.1
  obtain ⟨σ3, e3, f3⟩ := c_fit ht hB.1 wB hL hB.2.2.1 hi hj g1 g2
  have hC := CR_PJ ht hB f3
  have F4 : Fx (PD t) σ σ3 := F3.tr (PJ_PD f3)
  rw [e3, Option.bind_some]
  dsimp only
  cases hfit : fitR L B i j
  · rw [bI_f, if_pos rfl, if_neg (by decide)]
    obtain ⟨σ4, e4, f4⟩ := c_wearOf ht hC.1 wB hL hC.2.2.1 hi hj g1 g2 (slack_alive wB hi hj g3 g4)
    rw [if_pos (wFirst_of wB hi hj o0 o1 g5)] at e4
    have hE := CR_PJ ht hC f4
    rw [e4, Option.bind_some]
    dsimp only
    have hy := hL.2 119 9 (factsR B i j (slackR B i j)) (by decide)
    show ∃ σ', ((Land_wearDown t (nI i) (wearByR L B i j) σ4).bind fun σ14 => (Land_wearDown t (nI j) (wearByR L B i j) σ14).bind fun σ17 => Course_meet_b111 t v2 (nI i) σ17) = _ ∧ _
    have hy' : 0 ≤ wearByR L B i j ∧ wearByR L B i j ≤ 9 := hy
    generalize wearByR L B i j = y at hy'
    obtain ⟨σ5, e5, d5, f5⟩ := c_wearDown ht hE.1 hi g1 y
    have w5 : WF (wearR B i y) := WF_wear wB hy'.1 hy'.2
    have f5' : Fx (fun b _ => t ≤ b ∧ b < t + 36) σ4 σ5 := f5.mo (fun b k q => by (try dsimp only at q ⊢); omega)
    have hG := CR_land ht hE d5 w5 f5'
    have oo := fun n h => wearR_o (A := B) (i := i) (y := y) n h
    obtain ⟨σ6, e6, d6, f6⟩ := c_wearDown ht hG.1 hj (by dsimp only; rw [(lt_same (oo 108 (by omega)) (oo 109 (by omega))).2]; exact g2) y
    have f6' : Fx (fun b _ => t ≤ b ∧ b < t + 36) σ5 σ6 := f6.mo (fun b k q => by (try dsimp only at q ⊢); omega)
    have hH := CR_land ht hG d6 (WF_wear w5 hy'.1 hy'.2) f6'
    refine ⟨σ6, ?_, hH, (F4.tr (PJ_PD f4)).tr ((PL_PD f5').tr (PL_PD f6'))⟩
    rw [e5, Option.bind_some, e6, Option.bind_some]
    unfold Course_meet_b111
    rw [lit_nI 1, nI_add]
  · rw [bI_t, if_neg (by decide), if_pos rfl, c_join ht hi hj, Option.bind_some]
    have d7 := LD_wed hC.1 hi hj
    have f7 : Fx (fun b _ => t ≤ b ∧ b < t + 36) σ3 (sI (sI (sI (sI σ3 (t + 3) i (nI j)) (t + 3) j (nI i)) (t + 4) i 0) (t + 4) j 0) := (((Fx_sI (by omega)).tr (Fx_sI (by omega))).tr (Fx_sI (by omega))).tr (Fx_sI (by omega))
    have hE := CR_land ht hC d7 (WF_wed wB hi hj hij g5 g6) f7
    have F5 := F4.tr (PL_PD f7)
    generalize sI (sI (sI (sI σ3 (t + 3) i (nI j)) (t + 3) j (nI i)) (t + 4) i 0) (t + 4) j 0 = σ8 at hE F5
    have e8 : σ8.1 128 1 = s.1 := hE.2.2.2.1
    have hF := CR_cnt hE ht 1 (by omega) (σ8.1 128 1 + 1)
    rw [if_pos rfl, e8] at hF
    refine ⟨sI σ8 128 1 (s.1 + 1), ?_, hF, F5.tr (Fx_sI (by unfold PD; omega))⟩
    unfold Course_meet_b111
    rw [lit_nI 1, nI_add, e8]
theorem c_meet1 (ht : isLd t) (hL : LawOK L) (h : CR L t S σ) (hi : i < 12) (htn : town < 6) : ∃ σ', Course_meet_l10 t (nI town) (nI i) σ = some (.inl (nI (i + 1), σ')) ∧ CR L t (meetR L town i S) σ' ∧ Fx (PD t) σ σ' := by
  obtain ⟨A, s⟩ := S
  obtain ⟨f1, f2, f3, f4⟩ := ix3 12 hi
  unfold Course_meet_l10
  rw [if_neg f1, c_nextFor ht h.1 h.2.1 hi htn, Option.bind_some]
  unfold meetR
  by_cases q : (freeR A i && decide (A i = 0) && decide (A (12 + i) = nI town) && !decide (nextR A i town = 12)) = true
  · obtain ⟨h1, h2, h3, h4, h5, h6, h7⟩ := meet_cond q
    dsimp only
    rw [if_pos q, if_pos q, if_pos (nI_pos' (by omega))]
    exact c_try ht hL h hi h4 h7 h1 h5 h2 h6 (nI town)
  · dsimp only
    rw [if_neg q, if_neg q, if_neg (by decide)]
    refine ⟨σ, ?_, h, Fx.rf⟩
    unfold Course_meet_b111
    rw [lit_nI 1, nI_add]
theorem c_meet (ht : isLd t) (hL : LawOK L) (h : CR L t S σ) : ∃ σ', Course_meet t σ = some σ' ∧ CR L t (fo (fun town S => fo (fun i S => meetR L town i S) 12 S) 6 S) σ' ∧ Fx (PD t) σ σ' := by
  have inner : ∀ town, town < 6 → ∀ (S : RS) (σ : MH), CR L t S σ → ∃ r, Course_meet_L10 t (nI town) (0, σ) = some r ∧ CR L t (fo (fun i S => meetR L town i S) 12 S) r ∧ Fx (PD t) σ r := by
    intro town htn S σ h
    refine itr_n 12 (fun (k : Nat) (z : Int32 × MH) => z.1 = nI k ∧ CR L t (fo (fun i S => meetR L town i S) k S) z.2 ∧ Fx (PD t) σ z.2) _ ⟨rfl, h, Fx.rf⟩ (fun k z hk hz => ?_) (fun z hz => ?_)
    · obtain ⟨z1, z2⟩ := z
      obtain ⟨rfl, hz2, hz3⟩ := hz
      obtain ⟨σ', e, h1, h2⟩ := c_meet1 ht hL hz2 hk htn
      exact Or.inl ⟨_, e, rfl, h1, hz3.tr h2⟩
    · obtain ⟨z1, z2⟩ := z
      obtain ⟨rfl, hz2, hz3⟩ := hz
      refine ⟨z2, ?_, hz2, hz3⟩
      show Course_meet_l10 t (nI town) (nI 12) z2 = _
      unfold Course_meet_l10
      rw [if_pos (by decide)]
  obtain ⟨r, e, h1, h2⟩ : ∃ r, Course_meet_L2 t (0, σ) = some r ∧ CR L t (fo (fun town S => fo (fun i S => meetR L town i S) 12 S) 6 S) r ∧ Fx (PD t) σ r := by
    refine itr_n 6 (fun (k : Nat) (z : Int32 × MH) => z.1 = nI k ∧ CR L t (fo (fun town S => fo (fun i S => meetR L town i S) 12 S) k S) z.2 ∧ Fx (PD t) σ z.2) _ ⟨rfl, h, Fx.rf⟩ (fun k z hk hz => ?_) (fun z hz => ?_)
    · obtain ⟨z1, z2⟩ := z
      obtain ⟨rfl, hz2, hz3⟩ := hz
      obtain ⟨σ', e, h1, h2⟩ := inner k hk _ _ hz2
      refine Or.inl ⟨(nI (k + 1), σ'), ?_, rfl, h1, hz3.tr h2⟩
      show Course_meet_l2 t (nI k) z2 = _
      obtain ⟨f1, f2, f3, f4⟩ := ix3 6 hk
      unfold Course_meet_l2
      rw [if_neg f1, e, Option.bind_some, lit_nI 1, nI_add]
    · obtain ⟨z1, z2⟩ := z
      obtain ⟨rfl, hz2, hz3⟩ := hz
      refine ⟨z2, ?_, hz2, hz3⟩
      show Course_meet_l2 t (nI 6) z2 = _
      unfold Course_meet_l2
      rw [if_pos (by decide)]
  refine ⟨r, ?_, h1, h2⟩
  unfold Course_meet Course_meet0
  rw [e]
  rfl
end CLS
