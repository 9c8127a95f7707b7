/-! STRAIN AND DAYS IN THE REFERENCE -/
section MDL
variable {L : LawF} {σ : MH} {A : Nat → Int32} {i j k town : Nat} {S : RS} {s : Int32 × Int32 × Int32}
theorem lot_eq (w : WF A) : jrem ((25173 * A 111) + 13849) 65536 = lotR A := by
  obtain ⟨h1, h2⟩ := w.2.2.2.1
  have e1 : (65535 : Int32).toInt = ((65535 : Nat) : Int) := rfl
  obtain ⟨n, hn, e⟩ := nI_of2 (n := 65535) e1 (Int32.not_lt.mpr h1) h2
  unfold lotR jrem
  rw [e, show (25173 : Int32) = nI 25173 from rfl, show (13849 : Int32) = nI 13849 from rfl, show (65536 : Int32) = nI 65536 from rfl, pk_mul, nI_add, pk_rem (by omega) (by decide) (by decide), pk_andN (by omega) 16 (by decide)]
theorem m_draws (w : WF (σ.1 167)) : Md_draws σ = some (jrem (lotR (σ.1 167)) 10, sR σ 167 (upd (σ.1 167) 111 (lotR (σ.1 167)))) := by
  unfold Md_draws Md_draws0
  rw [sI_same, lot_eq w, sI_sR]
theorem m_creak2 (hL : LawOK L) {A0 : Nat → Int32} (h : MR L (A, s) σ) (hi : i < 12) (hj : j < 12) (hij : i ≠ j) (ei : A (24 + i) = nI j) (hs : slackR A0 i j = slackR A i j) : ∃ σ', Md_creak_b95 (nI i) (nI j) σ = some σ' ∧ MR L (creak2 L A0 A i j s) σ' ∧ Fx PM σ σ' := by
  have b1 := ixc (c := 36) hi (by decide)
  have hrow : σ.1 167 = A := h.1
  obtain ⟨σ1, σ2, e1, f1, e2, f2⟩ := m_law hL h.2.1 hi hj 98 99 (slackR A i j) (by decide)
  have h2 := MR_PK h f2
  have F2 := PK_PM f2
  rw [hrow] at e2
  unfold Md_creak_b95 creak2
  rw [m_slackBy hi hj, Option.bind_some, hrow, e1, Option.bind_some, lit_nI 36, if_pos b1.1, e2, Option.bind_some, hs]
  dsimp only
  rw [b1.2, row_PK f1, hrow]
  by_cases q : L 98 99 (factsR A i j (slackR A i j)) < A (36 + i)
  · rw [if_pos q, if_pos q, m_parts hi hj (by rw [h2.1]; exact ei), Option.bind_some, h2.1]
    dsimp only
    have h3 := MR_row h2 (partR A i j)
    have F3 := F2.tr (row_PM (B := partR A i j))
    generalize sR σ2 167 (partR A i j) = σ3 at h3 F3 ⊢
    rw [m_haveTried hi hj hij, Option.bind_some, h3.1]
    dsimp only
    have h4 := MR_row h3 (triedR (partR A i j) i j)
    have F4 := F3.tr (row_PM (B := triedR (partR A i j) i j))
    generalize sR σ3 167 (triedR (partR A i j) i j) = σ4 at h4 F4 ⊢
    have e4 : σ4.1 166 33 = s.2.2 := h4.2.2.2.2
    have h5 := MR_cnt h4 33 (by omega) (s.2.2 + 1)
    rw [if_neg (by decide), if_neg (by decide)] at h5
    rw [e4]
    exact ⟨_, rfl, h5, F4.tr (Fx_sI (by unfold PM; omega))⟩
  · rw [if_neg q, if_neg q]
    exact ⟨σ2, rfl, h2, F2⟩
theorem m_creak (hL : LawOK L) (h : MR L S σ) (w : WF S.1) (hi : i < 12) : ∃ σ', Md_creak (nI i) σ = some σ' ∧ MR L (creakR L i S) σ' ∧ Fx PM σ σ' := by
  obtain ⟨A, s⟩ := S
  have hrow : σ.1 167 = A := h.1
  have w : WF A := w
  have b1 := ixc (c := 24) hi (by decide)
  have b2 := ixc (c := 36) hi (by decide)
  unfold Md_creak Md_creak0 creakR
  rw [lit_nI 24, if_pos b1.1, b1.2, hrow]
  dsimp only
  by_cases q : nI i ≤ A (24 + i)
  · obtain ⟨j, hj, hji, ei, ej, li, lj, ecl, hlt⟩ := wed_with w hi q
    have b3 := ixc (c := 36) hj (by decide)
    have hij : i ≠ j := Ne.symm hji
    rw [if_pos q, if_pos q, ei, m_draws (by rw [hrow]; exact w), Option.bind_some, hrow]
    dsimp only
    rw [show (nI j).toNatClampNeg = j from nI_clamp (by omega)]
    have h1 := MR_row h (upd A 111 (lotR A))
    have F1 : Fx PM σ _ := row_PM (σ := σ) (B := upd A 111 (lotR A))
    generalize sR σ 167 (upd A 111 (lotR A)) = σ1 at h1 F1 ⊢
    have ol : ∀ n, n ≠ 111 → upd A 111 (lotR A) n = A n := fun n h => by rw [upd_at, if_neg h]
    have es1 : slackR (upd A 111 (lotR A)) i j = slackR A i j := slackR_ext (fun n a b => ol n (by omega)) (fun n a b => ol n (by omega)) (fun n a b => ol n (by omega)) hi hj
    have hrow1 : σ1.1 167 = upd A 111 (lotR A) := h1.1
    obtain ⟨σ2, σ3, e2, f2, e3, f3⟩ := m_law hL h1.2.1 hi hj 99 10 (slackR A i j) (by decide)
    have h3 := MR_PK h1 f3
    have F3 := F1.tr (PK_PM f3)
    rw [hrow1] at e3
    rw [m_slackBy hi hj, Option.bind_some, hrow1, es1, e2, Option.bind_some, e3, Option.bind_some]
    dsimp only
    unfold creak1
    by_cases q2 : jrem (lotR A) 10 < L 99 10 (factsR (upd A 111 (lotR A)) i j (slackR A i j))
    · rw [if_neg (ne_of_lt32 q2), if_pos q2, lit_nI 36, if_pos b2.1, b2.2, h3.1, m_min, Option.bind_some]
      dsimp only
      rw [if_pos b3.1, b3.2, m_min, Option.bind_some]
      simp only [sI_sR, sR_sR, sR_at, h3.1]
      have ecu : creakUp (upd A 111 (lotR A)) i j = upd (upd (upd A 111 (lotR A)) (36 + i) (jmin 99 (upd A 111 (lotR A) (36 + i) + 1))) (36 + j) (jmin 99 (upd (upd A 111 (lotR A)) (36 + i) (jmin 99 (upd A 111 (lotR A) (36 + i) + 1)) (36 + j) + 1)) := by
        unfold creakUp
        rw [upd_at (upd A 111 (lotR A)) (36 + i) (36 + j), if_neg (show ¬ 36 + j = 36 + i by omega)]
      rw [← ecu]
      have h4 := MR_row h3 (creakUp (upd A 111 (lotR A)) i j)
      have F4 := F3.tr (row_PM (B := creakUp (upd A 111 (lotR A)) i j))
      generalize sR σ3 167 (creakUp (upd A 111 (lotR A)) i j) = σ4 at h4 F4 ⊢
      have ou : ∀ n, (n < 36 ∨ 48 ≤ n) → creakUp (upd A 111 (lotR A)) i j n = upd A 111 (lotR A) n := fun n h => by
        unfold creakUp
        rw [upd_at, if_neg (by omega), upd_at, if_neg (by omega)]
      obtain ⟨σ', e, h5, F5⟩ := m_creak2 (A0 := A) hL h4 hi hj hij (by rw [ou _ (by omega), ol _ (by omega)]; exact ei) (by rw [slackR_ext (A := upd A 111 (lotR A)) (fun n a b => ou n (by omega)) (fun n a b => ou n (by omega)) (fun n a b => ou n (by omega)) hi hj, es1])
      exact ⟨σ', e, h5, F4.tr F5⟩
    · rw [if_pos (Int32.not_lt.mp q2), if_neg q2]
      obtain ⟨σ', e, h5, F5⟩ := m_creak2 (A0 := A) hL h3 hi hj hij (by rw [ol _ (by omega)]; exact ei) es1.symm
      exact ⟨σ', e, h5, F3.tr F5⟩
  · rw [if_neg q, if_neg q]
    exact ⟨σ, rfl, h, Fx.rf⟩
theorem m_work (hL : LawOK L) (h : MR L S σ) (w : WF S.1) (v1 v2 : Int32) : ∃ σ1 σ2 σ3, Md_daysGo_L37 v1 v2 (0, σ) = some σ1 ∧ Md_daysGo_L56 v1 v2 (0, σ1) = some σ2 ∧ Md_daysGo_L93 v1 v2 (0, σ2) = some σ3 ∧ MR L (workR L S) σ3 ∧ Fx PM σ σ3 := by
  obtain ⟨A, s⟩ := S
  have w : WF A := w
  have t1 : ∃ r, Md_daysGo_L37 v1 v2 (0, σ) = some r ∧ MR L (fo (fun i A => travelR A i) 12 A, s) r ∧ Fx PM σ r := by
    refine itr_n 12 (fun (k : Nat) (z : Int32 × MH) => z.1 = nI k ∧ MR L (fo (fun i A => travelR A i) k A, s) z.2 ∧ Fx PM σ z.2) _ ⟨rfl, h, Fx.rf⟩ (fun k z hk hz => ?_) (fun z hz => ?_)
    · obtain ⟨z1, z2⟩ := z
      obtain ⟨rfl, hz2, hz3⟩ := hz
      obtain ⟨f1, f2, f3, f4⟩ := ix3 12 hk
      refine Or.inl ⟨(nI (k + 1), sR z2 167 (travelR (fo (fun i A => travelR A i) k A) k)), ?_, rfl, MR_row hz2 _, hz3.tr row_PM⟩
      show Md_daysGo_l37 v1 v2 (nI k) z2 = _
      unfold Md_daysGo_l37
      rw [if_neg f1, m_travels (by rw [hz2.1]; exact (travels_ok w k (by omega)).1) hk, Option.bind_some, hz2.1, lit_nI 1, nI_add]
    · obtain ⟨z1, z2⟩ := z
      obtain ⟨rfl, hz2, hz3⟩ := hz
      refine ⟨z2, ?_, hz2, hz3⟩
      show Md_daysGo_l37 v1 v2 (nI 12) z2 = _
      unfold Md_daysGo_l37
      rw [if_pos (by decide)]
  obtain ⟨σ1, e1, h1, f1⟩ := t1
  have inner : ∀ town, town < 6 → ∀ (S : RS) (σ : MH), MR L S σ → ∃ r, Md_daysGo_L65 v1 v2 (nI town) (0, σ) = some r ∧ MR L (fo (fun i S => meetR L town i S) 12 S) r ∧ Fx PM σ r := by
    intro town htn S σ h
    refine itr_n 12 (fun (k : Nat) (z : Int32 × MH) => z.1 = nI k ∧ MR L (fo (fun i S => meetR L town i S) k S) z.2 ∧ Fx PM σ z.2) _ ⟨rfl, h, Fx.rf⟩ (fun k z hk hz => ?_) (fun z hz => ?_)
    · obtain ⟨z1, z2⟩ := z
      obtain ⟨rfl, hz2, hz3⟩ := hz
      obtain ⟨f1, f2, f3, f4⟩ := ix3 12 hk
      obtain ⟨σ', e, h1, h2⟩ := m_meet1 (town := town) hL hz2 hk
      refine Or.inl ⟨(nI (k + 1), σ'), ?_, rfl, h1, hz3.tr h2⟩
      show Md_daysGo_l65 v1 v2 (nI town) (nI k) z2 = _
      unfold Md_daysGo_l65
      rw [if_neg f1, e, Option.bind_some, lit_nI 1, nI_add]
    · obtain ⟨z1, z2⟩ := z
      obtain ⟨rfl, hz2, hz3⟩ := hz
      refine ⟨z2, ?_, hz2, hz3⟩
      show Md_daysGo_l65 v1 v2 (nI town) (nI 12) z2 = _
      unfold Md_daysGo_l65
      rw [if_pos (by decide)]
  have t2 : ∃ r, Md_daysGo_L56 v1 v2 (0, σ1) = some r ∧ MR L (fo (fun town S => fo (fun i S => meetR L town i S) 12 S) 6 ((fo (fun i A => travelR A i) 12 A, s) : RS)) r ∧ Fx PM σ1 r := by
    refine itr_n 6 (fun (k : Nat) (z : Int32 × MH) => z.1 = nI k ∧ MR L (fo (fun town S => fo (fun i S => meetR L town i S) 12 S) k ((fo (fun i A => travelR A i) 12 A, s) : RS)) z.2 ∧ Fx PM σ1 z.2) _ ⟨rfl, h1, Fx.rf⟩ (fun k z hk hz => ?_) (fun z hz => ?_)
    · obtain ⟨z1, z2⟩ := z
      obtain ⟨rfl, hz2, hz3⟩ := hz
      obtain ⟨σ', e, h1, h2⟩ := inner k hk _ _ hz2
      refine Or.inl ⟨(nI (k + 1), σ'), ?_, rfl, h1, hz3.tr h2⟩
      show Md_daysGo_l56 v1 v2 (nI k) z2 = _
      obtain ⟨f1, f2, f3, f4⟩ := ix3 6 hk
      unfold Md_daysGo_l56
      rw [if_neg f1, e, Option.bind_some, lit_nI 1, nI_add]
    · obtain ⟨z1, z2⟩ := z
      obtain ⟨rfl, hz2, hz3⟩ := hz
      refine ⟨z2, ?_, hz2, hz3⟩
      show Md_daysGo_l56 v1 v2 (nI 6) z2 = _
      unfold Md_daysGo_l56
      rw [if_pos (by decide)]
  obtain ⟨σ2, e2, h2, f2⟩ := t2
  have w2 := (towns_ok hL ((fo (fun i A => travelR A i) 12 A, s) : RS) (travels_ok w 12 (Nat.le_refl _)).1 6).1
  have t3 : ∃ r, Md_daysGo_L93 v1 v2 (0, σ2) = some r ∧ MR L (workR L (A, s)) r ∧ Fx PM σ2 r := by
    unfold workR
    generalize (fo (fun town S => fo (fun i S => meetR L town i S) 12 S) 6 ((fo (fun i A => travelR A i) 12 A, s) : RS)) = S2 at h2 w2
    refine itr_n 12 (fun (k : Nat) (z : Int32 × MH) => z.1 = nI k ∧ MR L (fo (fun i S => creakR L i S) k S2) z.2 ∧ Fx PM σ2 z.2) _ ⟨rfl, h2, Fx.rf⟩ (fun k z hk hz => ?_) (fun z hz => ?_)
    · obtain ⟨z1, z2⟩ := z
      obtain ⟨rfl, hz2, hz3⟩ := hz
      obtain ⟨f1, f2, f3, f4⟩ := ix3 12 hk
      obtain ⟨σ', e, h1, h2⟩ := m_creak hL hz2 (creaks_ok S2 w2 k (by omega)).1 hk
      refine Or.inl ⟨(nI (k + 1), σ'), ?_, rfl, h1, hz3.tr h2⟩
      show Md_daysGo_l93 v1 v2 (nI k) z2 = _
      unfold Md_daysGo_l93
      rw [if_neg f1, e, Option.bind_some, lit_nI 1, nI_add]
    · obtain ⟨z1, z2⟩ := z
      obtain ⟨rfl, hz2, hz3⟩ := hz
      refine ⟨z2, ?_, hz2, hz3⟩
      show Md_daysGo_l93 v1 v2 (nI 12) z2 = _
      unfold Md_daysGo_l93
      rw [if_pos (by decide)]
  obtain ⟨σ3, e3, h3, f3⟩ := t3
  exact ⟨σ1, σ2, σ3, e1, e2, e3, h3, (f1.tr f2).tr f3⟩
theorem m_daysGo (hL : LawOK L) (hM : LawM L σ) (w : WF (σ.1 167)) {n : Nat} (hn : n ≤ 60) : ∃ σ', Md_daysGo (nI n) σ = some σ' ∧ MR L (daysR L n (σ.1 167)) σ' ∧ Fx PM σ σ' := by
  have h0 : MR L (σ.1 167, 0, 0, 0) (sI (sI (sI σ 166 31 0) 166 32 0) 166 33 0) := by
    refine ⟨?_, LawM_of hM (fun b k a c => by rw [sI_obj (by omega), sI_obj (by omega), sI_obj (by omega)]) ?_, ?_, ?_, sI_same⟩
    · rw [sI_objF (by decide), sI_objF (by decide), sI_objF (by decide)]
    · rw [sI_fld (by decide), sI_fld (by decide), sI_fld (by decide)]
    · rw [sI_fld (by decide), sI_fld (by decide), sI_same]
    · rw [sI_fld (by decide), sI_same]
  have F0 : Fx PM σ (sI (sI (sI σ 166 31 0) 166 32 0) 166 33 0) := ((Fx_sI (by unfold PM; omega)).tr (Fx_sI (by unfold PM; omega))).tr (Fx_sI (by unfold PM; omega))
  have eP : Md_daysGo (nI n) σ = Md_daysGo_L17 (nI n) (0, sI (sI (sI σ 166 31 0) 166 32 0) 166 33 0) := by
    unfold Md_daysGo Md_daysGo0
    cases Md_daysGo_L17 (nI n) (0, sI (sI (sI σ 166 31 0) 166 32 0) 166 33 0) <;> rfl
  rw [eP]
  generalize sI (sI (sI σ 166 31 0) 166 32 0) 166 33 0 = σ0 at h0 F0
  generalize σ.1 167 = A at *
  refine itr_n n (fun (d : Nat) (z : Int32 × MH) => z.1 = nI d ∧ MR L (daysR L d A) z.2 ∧ Fx PM σ z.2) _ ⟨rfl, h0, F0⟩ (fun d z hd hz => ?_) (fun z hz => ?_) (by show n < 1000000; omega)
  · obtain ⟨z1, z2⟩ := z
    obtain ⟨rfl, hz2, hz3⟩ := hz
    have e0 : Md_daysGo_l17 (nI n) (nI d) z2 = if (daysR L d A).1 110 < 9999 then ((Md_daysGo_L37 (nI n) (nI d) (0, z2)).bind fun z5 => (Md_daysGo_L56 (nI n) (nI d) (0, z5)).bind fun z14 => (Md_daysGo_L93 (nI n) (nI d) (0, z14)).bind fun z20 => some (.inl (nI (d + 1), sI z20 167 110 ((z20.1 167 110) + (1 : Int32))))) else some (.inr z2) := by
      unfold Md_daysGo_l17
      rw [if_neg (by rw [nI_leI (by omega) (by omega)]; omega), hz2.1, lit_nI 1, nI_add]
      by_cases q : (daysR L d A).1 110 < 9999
      · rw [if_neg (ne_of_lt32 q), if_pos q]
      · rw [if_pos (Int32.not_lt.mp q), if_neg q]
    by_cases q : (daysR L d A).1 110 < 9999
    · left
      have wd := (days_ok hL w d).1
      obtain ⟨σ1, σ2, σ3, e1, e2, e3, h3, f3⟩ := m_work hL hz2 wd (nI n) (nI d)
      have hE : daysR L (d + 1) A = (upd (workR L (daysR L d A)).1 110 ((workR L (daysR L d A)).1 110 + 1), (workR L (daysR L d A)).2) := by
        show (if (daysR L d A).1 110 < 9999 then dayR L (daysR L d A) else daysR L d A) = _
        rw [if_pos q]
        rfl
      refine ⟨(nI (d + 1), sI σ3 167 110 (σ3.1 167 110 + 1)), ?_, rfl, ?_, (hz3.tr f3).tr (Fx_sI (Or.inl rfl))⟩
      · show Md_daysGo_l17 (nI n) (nI d) z2 = _
        rw [e0, if_pos q, e1, Option.bind_some, e2, Option.bind_some, e3, Option.bind_some]
      · rw [hE]
        clear hE e0 e1 e2 e3 f3
        generalize workR L (daysR L d A) = W at *
        obtain ⟨W1, W2⟩ := W
        dsimp only
        rw [sI_sR, h3.1]
        exact MR_row h3 _
    · right
      refine ⟨z2, ?_, ?_, hz3⟩
      · show Md_daysGo_l17 (nI n) (nI d) z2 = _
        rw [e0, if_neg q]
      · have : daysR L n A = daysR L d A := by
          refine fo_stop n (by omega) (fun k _ => ?_)
          show (if (daysR L d A).1 110 < 9999 then dayR L (daysR L d A) else daysR L d A) = daysR L d A
          rw [if_neg q]
        rw [this]
        exact hz2
  · obtain ⟨z1, z2⟩ := z
    obtain ⟨rfl, hz2, hz3⟩ := hz
    refine ⟨z2, ?_, hz2, hz3⟩
    show Md_daysGo_l17 (nI n) (nI n) z2 = _
    unfold Md_daysGo_l17
    rw [if_pos (Int32.le_refl _)]
end MDL
