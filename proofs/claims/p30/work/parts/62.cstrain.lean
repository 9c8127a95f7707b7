/-! STRAIN AND DAYS IN THE CLASS -/
section CLS
variable {L : LawF} {σ : MH} {A : Nat → Int32} {t i j k town : Nat} {S : RS} {s : Int32 × Int32 × Int32}
theorem c_draw (h : LD t A σ) : Land_draw t σ = some (jrem (lotR A) 10, sI σ t 14 (lotR A)) := by
  unfold Land_draw Land_draw0
  rw [sI_same, h.1.2.2.2]
  rfl
theorem not_wed (w : WF A) (hi : i < 12) : (A (24 + i) ≤ nI i) ↔ ¬ nI i ≤ A (24 + i) := by
  rcases w_wed w i hi with q | ⟨j, a, b, c, -⟩
  · rw [q, ti_le, ti_le, nI_toInt (by omega)]
    have e : (-2 : Int32).toInt = -2 := rfl
    omega
  · rw [c, nI_leI (by omega) (by omega), nI_leI (by omega) (by omega)]
    omega
theorem c_creak2 (ht : isLd t) (hL : LawOK L) {A0 : Nat → Int32} (h : CR L t (A, s) σ) (hi : i < 12) (hj : j < 12) (hij : i ≠ j) (ei : A (24 + i) = nI j) (ej : A (24 + j) = nI i) (li : liveR A i = true) (lj : liveR A j = true) (hs : 0 ≤ slackR A0 i j) : ∃ σ', Course_strain_b103 t (nI i) (nI j) (slackR A0 i j) σ = some (.inl (nI (i + 1), σ')) ∧ CR L t (creak2 L A0 A i j s) σ' ∧ Fx (PD t) σ σ' := by
  have z2 := ld128 ht
  obtain ⟨f1, f2, f3, f4⟩ := ix3 12 hi
  obtain ⟨σ1, e1, g1⟩ := c_rule ht h.1 h.2.1 hL h.2.2.1 hi hj (live_told li) (live_told lj) 98 99 (slackR A0 i j) (by decide) hs
  have h1 := CR_PJ ht h g1
  have F1 : Fx (PD t) σ σ1 := PJ_PD g1
  have ec : σ.1 (t + 4) i = A (36 + i) := (h.1.2.1 i hi).2.2.2.1
  unfold Course_strain_b103 creak2 Course_strain_b150
  rw [if_pos f2, e1, Option.bind_some]
  dsimp only
  rw [f3, (rf2 ht).2.2.2.1, ec, lit_nI 1, nI_add]
  by_cases q : L 98 99 (factsR A i j (slackR A0 i j)) < A (36 + i)
  · rw [if_neg (ne_of_lt32 q), if_pos q, c_separate ht hi hj, Option.bind_some, c_markTried ht hi hj hij, Option.bind_some]
    have d2 := LD_part h1.1 hi hj
    have F2 : Fx (fun b _ => t ≤ b ∧ b < t + 36) σ1 (sI (sI σ1 (t + 3) i (-2)) (t + 3) j (-2)) := (Fx_sI (by omega)).tr (Fx_sI (by omega))
    have h2 := CR_land ht h1 d2 (WF_part h.2.1 hi hj hij ei ej) F2
    have F2' := F1.tr (PL_PD F2)
    generalize sI (sI σ1 (t + 3) i (-2)) (t + 3) j (-2) = σ2 at h2 F2' ⊢
    have d3 := LD_tried h2.1 hi hj hij
    have F3 : Fx (fun b _ => t ≤ b ∧ b < t + 36) σ2 (sI (sI σ2 (t + 5) i (σ2.1 (t + 5) i ||| sh1 j)) (t + 5) j (σ2.1 (t + 5) j ||| sh1 i)) := (Fx_sI (by omega)).tr (Fx_sI (by omega))
    have h3 := CR_land ht h2 d3 (WF_tried h2.2.1 hi hj) F3
    have F3' := F2'.tr (PL_PD F3)
    generalize sI (sI σ2 (t + 5) i (σ2.1 (t + 5) i ||| sh1 j)) (t + 5) j (σ2.1 (t + 5) j ||| sh1 i) = σ3 at h3 F3' ⊢
    have e3 : σ3.1 128 3 = s.2.2 := h3.2.2.2.2.2
    have h4 := CR_cnt h3 ht 3 (by omega) (σ3.1 128 3 + nI 1)
    rw [if_neg (by decide), if_neg (by decide), e3] at h4
    exact ⟨_, by rw [e3], h4, F3'.tr (Fx_sI (by unfold PD; omega))⟩
  · rw [if_pos (Int32.not_lt.mp q), if_neg q]
    exact ⟨σ1, rfl, h1, F1⟩
theorem c_strain1 (ht : isLd t) (hL : LawOK L) (h : CR L t S σ) (hi : i < 12) : ∃ σ', Course_strain_l2 t (nI i) σ = some (.inl (nI (i + 1), σ')) ∧ CR L t (creakR L i S) σ' ∧ Fx (PD t) σ σ' := by
  obtain ⟨A, s⟩ := S
  have hD := h.1
  have w := h.2.1
  dsimp only at hD w
  obtain ⟨f1, f2, f3, f4⟩ := ix3 12 hi
  obtain ⟨r2, r3, r4, r5, r6, r7, r8, r9, r10, r11, r12⟩ := rf2 ht
  have ew : σ.1 (t + 3) i = A (24 + i) := (hD.2.1 i hi).2.2.1
  unfold Course_strain_l2 creakR
  rw [if_neg f1, if_pos f2, f3, r4, r5, ew]
  dsimp only
  by_cases q : nI i ≤ A (24 + i)
  · obtain ⟨j, hj, hji, ei, ej, li, lj, ecl, hlt⟩ := wed_with w hi q
    obtain ⟨g1, g2, g3, g4⟩ := ix3 12 hj
    have hij : i ≠ j := Ne.symm hji
    rw [if_neg (fun z => (not_wed w hi).mp z q), if_pos q, ei, v_isNumber hj, Option.bind_some, if_neg (by decide), c_slackOf ht hD w hi hj (live_told li) (live_told lj), Option.bind_some, c_draw hD, Option.bind_some, g3]
    dsimp only
    have hs : 0 ≤ slackR A i j := slack_pos w (slack_alive w hi hj li lj)
    have F1 : Fx (fun b _ => t ≤ b ∧ b < t + 36) σ (sI σ t 14 (lotR A)) := Fx_sI (by omega)
    have h1 := CR_land ht h (LD_lot hD) (WF_lot w) F1
    have F1' : Fx (PD t) _ _ := PL_PD F1
    generalize sI σ t 14 (lotR A) = σ1 at h1 F1' ⊢
    have ol : ∀ n, n ≠ 111 → upd A 111 (lotR A) n = A n := fun n h => by rw [upd_at, if_neg h]
    have lt1 := fun k => lt_same (k := k) (ol 108 (by omega)) (ol 109 (by omega))
    obtain ⟨σ2, e2, p2⟩ := c_rule ht h1.1 h1.2.1 hL h1.2.2.1 hi hj (by rw [(lt1 i).2]; exact live_told li) (by rw [(lt1 j).2]; exact live_told lj) 99 10 (slackR A i j) (by decide) hs
    have h2 := CR_PJ ht h1 p2
    have F2 := F1'.tr (PJ_PD p2)
    rw [e2, Option.bind_some]
    dsimp only
    unfold creak1
    by_cases q2 : jrem (lotR A) 10 < L 99 10 (factsR (upd A 111 (lotR A)) i j (slackR A i j))
    · rw [if_neg (ne_of_lt32 q2), if_pos q2, if_pos g2]
      have d3 := LD_creakUp h2.1 hi hj hij
      have F3 : Fx (fun b _ => t ≤ b ∧ b < t + 36) σ2 (sI (sI σ2 (t + 4) i (jmin 99 (σ2.1 (t + 4) i + 1))) (t + 4) j (jmin 99 (σ2.1 (t + 4) j + 1))) := (Fx_sI (by omega)).tr (Fx_sI (by omega))
      have h3 := CR_land ht h2 d3 (WF_creakUp h2.2.1 hi hj) F3
      rw [sI_fld (Ne.symm hij)]
      have ou : ∀ n, (n < 36 ∨ 48 ≤ n) → creakUp (upd A 111 (lotR A)) i j n = upd A 111 (lotR A) n := fun n h => by
        unfold creakUp
        rw [upd_at, if_neg (by omega), upd_at, if_neg (by omega)]
      have lt2 := fun k => lt_same (k := k) (ou 108 (by omega)) (ou 109 (by omega))
      obtain ⟨σ', e, h4, F4⟩ := c_creak2 (A0 := A) ht hL h3 hi hj hij (by rw [ou _ (by omega), ol _ (by omega)]; exact ei) (by rw [ou _ (by omega), ol _ (by omega)]; exact ej) (by rw [(lt2 i).1, (lt1 i).1]; exact li) (by rw [(lt2 j).1, (lt1 j).1]; exact lj) hs
      exact ⟨σ', e, h4, (F2.tr (PL_PD F3)).tr F4⟩
    · rw [if_pos (Int32.not_lt.mp q2), if_neg q2]
      obtain ⟨σ', e, h4, F4⟩ := c_creak2 (A0 := A) ht hL h2 hi hj hij (by rw [ol _ (by omega)]; exact ei) (by rw [ol _ (by omega)]; exact ej) (by rw [(lt1 i).1]; exact li) (by rw [(lt1 j).1]; exact lj) hs
      exact ⟨σ', e, h4, F2.tr F4⟩
  · rw [if_pos ((not_wed w hi).mpr q), if_neg q]
    refine ⟨σ, ?_, h, Fx.rf⟩
    unfold Course_strain_b150
    rw [lit_nI 1, nI_add]
theorem c_strain (ht : isLd t) (hL : LawOK L) (h : CR L t S σ) : ∃ σ', Course_strain t σ = some σ' ∧ CR L t (fo (fun i S => creakR L i S) 12 S) σ' ∧ Fx (PD t) σ σ' := by
  obtain ⟨r, e, h1, h2⟩ : ∃ r, Course_strain_L2 t (0, σ) = some r ∧ CR L t (fo (fun i S => creakR L i S) 12 S) r ∧ Fx (PD t) σ r := by
    refine itr_n 12 (fun (k : Nat) (z : Int32 × MH) => z.1 = nI k ∧ CR L t (fo (fun i S => creakR L i S) k S) z.2 ∧ Fx (PD t) σ z.2) _ ⟨rfl, h, Fx.rf⟩ (fun k z hk hz => ?_) (fun z hz => ?_)
    · obtain ⟨z1, z2⟩ := z
      obtain ⟨rfl, hz2, hz3⟩ := hz
      obtain ⟨σ', e, h1, h2⟩ := c_strain1 ht hL hz2 hk
      exact Or.inl ⟨_, e, rfl, h1, hz3.tr h2⟩
    · obtain ⟨z1, z2⟩ := z
      obtain ⟨rfl, hz2, hz3⟩ := hz
      refine ⟨z2, ?_, hz2, hz3⟩
      show Course_strain_l2 t (nI 12) z2 = _
      unfold Course_strain_l2
      rw [if_pos (by decide)]
  refine ⟨r, ?_, h1, h2⟩
  unfold Course_strain Course_strain0
  rw [e]
  rfl
theorem LD_day (h : LD t A σ) (v : Int32) : LD t (upd A 110 v) (sI σ t 13 v) := by
  have o : ∀ n, n ≠ 110 → upd A 110 v n = A n := fun n h => by rw [upd_at, if_neg h]
  have z : ∀ b k, (b ≠ t ∨ k ≠ 13) → (sI σ t 13 v).1 b k = σ.1 b k := fun b k h1 => by rw [sI_at, if_neg (by omega)]
  refine LD_upd h (fun n hn => o n (by omega)) (fun b k q => z b k (by omega)) ⟨z _ _ (by omega), z _ _ (by omega), ?_, ?_⟩ (fun k hk => ?_)
  · rw [sI_same, upd_at, if_pos rfl]
  · rw [z _ _ (by omega), o 111 (by omega)]; exact h.1.2.2.2
  obtain ⟨e1, e2, e3, e4, e5, e6, e7, e8⟩ := h.2.1 k hk
  refine ⟨?_, ?_, ?_, ?_, ?_, ?_, ?_⟩
  · rw [z _ _ (by omega), o _ (by omega)]; exact e1
  · rw [z _ _ (by omega), o _ (by omega)]; exact e2
  · rw [z _ _ (by omega), o _ (by omega)]; exact e3
  · rw [z _ _ (by omega), o _ (by omega)]; exact e4
  · rw [z _ _ (by omega), o _ (by omega)]; exact e5
  · rw [z _ _ (by omega), o _ (by omega)]; exact e6
  · rw [z _ _ (by omega), o _ (by omega)]; exact e8
theorem WF_day (w : WF A) (h : A 110 < 9999) : WF (upd A 110 (A 110 + 1)) := by
  have o : ∀ n, n ≠ 110 → upd A 110 (A 110 + 1) n = A n := fun n h => by rw [upd_at, if_neg h]
  have hl : ∀ k, liveR (upd A 110 (A 110 + 1)) k = liveR A k := fun k => (lt_same (o 108 (by omega)) (o 109 (by omega))).1
  refine ⟨?_, ?_, ?_, ?_, fun i hi => ?_⟩
  · rw [o _ (by omega), o _ (by omega)]; exact w.1
  · rw [o _ (by omega), o _ (by omega)]; exact w.2.1
  · rw [upd_at, if_pos rfl]
    have := w.2.2.1
    generalize A 110 = x at *
    grind
  · rw [o _ (by omega)]; exact w.2.2.2.1
  · obtain ⟨p1, p2, p3, p4, p5, p6, ⟨g, m, q1, q2, q3, q4, q5⟩, p8, p9⟩ := w.2.2.2.2 i hi
    refine ⟨?_, ?_, ?_, ?_, ?_, ?_, ?_, ?_, ?_⟩
    · rw [o _ (by omega)]; exact p1
    · rw [o _ (by omega)]; exact p2
    · rw [o _ (by omega), hl]
      rcases p3 with q | ⟨j, a, b, c, d, e, f⟩
      · exact Or.inl q
      · exact Or.inr ⟨j, a, b, c, by rw [o _ (by omega)]; exact d, e, by rw [hl]; exact f⟩
    · rw [o _ (by omega)]; exact p4
    · rw [o _ (by omega)]; exact p5
    · rw [o _ (by omega)]; exact p6
    · exact ⟨g, m, q1, q2, by rw [o _ (by omega)]; exact q3, by rw [o _ (by omega)]; exact q4, fun j hj => by rw [o _ (by omega)]; exact q5 j hj⟩
    · intro h hh
      rw [o _ (by omega)]; exact p8 h hh
    · rw [hl, o _ (by omega)]; exact p9
theorem travels_ok (w : WF A) : ∀ n, n ≤ 12 → WF (fo (fun i A => travelR A i) n A) ∧ SameT A (fo (fun i A => travelR A i) n A)
  | 0, _ => ⟨w, SameT.rf⟩
  | n + 1, h => by
    obtain ⟨a, b⟩ := travels_ok w n (by omega)
    exact ⟨WF_travel a (by omega), b.tr (same_travel (by omega))⟩
theorem meets_ok (hL : LawOK L) (S : RS) (w : WF S.1) (town : Nat) : ∀ n, n ≤ 12 → WF (fo (fun i S => meetR L town i S) n S).1 ∧ SameT S.1 (fo (fun i S => meetR L town i S) n S).1
  | 0, _ => ⟨w, SameT.rf⟩
  | n + 1, h => by
    obtain ⟨a, b⟩ := meets_ok hL S w town n (by omega)
    exact ⟨WF_meet a hL (by omega), b.tr (same_meet (by omega))⟩
theorem towns_ok (hL : LawOK L) (S : RS) (w : WF S.1) : ∀ n, WF (fo (fun town S => fo (fun i S => meetR L town i S) 12 S) n S).1 ∧ SameT S.1 (fo (fun town S => fo (fun i S => meetR L town i S) 12 S) n S).1
  | 0 => ⟨w, SameT.rf⟩
  | n + 1 => by
    obtain ⟨a, b⟩ := towns_ok hL S w n
    obtain ⟨c, d⟩ := meets_ok hL _ a n 12 (Nat.le_refl _)
    exact ⟨c, b.tr d⟩
theorem creaks_ok (S : RS) (w : WF S.1) : ∀ n, n ≤ 12 → WF (fo (fun i S => creakR L i S) n S).1 ∧ SameT S.1 (fo (fun i S => creakR L i S) n S).1
  | 0, _ => ⟨w, SameT.rf⟩
  | n + 1, h => by
    obtain ⟨a, b⟩ := creaks_ok S w n (by omega)
    exact ⟨WF_creak a (by omega), b.tr (same_creak a (by omega))⟩
theorem work_ok (hL : LawOK L) (w : WF S.1) : WF (workR L S).1 ∧ SameT S.1 (workR L S).1 := by
  obtain ⟨a, b⟩ := travels_ok w 12 (Nat.le_refl _)
  obtain ⟨c, d⟩ := towns_ok hL ((fo (fun i A => travelR A i) 12 S.1, S.2) : RS) a 6
  obtain ⟨e, f⟩ := creaks_ok (L := L) _ c 12 (Nat.le_refl _)
  exact ⟨e, (b.tr d).tr f⟩
theorem dayR_eq : dayR L S = (upd (workR L S).1 110 ((workR L S).1 110 + 1), (workR L S).2) := rfl
theorem day_ok (hL : LawOK L) (w : WF S.1) (h : S.1 110 < 9999) : WF (dayR L S).1 ∧ ∀ n, (n < 12 ∨ (48 ≤ n ∧ n < 60) ∨ (96 ≤ n ∧ n < 110) ∨ 112 ≤ n) → (dayR L S).1 n = S.1 n := by
  obtain ⟨a, b⟩ := work_ok hL w
  rw [dayR_eq]
  refine ⟨WF_day a (by rw [b 110 (by omega)]; exact h), fun n hn => ?_⟩
  dsimp only
  rw [upd_at, if_neg (by omega), b n (by omega)]
theorem days_ok (hL : LawOK L) (w : WF A) : ∀ n, WF (daysR L n A).1 ∧ ∀ m, (m < 12 ∨ (48 ≤ m ∧ m < 60) ∨ (96 ≤ m ∧ m < 110) ∨ 112 ≤ m) → (daysR L n A).1 m = A m
  | 0 => ⟨w, fun _ _ => rfl⟩
  | n + 1 => by
    obtain ⟨a, b⟩ := days_ok hL w n
    show WF (if (daysR L n A).1 110 < 9999 then dayR L (daysR L n A) else daysR L n A).1 ∧ ∀ m, _ → (if (daysR L n A).1 110 < 9999 then dayR L (daysR L n A) else daysR L n A).1 m = A m
    split
    · rename_i q
      obtain ⟨c, d⟩ := day_ok hL a q
      exact ⟨c, fun m hm => (d m hm).trans (b m hm)⟩
    · exact ⟨a, b⟩
theorem fo_stop {T : Type} {g : Nat → T → T} {s : T} {i : Nat} : ∀ n, i ≤ n → (∀ k, i ≤ k → g k (fo g i s) = fo g i s) → fo g n s = fo g i s
  | 0, h, _ => by rw [show i = 0 by omega]
  | n + 1, h, hk => by
    by_cases q : i = n + 1
    · rw [q]
    · show g n (fo g n s) = _
      rw [fo_stop n (by omega) hk]
      exact hk n (by omega)
theorem c_work (ht : isLd t) (hL : LawOK L) (h : CR L t S σ) : ∃ σ1 σ2 σ3, Course_travel t σ = some σ1 ∧ Course_meet t σ1 = some σ2 ∧ Course_strain t σ2 = some σ3 ∧ CR L t (workR L S) σ3 ∧ Fx (PD t) σ σ3 := by
  obtain ⟨σ1, e1, h1, f1⟩ := c_travel ht h
  obtain ⟨σ2, e2, h2, f2⟩ := c_meet ht hL h1
  obtain ⟨σ3, e3, h3, f3⟩ := c_strain ht hL h2
  exact ⟨σ1, σ2, σ3, e1, e2, e3, h3, (f1.tr f2).tr f3⟩
theorem c_pass (ht : isLd t) (hL : LawOK L) (hD : LD t A σ) (w : WF A) (hC : LawC L σ) {n : Nat} (hn : n ≤ 60) : ∃ σ', Course_pass t (nI n) σ = some σ' ∧ CR L t (daysR L n A) σ' ∧ Fx (PD t) σ σ' := by
  have z := ld128 ht
  have h0 : CR L t (A, 0, 0, 0) (sI (sI (sI σ 128 1 0) 128 2 0) 128 3 0) := by
    refine ⟨LD_of hD (fun b k a c => by rw [sI_obj (by omega), sI_obj (by omega), sI_obj (by omega)]), w, LawC_of hC (fun b k a c => by rw [sI_obj (by omega), sI_obj (by omega), sI_obj (by omega)]), ?_, ?_, sI_same⟩
    · rw [sI_fld (by decide), sI_fld (by decide), sI_same]
    · rw [sI_fld (by decide), sI_same]
  have F0 : Fx (PD t) σ (sI (sI (sI σ 128 1 0) 128 2 0) 128 3 0) := ((Fx_sI (by unfold PD; omega)).tr (Fx_sI (by unfold PD; omega))).tr (Fx_sI (by unfold PD; omega))
  have eP : Course_pass t (nI n) σ = Course_pass_L17 t (nI n) (0, sI (sI (sI σ 128 1 0) 128 2 0) 128 3 0) := by
    unfold Course_pass Course_pass0
    cases Course_pass_L17 t (nI n) (0, sI (sI (sI σ 128 1 0) 128 2 0) 128 3 0) <;> rfl
  rw [eP]
  generalize sI (sI (sI σ 128 1 0) 128 2 0) 128 3 0 = σ0 at h0 F0
  refine itr_n n (fun (d : Nat) (z : Int32 × MH) => z.1 = nI d ∧ CR L t (daysR L d A) z.2 ∧ Fx (PD t) σ z.2) _ ⟨rfl, h0, F0⟩ (fun d z hd hz => ?_) (fun z hz => ?_) (by show n < 1000000; omega)
  · obtain ⟨z1, z2⟩ := z
    obtain ⟨rfl, hz2, hz3⟩ := hz
    have e0 : Course_pass_l17 t (nI n) (nI d) z2 = if (daysR L d A).1 110 < 9999 then ((Course_travel t z2).bind fun σ2 => (Course_meet t σ2).bind fun σ5 => (Course_strain t σ5).bind fun σ8 => some (.inl (nI (d + 1), sI σ8 t 13 ((σ8.1 t 13) + (1 : Int32))))) else some (.inr z2) := by
      unfold Course_pass_l17
      rw [if_neg (by rw [nI_leI (by omega) (by omega)]; omega), hz2.1.1.2.2.1, lit_nI 1, nI_add]
      by_cases q : (daysR L d A).1 110 < 9999
      · rw [if_neg (ne_of_lt32 q), if_pos q]
      · rw [if_pos (Int32.not_lt.mp q), if_neg q]
    by_cases q : (daysR L d A).1 110 < 9999
    · left
      obtain ⟨σ1, σ2, σ3, e1, e2, e3, h3, f3⟩ := c_work ht hL hz2
      have F4 : Fx (fun b _ => t ≤ b ∧ b < t + 36) σ3 (sI σ3 t 13 (σ3.1 t 13 + 1)) := Fx_sI (by omega)
      have hE : daysR L (d + 1) A = (upd (workR L (daysR L d A)).1 110 ((workR L (daysR L d A)).1 110 + 1), (workR L (daysR L d A)).2) := by
        show (if (daysR L d A).1 110 < 9999 then dayR L (daysR L d A) else daysR L d A) = _
        rw [if_pos q]
        rfl
      refine ⟨(nI (d + 1), sI σ3 t 13 (σ3.1 t 13 + 1)), ?_, rfl, ?_, (hz3.tr f3).tr (PL_PD F4)⟩
      · show Course_pass_l17 t (nI n) (nI d) z2 = _
        rw [e0, if_pos q, e1, Option.bind_some, e2, Option.bind_some, e3, Option.bind_some]
      · rw [hE]
        have hw := work_ok hL hz2.2.1
        have e13 : σ3.1 t 13 = (workR L (daysR L d A)).1 110 := h3.1.1.2.2.1
        rw [e13] at F4 ⊢
        have hq : (workR L (daysR L d A)).1 110 < 9999 := by rw [hw.2 110 (by omega)]; exact q
        have hw1 := hw.1
        clear hw hE e13 e0 e1 e2 e3 f3
        generalize workR L (daysR L d A) = W at *
        obtain ⟨W1, W2⟩ := W
        exact CR_land ht h3 (LD_day h3.1 _) (WF_day hw1 hq) F4
    · right
      refine ⟨z2, ?_, ?_, hz3⟩
      · show Course_pass_l17 t (nI n) (nI d) z2 = _
        rw [e0, if_neg q]
      · have : daysR L n A = daysR L d A := by
          refine fo_stop n (by omega) (fun k _ => ?_)
          show (if (daysR L d A).1 110 < 9999 then dayR L (daysR L d A) else daysR L d A) = daysR L d A
          rw [if_neg q]
        rw [this]
        exact hz2
  · obtain ⟨z1, z2⟩ := z
    obtain ⟨rfl, hz2, hz3⟩ := hz
    refine ⟨z2, ?_, hz2, hz3⟩
    show Course_pass_l17 t (nI n) (nI n) z2 = _
    unfold Course_pass_l17
    rw [if_pos (Int32.le_refl _)]
end CLS
