/-! DAYS IN THE REFERENCE -/
/-- what a day changes in the reference -/
def PM (b k : Nat) : Prop := b = 167 ∨ b = 182 ∨ b = 183 ∨ (b = 166 ∧ (k = 31 ∨ k = 32 ∨ k = 33))
def MR (L : LawF) (S : RS) (σ : MH) : Prop := σ.1 167 = S.1 ∧ LawM L σ ∧ σ.1 166 31 = S.2.1 ∧ σ.1 166 32 = S.2.2.1 ∧ σ.1 166 33 = S.2.2.2
theorem PK_PM {σ σ' : MH} (hf : Fx PK σ σ') : Fx PM σ σ' := hf.mo (fun b k q => by unfold PK at q; unfold PM; omega)
section MDL
variable {L : LawF} {σ : MH} {A : Nat → Int32} {i j k town : Nat} {S : RS} {s : Int32 × Int32 × Int32}
theorem MR_PK (h : MR L S σ) {σ' : MH} (hf : Fx PK σ σ') : MR L S σ' := by
  obtain ⟨h1, h2, h3, h4, h5⟩ := h
  exact ⟨(row_PK hf).trans h1, LawM_PK h2 hf, (hf _ _ (by unfold PK; omega)).trans h3, (hf _ _ (by unfold PK; omega)).trans h4, (hf _ _ (by unfold PK; omega)).trans h5⟩
theorem MR_row (h : MR L (A, s) σ) (B : Nat → Int32) : MR L (B, s) (sR σ 167 B) := by
  obtain ⟨h1, h2, h3, h4, h5⟩ := h
  exact ⟨sR_at _ _ _, LawM_of h2 (fun b k a c => by rw [sR_ne σ B (by omega)]) (by rw [sR_ne σ B (by omega)]), by rw [sR_ne σ B (by omega)]; exact h3, by rw [sR_ne σ B (by omega)]; exact h4, by rw [sR_ne σ B (by omega)]; exact h5⟩
theorem row_PM {B : Nat → Int32} : Fx PM σ (sR σ 167 B) := Fx_row (fun _ => Or.inl rfl)
theorem MR_cnt (h : MR L S σ) (k : Nat) (hk : k = 31 ∨ k = 32 ∨ k = 33) (v : Int32) : MR L (S.1, if k = 31 then (v, S.2.2) else if k = 32 then (S.2.1, v, S.2.2.2) else (S.2.1, S.2.2.1, v)) (sI σ 166 k v) := by
  obtain ⟨h1, h2, h3, h4, h5⟩ := h
  refine ⟨(sI_objF (by decide)).trans h1, LawM_of h2 (fun b m a c => sI_obj (by omega)) (sI_fld (by omega)), ?_⟩
  rcases hk with rfl | rfl | rfl
  · exact ⟨sI_same, by rw [sI_fld (by decide)]; exact h4, by rw [sI_fld (by decide)]; exact h5⟩
  · exact ⟨by rw [sI_fld (by decide)]; exact h3, sI_same, by rw [sI_fld (by decide)]; exact h5⟩
  · exact ⟨by rw [sI_fld (by decide)]; exact h3, by rw [sI_fld (by decide)]; exact h4, sI_same⟩
theorem ix0 (h : i < 12) : inb (nI i) 1936 = true ∧ (nI i).toNatClampNeg = i := ⟨inb_nI (by omega) (by decide), nI_clamp (by omega)⟩
theorem ixc {c : Nat} (h : i < 12) (hc : c ≤ 1900) : inb (nI c + nI i) 1936 = true ∧ (nI c + nI i).toNatClampNeg = c + i := ix_add (by omega) (by decide)
theorem m_wedsTwo (hi : i < 12) (hj : j < 12) : Md_wedsTwo (nI i) (nI j) σ = some (sR σ 167 (wedR (σ.1 167) i j)) := by
  have a1 := ixc (c := 24) hi (by decide)
  have a2 := ixc (c := 24) hj (by decide)
  have a3 := ixc (c := 36) hi (by decide)
  have a4 := ixc (c := 36) hj (by decide)
  unfold Md_wedsTwo Md_wedsTwo0 wedR
  simp only [lit_nI 24, lit_nI 36, a1.1, a1.2, a2.1, a2.2, a3.1, a3.2, a4.1, a4.2, if_true, sI_sR, sR_sR, sR_at]
theorem m_parts (hi : i < 12) (hj : j < 12) (ei : σ.1 167 (24 + i) = nI j) : Md_parts (nI i) σ = some (sR σ 167 (partR (σ.1 167) i j)) := by
  have a1 := ixc (c := 24) hi (by decide)
  have a2 := ixc (c := 24) hj (by decide)
  unfold Md_parts Md_parts0 partR
  simp only [lit_nI 24, a1.1, a1.2, ei, a2.1, a2.2, if_true, sI_sR, sR_sR, sR_at]
theorem m_haveTried (hi : i < 12) (hj : j < 12) (hij : i ≠ j) : Md_haveTried (nI i) (nI j) σ = some (sR σ 167 (triedR (σ.1 167) i j)) := by
  have a1 := ixc (c := 60) hi (by decide)
  have a2 := ixc (c := 60) hj (by decide)
  unfold Md_haveTried Md_haveTried0 triedR sh1
  simp only [lit_nI 60, a1.1, a1.2, a2.1, a2.2, if_true, sI_sR, sR_sR, sR_at, upd_at, show ¬ 60 + j = 60 + i by omega, if_false]
theorem m_wearsAll (hi : i < 12) (y : Int32) : Md_wearsAll (nI i) y σ = some (sR σ 167 (wearR (σ.1 167) i y)) := by
  have a1 := ixc (c := 48) hi (by decide)
  have hl : Md_wearsAll_L2 (nI i) y (0, σ) = some (sR σ 167 (fo (fun k f => if holdR (σ.1 167) i k = true then upd f (72 + k) (jmin 99 (f (72 + k) + y)) else f) 12 (σ.1 167))) := by
    have e0 : ((0 : Int32), σ) = ((fun (n : Nat) (f : Nat → Int32) => (nI n, sR σ 167 f)) 0 (σ.1 167)) := by
      show _ = (nI 0, sR σ 167 (σ.1 167))
      rw [sR_self]; rfl
    rw [e0]
    refine (itr_fo (f := fun s : Int32 × MH => Md_wearsAll_l2 (nI i) y s.1 s.2) (mk := fun (n : Nat) (f : Nat → Int32) => (nI n, sR σ 167 f)) (g := fun k f => if holdR (σ.1 167) i k = true then upd f (72 + k) (jmin 99 (f (72 + k) + y)) else f) (fin := fun f => sR σ 167 f) (P := fun _ f => f (48 + i) = σ.1 167 (48 + i)) (N := 12) (m := FU) (s0 := σ.1 167) rfl (fun k f hk hf => ⟨?_, ?_⟩) (fun f _ => ?_) (by decide)).1
    · show Md_wearsAll_l2 (nI i) y (nI k) (sR σ 167 f) = _
      obtain ⟨f1, f2, f3, f4⟩ := ix3 12 hk
      have a2 := ixc (c := 72) hk (by decide)
      unfold Md_wearsAll_l2 Md_wearsAll_b49
      rw [if_neg f1, lit_nI 48, if_pos a1.1, a1.2, sR_at, hf, m_has, Option.bind_some, lit_nI 1, nI_add]
      unfold holdR
      cases bt (σ.1 167 (48 + i)) k
      · rw [bI_f, if_pos rfl, if_neg (by decide)]
      · rw [bI_t, if_neg (by decide), if_pos rfl, lit_nI 72, if_pos a2.1, a2.2, m_min, Option.bind_some, sI_sR, sR_sR, sR_at]
    · split
      · rw [upd_at, if_neg (by omega)]; exact hf
      · exact hf
    · show Md_wearsAll_l2 (nI i) y (nI 12) (sR σ 167 f) = _
      unfold Md_wearsAll_l2
      rw [if_pos (by decide)]
  unfold Md_wearsAll Md_wearsAll0
  rw [hl, fo_pt 72 (fun k => holdR (σ.1 167) i k) (fun _ x => jmin 99 (x + y))]
  rfl
theorem m_travels (w : WF (σ.1 167)) (hi : i < 12) : Md_travels (nI i) σ = some (sR σ 167 (travelR (σ.1 167) i)) := by
  obtain ⟨g, m, a1, a2, a3, a4, a5⟩ := (w.2.2.2.2 i hi).2.2.2.2.2.2.1
  have b1 := ixc (c := 84) hi (by decide)
  have b2 := ixc (c := 96) hi (by decide)
  have b3 := ixc (c := 12) hi (by decide)
  unfold Md_travels Md_travels0 travelR
  rw [m_isFree hi, Option.bind_some]
  cases freeR (σ.1 167) i
  · rw [bI_f, if_pos rfl]
    simp only [Bool.false_and, Bool.false_eq_true, if_false, sR_self]
  · rw [bI_t, if_neg (by decide)]
    simp only [lit_nI 84, lit_nI 96, b1.1, b1.2, b2.1, b2.2, if_true, Bool.true_and]
    by_cases q : σ.1 167 (84 + i) = σ.1 167 (96 + i)
    · rw [if_pos q, if_neg (by simp [q]), sR_self]
    · have hc : (!decide (σ.1 167 (84 + i) = σ.1 167 (96 + i))) = true := by
        rw [decide_eq_false q]; rfl
      rw [if_neg q, if_pos hc]
      have hgm : g < m := by
        rcases Nat.lt_or_ge g m with z | z
        · exact z
        · exact absurd (by rw [a3, a4, show g = m by omega]) q
      have b4 : inb (nI (208 + 144 * i + g)) 1936 = true := inb_nI (by omega) (by decide)
      have b5 : (nI (208 + 144 * i + g)).toNatClampNeg = 208 + 144 * i + g := nI_clamp (by omega)
      have b6 : (nI g).toNatClampNeg = g := nI_clamp (by omega)
      simp only [a3, lit_nI 208, lit_nI 144, lit_nI 12, pk_mul, nI_add, b4, b5, b6, if_true]
      rw [nI_add] at b3
      simp only [b3.1, b3.2, if_true, sI_sR, sR_sR, sR_at, upd_at, show ¬ 84 + i = 12 + i by omega, if_false, a3]
theorem m_next (hi : i < 12) : Md_triesIn_L35 (nI town) (nI i) σ 0 = some (nI (nextR (σ.1 167) i town)) := by
  have a1 := ixc (c := 60) hi (by decide)
  obtain ⟨r, e, hr⟩ : ∃ r, Md_triesIn_L35 (nI town) (nI i) σ 0 = some r ∧ r = nI (nextR (σ.1 167) i town) := by
    refine itr_n 12 (fun (k : Nat) (z : Int32) => z = nI k ∧ nextR (σ.1 167) i town = fnd (mayTry (σ.1 167) i town) (12 - k) k) _ ⟨rfl, rfl⟩ (fun k z hk hz => ?_) (fun z hz => ?_)
    · obtain ⟨rfl, hz⟩ := hz
      obtain ⟨g1, g2, g3, g4⟩ := ix3 12 hk
      have b0 := ix0 hk
      have b1 := ixc (c := 12) hk (by decide)
      have hst : Md_triesIn_l35 (nI town) (nI i) (nI k) σ = if mayTry (σ.1 167) i town k = true then some (.inr (nI k)) else some (.inl (nI (k + 1))) := by
        unfold Md_triesIn_l35 Md_triesIn_b90 mayTry
        rw [if_neg g1, m_isFree hk, Option.bind_some]
        cases freeR (σ.1 167) k
        · rw [bI_f, if_pos rfl, lit_nI 1, nI_add]
          rfl
        · rw [bI_t, if_neg (by decide), lit0k, if_pos b0.1, b0.2, lit_nI 12, if_pos b1.1, b1.2, lit_nI 60, if_pos a1.1, a1.2, m_has, Option.bind_some, lit_nI 1, nI_add]
          by_cases q1 : σ.1 167 k = nI 1
          · by_cases q2 : σ.1 167 (12 + k) = nI town
            · cases bt (σ.1 167 (60 + i)) k <;> simp [bI, q1, q2]
            · simp [q1, q2]
          · simp [q1]
      by_cases q : mayTry (σ.1 167) i town k = true
      · right
        refine ⟨nI k, by rw [hst, if_pos q], ?_⟩
        have : fnd (mayTry (σ.1 167) i town) (12 - k) k = k := by
          rw [show 12 - k = (11 - k) + 1 by omega]
          unfold fnd
          rw [if_pos q]
        rw [hz, this]
      · left
        refine ⟨nI (k + 1), by rw [hst, if_neg q], rfl, ?_⟩
        rw [hz, show 12 - k = (12 - (k + 1)) + 1 by omega]
        show (if mayTry (σ.1 167) i town k = true then k else fnd (mayTry (σ.1 167) i town) (12 - (k + 1)) (k + 1)) = _
        rw [if_neg q]
    · obtain ⟨rfl, hz⟩ := hz
      refine ⟨nI 12, ?_, ?_⟩
      · show Md_triesIn_l35 (nI town) (nI i) (nI 12) σ = _
        unfold Md_triesIn_l35
        rw [if_pos (by decide)]
      · rw [hz]
        rfl
  rw [e, hr]
theorem m_try (hL : LawOK L) (h : MR L (A, s) σ) (hi : i < 12) (hj : j < 12) (hij : i ≠ j) : ∃ σ', Md_triesIn_b97 (nI i) (nI j) σ = some σ' ∧ MR L (tryR L A i j s) σ' ∧ Fx PM σ σ' := by
  unfold Md_triesIn_b97 tryR
  have hj12 : ¬ nI j = 12 := by
    rw [lit_nI 12, nI_eq (by omega) (by omega)]; omega
  have e2 : σ.1 166 32 = s.2.1 := h.2.2.2.1
  have hA := MR_cnt h 32 (by omega) (s.2.1 + 1)
  rw [if_neg (by decide), if_pos rfl] at hA
  dsimp only at hA
  rw [if_neg hj12, e2]
  have F1 : Fx PM σ (sI σ 166 32 (s.2.1 + 1)) := Fx_sI (by unfold PM; omega)
  generalize sI σ 166 32 (s.2.1 + 1) = σ1 at hA F1 ⊢
  rw [m_haveTried hi hj hij, Option.bind_some, hA.1]
  dsimp only
  have hB := MR_row hA (triedR A i j)
  have F2 := F1.tr (row_PM (B := triedR A i j))
  generalize sR σ1 167 (triedR A i j) = σ2 at hB F2 ⊢
  generalize triedR A i j = B at hB
  obtain ⟨σ3, e3, f3⟩ := m_fit hL hB.2.1 hi hj
  have hC := MR_PK hB f3
  have F3 := F2.tr (PK_PM f3)
  rw [e3, Option.bind_some, hB.1]
  dsimp only
  cases fitR L B i j
  · rw [bI_f, if_pos rfl, if_neg (by decide)]
    obtain ⟨σ4, e4, f4⟩ := m_wearsBy hL hC.2.1 hi hj
    have hD := MR_PK hC f4
    have F4 := F3.tr (PK_PM f4)
    rw [e4, Option.bind_some, hC.1]
    dsimp only
    rw [m_wearsAll hi, Option.bind_some, hD.1]
    dsimp only
    have hE := MR_row hD (wearR B i (wearByR L B i j))
    have F5 := F4.tr (row_PM (B := wearR B i (wearByR L B i j)))
    rw [m_wearsAll hj, Option.bind_some, hE.1]
    exact ⟨_, rfl, MR_row hE _, F5.tr row_PM⟩
  · rw [bI_t, if_neg (by decide), if_pos rfl, m_wedsTwo hi hj, Option.bind_some, hC.1]
    dsimp only
    have hD := MR_row hC (wedR B i j)
    have F4 := F3.tr (row_PM (B := wedR B i j))
    generalize sR σ3 167 (wedR B i j) = σ4 at hD F4 ⊢
    have e4 : σ4.1 166 31 = s.1 := hD.2.2.1
    rw [e4]
    have hE := MR_cnt hD 31 (by omega) (s.1 + 1)
    rw [if_pos rfl] at hE
    exact ⟨_, rfl, hE, F4.tr (Fx_sI (by unfold PM; omega))⟩
theorem m_meet1 (hL : LawOK L) (h : MR L S σ) (hi : i < 12) : ∃ σ', Md_triesIn (nI town) (nI i) σ = some σ' ∧ MR L (meetR L town i S) σ' ∧ Fx PM σ σ' := by
  obtain ⟨A, s⟩ := S
  have b0 := ix0 hi
  have b1 := ixc (c := 12) hi (by decide)
  have hrow : σ.1 167 = A := h.1
  unfold Md_triesIn Md_triesIn0 meetR
  rw [m_isFree hi, Option.bind_some, lit0k, b0.2, lit_nI 12, b1.2, hrow]
  dsimp only
  cases hF : freeR A i
  · refine ⟨σ, by simp [bI], ?_, Fx.rf⟩
    simpa using h
  · rw [bI_t, if_neg (by decide), if_pos b0.1]
    by_cases q1 : A i = 0
    · rw [if_pos q1, if_pos b1.1]
      by_cases q2 : A (12 + i) = nI town
      · rw [if_pos q2, m_next hi, Option.bind_some, hrow]
        by_cases q3 : nextR A i town = 12
        · refine ⟨σ, ?_, ?_, Fx.rf⟩
          · rw [q3]
            unfold Md_triesIn_b97
            rw [if_pos (show nI 12 = 12 from rfl)]
          · rw [if_neg (by simp [q3])]
            exact h
        · obtain ⟨h5, h6⟩ := next_ok q3
          rw [if_pos (by simp [q1, q2, q3])]
          refine m_try hL h hi h5 ?_
          unfold mayTry at h6
          simp only [Bool.and_eq_true, decide_eq_true_eq] at h6
          intro z
          rw [← z, q1] at h6
          exact absurd h6.1.1.2 (by decide)
      · refine ⟨σ, by rw [if_neg q2], ?_, Fx.rf⟩
        rw [if_neg (by simp [q2])]
        exact h
    · refine ⟨σ, by rw [if_neg q1], ?_, Fx.rf⟩
      rw [if_neg (by simp [q1])]
      exact h
end MDL
