/-! WHO FITS WHOM: the sets -/
section FITS
variable {L : LawF} {σ : MH} {A : Nat → Int32} {i j k n w : Nat}
def fitP (L : LawF) (A : Nat → Int32) (i j : Nat) : Bool := !decide (j = i) && (liveR A j && fitR L A i j)
def fitSet (L : LawF) (A : Nat → Int32) (i : Nat) : Int32 := setR (fitP L A i) 12
theorem setR_s (p : Nat → Bool) (k : Nat) : setR p (k + 1) = if p k = true then setR p k ||| sh1 k else setR p k := rfl
theorem c_whomItFits (hD : LD 1 A σ) (wf : WF A) (hL : LawOK L) (hC : LawC L σ) (hi : i < 12) (Ti : toldR A i = true) : ∃ σ', Pz_whomItFits (nI i) σ = some (fitSet L A i, σ') ∧ Fx PJ σ σ' := by
  obtain ⟨r, e, h1, h2⟩ : ∃ r, Pz_whomItFits_L4 (nI i) (0, 0, σ) = some r ∧ r.1 = fitSet L A i ∧ Fx PJ σ r.2 := by
    refine itr_n 12 (fun (k : Nat) (z : Int32 × Int32 × MH) => z.1 = setR (fitP L A i) k ∧ z.2.1 = nI k ∧ Fx PJ σ z.2.2) _ ⟨rfl, rfl, Fx.rf⟩ (fun k z hk hz => ?_) (fun z hz => ?_)
    · obtain ⟨z1, z2, z3⟩ := z
      obtain ⟨e1, e2, hf⟩ := hz
      dsimp only at e1 e2 hf
      subst e1; subst e2
      obtain ⟨f1, f2, f3, f4⟩ := ix3 12 hk
      have hD' := LD_PJ ld1 hD hf
      left
      show ∃ s', Pz_whomItFits_l4 (nI i) _ (nI k) z3 = _ ∧ _
      unfold Pz_whomItFits_l4 Pz_whomItFits_b48
      rw [if_neg f1, lit_nI 1, nI_add, c_isAlive hD' wf hk, Option.bind_some]
      have c0 : (nI k = nI i) = (k = i) := propext (nI_eq (by omega) (by omega))
      simp only [c0]
      by_cases qi : k = i
      · refine ⟨_, by rw [if_pos qi], ?_, rfl, hf⟩
        rw [setR_s, if_neg]
        unfold fitP
        rw [decide_eq_true qi, Bool.not_true, Bool.false_and]; decide
      · rw [if_neg qi]
        cases hl : liveR A k
        · refine ⟨_, by rw [bI_f, if_pos rfl], ?_, rfl, hf⟩
          rw [setR_s, if_neg]
          unfold fitP
          rw [hl, Bool.false_and, Bool.and_false]; decide
        · obtain ⟨σ1, e1, g1⟩ := c_fit ld1 hD' wf hL (LawC_PJ hC hf) hi hk Ti (live_told hl)
          rw [bI_t, if_neg (show ¬ (1 : Int32) = 0 by decide), e1, Option.bind_some]
          dsimp only
          have hp : fitP L A i k = fitR L A i k := by
            unfold fitP
            rw [hl, decide_eq_false qi]
            rfl
          cases hq : fitR L A i k
          · refine ⟨_, by rw [bI_f, if_pos rfl], ?_, rfl, hf.tr g1⟩
            rw [setR_s, hp, hq, if_neg (by decide)]
          · refine ⟨_, by rw [bI_t, if_neg (show ¬ (1 : Int32) = 0 by decide)], ?_, rfl, hf.tr g1⟩
            rw [setR_s, hp, hq, if_pos rfl]
            rfl
    · obtain ⟨z1, z2, z3⟩ := z
      obtain ⟨e1, e2, hf⟩ := hz
      dsimp only at e1 e2 hf
      subst e2
      refine ⟨(z1, z3), ?_, e1, hf⟩
      show Pz_whomItFits_l4 (nI i) z1 (nI 12) z3 = _
      unfold Pz_whomItFits_l4
      rw [if_pos (by decide)]
  refine ⟨r.2, ?_, h2⟩
  unfold Pz_whomItFits Pz_whomItFits0
  rw [e, Option.bind_some, h1]
theorem m_fitting (hL : LawOK L) (hM : LawM L σ) (hi : i < 12) : ∃ σ', Md_fitting (nI i) σ = some (fitSet L (σ.1 167) i, σ') ∧ Fx PK σ σ' := by
  obtain ⟨r, e, h1, h2⟩ : ∃ r, Md_fitting_L4 (nI i) (0, 0, σ) = some r ∧ r.1 = fitSet L (σ.1 167) i ∧ Fx PK σ r.2 := by
    refine itr_n 12 (fun (k : Nat) (z : Int32 × Int32 × MH) => z.1 = setR (fitP L (σ.1 167) i) k ∧ z.2.1 = nI k ∧ Fx PK σ z.2.2) _ ⟨rfl, rfl, Fx.rf⟩ (fun k z hk hz => ?_) (fun z hz => ?_)
    · obtain ⟨z1, z2, z3⟩ := z
      obtain ⟨e1, e2, hf⟩ := hz
      dsimp only at e1 e2 hf
      subst e1; subst e2
      obtain ⟨f1, f2, f3, f4⟩ := ix3 12 hk
      have rt := row_PK hf
      left
      show ∃ s', Md_fitting_l4 (nI i) _ (nI k) z3 = _ ∧ _
      unfold Md_fitting_l4 Md_fitting_b38
      rw [if_neg f1, lit_nI 1, nI_add, m_lives hk, rt, Option.bind_some]
      have c0 : (nI k = nI i) = (k = i) := propext (nI_eq (by omega) (by omega))
      simp only [c0]
      by_cases qi : k = i
      · refine ⟨_, by rw [if_pos qi], ?_, rfl, hf⟩
        rw [setR_s, if_neg]
        unfold fitP
        rw [decide_eq_true qi, Bool.not_true, Bool.false_and]; decide
      · rw [if_neg qi]
        cases hl : liveR (σ.1 167) k
        · refine ⟨_, by rw [bI_f, if_pos rfl], ?_, rfl, hf⟩
          rw [setR_s, if_neg]
          unfold fitP
          rw [hl, Bool.false_and, Bool.and_false]; decide
        · obtain ⟨σ1, e1, g1⟩ := m_fit hL (LawM_PK hM hf) hi hk
          rw [bI_t, if_neg (show ¬ (1 : Int32) = 0 by decide), e1, Option.bind_some, rt]
          dsimp only
          have hp : fitP L (σ.1 167) i k = fitR L (σ.1 167) i k := by
            unfold fitP
            rw [hl, decide_eq_false qi]
            rfl
          cases hq : fitR L (σ.1 167) i k
          · refine ⟨_, by rw [bI_f, if_pos rfl], ?_, rfl, hf.tr g1⟩
            rw [setR_s, hp, hq, if_neg (by decide)]
          · refine ⟨_, by rw [bI_t, if_neg (show ¬ (1 : Int32) = 0 by decide)], ?_, rfl, hf.tr g1⟩
            rw [setR_s, hp, hq, if_pos rfl]
            rfl
    · obtain ⟨z1, z2, z3⟩ := z
      obtain ⟨e1, e2, hf⟩ := hz
      dsimp only at e1 e2 hf
      subst e2
      refine ⟨(z1, z3), ?_, e1, hf⟩
      show Md_fitting_l4 (nI i) z1 (nI 12) z3 = _
      unfold Md_fitting_l4
      rw [if_pos (by decide)]
  refine ⟨r.2, ?_, h2⟩
  unfold Md_fitting Md_fitting0
  rw [e, Option.bind_some, h1]
/-! personIs -/
theorem st_personIs (hI : Inv σ) (x y : Int32) : ∃ (r r' : Int32) (σ1 : MH) (σ2 : MH), Pz_personIs x y σ = some (r, σ1) ∧ Md_personIs x y σ1 = some (r', σ2) ∧ r = r' ∧ Inv σ2 := by
  have hD := hI.1
  have wf := hI.2.1
  obtain ⟨-, L, hL, hC, hM⟩ := hI.2.2.2.2
  rcases tw_ix x with ⟨i, hi, rfl⟩ | h
  · cases Ti : toldR (σ.1 167) i
    · refine ⟨-1, -1, σ, σ, ?_, ?_, rfl, hI⟩
      · unfold Pz_personIs Pz_personIs0
        rw [c_isTold hD hi, Ti]; rfl
      · unfold Md_personIs Md_personIs0
        rw [m_isPerson hi, Ti]; rfl
    · obtain ⟨f1, f2, f3, f4⟩ := ix3 12 hi
      obtain ⟨e1, e2, e3, e4, e5, e6, e7, e8⟩ := hD.2.1 i hi
      have b0 := ix0 hi
      have b1 := ixc (c := 12) hi (by decide)
      have b2 := ixc (c := 24) hi (by decide)
      have b3 := ixc (c := 36) hi (by decide)
      have b5 := ixc (c := 48) hi (by decide)
      have b7 := ixc (c := 96) hi (by decide)
      have b7' := ixc (c := 84) hi (by decide)
      have b8 := ixc (c := 60) hi (by decide)
      have eC : Pz_personIs (nI i) y σ = if y = 0 then some (σ.1 2 i, σ) else if y = 1 then some (σ.1 3 i, σ) else if y = 2 then some (σ.1 4 i, σ) else if y = 3 then some (σ.1 5 i, σ) else if y = 4 then (if bI (liveR (σ.1 167) i) = 0 then some (0, σ) else some (1, σ)) else if y = 5 then some (σ.1 167 (48 + i), σ) else if y = 6 then ((Pz_whomItFits (nI i) σ).bind fun (x21, σ22) => some (x21, σ22)) else if y = 7 then some (σ.1 35 i - σ.1 36 i, σ) else if y = 8 then some (σ.1 6 i, σ) else some (-1, σ) := by
        unfold Pz_personIs Pz_personIs0
        rw [c_isTold hD hi, Ti, Option.bind_some, bI_t, if_neg (show ¬ (1 : Int32) = 0 by decide), c_isAlive hD wf hi, Option.bind_some, c_pieces ld1 hD wf hi Ti, Option.bind_some]
        simp only [f2, f3, if_true]
      have eM : ∀ τ : MH, τ.1 167 = σ.1 167 → Md_personIs (nI i) y τ = if y = 0 then some (σ.1 167 i, τ) else if y = 1 then some (σ.1 167 (12 + i), τ) else if y = 2 then some (σ.1 167 (24 + i), τ) else if y = 3 then some (σ.1 167 (36 + i), τ) else if y = 4 then (if bI (liveR (σ.1 167) i) = 0 then some (0, τ) else some (1, τ)) else if y = 5 then some (σ.1 167 (48 + i), τ) else if y = 6 then ((Md_fitting (nI i) τ).bind fun (x19, σ20) => some (x19, σ20)) else if y = 7 then some (σ.1 167 (96 + i) - σ.1 167 (84 + i), τ) else if y = 8 then some (σ.1 167 (60 + i), τ) else some (-1, τ) := by
        intro τ ht
        unfold Md_personIs Md_personIs0
        rw [m_isPerson hi, ht, Ti, Option.bind_some, bI_t, if_neg (show ¬ (1 : Int32) = 0 by decide), m_lives hi, ht, Option.bind_some, lit0k, lit_nI 12, lit_nI 24, lit_nI 36, lit_nI 48, lit_nI 96, lit_nI 84, lit_nI 60]
        simp only [b0.1, b0.2, b1.1, b1.2, b2.1, b2.2, b3.1, b3.2, b5.1, b5.2, b7.1, b7.2, b7'.1, b7'.2, b8.1, b8.2, if_true]
      by_cases q6 : y = 6
      · subst q6
        obtain ⟨σ1, g1, h1⟩ := c_whomItFits hD wf hL hC hi Ti
        have rt := row_PX (PJ_PX h1)
        obtain ⟨σ2, g2, h2⟩ := m_fitting hL (LawM_of hM (fun b k a c => h1 b k (by unfold PJ; omega)) (h1 166 13 (by unfold PJ; omega))) hi
        refine ⟨fitSet L (σ.1 167) i, fitSet L (σ.1 167) i, σ1, σ2, ?_, ?_, rfl, Inv_q (Inv_q hI (PJ_PX h1)) (PK_PX h2)⟩
        · rw [eC, g1]; rfl
        · rw [eM σ1 rt, g2, rt]; rfl
      · have e1 : σ.1 2 i = σ.1 167 i := e1
        have e2 : σ.1 3 i = σ.1 167 (12 + i) := e2
        have e3 : σ.1 4 i = σ.1 167 (24 + i) := e3
        have e4 : σ.1 5 i = σ.1 167 (36 + i) := e4
        have e5 : σ.1 6 i = σ.1 167 (60 + i) := e5
        have e7 : σ.1 35 i = σ.1 167 (96 + i) := e7
        have e8 : σ.1 36 i = σ.1 167 (84 + i) := e8
        have eM0 := eM σ rfl
        rw [if_neg q6] at eC eM0
        rw [e1, e2, e3, e4, e5, e7, e8] at eC
        have key : ∃ r, Pz_personIs (nI i) y σ = some (r, σ) := by
          rw [eC]
          repeat' split
          all_goals exact ⟨_, rfl⟩
        obtain ⟨r, hr⟩ := key
        exact ⟨r, r, σ, σ, hr, by rw [eM0, ← eC]; exact hr, rfl, hI⟩
  · refine ⟨-1, -1, σ, σ, ?_, ?_, rfl, hI⟩
    · unfold Pz_personIs Pz_personIs0
      rw [c_isToldF h]; rfl
    · unfold Md_personIs Md_personIs0
      rw [m_isPersonF h]; rfl
/-! the reference's tables -/
def fitOfR (L : LawF) (A : Nat → Int32) (i : Nat) : Int32 := if liveR A i = true then fitSet L A i else 0
def fpR (L : LawF) (A : Nat → Int32) (i j : Nat) : Bool := liveR A i && fitP L A i j
theorem bt_fitOf (hj : j < 12) : bt (fitOfR L A i) j = fpR L A i j := by
  unfold fitOfR fpR fitSet
  cases liveR A i
  · rw [if_neg (by decide), bt_0 (by omega)]; rfl
  · rw [if_pos rfl, bt_setR (by omega) (by omega), decide_eq_true hj]
def slackN (L : LawF) (A : Nat → Int32) (i j : Nat) : Int32 := if fpR L A i j = true then slackR A i j else 0
def likeN (L : LawF) (A : Nat → Int32) (i j : Nat) : Int32 := if fpR L A i j = true then likeR L A i j else 0
def PT (b _k : Nat) : Prop := b = 182 ∨ b = 183 ∨ b = 186 ∨ b = 187 ∨ b = 188
theorem PK_PT {σ σ' : MH} (hf : Fx PK σ σ') : Fx PT σ σ' := hf.mo (fun b k q => by unfold PK at q; unfold PT; omega)
theorem PT_PX {σ σ' : MH} (hf : Fx PT σ σ') : Fx PX σ σ' := hf.mo (fun b k q => by unfold PT at q; unfold PX PC PQ; omega)
theorem LawM_PT {σ σ' : MH} (h : LawM L σ) (hf : Fx PT σ σ') : LawM L σ' := LawM_of h (fun b k h1 h2 => hf b k (by unfold PT; omega)) (hf 166 13 (by unfold PT; omega))
theorem row_PT {σ σ' : MH} (hf : Fx PT σ σ') : σ'.1 167 = σ.1 167 := funext fun k => hf 167 k (by unfold PT; omega)
theorem m_lays1 (hL : LawOK L) (hM : LawM L σ) : ∃ σ', Md_laysFits_L2 (0, σ) = some σ' ∧ Fx PT σ σ' ∧ ∀ i, i < 12 → σ'.1 186 i = fitOfR L (σ.1 167) i := by
  refine itr_n 12 (fun (k : Nat) (z : Int32 × MH) => z.1 = nI k ∧ Fx PT σ z.2 ∧ ∀ i, i < k → z.2.1 186 i = fitOfR L (σ.1 167) i) _ ⟨rfl, Fx.rf, fun i hi => by omega⟩ (fun k z hk hz => ?_) (fun z hz => ?_)
  · obtain ⟨z1, z2⟩ := z
    obtain ⟨rfl, hf, hv⟩ := hz
    dsimp only at hf hv
    obtain ⟨f1, f2, f3, f4⟩ := ix3 12 hk
    have rt := row_PT hf
    left
    show ∃ s', Md_laysFits_l2 (nI k) z2 = _ ∧ _
    unfold Md_laysFits_l2 Md_laysFits_b30
    rw [if_neg f1, m_lives hk, rt, Option.bind_some, f3, lit_nI 1, nI_add]
    simp only [f2, if_true]
    cases hl : liveR (σ.1 167) k
    · refine ⟨_, by rw [bI_f, if_pos rfl], rfl, hf.tr (Fx_sI (P := PT) (a := 186) (by unfold PT; omega)), fun i hi => ?_⟩
      rw [sI_at]
      by_cases q : i = k
      · rw [if_pos ⟨rfl, q⟩, q]
        unfold fitOfR
        rw [hl, if_neg (by decide)]
      · rw [if_neg (fun z => q z.2)]
        exact hv i (by omega)
    · obtain ⟨σ1, e1, g1⟩ := m_fitting hL (LawM_PT hM hf) hk
      rw [bI_t, if_neg (show ¬ (1 : Int32) = 0 by decide), e1, Option.bind_some, rt]
      dsimp only
      refine ⟨_, rfl, rfl, (hf.tr (PK_PT g1)).tr (Fx_sI (P := PT) (a := 186) (by unfold PT; omega)), fun i hi => ?_⟩
      rw [sI_at]
      by_cases q : i = k
      · rw [if_pos ⟨rfl, q⟩, q]
        unfold fitOfR
        rw [hl, if_pos rfl]
      · rw [if_neg (fun z => q z.2), g1 186 i (by unfold PK; omega)]
        exact hv i (by omega)
  · obtain ⟨z1, z2⟩ := z
    obtain ⟨rfl, hf, hv⟩ := hz
    refine ⟨z2, ?_, hf, hv⟩
    show Md_laysFits_l2 (nI 12) z2 = _
    unfold Md_laysFits_l2
    rw [if_pos (by decide)]
theorem m_lays2 (hL : LawOK L) (hM : LawM L σ) (hi : i < 12) (h6 : ∀ i, i < 12 → σ.1 186 i = fitOfR L (σ.1 167) i) : ∃ σ', Md_laysFits_L47 (nI i) (0, σ) = some σ' ∧ Fx (fun b k => b = 182 ∨ b = 183 ∨ ((b = 187 ∨ b = 188) ∧ 12 * i ≤ k ∧ k < 12 * i + 12)) σ σ' ∧ ∀ j, j < 12 → σ'.1 187 (12 * i + j) = slackN L (σ.1 167) i j ∧ σ'.1 188 (12 * i + j) = likeN L (σ.1 167) i j := by
  refine itr_n 12 (fun (k : Nat) (z : Int32 × MH) => z.1 = nI k ∧ Fx (fun b k => b = 182 ∨ b = 183 ∨ ((b = 187 ∨ b = 188) ∧ 12 * i ≤ k ∧ k < 12 * i + 12)) σ z.2 ∧ ∀ j, j < k → z.2.1 187 (12 * i + j) = slackN L (σ.1 167) i j ∧ z.2.1 188 (12 * i + j) = likeN L (σ.1 167) i j) _ ⟨rfl, Fx.rf, fun j hj => by omega⟩ (fun k z hk hz => ?_) (fun z hz => ?_)
  · obtain ⟨z1, z2⟩ := z
    obtain ⟨rfl, hf, hv⟩ := hz
    dsimp only at hf hv
    obtain ⟨f1, f2, f3, f4⟩ := ix3 12 hk
    obtain ⟨g1, g2, g3, g4⟩ := ix3 12 hi
    have rt : z2.1 167 = σ.1 167 := funext fun k => hf 167 k (by omega)
    have h6' : z2.1 186 i = fitOfR L (σ.1 167) i := (hf 186 i (by omega)).trans (h6 i hi)
    have b1 : inb (nI (12 * i + k)) 144 = true := inb_nI (by omega) (by decide)
    have b2 : (nI (12 * i + k)).toNatClampNeg = 12 * i + k := nI_clamp (by omega)
    left
    show ∃ s', Md_laysFits_l47 (nI i) (nI k) z2 = _ ∧ _
    unfold Md_laysFits_l47 Md_laysFits_b88 Md_laysFits_b113
    rw [if_neg f1, if_pos g2, g3, h6', m_has, Option.bind_some, bt_fitOf hk, m_slackBy hi hk, Option.bind_some, rt]
    simp only [lit_nI 12, lit_nI 1, pk_mul, nI_add, b1, b2, if_true]
    have hz' : ∀ (τ : MH) (x y : Int32) b m, ¬ (b = 182 ∨ b = 183 ∨ ((b = 187 ∨ b = 188) ∧ 12 * i ≤ m ∧ m < 12 * i + 12)) → (sI (sI τ 187 (12 * i + k) x) 188 (12 * i + k) y).1 b m = τ.1 b m := fun τ x y b m q => by
      rw [sI_ne (by omega), sI_ne (by omega)]
    cases hp : fpR L (σ.1 167) i k
    · refine ⟨_, by rw [bI_f, if_pos rfl, if_pos rfl], rfl, fun b m q => (hz' z2 _ _ b m q).trans (hf b m q), fun j hj => ?_⟩
      by_cases q : j = k
      · subst q
        unfold slackN likeN
        rw [hp, if_neg (by decide), if_neg (by decide)]
        exact ⟨by rw [sI_ne (by omega), sI_same], sI_same⟩
      · rw [sI_ne (by omega), sI_ne (by omega), sI_ne (by omega), sI_ne (by omega)]
        exact hv j (by omega)
    · have hM1 : LawM L (sI z2 187 (12 * i + k) (slackR (σ.1 167) i k)) := LawM_of hM (fun b m a c => by rw [sI_ne (by omega)]; exact hf b m (by omega)) (by rw [sI_ne (by omega)]; exact hf 166 13 (by omega))
      obtain ⟨σ1, e1, p1⟩ := m_likes hL hM1 hi hk
      have r1 : (sI z2 187 (12 * i + k) (slackR (σ.1 167) i k)).1 167 = σ.1 167 := (sI_objF (by decide)).trans rt
      rw [bI_t, if_neg (show ¬ (1 : Int32) = 0 by decide), if_neg (show ¬ (1 : Int32) = 0 by decide), e1, Option.bind_some, r1]
      dsimp only
      refine ⟨_, rfl, rfl, fun b m q => ?_, fun j hj => ?_⟩
      · rw [sI_ne (by omega), p1 b m (by unfold PK; omega), sI_ne (by omega)]
        exact hf b m q
      · by_cases q : j = k
        · subst q
          unfold slackN likeN
          rw [hp, if_pos rfl, if_pos rfl]
          exact ⟨by rw [sI_ne (by omega), p1 _ _ (by unfold PK; omega), sI_same], sI_same⟩
        · rw [sI_ne (by omega), sI_ne (by omega), p1 _ _ (by unfold PK; omega), p1 _ _ (by unfold PK; omega), sI_ne (by omega), sI_ne (by omega)]
          exact hv j (by omega)
  · obtain ⟨z1, z2⟩ := z
    obtain ⟨rfl, hf, hv⟩ := hz
    refine ⟨z2, ?_, hf, hv⟩
    show Md_laysFits_l47 (nI i) (nI 12) z2 = _
    unfold Md_laysFits_l47
    rw [if_pos (by decide)]
theorem m_laysFits (hL : LawOK L) (hM : LawM L σ) : ∃ σ', Md_laysFits σ = some σ' ∧ Fx PT σ σ' ∧ (∀ i, i < 12 → σ'.1 186 i = fitOfR L (σ.1 167) i) ∧ ∀ i j, i < 12 → j < 12 → σ'.1 187 (12 * i + j) = slackN L (σ.1 167) i j ∧ σ'.1 188 (12 * i + j) = likeN L (σ.1 167) i j := by
  obtain ⟨σ1, e1, p1, v1⟩ := m_lays1 hL hM
  have r1 := row_PT p1
  have hM1 := LawM_PT hM p1
  obtain ⟨σ2, e2, p2, v2, w2⟩ : ∃ r, Md_laysFits_L39 (0, σ1) = some r ∧ Fx (fun b _ => b = 182 ∨ b = 183 ∨ b = 187 ∨ b = 188) σ1 r ∧ (∀ i, i < 12 → r.1 186 i = fitOfR L (σ.1 167) i) ∧ ∀ i, i < 12 → ∀ j, j < 12 → r.1 187 (12 * i + j) = slackN L (σ.1 167) i j ∧ r.1 188 (12 * i + j) = likeN L (σ.1 167) i j := by
    refine itr_n 12 (fun (k : Nat) (z : Int32 × MH) => z.1 = nI k ∧ Fx (fun b _ => b = 182 ∨ b = 183 ∨ b = 187 ∨ b = 188) σ1 z.2 ∧ (∀ i, i < 12 → z.2.1 186 i = fitOfR L (σ.1 167) i) ∧ ∀ i, i < k → ∀ j, j < 12 → z.2.1 187 (12 * i + j) = slackN L (σ.1 167) i j ∧ z.2.1 188 (12 * i + j) = likeN L (σ.1 167) i j) _ ⟨rfl, Fx.rf, v1, fun i hi => by omega⟩ (fun k z hk hz => ?_) (fun z hz => ?_)
    · obtain ⟨z1, z2⟩ := z
      obtain ⟨rfl, hf, h6, hv⟩ := hz
      dsimp only at hf h6 hv
      have rz : z2.1 167 = σ.1 167 := (funext fun k => hf 167 k (by omega)).trans r1
      have hMz : LawM L z2 := LawM_of hM1 (fun b m a c => hf b m (by omega)) (hf 166 13 (by omega))
      obtain ⟨τ, et, pt, vt⟩ := m_lays2 hL hMz hk (by rw [rz]; exact h6)
      rw [rz] at vt
      obtain ⟨f1, f2, f3, f4⟩ := ix3 12 hk
      refine Or.inl ⟨(nI (k + 1), τ), ?_, rfl, fun b m q => (pt b m (by omega)).trans (hf b m q), fun i hi => (pt 186 i (by omega)).trans (h6 i hi), fun i hi j hj => ?_⟩
      · show Md_laysFits_l39 (nI k) z2 = _
        unfold Md_laysFits_l39
        rw [if_neg f1, et, Option.bind_some, lit_nI 1, nI_add]
      · by_cases q : i = k
        · subst q; exact vt j hj
        · dsimp only
          rw [pt _ _ (by omega), pt _ _ (by omega)]
          exact hv i (by omega) j hj
    · obtain ⟨z1, z2⟩ := z
      obtain ⟨rfl, hf, h6, hv⟩ := hz
      refine ⟨z2, ?_, hf, h6, hv⟩
      show Md_laysFits_l39 (nI 12) z2 = _
      unfold Md_laysFits_l39
      rw [if_pos (by decide)]
  refine ⟨σ2, ?_, p1.tr (p2.mo (fun b k q => by unfold PT; omega)), v2, fun i j hi hj => w2 i hi j hj⟩
  unfold Md_laysFits Md_laysFits0
  rw [e1, Option.bind_some, e2]
  rfl
end FITS
