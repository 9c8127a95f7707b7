/-! edge, in the reference, and the call -/
section ED2
variable {σ : MH} {A : Nat → Int32} {tx : Nat → Nat} {n p f k c : Nat} {v : Nat → Int32}
def MRd (n p f : Nat) (v : Nat → Int32) (σ : MH) : Prop := σ.1 166 6 = nI n ∧ σ.1 166 5 = nI p ∧ σ.1 166 29 = nI f ∧ ∀ j, j < f → σ.1 184 j = v j
def PR (b k : Nat) : Prop := b = 184 ∨ b = 185 ∨ (b = 166 ∧ (k = 5 ∨ k = 7 ∨ k = 29 ∨ k = 30))
theorem TXM_of {σ' : MH} (h : TXM tx n σ) (hf : Fx PR σ σ') : TXM tx n σ' := fun j hj => by
  rw [hf 170 j (by unfold PR; omega)]
  exact h j hj
def okPr (R : PrS) : Bool := match R with
  | .inl _ => false
  | .inr _ => true
def resP (n : Nat) (R : PrS) (σ : MH) (o : Option (Int32 × MH)) : Prop := ∃ σ', o = some (bI (okPr R), σ') ∧ Fx PR σ σ' ∧ (∀ e, R = .inl e → σ'.1 166 7 = e) ∧ ∀ q, R = .inr q → MRd n q.1 q.2.1 q.2.2 σ'
theorem PR5 : PR 166 5 := Or.inr (Or.inr ⟨rfl, Or.inl rfl⟩)
theorem PR7 : PR 166 7 := Or.inr (Or.inr ⟨rfl, Or.inr (Or.inl rfl)⟩)
theorem PR29 : PR 166 29 := Or.inr (Or.inr ⟨rfl, Or.inr (Or.inr (Or.inl rfl))⟩)
theorem PR30 : PR 166 30 := Or.inr (Or.inr ⟨rfl, Or.inr (Or.inr (Or.inr rfl))⟩)
theorem MRd_at {q : Nat} (h : MRd n p f v σ) : MRd n q f v (sI σ 166 5 (nI q)) := by
  obtain ⟨e1, e2, e3, e4⟩ := h
  refine ⟨?_, sI_same, ?_, fun j hj => ?_⟩
  · rw [sI_fld (by decide)]; exact e1
  · rw [sI_fld (by decide)]; exact e3
  · rw [sI_obj (by decide)]; exact e4 j hj
theorem m_fill184 {t p0 : Nat} {val : Int32} (hM : MRd n p f v σ) (hf8 : f ≤ 8) (ht : t ≤ 8) : resP n (finS p0 f v val t p) σ (Md_readsHeight_b164 (nI p0) val (nI t) σ) := by
  obtain ⟨e1, e2, e3, e4⟩ := hM
  unfold Md_readsHeight_b164 finS
  by_cases hft : f + t ≤ 8
  · rw [e3, nI_add, if_pos ((leL 8 (by omega) (by decide)).mpr hft), if_pos hft]
    obtain ⟨r, e, pr, g1, g2, g3, g4⟩ : ∃ r, Md_readsHeight_L187 val (nI t) (0, σ) = some r ∧ Fx PR σ r ∧ r.1 166 6 = nI n ∧ r.1 166 5 = nI p ∧ r.1 166 29 = nI f ∧ ∀ j, j < f + t → r.1 184 j = upV f t v val j := by
      refine itr_n t (fun (k : Nat) (z : Int32 × MH) => z.1 = nI k ∧ Fx PR σ z.2 ∧ z.2.1 166 6 = nI n ∧ z.2.1 166 5 = nI p ∧ z.2.1 166 29 = nI f ∧ ∀ j, j < f + k → z.2.1 184 j = upV f k v val j) _ ⟨rfl, Fx.rf, e1, e2, e3, fun j hj => ?_⟩ (fun k z hk hz => ?_) (fun z hz => ?_) (by show t < 1000000; omega)
      · unfold upV
        rw [if_neg (by omega)]
        exact e4 j (by omega)
      · obtain ⟨z1, z2⟩ := z
        obtain ⟨rfl, hf, g1, g2, g3, gv⟩ := hz
        dsimp only at hf g1 g2 g3 gv
        obtain ⟨f1, f2, f3, f4⟩ := ix3 8 (show f + k < 8 by omega)
        refine Or.inl ⟨(nI (k + 1), sI z2 184 (f + k) val), ?_, rfl, hf.tr (Fx_sI (Or.inl rfl)), ?_, ?_, ?_, fun j hj => ?_⟩
        · show Md_readsHeight_l187 val (nI t) (nI k) z2 = _
          unfold Md_readsHeight_l187
          rw [if_neg (by rw [nI_leI (by omega) (by omega)]; omega), g3, nI_add, if_pos f2, f3, show nI k + 1 = nI (k + 1) from nI_1 _]
        · rw [sI_obj (by decide)]; exact g1
        · rw [sI_obj (by decide)]; exact g2
        · rw [sI_obj (by decide)]; exact g3
        · rw [sI_at]
          unfold upV
          by_cases c : j = f + k
          · rw [if_pos ⟨rfl, c⟩, if_pos (by omega)]
          · rw [if_neg (fun z => c z.2)]
            have := gv j (by omega)
            unfold upV at this
            rw [this]
            by_cases d : f ≤ j ∧ j < f + k
            · rw [if_pos d, if_pos (by omega)]
            · rw [if_neg d, if_neg (by omega)]
      · obtain ⟨z1, z2⟩ := z
        obtain ⟨rfl, hz⟩ := hz
        refine ⟨z2, ?_, hz⟩
        show Md_readsHeight_l187 val (nI t) (nI t) z2 = _
        unfold Md_readsHeight_l187
        rw [if_pos (Int32.le_refl _)]
    rw [e, Option.bind_some, g3, nI_add]
    refine ⟨_, rfl, pr.tr (Fx_sI PR29), fun e h => (by cases h), fun q h => ?_⟩
    cases h
    refine ⟨?_, ?_, sI_same, fun j hj => ?_⟩
    · rw [sI_fld (by decide)]; exact g1
    · rw [sI_fld (by decide)]; exact g2
    · rw [sI_obj (by decide)]; exact g4 j hj
  · rw [e3, nI_add, if_neg (mt (leL 8 (by omega) (by decide)).mp hft), if_neg hft, show (6 : Int32) = nI 6 from rfl, m_wrongAt]
    refine ⟨_, rfl, Fx_sI PR7, fun e h => sI_same.trans (Sum.inl.inj h), fun q h => by cases h⟩
theorem resP_wrong (k p : Nat) {R : PrS} (hR : R = .inl (flt k p)) (τ : MH) (hf : Fx PR σ τ) : resP n R σ ((Md_wrongAt (nI k) (nI p) τ).bind fun (x, σ') => some (x, σ')) := by
  subst hR
  rw [m_wrongAt]
  exact ⟨_, rfl, hf.tr (Fx_sI PR7), fun e h => sI_same.trans (Sum.inl.inj h), fun q h => by cases h⟩
theorem resP_tr {R : PrS} {τ : MH} {o : Option (Int32 × MH)} (hf : Fx PR σ τ) (h : resP n R τ o) : resP n R σ o := by
  obtain ⟨σ', a, b, c⟩ := h
  exact ⟨σ', a, hf.tr b, c⟩
theorem resP_bzo {R : PrS} {o : Option (Int32 × MH)} (h : resP n R σ o) : resP n R σ (bzo o) := by
  obtain ⟨σ', a, b⟩ := h
  refine ⟨σ', ?_, b⟩
  rw [a]
  unfold bzo
  rw [Option.bind_some]
  cases okPr R <;> rfl
theorem m_readsHeight (hb : TXb tx n) (hT : TXM tx n σ) (hp : p ≤ n) (hf8 : f ≤ 8) (hM : MRd n p f v σ) : resP n (parS tx n p f v) σ (Md_readsHeight σ) := by
  have hn := hb.1
  have hq := q1_le (tx := tx) (n := n) (p := p)
  obtain ⟨e1, e2, e3, e4⟩ := hM
  refine resP_bzo ?_
  -- after the value
  have tail : ∀ (τ : MH) (val : Int32), Fx PR σ τ → MRd n (q1 tx n p) f v τ → q1 tx n p < n → val = valS tx n p → resP n (if sN tx n (q1 tx n p + 1) = 42 then
      (if dg 50 56 (sN tx n (q1 tx n p + 2)) = true then finS p f v (valS tx n p) (sN tx n (q1 tx n p + 2) - 48) (q1 tx n p + 3) else .inl (flt 1 (q1 tx n p + 2)))
    else finS p f v (valS tx n p) 1 (q1 tx n p + 1)) σ (Md_readsHeight_b88 (nI p) val τ) := by
    intro τ val hf hM hlt hval
    subst hval
    have g5 : τ.1 166 5 + 1 = nI (q1 tx n p + 1) := by rw [hM.2.1]; exact nI_1 _
    have M1 : MRd n (q1 tx n p + 1) f v (sI τ 166 5 (nI (q1 tx n p + 1))) := MRd_at hM
    have F1 : Fx PR σ (sI τ 166 5 (nI (q1 tx n p + 1))) := hf.tr (Fx_sI PR5)
    have hs := m_here (p := q1 tx n p + 1) hb (TXM_of hT F1) M1.1 M1.2.1 (by omega)
    unfold Md_readsHeight_b88
    rw [g5, hs, Option.bind_some]
    by_cases h42 : sN tx n (q1 tx n p + 1) = 42
    · rw [if_pos h42, if_pos ((sg_eq hb _ (k := 42) (by decide)).mpr h42), sI_same, show nI (q1 tx n p + 1) + 1 = nI (q1 tx n p + 2) from nI_1 _]
      have M2 : MRd n (q1 tx n p + 2) f v (sI (sI τ 166 5 (nI (q1 tx n p + 1))) 166 5 (nI (q1 tx n p + 2))) := MRd_at M1
      have F2 : Fx PR σ (sI (sI τ 166 5 (nI (q1 tx n p + 1))) 166 5 (nI (q1 tx n p + 2))) := F1.tr (Fx_sI PR5)
      have hs2 := m_here (p := q1 tx n p + 2) hb (TXM_of hT F2) M2.1 M2.2.1 (by omega)
      rw [hs2, Option.bind_some, m_in, Option.bind_some, show (decide ((50 : Int32) ≤ sgX tx n (q1 tx n p + 2)) && decide (sgX tx n (q1 tx n p + 2) ≤ 56)) = dg 50 56 (sN tx n (q1 tx n p + 2)) from sg_in hb _ (by decide) (by decide), sI_same]
      cases hd : dg 50 56 (sN tx n (q1 tx n p + 2))
      · rw [bI_f, if_pos rfl, if_neg (by decide), show (1 : Int32) = nI 1 from rfl]
        exact resP_wrong 1 _ rfl _ F2
      · have d2 := dg_yes hb (by decide) hd
        rw [bI_t, if_neg (show ¬ (1 : Int32) = 0 by decide), if_pos rfl, Option.bind_some, show nI (q1 tx n p + 2) + 1 = nI (q1 tx n p + 3) from nI_1 _, d2.2.1, subL 48 (by omega)]
        exact resP_tr (F2.tr (Fx_sI PR5)) (m_fill184 (MRd_at M2) hf8 (by omega))
    · rw [if_neg h42, if_neg (fun z => h42 ((sg_eq hb _ (k := 42) (by decide)).mp z)), show (1 : Int32) = nI 1 from rfl]
      exact resP_tr F1 (m_fill184 M1 hf8 (by omega))
  have mid : ∀ (τ : MH) (w : Int32), Fx PR σ τ → MRd n (q1 tx n p) f v τ → w = (if sN tx n p = 45 then 1 else 0) → resP n (parS tx n p f v) σ (Md_readsHeight_b34 (nI p) w τ) := by
    intro τ w hf hM hw
    have hs := m_here (p := q1 tx n p) hb (TXM_of hT hf) hM.1 hM.2.1 (by omega)
    have all : ∀ lo, lo < 256 → lo = (if sN tx n p = 45 then 49 else 48) → resP n (parS tx n p f v) σ (Md_readsHeight_b49 (nI p) w (OfNat.ofNat lo) (sgX tx n (q1 tx n p)) τ) := by
      intro lo hlo hlo2
      unfold Md_readsHeight_b49 parS
      rw [← hlo2, m_in, Option.bind_some, show (decide ((OfNat.ofNat lo : Int32) ≤ sgX tx n (q1 tx n p)) && decide (sgX tx n (q1 tx n p) ≤ 57)) = dg lo 57 (sN tx n (q1 tx n p)) from sg_in hb _ hlo (by decide), hs, Option.bind_some, Option.bind_some]
      cases hd : dg lo 57 (sN tx n (q1 tx n p))
      · rw [bI_f, if_pos rfl, if_neg (by decide), hM.2.1, show (1 : Int32) = nI 1 from rfl]
        exact resP_wrong 1 _ rfl _ hf
      · have d1 := dg_yes hb (by decide) hd
        rw [bI_t, if_neg (show ¬ (1 : Int32) = 0 by decide), if_pos rfl, d1.2.1]
        by_cases h45 : sN tx n p = 45
        · rw [hw, if_pos h45, if_neg (show ¬ (1 : Int32) = 0 by decide)]
          exact tail τ _ hf hM d1.1 (by unfold valS; rw [if_pos h45])
        · rw [hw, if_neg h45, if_pos rfl]
          exact tail τ _ hf hM d1.1 (by unfold valS; rw [if_neg h45])
    unfold Md_readsHeight_b34
    rw [hs, Option.bind_some]
    by_cases h45 : sN tx n p = 45
    · rw [hw, if_pos h45, if_neg (show ¬ (1 : Int32) = 0 by decide)]
      have := all 49 (by decide) (by rw [if_pos h45])
      rw [hw, if_pos h45] at this
      exact this
    · rw [hw, if_neg h45, if_pos rfl]
      have := all 48 (by decide) (by rw [if_neg h45])
      rw [hw, if_neg h45] at this
      exact this
  have hs := m_here (p := p) hb hT e1 e2 (by omega)
  unfold Md_readsHeight0 Md_readsHeight_b19
  rw [hs, Option.bind_some, e2]
  by_cases h45 : sN tx n p = 45
  · have hq1 : q1 tx n p = p + 1 := by unfold q1; rw [if_pos h45]
    rw [if_pos ((sg_eq hb p (k := 45) (by decide)).mpr h45), if_neg (show ¬ (1 : Int32) = 0 by decide), show nI p + 1 = nI (p + 1) from nI_1 _]
    refine mid _ 1 (Fx_sI PR5) ?_ (by rw [if_pos h45])
    rw [hq1]
    exact MRd_at ⟨e1, e2, e3, e4⟩
  · have hq1 : q1 tx n p = p := by unfold q1; rw [if_neg h45]
    rw [if_neg (fun z => h45 ((sg_eq hb p (k := 45) (by decide)).mp z)), if_pos rfl]
    refine mid _ 0 Fx.rf ?_ (by rw [if_neg h45])
    rw [hq1]
    exact ⟨e1, e2, e3, e4⟩
theorem m_takes44 (hb : TXb tx n) (hT : TXM tx n σ) (h1 : σ.1 166 6 = nI n) (h2 : σ.1 166 5 = nI p) (hp : p < 300) : Md_takes 44 σ = if sN tx n p = 44 then some (1, sI σ 166 5 (nI (p + 1))) else some (0, sI σ 166 7 (flt 1 p)) := by
  unfold Md_takes Md_takes0
  rw [m_here hb hT h1 h2 hp, Option.bind_some, h2, show nI p + 1 = nI (p + 1) from nI_1 _]
  by_cases h : sN tx n p = 44
  · rw [if_pos h, if_pos ((sg_eq hb p (k := 44) (by decide)).mpr h)]
    rfl
  · rw [if_neg h, if_neg (fun z => h ((sg_eq hb p (k := 44) (by decide)).mp z)), show (1 : Int32) = nI 1 from rfl, m_wrongAt]
    rfl
theorem edgeS_s : edgeS tx n (k + 1) p f v = (match parS tx n p f v with
    | .inl e => (Sum.inl e : ES)
    | .inr q => contS (edgeS tx n k) tx n q.1 q.2.1 q.2.2) := rfl
def resF (R : ES) (σ : MH) (z : Int32 × MH) : Prop := z.1 = bI (okR2 R) ∧ Fx PR σ z.2 ∧ (∀ e, R = .inl e → z.2.1 166 7 = e) ∧ ∀ w, R = .inr w → ∀ j, j < 8 → z.2.1 184 j = w j
theorem m_edgeLoop (hb : TXb tx n) (hT : TXM tx n σ) {R : ES} (hR : edgeS tx n n 0 0 v = R) (h6 : σ.1 166 6 = nI n) (h5 : σ.1 166 5 = 0) (h29 : σ.1 166 29 = 0) (v1 : Int32) : ∃ z, ((Md_readsHeight σ).bind fun (x7, σ8) => Md_edge_L47 v1 (x7, σ8)) = some z ∧ resF R σ z := by
  have hn := hb.1
  have hM0 : MRd n 0 0 v σ := ⟨h6, h5, h29, fun j hj => by omega⟩
  -- the states of the loop
  let P : Int32 × MH → Prop := fun z => Fx PR σ z.2 ∧ ((z.1 = 0 ∧ ∃ e, R = .inl e ∧ z.2.1 166 7 = e) ∨ (z.1 = 1 ∧ ∃ p f v k, MRd n p f v z.2 ∧ contS (edgeS tx n k) tx n p f v = R ∧ p ≤ n ∧ f ≤ 8 ∧ n ≤ p + k ∧ v9 f v))
  let μ : Int32 × MH → Nat := fun z => if z.1 = 0 then 0 else 301 - (z.2.1 166 5).toNatClampNeg
  have hpar : ∀ (τ : MH) (p f k : Nat) (v : Nat → Int32), Fx PR σ τ → MRd n p f v τ → p ≤ n → f ≤ 8 → v9 f v → n ≤ p + k → edgeS tx n k p f v = R → ∃ x τ', Md_readsHeight τ = some (x, τ') ∧ P (x, τ') ∧ (x = 0 ∨ (x = 1 ∧ ∃ p', p < p' ∧ p' ≤ n ∧ τ'.1 166 5 = nI p')) := by
    intro τ p f k v hf hM hp hf8 hv hk he
    obtain ⟨τ', a1, a2, a3, a4⟩ := m_readsHeight hb (TXM_of hT hf) hp hf8 hM
    cases hpr : parS tx n p f v with
    | inl e =>
      rw [hpr] at a1
      refine ⟨0, τ', a1, ⟨hf.tr a2, Or.inl ⟨rfl, e, ?_, a3 e hpr⟩⟩, Or.inl rfl⟩
      cases k with
      | zero =>
        have hsn : sN tx n p = 256 := by unfold sN; rw [if_neg (by omega)]
        unfold parS at hpr
        rw [hsn] at hpr
        have hq1 : q1 tx n p = p := by unfold q1; rw [hsn, if_neg (by decide)]
        rw [hq1, hsn, if_neg (by decide)] at hpr
        exact he.symm.trans (show (Sum.inl (flt 1 p) : ES) = Sum.inl e from congrArg Sum.inl (Sum.inl.inj hpr))
      | succ k =>
        rw [← he, edgeS_s, hpr]
    | inr q =>
      obtain ⟨p', f', v'⟩ := q
      obtain ⟨b1, b2, b3, b4⟩ := par_ok hb hpr hv
      have hMM := a4 _ hpr
      rw [hpr] at a1
      cases k with
      | zero => omega
      | succ k =>
        refine ⟨1, τ', a1, ⟨hf.tr a2, Or.inr ⟨rfl, p', f', v', k, hMM, ?_, b2, b3, by omega, b4⟩⟩, Or.inr ⟨rfl, p', b1, b2, hMM.2.1⟩⟩
        rw [← he, edgeS_s, hpr]
  obtain ⟨x, τ, e1, hP, -⟩ := hpar σ 0 0 n v Fx.rf hM0 (by omega) (by omega) (fun j hj => by omega) (by omega) hR
  rw [e1, Option.bind_some]
  refine itr_w P (resF R σ) μ (fun z hz => ?_) 301 FU (x, τ) hP ?_ (by decide)
  · obtain ⟨z1, z2⟩ := z
    obtain ⟨hf, ⟨h0, e, hRe, h7⟩ | ⟨h1, p, f, v, k, hM, hc, hp, hf8, hk, hv⟩⟩ := hz
    · dsimp only at h0 h7 hf
      subst h0
      right
      refine ⟨(0, z2), ?_, ?_, hf, ?_, ?_⟩
      · show Md_edge_l47 v1 0 z2 = _
        unfold Md_edge_l47
        rw [if_pos rfl]
      · rw [hRe]; rfl
      · intro e' h
        rw [hRe] at h
        exact h7.trans (Sum.inl.inj h)
      · intro w h
        rw [hRe] at h
        cases h
    · dsimp only at h1 hf hM
      subst h1
      have go : ¬ (n ≤ p ∧ f = 8) → Md_edge_l47 v1 1 z2 = Md_edge_b71 v1 z2 := fun hno => by
        unfold Md_edge_l47
        rw [if_neg (show ¬ (1 : Int32) = 0 by decide), hM.2.1, hM.1, hM.2.2.1]
        by_cases c : p < n
        · rw [if_pos ((nI_ltI (by omega) (by omega)).mpr c)]
        · rw [if_neg (fun z => c ((nI_ltI (by omega) (by omega)).mp z)), if_neg (mt (leR 8 (by omega) (by decide)).mp (by omega))]
      have ht := m_takes44 hb (TXM_of hT hf) hM.1 hM.2.1 (by omega)
      have mu1 : μ (1, z2) = 301 - p := by
        show (if (1 : Int32) = 0 then 0 else 301 - (z2.1 166 5).toNatClampNeg) = _
        rw [if_neg (by decide), hM.2.1, nI_clamp (by omega)]
      unfold contS at hc
      by_cases hend : n ≤ p
      · rw [if_pos hend] at hc
        by_cases h8 : f = 8
        · rw [if_pos h8] at hc
          right
          refine ⟨(1, z2), ?_, ?_, hf, ?_, ?_⟩
          · show Md_edge_l47 v1 1 z2 = _
            unfold Md_edge_l47
            rw [if_neg (show ¬ (1 : Int32) = 0 by decide), hM.2.1, hM.1, hM.2.2.1, if_neg (by rw [nI_ltI (by omega) (by omega)]; omega), if_pos ((leR 8 (by omega) (by decide)).mpr (by omega))]
          · rw [← hc]; rfl
          · intro e h
            rw [← hc] at h
            cases h
          · intro w h j hj
            rw [← hc] at h
            cases h
            exact hM.2.2.2 j (by omega)
        · rw [if_neg h8] at hc
          left
          have hsn : sN tx n p = 256 := by unfold sN; rw [if_neg (by omega)]
          refine ⟨(0, sI z2 166 7 (flt 1 p)), ?_, ⟨hf.tr (Fx_sI PR7), Or.inl ⟨rfl, _, hc.symm, sI_same⟩⟩, ?_⟩
          · show Md_edge_l47 v1 1 z2 = _
            rw [go (by omega)]
            unfold Md_edge_b71 Md_edge_b91 Md_edge_b92
            rw [ht, if_neg (by omega)]
            rfl
          · rw [mu1]
            show (if (0 : Int32) = 0 then 0 else _) < _
            rw [if_pos rfl]
            omega
      · rw [if_neg hend] at hc
        by_cases h44 : sN tx n p = 44
        · rw [if_pos h44] at hc
          rw [if_pos h44] at ht
          have M1 : MRd n (p + 1) f v (sI z2 166 5 (nI (p + 1))) := MRd_at hM
          cases k with
          | zero => omega
          | succ k =>
            obtain ⟨x, τ, e2, hP2, hx⟩ := hpar (sI z2 166 5 (nI (p + 1))) (p + 1) f (k + 1) v (hf.tr (Fx_sI PR5)) M1 (by omega) hf8 hv (by omega) hc
            left
            refine ⟨(x, τ), ?_, hP2, ?_⟩
            · show Md_edge_l47 v1 1 z2 = _
              rw [go (by omega)]
              unfold Md_edge_b71 Md_edge_b91 Md_edge_b92
              rw [ht, Option.bind_some]
              dsimp only
              rw [if_neg (show ¬ (1 : Int32) = 0 by decide), e2, Option.bind_some]
              dsimp only
              rcases hx with h | ⟨h, -⟩
              · rw [h, if_pos rfl]
              · rw [h, if_neg (show ¬ (1 : Int32) = 0 by decide)]
            · rw [mu1]
              show (if x = 0 then 0 else 301 - (τ.1 166 5).toNatClampNeg) < _
              rcases hx with h | ⟨h, p', h1, h2, h3⟩
              · rw [if_pos h]; omega
              · rw [h, if_neg (show ¬ (1 : Int32) = 0 by decide), h3, nI_clamp (by omega)]
                omega
        · rw [if_neg h44] at hc
          rw [if_neg h44] at ht
          left
          refine ⟨(0, sI z2 166 7 (flt 1 p)), ?_, ⟨hf.tr (Fx_sI PR7), Or.inl ⟨rfl, _, hc.symm, sI_same⟩⟩, ?_⟩
          · show Md_edge_l47 v1 1 z2 = _
            rw [go (by omega)]
            unfold Md_edge_b71 Md_edge_b91 Md_edge_b92
            rw [ht]
            rfl
          · rw [mu1]
            show (if (0 : Int32) = 0 then 0 else _) < _
            rw [if_pos rfl]
            omega
  · show (if x = 0 then 0 else 301 - (τ.1 166 5).toNatClampNeg) ≤ 301
    split <;> omega
end ED2
