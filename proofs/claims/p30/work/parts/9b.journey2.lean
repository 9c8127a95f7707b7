/-! journey, in the reference, and the call -/
section JR2
variable {σ : MH} {A : Nat → Int32} {tx : Nat → Nat} {n p f k c i : Nat} {v : Nat → Int32}
def MRw (n p f c : Nat) (v : Nat → Int32) (σ : MH) : Prop := σ.1 166 6 = nI n ∧ σ.1 166 5 = nI p ∧ σ.1 166 29 = nI f ∧ σ.1 166 30 = nI c ∧ ∀ j, j < f → σ.1 185 j = v j
theorem MRw_at {q : Nat} (h : MRw n p f c v σ) : MRw n q f c v (sI σ 166 5 (nI q)) := by
  obtain ⟨e1, e2, e3, e5, e4⟩ := h
  refine ⟨?_, sI_same, ?_, ?_, fun j hj => ?_⟩
  · rw [sI_fld (by decide)]; exact e1
  · rw [sI_fld (by decide)]; exact e3
  · rw [sI_fld (by decide)]; exact e5
  · rw [sI_obj (by decide)]; exact e4 j hj
def resQ (n c : Nat) (R : PrS) (σ : MH) (o : Option (Int32 × MH)) : Prop := ∃ σ', o = some (bI (okPr R), σ') ∧ Fx PR σ σ' ∧ (∀ e, R = .inl e → σ'.1 166 7 = e) ∧ ∀ q, R = .inr q → MRw n q.1 q.2.1 (c + 1) q.2.2 σ'
theorem m_fill185 {t : Nat} {val : Int32} (hM : MRw n p f c v σ) (ht : f + t ≤ 144) : resQ n c (.inr (p, f + t, upV f t v val)) σ (Md_readsStop_b133 val (nI t) σ) := by
  obtain ⟨e1, e2, e3, e5, e4⟩ := hM
  unfold Md_readsStop_b133
  obtain ⟨r, e, pr, g1, g2, g3, g5, g4⟩ : ∃ r, Md_readsStop_L135 val (nI t) (0, σ) = some r ∧ Fx PR σ r ∧ r.1 166 6 = nI n ∧ r.1 166 5 = nI p ∧ r.1 166 29 = nI f ∧ r.1 166 30 = nI c ∧ ∀ j, j < f + t → r.1 185 j = upV f t v val j := by
    refine itr_n t (fun (k : Nat) (z : Int32 × MH) => z.1 = nI k ∧ Fx PR σ z.2 ∧ z.2.1 166 6 = nI n ∧ z.2.1 166 5 = nI p ∧ z.2.1 166 29 = nI f ∧ z.2.1 166 30 = nI c ∧ ∀ j, j < f + k → z.2.1 185 j = upV f k v val j) _ ⟨rfl, Fx.rf, e1, e2, e3, e5, fun j hj => ?_⟩ (fun k z hk hz => ?_) (fun z hz => ?_) (by show t < 1000000; omega)
    · unfold upV
      rw [if_neg (by omega)]
      exact e4 j (by omega)
    · obtain ⟨z1, z2⟩ := z
      obtain ⟨rfl, hf, g1, g2, g3, g5, gv⟩ := hz
      dsimp only at hf g1 g2 g3 g5 gv
      obtain ⟨f1, f2, f3, f4⟩ := ix3 144 (show f + k < 144 by omega)
      refine Or.inl ⟨(nI (k + 1), sI z2 185 (f + k) val), ?_, rfl, hf.tr (Fx_sI (Or.inr (Or.inl rfl))), ?_, ?_, ?_, ?_, fun j hj => ?_⟩
      · show Md_readsStop_l135 val (nI t) (nI k) z2 = _
        unfold Md_readsStop_l135
        rw [if_neg (by rw [nI_leI (by omega) (by omega)]; omega), g3, nI_add, if_pos f2, f3, show nI k + 1 = nI (k + 1) from nI_1 _]
      · rw [sI_obj (by decide)]; exact g1
      · rw [sI_obj (by decide)]; exact g2
      · rw [sI_obj (by decide)]; exact g3
      · rw [sI_obj (by decide)]; exact g5
      · rw [sI_at]
        unfold upV
        by_cases c : j = f + k
        · rw [if_pos ⟨rfl, c⟩, if_pos (by omega)]
        · rw [if_neg (fun z => c z.2)]
          have := gv j (by omega)
          unfold upV at this
          rw [this]
          by_cases d : f ≤ j ∧ j < f + k
          · rw [if_pos d, if_pos (by omega)]
          · rw [if_neg d, if_neg (by omega)]
    · obtain ⟨z1, z2⟩ := z
      obtain ⟨rfl, hz⟩ := hz
      refine ⟨z2, ?_, hz⟩
      show Md_readsStop_l135 val (nI t) (nI t) z2 = _
      unfold Md_readsStop_l135
      rw [if_pos (Int32.le_refl _)]
  rw [e, Option.bind_some, g3, nI_add, sI_fld (by decide), g5, show nI c + 1 = nI (c + 1) from nI_1 _]
  refine ⟨_, rfl, (pr.tr (Fx_sI PR29)).tr (Fx_sI PR30), fun e h => (by cases h), fun q h => ?_⟩
  have hq := Sum.inr.inj h
  subst hq
  refine ⟨?_, ?_, ?_, sI_same, fun j hj => ?_⟩
  · rw [sI_fld (by decide), sI_fld (by decide)]; exact g1
  · rw [sI_fld (by decide), sI_fld (by decide)]; exact g2
  · rw [sI_fld (by decide), sI_same]
  · rw [sI_obj (by decide), sI_obj (by decide)]; exact g4 j hj
theorem resQ_wrong (k p : Nat) {R : PrS} (hR : R = .inl (flt k p)) (τ : MH) (hf : Fx PR σ τ) : resQ n c R σ ((Md_wrongAt (nI k) (nI p) τ).bind fun (x, σ') => some (x, σ')) := by
  subst hR
  rw [m_wrongAt]
  exact ⟨_, rfl, hf.tr (Fx_sI PR7), fun e h => sI_same.trans (Sum.inl.inj h), fun q h => by cases h⟩
theorem resQ_tr {R : PrS} {τ : MH} {o : Option (Int32 × MH)} (hf : Fx PR σ τ) (h : resQ n c R τ o) : resQ n c R σ o := by
  obtain ⟨σ', a, b, c⟩ := h
  exact ⟨σ', a, hf.tr b, c⟩
theorem m_isDigit (hb : TXb tx n) (hT : TXM tx n σ) (h1 : σ.1 166 6 = nI n) (h2 : σ.1 166 5 = nI p) (hp : p < 300) : Md_isDigit σ = some (bI (dg 48 57 (sN tx n p))) := by
  unfold Md_isDigit Md_isDigit0
  rw [m_here hb hT h1 h2 hp, Option.bind_some, Option.bind_some, ← sg_in hb p (show 48 < 256 by decide) (show 57 < 256 by decide)]
  by_cases c1 : sgX tx n p < 48
  · rw [if_pos c1, decide_eq_false (show ¬ (OfNat.ofNat 48 : Int32) ≤ sgX tx n p from ne_of_lt32 c1)]
    rfl
  · rw [if_neg c1, decide_eq_true (show (OfNat.ofNat 48 : Int32) ≤ sgX tx n p from Int32.not_lt.mp c1)]
    by_cases c2 : 57 < sgX tx n p
    · rw [if_pos c2, decide_eq_false (show ¬ sgX tx n p ≤ (OfNat.ofNat 57 : Int32) from ne_of_lt32 c2)]
      rfl
    · rw [if_neg c2, decide_eq_true (show sgX tx n p ≤ (OfNat.ofNat 57 : Int32) from Int32.not_lt.mp c2)]
      rfl
theorem m_readsStop (hb : TXb tx n) (hT : TXM tx n σ) (hp : p ≤ n) (hc : c ≤ 16) (hf9 : f ≤ 9 * c) (hM : MRw n p f c v σ) : resQ n c (stW tx n (decide (c = 16)) p f v) σ (Md_readsStop σ) := by
  have hn := hb.1
  have hM0 := hM
  obtain ⟨e1, e2, e3, e5, e4⟩ := hM
  have bz' : ∀ {R : PrS} {o : Option (Int32 × MH)}, resQ n c R σ o → resQ n c R σ (bzo o) := fun {R} {o} h => by
    obtain ⟨σ', a, b⟩ := h
    refine ⟨σ', ?_, b⟩
    rw [a]
    unfold bzo
    rw [Option.bind_some]
    cases okPr R <;> rfl
  refine bz' ?_
  have hs := m_here hb hT e1 e2 (by omega)
  unfold Md_readsStop0 stW
  rw [m_isDigit hb hT e1 e2 (by omega), Option.bind_some, e2, e5, hs, Option.bind_some]
  cases h1 : dg 48 57 (sN tx n p)
  · rw [bI_f, if_pos rfl, if_neg (by decide), show (1 : Int32) = nI 1 from rfl]
    exact resQ_wrong 1 p rfl _ Fx.rf
  · have d1 := dg_yes hb (by decide) h1
    rw [bI_t, if_neg (show ¬ (1 : Int32) = 0 by decide), if_pos rfl]
    by_cases h16 : c = 16
    · rw [if_pos ((eqL 16 (by omega) (by decide)).mpr h16), if_pos (decide_eq_true h16), show (4 : Int32) = nI 4 from rfl]
      exact resQ_wrong 4 p rfl _ Fx.rf
    · rw [if_neg (mt (eqL 16 (by omega) (by decide)).mp h16), if_neg (show ¬ decide (c = 16) = true by rw [decide_eq_false h16]; decide)]
      rw [d1.2.1, subL 48 (by omega)]
      by_cases h53 : sN tx n p ≤ 53
      · rw [if_pos ((ltL 6 (by omega) (by decide)).mpr (by omega)), if_pos h53, show nI p + 1 = nI (p + 1) from nI_1 _]
        have M1 : MRw n (p + 1) f c v (sI σ 166 5 (nI (p + 1))) := MRw_at hM0
        have F1 : Fx PR σ (sI σ 166 5 (nI (p + 1))) := Fx_sI PR5
        have hs1 := m_here (p := p + 1) hb (TXM_of hT F1) M1.1 M1.2.1 (by omega)
        rw [hs1, Option.bind_some]
        by_cases h42 : sN tx n (p + 1) = 42
        · rw [if_pos h42, if_pos ((sg_eq hb _ (k := 42) (by decide)).mpr h42), sI_same, show nI (p + 1) + 1 = nI (p + 2) from nI_1 _]
          have M2 : MRw n (p + 2) f c v (sI (sI σ 166 5 (nI (p + 1))) 166 5 (nI (p + 2))) := MRw_at M1
          have F2 : Fx PR σ (sI (sI σ 166 5 (nI (p + 1))) 166 5 (nI (p + 2))) := F1.tr (Fx_sI PR5)
          have hs2 := m_here (p := p + 2) hb (TXM_of hT F2) M2.1 M2.2.1 (by omega)
          rw [hs2, Option.bind_some, m_in, Option.bind_some, show (decide ((50 : Int32) ≤ sgX tx n (p + 2)) && decide (sgX tx n (p + 2) ≤ 57)) = dg 50 57 (sN tx n (p + 2)) from sg_in hb _ (by decide) (by decide), sI_same]
          cases hd : dg 50 57 (sN tx n (p + 2))
          · rw [bI_f, if_pos rfl, if_neg (by decide), show (1 : Int32) = nI 1 from rfl]
            exact resQ_wrong 1 _ rfl _ F2
          · have d2 := dg_yes hb (by decide) hd
            rw [bI_t, if_neg (show ¬ (1 : Int32) = 0 by decide), if_pos rfl, Option.bind_some, show nI (p + 2) + 1 = nI (p + 3) from nI_1 _, d2.2.1, subL 48 (by omega)]
            exact resQ_tr (F2.tr (Fx_sI PR5)) (m_fill185 (MRw_at M2) (by omega))
        · rw [if_neg h42, if_neg (fun z => h42 ((sg_eq hb _ (k := 42) (by decide)).mp z)), show (1 : Int32) = nI 1 from rfl]
          exact resQ_tr F1 (m_fill185 M1 (by omega))
      · rw [if_neg (mt (ltL 6 (by omega) (by decide)).mp (by omega)), if_neg h53, show (3 : Int32) = nI 3 from rfl]
        exact resQ_wrong 3 p rfl _ Fx.rf
def resV (R : WJ) (σ : MH) (z : Int32 × MH) : Prop := z.1 = bI (okW R) ∧ Fx PR σ z.2 ∧ (∀ e, R = .inl e → z.2.1 166 7 = e) ∧ ∀ q, R = .inr q → z.2.1 166 29 = nI q.1 ∧ ∀ j, j < q.1 → z.2.1 185 j = q.2 j
theorem m_wayLoop (hb : TXb tx n) (hT : TXM tx n σ) {R : WJ} (hR : wayS tx n 16 0 0 v = R) (h6 : σ.1 166 6 = nI n) (h5 : σ.1 166 5 = 0) (h29 : σ.1 166 29 = 0) (h30 : σ.1 166 30 = 0) (v1 : Int32) : ∃ z, ((Md_readsStop σ).bind fun (x7, σ8) => Md_journey_L53 v1 (x7, σ8)) = some z ∧ resV R σ z := by
  have hn := hb.1
  have hM0 : MRw n 0 0 0 v σ := ⟨h6, h5, h29, h30, fun j hj => by omega⟩
  let P : Int32 × MH → Prop := fun z => Fx PR σ z.2 ∧ ((z.1 = 0 ∧ ∃ e, R = .inl e ∧ z.2.1 166 7 = e) ∨ (z.1 = 1 ∧ ∃ p f v c, MRw n p f (c + 1) v z.2 ∧ c < 16 ∧ contW (wayS tx n (16 - (c + 1))) tx n p f v = R ∧ p ≤ n ∧ f ≤ 9 * (c + 1) ∧ v6 f v))
  let μ : Int32 × MH → Nat := fun z => if z.1 = 0 then 0 else 301 - (z.2.1 166 5).toNatClampNeg
  have hpar : ∀ (τ : MH) (p f c : Nat) (v : Nat → Int32), Fx PR σ τ → MRw n p f c v τ → p ≤ n → f ≤ 9 * c → c ≤ 16 → v6 f v → wayS tx n (16 - c) p f v = R → ∃ x τ', Md_readsStop τ = some (x, τ') ∧ P (x, τ') ∧ (x = 0 ∨ (x = 1 ∧ ∃ p', p < p' ∧ p' ≤ n ∧ τ'.1 166 5 = nI p')) := by
    intro τ p f c v hf hM hp hf9 hc hv he
    obtain ⟨τ', a1, a2, a3, a4⟩ := m_readsStop hb (TXM_of hT hf) hp hc hf9 hM
    cases hpr : stW tx n (decide (c = 16)) p f v with
    | inl e =>
      rw [hpr] at a1
      refine ⟨0, τ', a1, ⟨hf.tr a2, Or.inl ⟨rfl, e, ?_, a3 e hpr⟩⟩, Or.inl rfl⟩
      by_cases h16 : c = 16
      · subst h16
        rw [decide_eq_true rfl] at hpr
        rw [← he, Nat.sub_self]
        show (match stW tx n true p f v with
          | .inl e => (Sum.inl e : WJ)
          | .inr _ => .inl 0) = _
        rw [hpr]
      · rw [decide_eq_false h16] at hpr
        rw [← he, show 16 - c = (16 - (c + 1)) + 1 by omega, wayS_s, hpr]
    | inr q =>
      obtain ⟨p', f', v'⟩ := q
      obtain ⟨b0, b1, b2, b3, b5, b4⟩ := st_ok hb hpr hv
      have h16 : c ≠ 16 := of_decide_eq_false b0
      have hMM := a4 _ hpr
      rw [hpr] at a1
      refine ⟨1, τ', a1, ⟨hf.tr a2, Or.inr ⟨rfl, p', f', v', c, hMM, by omega, ?_, b2, by omega, b4⟩⟩, Or.inr ⟨rfl, p', b1, b2, hMM.2.1⟩⟩
      rw [decide_eq_false h16] at hpr
      rw [← he, show 16 - c = (16 - (c + 1)) + 1 by omega, wayS_s, hpr]
  obtain ⟨x, τ, e1, hP, -⟩ := hpar σ 0 0 0 v Fx.rf hM0 (by omega) (by omega) (by omega) (fun j hj => by omega) hR
  rw [e1, Option.bind_some]
  refine itr_w P (resV R σ) μ (fun z hz => ?_) 301 FU (x, τ) hP ?_ (by decide)
  · obtain ⟨z1, z2⟩ := z
    obtain ⟨hf, ⟨h0, e, hRe, h7⟩ | ⟨h1, p, f, v, c, hM, hc, hcc, hp, hf9, hv⟩⟩ := hz
    · dsimp only at h0 h7 hf
      subst h0
      right
      refine ⟨(0, z2), ?_, ?_, hf, ?_, ?_⟩
      · show Md_journey_l53 v1 0 z2 = _
        unfold Md_journey_l53
        rw [if_pos rfl]
      · rw [hRe]; rfl
      · intro e' h
        rw [hRe] at h
        exact h7.trans (Sum.inl.inj h)
      · intro w h
        rw [hRe] at h
        cases h
    · dsimp only at h1 hf hM
      subst h1
      have ht := m_takes44 hb (TXM_of hT hf) hM.1 hM.2.1 (by omega)
      have mu1 : μ (1, z2) = 301 - p := by
        show (if (1 : Int32) = 0 then 0 else 301 - (z2.1 166 5).toNatClampNeg) = _
        rw [if_neg (by decide), hM.2.1, nI_clamp (by omega)]
      unfold contW at hcc
      by_cases hend : n ≤ p
      · rw [if_pos hend] at hcc
        right
        refine ⟨(1, z2), ?_, ?_, hf, ?_, ?_⟩
        · show Md_journey_l53 v1 1 z2 = _
          unfold Md_journey_l53
          rw [if_neg (show ¬ (1 : Int32) = 0 by decide), hM.2.1, hM.1, if_pos ((nI_leI (by omega) (by omega)).mpr hend)]
        · rw [← hcc]; rfl
        · intro e h
          rw [← hcc] at h
          cases h
        · intro q h
          rw [← hcc] at h
          have hq := Sum.inr.inj h
          subst hq
          exact ⟨hM.2.2.1, hM.2.2.2.2⟩
      · rw [if_neg hend] at hcc
        have go : Md_journey_l53 v1 1 z2 = ((Md_takes 44 z2).bind fun (x10, σ11) => if x10 = (0 : Int32) then (Md_journey_b88 v1 σ11) else ((Md_readsStop σ11).bind fun (x13, σ14) => if x13 = (0 : Int32) then (Md_journey_b88 v1 σ14) else (Md_journey_b89 v1 (1 : Int32) σ14))) := by
          unfold Md_journey_l53
          rw [if_neg (show ¬ (1 : Int32) = 0 by decide), hM.2.1, hM.1, if_neg (by rw [nI_leI (by omega) (by omega)]; omega)]
        by_cases h44 : sN tx n p = 44
        · rw [if_pos h44] at hcc
          rw [if_pos h44] at ht
          have M1 : MRw n (p + 1) f (c + 1) v (sI z2 166 5 (nI (p + 1))) := MRw_at hM
          obtain ⟨x, τ, e2, hP2, hx⟩ := hpar (sI z2 166 5 (nI (p + 1))) (p + 1) f (c + 1) v (hf.tr (Fx_sI PR5)) M1 (by omega) hf9 (by omega) hv hcc
          left
          refine ⟨(x, τ), ?_, hP2, ?_⟩
          · show Md_journey_l53 v1 1 z2 = _
            rw [go]
            unfold Md_journey_b88 Md_journey_b89
            rw [ht, Option.bind_some]
            dsimp only
            rw [if_neg (show ¬ (1 : Int32) = 0 by decide), e2, Option.bind_some]
            dsimp only
            rcases hx with h | ⟨h, -⟩
            · rw [h, if_pos rfl]
            · rw [h, if_neg (show ¬ (1 : Int32) = 0 by decide)]
          · rw [mu1]
            show (if x = 0 then 0 else 301 - (τ.1 166 5).toNatClampNeg) < _
            rcases hx with h | ⟨h, p', h1, h2, h3⟩
            · rw [if_pos h]; omega
            · rw [h, if_neg (show ¬ (1 : Int32) = 0 by decide), h3, nI_clamp (by omega)]
              omega
        · rw [if_neg h44] at hcc
          rw [if_neg h44] at ht
          left
          refine ⟨(0, sI z2 166 7 (flt 1 p)), ?_, ⟨hf.tr (Fx_sI PR7), Or.inl ⟨rfl, _, hcc.symm, sI_same⟩⟩, ?_⟩
          · show Md_journey_l53 v1 1 z2 = _
            rw [go]
            unfold Md_journey_b88 Md_journey_b89
            rw [ht]
            rfl
          · rw [mu1]
            show (if (0 : Int32) = 0 then 0 else _) < _
            rw [if_pos rfl]
            omega
  · show (if x = 0 then 0 else 301 - (τ.1 166 5).toNatClampNeg) ≤ 301
    split <;> omega
/-! the row with another way -/
def wyB (A : Nat → Int32) (i f : Nat) (v : Nat → Int32) : Nat → Int32 := fun m => if 208 + 144 * i ≤ m ∧ m < 208 + 144 * i + f then v (m - (208 + 144 * i)) else if m = 96 + i then nI f else if m = 84 + i then 0 else A m
theorem wyB_o {m : Nat} (h1 : m < 208 + 144 * i ∨ 208 + 144 * i + f ≤ m) (h2 : m ≠ 96 + i) (h3 : m ≠ 84 + i) : wyB A i f v m = A m := by
  unfold wyB
  rw [if_neg (by omega), if_neg h2, if_neg h3]
theorem WF_wy (wf : WF A) (hi : i < 12) (hf : f ≤ 144) (hv : v6 f v) : WF (wyB A i f v) := by
  have o : ∀ m, (m < 84 ∨ (108 ≤ m ∧ m < 208)) → wyB A i f v m = A m := fun m hm => wyB_o (by omega) (by omega) (by omega)
  have hl : ∀ j, liveR (wyB A i f v) j = liveR A j := fun j => by unfold liveR; rw [o 108 (by omega), o 109 (by omega)]
  refine ⟨?_, ?_, ?_, ?_, fun j hj => ?_⟩
  · rw [o 108 (by omega), o 109 (by omega)]; exact wf.1
  · rw [o 108 (by omega), o 109 (by omega)]; exact wf.2.1
  · rw [o 110 (by omega)]; exact wf.2.2.1
  · rw [o 111 (by omega)]; exact wf.2.2.2.1
  · obtain ⟨p1, p2, p3, p4, p5, p6, ⟨g, m, q1, q2, q3, q4, q5⟩, p8, p9⟩ := wf.2.2.2.2 j hj
    refine ⟨?_, ?_, ?_, ?_, ?_, ?_, ?_, ?_, ?_⟩
    · rw [o _ (by omega)]; exact p1
    · rw [o _ (by omega)]; exact p2
    · rw [o _ (by omega), hl]
      rcases p3 with q | ⟨j, a, b, c, d, f, g⟩
      · exact Or.inl q
      · exact Or.inr ⟨j, a, b, c, by rw [o _ (by omega)]; exact d, f, by rw [hl]; exact g⟩
    · rw [o _ (by omega)]; exact p4
    · rw [o _ (by omega)]; exact p5
    · rw [o _ (by omega)]; exact p6
    · by_cases c : j = i
      · subst c
        refine ⟨0, f, Nat.zero_le _, hf, ?_, ?_, fun m hm => ?_⟩
        · unfold wyB
          rw [if_neg (by omega), if_neg (by omega), if_pos rfl]
          rfl
        · unfold wyB
          rw [if_neg (by omega), if_pos rfl]
        · unfold wyB
          rw [if_pos (by omega), show 208 + 144 * j + m - (208 + 144 * j) = m by omega]
          exact hv m hm
      · refine ⟨g, m, q1, q2, by rw [wyB_o (by omega) (by omega) (by omega)]; exact q3, by rw [wyB_o (by omega) (by omega) (by omega)]; exact q4, fun x hx => ?_⟩
        rw [wyB_o (by omega) (by omega) (by omega)]
        exact q5 x hx
    · intro h hh
      rw [o _ (by omega)]; exact p8 h hh
    · rw [hl, o _ (by omega)]; exact p9
theorem LD_wy {σ' : MH} (h : LD 1 A σ) (hi : i < 12) (hf : f ≤ 144) (e1 : ∀ b m, 1 ≤ b → b < 37 → b ≠ 23 + i → (b = 35 → m ≠ i) → (b = 36 → m ≠ i) → σ'.1 b m = σ.1 b m) (e2 : ∀ m, m < f → σ'.1 (23 + i) m = v m) (e3 : σ'.1 35 i = nI f) (e4 : σ'.1 36 i = 0) : LD 1 (wyB A i f v) σ' := by
  have o : ∀ m, (m < 84 ∨ (108 ≤ m ∧ m < 208)) → wyB A i f v m = A m := fun m hm => wyB_o (by omega) (by omega) (by omega)
  refine ⟨⟨?_, ?_, ?_, ?_⟩, fun j hj => ?_, fun x m hx hm => ?_, fun j x hj hx q => ?_, fun m hm => ?_⟩
  · rw [o _ (by omega), e1 1 0 (by omega) (by omega) (by omega) (by omega) (by omega)]; exact h.1.1
  · rw [o _ (by omega), e1 1 1 (by omega) (by omega) (by omega) (by omega) (by omega)]; exact h.1.2.1
  · rw [o _ (by omega), e1 1 13 (by omega) (by omega) (by omega) (by omega) (by omega)]; exact h.1.2.2.1
  · rw [o _ (by omega), e1 1 14 (by omega) (by omega) (by omega) (by omega) (by omega)]; exact h.1.2.2.2
  · obtain ⟨k1, k2, k3, k4, k5, k6, k7, k8⟩ := h.2.1 j hj
    refine ⟨?_, ?_, ?_, ?_, ?_, ?_, ?_, ?_⟩
    · rw [o _ (by omega), e1 _ _ (by omega) (by omega) (by omega) (by omega) (by omega)]; exact k1
    · rw [o _ (by omega), e1 _ _ (by omega) (by omega) (by omega) (by omega) (by omega)]; exact k2
    · rw [o _ (by omega), e1 _ _ (by omega) (by omega) (by omega) (by omega) (by omega)]; exact k3
    · rw [o _ (by omega), e1 _ _ (by omega) (by omega) (by omega) (by omega) (by omega)]; exact k4
    · rw [o _ (by omega), e1 _ _ (by omega) (by omega) (by omega) (by omega) (by omega)]; exact k5
    · rw [o _ (by omega), e1 _ _ (by omega) (by omega) (by omega) (by omega) (by omega)]; exact k6
    · by_cases c : j = i
      · subst c
        unfold wyB
        rw [if_neg (by omega), if_pos rfl]
        exact e3
      · rw [wyB_o (by omega) (by omega) (by omega), e1 _ _ (by omega) (by omega) (by omega) (by omega) (by omega)]; exact k7
    · by_cases c : j = i
      · subst c
        unfold wyB
        rw [if_neg (by omega), if_neg (by omega), if_pos rfl]
        exact e4
      · rw [wyB_o (by omega) (by omega) (by omega), e1 _ _ (by omega) (by omega) (by omega) (by omega) (by omega)]; exact k8
  · rw [o _ (by omega), e1 _ _ (by omega) (by omega) (by omega) (by omega) (by omega)]; exact h.2.2.1 x m hx hm
  · by_cases c : j = i
    · subst c
      have q96 : wyB A j f v (96 + j) = nI f := by
        unfold wyB
        rw [if_neg (by omega), if_pos rfl]
      rw [q96, nI_toInt (by omega)] at q
      unfold wyB
      rw [if_pos (by omega), show 208 + 144 * j + x - (208 + 144 * j) = x by omega, show 1 + 22 + j = 23 + j by omega]
      exact e2 x (by omega)
    · rw [wyB_o (by omega) (by omega) (by omega)] at q
      rw [wyB_o (by omega) (by omega) (by omega), e1 _ _ (by omega) (by omega) (by omega) (by omega) (by omega)]
      exact h.2.2.2.1 j x hj hx q
  · obtain ⟨h1, h2⟩ := h.2.2.2.2 m hm
    rw [e1 _ _ (by omega) (by omega) (by omega) (by omega) (by omega)]
    refine ⟨fun j hj => ?_, h2⟩
    rw [h1 j hj]
    unfold hldR toldR
    rw [o 108 (by omega), o (48 + j) (by omega)]
theorem m_copyW (hi : i < 12) (hf : f ≤ 144) (h29 : σ.1 166 29 = nI f) (hv : ∀ j, j < f → σ.1 185 j = v j) : ∃ σ', Md_journey_b93 (nI i) 1 σ = some (nI f, σ') ∧ Fx (fun b m => b = 167 ∨ (b = 166 ∧ m = 4)) σ σ' ∧ σ'.1 166 4 = 0 ∧ ∀ m, σ'.1 167 m = wyB (σ.1 167) i f v m := by
  have b84 := ixc (c := 84) hi (by decide)
  have b96 := ixc (c := 96) hi (by decide)
  unfold Md_journey_b93
  rw [if_neg (show ¬ (1 : Int32) = 0 by decide), lit_nI 84, lit_nI 96, if_pos b84.1, if_pos b96.1, b84.2, b96.2]
  have h29' : (sI (sI σ 166 4 0) 167 (84 + i) 0).1 166 29 = nI f := by rw [sI_obj (by decide), sI_fld (by decide)]; exact h29
  rw [h29']
  have F0 : Fx (fun b m => b = 167 ∨ (b = 166 ∧ m = 4)) σ (sI (sI (sI σ 166 4 0) 167 (84 + i) 0) 167 (96 + i) (nI f)) := ((Fx_sI (P := fun b m => b = 167 ∨ (b = 166 ∧ m = 4)) (Or.inr ⟨rfl, rfl⟩)).tr (Fx_sI (Or.inl rfl))).tr (Fx_sI (Or.inl rfl))
  have row0 : ∀ m, (sI (sI (sI σ 166 4 0) 167 (84 + i) 0) 167 (96 + i) (nI f)).1 167 m = if m = 96 + i then nI f else if m = 84 + i then 0 else σ.1 167 m := fun m => by
    rw [sI_at]
    by_cases c : m = 96 + i
    · rw [if_pos ⟨rfl, c⟩, if_pos c]
    · rw [if_neg (fun z => c z.2), if_neg c, sI_at]
      by_cases d : m = 84 + i
      · rw [if_pos ⟨rfl, d⟩, if_pos d]
      · rw [if_neg (fun z => d z.2), if_neg d, sI_obj (by decide)]
  have z4 : (sI (sI (sI σ 166 4 0) 167 (84 + i) 0) 167 (96 + i) (nI f)).1 166 4 = 0 := by rw [sI_obj (by decide), sI_obj (by decide), sI_same]
  generalize sI (sI (sI σ 166 4 0) 167 (84 + i) 0) 167 (96 + i) (nI f) = τ at F0 row0 z4
  obtain ⟨r, e, p, g⟩ : ∃ r, Md_journey_L133 (nI i) (0, τ) = some r ∧ Fx (fun b _ => b = 167) τ r ∧ ∀ m, r.1 167 m = if 208 + 144 * i ≤ m ∧ m < 208 + 144 * i + f then v (m - (208 + 144 * i)) else τ.1 167 m := by
    refine itr_n f (fun (j : Nat) (z : Int32 × MH) => z.1 = nI j ∧ Fx (fun b _ => b = 167) τ z.2 ∧ ∀ m, z.2.1 167 m = if 208 + 144 * i ≤ m ∧ m < 208 + 144 * i + j then v (m - (208 + 144 * i)) else τ.1 167 m) _ ⟨rfl, Fx.rf, fun m => by rw [if_neg (by omega)]⟩ (fun j z hj hz => ?_) (fun z hz => ?_) (by show f < 1000000; omega)
    · obtain ⟨z1, z2⟩ := z
      obtain ⟨rfl, hF, hvv⟩ := hz
      dsimp only at hF hvv
      have e29 : z2.1 166 29 = nI f := (hF 166 29 (by omega)).trans ((F0 166 29 (by omega)).trans h29)
      have e185 : z2.1 185 j = v j := (hF 185 j (by omega)).trans ((F0 185 j (by omega)).trans (hv j hj))
      have ei : (208 + (144 * nI i)) + nI j = nI (208 + 144 * i + j) := by rw [lit_nI 208, lit_nI 144, pk_mul, nI_add, nI_add]
      refine Or.inl ⟨(nI (j + 1), sI z2 167 (208 + 144 * i + j) (v j)), ?_, rfl, hF.tr (Fx_sI rfl), fun m => ?_⟩
      · show Md_journey_l133 (nI i) (nI j) z2 = _
        unfold Md_journey_l133
        rw [e29, if_neg (by rw [nI_leI (by omega) (by omega)]; omega), if_pos (inb_nI (by omega) (by decide)), ei, if_pos (inb_nI (by omega) (by decide)), nI_clamp (by omega), nI_clamp (by omega), e185, show nI j + 1 = nI (j + 1) from nI_1 _]
      · dsimp only
        rw [sI_at, hvv m]
        by_cases c : m = 208 + 144 * i + j
        · rw [if_pos ⟨rfl, c⟩, if_pos (by omega), c, show 208 + 144 * i + j - (208 + 144 * i) = j by omega]
        · rw [if_neg (fun z => c z.2)]
          by_cases d : 208 + 144 * i ≤ m ∧ m < 208 + 144 * i + j
          · rw [if_pos d, if_pos (by omega)]
          · rw [if_neg d, if_neg (by omega)]
    · obtain ⟨z1, z2⟩ := z
      obtain ⟨rfl, hF, hz⟩ := hz
      refine ⟨z2, ?_, hF, hz⟩
      have e29 : z2.1 166 29 = nI f := (hF 166 29 (by omega)).trans ((F0 166 29 (by omega)).trans h29)
      show Md_journey_l133 (nI i) (nI f) z2 = _
      unfold Md_journey_l133
      rw [e29, if_pos (Int32.le_refl _)]
  have e29 : r.1 166 29 = nI f := (p 166 29 (by omega)).trans ((F0 166 29 (by omega)).trans h29)
  rw [e, Option.bind_some, e29]
  refine ⟨r, rfl, F0.tr (p.mo (fun b m q => Or.inl q)), (p 166 4 (by omega)).trans z4, fun m => ?_⟩
  rw [g m, row0 m]
  rfl
theorem st_journey (hI : Inv σ) (x y : Int32) : ∃ (r r' : Int32) (σ1 : MH) (σ2 : MH), Pz_journey x y σ = some (r, σ1) ∧ Md_journey x y σ1 = some (r', σ2) ∧ r = r' ∧ Inv σ2 := by
  have no : Pz_journey x y σ = some (-1, σ) → Md_journey x y σ = some (-1, σ) → ∃ (r r' : Int32) (σ1 : MH) (σ2 : MH), Pz_journey x y σ = some (r, σ1) ∧ Md_journey x y σ1 = some (r', σ2) ∧ r = r' ∧ Inv σ2 := fun h1 h2 => ⟨-1, -1, σ, σ, h1, h2, rfl, hI⟩
  obtain ⟨t1, ⟨L, hL, t2⟩, -⟩ := hI.2.2.2.1
  have t4 : σ.1 166 4 = nI L := t1.symm.trans t2
  rcases tw_ix x with ⟨i, hi, rfl⟩ | h
  · cases hTo : toldR (σ.1 167) i
    · refine no ?_ ?_
      · unfold Pz_journey Pz_journey0
        rw [c_isTold hI.1 hi, hTo, Option.bind_some, bI_f, if_pos rfl]
      · unfold Md_journey Md_journey0
        rw [m_isPerson hi, hTo, Option.bind_some, bI_f, if_pos rfl]
    · rcases n_kinds y L hL 40 (by decide) with ⟨n, rfl, h1, h2, h3⟩ | hy
      · obtain ⟨hb, hT, hTM⟩ := tx_ok (n := n) hI (by omega)
        obtain ⟨f1, f2, f3, f4⟩ := ix3 12 hi
        obtain ⟨σ1, e1, p1, g1, g2⟩ := c_readWay (v := fun _ => 0) hb hT
        have hcl : Pz_journey (nI i) (nI n) σ = if bI (okW (wayS (b8 σ) n 16 0 0 (fun _ => 0))) = 0 then some (σ1.1 124 3, sI σ1 109 1 0) else some ((sI (sI (cpI (sI σ1 109 1 0) 125 (23 + i) 144) 35 i ((cpI (sI σ1 109 1 0) 125 (23 + i) 144).1 124 5)) 36 i 0).1 124 5, sI (sI (cpI (sI σ1 109 1 0) 125 (23 + i) 144) 35 i ((cpI (sI σ1 109 1 0) 125 (23 + i) 144).1 124 5)) 36 i 0) := by
          unfold Pz_journey Pz_journey0
          rw [c_isTold hI.1 hi, hTo, Option.bind_some, bI_t, if_neg (show ¬ (1 : Int32) = 0 by decide), if_neg (mt (ltL 1 (by omega) (by decide)).mp (by omega)), if_neg (mt (ltR 40 (by omega) (by decide)).mp (by omega)), t2, if_pos ((nI_leI (by omega) (by omega)).mpr h3), e1, Option.bind_some]
          dsimp only
          rw [sI_obj (by decide), if_pos f2, f3, show rfv 22 i = 23 + i from (rfW (t := 1) ld1 hi).trans (by omega)]
        have hmd : ∀ τ : MH, Fx (fun b m => b ≠ 166 ∧ b ≠ 170 ∧ b ≠ 167) σ τ → ∃ z, resV (wayS (b8 σ) n 16 0 0 (fun _ => 0)) (sI (sI (sI (sI τ 166 5 0) 166 6 (nI n)) 166 29 0) 166 30 0) z ∧ Md_journey (nI i) (nI n) τ = Md_journey_b93 (nI i) z.1 z.2 := fun τ hτ => by
          have r4 : τ.1 166 4 = nI L := (hτ 166 4 (by omega)).trans t4
          have rr : τ.1 167 = σ.1 167 := funext fun m => hτ 167 m (by omega)
          have r170 : (sI (sI (sI (sI τ 166 5 0) 166 6 (nI n)) 166 29 0) 166 30 0).1 170 = σ.1 170 := by
            rw [sI_objF (by decide), sI_objF (by decide), sI_objF (by decide), sI_objF (by decide)]
            exact funext fun m => hτ 170 m (by omega)
          obtain ⟨z, ez, hz⟩ := m_wayLoop (σ := sI (sI (sI (sI τ 166 5 0) 166 6 (nI n)) 166 29 0) 166 30 0) hb (hTM _ r170) rfl (by rw [sI_fld (by decide), sI_fld (by decide), sI_same]) (by rw [sI_fld (by decide), sI_fld (by decide), sI_fld (by decide), sI_same]) (by rw [sI_fld (by decide), sI_same]) sI_same (nI i)
          refine ⟨z, hz, ?_⟩
          unfold Md_journey Md_journey0
          rw [m_isPerson hi, rr, hTo, Option.bind_some, bI_t, if_neg (show ¬ (1 : Int32) = 0 by decide), in40 n (by omega), Option.bind_some, decide_eq_true h1, decide_eq_true h2, Bool.and_self, bI_t, if_neg (show ¬ (1 : Int32) = 0 by decide), r4, if_pos ((nI_leI (by omega) (by omega)).mpr h3)]
          revert ez
          generalize Md_readsStop (sI (sI (sI (sI τ 166 5 0) 166 6 (nI n)) 166 29 0) 166 30 0) = o
          intro ez
          cases o with
          | none => cases ez
          | some q =>
            rw [Option.bind_some] at ez
            rw [Option.bind_some]
            dsimp only at ez ⊢
            rw [ez, Option.bind_some]
        have FM : ∀ τ : MH, Fx PQ τ (sI (sI (sI (sI τ 166 5 0) 166 6 (nI n)) 166 29 0) 166 30 0) := fun τ => (((Fx_sI (P := PQ) (by unfold PQ; omega)).tr (Fx_sI (by unfold PQ; omega))).tr (Fx_sI (by unfold PQ; omega))).tr (Fx_sI (by unfold PQ; omega))
        cases hR : wayS (b8 σ) n 16 0 0 (fun _ => 0) with
        | inl e =>
          rw [hR] at hcl hmd
          have F1 : Fx (fun b m => (b = 124 ∨ b = 125) ∨ (b = 109 ∧ m = 1)) σ (sI σ1 109 1 0) := (p1.mo (fun b k q => Or.inl q)).tr (Fx_sI (Or.inr ⟨rfl, rfl⟩))
          obtain ⟨z, ⟨z1, z2, z3, -⟩, em⟩ := hmd (sI σ1 109 1 0) (F1.mo (fun b m q => by omega))
          have F2 : Fx (fun b m => PQ b m ∨ (b = 166 ∧ m = 4)) (sI σ1 109 1 0) (sI z.2 166 4 0) := (((FM _).mo (fun b m q => Or.inl q)).tr (z2.mo (fun b m q => by unfold PR at q; unfold PQ; omega))).tr (Fx_sI (Or.inr ⟨rfl, rfl⟩))
          refine ⟨σ1.1 124 3, z.2.1 166 7, sI σ1 109 1 0, sI z.2 166 4 0, ?_, ?_, ?_, ?_⟩
          · rw [hcl]; rfl
          · rw [em]
            unfold Md_journey_b93
            rw [z1]
            show some ((sI z.2 166 4 0).1 166 7, _) = _
            rw [sI_fld (by decide)]
          · rw [g1 e hR, z3 e rfl]
          · refine Inv_tp hI ((F1.mo (fun b m q => by unfold PX PC PQ; omega)).tr (F2.mo (fun b m q => q.elim (fun h => Or.inl (Or.inr h)) (fun h => Or.inr (Or.inr h))))) ?_ sI_same
            rw [F2 109 1 (by unfold PQ; omega), sI_same]
        | inr q =>
          rw [hR] at hcl hmd
          obtain ⟨hq144, hv6, hfl, hq⟩ := g2 q hR
          obtain ⟨f, v⟩ := q
          dsimp only at hq144 hv6 hfl hq
          have efl : (cpI (sI σ1 109 1 0) 125 (23 + i) 144).1 124 5 = nI f := by
            unfold cpI
            dsimp only
            rw [if_neg (by omega), sI_obj (by decide)]
            exact hfl
          rw [efl] at hcl
          have FC : Fx (fun b _ => b = 23 + i) (sI σ1 109 1 0) (cpI (sI σ1 109 1 0) 125 (23 + i) 144) := fun b m hb' => by
            unfold cpI
            dsimp only
            rw [if_neg hb']
          have ecp : ∀ m, m < 144 → (cpI (sI σ1 109 1 0) 125 (23 + i) 144).1 (23 + i) m = (sI σ1 109 1 0).1 125 m := fun m hm => by
            unfold cpI
            dsimp only
            rw [if_pos rfl, if_pos hm]
          have F1 : Fx (fun b m => (b = 124 ∨ b = 125) ∨ (b = 109 ∧ m = 1)) σ (sI σ1 109 1 0) := (p1.mo (fun b k q => Or.inl q)).tr (Fx_sI (Or.inr ⟨rfl, rfl⟩))
          have s2 : ∀ b m, b ≠ 23 + i → (b = 35 → m ≠ i) → (b = 36 → m ≠ i) → (sI (sI (cpI (sI σ1 109 1 0) 125 (23 + i) 144) 35 i (nI f)) 36 i 0).1 b m = (sI σ1 109 1 0).1 b m := fun b m a1 a2 a3 => by
            rw [sI_ne (by omega), sI_ne (by omega), FC b m a1]
          have s3 : ∀ m, m < f → (sI (sI (cpI (sI σ1 109 1 0) 125 (23 + i) 144) 35 i (nI f)) 36 i 0).1 (23 + i) m = v m := fun m hm => by
            rw [sI_obj (by omega), sI_obj (by omega), ecp m (by omega), sI_obj (by decide)]
            exact hq m hm
          have s4 : (sI (sI (cpI (sI σ1 109 1 0) 125 (23 + i) 144) 35 i (nI f)) 36 i 0).1 35 i = nI f := by rw [sI_obj (by decide), sI_same]
          have s5 : (sI (sI (cpI (sI σ1 109 1 0) 125 (23 + i) 144) 35 i (nI f)) 36 i 0).1 36 i = 0 := sI_same
          generalize sI (sI (cpI (sI σ1 109 1 0) 125 (23 + i) 144) 35 i (nI f)) 36 i 0 = σ2 at hcl s2 s3 s4 s5
          have G2 : Fx (fun b m => (b = 124 ∨ b = 125) ∨ (b = 109 ∧ m = 1) ∨ (1 ≤ b ∧ b < 37)) σ σ2 := fun b m hb' => by
            rw [s2 b m (by omega) (by omega) (by omega)]
            exact F1 b m (by omega)
          obtain ⟨z, ⟨z1, z2, -, z3⟩, em⟩ := hmd σ2 (G2.mo (fun b m q => by omega))
          obtain ⟨z29, z185⟩ := z3 (f, v) rfl
          obtain ⟨σ4, e4, p4, t0, g4⟩ := m_copyW (σ := z.2) (v := v) hi hq144 z29 z185
          have F3 : Fx PQ σ2 z.2 := (FM _).tr (z2.mo (fun b m q => by unfold PR at q; unfold PQ; omega))
          have row4 : σ4.1 167 = wyB (σ.1 167) i f v := funext fun m => by
            rw [g4 m, show z.2.1 167 = σ.1 167 from funext fun q => (F3 167 q (by unfold PQ; omega)).trans (G2 167 q (by omega))]
          refine ⟨σ2.1 124 5, nI f, σ2, σ4, ?_, ?_, ?_, ?_⟩
          · rw [hcl]; rfl
          · rw [em, z1]
            exact e4
          · rw [s2 124 5 (by omega) (by omega) (by omega), sI_obj (by decide)]; exact hfl
          · refine Inv_all hI ?_ ?_ ?_ ?_ t0
            · have A1 : Fx (fun b m => PLd b m ∨ (b = 109 ∧ m = 1) ∨ (b = 166 ∧ m = 4)) σ σ2 := G2.mo (fun b m q => by unfold PLd PX PC PQ; omega)
              have A2 : Fx (fun b m => PLd b m ∨ (b = 109 ∧ m = 1) ∨ (b = 166 ∧ m = 4)) σ2 z.2 := F3.mo (fun b m q => Or.inl (Or.inl (Or.inr q)))
              have A3 : Fx (fun b m => PLd b m ∨ (b = 109 ∧ m = 1) ∨ (b = 166 ∧ m = 4)) z.2 σ4 := p4.mo (fun b m q => q.elim (fun h => Or.inl (Or.inr (Or.inr h))) (fun h => Or.inr (Or.inr h)))
              exact (A1.tr A2).tr A3
            · rw [row4]
              refine LD_wy hI.1 hi hq144 (fun b m h1 h2 h3 h4 h5 => ?_) (fun m hm => ?_) ?_ ?_
              · rw [p4 b m (by omega), F3 b m (by unfold PQ; omega), s2 b m h3 h4 h5]
                exact F1 b m (by omega)
              · rw [p4 _ _ (by omega), F3 _ _ (by unfold PQ; omega)]; exact s3 m hm
              · rw [p4 _ _ (by omega), F3 _ _ (by unfold PQ; omega)]; exact s4
              · rw [p4 _ _ (by omega), F3 _ _ (by unfold PQ; omega)]; exact s5
            · rw [row4]; exact WF_wy hI.2.1 hi hq144 hv6
            · rw [p4 _ _ (by omega), F3 109 1 (by unfold PQ; omega), s2 109 1 (by omega) (by omega) (by omega), sI_same]
      · refine no ?_ ?_
        · unfold Pz_journey Pz_journey0
          rw [c_isTold hI.1 hi, hTo, Option.bind_some, bI_t, if_neg (show ¬ (1 : Int32) = 0 by decide), t2]
          rcases hy with h | h | h
          · rw [if_pos h]
          · rw [if_pos (show (40 : Int32) < y from h)]
            split <;> rfl
          · rw [if_neg h]
            simp only [ite_self]
        · unfold Md_journey Md_journey0
          rw [m_isPerson hi, hTo, Option.bind_some, bI_t, if_neg (show ¬ (1 : Int32) = 0 by decide), t4]
          rcases hy with h | h | h
          · rw [show Md_in y 1 40 σ = some 0 from in_no (N := 40) σ (Or.inl h)]; rfl
          · rw [show Md_in y 1 40 σ = some 0 from in_no (N := 40) σ (Or.inr h)]; rfl
          · rw [m_in, Option.bind_some, if_neg h]
            simp only [ite_self]
  · refine no ?_ ?_
    · unfold Pz_journey Pz_journey0
      rw [c_isToldF h, Option.bind_some, if_pos rfl]
    · unfold Md_journey Md_journey0
      rw [m_isPersonF h, Option.bind_some, if_pos rfl]
end JR2
