/-! THE LAW READ, IN THE REFERENCE: tests within conditions -/
section MTS
variable {tx : Nat → Nat} {n : Nat}
def finC (z : MH ⊕ (Int32 × MH)) : Option (Int32 × MH) := match z with
  | .inl z => (Md_wrongAt 1 (z.1 166 5) z).bind fun w => some (w.1, w.2)
  | .inr z => some (z.1, z.2)
def ErC (K : Option (MH ⊕ (Int32 × MH))) (σ : MH) (e : Int32) : Prop := ∃ z σ', K = some z ∧ finC z = some (0, σ') ∧ Fx PM5 σ σ' ∧ σ'.1 166 7 = e
theorem ErC_of {K : Option (MH ⊕ (Int32 × MH))} {σ σ1 : MH} {e : Int32} (h : ErC K σ1 e) (hf : Fx PM5 σ σ1) : ErC K σ e := by
  obtain ⟨z, σ', h1, h2, h3, h4⟩ := h
  exact ⟨z, σ', h1, h2, hf.tr h3, h4⟩
def TE (n p u w o : Nat) (K : Option (MH ⊕ (Int32 × MH))) (σ : MH) (r : PRs) : Prop := match r with
  | .inl e => ErC K σ e
  | .inr (q, v) => ∃ σ' E M' N' u', K = aft E M' N' σ' ∧ n < M' + q ∧ n < N' + q ∧ w < E ∧ Fx PM5 σ σ' ∧ MRe n q u' w o σ' ∧ u ≤ u' ∧ u' + p ≤ u + q ∧ MB (σ'.1 171) u u' 0 v ∧ Low u w σ σ'
def TCc (tx : Nat → Nat) (n o : Nat) (test : Nat → Option PRs) : Prop := ∀ (p u w M : Nat) (σ : MH), TXM tx n σ → MRe n p u w o σ → p ≤ n → u ≤ p → w ≤ p → 1 ≤ w → Bel w σ → n < M + p → ∀ r, test p = some r → TE n p u w o (Lc M σ) σ r
def BE (tx : Nat → Nat) (n p u w o : Nat) (K : Option (MH ⊕ (Int32 × MH))) (σ : MH) (r : PRs) : Prop := match r with
  | .inl e => ErC K σ e
  | .inr (q, v) => ∃ σ' E M' N' u' s b x, K = aft E M' N' σ' ∧ n < M' + q ∧ n < N' + q ∧ w + cj b < E ∧ Fx PM5 σ σ' ∧ MRe n q u' (w + cj b) o σ' ∧ PJm 11 σ' w u s b ∧ MB (σ'.1 171) s u' 0 x ∧ VB x ∧ hJ andV b x = v ∧ u' + p ≤ u + q ∧ w + cj b ≤ q ∧ Low u w σ σ' ∧ sN tx n q ≠ 38
def BCc (tx : Nat → Nat) (n o : Nat) (both : Nat → Option PRs) : Prop := ∀ (p u w M : Nat) (σ : MH), TXM tx n σ → MRe n p u w o σ → p ≤ n → u ≤ p → w ≤ p → Und w 12 σ → n < M + p → ∀ r, both p = some r → BE tx n p u w o (Lc M σ) σ r
def EE (tx : Nat → Nat) (n p u w o : Nat) (K : Option (MH ⊕ (Int32 × MH))) (σ : MH) (r : PRs) : Prop := match r with
  | .inl e => ErC K σ e
  | .inr (q, v) => ∃ σ' E M' N' u' s1 s2 e b x, K = aft E M' N' σ' ∧ n < M' + q ∧ n < N' + q ∧ w + cj e + cj b < E ∧ Fx PM5 σ σ' ∧ MRe n q u' (w + cj e + cj b) o σ' ∧ PJm 12 σ' w u s1 e ∧ PJm 11 σ' (w + cj e) s1 s2 b ∧ MB (σ'.1 171) s2 u' 0 x ∧ VB x ∧ hJ orV e (hJ andV b x) = v ∧ u' + p ≤ u + q ∧ w + cj e + cj b ≤ q ∧ Low u w σ σ' ∧ sN tx n q ≠ 38 ∧ sN tx n q ≠ 124
def ECc (tx : Nat → Nat) (n o : Nat) (ei : Nat → Option PRs) : Prop := ∀ (p u w M : Nat) (σ : MH), TXM tx n σ → MRe n p u w o σ → p ≤ n → u ≤ p → w ≤ p → Und w 13 σ → n < M + p → ∀ r, ei p = some r → EE tx n p u w o (Lc M σ) σ r
theorem BE_of {p u w o : Nat} {K : Option (MH ⊕ (Int32 × MH))} {σ σ1 : MH} {r : PRs} (h : BE tx n p u w o K σ1 r) (hf : Fx PM5 σ σ1) (hl : Low u w σ σ1) : BE tx n p u w o K σ r := by
  cases r with
  | inl e => exact ErC_of h hf
  | inr z =>
    obtain ⟨σ', E, M', N', u', s, b, x, h1, h2, h3, h4, h5, h6, h7, h8, h9, h10, h11, h12, h13, h14⟩ := h
    exact ⟨σ', E, M', N', u', s, b, x, h1, h2, h3, h4, hf.tr h5, h6, h7, h8, h9, h10, h11, h12, Low.tr hl h13 (Nat.le_refl _) (Nat.le_refl _), h14⟩
theorem EE_of {p u w o : Nat} {K : Option (MH ⊕ (Int32 × MH))} {σ σ1 : MH} {r : PRs} (h : EE tx n p u w o K σ1 r) (hf : Fx PM5 σ σ1) (hl : Low u w σ σ1) : EE tx n p u w o K σ r := by
  cases r with
  | inl e => exact ErC_of h hf
  | inr z =>
    obtain ⟨σ', E, M', N', u', s1, s2, e, b, x, h1, h2, h3, h4, h5, h6, h7, h8, h9, h10, h11, h12, h13, h14, h15, h16⟩ := h
    exact ⟨σ', E, M', N', u', s1, s2, e, b, x, h1, h2, h3, h4, hf.tr h5, h6, h7, h8, h9, h10, h11, h12, h13, Low.tr hl h14 (Nat.le_refl _) (Nat.le_refl _), h15, h16⟩
/-- what lies on top, behind a test of a both -/
theorem top_b {σ : MH} {w u0 s : Nat} {b : Option (VL × Nat)} (hP : PJm 11 σ w u0 s b) (hs : s < 260) (hU : Und w 11 σ) : Und (w + cj b) 11 σ := by
  cases b with
  | none => exact hU
  | some z =>
    have h3 := hP.2.2.2.1.1
    have h1 := hP.1
    exact ⟨w, 11, z.2, rfl, by decide, by decide, by omega, hP.2.1⟩
theorem top_e {σ : MH} {w u0 s : Nat} {b : Option (VL × Nat)} (hP : PJm 12 σ w u0 s b) (hs : s < 260) (hU : Und w 12 σ) : Und (w + cj b) 12 σ := by
  cases b with
  | none => exact hU
  | some z =>
    have h3 := hP.2.2.2.1.1
    have h1 := hP.1
    exact ⟨w, 12, z.2, rfl, by decide, by decide, by omega, hP.2.1⟩
theorem Und_lo {w lo lo' : Nat} {σ : MH} (h : Und w lo σ) (hl : lo' ≤ lo) : Und w lo' σ := by
  obtain ⟨k, a, b, e, h1, h2, h3, h4⟩ := h
  exact ⟨k, a, b, e, by omega, h2, h3, h4⟩
/-- from behind a test to the sign that follows, where it is no ) -/
theorem aft_go {σ : MH} {q u w o E M N : Nat} (hB : TXb tx n) (hT : TXM tx n σ) (hR : MRe n q u w o σ) (hU : Und w 11 σ) (hw : w < 260) (hq : q < 300) (h41 : ¬ sN tx n q = 41) : aft (E + 1) M (N + 1) σ = contI (fun s : MH => Md_readsCondition_l40 s) M (if sN tx n q = 38 then Md_readsCondition_b180 σ else if sN tx n q = 124 then Md_readsCondition_b180 σ else some (.inr (.inl σ))) := by
  obtain ⟨k, a, b, rfl, h1, h2, h3, h4⟩ := hU
  rw [aft_no hR (by omega) (by omega) h3 (by omega) h4, itr_end (l92_no hB hT hR hq h41), Option.bind_some]
  unfold rst
  dsimp only
  rw [m_hr hB hT hR hq, Option.bind_some, Option.bind_some, P_ite hB q (c := 38) (by decide), P_ite hB q (c := 124) (by decide)]
theorem m_bothL (hB : TXb tx n) {o : Nat} {test : Nat → Option PRs} (hTt : Tt tx n VC test) (HT : TCc tx n o test) (p0 u0 w : Nat) : ∀ (d q u s g E M N : Nat) (b : Option (VL × Nat)) (x : VL) (σ : MH) (r : PRs), n - q ≤ d → pLst tx n isAnd hAnd test g (hJ andV b x) q = some r → TXM tx n σ → MRe n q u (w + cj b) o σ → PJm 11 σ w u0 s b → MB (σ.1 171) s u 0 x → VB x → Und w 12 σ → q ≤ n → u + p0 ≤ u0 + q → w + cj b ≤ q → u0 ≤ p0 → n < M + q → n < N + q → w + cj b < E → BE tx n p0 u0 w o (aft E M N σ) σ r := by
  have hn := hB.1
  intro d
  induction d with
  | zero =>
    intro q u s g E M N b x σ r hd hr hT hR hP hX hV hU hq hgr hw hu0 hM hN hE
    have h38 : isAnd (sN tx n q) = false := by
      cases h : isAnd (sN tx n q) with
      | false => rfl
      | true => have := P_lt (P := isAnd) (by decide) h; omega
    cases g with
    | zero => cases hr
    | succ g =>
      rw [pLst_f h38] at hr
      cases hr
      exact ⟨σ, E, M, N, u, s, b, x, rfl, hM, hN, hE, Fx.rf, hR, hP, hX, hV, rfl, hgr, hw, Low.rf, fun z => by
        unfold isAnd at h38
        rw [decide_eq_true z] at h38
        cases h38⟩
  | succ d ih =>
    intro q u s g E M N b x σ r hd hr hT hR hP hX hV hU hq hgr hw hu0 hM hN hE
    have cb := cj_le b
    have l1 := PJm_le hP
    have l2 := hX.1
    cases g with
    | zero => cases hr
    | succ g =>
      cases h38 : isAnd (sN tx n q) with
      | false =>
        rw [pLst_f h38] at hr
        cases hr
        exact ⟨σ, E, M, N, u, s, b, x, rfl, hM, hN, hE, Fx.rf, hR, hP, hX, hV, rfl, hgr, hw, Low.rf, fun z => by
          unfold isAnd at h38
          rw [decide_eq_true z] at h38
          cases h38⟩
      | true =>
        have hl := P_lt (P := isAnd) (by decide) h38
        rw [pLst_t h38] at hr
        have e38 : sN tx n q = 38 := of_decide_eq_true h38
        obtain ⟨E', rfl⟩ : ∃ K, E = K + 1 := ⟨E - 1, by omega⟩
        obtain ⟨N', rfl⟩ : ∃ K, N = K + 1 := ⟨N - 1, by omega⟩
        obtain ⟨σ1, c1, c2, c3, c4, c5⟩ := m_lands0 hR hP hX hU (by omega) (by omega)
        have hT1 := TXM_5 hT c2
        have hT2 := TXM_5 hT1 (jpS_fx (p := q) (u := u) (w := w) (c := 11))
        rw [aft_go hB hT hR (top_b hP (by omega) (Und_lo hU (by decide))) (by omega) (by omega) (by omega), if_pos e38, b180_and hB hT hR (by omega) e38 c1 hT1 c3 (by omega) (by omega)]
        show BE tx n p0 u0 w o (Lc M (jpS σ1 q u w 11)) σ r
        have hbel : Bel (w + 1) (jpS σ1 q u w 11) := Or.inr ⟨w, 11, u, rfl, by decide, by decide, by omega, by rw [jpS_wt, if_pos rfl]⟩
        cases hm : test (q + 1) with
        | none => rw [hm] at hr; cases hr
        | some r1 =>
          rw [hm] at hr
          have hte := HT (q + 1) (u + 1) (w + 1) M _ hT2 (jpS_rd c3) (by omega) (by omega) (by omega) (by omega) hbel (by omega) r1 hm
          cases r1 with
          | inl e =>
            cases hr
            exact ErC_of hte (c2.tr jpS_fx)
          | inr z =>
            obtain ⟨q1, v⟩ := z
            obtain ⟨t1, t2, t3⟩ := Tt_q hTt hm q1 v rfl
            obtain ⟨σ2, E2, M2, N2, u2, e1, e2, e3, e4, e5, e6, e7, e8, e9, e10⟩ := hte
            rw [e1]
            have l4 := c4.1
            have f171 : ∀ k, k < u → σ2.1 171 k = σ1.1 171 k := fun k hk => by rw [e10.1 k (by omega), jpS_cd, if_neg (by omega)]
            have hP2 : PJm 11 σ2 w u0 (u + 1) (some (hJ andV b x, u)) := by
              refine ⟨rfl, ?_, ⟨0, by decide, ?_⟩, MB_ext c4 (fun k _ hk => f171 k hk), ?_⟩
              · rw [e10.2 w (by omega), jpS_wt, if_pos rfl]
              · rw [e10.1 u (by omega), jpS_cd, if_pos rfl]
              · cases b with
                | none => exact hV
                | some z => exact VB_and hV
            have hl0 : Low u0 w σ σ2 := ⟨fun k hk => by rw [f171 k (by omega), c5.1 k hk], fun k hk => by rw [e10.2 k (by omega), jpS_wt, if_neg (by omega), c5.2 k hk]⟩
            have := ih q1 u2 (u + 1) g E2 M2 N2 (some (hJ andV b x, u)) v σ2 r (by omega) hr (TXM_5 hT2 e5) e6 hP2 e9 t3.2 (Und_of hU hl0) t2 (by omega) (by show w + 1 ≤ q1; omega) hu0 e2 e3 e4
            exact BE_of this ((c2.tr jpS_fx).tr e5) hl0
theorem BC_of (hB : TXb tx n) {o : Nat} {test : Nat → Option PRs} (hTt : Tt tx n VC test) (HT : TCc tx n o test) : BCc tx n o (pBoth tx n test) := by
  intro p u w M σ hT hR hp hu hw hU hM r hr
  unfold pBoth pAll at hr
  have hw1 : 1 ≤ w := by obtain ⟨k, a, b, e, -⟩ := hU; omega
  cases hm : test p with
  | none => rw [hm] at hr; cases hr
  | some r1 =>
    rw [hm] at hr
    have hte := HT p u w M σ hT hR hp hu hw hw1 (Und_bel hU (by decide)) hM r1 hm
    cases r1 with
    | inl e =>
      cases hr
      exact hte
    | inr z =>
      obtain ⟨q, v⟩ := z
      obtain ⟨t1, t2, t3⟩ := Tt_q hTt hm q v rfl
      obtain ⟨σ', E, M', N', u', e1, e2, e3, e4, e5, e6, e7, e8, e9, e10⟩ := hte
      rw [e1]
      have := m_bothL hB hTt HT p u w n q u' u 300 E M' N' none v σ' r (by omega) hr (TXM_5 hT e5) e6 rfl e9 t3.2 (Und_of hU e10) t2 e8 (by show w + 0 ≤ q; omega) hu e2 e3 e4
      exact BE_of this e5 e10
theorem m_eithL (hB : TXb tx n) {o : Nat} {both : Nat → Option PRs} (hTt : Tt tx n VC both) (HT : BCc tx n o both) (p0 u0 w : Nat) : ∀ (d q u s1 s2 g E M N : Nat) (e b : Option (VL × Nat)) (x : VL) (σ : MH) (r : PRs), n - q ≤ d → pLst tx n isOr hOr both g (hJ orV e (hJ andV b x)) q = some r → TXM tx n σ → MRe n q u (w + cj e + cj b) o σ → PJm 12 σ w u0 s1 e → PJm 11 σ (w + cj e) s1 s2 b → MB (σ.1 171) s2 u 0 x → VB x → Und w 13 σ → q ≤ n → u + p0 ≤ u0 + q → w + cj e + cj b ≤ q → u0 ≤ p0 → n < M + q → n < N + q → w + cj e + cj b < E → sN tx n q ≠ 38 → EE tx n p0 u0 w o (aft E M N σ) σ r := by
  have hn := hB.1
  intro d
  induction d with
  | zero =>
    intro q u s1 s2 g E M N e b x σ r hd hr hT hR hE' hP hX hV hU hq hgr hw hu0 hM hN hE h38
    have h124 : isOr (sN tx n q) = false := by
      cases h : isOr (sN tx n q) with
      | false => rfl
      | true => have := P_lt (P := isOr) (by decide) h; omega
    cases g with
    | zero => cases hr
    | succ g =>
      rw [pLst_f h124] at hr
      cases hr
      exact ⟨σ, E, M, N, u, s1, s2, e, b, x, rfl, hM, hN, hE, Fx.rf, hR, hE', hP, hX, hV, rfl, hgr, hw, Low.rf, h38, fun z => by
        unfold isOr at h124
        rw [decide_eq_true z] at h124
        cases h124⟩
  | succ d ih =>
    intro q u s1 s2 g E M N e b x σ r hd hr hT hR hE' hP hX hV hU hq hgr hw hu0 hM hN hE h38
    have cb := cj_le b
    have ce := cj_le e
    have l0 := PJm_le hE'
    have l1 := PJm_le hP
    have l2 := hX.1
    cases g with
    | zero => cases hr
    | succ g =>
      cases h124 : isOr (sN tx n q) with
      | false =>
        rw [pLst_f h124] at hr
        cases hr
        exact ⟨σ, E, M, N, u, s1, s2, e, b, x, rfl, hM, hN, hE, Fx.rf, hR, hE', hP, hX, hV, rfl, hgr, hw, Low.rf, h38, fun z => by
          unfold isOr at h124
          rw [decide_eq_true z] at h124
          cases h124⟩
      | true =>
        have hl := P_lt (P := isOr) (by decide) h124
        rw [pLst_t h124] at hr
        have e124 : sN tx n q = 124 := of_decide_eq_true h124
        obtain ⟨E', rfl⟩ : ∃ K, E = K + 1 := ⟨E - 1, by omega⟩
        obtain ⟨N', rfl⟩ : ∃ K, N = K + 1 := ⟨N - 1, by omega⟩
        obtain ⟨σ1, c1, c2, c3, c4, c5⟩ := m_lands1 hR hE' hP hX hU (by omega) (by omega)
        have hT1 := TXM_5 hT c2
        have hT2 := TXM_5 hT1 (jpS_fx (p := q) (u := u) (w := w) (c := 12))
        have htop : Und (w + cj e + cj b) 11 σ := top_b hP (by omega) (Und_lo (top_e hE' (by omega) (Und_lo hU (by decide))) (by decide))
        rw [aft_go hB hT hR htop (by omega) (by omega) (by omega), if_neg h38, if_pos e124, b180_or hB hT hR (by omega) e124 c1 hT1 c3 (by omega) (by omega)]
        show EE tx n p0 u0 w o (Lc M (jpS σ1 q u w 12)) σ r
        have hund : Und (w + 1) 12 (jpS σ1 q u w 12) := ⟨w, 12, u, rfl, by decide, by decide, by omega, by rw [jpS_wt, if_pos rfl]⟩
        cases hm : both (q + 1) with
        | none => rw [hm] at hr; cases hr
        | some r1 =>
          rw [hm] at hr
          have hte := HT (q + 1) (u + 1) (w + 1) M _ hT2 (jpS_rd c3) (by omega) (by omega) (by omega) hund (by omega) r1 hm
          cases r1 with
          | inl e =>
            cases hr
            exact ErC_of hte (c2.tr jpS_fx)
          | inr z =>
            obtain ⟨q1, v⟩ := z
            obtain ⟨t1, t2, t3⟩ := Tt_q hTt hm q1 v rfl
            obtain ⟨σ2, E2, M2, N2, u2, s, b2, x2, e1, e2, e3, e4, e5, e6, e7, e8, e9, rfl, e11, e12, e13, e14⟩ := hte
            rw [e1]
            have l4 := c4.1
            have f171 : ∀ k, k < u → σ2.1 171 k = σ1.1 171 k := fun k hk => by rw [e13.1 k (by omega), jpS_cd, if_neg (by omega)]
            have hVe : VB (hJ orV e (hJ andV b x)) := by
              have h1 : VB (hJ andV b x) := by
                cases b with
                | none => exact hV
                | some z => exact VB_and hV
              cases e with
              | none => exact h1
              | some z => exact VB_or h1
            have hE2 : PJm 12 σ2 w u0 (u + 1) (some (hJ orV e (hJ andV b x), u)) := by
              refine ⟨rfl, ?_, ⟨0, by decide, ?_⟩, MB_ext c4 (fun k _ hk => f171 k hk), hVe⟩
              · rw [e13.2 w (by omega), jpS_wt, if_pos rfl]
              · rw [e13.1 u (by omega), jpS_cd, if_pos rfl]
            have hl0 : Low u0 w σ σ2 := ⟨fun k hk => by rw [f171 k (by omega), c5.1 k hk], fun k hk => by rw [e13.2 k (by omega), jpS_wt, if_neg (by omega), c5.2 k hk]⟩
            have := ih q1 u2 (u + 1) s g E2 M2 N2 (some (hJ orV e (hJ andV b x), u)) b2 x2 σ2 r (by omega) hr (TXM_5 hT2 e5) e6 hE2 e7 e8 e9 (Und_of hU hl0) t2 (by omega) (by show w + 1 + cj b2 ≤ q1; omega) hu0 e2 e3 e4 e14
            exact EE_of this ((c2.tr jpS_fx).tr e5) hl0
theorem EC_of (hB : TXb tx n) {o : Nat} {test : Nat → Option PRs} (hTt : Tt tx n VC (pBoth tx n test)) (HT : BCc tx n o (pBoth tx n test)) : ECc tx n o (pEith tx n test) := by
  intro p u w M σ hT hR hp hu hw hU hM r hr
  unfold pEith pAll at hr
  cases hm : pBoth tx n test p with
  | none => rw [hm] at hr; cases hr
  | some r1 =>
    rw [hm] at hr
    have hte := HT p u w M σ hT hR hp hu hw (Und_lo hU (by decide)) hM r1 hm
    cases r1 with
    | inl e =>
      cases hr
      exact hte
    | inr z =>
      obtain ⟨q, v⟩ := z
      obtain ⟨t1, t2, t3⟩ := Tt_q hTt hm q v rfl
      obtain ⟨σ', E, M', N', u', s, b, x, e1, e2, e3, e4, e5, e6, e7, e8, e9, rfl, e11, e12, e13, e14⟩ := hte
      rw [e1]
      have := m_eithL hB hTt HT p u w n q u' u s 300 E M' N' none b x σ' r (by omega) hr (TXM_5 hT e5) e6 rfl e7 e8 e9 (Und_of hU e13) t2 e11 e12 hu e2 e3 e4 e14
      exact EE_of this e5 e13
end MTS
