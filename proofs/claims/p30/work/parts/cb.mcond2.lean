/-! THE LAW READ, IN THE REFERENCE: a test, a condition -/
section MC2
variable {tx : Nat → Nat} {n : Nat}
/-- all of a compared pair but the NOTs behind it -/
theorem m_cmp (hB : TXb tx n) {f o p u w : Nat} {σ : MH} (h7 : f + 1 + o = 7) (ho : 1 ≤ o ∨ o = 0) (hT : TXM tx n σ) (hR : MRe n p u w o σ) (hp : p ≤ n) (hu : u ≤ p) (hw : w ≤ p) (hbel : Bel w σ) {r : PRs} (hr : cmpP tx n (pSum tx n (f + 1) o) (pSum tx n (f + 1) o p) = some r) : (∃ e σ', r = .inl e ∧ Md_readsCompared σ = some (0, σ') ∧ Fx PM5 σ σ' ∧ σ'.1 166 7 = e) ∨ ∃ q v σ' u', r = .inr (q, v) ∧ Md_readsCompared σ = ((itr (fun s : MH => Md_endsPiece_l0 s) FU σ').bind fun s => some (1, s)) ∧ Fx PM5 σ σ' ∧ MRe n q u' w o σ' ∧ u ≤ u' ∧ u' + p ≤ u + q ∧ MB (σ'.1 171) u u' 0 v ∧ Low u w σ σ' := by
  have hn := hB.1
  have hTs := Tt_sum (tx := tx) hn (f + 1) o (by omega) (by omega)
  unfold Md_readsCompared Md_readsCompared0
  cases hm : pSum tx n (f + 1) o p with
  | none => rw [hm] at hr; cases hr
  | some r1 =>
    rw [hm] at hr
    obtain ⟨x, σ1, k1, k2⟩ := m_readsSum hB h7 hT hR hp hu hw hbel hm
    rw [k1, Option.bind_some]
    dsimp only
    cases r1 with
    | inl e =>
      cases hr
      obtain ⟨F, k3, k4⟩ := k2
      rw [if_pos k3]
      exact Or.inl ⟨e, σ1, rfl, rfl, F, k4⟩
    | inr z =>
      obtain ⟨q, v⟩ := z
      obtain ⟨F, k3, u1, g1, g2, g3, g4, g5⟩ := k2
      obtain ⟨t1, t2, t3⟩ := Tt_q hTs hm q v rfl
      have hT1 := TXM_5 hT F
      rw [k3, if_neg (show ¬ (1 : Int32) = 0 by decide), m_hr hB hT1 g1 (by omega), Option.bind_some, Option.bind_some, Option.bind_some, P_ite hB q (c := 60) (by decide), P_ite hB q (c := 62) (by decide), P_ite hB q (c := 61) (by decide)]
      unfold cmpP at hr
      dsimp only at hr
      by_cases hc : isCmp (sN tx n q) = true
      · rw [if_pos hc] at hr
        have hl := P_lt (P := isCmp) (by decide) hc
        have hc' := isCmp_is hc
        have e52 : (if sN tx n q = 60 then Md_readsCompared_b52 7 σ1 else if sN tx n q = 62 then Md_readsCompared_b52 8 σ1 else if sN tx n q = 61 then Md_readsCompared_b52 9 σ1 else Md_readsCompared_b52 (-1) σ1) = Md_readsCompared_b52 (nI (mop (sN tx n q))) σ1 := by
          rcases hc' with h | h | h
          · rw [h]; rfl
          · rw [h]; rfl
          · rw [h]; rfl
        have hop : isOp (sN tx n q) = true := by unfold isOp; rw [hc, Bool.or_true, Bool.or_true]
        rw [e52]
        unfold Md_readsCompared_b52
        rw [if_neg (nI_m1 (show mop (sN tx n q) < 2 ^ 31 by have := (mop_ne hop).2.2.2.2.2.2.2; omega)), g1.2.1, show nI q + 1 = nI (q + 1) from nI_1 _]
        cases hm2 : pSum tx n (f + 1) o (q + 1) with
        | none => rw [hm2] at hr; cases hr
        | some r2 =>
          rw [hm2] at hr
          have F5 : Fx PM5 σ1 (sI σ1 166 5 (nI (q + 1))) := Fx_sI (f66 (by decide) (by decide) (by decide))
          have lw5 : Low u1 w σ1 (sI σ1 166 5 (nI (q + 1))) := ⟨fun k _ => by rw [sI_obj (by decide)], fun k _ => by rw [sI_obj (by decide)]⟩
          obtain ⟨x2, σ2, j1, j2⟩ := m_readsSum hB h7 (TXM_5 hT1 F5) (plc_rd g1) (by omega) (by omega) (by omega) (Bel_of (Bel_of hbel g5) lw5) hm2
          rw [j1, Option.bind_some]
          dsimp only
          cases r2 with
          | inl e =>
            cases hr
            obtain ⟨F2, k5, k6⟩ := j2
            rw [if_pos k5]
            exact Or.inl ⟨e, σ2, rfl, rfl, (F.tr F5).tr F2, k6⟩
          | inr z2 =>
            obtain ⟨q2, v2⟩ := z2
            cases hr
            obtain ⟨F2, k5, u2, i1, i2, i3, i4, i5⟩ := j2
            obtain ⟨s1, s2, s3⟩ := Tt_q hTs hm2 q2 v2 rfl
            rw [k5, if_neg (show ¬ (1 : Int32) = 0 by decide), show (0 : Int32) = nI 0 from rfl, m_notes i1.2.2.1 (by omega) (mop (sN tx n q)) 0, Option.bind_some]
            have f171 : ∀ k, k < u1 → σ2.1 171 k = σ1.1 171 k := fun k hk => by rw [i5.1 k hk, lw5.1 k hk]
            refine Or.inr ⟨q2, _, nt σ2 u2 (nI (1048576 * mop (sN tx n q) + 0)), u2 + 1, rfl, ?_, ((F.tr F5).tr F2).tr nt_fx, nt_rd i1, by omega, by omega, ?_, fun k hk => ?_, fun k hk => ?_⟩
            · unfold Md_endsPiece Md_endsPiece0 Md_endsPiece_L0
              cases itr (fun s : MH => Md_endsPiece_l0 s) FU (nt σ2 u2 (nI (1048576 * mop (sN tx n q) + 0))) with
              | none => rfl
              | some s => rfl
            · exact MB_op hop (MB_mono (MB_ext g4 (fun k _ hk => by rw [nt_cd, if_neg (by omega), f171 k hk])) (by omega)) (MB_mono (MB_ext i4 (fun k _ hk => by rw [nt_cd, if_neg (by omega)])) (by omega)) (by rw [nt_cd, if_pos rfl]) (by decide)
            · rw [nt_cd, if_neg (by omega), f171 k (by omega), g5.1 k hk]
            · rw [nt_wt, i5.2 k hk, lw5.2 k hk, g5.2 k hk]
      · rw [if_neg hc] at hr
        cases hr
        have hc' : ¬ (sN tx n q = 60) ∧ ¬ (sN tx n q = 62) ∧ ¬ (sN tx n q = 61) := by
          unfold isCmp at hc
          rw [Bool.or_eq_true, Bool.or_eq_true, decide_eq_true_eq, decide_eq_true_eq, decide_eq_true_eq] at hc
          omega
        rw [if_neg hc'.1, if_neg hc'.2.1, if_neg hc'.2.2]
        unfold Md_readsCompared_b52
        rw [if_pos rfl, show (1 : Int32) = nI 1 from rfl, m_wrong 1 g1]
        exact Or.inl ⟨_, _, rfl, rfl, F.tr (Fx_sI (f66 (by decide) (by decide) (by decide))), sI_same⟩
/-- ! or ( -/
theorem l40_open {σ : MH} {p u w o : Nat} (hB : TXb tx n) (hT : TXM tx n σ) (hR : MRe n p u w o σ) (hp : p < 300) (hw : w < 260) (ho : o ≤ 6) (h : sN tx n p = 33 ∨ sN tx n p = 40) : Md_readsCondition_l40 σ = if o = 6 then some (.inr (.inr (0, sI σ 166 7 (flt 5 p)))) else some (.inl (opS σ p w o (if sN tx n p = 33 then 10 else 13))) := by
  have b75 : ∀ c, Md_readsCondition_b75 (nI c) σ = if o = 6 then some (.inr (.inr (0, sI σ 166 7 (flt 5 p)))) else some (.inl (opS σ p w o c)) := fun c => by
    unfold Md_readsCondition_b75
    rw [m_opens hR hw ho c]
    by_cases q : o = 6
    · rw [if_pos q, if_pos q]; rfl
    · rw [if_neg q, if_neg q]; rfl
  unfold Md_readsCondition_l40 Md_readsCondition_b58
  rw [m_hr hB hT hR hp, Option.bind_some, Option.bind_some, Option.bind_some, P_ite hB p (c := 33) (by decide), P_ite hB p (c := 40) (by decide), P_ite hB p (c := 33) (by decide), show (10 : Int32) = nI 10 from rfl, show (13 : Int32) = nI 13 from rfl, b75, b75]
  rcases h with h | h
  · rw [if_pos h, if_pos h, if_pos h]
  · have h33 : ¬ sN tx n p = 33 := by omega
    rw [if_neg h33, if_pos h, if_neg h33, if_neg h33]
theorem l40_plain {σ : MH} {p u w o : Nat} (hB : TXb tx n) (hT : TXM tx n σ) (hR : MRe n p u w o σ) (hp : p < 300) (h33 : ¬ sN tx n p = 33) (h40 : ¬ sN tx n p = 40) : Md_readsCondition_l40 σ = (Md_readsCompared σ).bind fun z => if z.1 = 0 then some (.inr (.inr (0, z.2))) else (itr (fun s : MH => Md_readsCondition_l92 s) FU z.2).bind rst := by
  unfold Md_readsCondition_l40
  rw [m_hr hB hT hR hp, Option.bind_some, Option.bind_some, P_ite hB p (c := 33) (by decide), P_ite hB p (c := 40) (by decide), if_neg h33, if_neg h40]
  rfl
/-- a ) : all that waits is landed, what was opened closed -/
theorem l92_close {σ σ1 : MH} {q u w o w' : Nat} (hB : TXb tx n) (hT : TXM tx n σ) (hR : MRe n q u w' (o + 1) σ) (hq : q < 300) (h41 : sN tx n q = 41) (hl : Md_lands 1 σ = some σ1) (hR1 : MRe n q u (w + 1) (o + 1) σ1) : Md_readsCondition_l92 σ = if nI w = 0 then some (.inr (.inr (1, sI (sI (sI σ1 166 11 (nI w)) 166 9 (nI o)) 166 5 (nI (q + 1))))) else (Md_endsPiece (sI (sI (sI σ1 166 11 (nI w)) 166 9 (nI o)) 166 5 (nI (q + 1)))).bind fun σ31 => some (.inl σ31) := by
  unfold Md_readsCondition_l92
  rw [m_hr hB hT hR hq, Option.bind_some, P_ite hB q (c := 41) (by decide), if_pos h41, hl, Option.bind_some, hR1.2.2.2.1, nI_s]
  have e9 : (sI σ1 166 11 (nI w)).1 166 9 - 1 = nI o := by rw [sI_fld (by decide), hR1.2.2.2.2, nI_s]
  rw [e9]
  have e5 : (sI (sI σ1 166 11 (nI w)) 166 9 (nI o)).1 166 5 + 1 = nI (q + 1) := by rw [sI_fld (by decide), sI_fld (by decide), hR1.2.1]; exact nI_1 _
  rw [e5]
  have e11 : (sI (sI (sI σ1 166 11 (nI w)) 166 9 (nI o)) 166 5 (nI (q + 1))).1 166 11 = nI w := by rw [sI_fld (by decide), sI_fld (by decide), sI_same]
  rw [e11]
theorem TC_tst (hB : TXb tx n) {f o : Nat} (h7 : f + 1 + o = 7) (ho : 1 ≤ o) {inner : Nat → Option PRs} (hTi : o < 6 → Tt tx n VC inner) (HT : o < 6 → TCc tx n (o + 1) inner) (HE : o < 6 → ECc tx n (o + 1) (pEith tx n inner)) : TCc tx n o (pTst tx n (pSum tx n (f + 1) o) inner o) := by
  intro p u w M σ hT hR hp hu hw hw1 hbel hM r hr
  have hn := hB.1
  obtain ⟨M, rfl⟩ : ∃ K, M = K + 1 := ⟨M - 1, by
    rcases Nat.eq_zero_or_pos M with h | h
    · exfalso
      subst h
      omega
    · omega⟩
  unfold pTst at hr
  by_cases hs : sN tx n p = 33 ∨ sN tx n p = 40
  · have hl : p < n := by rcases hs with h | h <;> exact sN_lt h (by decide)
    have e40 := l40_open hB hT hR (by omega) (by omega) (by omega) hs
    by_cases h6 : o < 6
    · rw [if_neg (show ¬ o = 6 by omega)] at e40
      have eL : Lc (M + 1) σ = Lc M (opS σ p w o (if sN tx n p = 33 then 10 else 13)) := itr_one (f := fun s : MH => Md_readsCondition_l40 s) e40
      rw [eL]
      rcases hs with h | h
      · -- a NOT
        rw [if_pos h, if_pos h6] at hr
        rw [if_pos h]
        have hT1 := TXM_5 hT (opS_fx (p := p) (w := w) (o := o) (what := 10))
        cases hm : inner (p + 1) with
        | none => rw [hm] at hr; cases hr
        | some r1 =>
          rw [hm] at hr
          have hte := HT h6 (p + 1) u (w + 1) M _ hT1 (opS_rd hR) (by omega) (by omega) (by omega) (by omega) (opS_bel (by decide) (by decide)) (by omega) r1 hm
          cases r1 with
          | inl e =>
            cases hr
            exact ErC_of hte opS_fx
          | inr z =>
            obtain ⟨q, v⟩ := z
            cases hr
            obtain ⟨t1, t2, t3⟩ := Tt_q (hTi h6) hm q v rfl
            obtain ⟨σ', E, M', N', u', e1, e2, e3, e4, e5, e6, e7, e8, e9, e10⟩ := hte
            obtain ⟨E', rfl⟩ : ∃ K, E = K + 1 := ⟨E - 1, by omega⟩
            rw [e1]
            have ew : σ'.1 172 w = nI (1048576 * 10 + 0) := by rw [e10.2 w (by omega), opS_wt, if_pos rfl]
            refine ⟨noS σ' u' w o, E', M', N', u' + 1, aft_not e6 (by omega) (by omega) ew, e2, e3, by omega, (opS_fx.tr e5).tr noS_fx, noS_rd e6, by omega, by omega, ?_, fun k hk => ?_, fun k hk => ?_⟩
            · exact MB_not t3.2 (MB_ext e9 (fun k _ hk => by rw [noS_cd, if_neg (by omega)])) (by rw [noS_cd, if_pos rfl]) (by decide)
            · rw [noS_cd, if_neg (by omega), e10.1 k hk, opS_cd]
            · rw [noS_wt, e10.2 k (by omega), opS_wt, if_neg (by omega)]
      · -- a (
        rw [if_neg (by omega), if_pos h, if_pos h6] at hr
        rw [if_neg (by omega)]
        have hT1 := TXM_5 hT (opS_fx (p := p) (w := w) (o := o) (what := 13))
        cases hm : pEith tx n inner (p + 1) with
        | none => rw [hm] at hr; cases hr
        | some r1 =>
          rw [hm] at hr
          have hU : Und (w + 1) 13 (opS σ p w o 13) := ⟨w, 13, 0, rfl, by decide, by decide, by decide, by rw [opS_wt, if_pos rfl]⟩
          have hte := HE h6 (p + 1) u (w + 1) M _ hT1 (opS_rd hR) (by omega) (by omega) (by omega) hU (by omega) r1 hm
          cases r1 with
          | inl e =>
            cases hr
            exact ErC_of hte opS_fx
          | inr z =>
            obtain ⟨q, v⟩ := z
            obtain ⟨t1, t2, t3⟩ := Tt_q (Tt_eith hn (hTi h6)) hm q v rfl
            obtain ⟨σ', E, M', N', u', s1, s2, e, b, x, e1, e2, e3, e4, e5, e6, e7, e8, e9, e10, rfl, e12, e13, e14, e15, e16⟩ := hte
            obtain ⟨E', rfl⟩ : ∃ K, E = K + 1 := ⟨E - 1, by omega⟩
            obtain ⟨N', rfl⟩ : ∃ K, N' = K + 1 := ⟨N' - 1, by omega⟩
            have hr' : (if sN tx n q = 41 then some (.inr (q + 1, hJ orV e (hJ andV b x))) else some (.inl (flt 1 q))) = some r := hr
            have hT' := TXM_5 hT1 e5
            have hU' : Und (w + 1) 13 σ' := Und_of hU e14
            have l0 := PJm_le e7
            have l1 := PJm_le e8
            have l2 := e9.1
            have htop : Und (w + 1 + cj e + cj b) 11 σ' := top_b e8 (by omega) (Und_lo (top_e e7 (by omega) (Und_lo hU' (by decide))) (by decide))
            rw [e1]
            by_cases h41 : sN tx n q = 41
            · have hlq := sN_lt h41 (by decide)
              rw [if_pos h41] at hr'
              cases hr'
              obtain ⟨σ1, c1, c2, c3, c4, c5⟩ := m_lands1 e6 e7 e8 e9 hU' (by omega) (by omega)
              have e92 := l92_close hB hT' e6 (by omega) h41 c1 c3
              rw [if_neg (nI_ne0 (by omega) (by omega))] at e92
              obtain ⟨σ2, hσ2⟩ : ∃ σ2, sI (sI (sI σ1 166 11 (nI w)) 166 9 (nI o)) 166 5 (nI (q + 1)) = σ2 := ⟨_, rfl⟩
              rw [hσ2] at e92
              have ea : aft (E' + 1) M' (N' + 1) σ' = aft FU M' N' σ2 := by
                obtain ⟨k, a, b', hk, h1, h2, h3, h4⟩ := htop
                rw [hk] at e6
                rw [aft_no e6 (by omega) (by omega) h3 (by omega) h4]
                unfold aft
                rw [itr_contI, e92]
                unfold Md_endsPiece Md_endsPiece0 Md_endsPiece_L0
                cases itr (fun s : MH => Md_endsPiece_l0 s) FU σ2 with
                | none => rfl
                | some s => rfl
              have F2 : Fx PM5 σ1 σ2 := by
                rw [← hσ2]
                exact ((Fx_sI (f66 (by decide) (by decide) (by decide))).tr (Fx_sI (f66 (by decide) (by decide) (by decide)))).tr (Fx_sI (f66 (by decide) (by decide) (by decide)))
              have R2 : MRe n (q + 1) u' w o σ2 := by
                rw [← hσ2]
                exact plc_rd (opn_rd (pop_rd c3))
              have g171 : ∀ k, σ2.1 171 k = σ1.1 171 k := fun k => by rw [← hσ2, sI_obj (by decide), sI_obj (by decide), sI_obj (by decide)]
              have g172 : ∀ k, σ2.1 172 k = σ1.1 172 k := fun k => by rw [← hσ2, sI_obj (by decide), sI_obj (by decide), sI_obj (by decide)]
              refine ⟨σ2, FU, M', N', u', ea, by omega, by omega, by show w < 1000000; omega, ((opS_fx.tr e5).tr c2).tr F2, R2, c4.1, by omega, MB_ext c4 (fun k _ _ => g171 k), fun k hk => ?_, fun k hk => ?_⟩
              · rw [g171, c5.1 k hk, e14.1 k hk, opS_cd]
              · rw [g172, c5.2 k (by omega), e14.2 k (by omega), opS_wt, if_neg (by omega)]
            · rw [if_neg h41] at hr'
              cases hr'
              rw [aft_go hB hT' e6 htop (by omega) (by omega) h41, if_neg e15, if_neg e16]
              refine ⟨.inl σ', sI σ' 166 7 (flt 1 q), rfl, ?_, (opS_fx.tr e5).tr (Fx_sI (f66 (by decide) (by decide) (by decide))), sI_same⟩
              unfold finC
              dsimp only
              rw [show (1 : Int32) = nI 1 from rfl, m_wrong 1 e6]
              rfl
    · have h6' : o = 6 := by omega
      rw [if_pos h6'] at e40
      have hr' : r = .inl (flt 5 p) := by
        rcases hs with h | h
        · rw [if_pos h, if_neg h6] at hr; cases hr; rfl
        · rw [if_neg (by omega), if_pos h, if_neg h6] at hr; cases hr; rfl
      subst hr'
      exact ⟨.inr (0, sI σ 166 7 (flt 5 p)), _, itr_end (f := fun s : MH => Md_readsCondition_l40 s) e40, rfl, Fx_sI (f66 (by decide) (by decide) (by decide)), sI_same⟩
  · have h33 := mt Or.inl hs
    have h40 := mt Or.inr hs
    rw [if_neg h33, if_neg h40] at hr
    have e40 := l40_plain hB hT hR (by omega) h33 h40
    have eL : Lc (M + 1) σ = contI (fun s : MH => Md_readsCondition_l40 s) M (Md_readsCondition_l40 σ) := itr_contI _ M σ
    rw [eL, e40]
    rcases m_cmp hB h7 (Or.inl ho) hT hR hp hu hw hbel hr with ⟨e, σ', rfl, k1, k2, k3⟩ | ⟨q, v, σ', u', rfl, k1, k2, k3, k4, k5, k6, k7⟩
    · rw [k1]
      exact ⟨.inr (0, σ'), σ', rfl, rfl, k2, k3⟩
    · obtain ⟨t1, t2, t3⟩ := Tt_q (Tt_tst (o := o) hn (Tt_sum (tx := tx) hn (f + 1) o (by omega) (by omega)) (inner := inner) hTi) (p := p) (r := .inr (q, v)) (by unfold pTst; rw [if_neg h33, if_neg h40]; exact hr) q v rfl
      refine ⟨σ', FU, M, FU, u', ?_, by omega, by show n < 1000000 + q; omega, by show w < 1000000; omega, k2, k3, k4, k5, k6, k7⟩
      rw [k1]
      unfold aft
      cases itr (fun s : MH => Md_endsPiece_l0 s) FU σ' with
      | none => rfl
      | some s =>
        rw [Option.bind_some, Option.bind_some, Option.bind_some, if_neg (show ¬ (1 : Int32) = 0 by decide)]
theorem TC_test (hB : TXb tx n) : ∀ f o, f + 1 + o = 7 → 1 ≤ o → TCc tx n o (pTest tx n (f + 1) o) := by
  intro f
  induction f with
  | zero =>
    intro o h ho
    exact TC_tst hB h ho (fun h => by omega) (fun h => by omega) (fun h => by omega)
  | succ f ih =>
    intro o h ho
    exact TC_tst hB h ho (fun h6 => Tt_test hB.1 (f + 1) (o + 1) (by omega) (by omega)) (fun h6 => ih (o + 1) (by omega) (by omega)) (fun h6 => EC_of hB (Tt_both hB.1 (Tt_test hB.1 (f + 1) (o + 1) (by omega) (by omega))) (BC_of hB (Tt_test hB.1 (f + 1) (o + 1) (by omega) (by omega)) (ih (o + 1) (by omega) (by omega))))
/-- ( C ) -/
def cndP (tx : Nat → Nat) (n p : Nat) : Option PRs := if sN tx n p = 40 then clsP tx n 41 (pEith tx n (pTest tx n 6 1) (p + 1)) else some (.inl (flt 1 p))
theorem m_cond (hB : TXb tx n) {p u w o : Nat} {σ : MH} (hT : TXM tx n σ) (hR : MRe n p u w o σ) (hp : p ≤ n) (hu : u ≤ p) {r : PRs} (hr : cndP tx n p = some r) : ∃ x σ', Md_readsCondition σ = some (x, σ') ∧ okMM p u 0 0 0 n r σ x σ' := by
  have hn := hB.1
  unfold cndP at hr
  unfold Md_readsCondition Md_readsCondition0
  rw [m_hr hB hT hR (by omega), Option.bind_some, P_ite hB p (c := 40) (by decide)]
  by_cases h40 : sN tx n p = 40
  · have hl := sN_lt h40 (by decide)
    rw [if_pos h40] at hr ⊢
    have hR0 : MRe n p u 0 0 (sI (sI σ 166 9 0) 166 11 0) := pop_rd (opn_rd hR)
    have F0 : Fx PM5 σ (sI (sI σ 166 9 0) 166 11 0) := (Fx_sI (f66 (by decide) (by decide) (by decide))).tr (Fx_sI (f66 (by decide) (by decide) (by decide)))
    have lw0 : Low u 0 σ (sI (sI σ 166 9 0) 166 11 0) := ⟨fun k _ => by rw [sI_obj (by decide), sI_obj (by decide)], fun k hk => absurd hk (Nat.not_lt_zero k)⟩
    generalize sI (sI σ 166 9 0) 166 11 0 = σ0 at hR0 F0 lw0 ⊢
    rw [show (13 : Int32) = nI 13 from rfl, m_opens hR0 (by decide) (by decide) 13, if_neg (by decide), Option.bind_some]
    dsimp only
    rw [if_neg (show ¬ (1 : Int32) = 0 by decide)]
    have hT1 := TXM_5 (TXM_5 hT F0) (opS_fx (p := p) (w := 0) (o := 0) (what := 13))
    have hTt := Tt_test (tx := tx) hn 6 1 (by decide) (by decide)
    cases hm : pEith tx n (pTest tx n 6 1) (p + 1) with
    | none => rw [hm] at hr; cases hr
    | some r1 =>
      rw [hm] at hr
      have hU : Und 1 13 (opS σ0 p 0 0 13) := ⟨0, 13, 0, rfl, by decide, by decide, by decide, by rw [opS_wt, if_pos rfl]⟩
      have hte := EC_of hB (Tt_both hn hTt) (BC_of hB hTt (TC_test hB 5 1 (by decide) (by decide))) (p + 1) u 1 FU _ hT1 (opS_rd hR0) (by omega) (by omega) (by omega) hU (by show n < 1000000 + (p + 1); omega) r1 hm
      have eL : Md_readsCondition_L40 (opS σ0 p 0 0 13) = Lc FU (opS σ0 p 0 0 13) := rfl
      rw [eL]
      cases r1 with
      | inl e =>
        cases hr
        obtain ⟨z, σ', h1, h2, h3, h4⟩ := hte
        rw [h1, Option.bind_some]
        refine ⟨0, σ', ?_, (F0.tr opS_fx).tr h3, rfl, h4⟩
        show bzo (finC z) = _
        rw [h2]
        rfl
      | inr z =>
        obtain ⟨q, v⟩ := z
        obtain ⟨t1, t2, t3⟩ := Tt_q (Tt_eith hn hTt) hm q v rfl
        obtain ⟨σ', E, M', N', u', s1, s2, e, b, x, e1, e2, e3, e4, e5, e6, e7, e8, e9, e10, rfl, e12, e13, e14, e15, e16⟩ := hte
        obtain ⟨E', rfl⟩ : ∃ K, E = K + 1 := ⟨E - 1, by omega⟩
        obtain ⟨N', rfl⟩ : ∃ K, N' = K + 1 := ⟨N' - 1, by omega⟩
        have hr' : (if sN tx n q = 41 then some (.inr (q + 1, hJ orV e (hJ andV b x))) else some (.inl (flt 1 q))) = some r := hr
        have hT' := TXM_5 hT1 e5
        have hU' : Und 1 13 σ' := Und_of hU e14
        have l0 := PJm_le e7
        have l1 := PJm_le e8
        have l2 := e9.1
        have htop : Und (1 + cj e + cj b) 11 σ' := top_b e8 (by omega) (Und_lo (top_e e7 (by omega) (Und_lo hU' (by decide))) (by decide))
        rw [e1]
        by_cases h41 : sN tx n q = 41
        · have hlq := sN_lt h41 (by decide)
          rw [if_pos h41] at hr'
          cases hr'
          obtain ⟨σ1, c1, c2, c3, c4, c5⟩ := m_lands1 e6 e7 e8 e9 hU' (by omega) (by omega)
          have e92 := l92_close (w := 0) (o := 0) hB hT' e6 (by omega) h41 c1 c3
          rw [if_pos (show nI 0 = 0 from rfl)] at e92
          have ea : aft (E' + 1) M' (N' + 1) σ' = some (.inr (1, sI (sI (sI σ1 166 11 (nI 0)) 166 9 (nI 0)) 166 5 (nI (q + 1)))) := by
            obtain ⟨k, a, b', hk, h1, h2, h3, h4⟩ := htop
            rw [hk] at e6
            rw [aft_no e6 (by omega) (by omega) h3 (by omega) h4, itr_end e92]
            rfl
          rw [ea, Option.bind_some]
          refine ⟨1, _, rfl, ((((F0.tr opS_fx).tr e5).tr c2).tr (((Fx_sI (f66 (by decide) (by decide) (by decide))).tr (Fx_sI (f66 (by decide) (by decide) (by decide)))).tr (Fx_sI (f66 (by decide) (by decide) (by decide))))), rfl, u', plc_rd (opn_rd (pop_rd c3)), c4.1, by omega, MB_ext c4 (fun k _ _ => ?_), fun k hk => ?_, fun k hk => absurd hk (Nat.not_lt_zero k)⟩
          · rw [sI_obj (by decide), sI_obj (by decide), sI_obj (by decide)]
          · rw [sI_obj (by decide), sI_obj (by decide), sI_obj (by decide), c5.1 k hk, e14.1 k hk, opS_cd, lw0.1 k hk]
        · rw [if_neg h41] at hr'
          cases hr'
          rw [aft_go hB hT' e6 htop (by omega) (by omega) h41, if_neg e15, if_neg e16]
          refine ⟨0, sI σ' 166 7 (flt 1 q), ?_, ((F0.tr opS_fx).tr e5).tr (Fx_sI (f66 (by decide) (by decide) (by decide))), rfl, sI_same⟩
          show bzo ((Md_wrongAt (nI 1) (σ'.1 166 5) σ').bind fun w => some (w.1, w.2)) = _
          rw [m_wrong 1 e6]
          rfl
  · rw [if_neg h40] at hr ⊢
    cases hr
    rw [show (1 : Int32) = nI 1 from rfl, m_wrong 1 hR]
    exact ⟨0, _, rfl, Fx_sI (f66 (by decide) (by decide) (by decide)), rfl, sI_same⟩
end MC2
