/-! THE LAW READ, IN THE REFERENCE: clauses, the whole text -/
section MCL
variable {tx : Nat → Nat} {n : Nat}
def PM6 (b k : Nat) : Prop := PM5 b k ∨ (173 ≤ b ∧ b ≤ 176) ∨ (b = 166 ∧ k = 12)
theorem PM5_6 {σ σ' : MH} (h : Fx PM5 σ σ') : Fx PM6 σ σ' := h.mo (fun b k q => Or.inl q)
theorem TXM_6 {σ σ' : MH} (h : TXM tx n σ) (hf : Fx PM6 σ σ') : TXM tx n σ' := fun j hj => by
  rw [hf 170 j (by unfold PM6 PM5; omega)]
  exact h j hj
theorem cls_cnd (c q : Nat) (e : VL) : (if sN tx n q = 40 then cl2 tx n c q e (pEith tx n (pTest tx n 6 1) (q + 1)) else some (.inl (flt 1 q))) = (match cndP tx n q with
    | none => none
    | some (.inl e') => some (.inl e')
    | some (.inr (q', v)) => some (.inr (q', c, e, v)) : Option (Int32 ⊕ (Nat × CLs))) := by
  unfold cndP
  by_cases h : sN tx n q = 40
  · rw [if_pos h, if_pos h]
    cases pEith tx n (pTest tx n 6 1) (q + 1) with
    | none => rfl
    | some r => cases r with
      | inl e => rfl
      | inr z =>
        show ((if sN tx n z.1 = 41 then some (.inr (z.1 + 1, c, e, z.2)) else some (.inl (flt 1 z.1))) : Option (Int32 ⊕ (Nat × CLs))) = (match ((if sN tx n z.1 = 41 then some (.inr (z.1 + 1, z.2)) else some (.inl (flt 1 z.1))) : Option PRs) with
          | none => none
          | some (.inl e') => some (.inl e')
          | some (.inr (q', v)) => some (.inr (q', c, e, v)))
        by_cases h2 : sN tx n z.1 = 41
        · rw [if_pos h2, if_pos h2]
        · rw [if_neg h2, if_neg h2]
  · rw [if_neg h, if_neg h]
theorem m_isClause (hB : TXb tx n) (σ : MH) (p : Nat) : Md_isClause (sgX tx n p) σ = some (bI (isCl (sN tx n p))) := by
  have h : ∀ c, c < 256 → Md_isClause (nI c) (fun _ _ => 0, fun _ _ => 0) = some (bI (isCl c)) := by decide +kernel
  rcases sg_cases hB p with ⟨a, e, e2, h1⟩ | ⟨a, e, e2⟩
  · rw [e, e2]; exact h _ h1
  · rw [e, e2]; rfl
/-- a clause said -/
def ClM (m : Nat) (cl : CLs) (u : Nat) (σ : MH) : Prop := σ.1 173 m = nI cl.1 ∧ ∃ a b c, σ.1 174 m = nI a ∧ σ.1 175 m = nI b ∧ σ.1 176 m = nI c ∧ MB (σ.1 171) a b 1 cl.2.1 ∧ MB (σ.1 171) b c 0 cl.2.2 ∧ c ≤ u
def okKM (p u m n : Nat) (r : Int32 ⊕ (Nat × CLs)) (σ : MH) (x : Int32) (σ' : MH) : Prop := Fx PM6 σ σ' ∧ match r with
  | .inl e => x = 0 ∧ σ'.1 166 7 = e
  | .inr (q, cl) => x = 1 ∧ ∃ u' w' o', MRe n q u' w' o' σ' ∧ u ≤ u' ∧ u' + p ≤ u + q ∧ (∀ k, k < u → σ'.1 171 k = σ.1 171 k) ∧ ClM m cl u' σ' ∧ σ'.1 166 12 = nI (m + 1) ∧ ∀ j, j < m → σ'.1 173 j = σ.1 173 j ∧ σ'.1 174 j = σ.1 174 j ∧ σ'.1 175 j = σ.1 175 j ∧ σ'.1 176 j = σ.1 176 j
theorem MRe_of {p u w o : Nat} {σ σ' : MH} (h : MRe n p u w o σ) (e : ∀ k, k ≠ 12 → σ'.1 166 k = σ.1 166 k) : MRe n p u w o σ' := by
  obtain ⟨h1, h2, h3, h4, h5⟩ := h
  exact ⟨(e 6 (by decide)).trans h1, (e 5 (by decide)).trans h2, (e 10 (by decide)).trans h3, (e 11 (by decide)).trans h4, (e 9 (by decide)).trans h5⟩
theorem m_clause (hB : TXb tx n) {p u w o m : Nat} {σ : MH} (hT : TXM tx n σ) (hp : p ≤ n) (hu : u ≤ p) (hR : MRe n p u w o σ) (hm : σ.1 166 12 = nI m) (hm16 : m ≤ 16) {r : Int32 ⊕ (Nat × CLs)} (hr : pCls tx n m p = some r) : ∃ x σ', Md_readsClause σ = some (x, σ') ∧ okKM p u m n r σ x σ' := by
  have hn := hB.1
  have no : ∀ k, r = .inl (flt k p) → ∃ σ', Md_wrongAt (nI k) (σ.1 166 5) σ = some (0, σ') ∧ okKM p u m n r σ 0 σ' := fun k e => ⟨_, m_wrong k hR, PM5_6 (Fx_sI (f66 (by decide) (by decide) (by decide))), by rw [e]; exact ⟨rfl, sI_same⟩⟩
  unfold pCls at hr
  unfold Md_readsClause Md_readsClause0
  rw [m_hr hB hT hR (by omega), Option.bind_some, m_isClause hB, Option.bind_some]
  cases hc : isCl (sN tx n p) with
  | false =>
    rw [hc, if_neg (by decide)] at hr
    cases hr
    obtain ⟨σ', h1, h2⟩ := no 1 rfl
    rw [bI_f, if_pos rfl]
    refine ⟨0, σ', ?_, h2⟩
    show bzo ((Md_wrongAt (nI 1) (σ.1 166 5) σ).bind fun w => some (w.1, w.2)) = _
    rw [h1]
    rfl
  | true =>
    have hl := P_lt (P := isCl) (by decide) hc
    rw [hc, if_pos rfl] at hr
    rw [bI_t, if_neg (show ¬ (1 : Int32) = 0 by decide), hm]
    by_cases h16 : m < 16
    · obtain ⟨f1, f2, f3, f4⟩ := ix3 16 h16
      rw [if_pos h16] at hr
      rw [if_neg (mt (eqL 16 (by omega) (by decide)).mp (by omega)), if_pos f2, f3, sg_nI hB hl]
      have e12 : (sI (sI σ 173 m (nI (sN tx n p))) 166 5 ((sI σ 173 m (nI (sN tx n p))).1 166 5 + 1)).1 166 12 = nI m := by rw [sI_fld (by decide), sI_obj (by decide), hm]
      have e10 : (sI (sI σ 173 m (nI (sN tx n p))) 166 5 ((sI σ 173 m (nI (sN tx n p))).1 166 5 + 1)).1 166 10 = nI u := by rw [sI_fld (by decide), sI_obj (by decide)]; exact hR.2.2.1
      rw [e12, if_pos f2, f3, e10]
      have e5 : (sI σ 173 m (nI (sN tx n p))).1 166 5 + 1 = nI (p + 1) := by rw [sI_obj (by decide), hR.2.1]; exact nI_1 _
      rw [e5]
      obtain ⟨σA, hσ⟩ : ∃ σA, sI (sI (sI (sI (sI σ 173 m (nI (sN tx n p))) 166 5 (nI (p + 1))) 174 m (nI u)) 166 9 0) 166 11 0 = σA := ⟨_, rfl⟩
      rw [hσ]
      have FA : Fx PM6 σ σA := by
        rw [← hσ]
        exact ((((Fx_sI (Or.inr (Or.inl (by decide)))).tr (Fx_sI (Or.inl (f66 (by decide) (by decide) (by decide))))).tr (Fx_sI (Or.inr (Or.inl (by decide))))).tr (Fx_sI (Or.inl (f66 (by decide) (by decide) (by decide))))).tr (Fx_sI (Or.inl (f66 (by decide) (by decide) (by decide))))
      have RA : MRe n (p + 1) u 0 0 σA := by
        have h1 : MRe n p u w o (sI σ 173 m (nI (sN tx n p))) := MRe_of hR (fun k _ => by rw [sI_obj (by decide)])
        have h2 : MRe n (p + 1) u w o (sI (sI σ 173 m (nI (sN tx n p))) 166 5 (nI (p + 1))) := plc_rd h1
        have h3 : MRe n (p + 1) u w o (sI (sI (sI σ 173 m (nI (sN tx n p))) 166 5 (nI (p + 1))) 174 m (nI u)) := MRe_of h2 (fun k _ => by rw [sI_obj (by decide)])
        rw [← hσ]
        exact pop_rd (opn_rd h3)
      have A171 : ∀ k, σA.1 171 k = σ.1 171 k := fun k => by rw [← hσ, sI_obj (by decide), sI_obj (by decide), sI_obj (by decide), sI_obj (by decide), sI_obj (by decide)]
      have A173 : σA.1 173 m = nI (sN tx n p) := by rw [← hσ, sI_obj (by decide), sI_obj (by decide), sI_obj (by decide), sI_obj (by decide), sI_same]
      have A174 : σA.1 174 m = nI u := by rw [← hσ, sI_obj (by decide), sI_obj (by decide), sI_same]
      have A12 : σA.1 166 12 = nI m := by rw [← hσ, sI_fld (by decide), sI_fld (by decide), sI_obj (by decide), sI_fld (by decide), sI_obj (by decide), hm]
      have Aj : ∀ j, j < m → σA.1 173 j = σ.1 173 j ∧ σA.1 174 j = σ.1 174 j ∧ σA.1 175 j = σ.1 175 j ∧ σA.1 176 j = σ.1 176 j := fun j hj => by
        rw [← hσ]
        refine ⟨?_, ?_, ?_, ?_⟩
        · rw [sI_obj (by decide), sI_obj (by decide), sI_obj (by decide), sI_obj (by decide), sI_fld (by omega)]
        · rw [sI_obj (by decide), sI_obj (by decide), sI_fld (by omega), sI_obj (by decide), sI_obj (by decide)]
        · rw [sI_obj (by decide), sI_obj (by decide), sI_obj (by decide), sI_obj (by decide), sI_obj (by decide)]
        · rw [sI_obj (by decide), sI_obj (by decide), sI_obj (by decide), sI_obj (by decide), sI_obj (by decide)]
      clear hσ
      have hTs := Tt_sum (tx := tx) hn 7 0 (by decide) (by decide)
      cases hs : pSum tx n 7 0 (p + 1) with
      | none => rw [hs] at hr; cases hr
      | some r1 =>
        rw [hs] at hr
        have hTA := TXM_6 hT FA
        obtain ⟨x1, σ1, k1, k2⟩ := m_readsSum hB (f := 6) (o := 0) (by decide) hTA RA (by omega) (by omega) (Nat.zero_le _) (Or.inl rfl) hs
        rw [k1, Option.bind_some]
        dsimp only
        cases r1 with
        | inl e =>
          cases hr
          obtain ⟨F, k3, k4⟩ := k2
          rw [if_pos k3]
          exact ⟨0, σ1, rfl, FA.tr (PM5_6 F), rfl, k4⟩
        | inr z =>
          obtain ⟨q, v⟩ := z
          dsimp only at hr
          rw [cls_cnd] at hr
          obtain ⟨F, k3, u1, g1, g2, g3, g4, g5⟩ := k2
          obtain ⟨t1, t2, t3⟩ := Tt_q hTs hs q v rfl
          have g12 : σ1.1 166 12 = nI m := (F 166 12 (by unfold PM5; omega)).trans A12
          rw [k3, if_neg (show ¬ (1 : Int32) = 0 by decide), g12, if_pos f2, f3, g1.2.2.1]
          have F2 : Fx PM6 σA (sI σ1 175 m (nI u1)) := (PM5_6 F).tr (Fx_sI (Or.inr (Or.inl (by decide))))
          have R2 : MRe n q u1 0 0 (sI σ1 175 m (nI u1)) := MRe_of g1 (fun k _ => by rw [sI_obj (by decide)])
          have hT2 := TXM_6 hT (FA.tr F2)
          cases hs2 : cndP tx n q with
          | none => rw [hs2] at hr; cases hr
          | some r2 =>
            rw [hs2] at hr
            obtain ⟨x4, σ4, j1, j2⟩ := m_cond hB hT2 R2 t2 (by omega) hs2
            rw [j1, Option.bind_some]
            dsimp only
            cases r2 with
            | inl e =>
              cases hr
              obtain ⟨G, k5, k6⟩ := j2
              rw [if_pos k5]
              exact ⟨0, σ4, rfl, (FA.tr F2).tr (PM5_6 G), rfl, k6⟩
            | inr z2 =>
              obtain ⟨q2, v2⟩ := z2
              cases hr
              obtain ⟨G, k5, u4, i1, i2, i3, i4, i5⟩ := j2
              have j12 : σ4.1 166 12 = nI m := by rw [G 166 12 (by unfold PM5; omega), sI_obj (by decide), g12]
              rw [k5, if_neg (show ¬ (1 : Int32) = 0 by decide), j12, if_pos f2, f3, i1.2.2.1, sI_obj (by decide), j12, show nI m + 1 = nI (m + 1) from nI_1 _]
              have D171 : ∀ k, (sI (sI σ4 176 m (nI u4)) 166 12 (nI (m + 1))).1 171 k = σ4.1 171 k := fun k => by rw [sI_obj (by decide), sI_obj (by decide)]
              have C171 : ∀ k, k < u1 → σ4.1 171 k = σ1.1 171 k := fun k hk => by rw [i5.1 k hk, sI_obj (by decide)]
              have Do : ∀ b j, b = 173 ∨ b = 174 ∨ b = 175 → (sI (sI σ4 176 m (nI u4)) 166 12 (nI (m + 1))).1 b j = (sI σ1 175 m (nI u1)).1 b j := fun b j hb => by
                rw [sI_obj (by omega), sI_obj (by omega), G b j (by unfold PM5; omega)]
              refine ⟨1, _, rfl, (((FA.tr F2).tr (PM5_6 G)).tr (Fx_sI (Or.inr (Or.inl (by decide))))).tr (Fx_sI (Or.inr (Or.inr ⟨rfl, rfl⟩))), rfl, u4, 0, 0, MRe_of i1 (fun k hk => by rw [sI_fld hk, sI_obj (by decide)]), by omega, by omega, fun k hk => ?_, ⟨?_, u, u1, u4, ?_, ?_, ?_, MB_ext g4 (fun k _ hk => by rw [D171, C171 k hk]), MB_ext i4 (fun k _ _ => D171 k), Nat.le_refl _⟩, sI_same, fun j hj => ⟨?_, ?_, ?_, ?_⟩⟩
              · rw [D171, C171 k (by omega), g5.1 k hk, A171]
              · rw [Do 173 m (by decide), sI_obj (by decide), F 173 m (by unfold PM5; omega), A173]
              · rw [Do 174 m (by decide), sI_obj (by decide), F 174 m (by unfold PM5; omega), A174]
              · rw [Do 175 m (by decide), sI_same]
              · rw [sI_obj (by decide), sI_same]
              · rw [Do 173 j (by decide), sI_obj (by decide), F 173 j (by unfold PM5; omega)]; exact (Aj j hj).1
              · rw [Do 174 j (by decide), sI_obj (by decide), F 174 j (by unfold PM5; omega)]; exact (Aj j hj).2.1
              · rw [Do 175 j (by decide), sI_fld (by omega), F 175 j (by unfold PM5; omega)]; exact (Aj j hj).2.2.1
              · rw [sI_obj (by decide), sI_fld (by omega), G 176 j (by unfold PM5; omega), sI_obj (by decide), F 176 j (by unfold PM5; omega)]; exact (Aj j hj).2.2.2
    · rw [if_neg h16] at hr
      cases hr
      rw [if_pos ((eqL 16 (by omega) (by decide)).mpr (by omega))]
      obtain ⟨σ', h1, h2⟩ := no 4 rfl
      refine ⟨0, σ', ?_, h2⟩
      show bzo ((Md_wrongAt (nI 4) (σ.1 166 5) σ).bind fun w => some (w.1, w.2)) = _
      rw [h1]
      rfl
def LsM (l : List CLs) (u : Nat) (σ : MH) : Prop := ∀ m cl, l[m]? = some cl → ClM m cl u σ
theorem LsM_step {l : List CLs} {u u' : Nat} {cl : CLs} {σ σ' : MH} (h : LsM l u σ) (hu : u ≤ u') (hk : ∀ k, k < u → σ'.1 171 k = σ.1 171 k) (hc : ClM l.length cl u' σ') (hj : ∀ j, j < l.length → σ'.1 173 j = σ.1 173 j ∧ σ'.1 174 j = σ.1 174 j ∧ σ'.1 175 j = σ.1 175 j ∧ σ'.1 176 j = σ.1 176 j) : LsM (l ++ [cl]) u' σ' := fun m c hm => by
  rcases Nat.lt_trichotomy m l.length with q | q | q
  · rw [List.getElem?_append_left q] at hm
    obtain ⟨a0, a, b, c', a1, a2, a3, a4, a5, a6⟩ := h m c hm
    obtain ⟨j1, j2, j3, j4⟩ := hj m q
    have h5 := a5.1
    exact ⟨j1.trans a0, a, b, c', j2.trans a1, j3.trans a2, j4.trans a3, MB_ext a4 (fun k _ hb => hk k (by omega)), MB_ext a5 (fun k _ hb => hk k (by omega)), by omega⟩
  · subst q
    rw [List.getElem?_append_right (Nat.le_refl _), Nat.sub_self] at hm
    cases hm
    exact hc
  · rw [List.getElem?_eq_none (by rw [List.length_append]; show l.length + 1 ≤ m; omega)] at hm
    cases hm
def okLM (n : Nat) (r : Int32 ⊕ List CLs) (σ : MH) (x : Int32) (σ' : MH) : Prop := Fx PM6 σ σ' ∧ match r with
  | .inl e => x = 0 ∧ σ'.1 166 7 = e
  | .inr l => x = 1 ∧ ∃ u, u ≤ n ∧ σ'.1 166 10 = nI u ∧ LsM l u σ' ∧ σ'.1 166 12 = nI l.length ∧ l.length ≤ 16
theorem m_lawL (hB : TXb tx n) (σ0 : MH) : ∀ (g : Nat) (l : List CLs) (p u w o N : Nat) (σ : MH) (r : Int32 ⊕ List CLs), pLaw tx n g l p = some r → TXM tx n σ → MRe n p u w o σ → p ≤ n → u ≤ p → l.length ≤ 16 → n + 1 < N + p → LsM l u σ → σ.1 166 12 = nI l.length → Fx PM6 σ0 σ → ∃ x σ', (Md_readsClause σ).bind (fun z => itr (fun s : Int32 × MH => Md_law_l46 s.1 s.2) N z) = some (x, σ') ∧ okLM n r σ0 x σ' := by
  have hn := hB.1
  have z0 : ∀ (N : Nat) (τ : MH), itr (fun s : Int32 × MH => Md_law_l46 s.1 s.2) (N + 1) (0, τ) = some (0, τ) := fun N τ => itr_end (by
    show Md_law_l46 0 τ = _
    unfold Md_law_l46
    rw [if_pos rfl])
  intro g
  induction g with
  | zero => intro l p u w o N σ r hr; cases hr
  | succ g ih =>
    intro l p u w o N σ r hr hT hR hp hu hl hN hLs h6 hF
    unfold pLaw at hr
    obtain ⟨N, rfl⟩ : ∃ K, N = K + 1 := ⟨N - 1, by omega⟩
    cases hc : pCls tx n l.length p with
    | none => rw [hc] at hr; cases hr
    | some r1 =>
      rw [hc] at hr
      obtain ⟨x1, σ1, k1, k2⟩ := m_clause hB hT hp hu hR h6 hl hc
      rw [k1, Option.bind_some]
      cases r1 with
      | inl e =>
        cases hr
        obtain ⟨F, rfl, k4⟩ := k2
        exact ⟨0, σ1, z0 N σ1, hF.tr F, rfl, k4⟩
      | inr z =>
        obtain ⟨q, cl⟩ := z
        dsimp only at hr
        obtain ⟨F, rfl, u1, w1, o1, g1, g2, g3, g4, g5, g6, g7⟩ := k2
        obtain ⟨t1, t2, t3, -⟩ := pCls_q hn hc
        have hLs1 := LsM_step hLs g2 g4 g5 g7
        have hlen : (l ++ [cl]).length = l.length + 1 := List.length_append
        by_cases he : n ≤ q
        · rw [if_pos he] at hr
          cases hr
          refine ⟨1, σ1, itr_end ?_, hF.tr F, rfl, u1, by omega, g1.2.2.1, hLs1, by rw [hlen]; exact g6, by omega⟩
          show Md_law_l46 1 σ1 = _
          unfold Md_law_l46
          rw [if_neg (show ¬ (1 : Int32) = 0 by decide), g1.1, g1.2.1, if_pos ((nI_leI (by omega) (by omega)).mpr he)]
        · rw [if_neg he] at hr
          have hT1 := TXM_6 hT F
          have e46 : Md_law_l46 1 σ1 = (Md_takes 59 σ1).bind fun z => if z.1 = 0 then (Md_law_b81 z.2) else ((Md_readsClause z.2).bind fun y => if y.1 = 0 then (Md_law_b81 y.2) else (Md_law_b82 1 y.2)) := by
            unfold Md_law_l46
            rw [if_neg (show ¬ (1 : Int32) = 0 by decide), g1.1, g1.2.1, if_neg (mt (nI_leI (by omega) (by omega)).mp he)]
          have etk : Md_takes 59 σ1 = if sN tx n q = 59 then some (1, sI σ1 166 5 (nI (q + 1))) else some (0, sI σ1 166 7 (flt 1 q)) := by
            unfold Md_takes Md_takes0
            rw [m_hr hB hT1 g1 (by omega), Option.bind_some, P_ite hB q (c := 59) (by decide), g1.2.1, show nI q + 1 = nI (q + 1) from nI_1 _]
            by_cases h59 : sN tx n q = 59
            · rw [if_pos h59, if_pos h59]; rfl
            · rw [if_neg h59, if_neg h59]; rfl
          rw [itr_contI]
          dsimp only
          rw [e46, etk]
          by_cases h59 : sN tx n q = 59
          · rw [if_pos h59] at hr ⊢
            rw [Option.bind_some, if_neg (show ¬ (1 : Int32) = 0 by decide)]
            have F5 : Fx PM6 σ1 (sI σ1 166 5 (nI (q + 1))) := Fx_sI (Or.inl (f66 (by decide) (by decide) (by decide)))
            have hLs2 : LsM (l ++ [cl]) u1 (sI σ1 166 5 (nI (q + 1))) := fun m c hm => by
              obtain ⟨a0, a, b, c', a1, a2, a3, a4, a5, a6⟩ := hLs1 m c hm
              have e : ∀ b, b ≠ 166 → (sI σ1 166 5 (nI (q + 1))).1 b = σ1.1 b := fun b hb => sI_objF hb
              unfold ClM
              rw [e 171 (by decide), e 173 (by decide), e 174 (by decide), e 175 (by decide), e 176 (by decide)]
              exact ⟨a0, a, b, c', a1, a2, a3, a4, a5, a6⟩
            obtain ⟨x, σ', y1, y2⟩ := ih (l ++ [cl]) (q + 1) u1 w1 o1 N (sI σ1 166 5 (nI (q + 1))) r hr (TXM_6 hT1 F5) (plc_rd g1) (by omega) (by omega) (by omega) (by omega) hLs2 (by rw [hlen, sI_fld (by decide)]; exact g6) ((hF.tr F).tr F5)
            · refine ⟨x, σ', Eq.trans ?_ y1, y2⟩
              cases hx : pCls tx n (l ++ [cl]).length (q + 1) with
              | none =>
                exfalso
                cases g with
                | zero => cases hr
                | succ g =>
                  unfold pLaw at hr
                  rw [hx] at hr
                  cases hr
              | some r2 =>
                obtain ⟨x2, σ2, m1, m2⟩ := m_clause hB (TXM_6 hT1 F5) (by omega) (by omega) (plc_rd g1) (by rw [hlen, sI_fld (by decide)]; exact g6) (by omega) hx
                rw [m1, Option.bind_some, Option.bind_some]
                have hx2 : x2 = 0 ∨ x2 = 1 := by
                  obtain ⟨-, m3⟩ := m2
                  cases r2 with
                  | inl e => exact Or.inl m3.1
                  | inr z => exact Or.inr m3.1
                rcases hx2 with rfl | rfl
                · rfl
                · rfl
          · rw [if_neg h59] at hr ⊢
            cases hr
            rw [Option.bind_some, if_pos rfl]
            obtain ⟨K, rfl⟩ : ∃ K, N = K + 1 := ⟨N - 1, by omega⟩
            exact ⟨0, sI σ1 166 7 (flt 1 q), z0 K _, (hF.tr F).tr (Fx_sI (Or.inl (f66 (by decide) (by decide) (by decide)))), rfl, sI_same⟩
end MCL
