/-! THE LAW READ, IN THE CLASS: clauses, the whole text -/
section CLS5
variable {tx : Nat → Nat} {n : Nat}
def PL4 (b _k : Nat) : Prop := b = 123 ∨ (117 ≤ b ∧ b ≤ 121)
theorem PL3_4 {σ σ' : MH} (h : Fx PL3 σ σ') : Fx PL4 σ σ' := h.mo (fun b k q => by unfold PL3 at q; unfold PL4; omega)
theorem TXC_4 {σ σ' : MH} (h : TXC tx n σ) (hf : Fx PL4 σ σ') : TXC tx n σ' := fun j hj => (hf 110 j (by unfold PL4; omega)).trans (h j hj)
theorem c_clLetter (σ : MH) {c : Nat} (hc : c < 256) : ∃ x, String_indexOf_i_t0 (jc (nI c)) σ = some x ∧ decide (0 ≤ x) = isCl c := by
  have : ∀ c, c < 256 → (match String_indexOf_i_t0 (jc (nI c)) (fun _ _ => 0, fun _ _ => 0) with | some x => decide (decide (0 ≤ x) = isCl c) | none => false) = true := by decide +kernel
  have h := this c hc
  have e : String_indexOf_i_t0 (jc (nI c)) σ = String_indexOf_i_t0 (jc (nI c)) (fun _ _ => 0, fun _ _ => 0) := rfl
  rw [e]
  cases hx : String_indexOf_i_t0 (jc (nI c)) (fun _ _ => 0, fun _ _ => 0) with
  | none => rw [hx] at h; cases h
  | some x =>
    rw [hx] at h
    exact ⟨x, rfl, of_decide_eq_true h⟩
/-- a clause in the draft -/
def ClC (m : Nat) (cl : CLs) (u : Nat) (σ : MH) : Prop := σ.1 119 m = nI cl.1 ∧ ∃ a b c d, σ.1 120 m = nI a ∧ CB (σ.1 118) a b 1 cl.2.1 ∧ σ.1 118 b = 0 ∧ σ.1 121 m = nI c ∧ CB (σ.1 118) c d 0 cl.2.2 ∧ σ.1 118 d = 0 ∧ b < u ∧ d < u
def okK (p u m : Nat) (n : Nat) (r : Int32 ⊕ (Nat × CLs)) (σ : MH) (x : Int32) (σ' : MH) : Prop := Fx PL4 σ σ' ∧ match r with
  | .inl e => x = 0 ∧ σ'.1 123 3 = e
  | .inr (q, cl) => x = 1 ∧ ∃ u', CRd n q u' σ' ∧ u ≤ u' ∧ u' + 2 * p ≤ u + 2 * q ∧ (∀ k, k < u → σ'.1 118 k = σ.1 118 k) ∧ ClC m cl u' σ' ∧ σ'.1 117 6 = nI (m + 1) ∧ ∀ j, j < m → σ'.1 119 j = σ.1 119 j ∧ σ'.1 120 j = σ.1 120 j ∧ σ'.1 121 j = σ.1 121 j
theorem c_clause (hB : TXb tx n) {p u m : Nat} {σ : MH} (hT : TXC tx n σ) (hp : p ≤ n) (hu : u ≤ 2 * p) (hR : CRd n p u σ) (hm : σ.1 117 6 = nI m) (hm16 : m ≤ 16) {r : Int32 ⊕ (Nat × CLs)} (hr : pCls tx n m p = some r) : ∃ x σ', LawReader_readClause σ = some (x, σ') ∧ okK p u m n r σ x σ' := by
  have hn := hB.1
  have no : ∀ k, r = .inl (flt k p) → ∃ σ', Reader_fail (nI k) σ = some (0, σ') ∧ okK p u m n r σ 0 σ' := fun k e => ⟨_, c_fail3 k hR, Fx_sI (Or.inl rfl), by rw [e]; exact ⟨rfl, sI_same⟩⟩
  unfold pCls at hr
  unfold LawReader_readClause LawReader_readClause0
  rw [c_isEnd3 hR (by omega) (by omega), Option.bind_some, c_sign3 hB hT hR (by omega), Option.bind_some]
  have b28 : isCl (sN tx n p) = false → ∃ x σ', bzo (LawReader_readClause_b28 σ) = some (x, σ') ∧ okK p u m n r σ x σ' := fun h => by
    rw [if_neg (by rw [h]; decide)] at hr
    cases hr
    obtain ⟨σ', h1, h2⟩ := no 1 rfl
    refine ⟨0, σ', ?_, h2⟩
    unfold LawReader_readClause_b28
    rw [show (1 : Int32) = nI 1 from rfl, h1]
    rfl
  by_cases hl : p < n
  · rw [decide_eq_false (by omega), bI_f, if_pos rfl, sg_nI hB hl]
    have c256 : sN tx n p < 256 := by
      rcases sg_cases hB p with ⟨a, e, e2, h⟩ | ⟨a, e, e2⟩
      · rw [e2]; exact h
      · omega
    obtain ⟨x, hx1, hx2⟩ := c_clLetter σ c256
    rw [hx1, Option.bind_some]
    cases hc : isCl (sN tx n p) with
    | false =>
      rw [hc] at hx2
      rw [if_neg (of_decide_eq_false hx2)]
      exact b28 hc
    | true =>
      rw [hc] at hx2 hr
      rw [if_pos (of_decide_eq_true hx2), hm, if_neg (nI_pos (by omega))]
      rw [if_pos rfl] at hr
      by_cases h16 : m < 16
      · obtain ⟨f1, f2, f3, f4⟩ := ix3 16 h16
        rw [if_pos h16] at hr
        rw [if_pos ((ltL 16 (by omega) (by decide)).mpr h16), Option.bind_some, if_pos f2, f3]
        -- the E
        obtain ⟨σA, hσA⟩ : ∃ σA, sI (sI (sI σ 119 m (nI (sN tx n p))) 120 m ((sI σ 119 m (nI (sN tx n p))).1 117 5)) 123 2 (((sI (sI σ 119 m (nI (sN tx n p))) 120 m ((sI σ 119 m (nI (sN tx n p))).1 117 5)).1 123 2) + 1) = σA := ⟨_, rfl⟩
        have eσA : σA = sI (sI (sI σ 119 m (nI (sN tx n p))) 120 m (nI u)) 123 2 (nI (p + 1)) := by
          rw [← hσA, sI_obj (by decide), sI_obj (by decide), sI_obj (by decide), hR.2.2, hR.2.1, show nI p + 1 = nI (p + 1) from nI_1 _]
        rw [hσA]
        have FA : Fx PL4 σ σA := by
          rw [eσA]
          exact ((Fx_sI (Or.inr (by decide))).tr (Fx_sI (Or.inr (by decide)))).tr (Fx_sI (Or.inl rfl))
        have RA : CRd n (p + 1) u σA := by
          rw [eσA]
          exact at_rd ⟨by rw [sI_obj (by decide), sI_obj (by decide)]; exact hR.1, by rw [sI_obj (by decide), sI_obj (by decide)]; exact hR.2.1, by rw [sI_obj (by decide), sI_obj (by decide)]; exact hR.2.2⟩
        have A118 : ∀ k, σA.1 118 k = σ.1 118 k := fun k => by rw [eσA, sI_obj (by decide), sI_obj (by decide), sI_obj (by decide)]
        have A119 : σA.1 119 m = nI (sN tx n p) := by rw [eσA, sI_obj (by decide), sI_obj (by decide), sI_same]
        have A120 : σA.1 120 m = nI u := by rw [eσA, sI_obj (by decide), sI_same]
        have Aj : ∀ j, j < m → σA.1 119 j = σ.1 119 j ∧ σA.1 120 j = σ.1 120 j ∧ σA.1 121 j = σ.1 121 j := fun j hj => by
          rw [eσA]
          refine ⟨?_, ?_, ?_⟩
          · rw [sI_obj (by decide), sI_obj (by decide), sI_fld (by omega)]
          · rw [sI_obj (by decide), sI_fld (by omega), sI_obj (by decide)]
          · rw [sI_obj (by decide), sI_obj (by decide), sI_obj (by decide)]
        clear hσA eσA
        have hTs := Tt_sum (tx := tx) hn 7 0 (by decide) (by decide)
        have hTe := Tt_eith hn (Tt_test (tx := tx) hn 6 1 (by decide) (by decide))
        cases hs : pSum tx n 7 0 (p + 1) with
        | none => rw [hs] at hr; cases hr
        | some r1 =>
          rw [hs] at hr
          obtain ⟨x1, σ1, k1, k2⟩ := K_sum hB 6 0 64 (by decide) (by decide) (p + 1) u σA (TXC_4 hT FA) (by omega) (by omega) RA r1 hs
          rw [show LR 0 0 0 σA = some (x1, σ1) from k1, Option.bind_some]
          dsimp only
          cases r1 with
          | inl e =>
            cases hr
            obtain ⟨F, k3, k4⟩ := k2
            rw [if_pos k3]
            exact ⟨0, σ1, rfl, FA.tr (PL3_4 F), rfl, k4⟩
          | inr w =>
            obtain ⟨q, v⟩ := w
            dsimp only at hr
            obtain ⟨F, k3, u1, g1, g2, g3, g4, g5⟩ := k2
            obtain ⟨t1, t2, t3⟩ := Tt_q hTs hs q v rfl
            rw [k3, if_neg (show ¬ (1 : Int32) = 0 by decide), c_emit g1.2.2 (by omega), Option.bind_some]
            have r2 := em_rd (x := 0) g1
            obtain ⟨σ2, hσ2⟩ : ∃ σ2, sI (em σ1 u1 0) 121 m ((em σ1 u1 0).1 117 5) = σ2 := ⟨_, rfl⟩
            rw [hσ2]
            rw [r2.2.2] at hσ2
            have F2 : Fx PL4 σA σ2 := by
              rw [← hσ2]
              exact ((PL3_4 F).tr (PL3_4 em_fx)).tr (Fx_sI (Or.inr (by decide)))
            have R2 : CRd n q (u1 + 1) σ2 := by
              rw [← hσ2]
              exact ⟨by rw [sI_obj (by decide)]; exact r2.1, by rw [sI_obj (by decide)]; exact r2.2.1, by rw [sI_obj (by decide)]; exact r2.2.2⟩
            have B118 : ∀ k, σ2.1 118 k = if k = u1 then 0 else σ1.1 118 k := fun k => by rw [← hσ2, sI_obj (by decide), em_cd]
            have B121 : σ2.1 121 m = nI (u1 + 1) := by rw [← hσ2, sI_same]
            have Bo : σ2.1 119 = σA.1 119 ∧ σ2.1 120 = σA.1 120 ∧ ∀ j, j < m → σ2.1 121 j = σA.1 121 j := by
              refine ⟨?_, ?_, fun j hj => ?_⟩
              · rw [← hσ2, sI_objF (by decide)]
                exact funext fun j => (em_fx (σ := σ1) 119 j (by unfold PL3; omega)).trans (F 119 j (by unfold PL3; omega))
              · rw [← hσ2, sI_objF (by decide)]
                exact funext fun j => (em_fx (σ := σ1) 120 j (by unfold PL3; omega)).trans (F 120 j (by unfold PL3; omega))
              · rw [← hσ2, sI_fld (by omega)]
                exact (em_fx (σ := σ1) 121 j (by unfold PL3; omega)).trans (F 121 j (by unfold PL3; omega))
            clear hσ2
            have hT2 := TXC_4 hT (FA.tr F2)
            rw [c_pas hB hT2 R2 t2 (c := 40) (by decide)]
            by_cases h40 : sN tx n q = 40
            · rw [if_pos h40] at hr ⊢
              rw [Option.bind_some]
              dsimp only
              rw [if_neg (show ¬ (1 : Int32) = 0 by decide)]
              have hl40 := sN_lt h40 (by decide)
              have R3 := at_rd R2
              have F3 : Fx PL4 σA (sI σ2 123 2 (nI (q + 1))) := F2.tr (Fx_sI (Or.inl rfl))
              cases hs2 : pEith tx n (pTest tx n 6 1) (q + 1) with
              | none => rw [hs2] at hr; cases hr
              | some r2 =>
                rw [hs2] at hr
                obtain ⟨x4, σ4, j1, j2⟩ := K_eithOf hB (f := 5) (o := 1) (m := 64) (by decide) (fun m hm => K_test hB 5 1 m (by decide) hm) (by decide) (q + 1) (u1 + 1) _ (TXC_4 hT (FA.tr F3)) (by omega) (by omega) R3 r2 hs2
                rw [show LR 3 1 0 (sI σ2 123 2 (nI (q + 1))) = some (x4, σ4) from j1, Option.bind_some]
                dsimp only
                cases r2 with
                | inl e =>
                  cases hr
                  obtain ⟨G, k5, k6⟩ := j2
                  rw [if_pos k5]
                  exact ⟨0, σ4, rfl, (FA.tr F3).tr (PL3_4 G), rfl, k6⟩
                | inr w2 =>
                  obtain ⟨q2, v2⟩ := w2
                  obtain ⟨G, k5, u4, i1, i2, i3, i4, i5⟩ := j2
                  obtain ⟨s1, s2, s3⟩ := Tt_q hTe hs2 q2 v2 rfl
                  have hr' : (if sN tx n q2 = 41 then some (.inr (q2 + 1, sN tx n p, v, v2)) else some (.inl (flt 1 q2))) = some r := hr
                  have F4 := (FA.tr F3).tr (PL3_4 G)
                  rw [k5, if_neg (show ¬ (1 : Int32) = 0 by decide), c_pas hB (TXC_4 hT F4) i1 s2 (c := 41) (by decide)]
                  by_cases h41 : sN tx n q2 = 41
                  · rw [if_pos h41] at hr' ⊢
                    cases hr'
                    have R5 := at_rd i1
                    rw [Option.bind_some]
                    dsimp only
                    rw [if_neg (show ¬ (1 : Int32) = 0 by decide), c_emit R5.2.2 (by omega), Option.bind_some, show nI m + 1 = nI (m + 1) from nI_1 _]
                    have R6 := em_rd (x := 0) R5
                    have i4' : ∀ k, k < u1 + 1 → σ4.1 118 k = σ2.1 118 k := fun k hk => (i4 k hk).trans (by rw [sI_obj (by decide)])
                    have D118 : ∀ k, (sI (em (sI σ4 123 2 (nI (q2 + 1))) u4 0) 117 6 (nI (m + 1))).1 118 k = if k = u4 then 0 else σ4.1 118 k := fun k => by rw [sI_obj (by decide), em_cd, sI_obj (by decide)]
                    have Do : ∀ b j, b = 119 ∨ b = 120 ∨ b = 121 → (sI (em (sI σ4 123 2 (nI (q2 + 1))) u4 0) 117 6 (nI (m + 1))).1 b j = σ2.1 b j := fun b j hb => by
                      rw [sI_obj (by omega), em_fx b j (by unfold PL3; omega), sI_obj (by omega), G b j (by unfold PL3; omega), sI_obj (by omega)]
                    refine ⟨1, _, rfl, ((F4.tr (Fx_sI (Or.inl rfl))).tr (PL3_4 em_fx)).tr (Fx_sI (Or.inr (by decide))), rfl, u4 + 1, ⟨?_, ?_, ?_⟩, by omega, by omega, fun k hk => ?_, ⟨?_, u, u1, u1 + 1, u4, ?_, ?_, ?_, ?_, ?_, ?_, by omega, by omega⟩, sI_same, fun j hj => ⟨?_, ?_, ?_⟩⟩
                    · rw [sI_obj (by decide)]; exact R6.1
                    · rw [sI_obj (by decide)]; exact R6.2.1
                    · rw [sI_fld (by decide)]; exact R6.2.2
                    · rw [D118, if_neg (by omega), i4' k (by omega), B118, if_neg (by omega), g4 k hk, A118]
                    · rw [Do 119 m (by decide), Bo.1, A119]
                    · rw [Do 120 m (by decide), Bo.2.1, A120]
                    · exact CB_ext g5 (fun k a b => by rw [D118, if_neg (by omega), i4' k (by omega), B118, if_neg (by omega)])
                    · rw [D118, if_neg (by omega), i4' u1 (by omega), B118, if_pos rfl]
                    · rw [Do 121 m (by decide), B121]
                    · exact CB_ext i5 (fun k a b => by rw [D118, if_neg (by omega)])
                    · rw [D118, if_pos rfl]
                    · rw [Do 119 j (by decide), Bo.1]; exact (Aj j hj).1
                    · rw [Do 120 j (by decide), Bo.2.1]; exact (Aj j hj).2.1
                    · rw [Do 121 j (by decide), Bo.2.2 j hj]; exact (Aj j hj).2.2
                  · rw [if_neg h41] at hr' ⊢
                    cases hr'
                    exact ⟨0, _, rfl, F4.tr (Fx_sI (Or.inl rfl)), rfl, sI_same⟩
            · rw [if_neg h40] at hr ⊢
              cases hr
              exact ⟨0, _, rfl, (FA.tr F2).tr (Fx_sI (Or.inl rfl)), rfl, sI_same⟩
      · rw [if_neg h16] at hr
        cases hr
        rw [if_neg (mt (ltL 16 (by omega) (by decide)).mp h16)]
        obtain ⟨σ', h1, h2⟩ := no 4 rfl
        refine ⟨0, σ', ?_, h2⟩
        unfold LawReader_readClause_b44
        rw [show (4 : Int32) = nI 4 from rfl, h1]
        rfl
  · rw [decide_eq_true (by omega), bI_t, if_neg (show ¬ (1 : Int32) = 0 by decide)]
    refine b28 ?_
    cases hc : isCl (sN tx n p) with
    | false => rfl
    | true => exact absurd (P_lt (P := isCl) (by decide) hc) hl
/-- the clauses in the draft -/
def LsC (l : List CLs) (u : Nat) (σ : MH) : Prop := ∀ m cl, l[m]? = some cl → ClC m cl u σ
theorem LsC_step {l : List CLs} {u u' : Nat} {cl : CLs} {σ σ' : MH} (h : LsC l u σ) (hu : u ≤ u') (hk : ∀ k, k < u → σ'.1 118 k = σ.1 118 k) (hc : ClC l.length cl u' σ') (hj : ∀ j, j < l.length → σ'.1 119 j = σ.1 119 j ∧ σ'.1 120 j = σ.1 120 j ∧ σ'.1 121 j = σ.1 121 j) : LsC (l ++ [cl]) u' σ' := fun m c hm => by
  rcases Nat.lt_trichotomy m l.length with q | q | q
  · rw [List.getElem?_append_left q] at hm
    obtain ⟨a0, a, b, c', d, a1, a2, a3, a4, a5, a6, a7, a8⟩ := h m c hm
    obtain ⟨j1, j2, j3⟩ := hj m q
    exact ⟨j1.trans a0, a, b, c', d, j2.trans a1, CB_ext a2 (fun k _ hb => hk k (by omega)), (hk b a7).trans a3, j3.trans a4, CB_ext a5 (fun k _ hb => hk k (by omega)), (hk d a8).trans a6, by omega, by omega⟩
  · subst q
    rw [List.getElem?_append_right (Nat.le_refl _), Nat.sub_self] at hm
    cases hm
    exact hc
  · rw [List.getElem?_eq_none (by rw [List.length_append]; show l.length + 1 ≤ m; omega)] at hm
    cases hm
theorem pCls_q {m p : Nat} (hn : n ≤ 240) {q : Nat} {cl : CLs} (h : pCls tx n m p = some (.inr (q, cl))) : p < q ∧ q ≤ n ∧ m < 16 ∧ isCl cl.1 = true ∧ VE cl.2.1 ∧ VC cl.2.2 := by
  unfold pCls at h
  by_cases hc : isCl (sN tx n p) = true
  · rw [if_pos hc] at h
    by_cases h16 : m < 16
    · rw [if_pos h16] at h
      cases hs : pSum tx n 7 0 (p + 1) with
      | none => rw [hs] at h; cases h
      | some r1 =>
        rw [hs] at h
        cases r1 with
        | inl e => cases h
        | inr w =>
          obtain ⟨q1, v⟩ := w
          dsimp only at h
          obtain ⟨t1, t2, t3⟩ := Tt_q (Tt_sum (tx := tx) hn 7 0 (by decide) (by decide)) hs q1 v rfl
          by_cases h40 : sN tx n q1 = 40
          · rw [if_pos h40] at h
            cases hs2 : pEith tx n (pTest tx n 6 1) (q1 + 1) with
            | none => rw [hs2] at h; cases h
            | some r2 =>
              rw [hs2] at h
              cases r2 with
              | inl e => cases h
              | inr w2 =>
                obtain ⟨q2, v2⟩ := w2
                obtain ⟨s1, s2, s3⟩ := Tt_q (Tt_eith hn (Tt_test (tx := tx) hn 6 1 (by decide) (by decide))) hs2 q2 v2 rfl
                have h' : ((if sN tx n q2 = 41 then some (.inr (q2 + 1, sN tx n p, v, v2)) else some (.inl (flt 1 q2))) : Option (Int32 ⊕ (Nat × CLs))) = some (.inr (q, cl)) := h
                by_cases h41 : sN tx n q2 = 41
                · rw [if_pos h41] at h'
                  have := sN_lt h41 (by decide)
                  cases h'
                  exact ⟨by omega, by omega, h16, hc, t3, s3⟩
                · rw [if_neg h41] at h'; cases h'
          · rw [if_neg h40] at h; cases h
    · rw [if_neg h16] at h; cases h
  · rw [if_neg hc] at h; cases h
def okL (n : Nat) (r : Int32 ⊕ List CLs) (σ : MH) (x : Int32) (σ' : MH) : Prop := Fx PL4 σ σ' ∧ match r with
  | .inl e => x = 0 ∧ σ'.1 123 3 = e
  | .inr l => x = 1 ∧ ∃ u, u ≤ 2 * n ∧ LsC l u σ' ∧ σ'.1 117 6 = nI l.length ∧ l.length ≤ 16
/-- what is left of readLaw when its loop has ended -/
def lwE (z : (MH) ⊕ (MH) ⊕ (Int32 × MH)) : Option (Int32 × MH) := match z with
  | .inl z => (Reader_fail 1 z).bind fun w => some (w.1, w.2)
  | .inr (.inl z) => (Reader_fail 1 z).bind fun w => some (w.1, w.2)
  | .inr (.inr z) => some (z.1, z.2)
theorem c_lawL (hB : TXb tx n) (σ0 : MH) : ∀ (g : Nat) (l : List CLs) (p u N : Nat) (σ : MH) (r : Int32 ⊕ List CLs), pLaw tx n g l p = some r → TXC tx n σ → CRd n p u σ → p ≤ n → u ≤ 2 * p → l.length ≤ 16 → n < N + p → LsC l u σ → σ.1 117 6 = nI l.length → Fx PL4 σ0 σ → ∃ z x σ', itr (fun s : Int32 × MH => LawReader_readLaw_l23 s.1 s.2) (N + 1) (nI l.length, σ) = some z ∧ lwE z = some (x, σ') ∧ okL n r σ0 x σ' := by
  have hn := hB.1
  intro g
  induction g with
  | zero => intro l p u N σ r hr; cases hr
  | succ g ih =>
    intro l p u N σ r hr hT hR hp hu hl hN hLs h6 hF
    unfold pLaw at hr
    cases hc : pCls tx n l.length p with
    | none => rw [hc] at hr; cases hr
    | some r1 =>
      rw [hc] at hr
      obtain ⟨x1, σ1, k1, k2⟩ := c_clause hB hT hp hu hR h6 hl hc
      have eb : LawReader_readLaw_l23 (nI l.length) σ = if x1 = 0 then some (.inr (.inr (.inr (0, σ1)))) else ((Reader_isEnd σ1).bind fun x7 => if x7 = 0 then ((Reader_sign σ1).bind fun x10 => if x10 = 59 then some (.inl (nI (l.length + 1), sI σ1 123 2 ((σ1.1 123 2) + 1))) else some (.inr (.inr (.inl σ1)))) else some (.inr (.inr (.inr (1, σ1))))) := by
        unfold LawReader_readLaw_l23
        rw [if_neg (mt (ltR 16 (by omega) (by decide)).mp (by omega)), k1, Option.bind_some, show nI l.length + 1 = nI (l.length + 1) from nI_1 _]
      rw [itr_contI]
      dsimp only
      rw [eb]
      cases r1 with
      | inl e =>
        cases hr
        obtain ⟨F, k3, k4⟩ := k2
        rw [if_pos k3]
        exact ⟨_, 0, σ1, rfl, rfl, hF.tr F, rfl, k4⟩
      | inr w =>
        obtain ⟨q, cl⟩ := w
        dsimp only at hr
        obtain ⟨F, k3, u1, g1, g2, g3, g4, g5, g6, g7⟩ := k2
        obtain ⟨t1, t2, t3, -⟩ := pCls_q hn hc
        have hLs1 := LsC_step hLs g2 g4 g5 g7
        have hlen : (l ++ [cl]).length = l.length + 1 := List.length_append
        rw [k3, if_neg (show ¬ (1 : Int32) = 0 by decide), c_isEnd3 g1 (by omega) (by omega), Option.bind_some]
        by_cases he : n ≤ q
        · rw [if_pos he] at hr
          cases hr
          rw [decide_eq_true he, bI_t, if_neg (show ¬ (1 : Int32) = 0 by decide)]
          exact ⟨_, 1, σ1, rfl, rfl, hF.tr F, rfl, u1, by omega, hLs1, by rw [hlen]; exact g6, by omega⟩
        · rw [if_neg he] at hr
          rw [decide_eq_false he, bI_f, if_pos rfl, c_sign3 hB (TXC_4 hT F) g1 (by omega), Option.bind_some, P_ite hB q (c := 59) (by decide)]
          by_cases h59 : sN tx n q = 59
          · rw [if_pos h59] at hr ⊢
            rw [g1.2.1, show nI q + 1 = nI (q + 1) from nI_1 _]
            obtain ⟨M, rfl⟩ : ∃ M, N = M + 1 := ⟨N - 1, by omega⟩
            have hs := ih (l ++ [cl]) (q + 1) u1 M (sI σ1 123 2 (nI (q + 1))) r hr (TXC_4 hT (F.tr (Fx_sI (Or.inl rfl)))) (at_rd g1) (by omega) (by omega) (by omega) (by omega) (fun m c hm => ?_) (by rw [hlen, sI_obj (by decide)]; exact g6) ((hF.tr F).tr (Fx_sI (Or.inl rfl)))
            · rw [hlen] at hs
              exact hs
            · obtain ⟨a0, a, b, c', d, a1, a2, a3, a4, a5, a6, a7, a8⟩ := hLs1 m c hm
              have e : ∀ b, b ≠ 123 → (sI σ1 123 2 (nI (q + 1))).1 b = σ1.1 b := fun b hb => sI_objF hb
              unfold ClC
              rw [e 118 (by decide), e 119 (by decide), e 120 (by decide), e 121 (by decide)]
              exact ⟨a0, a, b, c', d, a1, a2, a3, a4, a5, a6, a7, a8⟩
          · rw [if_neg h59] at hr ⊢
            cases hr
            refine ⟨_, 0, sI σ1 123 3 (flt 1 q), rfl, ?_, (hF.tr F).tr (Fx_sI (Or.inl rfl)), rfl, sI_same⟩
            show (Reader_fail (nI 1) σ1).bind (fun w => some (w.1, w.2)) = _
            rw [c_fail3 1 g1]
            rfl
theorem pLaw_tot (hn : n ≤ 240) : ∀ (g : Nat) (l : List CLs) (p : Nat), 17 ≤ g + l.length → l.length ≤ 16 → ∃ r, pLaw tx n g l p = some r
  | 0, l, p, h1, h2 => by omega
  | g + 1, l, p, h1, h2 => by
    unfold pLaw
    have tot : ∃ r, pCls tx n l.length p = some r := by
      unfold pCls
      split
      · split
        · rcases Tt_sum (tx := tx) hn 7 0 (by decide) (by decide) (p + 1) with ⟨e, h⟩ | ⟨-, q, v, h, -⟩
          · rw [h]; exact ⟨_, rfl⟩
          · rw [h]
            dsimp only
            split
            · rcases Tt_eith hn (Tt_test (tx := tx) hn 6 1 (by decide) (by decide)) (q + 1) with ⟨e, h⟩ | ⟨-, q2, v2, h, -⟩
              · rw [h]; exact ⟨_, rfl⟩
              · rw [h]
                show ∃ r, ((if sN tx n q2 = 41 then some (.inr (q2 + 1, sN tx n p, v, v2)) else some (.inl (flt 1 q2))) : Option (Int32 ⊕ (Nat × CLs))) = some r
                split <;> exact ⟨_, rfl⟩
            · exact ⟨_, rfl⟩
        · exact ⟨_, rfl⟩
      · exact ⟨_, rfl⟩
    obtain ⟨r, hr⟩ := tot
    rw [hr]
    cases r with
    | inl e => exact ⟨_, rfl⟩
    | inr w =>
      obtain ⟨q, cl⟩ := w
      dsimp only
      have := (pCls_q hn hr).2.2.1
      have hlen : (l ++ [cl]).length = l.length + 1 := List.length_append
      split
      · exact ⟨_, rfl⟩
      · split
        · exact pLaw_tot hn g (l ++ [cl]) (q + 1) (by omega) (by omega)
        · exact ⟨_, rfl⟩
theorem c_readLaw (hB : TXb tx n) {σ : MH} (hT : TXC tx n σ) {r : Int32 ⊕ List CLs} (hr : pLaw tx n 17 [] 0 = some r) : ∃ x σ', LawReader_readLaw (nI n) σ = some (x, σ') ∧ okL n r σ x σ' := by
  have hn := hB.1
  obtain ⟨σA, hσA⟩ : ∃ σA, sI (sI (sI (sI (sI σ 123 1 (nI n)) 123 2 0) 123 3 0) 117 5 0) 117 6 0 = σA := ⟨_, rfl⟩
  have FA : Fx PL4 σ σA := by
    rw [← hσA]
    exact ((((Fx_sI (Or.inl rfl)).tr (Fx_sI (Or.inl rfl))).tr (Fx_sI (Or.inl rfl))).tr (Fx_sI (Or.inr (by decide)))).tr (Fx_sI (Or.inr (by decide)))
  have RA : CRd n 0 0 σA := by
    rw [← hσA]
    refine ⟨?_, ?_, ?_⟩
    · rw [sI_obj (by decide), sI_obj (by decide), sI_fld (by decide), sI_fld (by decide), sI_same]
    · rw [sI_obj (by decide), sI_obj (by decide), sI_fld (by decide), sI_same]; rfl
    · rw [sI_fld (by decide), sI_same]; rfl
  have h6 : σA.1 117 6 = nI 0 := by rw [← hσA, sI_same]; rfl
  obtain ⟨z, x, σ', k1, k2, k3⟩ := c_lawL hB σ 17 [] 0 0 (FU - 1) σA r hr (TXC_4 hT FA) RA (Nat.zero_le _) (Nat.le_refl _) (by decide) (by show n < 999999 + 0; omega) (fun m c hm => by cases hm) h6 FA
  refine ⟨x, σ', ?_, k3⟩
  have hx : x = 0 ∨ x = 1 := by
    obtain ⟨-, k5⟩ := k3
    cases r with
    | inl e => exact Or.inl k5.1
    | inr w => exact Or.inr k5.1
  unfold LawReader_readLaw LawReader_readLaw0
  rw [show Reader_begin (nI n) σ = some (sI (sI (sI σ 123 1 (nI n)) 123 2 0) 123 3 0) from rfl, Option.bind_some, hσA, show LawReader_readLaw_L23 (0, σA) = some z from k1, Option.bind_some]
  rcases z with z | z | z
  · show bzo (lwE (.inl z)) = _
    rw [k2]; exact bzo_01 hx
  · show bzo (lwE (.inr (.inl z))) = _
    rw [k2]; exact bzo_01 hx
  · show bzo (lwE (.inr (.inr z))) = _
    rw [k2]; exact bzo_01 hx
end CLS5
