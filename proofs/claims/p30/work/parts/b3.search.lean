/-! search: proved -/
section SRC
variable {σ : MH} {tb : Nat → Nat} {n c k : Nat}
theorem best_fold {P : Nat → Prop} : ∀ (l : List Nat) (b : Option Nat), (∀ d, d ∈ l → P d) → (∀ d, b = some d → P d) → ∀ d, l.foldl (stepB tb n) b = some d → P d
  | [], b, _, hb, d, h => hb d h
  | c :: l, b, hl, hb, d, h => by
    refine best_fold l (stepB tb n b c) (fun e he => hl e (List.mem_cons_of_mem _ he)) (fun e he => ?_) d h
    cases b with
    | none =>
      cases he
      exact hl _ List.mem_cons_self
    | some f =>
      have he : (if sumN tb n c < sumN tb n f then some c else some f) = some e := he
      split at he
      · cases he; exact hl _ List.mem_cons_self
      · cases he; exact hb _ rfl
theorem best_some : ∀ (l : List Nat) (b : Option Nat), (b ≠ none ∨ l ≠ []) → ∃ d, l.foldl (stepB tb n) b = some d
  | [], b, h => by
    cases b with
    | none => exact absurd rfl (h.resolve_right (fun z => z rfl))
    | some d => exact ⟨d, rfl⟩
  | c :: l, b, _ => by
    refine best_some l (stepB tb n b c) (Or.inl ?_)
    cases b with
    | none => exact fun h => by cases h
    | some f =>
      show (if sumN tb n c < sumN tb n f then some c else some f) ≠ none
      split <;> exact fun h => by cases h
theorem bestO_some (h2 : 2 ≤ n) (h6 : n ≤ 6) : ∃ c, bestO tb n = some c ∧ vC n c = true ∧ c < 2 ^ 31 := by
  obtain ⟨c, hc⟩ := best_some (tb := tb) (n := n) (PLc n) none (Or.inr (fun h => by
    have := okO_all h2 h6
    rw [h] at this
    cases this))
  refine ⟨c, hc, ?_⟩
  have hN := pw_bd h6 h2
  exact best_fold (P := fun d => vC n d = true ∧ d < 2 ^ 31) (PLc n) none (fun d hd => by
    have := List.mem_filter.mp hd
    have h1 := List.mem_range.mp this.1
    exact ⟨this.2, by omega⟩) (fun d hd => by cases hd) c hc
/-- what both answer once the tape is taken -/
def sAns (tb : Nat → Nat) (n c : Nat) (y : Int32) : Int32 := if y = 20 then nI (sumN tb n c) / nI (Nat.gcd (sumN tb n c) (sumW tb n)) else if y = 21 then nI (sumW tb n) / nI (Nat.gcd (sumN tb n c) (sumW tb n)) else nI (rC n c y.toNatClampNeg)
theorem gcd_pos' (h : 0 < sumW tb n) (x : Nat) : 0 < Nat.gcd x (sumW tb n) := Nat.gcd_pos_of_pos_right _ h
theorem c_b88 (h2 : 2 ≤ n) (h6 : n ≤ 6) (hO : okT tb n = true) (hb : bestO tb n = some c) (hC : ClsT tb n σ) {y v4 : Int32} (hy : ((y = 20 ∨ y = 21) ∧ v4 = 0) ∨ (∃ k, k < n ∧ y = nI k ∧ v4 = 1)) : ∃ σ', Pz_search_b88 y v4 σ = some (sAns tb n c y, σ') ∧ Fx PF σ σ' := by
  obtain ⟨σ', e1, f1, hB, hC'⟩ := c_find h2 h6 hO hC
  rw [hb] at hB
  obtain ⟨b1, b2, b3⟩ := hB
  have hO' := okT_iff.mp hO
  have hw := sumW_le (n := n) (fun t ht => (hO'.1 t ht).1)
  have hg := gcd_pos' hO'.2 (sumN tb n c)
  have hgl : Nat.gcd (sumN tb n c) (sumW tb n) ≤ sumW tb n := Nat.gcd_le_right _ hO'.2
  have hcd : Search_commonDivisor σ' = some (nI (Nat.gcd (sumN tb n c) (sumW tb n))) := by
    unfold Search_commonDivisor Search_commonDivisor0
    rw [b1, hC'.2.1, show Search_commonDivisor_L12 σ' (nI (sumN tb n c), nI (sumW tb n), 0) = some (nI (Nat.gcd (sumN tb n c) (sumW tb n))) from gcd_c 10 _ _ 0 FU (by omega) (by omega) (by omega) (by decide) (by decide)]
    rfl
  refine ⟨σ', ?_, f1⟩
  unfold Pz_search_b88 sAns
  rw [e1, Option.bind_some]
  rcases hy with ⟨hy, rfl⟩ | ⟨k, hk, rfl, rfl⟩
  · rw [if_pos rfl]
    unfold Search_above Search_above0 Search_below Search_below0
    rw [hcd, Option.bind_some, Option.bind_some, if_neg (mt (leL 0 (by omega) (by decide)).mp (by omega)), if_neg (mt (leL 0 (by omega) (by decide)).mp (by omega)), if_pos (bne0 hg (by omega)), if_pos (bne0 hg (by omega)), b1, hC'.2.1]
    rcases hy with rfl | rfl
    · rw [if_pos rfl, if_pos rfl]; rfl
    · rw [if_neg (by decide), if_neg (by decide), if_pos rfl]; rfl
  · obtain ⟨f1, f2, f3, f4⟩ := ix3 6 (show k < 6 by omega)
    rw [if_neg (show ¬ (1 : Int32) = 0 by decide), if_pos f2, f3, b3 k (by omega), if_neg (mt (eqL 20 (by omega) (by decide)).mp (by omega)), if_neg (mt (eqL 21 (by omega) (by decide)).mp (by omega))]
theorem m_b65 (hT : TBb tb σ) (h2 : 2 ≤ n) (h6 : n ≤ 6) (hO : okT tb n = true) (hb : bestO tb n = some c) (hv : vC n c = true) {y : Int32} (hy : (y = 20 ∨ y = 21) ∨ (∃ k, k < n ∧ y = nI k)) : ∃ σ', Md_search_b65 (nI n) y σ = some (sAns tb n c y, σ') ∧ Fx PRw σ σ' := by
  obtain ⟨r, k1, k2, k3⟩ := m_L96 hT h2 h6 hO y
  obtain ⟨r1, r2, r3⟩ := r
  rw [hb] at k2
  obtain ⟨e1, e2, e3, e4, -⟩ := k2
  dsimp only at e1 e2 k3
  subst e1; subst e2
  obtain ⟨σ', g1, g2, g3⟩ := m_readsRow (σ := r3) (c := c) h2 h6 e4
  have hf := k3.tr g2
  have hT' := TBb_of hT hf
  have hO' := okT_iff.mp hO
  have hw := sumW_le (n := n) (fun t ht => (hO'.1 t ht).1)
  have hg := gcd_pos' hO'.2 (sumN tb n c)
  have hgl : Nat.gcd (sumN tb n c) (sumW tb n) ≤ sumW tb n := Nat.gcd_le_right _ hO'.2
  refine ⟨σ', ?_, hf⟩
  unfold Md_search_b65 sAns
  rw [m_codes h2 h6, Option.bind_some, k1, Option.bind_some]
  dsimp only
  rw [g1, Option.bind_some]
  dsimp only
  have hgcd : Md_gcd (nI (sumN tb n c)) (nI (sumW tb n)) σ' = some (nI (Nat.gcd (sumN tb n c) (sumW tb n))) := by
    unfold Md_gcd Md_gcd0
    rw [show Md_gcd_L4 σ' (nI (sumN tb n c), nI (sumW tb n)) = some (nI (Nat.gcd (sumN tb n c) (sumW tb n))) from gcd_m _ _ FU (by omega) (by omega) (by show _ < 1000000; omega)]
    rfl
  rcases hy with hy | ⟨k, hk, rfl⟩
  · rw [if_pos (show (20 : Int32) ≤ y by rcases hy with rfl | rfl <;> decide), m_L169 hT' h6 (fun t ht => (hO'.1 t ht).1), Option.bind_some, hgcd, Option.bind_some, if_pos (bne0 hg (by omega)), if_pos (bne0 hg (by omega))]
    rcases hy with rfl | rfl
    · rw [if_pos rfl, if_pos rfl]
    · rw [if_neg (by decide), if_neg (by decide), if_pos rfl]
  · obtain ⟨f1, f2, f3, f4⟩ := ix3 6 (show k < 6 by omega)
    rw [if_neg (mt (leR 20 (by omega) (by decide)).mp (by omega)), if_pos f2, f3, g3 hv k hk, if_neg (mt (eqL 20 (by omega) (by decide)).mp (by omega)), if_neg (mt (eqL 21 (by omega) (by decide)).mp (by omega))]
theorem st_search (hI : Inv σ) (x y : Int32) : ∃ (r r' : Int32) (σ1 : MH) (σ2 : MH), Pz_search x y σ = some (r, σ1) ∧ Md_search x y σ1 = some (r', σ2) ∧ r = r' ∧ Inv σ2 := by
  have no : Pz_search x y σ = some (-1, σ) → Md_search x y σ = some (-1, σ) → ∃ (r r' : Int32) (σ1 : MH) (σ2 : MH), Pz_search x y σ = some (r, σ1) ∧ Md_search x y σ1 = some (r', σ2) ∧ r = r' ∧ Inv σ2 := fun h1 h2 => ⟨-1, -1, σ, σ, h1, h2, rfl, hI⟩
  obtain ⟨t1, ⟨L, hL, t2⟩, -⟩ := hI.2.2.2.1
  have t4 : σ.1 166 4 = nI L := t1.symm.trans t2
  have hin : ∀ τ : MH, Md_in x 2 6 τ = some (bI (decide (2 ≤ x) && decide (x ≤ 6))) := fun τ => m_in x 2 6 τ
  by_cases q2 : x < 2
  · refine no ?_ ?_
    · unfold Pz_search Pz_search0
      rw [if_pos q2]
    · unfold Md_search Md_search0
      rw [hin, Option.bind_some, decide_eq_false (ne_of_lt32 q2), Bool.false_and, bI_f, if_pos rfl]
  · by_cases q6 : 6 < x
    · refine no ?_ ?_
      · unfold Pz_search Pz_search0
        rw [if_neg q2, if_pos q6]
      · unfold Md_search Md_search0
        rw [hin, Option.bind_some, decide_eq_false (ne_of_lt32 q6), Bool.and_false, bI_f, if_pos rfl]
    · obtain ⟨n, h2, h6, rfl⟩ : ∃ n, 2 ≤ n ∧ n ≤ 6 ∧ x = nI n := by
        rcases limN x 6 with ⟨w, hw, rfl⟩ | h
        · refine ⟨w, ?_, hw, rfl⟩
          have := mt (ltL 2 (show w < 2 ^ 31 by omega) (by decide)).mpr q2
          omega
        · exfalso
          rcases h with h | h
          · refine q2 ?_
            rw [ti_lt] at h ⊢
            have e0 : (0 : Int32).toInt = 0 := rfl
            have e2 : (2 : Int32).toInt = 2 := rfl
            omega
          · exact q6 h
      have hin2 : ∀ τ : MH, Md_in (nI n) 2 6 τ = some 1 := fun τ => by
        rw [m_in, decide_eq_true (Int32.not_lt.mp q2), decide_eq_true (Int32.not_lt.mp q6)]
        rfl
      have hm : n * n ≤ 6 * 6 := Nat.mul_le_mul h6 h6
      have enn : nI n + nI n * nI n = nI (n + n * n) := by rw [pk_mul, nI_add]
      by_cases hl : n + n * n ≤ L
      · have hTc : TBc (b8 σ) σ := fun j hj => ⟨(b8_ok hI hj).1, (b8_ok hI hj).2.1⟩
        obtain ⟨σ1, c1, p1, C1⟩ := c_accept hTc h2 h6
        -- the class's state once the tape is empty
        have P1 : Fx (fun b k => (116 ≤ b ∧ b ≤ 165) ∨ (b = 109 ∧ k = 1)) σ (sI σ1 109 1 0) := (p1.mo (fun b k q => by unfold PA at q; omega)).tr (Fx_sI (Or.inr ⟨rfl, rfl⟩))
        have C2 : ClsT (b8 σ) n (sI σ1 109 1 0) := ⟨by rw [sI_obj (by decide)]; exact C1.1, by rw [sI_obj (by decide)]; exact C1.2.1, fun t ht => by rw [sI_obj (by decide)]; exact C1.2.2.1 t ht, fun t u ht hu => by rw [sI_obj (by omega)]; exact C1.2.2.2 t u ht hu⟩
        have e109 : (sI σ1 109 1 0).1 109 1 = 0 := sI_same
        have cl : Pz_search (nI n) y σ = if bI (okT (b8 σ) n) = 0 then some (-2, sI σ1 109 1 0) else if y < 0 then Pz_search_b65 y (sI σ1 109 1 0) else if nI n ≤ y then Pz_search_b65 y (sI σ1 109 1 0) else Pz_search_b66 y 1 (sI σ1 109 1 0) := by
          unfold Pz_search Pz_search0
          rw [if_neg q2, if_neg q6, enn, t2, if_pos ((nI_leI (by omega) (by omega)).mpr hl), c1, Option.bind_some]
        generalize sI σ1 109 1 0 = σ2 at P1 C2 e109 cl
        have md : ∀ τ : MH, τ.1 166 4 = nI L → TBb (b8 σ) τ → Md_search (nI n) y τ = if bI (okT (b8 σ) n) = 0 then some (-2, sI τ 166 4 0) else if bI (decide (20 ≤ y) && decide (y ≤ 21)) = 0 then (if bI (decide (0 ≤ y) && decide (y ≤ nI (n - 1))) = 0 then some (-3, sI τ 166 4 0) else Md_search_b65 (nI n) y (sI τ 166 4 0)) else Md_search_b65 (nI n) y (sI τ 166 4 0) := fun τ h4 hT => by
          have hT' : TBb (b8 σ) (sI τ 166 4 0) := fun j hj => ⟨(hT j hj).1, by rw [sI_obj (by decide)]; exact (hT j hj).2⟩
          unfold Md_search Md_search0
          rw [hin2, Option.bind_some, if_neg (show ¬ (1 : Int32) = 0 by decide), enn, h4, if_pos ((nI_leI (by omega) (by omega)).mpr hl), m_bounds hT' h2 h6, Option.bind_some, m_in y 20 21, Option.bind_some, show nI n - 1 = nI (n - 1) from subL 1 (by omega), m_in y 0 (nI (n - 1)), Option.bind_some]
        have tm : ∀ τ : MH, (∀ j, τ.1 170 j = σ.1 170 j) → TBb (b8 σ) τ := fun τ h j hj => ⟨(b8_ok hI hj).1, (h j).trans (b8_ok hI hj).2.2⟩
        have fin : ∀ (r : Int32) (σa σb : MH), Fx (fun b k => PX b k ∨ (b = 109 ∧ k = 1)) σ σa → σa.1 109 1 = 0 → Fx (fun b k => PX b k ∨ (b = 166 ∧ k = 4)) σa σb → σb.1 166 4 = 0 → Pz_search (nI n) y σ = some (r, σa) → Md_search (nI n) y σa = some (r, σb) → ∃ (r r' : Int32) (σ1 : MH) (σ2 : MH), Pz_search (nI n) y σ = some (r, σ1) ∧ Md_search (nI n) y σ1 = some (r', σ2) ∧ r = r' ∧ Inv σ2 := fun r σa σb fa za fb zb ha hb => by
          refine ⟨r, r, σa, σb, ha, hb, rfl, Inv_tp hI ((fa.mo (fun b k q => q.elim (fun q => Or.inl q) (fun q => Or.inr (Or.inl q)))).tr (fb.mo (fun b k q => q.elim (fun q => Or.inl q) (fun q => Or.inr (Or.inr q))))) ?_ zb⟩
          rw [fb 109 1 (by unfold PX PC PQ; omega)]; exact za
        have P1x : Fx (fun b k => PX b k ∨ (b = 109 ∧ k = 1)) σ σ2 := P1.mo (fun b k q => by unfold PX PC PQ; omega)
        have e4 : ∀ τ : MH, Fx PF σ2 τ → τ.1 166 4 = nI L := fun τ h => ((h 166 4 (by unfold PF; omega)).trans (P1 166 4 (by omega))).trans t4
        have e170 : ∀ τ : MH, Fx PF σ2 τ → TBb (b8 σ) τ := fun τ h => tm τ (fun j => (h 170 j (by unfold PF; omega)).trans (P1 170 j (by omega)))
        cases hO : okT (b8 σ) n with
        | false =>
          rw [hO, bI_f, if_pos rfl] at cl
          have m := md σ2 (e4 σ2 Fx.rf) (e170 σ2 Fx.rf)
          rw [hO, bI_f, if_pos rfl] at m
          exact fin _ _ _ P1x e109 (Fx_sI (Or.inr ⟨rfl, rfl⟩)) sI_same cl m
        | true =>
          rw [hO, bI_t, if_neg (show ¬ (1 : Int32) = 0 by decide)] at cl
          obtain ⟨c, hb, hv, hc⟩ := bestO_some (tb := b8 σ) h2 h6
          have m := fun τ h4 hT => md τ h4 hT
          rw [hO, bI_t] at m
          have m := fun τ h4 hT => (m τ h4 hT).trans (if_neg (show ¬ (1 : Int32) = 0 by decide))
          -- the answer is asked for
          have go : ∀ v4 : Int32, (((y = 20 ∨ y = 21) ∧ v4 = 0) ∨ (∃ k, k < n ∧ y = nI k ∧ v4 = 1)) → Pz_search (nI n) y σ = Pz_search_b88 y v4 σ2 → (∀ τ : MH, τ.1 166 4 = nI L → TBb (b8 σ) τ → Md_search (nI n) y τ = Md_search_b65 (nI n) y (sI τ 166 4 0)) → ∃ (r r' : Int32) (σ1 : MH) (σ2 : MH), Pz_search (nI n) y σ = some (r, σ1) ∧ Md_search (nI n) y σ1 = some (r', σ2) ∧ r = r' ∧ Inv σ2 := fun v4 hy hc hm => by
            obtain ⟨σ3, k1, k2⟩ := c_b88 h2 h6 hO hb C2 hy
            have hT3 := e170 σ3 k2
            obtain ⟨σ4, g1, g2⟩ := m_b65 (σ := sI σ3 166 4 0) (fun j hj => ⟨(hT3 j hj).1, by rw [sI_obj (by decide)]; exact (hT3 j hj).2⟩) h2 h6 hO hb hv (y := y) (hy.imp (fun h => h.1) (fun ⟨k, a, b, _⟩ => ⟨k, a, b⟩))
            refine fin _ σ3 σ4 (P1x.tr (k2.mo (fun b k q => by unfold PF at q; unfold PX PC PQ; omega))) ?_ ((Fx_sI (Or.inr ⟨rfl, rfl⟩)).tr (g2.mo (fun b k q => by unfold PRw at q; unfold PX PC PQ; omega))) ?_ (hc.trans k1) ((hm σ3 (e4 σ3 k2) hT3).trans g1)
            · rw [k2 109 1 (by unfold PF; omega)]; exact e109
            · rw [g2 166 4 (by unfold PRw; decide)]; exact sI_same
          by_cases y20 : y = 20 ∨ y = 21
          · refine go 0 (Or.inl ⟨y20, rfl⟩) (cl.trans ?_) (fun τ h4 hT => (m τ h4 hT).trans ?_)
            · have h1 : ¬ y < 0 := by rcases y20 with rfl | rfl <;> decide
              have h3 : nI n ≤ y := by
                rcases y20 with rfl | rfl
                · exact (leL 20 (by omega) (by decide)).mpr (by omega)
                · exact (leL 21 (by omega) (by decide)).mpr (by omega)
              rw [if_neg h1, if_pos h3]
              unfold Pz_search_b65 Pz_search_b66
              rcases y20 with rfl | rfl
              · rw [if_pos rfl]
              · rw [if_neg (by decide), if_pos rfl]
            · have : (decide ((20 : Int32) ≤ y) && decide (y ≤ 21)) = true := by rcases y20 with rfl | rfl <;> decide
              rw [this, bI_t, if_neg (show ¬ (1 : Int32) = 0 by decide)]
          · have n20 : (decide ((20 : Int32) ≤ y) && decide (y ≤ 21)) = false := by
              rw [Bool.and_eq_false_iff, decide_eq_false_iff_not, decide_eq_false_iff_not, ti_le, ti_le]
              have a := mt Or.inl y20
              have b := mt Or.inr y20
              rw [ti_eq] at a b
              have e20 : (20 : Int32).toInt = 20 := rfl
              have e21 : (21 : Int32).toInt = 21 := rfl
              omega
            have y0 : ¬ y = 20 := fun z => y20 (Or.inl z)
            have y1 : ¬ y = 21 := fun z => y20 (Or.inr z)
            have m2 := fun τ h4 hT => m τ h4 hT
            rw [n20, bI_f] at m2
            have m2 := fun τ h4 hT => (m2 τ h4 hT).trans (if_pos rfl)
            have bad : Pz_search (nI n) y σ = Pz_search_b65 y σ2 → (decide ((0 : Int32) ≤ y) && decide (y ≤ nI (n - 1))) = false → ∃ (r r' : Int32) (σ1 : MH) (σ2 : MH), Pz_search (nI n) y σ = some (r, σ1) ∧ Md_search (nI n) y σ1 = some (r', σ2) ∧ r = r' ∧ Inv σ2 := fun hc hd => by
              have hc2 : Pz_search (nI n) y σ = some (-3, σ2) := by
                rw [hc]
                unfold Pz_search_b65 Pz_search_b66
                rw [if_neg y0, if_neg y1, if_pos rfl]
              have hm2 := m2 σ2 (e4 σ2 Fx.rf) (e170 σ2 Fx.rf)
              rw [hd, bI_f, if_pos rfl] at hm2
              exact fin _ _ _ P1x e109 (Fx_sI (Or.inr ⟨rfl, rfl⟩)) sI_same hc2 hm2
            by_cases z0 : y < 0
            · rw [if_pos z0] at cl
              refine bad cl ?_
              rw [decide_eq_false (ne_of_lt32 z0), Bool.false_and]
            · rw [if_neg z0] at cl
              by_cases zn : nI n ≤ y
              · rw [if_pos zn] at cl
                refine bad cl ?_
                have : ¬ y ≤ nI (n - 1) := by
                  rw [ti_le]
                  rw [ti_le, nI_toInt (by omega)] at zn
                  rw [nI_toInt (by omega)]
                  omega
                rw [decide_eq_false this, Bool.and_false]
              · rw [if_neg zn] at cl
                obtain ⟨k, hk, rfl⟩ : ∃ k, k < n ∧ y = nI k := by
                  obtain ⟨j, hj, rfl⟩ := nI_of z0
                  refine ⟨j, ?_, rfl⟩
                  have := mt (nI_leI (by omega) hj).mpr zn
                  omega
                refine go 1 (Or.inr ⟨k, hk, rfl, rfl⟩) (cl.trans ?_) (fun τ h4 hT => (m2 τ h4 hT).trans ?_)
                · unfold Pz_search_b66
                  rw [if_neg y0, if_neg y1, if_neg (show ¬ (1 : Int32) = 0 by decide)]
                · rw [decide_eq_true (Int32.not_lt.mp z0), decide_eq_true ((nI_leI (by omega) (by omega)).mpr (show k ≤ n - 1 by omega)), Bool.and_self, bI_t, if_neg (show ¬ (1 : Int32) = 0 by decide)]
      · refine no ?_ ?_
        · unfold Pz_search Pz_search0
          rw [if_neg q2, if_neg q6, enn, t2, if_neg (mt (nI_leI (by omega) (by omega)).mp hl)]
        · unfold Md_search Md_search0
          rw [hin2, Option.bind_some, if_neg (show ¬ (1 : Int32) = 0 by decide), enn, t4, if_neg (mt (nI_leI (by omega) (by omega)).mp hl)]
end SRC
