/-! law: proved -/
section LAWP
variable {σ : MH}
/-- what a law of clauses says -/
def LfV : List CLs → LawF
  | [], _, _, _ => 0
  | c :: l, a, b, f => if nI c.1 = a ∧ c.2.2 f = some 1 then jmax 0 (jmin b (valO (c.2.1 f))) else LfV l a b f
theorem clamp_ok {b x : Int32} (hb : 0 ≤ b) : 0 ≤ jmax 0 (jmin b x) ∧ jmax 0 (jmin b x) ≤ b := by
  have key : ∀ z, z ≤ b → 0 ≤ jmax 0 z ∧ jmax 0 z ≤ b := fun z hz => by
    unfold jmax
    by_cases h : 0 < z
    · rw [if_pos h]
      exact ⟨by rw [ti_le]; rw [ti_lt] at h; omega, hz⟩
    · rw [if_neg h]
      exact ⟨Int32.le_refl _, hb⟩
  refine key _ ?_
  unfold jmin
  by_cases h : x < b
  · rw [if_pos h, ti_le]
    rw [ti_lt] at h
    omega
  · rw [if_neg h]
    exact Int32.le_refl _
theorem LfV_ok : ∀ (l : List CLs), (∀ c, c ∈ l → VE c.2.1 ∧ VC c.2.2) → LawOK (LfV l)
  | [], _ => ⟨fun _ _ _ _ _ => rfl, fun a b f hb => ⟨Int32.le_refl _, hb⟩⟩
  | c :: l, h => by
    obtain ⟨h1, h2⟩ := LfV_ok l (fun d hd => h d (List.mem_cons_of_mem _ hd))
    obtain ⟨v1, v2, v3⟩ := h c List.mem_cons_self
    refine ⟨fun a b f g e => ?_, fun a b f hb => ?_⟩
    · unfold LfV
      rw [v1 f g e, v2 f g e, h1 a b f g e]
    · unfold LfV
      split
      · exact clamp_ok hb
      · exact h2 a b f hb
/-! in the class -/
def ClR (m : Nat) (cl : CLs) (σ : MH) : Prop := σ.1 113 m = nI cl.1 ∧ ∃ a b c d, σ.1 114 m = nI a ∧ CB (σ.1 112) a b 1 cl.2.1 ∧ σ.1 112 b = 0 ∧ σ.1 115 m = nI c ∧ CB (σ.1 112) c d 0 cl.2.2 ∧ σ.1 112 d = 0 ∧ b < 511 ∧ d < 511
def rulE (v2 : Int32) (z12 : (Int32 × MH) ⊕ (Int32 × MH)) : Option (Int32 × MH) := (match z12 with | .inl z12a => if inb z12a.1 16 = true then (Law_run (z12a.2.1 114 z12a.1.toNatClampNeg) 127 z12a.2).bind fun (x15, σ16) => some (jmax 0 (jmin v2 x15), σ16) else none | .inr z12b => some (z12b.1, z12b.2))
theorem c_ruleL (a b : Int32) : ∀ (suf pre : List CLs) (N : Nat) (σ : MH), (pre ++ suf).length ≤ 16 → σ.1 111 6 = nI (pre ++ suf).length → (∀ m cl, (pre ++ suf)[m]? = some cl → ClR m cl σ) → (∀ c, c ∈ suf → VC c.2.2) → suf.length < N → ∃ z σ', itr (fun s : Int32 × MH => Judge_rule_l14 a b s.1 s.2) N (nI pre.length, σ) = some z ∧ rulE b z = some (LfV suf a b (σ.1 127), σ') ∧ Fx P116 σ σ' := by
  intro suf
  induction suf with
  | nil =>
    intro pre N σ hl h6 hc hv hN
    obtain ⟨N, rfl⟩ : ∃ K, N = K + 1 := ⟨N - 1, by
      have : ([] : List CLs).length = 0 := rfl
      omega⟩
    rw [List.append_nil] at h6 hl
    refine ⟨.inr (0, σ), σ, itr_end ?_, rfl, Fx.rf⟩
    show Judge_rule_l14 a b (nI pre.length) σ = _
    unfold Judge_rule_l14
    rw [h6, if_pos (Int32.le_refl _)]
  | cons c suf ih =>
    intro pre N σ hl h6 hc hv hN
    obtain ⟨N, rfl⟩ : ∃ K, N = K + 1 := ⟨N - 1, by
      have : (c :: suf).length = suf.length + 1 := rfl
      omega⟩
    have elen : (pre ++ c :: suf).length = pre.length + (suf.length + 1) := List.length_append
    obtain ⟨a0, xa, xb, xc, xd, a1, a2, a3, a4, a5, a6, a7, a8⟩ := hc pre.length c (by rw [List.getElem?_append_right (Nat.le_refl _), Nat.sub_self]; rfl)
    obtain ⟨f1, f2, f3, f4⟩ := ix3 16 (show pre.length < 16 by omega)
    have e14 : Judge_rule_l14 a b (nI pre.length) σ = if nI c.1 = a then ((Law_run (nI xc) 127 σ).bind fun z => if z.1 = 0 then (Judge_rule_b101 a b (nI pre.length) z.2) else some (.inr (.inl (nI pre.length, z.2)))) else (Judge_rule_b101 a b (nI pre.length) σ) := by
      unfold Judge_rule_l14
      rw [h6, if_neg (by rw [nI_leI (by omega) (by omega)]; omega), if_neg f1, if_pos f2, f3, a0, a4]
    have go : ∀ τ : MH, Fx P116 σ τ → (¬ (nI c.1 = a ∧ c.2.2 (σ.1 127) = some 1)) → ∃ z σ', contI (fun s : Int32 × MH => Judge_rule_l14 a b s.1 s.2) N (Judge_rule_b101 a b (nI pre.length) τ) = some z ∧ rulE b z = some (LfV (c :: suf) a b (σ.1 127), σ') ∧ Fx P116 σ σ' := fun τ hf hno => by
      have ea : (pre ++ [c]) ++ suf = pre ++ c :: suf := by rw [List.append_assoc]; rfl
      have el : (pre ++ [c]).length = pre.length + 1 := List.length_append
      have hfe : ∀ b k, b ≠ 116 → τ.1 b k = σ.1 b k := fun b k hb => hf b k hb
      obtain ⟨z, σ', k1, k2, k3⟩ := ih (pre ++ [c]) N τ (by rw [ea]; exact hl) (by rw [ea, hfe 111 6 (by decide)]; exact h6) (fun m cl hm => by
        rw [ea] at hm
        obtain ⟨b0, ya, yb, yc, yd, b1, b2, b3, b4, b5, b6, b7, b8⟩ := hc m cl hm
        exact ⟨(hfe _ _ (by decide)).trans b0, ya, yb, yc, yd, (hfe _ _ (by decide)).trans b1, CB_ext b2 (fun k _ _ => hfe _ _ (by decide)), (hfe _ _ (by decide)).trans b3, (hfe _ _ (by decide)).trans b4, CB_ext b5 (fun k _ _ => hfe _ _ (by decide)), (hfe _ _ (by decide)).trans b6, b7, b8⟩) (fun d hd => hv d (List.mem_cons_of_mem _ hd)) (by have : (c :: suf).length = suf.length + 1 := rfl; omega)
      refine ⟨z, σ', ?_, ?_, hf.tr k3⟩
      · rw [el] at k1
        rw [← k1]
        show itr _ N (nI pre.length + 1, τ) = _
        rw [show nI pre.length + 1 = nI (pre.length + 1) from nI_1 _]
      · rw [k2, let_P hf]
        show some (LfV suf a b (σ.1 127), σ') = some (if nI c.1 = a ∧ c.2.2 (σ.1 127) = some 1 then _ else LfV suf a b (σ.1 127), σ')
        rw [if_neg hno]
    rw [itr_contI]
    dsimp only
    rw [e14]
    by_cases q : nI c.1 = a
    · rw [if_pos q]
      obtain ⟨σ1, r1, r2⟩ := c_run (σ := σ) a5 (fun k _ _ => rfl) a6 (by omega)
      rw [r1, Option.bind_some]
      dsimp only
      cases hcv : c.2.2 (σ.1 127) with
      | none =>
        rw [if_pos (show valO none = 0 from rfl)]
        exact go σ1 r2 (fun z => by rw [hcv] at z; cases z.2)
      | some y =>
        rcases (hv c List.mem_cons_self).2 _ _ hcv with rfl | rfl
        · rw [if_pos (show valO (some 0) = 0 from rfl)]
          exact go σ1 r2 (fun z => by rw [hcv] at z; exact absurd (Option.some.inj z.2) (by decide))
        · rw [if_neg (show ¬ valO (some 1) = 0 by decide)]
          obtain ⟨σ2, r3, r4⟩ := c_run (σ := σ1) (CB_ext a2 (cd' := σ1.1 112) (fun k _ _ => code_P r2 k)) (fun k _ _ => rfl) ((code_P r2 xb).trans a3) (by omega)
          refine ⟨_, σ2, rfl, ?_, r2.tr r4⟩
          unfold rulE
          dsimp only
          rw [if_pos f2, f3, r2 114 pre.length (by unfold P116; decide), a1, r3, Option.bind_some, let_P r2]
          show _ = some (if nI c.1 = a ∧ c.2.2 (σ.1 127) = some 1 then _ else _, σ2)
          rw [if_pos ⟨q, hcv⟩]
    · rw [if_neg q]
      exact go σ Fx.rf (fun z => q z.1)
theorem LawC_LfV {l : List CLs} (hl : l.length ≤ 16) (h6 : σ.1 111 6 = nI l.length) (hc : ∀ m cl, l[m]? = some cl → ClR m cl σ) (hv : ∀ c, c ∈ l → VC c.2.2) : LawC (LfV l) σ := fun τ h a b hb => by
  obtain ⟨z, σ', k1, k2, k3⟩ := c_ruleL a b l [] FU τ hl ((h 111 6 (by decide) (by decide)).trans h6) (fun m cl hm => by
    obtain ⟨b0, ya, yb, yc, yd, b1, b2, b3, b4, b5, b6, b7, b8⟩ := hc m cl hm
    exact ⟨(h _ _ (by decide) (by decide)).trans b0, ya, yb, yc, yd, (h _ _ (by decide) (by decide)).trans b1, CB_ext b2 (fun k _ _ => h _ _ (by decide) (by decide)), (h _ _ (by decide) (by decide)).trans b3, (h _ _ (by decide) (by decide)).trans b4, CB_ext b5 (fun k _ _ => h _ _ (by decide) (by decide)), (h _ _ (by decide) (by decide)).trans b6, b7, b8⟩) hv (by show l.length < 1000000; omega)
  refine ⟨σ', ?_, k3⟩
  unfold ruleC
  rw [show Judge_rule_L14 a b (0, τ) = some z from k1, Option.bind_some]
  exact k2
/-! in the reference -/
def ClS (m : Nat) (cl : CLs) (σ : MH) : Prop := σ.1 178 m = nI cl.1 ∧ ∃ a b c, σ.1 179 m = nI a ∧ σ.1 180 m = nI b ∧ σ.1 181 m = nI c ∧ MB (σ.1 177) a b 1 cl.2.1 ∧ MB (σ.1 177) b c 0 cl.2.2 ∧ c < 260
def bylE (v2 : Int32) (z8 : (Int32 × MH) ⊕ (Int32 × MH)) : Option (Int32 × MH) := (match z8 with | .inl z8a => if inb z8a.1 16 = true then (Md_comesTo (z8a.2.1 179 z8a.1.toNatClampNeg) (z8a.2.1 180 z8a.1.toNatClampNeg) z8a.2).bind fun (x11, σ12) => if (0 : Int32) ≤ x11 then (if x11 ≤ v2 then some (x11, σ12) else some (v2, σ12)) else some ((0 : Int32), σ12) else none | .inr z8b => some (z8b.1, z8b.2))
theorem clamp_m {b x : Int32} (hb : 0 ≤ b) (τ : MH) : (if (0 : Int32) ≤ x then (if x ≤ b then some (x, τ) else some (b, τ)) else some ((0 : Int32), τ)) = some (jmax 0 (jmin b x), τ) := by
  unfold jmax jmin
  have e0 : (0 : Int32).toInt = 0 := rfl
  by_cases h1 : 0 ≤ x
  · rw [if_pos h1]
    by_cases h2 : x ≤ b
    · rw [if_pos h2]
      have : (if x < b then x else b) = x := by
        by_cases h3 : x < b
        · rw [if_pos h3]
        · rw [if_neg h3]
          exact Int32.le_antisymm (Int32.not_lt.mp h3) h2
      rw [this]
      by_cases h4 : 0 < x
      · rw [if_pos h4]
      · rw [if_neg h4, Int32.le_antisymm (Int32.not_lt.mp h4) h1]
    · have e : (if x < b then x else b) = b := if_neg (fun z => h2 (by rw [ti_le]; rw [ti_lt] at z; omega))
      rw [if_neg h2, e]
      by_cases h4 : 0 < b
      · rw [if_pos h4]
      · rw [if_neg h4, Int32.le_antisymm (Int32.not_lt.mp h4) hb]
  · rw [if_neg h1]
    have h3 : x < b := by
      rw [ti_le] at h1 hb
      rw [ti_lt]
      omega
    rw [if_pos h3, if_neg (fun z => h1 (by rw [ti_le]; rw [ti_lt] at z; omega))]
theorem m_byL (a b : Int32) (hb : 0 ≤ b) : ∀ (suf pre : List CLs) (N : Nat) (σ : MH), (pre ++ suf).length ≤ 16 → σ.1 166 13 = nI (pre ++ suf).length → (∀ m cl, (pre ++ suf)[m]? = some cl → ClS m cl σ) → (∀ c, c ∈ suf → VC c.2.2) → suf.length < N → ∃ z σ', itr (fun s : Int32 × MH => Md_byLaw_l2 a b s.1 s.2) N (nI pre.length, σ) = some z ∧ bylE b z = some (LfV suf a b (σ.1 183), σ') ∧ Fx P182 σ σ' := by
  intro suf
  induction suf with
  | nil =>
    intro pre N σ hl h6 hc hv hN
    obtain ⟨N, rfl⟩ : ∃ K, N = K + 1 := ⟨N - 1, by
      have : ([] : List CLs).length = 0 := rfl
      omega⟩
    rw [List.append_nil] at h6 hl
    refine ⟨.inr (0, σ), σ, itr_end ?_, rfl, Fx.rf⟩
    show Md_byLaw_l2 a b (nI pre.length) σ = _
    unfold Md_byLaw_l2
    rw [h6, if_pos (Int32.le_refl _)]
  | cons c suf ih =>
    intro pre N σ hl h6 hc hv hN
    obtain ⟨N, rfl⟩ : ∃ K, N = K + 1 := ⟨N - 1, by
      have : (c :: suf).length = suf.length + 1 := rfl
      omega⟩
    have elen : (pre ++ c :: suf).length = pre.length + (suf.length + 1) := List.length_append
    obtain ⟨a0, xa, xb, xc, a1, a2, a3, a4, a5, a6⟩ := hc pre.length c (by rw [List.getElem?_append_right (Nat.le_refl _), Nat.sub_self]; rfl)
    have l4 := a4.1
    have l5 := a5.1
    obtain ⟨f1, f2, f3, f4⟩ := ix3 16 (show pre.length < 16 by omega)
    have e14 : Md_byLaw_l2 a b (nI pre.length) σ = if nI c.1 = a then ((Md_comesTo (nI xb) (nI xc) σ).bind fun z => if z.1 = 1 then some (.inr (.inl (nI pre.length, z.2))) else (Md_byLaw_b83 a b (nI pre.length) z.2)) else (Md_byLaw_b83 a b (nI pre.length) σ) := by
      unfold Md_byLaw_l2
      rw [h6, if_neg (by rw [nI_leI (by omega) (by omega)]; omega), if_pos f2, f3, a0, a2, a3]
    have go : ∀ τ : MH, Fx P182 σ τ → (¬ (nI c.1 = a ∧ c.2.2 (σ.1 183) = some 1)) → ∃ z σ', contI (fun s : Int32 × MH => Md_byLaw_l2 a b s.1 s.2) N (Md_byLaw_b83 a b (nI pre.length) τ) = some z ∧ bylE b z = some (LfV (c :: suf) a b (σ.1 183), σ') ∧ Fx P182 σ σ' := fun τ hf hno => by
      have ea : (pre ++ [c]) ++ suf = pre ++ c :: suf := by rw [List.append_assoc]; rfl
      have el : (pre ++ [c]).length = pre.length + 1 := List.length_append
      have hfe : ∀ b k, b ≠ 182 → τ.1 b k = σ.1 b k := fun b k hb => hf b k hb
      obtain ⟨z, σ', k1, k2, k3⟩ := ih (pre ++ [c]) N τ (by rw [ea]; exact hl) (by rw [ea, hfe 166 13 (by decide)]; exact h6) (fun m cl hm => by
        rw [ea] at hm
        obtain ⟨b0, ya, yb, yc, b1, b2, b3, b4, b5, b6⟩ := hc m cl hm
        exact ⟨(hfe _ _ (by decide)).trans b0, ya, yb, yc, (hfe _ _ (by decide)).trans b1, (hfe _ _ (by decide)).trans b2, (hfe _ _ (by decide)).trans b3, MB_ext b4 (fun k _ _ => hfe _ _ (by decide)), MB_ext b5 (fun k _ _ => hfe _ _ (by decide)), b6⟩) (fun d hd => hv d (List.mem_cons_of_mem _ hd)) (by have : (c :: suf).length = suf.length + 1 := rfl; omega)
      refine ⟨z, σ', ?_, ?_, hf.tr k3⟩
      · rw [el] at k1
        rw [← k1]
        show itr _ N (nI pre.length + 1, τ) = _
        rw [show nI pre.length + 1 = nI (pre.length + 1) from nI_1 _]
      · rw [k2, let_Q hf]
        show some (LfV suf a b (σ.1 183), σ') = some (if nI c.1 = a ∧ c.2.2 (σ.1 183) = some 1 then _ else LfV suf a b (σ.1 183), σ')
        rw [if_neg hno]
    rw [itr_contI]
    dsimp only
    rw [e14]
    by_cases q : nI c.1 = a
    · rw [if_pos q]
      obtain ⟨σ1, r1, r2⟩ := m_run (σ := σ) a5 (fun k _ _ => rfl) (by omega) (by omega)
      rw [r1, Option.bind_some]
      dsimp only
      cases hcv : c.2.2 (σ.1 183) with
      | none =>
        rw [if_neg (show ¬ valO none = 1 by decide)]
        exact go σ1 r2 (fun z => by rw [hcv] at z; cases z.2)
      | some y =>
        rcases (hv c List.mem_cons_self).2 _ _ hcv with rfl | rfl
        · rw [if_neg (show ¬ valO (some 0) = 1 by decide)]
          exact go σ1 r2 (fun z => by rw [hcv] at z; exact absurd (Option.some.inj z.2) (by decide))
        · rw [if_pos (show valO (some 1) = 1 from rfl)]
          obtain ⟨σ2, r3, r4⟩ := m_run (σ := σ1) (MB_ext a4 (cd' := σ1.1 177) (fun k _ _ => code_Q r2 k)) (fun k _ _ => rfl) (by omega) (by omega)
          refine ⟨_, σ2, rfl, ?_, r2.tr r4⟩
          unfold bylE
          dsimp only
          rw [if_pos f2, f3, r2 179 pre.length (by unfold P182; decide), r2 180 pre.length (by unfold P182; decide), a1, a2, r3, Option.bind_some, let_Q r2]
          dsimp only
          rw [clamp_m hb]
          show _ = some (if nI c.1 = a ∧ c.2.2 (σ.1 183) = some 1 then _ else _, σ2)
          rw [if_pos ⟨q, hcv⟩]
    · rw [if_neg q]
      exact go σ Fx.rf (fun z => q z.1)
theorem LawM_LfV {l : List CLs} (hl : l.length ≤ 16) (h6 : σ.1 166 13 = nI l.length) (hc : ∀ m cl, l[m]? = some cl → ClS m cl σ) (hv : ∀ c, c ∈ l → VC c.2.2) : LawM (LfV l) σ := fun τ h h13 a b hb => by
  obtain ⟨z, σ', k1, k2, k3⟩ := m_byL a b hb l [] FU τ hl (h13.trans h6) (fun m cl hm => by
    obtain ⟨b0, ya, yb, yc, b1, b2, b3, b4, b5, b6⟩ := hc m cl hm
    exact ⟨(h _ _ (by decide) (by decide)).trans b0, ya, yb, yc, (h _ _ (by decide) (by decide)).trans b1, (h _ _ (by decide) (by decide)).trans b2, (h _ _ (by decide) (by decide)).trans b3, MB_ext b4 (fun k _ _ => h _ _ (by decide) (by decide)), MB_ext b5 (fun k _ _ => h _ _ (by decide) (by decide)), b6⟩) hv (by show l.length < 1000000; omega)
  refine ⟨σ', ?_, k3⟩
  unfold Md_byLaw Md_byLaw0
  rw [show Md_byLaw_L2 a b (0, τ) = some z from k1, Option.bind_some]
  exact k2
end LAWP
