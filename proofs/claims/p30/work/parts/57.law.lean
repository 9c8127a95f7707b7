/-! WHAT THE LAW SAYS, AS ONE FUNCTION OF LETTER, TOP AND THE LETTERS' VALUES -/
abbrev LawF : Type := Int32 → Int32 → (Nat → Int32) → Int32
def LawOK (L : LawF) : Prop := (∀ a b f g, (∀ n, n < 11 → f n = g n) → L a b f = L a b g) ∧ (∀ a b f, 0 ≤ b → 0 ≤ L a b f ∧ L a b f ≤ b)
def ruleC (v1 v2 : Int32) (σ2 : MH) : Option (Int32 × MH) := (Judge_rule_L14 v1 v2 (0, σ2)).bind fun z12 => (match z12 with | .inl z12a => if inb z12a.1 16 = true then (Law_run (z12a.2.1 114 z12a.1.toNatClampNeg) 127 z12a.2).bind fun (x15, σ16) => some (jmax 0 (jmin v2 x15), σ16) else none | .inr z12b => some (z12b.1, z12b.2))
def LawC (L : LawF) (σ : MH) : Prop := ∀ σ' : MH, (∀ b k, 111 ≤ b → b ≤ 115 → σ'.1 b k = σ.1 b k) → ∀ a b, 0 ≤ b → ∃ σ'', ruleC a b σ' = some (L a b (σ'.1 127), σ'') ∧ Fx (fun b _ => b = 116) σ' σ''
def LawM (L : LawF) (σ : MH) : Prop := ∀ σ' : MH, (∀ b k, 177 ≤ b → b ≤ 181 → σ'.1 b k = σ.1 b k) → σ'.1 166 13 = σ.1 166 13 → ∀ a b, 0 ≤ b → ∃ σ'', Md_byLaw a b σ' = some (L a b (σ'.1 183), σ'') ∧ Fx (fun b _ => b = 182) σ' σ''
theorem LawC_of {L : LawF} {σ σ' : MH} (h : LawC L σ) (e : ∀ b k, 111 ≤ b → b ≤ 115 → σ'.1 b k = σ.1 b k) : LawC L σ' := fun τ h1 => h τ (fun b k a c => (h1 b k a c).trans (e b k a c))
theorem LawM_of {L : LawF} {σ σ' : MH} (h : LawM L σ) (e : ∀ b k, 177 ≤ b → b ≤ 181 → σ'.1 b k = σ.1 b k) (e2 : σ'.1 166 13 = σ.1 166 13) : LawM L σ' := fun τ h1 h2 => h τ (fun b k a c => (h1 b k a c).trans (e b k a c)) (h2.trans e2)
/-- the law's answers by the row -/
def allowR (L : LawF) (A : Nat → Int32) (i j : Nat) : Int32 := if firstR A i j = true then L 102 99 (factsR A i j 0) else L 102 99 (factsR A j i 0)
def fitR (L : LawF) (A : Nat → Int32) (i j : Nat) : Bool := !decide (slackR A i j = -1) && decide (slackR A i j ≤ allowR L A i j)
def likeR (L : LawF) (A : Nat → Int32) (i j : Nat) : Int32 := L 108 99 (factsR A i j (slackR A i j))
def wearByR (L : LawF) (A : Nat → Int32) (i j : Nat) : Int32 := L 119 9 (factsR A i j (slackR A i j))
/-- what the class's questions change -/
def PJ (b _k : Nat) : Prop := b = 116 ∨ b = 127
/-- what the reference's change -/
def PK (b _k : Nat) : Prop := b = 182 ∨ b = 183
theorem LD_PJ {t : Nat} {A : Nat → Int32} {σ σ' : MH} (ht : isLd t) (h : LD t A σ) (hf : Fx PJ σ σ') : LD t A σ' := LD_of h (fun b k h1 h2 => hf b k (by
  have ht' : t = 1 ∨ t = 37 ∨ t = 73 := ht
  unfold PJ
  omega))
theorem LawC_PJ {L : LawF} {σ σ' : MH} (h : LawC L σ) (hf : Fx PJ σ σ') : LawC L σ' := LawC_of h (fun b k h1 h2 => hf b k (by unfold PJ; omega))
theorem LawM_PK {L : LawF} {σ σ' : MH} (h : LawM L σ) (hf : Fx PK σ σ') : LawM L σ' := LawM_of h (fun b k h1 h2 => hf b k (by unfold PK; omega)) (hf 166 13 (by unfold PK; omega))
theorem row_PK {σ σ' : MH} (hf : Fx PK σ σ') : σ'.1 167 = σ.1 167 := funext fun k => hf 167 k (by unfold PK; omega)
theorem jmax0 {s : Int32} (h : 0 ≤ s) : jmax 0 s = s := by
  unfold jmax
  split
  · rfl
  · rename_i q
    exact Int32.le_antisymm h (Int32.not_lt.mp q)
section CLS
variable {L : LawF} {σ : MH} {A : Nat → Int32} {t i j k : Nat}
theorem c_rule (ht : isLd t) (h : LD t A σ) (w : WF A) (hL : LawOK L) (hC : LawC L σ) (hi : i < 12) (hj : j < 12) (Ti : toldR A i = true) (Tj : toldR A j = true) (a b s : Int32) (hb : 0 ≤ b) (hs : 0 ≤ s) : ∃ σ', Judge_rule a b t (nI i) (nI j) s σ = some (L a b (factsR A i j s), σ') ∧ Fx PJ σ σ' := by
  obtain ⟨σ1, e1, f1, g1⟩ := c_fill ht h w hi hj Ti Tj s
  obtain ⟨σ2, e2, f2⟩ := hC σ1 (fun b k h1 h2 => f1 b k (by show ¬ b = 127; omega)) a b hb
  refine ⟨σ2, ?_, (f1.mo (fun b k q => Or.inr q)).tr (f2.mo (fun b k q => Or.inl q))⟩
  unfold Judge_rule Judge_rule0
  rw [e1, Option.bind_some]
  have : L a b (σ1.1 127) = L a b (factsR A i j s) := hL.1 a b _ _ (fun n hn => by rw [g1 n hn, jmax0 hs])
  rw [← this]
  exact e2
theorem c_allowance (ht : isLd t) (h : LD t A σ) (w : WF A) (hL : LawOK L) (hC : LawC L σ) (hi : i < 12) (hj : j < 12) (Ti : toldR A i = true) (Tj : toldR A j = true) : ∃ σ', Judge_allowance t (nI i) (nI j) σ = some (allowR L A i j, σ') ∧ Fx PJ σ σ' := by
  unfold Judge_allowance Judge_allowance0 Judge_allowance_b24 Judge_allowance_b34 allowR
  simp only [c_isFirst ht h hi hj, Option.bind_some]
  cases firstR A i j
  · obtain ⟨σ', e, f⟩ := c_rule ht h w hL hC hj hi Tj Ti 102 99 0 (by decide) (by decide)
    refine ⟨σ', ?_, f⟩
    simp [bI, e]
  · obtain ⟨σ', e, f⟩ := c_rule ht h w hL hC hi hj Ti Tj 102 99 0 (by decide) (by decide)
    refine ⟨σ', ?_, f⟩
    simp [bI, e]
theorem c_fit (ht : isLd t) (h : LD t A σ) (w : WF A) (hL : LawOK L) (hC : LawC L σ) (hi : i < 12) (hj : j < 12) (Ti : toldR A i = true) (Tj : toldR A j = true) : ∃ σ', Judge_fit t (nI i) (nI j) σ = some (bI (fitR L A i j), σ') ∧ Fx PJ σ σ' := by
  unfold Judge_fit Judge_fit0 fitR
  obtain ⟨σ', e, f⟩ := c_allowance ht h w hL hC hi hj Ti Tj
  simp only [c_slackOf ht h w hi hj Ti Tj, Option.bind_some, e]
  rcases slackR_bd (i := i) (j := j) w with q | q
  · refine ⟨σ, ?_, Fx.rf⟩
    rw [q]
    rfl
  · have h0 : ¬ slackR A i j < 0 := by
      rw [ti_lt]
      show ¬ _ < (0 : Int)
      omega
    have h1 : ¬ slackR A i j = -1 := by
      intro z
      rw [z] at q
      exact absurd q.1 (by decide)
    refine ⟨σ', ?_, f⟩
    rw [if_neg h0]
    simp only [h1, decide_false, Bool.not_false, Bool.true_and]
    by_cases z : allowR L A i j < slackR A i j
    · rw [if_pos z, decide_eq_false (ne_of_lt32 z)]; rfl
    · rw [if_neg z, decide_eq_true (Int32.not_lt.mp z)]; rfl
theorem slack_pos (w : WF A) (h : slackR A i j ≠ -1) : 0 ≤ slackR A i j := by
  rcases slackR_bd (i := i) (j := j) w with q | q
  · exact absurd q h
  · exact ti_le.mpr q.1
theorem c_liking (ht : isLd t) (h : LD t A σ) (w : WF A) (hL : LawOK L) (hC : LawC L σ) (hi : i < 12) (hj : j < 12) (Ti : toldR A i = true) (Tj : toldR A j = true) (hs : slackR A i j ≠ -1) : ∃ σ', Judge_liking t (nI i) (nI j) σ = some (likeR L A i j, σ') ∧ Fx PJ σ σ' := by
  unfold Judge_liking Judge_liking0 likeR
  obtain ⟨σ', e, f⟩ := c_rule ht h w hL hC hi hj Ti Tj 108 99 (slackR A i j) (by decide) (slack_pos w hs)
  refine ⟨σ', ?_, f⟩
  simp only [c_slackOf ht h w hi hj Ti Tj, Option.bind_some, e]
/-- who is first in w, in the class -/
def wFirst (A : Nat → Int32) (i j : Nat) : Bool := if A (24 + i) = nI j then decide (i < j) else firstR A i j
theorem c_wearOf (ht : isLd t) (h : LD t A σ) (w : WF A) (hL : LawOK L) (hC : LawC L σ) (hi : i < 12) (hj : j < 12) (Ti : toldR A i = true) (Tj : toldR A j = true) (hs : slackR A i j ≠ -1) : ∃ σ', Judge_wearOf t (nI i) (nI j) σ = some (if wFirst A i j = true then L 119 9 (factsR A i j (slackR A i j)) else L 119 9 (factsR A j i (slackR A i j)), σ') ∧ Fx PJ σ σ' := by
  obtain ⟨f1, f2, f3, f4⟩ := ix3 12 hi
  unfold Judge_wearOf Judge_wearOf0 Judge_wearOf_b21 Judge_wearOf_b22 Judge_wearOf_b48 Judge_wearOf_b66 Judge_wearOf_b76
  simp only [v_isNumber hi, Option.bind_some, f2, f3, (rf2 ht).2.2.1, (h.2.1 i hi).2.2.1, if_true, c_isFirst ht h hi hj, c_slackOf ht h w hi hj Ti Tj, nI_leI (show j < 2 ^ 31 by omega) (show i < 2 ^ 31 by omega)]
  unfold wFirst
  obtain ⟨σ1, e1, z1⟩ := c_rule ht h w hL hC hi hj Ti Tj 119 9 (slackR A i j) (by decide) (slack_pos w hs)
  obtain ⟨σ2, e2, z2⟩ := c_rule ht h w hL hC hj hi Tj Ti 119 9 (slackR A i j) (by decide) (slack_pos w hs)
  by_cases q : A (24 + i) = nI j
  · by_cases q2 : i < j
    · refine ⟨σ1, ?_, z1⟩
      simp [q, q2, e1, show ¬ j ≤ i by omega]
    · refine ⟨σ2, ?_, z2⟩
      simp [q, q2, e2, show j ≤ i by omega]
  · cases q2 : firstR A i j
    · refine ⟨σ2, ?_, z2⟩
      simp [q, bI, e2]
    · refine ⟨σ1, ?_, z1⟩
      simp [q, bI, e1]
end CLS
/-! the reference -/
section MDL
variable {L : LawF} {σ : MH} {i j k : Nat}
theorem lit0k (k : Nat) : (0 : Int32) + nI k = nI k := by rw [lit_nI 0, nI_add, Nat.zero_add]
theorem lit0k' (k : Nat) : nI 0 + nI k = nI k := by rw [nI_add, Nat.zero_add]
theorem m_feels (hi : i < 12) (hj : j < 12) (s : Int32) : ∃ σ', Md_feels (nI i) (nI j) s σ = some σ' ∧ Fx (fun b _ => b = 183) σ σ' ∧ ∀ n, n < 11 → σ'.1 183 n = factsR (σ.1 167) i j s n := by
  have b48 := ix_add (c := 48) (k := i) (n := 1936) (by omega) (by decide)
  have b48' := ix_add (c := 48) (k := j) (n := 1936) (by omega) (by decide)
  have b12 := ix_add (c := 12) (k := i) (n := 1936) (by omega) (by decide)
  have b12' := ix_add (c := 12) (k := j) (n := 1936) (by omega) (by decide)
  have b36 := ix_add (c := 36) (k := i) (n := 1936) (by omega) (by decide)
  have b0 : inb (nI i) 1936 = true := inb_nI (by omega) (by decide)
  have b0' : inb (nI j) 1936 = true := inb_nI (by omega) (by decide)
  have c0 : (nI i).toNatClampNeg = i := nI_clamp (by omega)
  have c0' : (nI j).toNatClampNeg = j := nI_clamp (by omega)
  unfold Md_feels Md_feels0
  simp only [lit_nI 48, lit_nI 12, lit_nI 36, lit0k, b48.1, b48.2, b48'.1, b48'.2, b12.1, b12.2, b12'.1, b12'.2, b36.1, b36.2, b0, b0', c0, c0', if_true, m_bits, Option.bind_some]
  refine ⟨_, rfl, fun b k hb => by simp only [sI_obj hb], n11 ?_⟩
  simp [sI_at, factsR]
theorem m_law (hL : LawOK L) (hM : LawM L σ) (hi : i < 12) (hj : j < 12) (a b s : Int32) (hb : 0 ≤ b) : ∃ σ1 σ', Md_feels (nI i) (nI j) s σ = some σ1 ∧ Fx PK σ σ1 ∧ Md_byLaw a b σ1 = some (L a b (factsR (σ.1 167) i j s), σ') ∧ Fx PK σ σ' := by
  obtain ⟨σ1, e1, f1, g1⟩ := m_feels (σ := σ) hi hj s
  obtain ⟨σ2, e2, f2⟩ := hM σ1 (fun b k h1 h2 => f1 b k (by show ¬ b = 183; omega)) (f1 166 13 (by decide)) a b hb
  have f1' : Fx PK σ σ1 := f1.mo (fun b k q => Or.inr q)
  refine ⟨σ1, σ2, e1, f1', ?_, f1'.tr (f2.mo (fun b k q => Or.inl q))⟩
  rw [e2, hL.1 a b _ _ g1]
theorem m_allowed (hL : LawOK L) (hM : LawM L σ) (hi : i < 12) (hj : j < 12) : ∃ σ', Md_allowed (nI i) (nI j) σ = some (allowR L (σ.1 167) i j, σ') ∧ Fx PK σ σ' := by
  have b0 : inb (nI i) 1936 = true := inb_nI (by omega) (by decide)
  have b0' : inb (nI j) 1936 = true := inb_nI (by omega) (by decide)
  have c0 : (nI i).toNatClampNeg = i := nI_clamp (by omega)
  have c0' : (nI j).toNatClampNeg = j := nI_clamp (by omega)
  obtain ⟨σ1, σ2, e1, f1, e2, f2⟩ := m_law hL hM hi hj 102 99 0 (by decide)
  obtain ⟨σ3, σ4, e3, f3, e4, f4⟩ := m_law hL hM hj hi 102 99 0 (by decide)
  unfold Md_allowed Md_allowed0 Md_allowed_b43 Md_allowed_b47 Md_allowed_b48 Md_allowed_b70 allowR firstR
  simp only [lit0k, b0, b0', c0, c0', if_true, nI_leI (show j < 2 ^ 31 by omega) (show i < 2 ^ 31 by omega)]
  by_cases q1 : σ.1 167 i < σ.1 167 j
  · exact ⟨σ2, by simp [q1, e1, e2], f2⟩
  · by_cases q2 : σ.1 167 i = σ.1 167 j
    · by_cases q3 : j ≤ i
      · exact ⟨σ4, by simp [q2, q3, e3, e4, show ¬ i < j by omega], f4⟩
      · exact ⟨σ2, by simp [q2, q3, e1, e2, show i < j by omega], f2⟩
    · exact ⟨σ4, by simp [q1, q2, e3, e4], f4⟩
theorem m_fit (hL : LawOK L) (hM : LawM L σ) (hi : i < 12) (hj : j < 12) : ∃ σ', Md_fit (nI i) (nI j) σ = some (bI (fitR L (σ.1 167) i j), σ') ∧ Fx PK σ σ' := by
  obtain ⟨σ', e, f⟩ := m_allowed hL hM hi hj
  unfold Md_fit Md_fit0 fitR
  simp only [m_slackBy hi hj, Option.bind_some, e]
  by_cases q : slackR (σ.1 167) i j = -1
  · exact ⟨σ, by simp [q, bzo, bz, bI], Fx.rf⟩
  · refine ⟨σ', ?_, f⟩
    rw [if_neg q]
    simp only [q, decide_false, Bool.not_false, Bool.true_and]
    by_cases z : allowR L (σ.1 167) i j < slackR (σ.1 167) i j
    · rw [if_pos z, decide_eq_false (ne_of_lt32 z)]; rfl
    · rw [if_neg z, decide_eq_true (Int32.not_lt.mp z)]; rfl
theorem m_likes (hL : LawOK L) (hM : LawM L σ) (hi : i < 12) (hj : j < 12) : ∃ σ', Md_likes (nI i) (nI j) σ = some (likeR L (σ.1 167) i j, σ') ∧ Fx PK σ σ' := by
  obtain ⟨σ1, σ2, e1, f1, e2, f2⟩ := m_law hL hM hi hj 108 99 (slackR (σ.1 167) i j) (by decide)
  refine ⟨σ2, ?_, f2⟩
  unfold Md_likes Md_likes0 likeR
  simp only [m_slackBy hi hj, Option.bind_some, e1, e2]
theorem m_wearsBy (hL : LawOK L) (hM : LawM L σ) (hi : i < 12) (hj : j < 12) : ∃ σ', Md_wearsBy (nI i) (nI j) σ = some (wearByR L (σ.1 167) i j, σ') ∧ Fx PK σ σ' := by
  obtain ⟨σ1, σ2, e1, f1, e2, f2⟩ := m_law hL hM hi hj 119 9 (slackR (σ.1 167) i j) (by decide)
  refine ⟨σ2, ?_, f2⟩
  unfold Md_wearsBy Md_wearsBy0 wearByR
  simp only [m_slackBy hi hj, Option.bind_some, e1, e2]
end MDL
