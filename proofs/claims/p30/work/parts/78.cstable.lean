/-! stable, in the class -/
section CST
variable {L : LawF} {σ : MH} {A : Nat → Int32} {i j k n w : Nat} {a : Int32} {S : SS}
def SRc (S : SS) (σ : MH) : Prop := ∀ m, m < 12 → σ.1 147 m = S.1 m ∧ σ.1 130 m = S.2.1 m
def BDc (L : LawF) (A : Nat → Int32) (σ : MH) : Prop := ∀ i j, i < 12 → j < 12 → oneP A i = true → othP A j = true → σ.1 (134 + i) j = likeN L A i j ∧ σ.1 (134 + j) i = likeN L A j i
theorem rfB (hi : i < 12) : rfv 133 i = 134 + i := by
  have : ∀ i, i < 12 → rfv 133 i = 134 + i := by decide +kernel
  exact this i hi
theorem oth_live (h : othP A j = true) : liveR A j = true := by
  unfold othP at h
  simp only [Bool.and_eq_true] at h
  exact h.1
theorem one_live (h : oneP A j = true) : liveR A j = true := by
  unfold oneP at h
  simp only [Bool.and_eq_true] at h
  exact h.1
theorem one_ne_oth (h1 : oneP A i = true) (h2 : othP A j = true) : i ≠ j := fun z => by subst z; exact one_oth h1 h2
theorem likeN_of (h1 : oneP A i = true) (h2 : othP A j = true) : likeN L A i j = if fitR L A i j = true then likeR L A i j else 0 := by
  unfold likeN fpR fitP
  rw [one_live h1, oth_live h2, decide_eq_false (fun z => one_ne_oth h1 h2 z.symm)]
  rfl
theorem likeN_of2 (wf : WF A) (h1 : oneP A i = true) (h2 : othP A j = true) : likeN L A j i = if fitR L A i j = true then likeR L A j i else 0 := by
  unfold likeN fpR fitP
  rw [one_live h1, oth_live h2, decide_eq_false (one_ne_oth h1 h2), fit_symm wf (one_ne_oth h1 h2)]
  rfl
theorem len12 (p : Nat → Bool) : (lstP p 12).length ≤ 12 := lstP_len p 12
theorem pre_lt {l pre post : List Nat} {x : Nat} (e : l = pre ++ x :: post) : pre.length < l.length := by
  rw [e, List.length_append, List.length_cons]; omega
theorem mid_mem {l pre post : List Nat} {x : Nat} (e : l = pre ++ x :: post) : x ∈ l := by
  rw [e]; exact List.mem_append_right _ List.mem_cons_self
/-- one pair's likings -/
theorem c_bond1 (hD : LD 1 A σ) (wf : WF A) (hL : LawOK L) (hC : LawC L σ) (hi : i < 12) (hj : j < 12) (oi : oneP A i = true) (oj : othP A j = true) {p q : Nat} (hp : p < 12) (hq : q < 12) (hql : ¬ σ.1 129 7 ≤ nI q) (e1 : σ.1 131 p = nI i) (e2 : σ.1 132 q = nI j) : ∃ σ', Couples_findStable_l17 1 (nI p) (nI q) σ = some (.inl (nI (q + 1), σ')) ∧ Fx (fun b k => b = 116 ∨ b = 127 ∨ (b = 134 + i ∧ k = j) ∨ (b = 134 + j ∧ k = i)) σ σ' ∧ σ'.1 (134 + i) j = likeN L A i j ∧ σ'.1 (134 + j) i = likeN L A j i := by
  obtain ⟨f1, f2, f3, f4⟩ := ix3 12 hp
  obtain ⟨g1, g2, g3, g4⟩ := ix3 12 hq
  obtain ⟨-, h2, h3, -⟩ := ix3 12 hi
  obtain ⟨-, k2, k3, -⟩ := ix3 12 hj
  have hij := one_ne_oth oi oj
  have Ti := live_told (one_live oi)
  have Tj := live_told (oth_live oj)
  obtain ⟨σ1, d1, p1⟩ := c_fit ld1 hD wf hL hC hi hj Ti Tj
  have hD1 := LD_PJ ld1 hD p1
  have hC1 := LawC_PJ hC p1
  have w1 := likeN_of (L := L) oi oj
  have w2 := likeN_of2 (L := L) wf oi oj
  unfold Couples_findStable_l17 Couples_findStable_b85 Couples_findStable_b116
  rw [if_neg hql, if_pos f2, if_pos g2, f3, g3, e1, e2, d1, Option.bind_some]
  dsimp only
  rw [if_pos h2, h3, k3, rfB hi, rfB hj, lit_nI 1, nI_add]
  simp only [h2, k2, h3, k3, if_true]
  cases hf : fitR L A i j
  · rw [hf, if_neg (by decide)] at w1 w2
    rw [bI_f, if_pos rfl, if_pos rfl]
    refine ⟨_, rfl, fun b m hb => ?_, ?_, ?_⟩
    · rw [sI_ne (by omega), sI_ne (by omega)]
      exact p1 b m (by unfold PJ; omega)
    · rw [sI_obj (by omega), sI_same, w1]
    · rw [sI_same, w2]
  · rw [hf, if_pos rfl] at w1 w2
    obtain ⟨σ2, d2, p2⟩ := c_liking ld1 hD1 wf hL hC1 hi hj Ti Tj (fit_slack hf)
    have p12 := p1.tr p2
    simp only [bI_t, show ((1 : Int32) = 0) = False by simp, if_false]
    rw [d2, Option.bind_some]
    dsimp only
    have hD3 : LD 1 A (sI σ2 (134 + i) j (likeR L A i j)) := LD_of (LD_PJ ld1 hD p12) (fun b m x y => by rw [sI_obj (by omega)])
    have hC3 : LawC L (sI σ2 (134 + i) j (likeR L A i j)) := LawC_of (LawC_PJ hC p12) (fun b m x y => by rw [sI_obj (by omega)])
    obtain ⟨σ3, d3, p3⟩ := c_liking ld1 hD3 wf hL hC3 hj hi Tj Ti (by rw [slackR_symm wf]; exact fit_slack hf)
    rw [d3, Option.bind_some]
    dsimp only
    refine ⟨_, rfl, fun b m hb => ?_, ?_, ?_⟩
    · rw [sI_ne (by omega), p3 b m (by unfold PJ; omega), sI_ne (by omega)]
      exact p12 b m (by unfold PJ; omega)
    · rw [sI_obj (by omega), p3 _ _ (by unfold PJ; omega), sI_same, w1]
    · rw [sI_same, w2]
theorem c_bonds (hD : LD 1 A σ) (wf : WF A) (hL : LawOK L) (hC : LawC L σ) (hG : Gat A σ) : ∃ σ', Couples_findStable_L7 1 (0, σ) = some σ' ∧ Fx (fun b _ => b = 116 ∨ b = 127 ∨ (134 ≤ b ∧ b < 146)) σ σ' ∧ BDc L A σ' := by
  have inner : ∀ (pre post : List Nat) (x : Nat) (τ : MH), onesL A = pre ++ x :: post → LD 1 A τ → LawC L τ → Gat A τ → ∃ r, Couples_findStable_L17 1 (nI pre.length) (0, τ) = some r ∧ Fx (fun b _ => b = 116 ∨ b = 127 ∨ (134 ≤ b ∧ b < 146)) τ r ∧ (∀ j, j ∈ othsL A → r.1 (134 + x) j = likeN L A x j ∧ r.1 (134 + j) x = likeN L A j x) ∧ ∀ i j, i ≠ x → j ≠ x → (oneP A i = true ∧ othP A j = true ∧ i < 12 ∧ j < 12) → r.1 (134 + i) j = τ.1 (134 + i) j ∧ r.1 (134 + j) i = τ.1 (134 + j) i := by
    intro pre post x τ hx hDt hCt hGt
    obtain ⟨x12, ox⟩ := ones_mem x (mid_mem hx)
    have hp : pre.length < 12 := Nat.lt_of_lt_of_le (pre_lt hx) (len12 _)
    refine itr_list (othsL A) (fun pq (z : Int32 × MH) => z.1 = nI pq.length ∧ Fx (fun b _ => b = 116 ∨ b = 127 ∨ (134 ≤ b ∧ b < 146)) τ z.2 ∧ (∀ j, j ∈ pq → z.2.1 (134 + x) j = likeN L A x j ∧ z.2.1 (134 + j) x = likeN L A j x) ∧ ∀ i j, i ≠ x → j ≠ x → (oneP A i = true ∧ othP A j = true ∧ i < 12 ∧ j < 12) → z.2.1 (134 + i) j = τ.1 (134 + i) j ∧ z.2.1 (134 + j) i = τ.1 (134 + j) i) _ ⟨rfl, Fx.rf, fun j hj => (by cases hj), fun i j _ _ _ => ⟨rfl, rfl⟩⟩ (fun pq y qp z hy hz => ?_) (fun z hz => ?_) (by have := len12 (othP A); show (othsL A).length < 1000000; unfold othsL; omega)
    · obtain ⟨z1, z2⟩ := z
      obtain ⟨rfl, hf, hv, ho⟩ := hz
      dsimp only at hf hv ho
      obtain ⟨y12, oy⟩ := lstP_mem (mid_mem hy)
      have hq : pq.length < 12 := Nat.lt_of_lt_of_le (pre_lt hy) (len12 _)
      have hGz : z2.1 129 7 = nI (othsL A).length := (hf 129 7 (by omega)).trans hGt.2.1
      have hl := len12 (othP A)
      have hpl := pre_lt hy
      have a1 : z2.1 131 pre.length = nI x := (hf 131 _ (by omega)).trans (AR_at hGt.2.2.1 hx)
      have a2 : z2.1 132 pq.length = nI y := (hf 132 _ (by omega)).trans (AR_at hGt.2.2.2 hy)
      obtain ⟨σ', e, g, v1, v2⟩ := c_bond1 (LD_of hDt (fun b m s t => hf b m (by omega))) wf hL (LawC_of hCt (fun b m s t => hf b m (by omega))) x12 y12 ox oy hp hq (by rw [hGz, nI_leI (by unfold othsL; omega) (by omega)]; omega) a1 a2
      have hxy := one_ne_oth ox oy
      refine ⟨(nI (pq.length + 1), σ'), e, by rw [List.length_append]; rfl, fun b m hb => (g b m (by omega)).trans (hf b m hb), fun j hj => ?_, fun i j hix hjx hij => ?_⟩
      · dsimp only
        by_cases q : j = y
        · subst q; exact ⟨v1, v2⟩
        · have hj' : j ∈ pq := by
            rcases List.mem_append.mp hj with h | h
            · exact h
            · exact absurd (List.mem_singleton.mp h) q
          have oj : othP A j = true ∧ j < 12 := by
            have : j ∈ othsL A := by rw [hy]; exact List.mem_append_left _ hj'
            exact ⟨(lstP_mem this).2, (lstP_mem this).1⟩
          have hxj := one_ne_oth ox oj.1
          rw [g (134 + x) j (by omega), g (134 + j) x (by omega)]
          exact hv j hj'
      · dsimp only
        obtain ⟨o1, o2, i12, j12⟩ := hij
        have hiy := one_ne_oth o1 oy
        rw [g (134 + i) j (by omega), g (134 + j) i (by omega)]
        exact ho i j hix hjx ⟨o1, o2, i12, j12⟩
    · obtain ⟨z1, z2⟩ := z
      obtain ⟨rfl, hf, hv, ho⟩ := hz
      refine ⟨z2, ?_, hf, hv, ho⟩
      show Couples_findStable_l17 1 (nI pre.length) (nI (othsL A).length) z2 = _
      have hGz : z2.1 129 7 = nI (othsL A).length := (hf 129 7 (by omega)).trans hGt.2.1
      unfold Couples_findStable_l17
      rw [hGz, if_pos (Int32.le_refl _)]
  refine itr_list (onesL A) (fun pre (z : Int32 × MH) => z.1 = nI pre.length ∧ Fx (fun b _ => b = 116 ∨ b = 127 ∨ (134 ≤ b ∧ b < 146)) σ z.2 ∧ ∀ i j, i ∈ pre → j < 12 → othP A j = true → z.2.1 (134 + i) j = likeN L A i j ∧ z.2.1 (134 + j) i = likeN L A j i) _ ⟨rfl, Fx.rf, fun i j hi => (by cases hi)⟩ (fun pre x post z hx hz => ?_) (fun z hz => ?_) (by have := len12 (oneP A); show (onesL A).length < 1000000; unfold onesL; omega)
  · obtain ⟨z1, z2⟩ := z
    obtain ⟨rfl, hf, hv⟩ := hz
    dsimp only at hf hv
    have hGz : Gat A z2 := ⟨(hf 129 6 (by omega)).trans hG.1, (hf 129 7 (by omega)).trans hG.2.1, AR_of hG.2.2.1 (fun p => hf 131 p (by omega)), AR_of hG.2.2.2 (fun p => hf 132 p (by omega))⟩
    obtain ⟨r, e, g, v, o⟩ := inner pre post x z2 hx (LD_of hD (fun b m s t => hf b m (by omega))) (LawC_of hC (fun b m s t => hf b m (by omega))) hGz
    have hpl := pre_lt hx
    have hl := len12 (oneP A)
    refine ⟨(nI (pre.length + 1), r), ?_, by rw [List.length_append]; rfl, hf.tr g, fun i j hi hj oj => ?_⟩
    · show Couples_findStable_l7 1 (nI pre.length) z2 = _
      unfold Couples_findStable_l7
      rw [hGz.1, if_neg (by rw [nI_leI (by unfold onesL; omega) (by unfold onesL at hpl; omega)]; omega), e, Option.bind_some, lit_nI 1, nI_add]
    · dsimp only
      by_cases q : i = x
      · subst q; exact v j (lstP_mem2 hj oj)
      · have hi' : i ∈ pre := by
          rcases List.mem_append.mp hi with h | h
          · exact h
          · exact absurd (List.mem_singleton.mp h) q
        have oi : i < 12 ∧ oneP A i = true := ones_mem i (by rw [hx]; exact List.mem_append_left _ hi')
        have ox := (ones_mem x (mid_mem hx)).2
        obtain ⟨s1, s2⟩ := o i j q (fun z => one_ne_oth ox oj z.symm) ⟨oi.2, oj, oi.1, hj⟩
        rw [s1, s2]
        exact hv i j hi' hj oj
  · obtain ⟨z1, z2⟩ := z
    obtain ⟨rfl, hf, hv⟩ := hz
    refine ⟨z2, ?_, hf, fun i j hi hj oi oj => hv i j (lstP_mem2 hi oi) hj oj⟩
    show Couples_findStable_l7 1 (nI (onesL A).length) z2 = _
    have hGz : z2.1 129 6 = nI (onesL A).length := (hf 129 6 (by omega)).trans hG.1
    unfold Couples_findStable_l7
    rw [hGz, if_pos (Int32.le_refl _)]
/-! asking -/
def ccP (L : LawF) (A : Nat → Int32) (a : Int32) (i j : Nat) : Bool := !bt a j && decide (0 < likeN L A i j)
theorem like_lt0 (hL : LawOK L) : (0 < likeN L A i j) ↔ ¬ likeN L A i j = 0 := by
  have := likeN_pos (A := A) (i := i) (j := j) hL
  generalize likeN L A i j = x at this
  constructor
  · intro h q; rw [q] at h; exact absurd h (by decide)
  · intro h
    exact Int32.lt_of_le_of_ne this (fun q => h q.symm)
theorem cand_cc (wf : WF A) (hL : LawOK L) (oi : oneP A i = true) (hj : j < 12) : candP L A a i j = (othP A j && ccP L A a i j) := by
  unfold ccP
  cases hb : bt a j
  · rw [Bool.not_false, Bool.true_and]
    by_cases h0 : likeN L A i j = 0
    · unfold candP
      rw [decide_eq_true h0, decide_eq_false (fun q => (like_lt0 hL).mp q h0)]
      simp
    · rw [decide_eq_true ((like_lt0 hL).mpr h0), Bool.and_true]
      unfold candP
      rw [decide_eq_false h0, hb, Bool.not_false, Bool.and_true, Bool.and_true]
      have hf : fpR L A i j = true := by
        unfold likeN at h0
        cases q : fpR L A i j
        · rw [q, if_neg (by decide)] at h0; exact absurd rfl h0
        · rfl
      rw [hf, Bool.true_and]
      have lj : liveR A j = true := by
        unfold fpR fitP at hf
        simp only [Bool.and_eq_true] at hf
        exact hf.2.2.1
      unfold othP
      rw [lj, Bool.true_and]
      rcases (wf.2.2.2.2 j hj).1 with z | z
      · rw [z]; rfl
      · rw [z]; rfl
  · unfold candP
    rw [hb]
    simp
theorem nextS_list (wf : WF A) (hL : LawOK L) (oi : oneP A i = true) : nextS L A a i 12 = (othsL A).foldl (fun b j => if ccP L A a i j = true then (if b = 12 then j else if likeN L A i b < likeN L A i j then j else b) else b) 12 := by
  unfold nextS othsL
  rw [fo_list (othP A) (fun j b => if ccP L A a i j = true then (if b = 12 then j else if likeN L A i b < likeN L A i j then j else b) else b)]
  refine fo_congr (fun j b hj => ?_) 12
  rw [cand_cc wf hL oi hj]
  cases othP A j <;> cases ccP L A a i j <;> rfl
theorem c_next (wf : WF A) (hL : LawOK L) (hG : Gat A σ) (hB : BDc L A σ) (hi : i < 12) (oi : oneP A i = true) (ea : σ.1 147 i = a) : Couples_askNext_L4 (nI i) σ (-1, 0) = some (if nextS L A a i 12 = 12 then -1 else nI (nextS L A a i 12)) := by
  obtain ⟨f1, f2, f3, f4⟩ := ix3 12 hi
  have key : ∃ r, Couples_askNext_L4 (nI i) σ (-1, 0) = some r ∧ r = (if nextS L A a i 12 = 12 then -1 else nI (nextS L A a i 12)) := by
    rw [nextS_list wf hL oi]
    refine itr_list (othsL A) (fun pre (z : Int32 × Int32) => ∃ b, z = (if b = 12 then -1 else nI b, nI pre.length) ∧ b = pre.foldl (fun b j => if ccP L A a i j = true then (if b = 12 then j else if likeN L A i b < likeN L A i j then j else b) else b) 12 ∧ (b = 12 ∨ (b < 12 ∧ othP A b = true))) _ ⟨12, rfl, rfl, Or.inl rfl⟩ (fun pre x post z hx hz => ?_) (fun z hz => ?_) (by have := len12 (othP A); show (othsL A).length < 1000000; unfold othsL; omega)
    · obtain ⟨b, rfl, hb, hb2⟩ := hz
      obtain ⟨x12, ox⟩ := lstP_mem (mid_mem hx)
      obtain ⟨-, k2, k3, -⟩ := ix3 12 x12
      have hpl := pre_lt hx
      have hl := len12 (othP A)
      have hq : pre.length < 12 := Nat.lt_of_lt_of_le hpl (len12 _)
      obtain ⟨g1, g2, g3, g4⟩ := ix3 12 hq
      have a2 : σ.1 132 pre.length = nI x := AR_at hG.2.2.2 hx
      have bx : σ.1 (134 + i) x = likeN L A i x := (hB i x hi x12 oi ox).1
      have hfold : (pre ++ [x]).foldl (fun b j => if ccP L A a i j = true then (if b = 12 then j else if likeN L A i b < likeN L A i j then j else b) else b) 12 = if ccP L A a i x = true then (if b = 12 then x else if likeN L A i b < likeN L A i x then x else b) else b := by
        rw [List.foldl_append, ← hb]; rfl
      refine ⟨(if (if ccP L A a i x = true then (if b = 12 then x else if likeN L A i b < likeN L A i x then x else b) else b) = 12 then -1 else nI (if ccP L A a i x = true then (if b = 12 then x else if likeN L A i b < likeN L A i x then x else b) else b), nI (pre.length + 1)), ?_, _, ?_, hfold.symm, ?_⟩
      · show Couples_askNext_l4 (nI i) _ (nI pre.length) σ = _
        unfold Couples_askNext_l4 Couples_askNext_b50 Couples_askNext_b51 Couples_askNext_b82 Couples_askNext_b85
        have e1 : nI pre.length + 1 = nI (pre.length + 1) := nI_1 _
        have x12' : ¬ x = 12 := by omega
        have z1 : ((-1 : Int32) < 0) = True := by simp
        rw [hG.2.1, if_neg (by rw [nI_leI (by unfold othsL; omega) (by omega)]; omega), if_pos g2, if_pos f2, f3, g3, a2, ea, and1 _ (by omega), if_pos k2, k3, rfB hi, bx, e1]
        unfold ccP
        cases hbt : bt a x
        · by_cases h0 : 0 < likeN L A i x
          · have h0' := ne_of_lt32 h0
            by_cases hb12 : b = 12
            · subst hb12
              simp [bI, h0, h0', x12', z1]
            · obtain ⟨c1, c2⟩ := hb2.resolve_left hb12
              obtain ⟨-, m2, m3, m4⟩ := ix3 12 c1
              have bb := (hB i b hi c1 oi c2).1
              by_cases hlt : likeN L A i b < likeN L A i x
              · have hlt' := ne_of_lt32 hlt
                simp [bI, h0, h0', x12', hb12, f2, k2, m2, m3, m4, bb, hlt, hlt']
              · have hlt' := Int32.not_lt.mp hlt
                simp [bI, h0, h0', x12', hb12, f2, k2, m2, m3, m4, bb, hlt, hlt']
          · have h0' := Int32.not_lt.mp h0
            simp [bI, h0, h0']
        · simp [bI]
      · rw [List.length_append]; rfl
      · by_cases hc : ccP L A a i x = true
        · rw [if_pos hc]
          by_cases hb12 : b = 12
          · rw [if_pos hb12]; exact Or.inr ⟨x12, ox⟩
          · rw [if_neg hb12]
            split
            · exact Or.inr ⟨x12, ox⟩
            · exact hb2
        · rw [if_neg hc]; exact hb2
    · obtain ⟨b, rfl, hb, hb2⟩ := hz
      refine ⟨_, ?_, by rw [← hb]⟩
      show Couples_askNext_l4 (nI i) _ (nI (othsL A).length) σ = _
      unfold Couples_askNext_l4
      rw [hG.2.1, if_pos (Int32.le_refl _)]
  obtain ⟨r, e, hr⟩ := key
  rw [e, hr]
theorem c_prefers (hL : LawOK L) (hB : BDc L A σ) {get : Nat → Int32} (hg : GI A get) (hi : i < 12) (hj : j < 12) (oi : oneP A i = true) (oj : othP A j = true) : Couples_prefers (nI j) (nI i) (get j) σ = some (bI (keepS L A get j i)) := by
  obtain ⟨-, f2, f3, -⟩ := ix3 12 hi
  obtain ⟨-, g2, g3, -⟩ := ix3 12 hj
  have b1 : σ.1 (134 + j) i = likeN L A j i := (hB i j hi hj oi oj).2
  have h0 := likeN_pos (A := A) (i := j) (j := i) hL
  unfold Couples_prefers Couples_prefers0 Couples_prefers_b15 Couples_prefers_b75 keepS
  rw [if_pos g2, if_pos f2, f3, g3, rfB hj, b1, if_pos g2, if_pos f2]
  by_cases q : likeN L A j i = 0
  · rw [if_pos q, decide_eq_true q, q, if_pos (Int32.le_refl _)]; rfl
  · have hlt : ¬ likeN L A j i ≤ 0 := fun z => q (Int32.le_antisymm z h0)
    rw [if_neg q, decide_eq_false q, if_neg hlt]
    rcases hg j hj with z | ⟨r, a1, a2, a3, a4, a5⟩
    · rw [z, if_neg (by decide), decide_eq_true rfl]; rfl
    · obtain ⟨-, k2, k3, k4⟩ := ix3 12 a1
      have orr : oneP A r = true := by
        rcases a5 with a5 | a5
        · exact absurd a5.1 (fun z => one_oth z oj)
        · exact a5.2
      have b2 : σ.1 (134 + j) r = likeN L A j r := (hB r j a1 hj orr oj).2
      rw [a3, if_pos (nI_pos' (by omega)), if_pos k2, k3, b2, decide_eq_false (nI_m2 (show r < 2 ^ 31 by omega))]
      by_cases q1 : likeN L A j r < likeN L A j i
      · rw [if_pos q1, decide_eq_true q1]; rfl
      · rw [if_neg q1, decide_eq_false q1]
        by_cases q2 : likeN L A j i = likeN L A j r
        · rw [if_pos q2, decide_eq_true q2]
          by_cases q3 : nI r ≤ nI i
          · rw [if_pos q3, decide_eq_false (fun z => ne_of_lt32 z q3)]; rfl
          · rw [if_neg q3, decide_eq_true (Int32.not_le.mp q3)]; rfl
        · rw [if_neg q2, decide_eq_false q2]; rfl
theorem getUp_at {get : Nat → Int32} {m : Nat} (hg : GI A get) (hj : j < 12) (hm : m < 12) : getUp get i j m = if m = j then nI i else if m = i then nI j else if get j = nI m then -2 else get m := by
  unfold getUp
  rw [upd_at]
  by_cases q1 : m = j
  · rw [if_pos q1, if_pos q1]
  · rw [if_neg q1, if_neg q1, upd_at]
    by_cases q2 : m = i
    · rw [if_pos q2, if_pos q2]
    · rw [if_neg q2, if_neg q2]
      by_cases q3 : get j = -2
      · rw [if_pos q3, q3, if_neg (fun z => nI_m2 (show m < 2 ^ 31 by omega) z.symm)]
      · rw [if_neg q3, upd_at]
        rcases hg j hj with z | ⟨r, a, b, c, d, e⟩
        · exact absurd z q3
        · rw [c, nI_clamp (by omega)]
          by_cases q4 : m = r
          · rw [if_pos q4, if_pos (by rw [q4])]
          · rw [if_neg q4, if_neg (fun z => q4 ((nI_eq (by omega) (by omega)).mp z).symm)]
/-- asking, of one that is with nobody -/
theorem c_askNext (wf : WF A) (hL : LawOK L) (hG : Gat A σ) (hB : BDc L A σ) (hS : SRc S σ) (hg : GI A S.2.1) (hi : i < 12) (oi : oneP A i = true) (g0 : S.2.1 i = -2) : ∃ σ', Couples_askNext (nI i) σ = some (bI (!decide (nextS L A (S.1 i) i 12 = 12)), σ') ∧ Fx (fun b _ => b = 130 ∨ b = 147) σ σ' ∧ SRc (stepS L A i S) σ' := by
  obtain ⟨f1, f2, f3, f4⟩ := ix3 12 hi
  unfold Couples_askNext Couples_askNext0
  rw [c_next wf hL hG hB hi oi (hS i hi).1, Option.bind_some]
  unfold stepS
  rw [if_pos g0]
  by_cases q : nextS L A (S.1 i) i 12 = 12
  · refine ⟨σ, ?_, Fx.rf, ?_⟩
    · rw [if_pos q, if_neg (by decide), decide_eq_true q]; rfl
    · rw [if_pos q]; exact hS
  · obtain ⟨n1, n2⟩ := next12 q
    obtain ⟨oj, hne⟩ := cand_oth wf oi n1 n2
    rw [if_neg q, if_neg q, decide_eq_false q]
    generalize nextS L A (S.1 i) i 12 = j at n1 n2 oj hne
    obtain ⟨-, k2, k3, k4⟩ := ix3 12 n1
    have a1 : σ.1 147 i = S.1 i := (hS i hi).1
    have F1 : Fx (fun b _ => b = 130 ∨ b = 147) σ (sI σ 147 i (S.1 i ||| sh1 j)) := Fx_sI (Or.inr rfl)
    have hB1 : BDc L A (sI σ 147 i (S.1 i ||| sh1 j)) := fun i' j' h1 h2 h3 h4 => by
      rw [sI_obj (by omega), sI_obj (by omega)]; exact hB i' j' h1 h2 h3 h4
    have gj : (sI σ 147 i (S.1 i ||| sh1 j)).1 130 j = S.2.1 j := by rw [sI_obj (by decide)]; exact (hS j n1).2
    rw [if_pos (nI_pos' (by omega)), if_pos f2, if_pos k2, f3, k3, a1, show jshl 1 (nI j) = sh1 j from rfl, gj, c_prefers hL hB1 hg hi n1 oi oj, Option.bind_some]
    have s147 : ∀ m, m < 12 → (sI σ 147 i (S.1 i ||| sh1 j)).1 147 m = upd S.1 i (S.1 i ||| sh1 j) m := fun m hm => by
      rw [sI_at, upd_at]
      by_cases z : m = i
      · rw [if_pos ⟨rfl, z⟩, if_pos z]
      · rw [if_neg (fun y => z y.2), if_neg z]; exact (hS m hm).1
    have s130 : ∀ m, m < 12 → (sI σ 147 i (S.1 i ||| sh1 j)).1 130 m = S.2.1 m := fun m hm => by rw [sI_obj (by decide)]; exact (hS m hm).2
    generalize sI σ 147 i (S.1 i ||| sh1 j) = σ1 at F1 s147 s130
    unfold askS
    cases hk : keepS L A S.2.1 j i
    · refine ⟨σ1, by rw [bI_f, if_pos rfl]; rfl, F1, fun m hm => ?_⟩
      rw [if_neg (by decide)]
      exact ⟨s147 m hm, s130 m hm⟩
    · rw [bI_t, if_neg (show ¬ (1 : Int32) = 0 by decide), if_pos rfl]
      have hup := fun m hm => getUp_at (i := i) (m := m) hg n1 hm
      rcases hg j n1 with z | ⟨r, b1, b2, b3, b4, b5⟩
      · rw [z, if_pos (by decide)]
        refine ⟨_, rfl, (F1.tr (Fx_sI (Or.inl rfl))).tr (Fx_sI (Or.inl rfl)), fun m hm => ⟨?_, ?_⟩⟩
        · rw [sI_obj (by decide), sI_obj (by decide)]; exact s147 m hm
        · dsimp only
          rw [hup m hm, z, sI_at]
          by_cases q1 : m = i
          · rw [if_pos ⟨rfl, q1⟩, if_neg (by omega), if_pos q1]
          · rw [if_neg (fun y => q1 y.2), sI_at]
            by_cases q2 : m = j
            · rw [if_pos ⟨rfl, q2⟩, if_pos q2]
            · rw [if_neg (fun y => q2 y.2), if_neg q2, if_neg q1, if_neg (fun y => nI_m2 (show m < 2 ^ 31 by omega) y.symm)]
              exact s130 m hm
      · obtain ⟨-, m2, m3, m4⟩ := ix3 12 b1
        have hri : r ≠ i := fun y => by
          rw [y, g0] at b4; exact nI_m2 (by omega) b4.symm
        rw [b3, if_neg m4, if_pos m2, m3]
        refine ⟨_, rfl, ((F1.tr (Fx_sI (Or.inl rfl))).tr (Fx_sI (Or.inl rfl))).tr (Fx_sI (Or.inl rfl)), fun m hm => ⟨?_, ?_⟩⟩
        · rw [sI_obj (by decide), sI_obj (by decide), sI_obj (by decide)]; exact s147 m hm
        · dsimp only
          rw [hup m hm, b3, sI_at]
          by_cases q0 : m = r
          · rw [if_pos ⟨rfl, q0⟩, if_neg (by omega), if_neg (by omega), if_pos (by rw [q0])]
          · rw [if_neg (fun y => q0 y.2), sI_at]
            by_cases q1 : m = i
            · rw [if_pos ⟨rfl, q1⟩, if_neg (by omega), if_pos q1]
            · rw [if_neg (fun y => q1 y.2), sI_at]
              by_cases q2 : m = j
              · rw [if_pos ⟨rfl, q2⟩, if_pos q2]
              · rw [if_neg (fun y => q2 y.2), if_neg q2, if_neg q1, if_neg (fun y => q0 ((nI_eq (by omega) (by omega)).mp y).symm)]
                exact s130 m hm
end CST
