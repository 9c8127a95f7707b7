/-! most, in the class, to its end -/
section CM2
variable {L : LawF} {σ : MH} {A : Nat → Int32} {i j k n w p q t o x : Nat}
theorem c_choose (wf : WF A) {pr po : List Nat} (h1 : onesL A = pr ++ i :: po) (h7 : σ.1 129 7 = nI (othsL A).length) (hB : BDm L A σ) (hR : RWm L A (pr.length + 1) po σ) (hR0 : RWm L A pr.length (i :: po) σ) (ht : t < 2 ^ (othsL A).length) : ∃ r, Couples_choose (nI pr.length) (nI t) σ = some r ∧ ((chM L A i po (exT A t) = 12 ∧ r = -1) ∨ ∃ pre x post, othsL A = pre ++ x :: post ∧ chM L A i po (exT A t) = x ∧ r = nI pre.length) := by
  have hl := lens (A := A)
  have hp := pre_lt h1
  have hlen := congrArg List.length h1
  rw [List.length_append, List.length_cons] at hlen
  obtain ⟨r, e, hr⟩ : ∃ r, Couples_choose_L2 (nI pr.length) (nI t) σ 0 = some r ∧ ((chM L A i po (exT A t) = 12 ∧ r = -1) ∨ ∃ pre x post, othsL A = pre ++ x :: post ∧ chM L A i po (exT A t) = x ∧ r = nI pre.length) := by
    refine itr_n (othsL A).length (fun (q : Nat) (z : Int32) => z = nI q ∧ ∀ x, x ∈ (othsL A).take q → hitM L A i po (exT A t) x = false) _ ⟨rfl, fun x hx => by cases hx⟩ (fun q z hq hz => ?_) (fun z hz => ?_) (by show (othsL A).length < 1000000; omega)
    · obtain ⟨rfl, hno⟩ := hz
      have e3 : othsL A = (othsL A).take q ++ (othsL A)[q] :: (othsL A).drop (q + 1) := by
        rw [← List.drop_eq_getElem_cons hq, List.take_append_drop]
      have e4 : ((othsL A).take q).length = q := by rw [List.length_take]; omega
      have eT : (othsL A).take (q + 1) = (othsL A).take q ++ [(othsL A)[q]] := by
        rw [List.take_succ, List.getElem?_eq_getElem hq]
        rfl
      have hw := c_withBond wf h1 e3 h7 hB hR ht
      rw [e4] at hw
      generalize (othsL A)[q] = x at e3 hw eT
      obtain ⟨x12, ox⟩ := lstP_mem (mid_mem e3)
      have hb := c_bestOf (σ := σ) (p := pr.length) (t := t) h7 (by omega) (by omega) (fits_in (A := A) (pr := []) (po := []) (by omega) ht)
      rw [hR0 t ht] at hb
      have hpre := lstP_mid 12 _ _ e3
      have v1 := VM_le (L := L) (A := A) po (stB (exT A t) x)
      have v2 := VM_le (L := L) (A := A) (i :: po) (exT A t)
      rw [List.length_cons] at v2
      have v3 : bnd L A i x ≤ 10000 := by unfold bnd; omega
      have hc : ((if okM L A (exT A t) i x = true then nI (bnd L A i x + VM L A po (stB (exT A t) x)) else -1) = nI (VM L A (i :: po) (exT A t))) ↔ hitM L A i po (exT A t) x = true := by
        unfold hitM
        by_cases h : okM L A (exT A t) i x = true
        · rw [if_pos h, h, Bool.true_and, decide_eq_true_iff]
          exact nI_eq (by omega) (by omega)
        · rw [if_neg h, Bool.eq_false_iff.mpr h]
          exact ⟨fun z => absurd z.symm (nI_m1 (by omega)), fun z => by cases z⟩
      by_cases hh : hitM L A i po (exT A t) x = true
      · right
        refine ⟨nI q, ?_, Or.inr ⟨_, x, _, e3, ?_, by rw [e4]⟩⟩
        · show Couples_choose_l2 (nI pr.length) (nI t) (nI q) σ = _
          unfold Couples_choose_l2
          rw [h7, if_neg (by rw [nI_leI (by omega) (by omega)]; omega), hw, Option.bind_some, hb, Option.bind_some, if_pos (hc.mpr hh)]
        · refine fsP_hit x12 hh (fun k hk => ?_)
          by_cases ok : othP A k = true
          · refine hno k ?_
            rw [hpre]
            exact lstP_mem2 hk ok
          · unfold hitM
            have : ¬ okM L A (exT A t) i k = true := fun z => by
              obtain ⟨a, b, -⟩ := ok_fp z
              apply ok
              unfold fpR fitP at a
              simp only [Bool.and_eq_true] at a
              unfold othP
              rw [a.2.2.1, b]
              rfl
            rw [Bool.eq_false_iff.mpr this]
            rfl
      · left
        refine ⟨nI (q + 1), ?_, rfl, fun y hy => ?_⟩
        · show Couples_choose_l2 (nI pr.length) (nI t) (nI q) σ = _
          unfold Couples_choose_l2
          rw [h7, if_neg (by rw [nI_leI (by omega) (by omega)]; omega), hw, Option.bind_some, hb, Option.bind_some, if_neg (fun z => hh (hc.mp z)), show nI q + 1 = nI (q + 1) from nI_1 _]
        · rw [eT] at hy
          rcases List.mem_append.mp hy with h | h
          · exact hno y h
          · rw [List.mem_singleton.mp h]
            exact Bool.eq_false_iff.mpr hh
    · obtain ⟨rfl, hno⟩ := hz
      refine ⟨-1, ?_, Or.inl ⟨?_, rfl⟩⟩
      · show Couples_choose_l2 (nI pr.length) (nI t) (nI (othsL A).length) σ = _
        unfold Couples_choose_l2
        rw [h7, if_pos (Int32.le_refl _)]
      · refine fsP_no (fun k hk => ?_)
        by_cases ok : othP A k = true
        · refine hno k ?_
          rw [List.take_length]
          exact lstP_mem2 hk ok
        · unfold hitM
          have : ¬ okM L A (exT A t) i k = true := fun z => by
            obtain ⟨a, b, -⟩ := ok_fp z
            apply ok
            unfold fpR fitP at a
            simp only [Bool.and_eq_true] at a
            unfold othP
            rw [a.2.2.1, b]
            rfl
          rw [Bool.eq_false_iff.mpr this]
          rfl
  refine ⟨r, ?_, hr⟩
  unfold Couples_choose Couples_choose0
  rw [e]
  rfl
theorem fp_of (h1 : oneP A i = true) (h2 : othP A j = true) : fpR L A i j = fitR L A i j := by
  unfold fpR fitP
  rw [one_live h1, oth_live h2, decide_eq_false (fun z => one_ne_oth h1 h2 z.symm)]
  rfl
/-- one pair's bond -/
theorem c_mb1 (hD : LD 1 A σ) (wf : WF A) (hL : LawOK L) (hC : LawC L σ) (hi : i < 12) (hj : j < 12) (oi : oneP A i = true) (oj : othP A j = true) {p q : Nat} (hp : p < 12) (hq : q < 12) (hql : ¬ σ.1 129 7 ≤ nI q) (e1 : σ.1 131 p = nI i) (e2 : σ.1 132 q = nI j) : ∃ σ', Couples_findMost_l17 1 (nI p) (nI q) σ = some (.inl (nI (q + 1), σ')) ∧ Fx (fun b k => b = 116 ∨ b = 127 ∨ (b = 134 + p ∧ k = q)) σ σ' ∧ σ'.1 (134 + p) q = if fpR L A i j = true then nI (bnd L A i j) else 0 := by
  obtain ⟨f1, f2, f3, f4⟩ := ix3 12 hp
  obtain ⟨g1, g2, g3, g4⟩ := ix3 12 hq
  have Ti := live_told (one_live oi)
  have Tj := live_told (oth_live oj)
  obtain ⟨σ1, d1, p1⟩ := c_fit ld1 hD wf hL hC hi hj Ti Tj
  have hD1 := LD_PJ ld1 hD p1
  have r1 : σ1.1 131 p = nI i := (p1 131 p (by unfold PJ; omega)).trans e1
  have r2 : σ1.1 132 q = nI j := (p1 132 q (by unfold PJ; omega)).trans e2
  unfold Couples_findMost_l17 Couples_findMost_b87
  rw [if_neg hql, if_pos f2, if_pos g2, f3, g3, e1, e2, d1, Option.bind_some]
  dsimp only
  simp only [rfB hp, g2, g3, if_true, r1, r2, c_slackOf ld1 hD1 wf hi hj Ti Tj, Option.bind_some, fp_of oi oj, show nI q + 1 = nI (q + 1) from nI_1 _]
  cases hf : fitR L A i j
  · rw [bI_f, if_pos rfl, if_neg (by decide)]
    refine ⟨_, rfl, fun b m hb => ?_, sI_same⟩
    rw [sI_ne (by omega)]
    exact p1 b m (by unfold PJ; omega)
  · rw [bI_t, if_neg (show ¬ (1 : Int32) = 0 by decide), if_pos rfl]
    have hfp : fpR L A i j = true := (fp_of oi oj).trans hf
    obtain ⟨s1, s2⟩ := sl_ok wf hfp
    have s3 : slackR A i j = nI (slN L A i j) := by
      rw [← s1]; unfold slackN; rw [if_pos hfp]
    refine ⟨_, rfl, fun b m hb => ?_, ?_⟩
    · rw [sI_ne (by omega)]
      exact p1 b m (by unfold PJ; omega)
    · rw [sI_same, s3, lit_nI 10000, pk_sub (by omega)]
      rfl
theorem c_mbs (hD : LD 1 A σ) (wf : WF A) (hL : LawOK L) (hC : LawC L σ) (hG : Gat A σ) : ∃ σ', Couples_findMost_L7 1 (0, σ) = some σ' ∧ Fx (fun b _ => b = 116 ∨ b = 127 ∨ (134 ≤ b ∧ b < 146)) σ σ' ∧ BDm L A σ' := by
  have hl := lens (A := A)
  have inner : ∀ (pre post : List Nat) (x : Nat) (τ : MH), onesL A = pre ++ x :: post → LD 1 A τ → LawC L τ → Gat A τ → ∃ r, Couples_findMost_L17 1 (nI pre.length) (0, τ) = some r ∧ Fx (fun b _ => b = 116 ∨ b = 127 ∨ b = 134 + pre.length) τ r ∧ (∀ q j, (othsL A)[q]? = some j → r.1 (134 + pre.length) q = if fpR L A x j = true then nI (bnd L A x j) else 0) := by
    intro pre post x τ hx hDt hCt hGt
    obtain ⟨x12, ox⟩ := ones_mem x (mid_mem hx)
    have hp : pre.length < 12 := Nat.lt_of_lt_of_le (pre_lt hx) (len12 _)
    refine itr_list (othsL A) (fun pq (z : Int32 × MH) => z.1 = nI pq.length ∧ Fx (fun b _ => b = 116 ∨ b = 127 ∨ b = 134 + pre.length) τ z.2 ∧ ∀ q j, pq[q]? = some j → z.2.1 (134 + pre.length) q = if fpR L A x j = true then nI (bnd L A x j) else 0) _ ⟨rfl, Fx.rf, fun q j hj => (by simp at hj)⟩ (fun pq y qp z hy hz => ?_) (fun z hz => ?_) (by show (othsL A).length < 1000000; omega)
    · obtain ⟨z1, z2⟩ := z
      obtain ⟨rfl, hf, hv⟩ := hz
      dsimp only at hf hv
      obtain ⟨y12, oy⟩ := lstP_mem (mid_mem hy)
      have hpl := pre_lt hy
      have hq : pq.length < 12 := by omega
      have hGz : z2.1 129 7 = nI (othsL A).length := (hf 129 7 (by omega)).trans hGt.2.1
      have a1 : z2.1 131 pre.length = nI x := (hf 131 _ (by omega)).trans (AR_at hGt.2.2.1 hx)
      have a2 : z2.1 132 pq.length = nI y := (hf 132 _ (by omega)).trans (AR_at hGt.2.2.2 hy)
      obtain ⟨σ', e, g, v1⟩ := c_mb1 (LD_of hDt (fun b m s t => hf b m (by omega))) wf hL (LawC_of hCt (fun b m s t => hf b m (by omega))) x12 y12 ox oy hp hq (by rw [hGz, nI_leI (by omega) (by omega)]; omega) a1 a2
      refine ⟨(nI (pq.length + 1), σ'), e, by rw [List.length_append]; rfl, fun b m hb => (g b m (by omega)).trans (hf b m hb), fun q j hj => ?_⟩
      dsimp only
      by_cases c : q = pq.length
      · subst c
        rw [List.getElem?_append_right (Nat.le_refl _), Nat.sub_self] at hj
        cases hj
        exact v1
      · rw [g _ q (by omega)]
        have hlt : q < pq.length := by
          have := (List.getElem?_eq_some_iff.mp hj).1
          rw [List.length_append, List.length_singleton] at this
          omega
        rw [List.getElem?_append_left hlt] at hj
        exact hv q j hj
    · obtain ⟨z1, z2⟩ := z
      obtain ⟨rfl, hf, hv⟩ := hz
      refine ⟨z2, ?_, hf, hv⟩
      show Couples_findMost_l17 1 (nI pre.length) (nI (othsL A).length) z2 = _
      have hGz : z2.1 129 7 = nI (othsL A).length := (hf 129 7 (by omega)).trans hGt.2.1
      unfold Couples_findMost_l17
      rw [hGz, if_pos (Int32.le_refl _)]
  refine itr_list (onesL A) (fun pre (z : Int32 × MH) => z.1 = nI pre.length ∧ Fx (fun b _ => b = 116 ∨ b = 127 ∨ (134 ≤ b ∧ b < 146)) σ z.2 ∧ ∀ p q i j, pre[p]? = some i → (othsL A)[q]? = some j → z.2.1 (134 + p) q = if fpR L A i j = true then nI (bnd L A i j) else 0) _ ⟨rfl, Fx.rf, fun p q i j hi => (by simp at hi)⟩ (fun pre x post z hx hz => ?_) (fun z hz => ?_) (by show (onesL A).length < 1000000; omega)
  · obtain ⟨z1, z2⟩ := z
    obtain ⟨rfl, hf, hv⟩ := hz
    dsimp only at hf hv
    have hpl := pre_lt hx
    have hGz : Gat A z2 := ⟨(hf 129 6 (by omega)).trans hG.1, (hf 129 7 (by omega)).trans hG.2.1, AR_of hG.2.2.1 (fun p => hf 131 p (by omega)), AR_of hG.2.2.2 (fun p => hf 132 p (by omega))⟩
    obtain ⟨r, e, g, v⟩ := inner pre post x z2 hx (LD_of hD (fun b m s t => hf b m (by omega))) (LawC_of hC (fun b m s t => hf b m (by omega))) hGz
    refine ⟨(nI (pre.length + 1), r), ?_, by rw [List.length_append]; rfl, hf.tr (g.mo (fun b k h => by omega)), fun p q i j hi hj => ?_⟩
    · show Couples_findMost_l7 1 (nI pre.length) z2 = _
      unfold Couples_findMost_l7
      rw [hGz.1, if_neg (by rw [nI_leI (by omega) (by omega)]; omega), e, Option.bind_some, show nI pre.length + 1 = nI (pre.length + 1) from nI_1 _]
    · dsimp only
      by_cases c : p = pre.length
      · subst c
        rw [List.getElem?_append_right (Nat.le_refl _), Nat.sub_self] at hi
        cases hi
        exact v q j hj
      · have hlt : p < pre.length := by
          have := (List.getElem?_eq_some_iff.mp hi).1
          rw [List.length_append, List.length_singleton] at this
          omega
        rw [g _ q (by omega)]
        rw [List.getElem?_append_left hlt] at hi
        exact hv p q i j hi hj
  · obtain ⟨z1, z2⟩ := z
    obtain ⟨rfl, hf, hv⟩ := hz
    refine ⟨z2, ?_, hf, hv⟩
    show Couples_findMost_l7 1 (nI (onesL A).length) z2 = _
    have hGz : z2.1 129 6 = nI (onesL A).length := (hf 129 6 (by omega)).trans hG.1
    unfold Couples_findMost_l7
    rw [hGz, if_pos (Int32.le_refl _)]
def mostG (L : LawF) (A : Nat → Int32) (m : Nat) : Int32 := if gtM L A m = 12 then -2 else nI (gtM L A m)
def fdM (L : LawF) (A : Nat → Int32) (l : List Nat) : SM := l.foldl (fun S k => sgM L A k S) ((fun _ => false, 0, 0) : SM)
theorem st_pre : fdM L A (lstP (oneP A) x) = stM L A x := fo_list (oneP A) (fun k S => sgM L A k S) x _
theorem st_fold : fdM L A (onesL A) = stM L A 12 := st_pre
theorem fd_app (l : List Nat) (x : Nat) : fdM L A (l ++ [x]) = sgM L A x (fdM L A l) := by
  unfold fdM
  rw [List.foldl_append, List.foldl_cons, List.foldl_nil]
theorem fd_0 : fdM L A [] = (fun _ => false, 0, 0) := rfl
theorem c_take (wf : WF A) (hG : Gat A σ) (hB : BDm L A σ) (hR : ∀ p, p ≤ (onesL A).length → RWm L A p ((onesL A).drop p) σ) (h2 : σ.1 129 2 = 0) (h3 : σ.1 129 3 = 0) (hm : ∀ m, m < 12 → σ.1 130 m = -2) : ∃ σ', Couples_findMost_L108 (0, 0, σ) = some σ' ∧ Fx (fun b k => b = 130 ∨ (b = 129 ∧ (k = 2 ∨ k = 3))) σ σ' ∧ σ'.1 129 2 = nI (stM L A 12).2.1 ∧ σ'.1 129 3 = nI (stM L A 12).2.2 ∧ ∀ m, m ∈ onesL A → σ'.1 130 m = mostG L A m := by
  have hl := lens (A := A)
  rw [← st_fold]
  refine itr_list (onesL A) (fun pre (z : Int32 × Int32 × MH) => (∃ t, z.1 = nI t ∧ t < 2 ^ (othsL A).length ∧ exT A t = (fdM L A pre).1) ∧ z.2.1 = nI pre.length ∧ Fx (fun b k => b = 130 ∨ (b = 129 ∧ (k = 2 ∨ k = 3))) σ z.2.2 ∧ z.2.2.1 129 2 = nI (fdM L A pre).2.1 ∧ z.2.2.1 129 3 = nI (fdM L A pre).2.2 ∧ ∀ m, m < 12 → z.2.2.1 130 m = if m ∈ pre then mostG L A m else -2) _ ⟨⟨0, rfl, Nat.two_pow_pos _, exT_0⟩, rfl, Fx.rf, h2, h3, fun m hm' => by rw [if_neg (by simp)]; exact hm m hm'⟩ (fun pre x post z hx hz => ?_) (fun z hz => ?_) (by show (onesL A).length < 1000000; omega)
  · obtain ⟨z1, z2, z3⟩ := z
    obtain ⟨⟨t, e1, ht, hT⟩, e2, hf, v2, v3, hv⟩ := hz
    dsimp only at e1 e2 hf v2 v3 hv
    subst e1; subst e2
    obtain ⟨x12, ox⟩ := ones_mem x (mid_mem hx)
    obtain ⟨hpre, hpost⟩ := ones_mid hx
    have hpl := pre_lt hx
    have hst : fdM L A pre = stM L A x := by rw [hpre]; exact st_pre
    have hfo : fdM L A (pre ++ [x]) = sgM L A x (stM L A x) := by
      rw [fd_app, hst]
    have hsum := st_sum (L := L) wf x (by omega)
    rw [hst] at hT v2 v3
    rw [hfo]
    have hBz : BDm L A z3 := fun p q i j a b => by rw [hf (134 + p) q (by omega)]; exact hB p q i j a b
    have hdrop : (onesL A).drop pre.length = x :: post := by
      rw [hx, List.drop_left]
    have hdrop1 : (onesL A).drop (pre.length + 1) = post := by
      rw [hx, List.drop_append, List.drop_eq_nil_of_le (by omega), Nat.add_sub_cancel_left]
      rfl
    have hR0 : RWm L A pre.length (x :: post) z3 := fun t ht => by
      rw [hf 146 _ (by omega), ← hdrop]; exact hR _ (by omega) t ht
    have hR1 : RWm L A (pre.length + 1) post z3 := fun t ht => by
      rw [hf 146 _ (by omega), ← hdrop1]; exact hR _ (by omega) t ht
    have h7 : z3.1 129 7 = nI (othsL A).length := (hf 129 7 (by omega)).trans hG.2.1
    have h6 : z3.1 129 6 = nI (onesL A).length := (hf 129 6 (by omega)).trans hG.1
    have a1 : z3.1 131 pre.length = nI x := (hf 131 _ (by omega)).trans (AR_at hG.2.2.1 hx)
    obtain ⟨r, er, hr⟩ := c_choose wf hx h7 hBz hR1 hR0 ht
    rw [hT, hpost] at hr
    have hgt : gtM L A x = chM L A x (frm A (11 - x)) (stM L A x).1 := rfl
    have e9 : nI pre.length + 1 = nI (pre.length + 1) := nI_1 _
    have hnx : x ∉ pre := fun z => by
      rw [hpre] at z
      exact absurd (lstP_mem z).1 (Nat.lt_irrefl _)
    show ∃ z', Couples_findMost_l108 (nI t) (nI pre.length) z3 = _ ∧ _
    unfold Couples_findMost_l108 Couples_findMost_b195
    rw [h6, if_neg (by rw [nI_leI (by omega) (by omega)]; omega), er, Option.bind_some, e9, h7]
    rcases hr with ⟨c, rfl⟩ | ⟨qr, y, qs, hy, c, rfl⟩
    · have hsg : sgM L A x (stM L A x) = stM L A x := by unfold sgM; rw [if_pos c]
      rw [hsg, if_pos (by decide)]
      refine ⟨_, rfl, ⟨t, rfl, ht, hT⟩, by rw [List.length_append]; rfl, hf, v2, v3, fun m hm' => ?_⟩
      dsimp only
      rw [hv m hm']
      by_cases d : m = x
      · subst d
        rw [if_neg hnx, if_pos (by simp)]
        unfold mostG
        rw [hgt, if_pos c]
      · by_cases d2 : m ∈ pre
        · rw [if_pos d2, if_pos (by simp [d2])]
        · rw [if_neg d2, if_neg (by simp [d2, d])]
    · obtain ⟨y12, oy⟩ := lstP_mem (mid_mem hy)
      have hql := pre_lt hy
      have c12 : chM L A x (frm A (11 - x)) (stM L A x).1 ≠ 12 := by omega
      have hsg : sgM L A x (stM L A x) = (stB (stM L A x).1 y, (stM L A x).2.1 + 1, (stM L A x).2.2 + slN L A x y) := by unfold sgM; rw [if_neg c12, c]
      obtain ⟨-, ok, -⟩ := VM_ch c12
      rw [c] at ok
      have hfp := (ok_fp ok).1
      obtain ⟨s1, s2⟩ := sl_ok wf hfp
      have b := bnd_sl wf hfp
      obtain ⟨f1, f2, f3, f4⟩ := ix3 12 (show pre.length < 12 by omega)
      obtain ⟨g1, g2, g3, g4⟩ := ix3 12 (show qr.length < 12 by omega)
      obtain ⟨-, k2, k3, -⟩ := ix3 12 x12
      have hbd := hBz _ _ _ _ (at_mid hx) (at_mid hy)
      rw [if_pos hfp] at hbd
      have a2 : z3.1 132 qr.length = nI y := (hf 132 _ (by omega)).trans (AR_at hG.2.2.2 hy)
      rw [hsg, if_neg g4, if_neg (by rw [nI_leI (by omega) (by omega)]; omega), if_pos f2, if_pos g2, f3, g3, rfB (by omega), or_nI (by omega)]
      simp only [sI_obj (show 134 + pre.length ≠ 129 by omega), sI_obj (show 131 ≠ 129 by decide), sI_obj (show 132 ≠ 129 by decide), sI_fld (show 3 ≠ 2 by decide), hbd, v2, v3, a1, a2, k2, k3, if_true, lit_nI 10000, lit_nI 1, nI_add]
      rw [pk_sub (show bnd L A x y ≤ 10000 by omega), nI_add, show 10000 - bnd L A x y = slN L A x y by omega]
      refine ⟨_, rfl, ⟨_, rfl, or_lt ht hql, ?_⟩, by rw [List.length_append]; rfl, ((hf.tr (Fx_sI (Or.inr ⟨rfl, Or.inl rfl⟩))).tr (Fx_sI (Or.inr ⟨rfl, Or.inr rfl⟩))).tr (Fx_sI (Or.inl rfl)), ?_, ?_, fun m hm' => ?_⟩
      · rw [exT_or hy, hT]
      · dsimp only
        rw [sI_obj (by decide), sI_fld (by decide), sI_same]
      · dsimp only
        rw [sI_obj (by decide), sI_same]
      · dsimp only
        by_cases d : m = x
        · subst d
          rw [sI_same, if_pos (by simp)]
          unfold mostG
          rw [hgt, if_neg c12, c]
        · rw [sI_ne (by omega), sI_ne (by omega), sI_ne (by omega), hv m hm']
          by_cases d2 : m ∈ pre
          · rw [if_pos d2, if_pos (by simp [d2])]
          · rw [if_neg d2, if_neg (by simp [d2, d])]
  · obtain ⟨z1, z2, z3⟩ := z
    obtain ⟨⟨t, e1, ht, hT⟩, e2, hf, v2, v3, hv⟩ := hz
    dsimp only at e1 e2 hf v2 v3 hv
    subst e1; subst e2
    refine ⟨z3, ?_, hf, v2, v3, fun m hm' => by rw [hv m (ones_mem m hm').1, if_pos hm']⟩
    show Couples_findMost_l108 (nI t) (nI (onesL A).length) z3 = _
    have h6 : z3.1 129 6 = nI (onesL A).length := (hf 129 6 (by omega)).trans hG.1
    unfold Couples_findMost_l108
    rw [h6, if_pos (Int32.le_refl _)]
theorem c_findMost (hD : LD 1 A σ) (wf : WF A) (hL : LawOK L) (hC : LawC L σ) : ∃ σ', Couples_findMost 1 σ = some σ' ∧ Fx PG σ σ' ∧ σ'.1 129 2 = nI (stM L A 12).2.1 ∧ σ'.1 129 3 = nI (stM L A 12).2.2 ∧ ∀ m, m ∈ onesL A → σ'.1 130 m = mostG L A m := by
  obtain ⟨σ1, e1, p1, hG, hm, h2, h3⟩ := c_gather hD wf
  obtain ⟨σ2, e2, p2, hB⟩ := c_mbs (LD_PG hD p1) wf hL (LawC_PG hC p1) hG
  have hG2 : Gat A σ2 := ⟨(p2 129 6 (by omega)).trans hG.1, (p2 129 7 (by omega)).trans hG.2.1, AR_of hG.2.2.1 (fun p => p2 131 p (by omega)), AR_of hG.2.2.2 (fun p => p2 132 p (by omega))⟩
  obtain ⟨σ3, e3, p3, hR⟩ := c_weighAll wf hG2 hB
  have hG3 : Gat A σ3 := ⟨(p3 129 6 (by omega)).trans hG2.1, (p3 129 7 (by omega)).trans hG2.2.1, AR_of hG2.2.2.1 (fun p => p3 131 p (by omega)), AR_of hG2.2.2.2 (fun p => p3 132 p (by omega))⟩
  have hB3 : BDm L A σ3 := fun p q i j a b => by
    have hp : p < (onesL A).length := (List.getElem?_eq_some_iff.mp a).1
    have := lens (A := A)
    rw [p3 (134 + p) q (by omega)]; exact hB p q i j a b
  obtain ⟨σ4, e4, p4, v2, v3, hv⟩ := c_take wf hG3 hB3 hR ((p3 129 2 (by omega)).trans ((p2 129 2 (by omega)).trans h2)) ((p3 129 3 (by omega)).trans ((p2 129 3 (by omega)).trans h3)) (fun m hm' => (p3 130 m (by omega)).trans ((p2 130 m (by omega)).trans (hm m hm').1))
  refine ⟨σ4, ?_, ((p1.tr (p2.mo (fun b k q => by unfold PG; omega))).tr (p3.mo (fun b k q => by unfold PG; omega))).tr (p4.mo (fun b k q => by unfold PG; omega)), v2, v3, hv⟩
  unfold Couples_findMost Couples_findMost0
  rw [e1, Option.bind_some, e2, Option.bind_some, e3, Option.bind_some, e4]
  rfl
end CM2
