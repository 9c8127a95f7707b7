/-! stable, to its end -/
section MST
variable {L : LawF} {σ : MH} {A : Nat → Int32} {i j k n w : Nat} {a : Int32} {S : SS}
theorem fold_app (l : List Nat) (x : Nat) (S : SS) : foldS L A (l ++ [x]) S = stepS L A x (foldS L A l S) := by
  unfold foldS
  rw [List.foldl_append]
  rfl
theorem step_flag (hg : S.2.1 i = -2) : (stepS L A i S).2.2 = (S.2.2 || !decide (nextS L A (S.1 i) i 12 = 12)) := by
  unfold stepS
  rw [if_pos hg]
  by_cases q : nextS L A (S.1 i) i 12 = 12
  · rw [if_pos q, decide_eq_true q, Bool.not_true, Bool.or_false]
  · rw [if_neg q, decide_eq_false q, Bool.not_false, Bool.or_true]
    rfl
/-! a round of the class -/
theorem c_round (wf : WF A) (hL : LawOK L) (hG : Gat A σ) (hB : BDc L A σ) (hS : SRc S σ) (hg : GI A S.2.1) (v3 : Int32) : ∃ r, Couples_findStable_L149 v3 (0, 0, σ) = some r ∧ r.1 = bI (roundS L A S).2.2 ∧ SRc (roundS L A S) r.2 ∧ Fx (fun b _ => b = 130 ∨ b = 147) σ r.2 := by
  unfold roundS
  refine itr_list (onesL A) (fun pre (z : Int32 × Int32 × MH) => z.1 = bI (foldS L A pre (S.1, S.2.1, false)).2.2 ∧ z.2.1 = nI pre.length ∧ SRc (foldS L A pre (S.1, S.2.1, false)) z.2.2 ∧ Fx (fun b _ => b = 130 ∨ b = 147) σ z.2.2 ∧ GI A (foldS L A pre (S.1, S.2.1, false)).2.1) _ ⟨rfl, rfl, hS, Fx.rf, hg⟩ (fun pre x post z hx hz => ?_) (fun z hz => ?_) (by have := len12 (oneP A); show (onesL A).length < 1000000; unfold onesL; omega)
  · obtain ⟨z1, z2, z3⟩ := z
    obtain ⟨e1, e2, hs, hf, hgi⟩ := hz
    dsimp only at e1 e2 hs hf
    subst e1; subst e2
    obtain ⟨x12, ox⟩ := ones_mem x (mid_mem hx)
    obtain ⟨-, k2, k3, -⟩ := ix3 12 x12
    have hpl := pre_lt hx
    have hl := len12 (oneP A)
    have hq : pre.length < 12 := Nat.lt_of_lt_of_le hpl (len12 _)
    obtain ⟨g1, g2, g3, g4⟩ := ix3 12 hq
    have hGz : Gat A z3 := ⟨(hf 129 6 (by omega)).trans hG.1, (hf 129 7 (by omega)).trans hG.2.1, AR_of hG.2.2.1 (fun p => hf 131 p (by omega)), AR_of hG.2.2.2 (fun p => hf 132 p (by omega))⟩
    have hBz : BDc L A z3 := fun i j h1 h2 h3 h4 => by
      rw [hf (134 + i) j (by omega), hf (134 + j) i (by omega)]; exact hB i j h1 h2 h3 h4
    have a1 : z3.1 131 pre.length = nI x := AR_at hGz.2.2.1 hx
    have a2 : z3.1 130 x = (foldS L A pre (S.1, S.2.1, false)).2.1 x := (hs x x12).2
    have e9 : nI pre.length + 1 = nI (pre.length + 1) := nI_1 _
    have hfa := fold_app (L := L) (A := A) pre x (S.1, S.2.1, false)
    show ∃ z', Couples_findStable_l149 v3 _ (nI pre.length) z3 = _ ∧ _
    rw [hfa]
    have hgs := GI_step (L := L) wf x12 ox hgi
    generalize foldS L A pre (S.1, S.2.1, false) = U at hs hgi a2 hgs
    unfold Couples_findStable_l149 Couples_findStable_b191
    rw [hGz.1, if_neg (by rw [nI_leI (by unfold onesL; omega) (by omega)]; omega), if_pos g2, g3, a1, if_pos k2, k3, a2, e9]
    by_cases q : U.2.1 x = -2
    · obtain ⟨σ', e, p, hs'⟩ := c_askNext wf hL hGz hBz hs hgi x12 ox q
      rw [if_pos q, e, Option.bind_some]
      dsimp only
      have hfl := step_flag (L := L) (A := A) q
      refine ⟨(bI (stepS L A x U).2.2, nI (pre.length + 1), σ'), ?_, rfl, by rw [List.length_append]; rfl, hs', hf.tr p, hgs⟩
      rw [hfl]
      cases decide (nextS L A (U.1 x) x 12 = 12)
      · rw [Bool.not_false, bI_t, if_neg (show ¬ (1 : Int32) = 0 by decide), Bool.or_true]; rfl
      · rw [Bool.not_true, bI_f, if_pos rfl, Bool.or_false]
    · rw [if_neg q]
      have hst : stepS L A x U = U := by unfold stepS; rw [if_neg q]
      refine ⟨_, rfl, ?_, by rw [List.length_append]; rfl, ?_, hf, hgs⟩
      · rw [hst]
      · rw [hst]; exact hs
  · obtain ⟨z1, z2, z3⟩ := z
    obtain ⟨e1, e2, hs, hf, hgi⟩ := hz
    dsimp only at e1 e2 hs hf
    subst e1; subst e2
    refine ⟨(_, z3), ?_, rfl, hs, hf⟩
    show Couples_findStable_l149 v3 _ (nI (onesL A).length) z3 = _
    have hGz : z3.1 129 6 = nI (onesL A).length := (hf 129 6 (by omega)).trans hG.1
    unfold Couples_findStable_l149
    rw [hGz, if_pos (Int32.le_refl _)]
    rfl
theorem c_rounds (wf : WF A) (hL : LawOK L) (hG : Gat A σ) (hB : BDc L A σ) (h0 : SRc (RdS L A 0) σ) : ∃ r, Couples_findStable_L133 (1, 0, σ) = some r ∧ SRc (RdS L A 145) r ∧ Fx (fun b _ => b = 130 ∨ b = 147) σ r := by
  refine itr_n 145 (fun (r : Nat) (z : Int32 × Int32 × MH) => z.1 = bI (RdS L A r).2.2 ∧ z.2.1 = nI r ∧ SRc (RdS L A r) z.2.2 ∧ Fx (fun b _ => b = 130 ∨ b = 147) σ z.2.2) _ ⟨rfl, rfl, h0, Fx.rf⟩ (fun r z hr hz => ?_) (fun z hz => ?_)
  · obtain ⟨z1, z2, z3⟩ := z
    obtain ⟨e1, e2, hs, hf⟩ := hz
    dsimp only at e1 e2 hs hf
    subst e1; subst e2
    cases q : (RdS L A r).2.2
    · right
      refine ⟨z3, ?_, ?_, hf⟩
      · show Couples_findStable_l133 (bI false) (nI r) z3 = _
        unfold Couples_findStable_l133
        rw [bI_f, if_pos rfl]
      · rw [Rd_final (by omega) q]; exact hs
    · left
      have hGz : Gat A z3 := ⟨(hf 129 6 (by omega)).trans hG.1, (hf 129 7 (by omega)).trans hG.2.1, AR_of hG.2.2.1 (fun p => hf 131 p (by omega)), AR_of hG.2.2.2 (fun p => hf 132 p (by omega))⟩
      have hBz : BDc L A z3 := fun i j h1 h2 h3 h4 => by
        rw [hf (134 + i) j (by omega), hf (134 + j) i (by omega)]; exact hB i j h1 h2 h3 h4
      obtain ⟨u, e, u1, u2, u3⟩ := c_round wf hL hGz hBz hs (GI_Rd wf r) (nI r)
      refine ⟨(u.1, nI (r + 1), u.2), ?_, u1, rfl, u2, hf.tr u3⟩
      show Couples_findStable_l133 (bI true) (nI r) z3 = _
      unfold Couples_findStable_l133
      rw [bI_t, if_neg (show ¬ (1 : Int32) = 0 by decide), if_neg (mt (ltR 144 (by omega) (by decide)).mp (by omega)), e, Option.bind_some, lit_nI 1, nI_add]
  · obtain ⟨z1, z2, z3⟩ := z
    obtain ⟨e1, e2, hs, hf⟩ := hz
    dsimp only at e1 e2 hs hf
    subst e1; subst e2
    refine ⟨z3, ?_, hs, hf⟩
    show Couples_findStable_l133 (bI (RdS L A 145).2.2) (nI 145) z3 = _
    unfold Couples_findStable_l133
    rw [Rd_end, bI_f, if_pos rfl]
theorem c_twos (hG : Gat A σ) {get : Nat → Int32} (hS : ∀ m, m < 12 → σ.1 130 m = get m) (h2 : σ.1 129 2 = 0) : ∃ r, Couples_findStable_b203 σ = some r ∧ r.1 129 2 = nI (cnN (fun i => oneP A i && !decide (get i = -2)) 12) ∧ Fx (fun b k => b = 129 ∧ k = 2) σ r := by
  have hfo : ∀ n, n ≤ 12 → cnN (fun i => oneP A i && !decide (get i = -2)) n = (lstP (oneP A) n).foldl (fun s i => s + bN (!decide (get i = -2))) 0 := fun n => by
    induction n with
    | zero => intro _; rfl
    | succ n ih =>
      intro hn
      rw [cnN_s, ih (by omega), lstP_s, List.foldl_append]
      cases oneP A n
      · rfl
      · rfl
  rw [hfo 12 (Nat.le_refl _)]
  obtain ⟨r, e, h1, h3⟩ : ∃ r, Couples_findStable_L205 (0, σ) = some r ∧ r.1 129 2 = nI ((onesL A).foldl (fun s i => s + bN (!decide (get i = -2))) 0) ∧ Fx (fun b k => b = 129 ∧ k = 2) σ r := by
    refine itr_list (onesL A) (fun pre (z : Int32 × MH) => z.1 = nI pre.length ∧ z.2.1 129 2 = nI (pre.foldl (fun s i => s + bN (!decide (get i = -2))) 0) ∧ Fx (fun b k => b = 129 ∧ k = 2) σ z.2) _ ⟨rfl, h2, Fx.rf⟩ (fun pre x post z hx hz => ?_) (fun z hz => ?_) (by have := len12 (oneP A); show (onesL A).length < 1000000; unfold onesL; omega)
    · obtain ⟨z1, z2⟩ := z
      obtain ⟨rfl, hv, hf⟩ := hz
      dsimp only at hv hf
      obtain ⟨x12, ox⟩ := ones_mem x (mid_mem hx)
      obtain ⟨-, k2, k3, -⟩ := ix3 12 x12
      have hpl := pre_lt hx
      have hl := len12 (oneP A)
      have hq : pre.length < 12 := Nat.lt_of_lt_of_le hpl (len12 _)
      obtain ⟨g1, g2, g3, g4⟩ := ix3 12 hq
      have hG6 : z2.1 129 6 = nI (onesL A).length := (hf 129 6 (by omega)).trans hG.1
      have a1 : z2.1 131 pre.length = nI x := (hf 131 _ (by omega)).trans (AR_at hG.2.2.1 hx)
      have a2 : z2.1 130 x = get x := (hf 130 x (by omega)).trans (hS x x12)
      have e9 : nI pre.length + 1 = nI (pre.length + 1) := nI_1 _
      show ∃ z', Couples_findStable_l205 (nI pre.length) z2 = _ ∧ _
      unfold Couples_findStable_l205 Couples_findStable_b239
      rw [hG6, if_neg (by rw [nI_leI (by unfold onesL; omega) (by omega)]; omega), if_pos g2, g3, a1, if_pos k2, k3, a2, e9, hv]
      by_cases q : get x = -2
      · rw [if_pos q]
        refine ⟨_, rfl, by rw [List.length_append]; rfl, ?_, hf.tr (Fx_sI ⟨rfl, rfl⟩)⟩
        dsimp only
        rw [List.foldl_append, sI_same, Int32.add_zero]
        show _ = nI (_ + bN (!decide (get x = -2)))
        rw [decide_eq_true q]; rfl
      · rw [if_neg q]
        refine ⟨_, rfl, by rw [List.length_append]; rfl, ?_, hf.tr (Fx_sI ⟨rfl, rfl⟩)⟩
        dsimp only
        rw [List.foldl_append, sI_same]
        show _ = nI (_ + bN (!decide (get x = -2)))
        rw [decide_eq_false q]
        exact nI_1 _
    · obtain ⟨z1, z2⟩ := z
      obtain ⟨rfl, hv, hf⟩ := hz
      refine ⟨z2, ?_, hv, hf⟩
      show Couples_findStable_l205 (nI (onesL A).length) z2 = _
      have hG6 : z2.1 129 6 = nI (onesL A).length := (hf 129 6 (by omega)).trans hG.1
      unfold Couples_findStable_l205
      rw [hG6, if_pos (Int32.le_refl _)]
  refine ⟨r, ?_, h1, h3⟩
  unfold Couples_findStable_b203
  rw [e]
  rfl
def stTwos (L : LawF) (A : Nat → Int32) : Nat := cnN (fun i => oneP A i && !decide ((RdS L A 145).2.1 i = -2)) 12
theorem c_findStable (hD : LD 1 A σ) (wf : WF A) (hL : LawOK L) (hC : LawC L σ) : ∃ σ', Couples_findStable 1 σ = some σ' ∧ Fx PG σ σ' ∧ σ'.1 129 2 = nI (stTwos L A) ∧ ∀ m, m < 12 → σ'.1 130 m = (RdS L A 145).2.1 m := by
  obtain ⟨σ1, e1, p1, hG, hm, h2, -⟩ := c_gather hD wf
  obtain ⟨σ2, e2, p2, hB⟩ := c_bonds (LD_PG hD p1) wf hL (LawC_PG hC p1) hG
  have hG2 : Gat A σ2 := ⟨(p2 129 6 (by omega)).trans hG.1, (p2 129 7 (by omega)).trans hG.2.1, AR_of hG.2.2.1 (fun p => p2 131 p (by omega)), AR_of hG.2.2.2 (fun p => p2 132 p (by omega))⟩
  have h0 : SRc (RdS L A 0) σ2 := fun m hm' => ⟨(p2 147 m (by omega)).trans (hm m hm').2, (p2 130 m (by omega)).trans (hm m hm').1⟩
  obtain ⟨σ3, e3, h3, p3⟩ := c_rounds wf hL hG2 hB h0
  have hG3 : Gat A σ3 := ⟨(p3 129 6 (by omega)).trans hG2.1, (p3 129 7 (by omega)).trans hG2.2.1, AR_of hG2.2.2.1 (fun p => p3 131 p (by omega)), AR_of hG2.2.2.2 (fun p => p3 132 p (by omega))⟩
  obtain ⟨σ4, e4, h4, p4⟩ := c_twos hG3 (get := (RdS L A 145).2.1) (fun m hm' => (h3 m hm').2) ((p3 129 2 (by omega)).trans ((p2 129 2 (by omega)).trans h2))
  refine ⟨σ4, ?_, ?_, h4, fun m hm' => (p4 130 m (by omega)).trans (h3 m hm').2⟩
  · unfold Couples_findStable Couples_findStable0
    rw [e1, Option.bind_some, e2, Option.bind_some, e3, Option.bind_some, e4]
  · refine ((p1.tr (p2.mo (fun b k q => by unfold PG; omega))).tr (p3.mo (fun b k q => by unfold PG; omega))).tr (p4.mo (fun b k q => by unfold PG; omega))
/-! the reference's rounds -/
def PS (b _k : Nat) : Prop := b = 190 ∨ b = 191
theorem Tab_PS (h : Tab L A σ) {σ' : MH} (hf : Fx PS σ σ') : Tab L A σ' := by
  obtain ⟨h1, h2, h3, h4⟩ := h
  refine ⟨(funext fun k => hf 167 k (by unfold PS; omega)).trans h1, LawM_of h2 (fun b k x y => hf b k (by unfold PS; omega)) (hf 166 13 (by unfold PS; omega)), fun i hi => (hf 186 i (by unfold PS; omega)).trans (h3 i hi), fun i j hi hj => ?_⟩
  rw [hf 187 _ (by unfold PS; omega), hf 188 _ (by unfold PS; omega)]
  exact h4 i j hi hj
def SRm (S : SS) (σ : MH) : Prop := ∀ m, m < 12 → σ.1 190 m = S.1 m ∧ σ.1 191 m = S.2.1 m
theorem m_next12 (h : Tab L A σ) (hi : i < 12) (ea : σ.1 190 i = a) : Md_nextAsked (nI i) σ = some (if nextS L A a i 12 = 12 then -1 else nI (nextS L A a i 12)) := by
  obtain ⟨hrow, hM, h6, h78⟩ := h
  obtain ⟨f1, f2, f3, f4⟩ := ix3 12 hi
  have key : ∃ r, Md_nextAsked_L4 (nI i) σ (-1, 0) = some r ∧ r = (if nextS L A a i 12 = 12 then -1 else nI (nextS L A a i 12)) := by
    refine itr_n 12 (fun (j : Nat) (z : Int32 × Int32) => z = (if nextS L A a i j = 12 then -1 else nI (nextS L A a i j), nI j)) _ rfl (fun j z hj hz => ?_) (fun z hz => ?_)
    · subst hz
      obtain ⟨g1, g2, g3, g4⟩ := ix3 12 hj
      have b0 := ix0 hj
      have d1 : inb (nI (12 * i + j)) 144 = true := inb_nI (by omega) (by decide)
      have d2 : (nI (12 * i + j)).toNatClampNeg = 12 * i + j := nI_clamp (by omega)
      have hn := nextS_ok (L := L) (A := A) (a := a) (i := i) j (by omega)
      have hs : nextS L A a i (j + 1) = (if candP L A a i j = true then (if nextS L A a i j = 12 then j else if likeN L A i (nextS L A a i j) < likeN L A i j then j else nextS L A a i j) else nextS L A a i j) := rfl
      left
      refine ⟨_, ?_, rfl⟩
      show Md_nextAsked_l4 (nI i) _ (nI j) σ = _
      rw [hs]
      generalize nextS L A a i j = b at hn
      have e9 : nI j + 1 = nI (j + 1) := nI_1 _
      unfold Md_nextAsked_l4 Md_nextAsked_b95 Md_nextAsked_b97
      rw [if_neg g1, if_pos f2, f3, h6 i hi, m_has, Option.bind_some, bt_fitOf hj, lit0k, if_pos b0.1, b0.2, hrow, ea, m_has, Option.bind_some, lit_nI 12, pk_mul, nI_add, if_pos d1, d2, (h78 i j hi hj).2, e9]
      unfold candP
      have j12 : ¬ j = 12 := by omega
      by_cases c1 : fpR L A i j = true
      · by_cases c2 : A j = 1
        · cases c3 : bt a j
          · by_cases c4 : likeN L A i j = 0
            · simp [c1, c2, c3, c4, bI]
            · by_cases hb : b = 12
              · subst hb
                simp [c1, c2, c3, c4, bI, j12]
              · have hb12 : b < 12 := by omega
                have m1 : ¬ nI b = -1 := fun z => by
                  have := congrArg Int32.toInt z
                  rw [nI_toInt (by omega)] at this
                  have e : (-1 : Int32).toInt = -1 := rfl
                  omega
                have d3 : inb (nI (12 * i + b)) 144 = true := inb_nI (by omega) (by decide)
                have d4 : (nI (12 * i + b)).toNatClampNeg = 12 * i + b := nI_clamp (by omega)
                have hv := (h78 i b hi hb12).2
                by_cases hlt : likeN L A i b < likeN L A i j
                · have hlt' := ne_of_lt32 hlt
                  simp [c1, c2, c3, c4, bI, hb, m1, nI_add, d3, d4, hv, hlt, hlt', j12]
                · have hlt' := Int32.not_lt.mp hlt
                  simp [c1, c2, c3, c4, bI, hb, m1, nI_add, d3, d4, hv, hlt, hlt', j12]
          · simp [c1, c2, c3, bI]
        · simp [c1, c2, bI]
      · simp [c1, bI]
    · subst hz
      refine ⟨_, ?_, rfl⟩
      show Md_nextAsked_l4 (nI i) _ (nI 12) σ = _
      unfold Md_nextAsked_l4
      rw [if_pos (by decide)]
  obtain ⟨r, e, hr⟩ := key
  unfold Md_nextAsked Md_nextAsked0
  rw [e, Option.bind_some, hr]
theorem m_keeps (h : Tab L A σ) {get : Nat → Int32} (hg : GI A get) (hi : i < 12) (hj : j < 12) (hs : σ.1 191 j = get j) : Md_keeps (nI j) (nI i) σ = some (bI (keepS L A get j i)) := by
  obtain ⟨hrow, hM, h6, h78⟩ := h
  obtain ⟨-, g2, g3, -⟩ := ix3 12 hj
  have d1 : inb (nI (12 * j + i)) 144 = true := inb_nI (by omega) (by decide)
  have d2 : (nI (12 * j + i)).toNatClampNeg = 12 * j + i := nI_clamp (by omega)
  unfold Md_keeps Md_keeps0 Md_keeps_b71 keepS
  rw [lit_nI 12, pk_mul, nI_add, if_pos d1, d2, (h78 j i hj hi).2, if_pos g2, g3, hs]
  by_cases q : likeN L A j i = 0
  · rw [if_pos q, decide_eq_true q]; rfl
  · rw [if_neg q, decide_eq_false q]
    rcases hg j hj with z | ⟨r, a1, a2, a3, a4, a5⟩
    · rw [if_pos z, decide_eq_true z]; rfl
    · have d3 : inb (nI (12 * j + r)) 144 = true := inb_nI (by omega) (by decide)
      have d4 : (nI (12 * j + r)).toNatClampNeg = 12 * j + r := nI_clamp (by omega)
      have n2 := nI_m2 (show r < 2 ^ 31 by omega)
      rw [a3, if_neg n2, decide_eq_false n2, nI_add, if_pos d3, d4, (h78 j r hj a1).2, nI_clamp (by omega)]
      by_cases q1 : likeN L A j r < likeN L A j i
      · rw [if_pos q1, decide_eq_true q1]; rfl
      · rw [if_neg q1, decide_eq_false q1]
        by_cases q2 : likeN L A j i = likeN L A j r
        · rw [if_pos q2, decide_eq_true q2]
          by_cases q3 : nI r ≤ nI i
          · rw [if_pos q3, decide_eq_false (fun z => ne_of_lt32 z q3)]; rfl
          · rw [if_neg q3, decide_eq_true (Int32.not_le.mp q3)]; rfl
        · rw [if_neg q2, decide_eq_false q2]; rfl
theorem one_is : oneR A i 0 = oneP A i := rfl
theorem m_round1 (wf : WF A) (hT : Tab L A σ) (hS : SRm S σ) (hg : GI A S.2.1) (hi : i < 12) : ∃ σ', Md_laysStable_l39 (bI S.2.2) (nI i) σ = some (.inl (bI (if oneP A i = true then stepS L A i S else S).2.2, nI (i + 1), σ')) ∧ SRm (if oneP A i = true then stepS L A i S else S) σ' ∧ Fx PS σ σ' := by
  obtain ⟨f1, f2, f3, f4⟩ := ix3 12 hi
  have e9 : nI i + 1 = nI (i + 1) := nI_1 _
  have hrow := hT.1
  unfold Md_laysStable_l39 Md_laysStable_b136 Md_laysStable_b150
  rw [if_neg f1, m_isOne hi, Option.bind_some, hrow, one_is, if_pos f2, f3, (hS i hi).2, e9]
  cases oi : oneP A i
  · exact ⟨σ, by rw [bI_f, if_pos rfl, if_neg (by decide)], by rw [if_neg (by decide)]; exact hS, Fx.rf⟩
  · rw [bI_t, if_neg (show ¬ (1 : Int32) = 0 by decide), if_pos rfl]
    by_cases q : S.2.1 i = -2
    · rw [if_pos q, m_next12 hT hi (hS i hi).1, Option.bind_some]
      have hfl := step_flag (L := L) (A := A) q
      by_cases q1 : nextS L A (S.1 i) i 12 = 12
      · have hst : stepS L A i S = S := by unfold stepS; rw [if_pos q, if_pos q1]
        rw [hst]
        exact ⟨σ, by rw [if_pos q1, if_pos rfl], hS, Fx.rf⟩
      · rw [decide_eq_false q1, Bool.not_false, Bool.or_true] at hfl
        rw [hfl]
        have hst : stepS L A i S = askS L A i (nextS L A (S.1 i) i 12) S := by unfold stepS; rw [if_pos q, if_neg q1]
        rw [hst]
        obtain ⟨n1, n2⟩ := next12 q1
        obtain ⟨oj, hne⟩ := cand_oth wf oi n1 n2
        rw [if_neg q1]
        generalize nextS L A (S.1 i) i 12 = j at n1 n2 oj hne
        have m1 : ¬ nI j = -1 := fun z => by
          have := congrArg Int32.toInt z
          rw [nI_toInt (by omega)] at this
          have e : (-1 : Int32).toInt = -1 := rfl
          omega
        obtain ⟨-, k2, k3, k4⟩ := ix3 12 n1
        have F1 : Fx PS σ (sI σ 190 i (S.1 i ||| sh1 j)) := Fx_sI (Or.inl rfl)
        have hT1 := Tab_PS hT F1
        have gj : (sI σ 190 i (S.1 i ||| sh1 j)).1 191 j = S.2.1 j := by rw [sI_obj (by decide)]; exact (hS j n1).2
        rw [if_neg m1, (hS i hi).1, show jshl 1 (nI j) = sh1 j from rfl, m_keeps hT1 hg hi n1 gj, Option.bind_some, if_pos k2, k3, gj]
        have s190 : ∀ m, m < 12 → (sI σ 190 i (S.1 i ||| sh1 j)).1 190 m = upd S.1 i (S.1 i ||| sh1 j) m := fun m hm => by
          rw [sI_at, upd_at]
          by_cases z : m = i
          · rw [if_pos ⟨rfl, z⟩, if_pos z]
          · rw [if_neg (fun y => z y.2), if_neg z]; exact (hS m hm).1
        have s191 : ∀ m, m < 12 → (sI σ 190 i (S.1 i ||| sh1 j)).1 191 m = S.2.1 m := fun m hm => by rw [sI_obj (by decide)]; exact (hS m hm).2
        generalize sI σ 190 i (S.1 i ||| sh1 j) = σ1 at F1 s190 s191
        unfold askS
        cases hk : keepS L A S.2.1 j i
        · refine ⟨σ1, by rw [bI_f, if_pos rfl]; rfl, fun m hm => ?_, F1⟩
          rw [if_neg (by decide)]
          exact ⟨s190 m hm, s191 m hm⟩
        · rw [bI_t, if_neg (show ¬ (1 : Int32) = 0 by decide), if_pos rfl, if_pos k2]
          have hup := fun m hm => getUp_at (i := i) (m := m) hg n1 hm
          rcases hg j n1 with z | ⟨r, b1, b2, b3, b4, b5⟩
          · rw [if_pos z, if_pos f2]
            refine ⟨_, rfl, fun m hm => ⟨?_, ?_⟩, (F1.tr (Fx_sI (Or.inr rfl))).tr (Fx_sI (Or.inr rfl))⟩
            · rw [sI_obj (by decide), sI_obj (by decide)]; exact s190 m hm
            · dsimp only
              rw [hup m hm, z, sI_at]
              by_cases q2 : m = j
              · rw [if_pos ⟨rfl, q2⟩, if_pos q2]
              · rw [if_neg (fun y => q2 y.2), if_neg q2, sI_at]
                by_cases q1 : m = i
                · rw [if_pos ⟨rfl, q1⟩, if_pos q1]
                · rw [if_neg (fun y => q1 y.2), if_neg q1, if_neg (fun y => nI_m2 (show m < 2 ^ 31 by omega) y.symm)]
                  exact s191 m hm
          · obtain ⟨-, m2, m3, m4⟩ := ix3 12 b1
            have hri : r ≠ i := fun y => by
              rw [y, q] at b4; exact nI_m2 (by omega) b4.symm
            rw [b3, if_neg (nI_m2 (show r < 2 ^ 31 by omega)), if_pos m2, m3, if_pos f2, if_pos k2]
            refine ⟨_, rfl, fun m hm => ⟨?_, ?_⟩, ((F1.tr (Fx_sI (Or.inr rfl))).tr (Fx_sI (Or.inr rfl))).tr (Fx_sI (Or.inr rfl))⟩
            · rw [sI_obj (by decide), sI_obj (by decide), sI_obj (by decide)]; exact s190 m hm
            · dsimp only
              rw [hup m hm, b3, sI_at]
              by_cases q2 : m = j
              · rw [if_pos ⟨rfl, q2⟩, if_pos q2]
              · rw [if_neg (fun y => q2 y.2), if_neg q2, sI_at]
                by_cases q1 : m = i
                · rw [if_pos ⟨rfl, q1⟩, if_pos q1]
                · rw [if_neg (fun y => q1 y.2), if_neg q1, sI_at]
                  by_cases q0 : m = r
                  · rw [if_pos ⟨rfl, q0⟩, if_pos (by rw [q0])]
                  · rw [if_neg (fun y => q0 y.2), if_neg (fun y => q0 ((nI_eq (by omega) (by omega)).mp y).symm)]
                    exact s191 m hm
    · have hst : stepS L A i S = S := by unfold stepS; rw [if_neg q]
      rw [hst]
      exact ⟨σ, by rw [if_neg q], hS, Fx.rf⟩
theorem m_round (wf : WF A) (hT : Tab L A σ) (hS : SRm S σ) (hg : GI A S.2.1) : ∃ r, Md_laysStable_L39 (0, 0, σ) = some r ∧ r.1 = bI (roundS L A S).2.2 ∧ SRm (roundS L A S) r.2 ∧ Fx PS σ r.2 := by
  have e : roundS L A S = fo (fun i S => if oneP A i = true then stepS L A i S else S) 12 (S.1, S.2.1, false) := fo_list (oneP A) (fun i S => stepS L A i S) 12 (S.1, S.2.1, false)
  rw [e]
  have hgi : ∀ n, n ≤ 12 → GI A (fo (fun i S => if oneP A i = true then stepS L A i S else S) n ((S.1, S.2.1, false) : SS)).2.1 := fun n => by
    induction n with
    | zero => intro _; exact hg
    | succ n ih =>
      intro hn
      show GI A (if oneP A n = true then stepS L A n (fo _ n _) else fo _ n _).2.1
      split
      · rename_i o
        exact GI_step wf (by omega) o (ih (by omega))
      · exact ih (by omega)
  refine itr_n 12 (fun (k : Nat) (z : Int32 × Int32 × MH) => z.1 = bI (fo (fun i S => if oneP A i = true then stepS L A i S else S) k ((S.1, S.2.1, false) : SS)).2.2 ∧ z.2.1 = nI k ∧ SRm (fo (fun i S => if oneP A i = true then stepS L A i S else S) k ((S.1, S.2.1, false) : SS)) z.2.2 ∧ Fx PS σ z.2.2) _ ⟨rfl, rfl, hS, Fx.rf⟩ (fun k z hk hz => ?_) (fun z hz => ?_)
  · obtain ⟨z1, z2, z3⟩ := z
    obtain ⟨e1, e2, hs, hf⟩ := hz
    dsimp only at e1 e2 hs hf
    subst e1; subst e2
    obtain ⟨σ', e, h1, h2⟩ := m_round1 wf (Tab_PS hT hf) hs (hgi k (by omega)) hk
    exact Or.inl ⟨_, e, rfl, rfl, h1, hf.tr h2⟩
  · obtain ⟨z1, z2, z3⟩ := z
    obtain ⟨e1, e2, hs, hf⟩ := hz
    dsimp only at e1 e2 hs hf
    subst e1; subst e2
    refine ⟨(_, z3), ?_, rfl, hs, hf⟩
    show Md_laysStable_l39 _ (nI 12) z3 = _
    unfold Md_laysStable_l39
    rw [if_pos (by decide)]
    rfl
theorem m_laysStable (wf : WF A) (hT : Tab L A σ) : ∃ r, Md_laysStable σ = some r ∧ SRm (RdS L A 145) r ∧ Fx PS σ r := by
  obtain ⟨σ1, e1, h1, p1⟩ : ∃ r, Md_laysStable_L2 (0, σ) = some r ∧ SRm (RdS L A 0) r ∧ Fx PS σ r := by
    refine itr_n 12 (fun (k : Nat) (z : Int32 × MH) => z.1 = nI k ∧ (∀ m, m < k → z.2.1 190 m = 0 ∧ z.2.1 191 m = -2) ∧ Fx PS σ z.2) _ ⟨rfl, fun m hm => by omega, Fx.rf⟩ (fun k z hk hz => ?_) (fun z hz => ?_)
    · obtain ⟨z1, z2⟩ := z
      obtain ⟨rfl, hm, hf⟩ := hz
      obtain ⟨f1, f2, f3, f4⟩ := ix3 12 hk
      refine Or.inl ⟨(nI (k + 1), sI (sI z2 190 k 0) 191 k (-2)), ?_, rfl, fun m hmk => ?_, (hf.tr (Fx_sI (Or.inl rfl))).tr (Fx_sI (Or.inr rfl))⟩
      · show Md_laysStable_l2 (nI k) z2 = _
        unfold Md_laysStable_l2
        rw [if_neg f1, if_pos f2, f3, lit_nI 1, nI_add]
      · dsimp only
        by_cases q : m = k
        · subst q
          exact ⟨by rw [sI_obj (by decide), sI_same], sI_same⟩
        · rw [sI_ne (by omega), sI_ne (by omega), sI_ne (by omega), sI_ne (by omega)]
          exact hm m (by omega)
    · obtain ⟨z1, z2⟩ := z
      obtain ⟨rfl, hm, hf⟩ := hz
      refine ⟨z2, ?_, hm, hf⟩
      show Md_laysStable_l2 (nI 12) z2 = _
      unfold Md_laysStable_l2
      rw [if_pos (by decide)]
  have hT1 := Tab_PS hT p1
  obtain ⟨σ2, e2, h2, p2⟩ : ∃ r, Md_laysStable_L31 (1, σ1) = some r ∧ SRm (RdS L A 145) r ∧ Fx PS σ1 r := by
    refine itr_n 145 (fun (r : Nat) (z : Int32 × MH) => z.1 = bI (RdS L A r).2.2 ∧ SRm (RdS L A r) z.2 ∧ Fx PS σ1 z.2) _ ⟨rfl, h1, Fx.rf⟩ (fun r z hr hz => ?_) (fun z hz => ?_)
    · obtain ⟨z1, z2⟩ := z
      obtain ⟨e1, hs, hf⟩ := hz
      dsimp only at e1 hs hf
      subst e1
      cases q : (RdS L A r).2.2
      · right
        refine ⟨z2, ?_, ?_, hf⟩
        · show Md_laysStable_l31 (bI false) z2 = _
          unfold Md_laysStable_l31
          rw [bI_f, if_pos rfl]
        · rw [Rd_final (by omega) q]; exact hs
      · left
        obtain ⟨u, e, u1, u2, u3⟩ := m_round wf (Tab_PS hT1 hf) hs (GI_Rd wf r)
        refine ⟨(u.1, u.2), ?_, u1, u2, hf.tr u3⟩
        show Md_laysStable_l31 (bI true) z2 = _
        unfold Md_laysStable_l31
        rw [bI_t, if_neg (show ¬ (1 : Int32) = 0 by decide), e, Option.bind_some]
    · obtain ⟨z1, z2⟩ := z
      obtain ⟨e1, hs, hf⟩ := hz
      dsimp only at e1 hs hf
      subst e1
      refine ⟨z2, ?_, hs, hf⟩
      show Md_laysStable_l31 (bI (RdS L A 145).2.2) z2 = _
      unfold Md_laysStable_l31
      rw [Rd_end, bI_f, if_pos rfl]
  refine ⟨σ2, ?_, h2, p1.tr p2⟩
  unfold Md_laysStable Md_laysStable0
  rw [e1, Option.bind_some, e2]
  rfl
theorem m_count {get : Nat → Int32} (hs : ∀ m, m < 12 → σ.1 191 m = get m) : Md_stable_L41 σ (0, 0) = some (nI (cnN (fun i => !decide (get i ≤ nI i)) 12)) := by
  obtain ⟨r, e, hr⟩ : ∃ r, Md_stable_L41 σ (0, 0) = some r ∧ r = nI (cnN (fun i => !decide (get i ≤ nI i)) 12) := by
    refine itr_n 12 (fun (k : Nat) (z : Int32 × Int32) => z = (nI (cnN (fun i => !decide (get i ≤ nI i)) k), nI k)) _ rfl (fun k z hk hz => ?_) (fun z hz => ?_)
    · subst hz
      obtain ⟨f1, f2, f3, f4⟩ := ix3 12 hk
      refine Or.inl ⟨_, ?_, rfl⟩
      show Md_stable_l41 _ (nI k) σ = _
      unfold Md_stable_l41 Md_stable_b63
      rw [if_neg f1, if_pos f2, f3, hs k hk, cnN_s, show nI k + 1 = nI (k + 1) from nI_1 _]
      by_cases q : get k ≤ nI k
      · rw [if_pos q, decide_eq_true q, Int32.add_zero]; rfl
      · rw [if_neg q, decide_eq_false q, show nI _ + 1 = nI (_ + 1) from nI_1 _]; rfl
    · subst hz
      refine ⟨_, ?_, rfl⟩
      show Md_stable_l41 _ (nI 12) σ = _
      unfold Md_stable_l41
      rw [if_pos (by decide)]
  rw [e, hr]
theorem m_stable16 (wf : WF (σ.1 167)) (hL : LawOK L) (hM : LawM L σ) : ∃ σ', Fx PT σ σ' ∧ True ∧ ∃ σ2, Fx (fun b k => PT b k ∨ PS b k) σ σ2 ∧ (∀ x : Int32, Md_stable_b16 x σ = if x = 20 then some (nI (stTwos L (σ.1 167)), σ2) else (if inb x 12 = true then some (σ2.1 191 x.toNatClampNeg, σ2) else none)) ∧ ∀ m, m < 12 → σ2.1 191 m = (RdS L (σ.1 167) 145).2.1 m := by
  obtain ⟨τ, e1, p1, h6, h78⟩ := m_laysFits hL hM
  have hT : Tab L (σ.1 167) τ := ⟨row_PT p1, LawM_PT hM p1, h6, h78⟩
  obtain ⟨σ2, e2, hs, p2⟩ := m_laysStable wf hT
  refine ⟨τ, p1, trivial, σ2, (p1.mo (fun b k q => Or.inl q)).tr (p2.mo (fun b k q => Or.inr q)), fun x => ?_, fun m hm => (hs m hm).2⟩
  unfold Md_stable_b16
  rw [e1, Option.bind_some, e2, Option.bind_some, m_count (get := (RdS L (σ.1 167) 145).2.1) (fun m hm => (hs m hm).2), Option.bind_some]
  unfold stTwos
  rw [cn_pairs (GI_Rd wf 145)]
theorem st_stable (hI : Inv σ) (x : Int32) : ∃ (r r' : Int32) (σ1 : MH) (σ2 : MH), Pz_stable x σ = some (r, σ1) ∧ Md_stable x σ1 = some (r', σ2) ∧ r = r' ∧ Inv σ2 := by
  obtain ⟨-, L, hL, hC, hM⟩ := hI.2.2.2.2
  obtain ⟨σ1, e1, p1, h2, hs⟩ := c_findStable hI.1 hI.2.1 hL hC
  have hJ : Inv σ1 := Inv_q hI (PG_PX p1)
  have rt : σ1.1 167 = σ.1 167 := row_PX (PG_PX p1)
  have hM1 : LawM L σ1 := LawM_of hM (fun b k a c => p1 b k (by unfold PG; omega)) (p1 166 13 (by unfold PG; omega))
  obtain ⟨-, -, -, σ2, p2, e2, g2⟩ := m_stable16 (σ := σ1) (by rw [rt]; exact hI.2.1) hL hM1
  rw [rt] at e2 g2
  have hK : Inv σ2 := Inv_q hJ (p2.mo (fun b k q => by unfold PT PS at q; unfold PX PC PQ; omega))
  rcases tw_ix x with ⟨i, hi, rfl⟩ | h
  · have n20 : ¬ nI i = 20 := fun z => by
      have := (eqL 20 (by omega) (by decide)).mp z; omega
    obtain ⟨f1, f2, f3, f4⟩ := ix3 12 hi
    cases hl : liveR (σ.1 167) i
    · refine ⟨-1, -1, σ, σ, ?_, ?_, rfl, hI⟩
      · unfold Pz_stable Pz_stable0
        rw [c_isAlive hI.1 hI.2.1 hi, hl, Option.bind_some, if_neg n20, bI_f, if_pos rfl]
      · unfold Md_stable Md_stable0
        rw [if_neg n20, m_lives hi, hl, Option.bind_some, bI_f, if_pos rfl]
    · refine ⟨σ1.1 130 i, σ2.1 191 i, σ1, σ2, ?_, ?_, ?_, hK⟩
      · unfold Pz_stable Pz_stable0 Pz_stable_b21
        rw [c_isAlive hI.1 hI.2.1 hi, hl, Option.bind_some, if_neg n20, bI_t, if_neg (show ¬ (1 : Int32) = 0 by decide), e1, Option.bind_some, if_neg (show ¬ (1 : Int32) = 0 by decide), if_pos f2, f3]
      · unfold Md_stable Md_stable0
        rw [if_neg n20, m_lives hi, rt, hl, Option.bind_some, bI_t, if_neg (show ¬ (1 : Int32) = 0 by decide), e2, if_neg n20, if_pos f2, f3]
      · rw [hs i hi, g2 i hi]
  · by_cases q : x = 20
    · subst q
      refine ⟨nI (stTwos L (σ.1 167)), nI (stTwos L (σ.1 167)), σ1, σ2, ?_, ?_, rfl, hK⟩
      · unfold Pz_stable Pz_stable0 Pz_stable_b21
        rw [c_isAliveF h, Option.bind_some, if_pos rfl, e1, Option.bind_some, if_pos rfl, h2]
      · unfold Md_stable Md_stable0
        rw [if_pos rfl, e2, if_pos rfl]
    · refine ⟨-1, -1, σ, σ, ?_, ?_, rfl, hI⟩
      · unfold Pz_stable Pz_stable0
        rw [c_isAliveF h, Option.bind_some, if_neg q, if_pos rfl]
      · unfold Md_stable Md_stable0
        rw [if_neg q, m_livesF h, Option.bind_some, if_pos rfl]
end MST
