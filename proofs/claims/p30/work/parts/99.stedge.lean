/-! edge, the call -/
section STE
variable {σ : MH} {A : Nat → Int32} {tx : Nat → Nat} {n p f k c : Nat} {w : Nat → Int32}
def hgB (A : Nat → Int32) (k : Nat) (w : Nat → Int32) : Nat → Int32 := fun m => if 112 + 8 * k ≤ m ∧ m < 112 + 8 * k + 8 then w (m - (112 + 8 * k)) else A m
theorem hgB_o {m : Nat} (h : m < 112 + 8 * k ∨ 112 + 8 * k + 8 ≤ m) : hgB A k w m = A m := by
  unfold hgB
  rw [if_neg (by omega)]
theorem WF_hg (wf : WF A) (hk : k < 12) (hw : v9 8 w) : WF (hgB A k w) := by
  have o : ∀ m, (m < 112 ∨ 208 ≤ m) → hgB A k w m = A m := fun m hm => hgB_o (by omega)
  have hl : ∀ i, liveR (hgB A k w) i = liveR A i := fun i => by unfold liveR; rw [o 108 (by omega), o 109 (by omega)]
  refine ⟨?_, ?_, ?_, ?_, fun i hi => ?_⟩
  · rw [o 108 (by omega), o 109 (by omega)]; exact wf.1
  · rw [o 108 (by omega), o 109 (by omega)]; exact wf.2.1
  · rw [o 110 (by omega)]; exact wf.2.2.1
  · rw [o 111 (by omega)]; exact wf.2.2.2.1
  · obtain ⟨p1, p2, p3, p4, p5, p6, ⟨g, m, q1, q2, q3, q4, q5⟩, p8, p9⟩ := wf.2.2.2.2 i hi
    refine ⟨?_, ?_, ?_, ?_, ?_, ?_, ?_, ?_, ?_⟩
    · rw [o _ (by omega)]; exact p1
    · rw [o _ (by omega)]; exact p2
    · rw [o _ (by omega), hl]
      rcases p3 with q | ⟨j, a, b, c, d, f, g⟩
      · exact Or.inl q
      · exact Or.inr ⟨j, a, b, c, by rw [o _ (by omega)]; exact d, f, by rw [hl]; exact g⟩
    · rw [o _ (by omega)]; exact p4
    · rw [o _ (by omega)]; exact p5
    · rw [o _ (by omega)]; exact p6
    · exact ⟨g, m, q1, q2, by rw [o _ (by omega)]; exact q3, by rw [o _ (by omega)]; exact q4, fun j hj => by rw [o _ (by omega)]; exact q5 j hj⟩
    · intro h hh
      unfold hgB
      by_cases c : 112 + 8 * k ≤ 112 + 8 * i + h ∧ 112 + 8 * i + h < 112 + 8 * k + 8
      · rw [if_pos c]
        exact hw _ (by omega)
      · rw [if_neg c]; exact p8 h hh
    · rw [hl, o _ (by omega)]; exact p9
theorem LD_hg {σ' : MH} (h : LD 1 A σ) (hk : k < 12) (e1 : ∀ b m, b ≠ 10 + k → 1 ≤ b → b < 37 → σ'.1 b m = σ.1 b m) (e2 : ∀ m, m < 8 → σ'.1 (10 + k) m = w m) : LD 1 (hgB A k w) σ' := by
  have o : ∀ m, (m < 112 ∨ 208 ≤ m) → hgB A k w m = A m := fun m hm => hgB_o (by omega)
  refine ⟨⟨?_, ?_, ?_, ?_⟩, fun i hi => ?_, fun x m hx hm => ?_, fun i j hi hj q => ?_, fun m hm => ?_⟩
  · rw [o _ (by omega), e1 1 0 (by omega) (by omega) (by omega)]; exact h.1.1
  · rw [o _ (by omega), e1 1 1 (by omega) (by omega) (by omega)]; exact h.1.2.1
  · rw [o _ (by omega), e1 1 13 (by omega) (by omega) (by omega)]; exact h.1.2.2.1
  · rw [o _ (by omega), e1 1 14 (by omega) (by omega) (by omega)]; exact h.1.2.2.2
  · rw [o _ (by omega), o _ (by omega), o _ (by omega), o _ (by omega), o _ (by omega), o _ (by omega), o _ (by omega), o _ (by omega), e1 (1 + 1) i (by omega) (by omega) (by omega), e1 (1 + 2) i (by omega) (by omega) (by omega), e1 (1 + 3) i (by omega) (by omega) (by omega), e1 (1 + 4) i (by omega) (by omega) (by omega), e1 (1 + 5) i (by omega) (by omega) (by omega), e1 (1 + 7) i (by omega) (by omega) (by omega), e1 (1 + 34) i (by omega) (by omega) (by omega), e1 (1 + 35) i (by omega) (by omega) (by omega)]
    exact h.2.1 i hi
  · by_cases c : x = k
    · subst c
      rw [show 1 + 9 + x = 10 + x by omega, e2 m hm]
      unfold hgB
      rw [if_pos (by omega), show 112 + 8 * x + m - (112 + 8 * x) = m by omega]
    · rw [hgB_o (by omega), e1 _ _ (by omega) (by omega) (by omega)]
      exact h.2.2.1 x m hx hm
  · rw [o _ (by omega)] at q
    rw [o _ (by omega), e1 _ _ (by omega) (by omega) (by omega)]; exact h.2.2.2.1 i j hi hj q
  · obtain ⟨h1, h2⟩ := h.2.2.2.2 m hm
    rw [e1 _ _ (by omega) (by omega) (by omega)]
    refine ⟨fun i hi => ?_, h2⟩
    rw [h1 i hi]
    unfold hldR toldR
    rw [o 108 (by omega), o (48 + i) (by omega)]
def sumA (w : Nat → Int32) (n : Nat) : Int32 := fo (fun h s => s + jabs (w h)) n 0
theorem c_copyH (hk : k < 12) (hw : ∀ j, j < 8 → σ.1 125 j = w j) : ∃ σ', Pz_edge_L66 (nI k) (0, 0, σ) = some (sumA w 8, σ') ∧ Fx (fun b _ => b = 10 + k) σ σ' ∧ ∀ h, h < 8 → σ'.1 (10 + k) h = w h := by
  obtain ⟨f1, f2, f3, f4⟩ := ix3 12 hk
  obtain ⟨r, e, e1, p, g⟩ : ∃ r, Pz_edge_L66 (nI k) (0, 0, σ) = some r ∧ r.1 = sumA w 8 ∧ Fx (fun b _ => b = 10 + k) σ r.2 ∧ ∀ h, h < 8 → r.2.1 (10 + k) h = w h := by
    refine itr_n 8 (fun (h : Nat) (z : Int32 × Int32 × MH) => z.1 = sumA w h ∧ z.2.1 = nI h ∧ Fx (fun b _ => b = 10 + k) σ z.2.2 ∧ ∀ h', h' < h → z.2.2.1 (10 + k) h' = w h') _ ⟨rfl, rfl, Fx.rf, fun h' hh => by omega⟩ (fun h z hh hz => ?_) (fun z hz => ?_)
    · obtain ⟨z1, z2, z3⟩ := z
      obtain ⟨e1, e2, hf, hv⟩ := hz
      dsimp only at e1 e2 hf hv
      subst e1; subst e2
      obtain ⟨g1, g2, g3, g4⟩ := ix3 8 hh
      have ev : z3.1 125 h = w h := (hf 125 h (by omega)).trans (hw h hh)
      refine Or.inl ⟨(sumA w (h + 1), nI (h + 1), sI z3 (10 + k) h (w h)), ?_, rfl, rfl, hf.tr (Fx_sI rfl), fun h' hh' => ?_⟩
      · show Pz_edge_l66 (nI k) _ (nI h) z3 = _
        unfold Pz_edge_l66
        rw [if_neg g1, if_pos f2, if_pos (inb_nI (by omega) (by decide)), if_pos g2, f3, g3, rf9 hk, sI_obj (by omega), ev, show nI h + 1 = nI (h + 1) from nI_1 _]
        rfl
      · dsimp only
        by_cases c : h' = h
        · rw [c, sI_same]
        · rw [sI_ne (by omega)]; exact hv h' (by omega)
    · obtain ⟨z1, z2, z3⟩ := z
      obtain ⟨e1, e2, hz⟩ := hz
      dsimp only at e1 e2
      subst e1; subst e2
      refine ⟨(sumA w 8, z3), ?_, rfl, hz⟩
      show Pz_edge_l66 (nI k) _ (nI 8) z3 = _
      unfold Pz_edge_l66
      rw [if_pos (by decide)]
  exact ⟨r.2, by rw [e, ← e1], p, g⟩
theorem m_copyH (hk : k < 12) (hw : ∀ j, j < 8 → σ.1 184 j = w j) : ∃ σ', Md_edge_L116 (nI k) (0, 0, σ) = some (sumA w 8, σ') ∧ Fx (fun b _ => b = 167) σ σ' ∧ ∀ m, σ'.1 167 m = hgB (σ.1 167) k w m := by
  obtain ⟨r, e, e1, p, g⟩ : ∃ r, Md_edge_L116 (nI k) (0, 0, σ) = some r ∧ r.1 = sumA w 8 ∧ Fx (fun b _ => b = 167) σ r.2 ∧ ∀ m, r.2.1 167 m = if 112 + 8 * k ≤ m ∧ m < 112 + 8 * k + 8 then w (m - (112 + 8 * k)) else σ.1 167 m := by
    refine itr_n 8 (fun (h : Nat) (z : Int32 × Int32 × MH) => z.1 = sumA w h ∧ z.2.1 = nI h ∧ Fx (fun b _ => b = 167) σ z.2.2 ∧ ∀ m, z.2.2.1 167 m = if 112 + 8 * k ≤ m ∧ m < 112 + 8 * k + h then w (m - (112 + 8 * k)) else σ.1 167 m) _ ⟨rfl, rfl, Fx.rf, fun m => by rw [if_neg (by omega)]⟩ (fun h z hh hz => ?_) (fun z hz => ?_)
    · obtain ⟨z1, z2, z3⟩ := z
      obtain ⟨e1, e2, hf, hv⟩ := hz
      dsimp only at e1 e2 hf hv
      subst e1; subst e2
      obtain ⟨g1, g2, g3, g4⟩ := ix3 8 hh
      have ev : z3.1 184 h = w h := (hf 184 h (by omega)).trans (hw h hh)
      have ei : (112 + (8 * nI k)) + nI h = nI (112 + 8 * k + h) := by rw [lit_nI 112, lit_nI 8, pk_mul, nI_add, nI_add]
      refine Or.inl ⟨(sumA w (h + 1), nI (h + 1), sI z3 167 (112 + 8 * k + h) (w h)), ?_, rfl, rfl, hf.tr (Fx_sI rfl), fun m => ?_⟩
      · show Md_edge_l116 (nI k) _ (nI h) z3 = _
        unfold Md_edge_l116
        rw [if_neg g1, if_pos g2, ei, if_pos (inb_nI (by omega) (by decide)), g3, nI_clamp (by omega), m_size, Option.bind_some, sI_obj (by decide), ev, show nI h + 1 = nI (h + 1) from nI_1 _]
        rfl
      · dsimp only
        rw [sI_at, hv m]
        by_cases c : m = 112 + 8 * k + h
        · rw [if_pos ⟨rfl, c⟩, if_pos (by omega), c, show 112 + 8 * k + h - (112 + 8 * k) = h by omega]
        · rw [if_neg (fun z => c z.2)]
          by_cases d : 112 + 8 * k ≤ m ∧ m < 112 + 8 * k + h
          · rw [if_pos d, if_pos (by omega)]
          · rw [if_neg d, if_neg (by omega)]
    · obtain ⟨z1, z2, z3⟩ := z
      obtain ⟨e1, e2, hz⟩ := hz
      dsimp only at e1 e2
      subst e1; subst e2
      refine ⟨(sumA w 8, z3), ?_, rfl, hz⟩
      show Md_edge_l116 (nI k) _ (nI 8) z3 = _
      unfold Md_edge_l116
      rw [if_pos (by decide)]
  exact ⟨r.2, by rw [e, ← e1], p, g⟩
theorem Inv_all {σ' : MH} (hI : Inv σ) (hf : Fx (fun b k => PLd b k ∨ (b = 109 ∧ k = 1) ∨ (b = 166 ∧ k = 4)) σ σ') (h1 : LD 1 (σ'.1 167) σ') (h2 : WF (σ'.1 167)) (t1 : σ'.1 109 1 = 0) (t2 : σ'.1 166 4 = 0) : Inv σ' := by
  obtain ⟨-, -, g3, ⟨s1, s2, s3⟩, g5⟩ := hI
  refine ⟨h1, h2, InvK_of g3 (fun b k q => hf b k (by unfold PLd PX PC PQ; omega)), ⟨by rw [t1, t2], ⟨0, by omega, t1⟩, fun j hj => ?_⟩, InvW_of g5 (fun b k q => hf b k (by unfold PLd PX PC PQ; omega))⟩
  rw [hf 110 j (by unfold PLd PX PC PQ; omega), hf 170 j (by unfold PLd PX PC PQ; omega)]
  exact s3 j hj
theorem tx_ok (hI : Inv σ) (hn : n ≤ 240) : TXb (b8 σ) n ∧ TXC (b8 σ) n σ ∧ ∀ τ : MH, τ.1 170 = σ.1 170 → TXM (b8 σ) n τ := by
  refine ⟨⟨hn, fun j hj => (b8_ok hI (by omega)).1⟩, fun j hj => (b8_ok hI (by omega)).2.1, fun τ hτ j hj => ?_⟩
  obtain ⟨a, -, b⟩ := b8_ok hI (show j < 260 by omega)
  rw [hτ, b, jb_255 a]
theorem in40 (n : Nat) (h : n < 2 ^ 31) (τ : MH) : Md_in (nI n) 1 40 τ = some (bI (decide (1 ≤ n) && decide (n ≤ 40))) := m_in_n (by decide) (by decide) h
theorem n_kinds (y : Int32) (L : Nat) (hL : L ≤ 260) (N : Nat) (hN : N < 1000) : (∃ n, y = nI n ∧ 1 ≤ n ∧ n ≤ N ∧ n ≤ L) ∨ ((y < 1 ∨ (OfNat.ofNat N : Int32) < y ∨ ¬ y ≤ nI L)) := by
  rcases limN y N (by omega) with ⟨n, hn, rfl⟩ | h
  · by_cases h0 : n = 0
    · exact Or.inr (Or.inl ((ltL 1 (by omega) (by decide)).mpr (by omega)))
    · by_cases hl : n ≤ L
      · exact Or.inl ⟨n, rfl, by omega, hn, hl⟩
      · exact Or.inr (Or.inr (Or.inr (fun z => hl ((nI_leI (by omega) (by omega)).mp z))))
  · rcases h with h | h
    · refine Or.inr (Or.inl ?_)
      rw [ti_lt] at h ⊢
      rw [show (0 : Int32).toInt = 0 from rfl] at h
      rw [show (1 : Int32).toInt = 1 from rfl]
      omega
    · exact Or.inr (Or.inr (Or.inl h))
theorem in_no {y : Int32} {N : Nat} (τ : MH) (h : y < 1 ∨ (OfNat.ofNat N : Int32) < y) : Md_in y 1 (OfNat.ofNat N) τ = some 0 := by
  rw [m_in]
  rcases h with h | h
  · rw [decide_eq_false (ne_of_lt32 h)]; rfl
  · rw [decide_eq_false (ne_of_lt32 h), Bool.and_false]; rfl
theorem st_edge (hI : Inv σ) (x y : Int32) : ∃ (r r' : Int32) (σ1 : MH) (σ2 : MH), Pz_edge x y σ = some (r, σ1) ∧ Md_edge x y σ1 = some (r', σ2) ∧ r = r' ∧ Inv σ2 := by
  have no : Pz_edge x y σ = some (-1, σ) → Md_edge x y σ = some (-1, σ) → ∃ (r r' : Int32) (σ1 : MH) (σ2 : MH), Pz_edge x y σ = some (r, σ1) ∧ Md_edge x y σ1 = some (r', σ2) ∧ r = r' ∧ Inv σ2 := fun h1 h2 => ⟨-1, -1, σ, σ, h1, h2, rfl, hI⟩
  obtain ⟨t1, ⟨L, hL, t2⟩, -⟩ := hI.2.2.2.1
  have t4 : σ.1 166 4 = nI L := t1.symm.trans t2
  rcases tw_ix x with ⟨k, hk, rfl⟩ | h
  · rcases n_kinds y L hL 40 (by decide) with ⟨n, rfl, h1, h2, h3⟩ | hy
    · obtain ⟨hb, hT, hTM⟩ := tx_ok (n := n) hI (by omega)
      obtain ⟨σ1, e1, p1, g1, g2⟩ := c_readEdge (v := fun _ => 0) hb hT
      have hcl : Pz_edge (nI k) (nI n) σ = if bI (okR2 (edgeS (b8 σ) n n 0 0 (fun _ => 0))) = 0 then some (σ1.1 124 3, sI σ1 109 1 0) else (Pz_edge_L66 (nI k) (0, 0, sI σ1 109 1 0)).bind fun z11 => some (z11.1, z11.2) := by
        unfold Pz_edge Pz_edge0
        rw [v_isNumber hk, Option.bind_some, if_neg (by decide), if_neg (mt (ltL 1 (by omega) (by decide)).mp (by omega)), if_neg (mt (ltR 40 (by omega) (by decide)).mp (by omega)), t2, if_pos ((nI_leI (by omega) (by omega)).mpr h3), e1, Option.bind_some]
        dsimp only
        rw [sI_obj (by decide)]
      -- the reference, from any state that the class has left
      have hmd : ∀ τ : MH, Fx (fun b m => b ≠ 166 ∧ b ≠ 170) σ τ → ∃ z, resF (edgeS (b8 σ) n n 0 0 (fun _ => 0)) (sI (sI (sI τ 166 5 0) 166 6 (nI n)) 166 29 0) z ∧ Md_edge (nI k) (nI n) τ = Md_edge_b96 (nI k) z.1 z.2 := fun τ hτ => by
        have r4 : τ.1 166 4 = nI L := (hτ 166 4 (by omega)).trans t4
        have r170 : (sI (sI (sI τ 166 5 0) 166 6 (nI n)) 166 29 0).1 170 = σ.1 170 := by
          rw [sI_objF (by decide), sI_objF (by decide), sI_objF (by decide)]
          exact funext fun m => hτ 170 m (by omega)
        obtain ⟨z, ez, hz⟩ := m_edgeLoop (σ := sI (sI (sI τ 166 5 0) 166 6 (nI n)) 166 29 0) hb (hTM _ r170) rfl (by rw [sI_fld (by decide), sI_same]) (by rw [sI_fld (by decide), sI_fld (by decide), sI_same]) sI_same (nI k)
        refine ⟨z, hz, ?_⟩
        unfold Md_edge Md_edge0
        rw [m_isTwelve hk, Option.bind_some, if_neg (by decide), in40 n (by omega), Option.bind_some, decide_eq_true h1, decide_eq_true h2, Bool.and_self, bI_t, if_neg (show ¬ (1 : Int32) = 0 by decide), r4, if_pos ((nI_leI (by omega) (by omega)).mpr h3)]
        revert ez
        generalize Md_readsHeight (sI (sI (sI τ 166 5 0) 166 6 (nI n)) 166 29 0) = o
        intro ez
        cases o with
        | none => cases ez
        | some q =>
          rw [Option.bind_some] at ez
          rw [Option.bind_some]
          dsimp only at ez ⊢
          rw [ez, Option.bind_some]
      cases hR : edgeS (b8 σ) n n 0 0 (fun _ => 0) with
      | inl e =>
        rw [hR] at hcl hmd
        have F1 : Fx (fun b m => (b = 124 ∨ b = 125) ∨ (b = 109 ∧ m = 1)) σ (sI σ1 109 1 0) := (p1.mo (fun b k q => Or.inl q)).tr (Fx_sI (Or.inr ⟨rfl, rfl⟩))
        obtain ⟨z, ⟨z1, z2, z3, -⟩, em⟩ := hmd (sI σ1 109 1 0) (F1.mo (fun b m q => by omega))
        refine ⟨σ1.1 124 3, z.2.1 166 7, sI σ1 109 1 0, sI z.2 166 4 0, ?_, ?_, ?_, ?_⟩
        · rw [hcl]; rfl
        · rw [em]
          unfold Md_edge_b96
          rw [z1]
          show some ((sI z.2 166 4 0).1 166 7, _) = _
          rw [sI_fld (by decide)]
        · rw [g1 e hR, z3 e rfl]
        · have F2 : Fx (fun b m => PQ b m ∨ (b = 166 ∧ m = 4)) (sI σ1 109 1 0) (sI z.2 166 4 0) := ((((Fx_sI (P := fun b m => PQ b m ∨ (b = 166 ∧ m = 4)) (by unfold PQ; omega)).tr (Fx_sI (by unfold PQ; omega))).tr (Fx_sI (by unfold PQ; omega))).tr (z2.mo (fun b m q => by unfold PR at q; unfold PQ; omega))).tr (Fx_sI (Or.inr ⟨rfl, rfl⟩))
          refine Inv_tp hI ((F1.mo (fun b m q => by unfold PX PC PQ; omega)).tr (F2.mo (fun b m q => q.elim (fun h => Or.inl (Or.inr h)) (fun h => Or.inr (Or.inr h))))) ?_ sI_same
          rw [F2 109 1 (by unfold PQ; omega), sI_same]
      | inr w =>
        rw [hR] at hcl hmd
        obtain ⟨hw9, hw⟩ := g2 w hR
        obtain ⟨σ2, e2, p2, g3⟩ := c_copyH (σ := sI σ1 109 1 0) (w := w) hk (fun j hj => by rw [sI_obj (by decide)]; exact hw j hj)
        have F1 : Fx (fun b m => (b = 124 ∨ b = 125) ∨ (b = 109 ∧ m = 1)) σ (sI σ1 109 1 0) := (p1.mo (fun b k q => Or.inl q)).tr (Fx_sI (Or.inr ⟨rfl, rfl⟩))
        have F2 : Fx (fun b m => (b = 124 ∨ b = 125) ∨ (b = 109 ∧ m = 1) ∨ b = 10 + k) σ σ2 := (F1.mo (fun b m q => by omega)).tr (p2.mo (fun b m q => by omega))
        obtain ⟨z, ⟨z1, z2, -, z3⟩, em⟩ := hmd σ2 (F2.mo (fun b m q => by omega))
        obtain ⟨σ4, e4, p4, g4⟩ := m_copyH (σ := sI z.2 166 4 0) (w := w) hk (fun j hj => by rw [sI_obj (by decide)]; exact z3 w rfl j hj)
        have F3 : Fx (fun b m => PQ b m ∨ (b = 166 ∧ m = 4)) σ2 (sI z.2 166 4 0) := ((((Fx_sI (P := fun b m => PQ b m ∨ (b = 166 ∧ m = 4)) (by unfold PQ; omega)).tr (Fx_sI (by unfold PQ; omega))).tr (Fx_sI (by unfold PQ; omega))).tr (z2.mo (fun b m q => by unfold PR at q; unfold PQ; omega))).tr (Fx_sI (Or.inr ⟨rfl, rfl⟩))
        have row4 : σ4.1 167 = hgB (σ.1 167) k w := funext fun m => by
          rw [g4 m, show (sI z.2 166 4 0).1 167 = σ.1 167 from funext fun q => (F3 167 q (by unfold PQ; omega)).trans (F2 167 q (by omega))]
        refine ⟨sumA w 8, sumA w 8, σ2, σ4, ?_, ?_, rfl, ?_⟩
        · rw [hcl, e2]; rfl
        · rw [em]
          unfold Md_edge_b96
          rw [z1, e4]; rfl
        · refine Inv_all hI ?_ ?_ ?_ ?_ ?_
          · have A1 : Fx (fun b m => PLd b m ∨ (b = 109 ∧ m = 1) ∨ (b = 166 ∧ m = 4)) σ σ2 := F2.mo (fun b m q => by unfold PLd PX PC PQ; omega)
            have A2 : Fx (fun b m => PLd b m ∨ (b = 109 ∧ m = 1) ∨ (b = 166 ∧ m = 4)) σ2 (sI z.2 166 4 0) := F3.mo (fun b m q => q.elim (fun h => Or.inl (Or.inl (Or.inr h))) (fun h => Or.inr (Or.inr h)))
            have A3 : Fx (fun b m => PLd b m ∨ (b = 109 ∧ m = 1) ∨ (b = 166 ∧ m = 4)) (sI z.2 166 4 0) σ4 := p4.mo (fun b m q => Or.inl (Or.inr (Or.inr q)))
            exact (A1.tr A2).tr A3
          · rw [row4]
            refine LD_hg hI.1 hk (fun b m h1 h2 h3 => ?_) (fun m hm => ?_)
            · rw [p4 b m (by omega), F3 b m (by unfold PQ; omega), F2 b m (by omega)]
            · rw [p4 _ _ (by omega), F3 _ _ (by unfold PQ; omega)]; exact g3 m hm
          · rw [row4]; exact WF_hg hI.2.1 hk hw9
          · rw [p4 _ _ (by omega), F3 109 1 (by unfold PQ; omega), p2 _ _ (by omega), sI_same]
          · rw [p4 _ _ (by omega), sI_same]
    · refine no ?_ ?_
      · unfold Pz_edge Pz_edge0
        rw [v_isNumber hk, Option.bind_some, if_neg (by decide), t2]
        rcases hy with h | h | h
        · rw [if_pos h]
        · rw [if_pos (show (40 : Int32) < y from h)]
          split <;> rfl
        · rw [if_neg h]
          simp only [ite_self]
      · unfold Md_edge Md_edge0
        rw [m_isTwelve hk, Option.bind_some, if_neg (by decide), t4]
        rcases hy with h | h | h
        · rw [show Md_in y 1 40 σ = some 0 from in_no (N := 40) σ (Or.inl h)]; rfl
        · rw [show Md_in y 1 40 σ = some 0 from in_no (N := 40) σ (Or.inr h)]; rfl
        · rw [m_in, Option.bind_some, if_neg h]
          simp only [ite_self]
  · refine no ?_ ?_
    · unfold Pz_edge Pz_edge0
      rw [v_isNumberF h, Option.bind_some, if_pos rfl]
    · unfold Md_edge Md_edge0
      rw [m_isTwelveF h, Option.bind_some, if_pos rfl]
end STE
