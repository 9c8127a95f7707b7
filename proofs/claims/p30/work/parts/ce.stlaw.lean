/-! law: the call -/
section STL
variable {σ : MH}
theorem nI_sur (x : Int32) : ∃ k, x = nI k := ⟨x.toBitVec.toNat, Int32.toBitVec_inj.mp (by
  show x.toBitVec = BitVec.ofNat 32 x.toBitVec.toNat
  rw [BitVec.ofNat_toNat, BitVec.setWidth_eq])⟩
theorem Inv_lw {σ' : MH} (hI : Inv σ) (hF : Fx (fun b k => PX b k ∨ (b = 109 ∧ k = 1) ∨ (b = 166 ∧ (k = 4 ∨ k = 13)) ∨ (111 ≤ b ∧ b ≤ 115) ∨ (177 ≤ b ∧ b ≤ 181)) σ σ') (h1 : σ'.1 109 1 = 0) (h2 : σ'.1 166 4 = 0) (h5 : InvW σ') : Inv σ' := by
  obtain ⟨g1, g2, g3, ⟨t1, t2, t3⟩, -⟩ := hI
  have er : σ'.1 167 = σ.1 167 := funext fun k => hF 167 k (by unfold PX PC PQ; omega)
  refine ⟨?_, by rw [er]; exact g2, InvK_of g3 (fun b k q => hF b k (by unfold PX PC PQ; omega)), ⟨by rw [h1, h2], ⟨0, by omega, h1⟩, fun j hj => ?_⟩, h5⟩
  · rw [er]
    exact LD_of g1 (fun b k a c => hF b k (by unfold PX PC PQ; omega))
  · rw [hF 110 j (by unfold PX PC PQ; omega), hF 170 j (by unfold PX PC PQ; omega)]
    exact t3 j hj
/-- the draft taken over -/
theorem c_copyL {l : List CLs} {u : Nat} {τ : MH} (hL : LsC l u τ) (h6 : τ.1 117 6 = nI l.length) (hl : l.length ≤ 16) (hu : u ≤ 480) : ∃ σ', Law_copyFrom τ = some σ' ∧ Fx (fun b _ => 111 ≤ b ∧ b ≤ 115) τ σ' ∧ σ'.1 111 6 = nI l.length ∧ ∀ m cl, l[m]? = some cl → ClR m cl σ' := by
  unfold Law_copyFrom Law_copyFrom0
  have c112 : ∀ k, k < 512 → (cpI (cpI (cpI (cpI τ 118 112 512) 119 113 16) 120 114 16) 121 115 16).1 112 k = τ.1 118 k := fun k hk => by
    rw [cpI_at, if_neg (fun z => absurd z.1 (by decide)), cpI_at, if_neg (fun z => absurd z.1 (by decide)), cpI_at, if_neg (fun z => absurd z.1 (by decide)), cpI_at, if_pos ⟨rfl, hk⟩]
  have c113 : ∀ k, k < 16 → (cpI (cpI (cpI (cpI τ 118 112 512) 119 113 16) 120 114 16) 121 115 16).1 113 k = τ.1 119 k := fun k hk => by
    rw [cpI_at, if_neg (fun z => absurd z.1 (by decide)), cpI_at, if_neg (fun z => absurd z.1 (by decide)), cpI_at, if_pos ⟨rfl, hk⟩, cpI_at, if_neg (fun z => absurd z.1 (by decide))]
  have c114 : ∀ k, k < 16 → (cpI (cpI (cpI (cpI τ 118 112 512) 119 113 16) 120 114 16) 121 115 16).1 114 k = τ.1 120 k := fun k hk => by
    rw [cpI_at, if_neg (fun z => absurd z.1 (by decide)), cpI_at, if_pos ⟨rfl, hk⟩, cpI_at, if_neg (fun z => absurd z.1 (by decide)), cpI_at, if_neg (fun z => absurd z.1 (by decide))]
  have c115 : ∀ k, k < 16 → (cpI (cpI (cpI (cpI τ 118 112 512) 119 113 16) 120 114 16) 121 115 16).1 115 k = τ.1 121 k := fun k hk => by
    rw [cpI_at, if_pos ⟨rfl, hk⟩, cpI_at, if_neg (fun z => absurd z.1 (by decide)), cpI_at, if_neg (fun z => absurd z.1 (by decide)), cpI_at, if_neg (fun z => absurd z.1 (by decide))]
  have co : ∀ b k, ¬ (112 ≤ b ∧ b ≤ 115) → (cpI (cpI (cpI (cpI τ 118 112 512) 119 113 16) 120 114 16) 121 115 16).1 b k = τ.1 b k := fun b k hb => by
    rw [cpI_at, if_neg (fun z => by omega), cpI_at, if_neg (fun z => by omega), cpI_at, if_neg (fun z => by omega), cpI_at, if_neg (fun z => by omega)]
  refine ⟨_, rfl, fun b k hb => ?_, ?_, fun m cl hm => ?_⟩
  · rw [sI_obj (by omega), co b k (by omega)]
  · rw [sI_same, co 117 6 (by decide), h6]
  · obtain ⟨a0, a, b, c, d, a1, a2, a3, a4, a5, a6, a7, a8⟩ := hL m cl hm
    have hm16 : m < 16 := by
      have := (List.getElem?_eq_some_iff.mp hm).1
      omega
    have e112 : ∀ k, k < 512 → (sI (cpI (cpI (cpI (cpI τ 118 112 512) 119 113 16) 120 114 16) 121 115 16) 111 6 ((cpI (cpI (cpI (cpI τ 118 112 512) 119 113 16) 120 114 16) 121 115 16).1 117 6)).1 112 k = τ.1 118 k := fun k hk => by rw [sI_obj (by decide)]; exact c112 k hk
    refine ⟨?_, a, b, c, d, ?_, CB_ext a2 (fun k _ hk => e112 k (by omega)), (e112 b (by omega)).trans a3, ?_, CB_ext a5 (fun k _ hk => e112 k (by omega)), (e112 d (by omega)).trans a6, by omega, by omega⟩
    · rw [sI_obj (by decide), c113 m hm16, a0]
    · rw [sI_obj (by decide), c114 m hm16, a1]
    · rw [sI_obj (by decide), c115 m hm16, a4]
theorem m_copyL {l : List CLs} {u : Nat} {τ : MH} (hL : LsM l u τ) (h10 : τ.1 166 10 = nI u) (h12 : τ.1 166 12 = nI l.length) (hl : l.length ≤ 16) (hu : u ≤ 240) : ∃ σ', Md_law_b86 1 τ = some (nI l.length, σ') ∧ Fx (fun b k => (b = 166 ∧ (k = 4 ∨ k = 13)) ∨ (177 ≤ b ∧ b ≤ 181)) τ σ' ∧ σ'.1 166 4 = 0 ∧ σ'.1 166 13 = nI l.length ∧ ∀ m cl, l[m]? = some cl → ClS m cl σ' := by
  obtain ⟨τ0, hτ⟩ : ∃ τ0, sI (sI τ 166 4 0) 166 13 ((sI τ 166 4 0).1 166 12) = τ0 := ⟨_, rfl⟩
  have o0 : ∀ b k, ¬ (b = 166 ∧ (k = 4 ∨ k = 13)) → τ0.1 b k = τ.1 b k := fun b k hb => by
    rw [← hτ, sI_at, if_neg (fun z => hb ⟨z.1, Or.inr z.2⟩), sI_at, if_neg (fun z => hb ⟨z.1, Or.inl z.2⟩)]
  have t4 : τ0.1 166 4 = 0 := by rw [← hτ, sI_fld (by decide), sI_same]
  have t13 : τ0.1 166 13 = nI l.length := by rw [← hτ, sI_same, sI_fld (by decide), h12]
  -- the codes
  obtain ⟨r, k1, k2, k3⟩ : ∃ r, Md_law_L110 (0, τ0) = some r ∧ Fx (fun b _ => b = 177) τ0 r ∧ ∀ k, k < u → r.1 177 k = τ.1 171 k := by
    refine itr_n u (fun (k : Nat) (z : Int32 × MH) => z.1 = nI k ∧ Fx (fun b _ => b = 177) τ0 z.2 ∧ ∀ j, j < k → z.2.1 177 j = τ.1 171 j) _ ⟨rfl, Fx.rf, fun j hj => absurd hj (Nat.not_lt_zero j)⟩ (fun k z hk hz => ?_) (fun z hz => ?_) (by show u < 1000000; omega)
    · obtain ⟨z1, z2⟩ := z
      obtain ⟨e1, hf, hv⟩ := hz
      dsimp only at e1 hf hv
      subst e1
      obtain ⟨f1, f2, f3, f4⟩ := ix3 260 (show k < 260 by omega)
      refine Or.inl ⟨(nI (k + 1), sI z2 177 k (τ.1 171 k)), ?_, rfl, hf.tr (Fx_sI rfl), fun j hj => ?_⟩
      · show Md_law_l110 (nI k) z2 = _
        unfold Md_law_l110
        rw [hf 166 10 (by decide), o0 166 10 (by decide), h10, if_neg (by rw [nI_leI (by omega) (by omega)]; omega), if_pos f2, f3, hf 171 k (by show ¬ (171 : Nat) = 177; decide), o0 171 k (by omega), show nI k + 1 = nI (k + 1) from nI_1 _]
      · dsimp only
        rw [sI_at]
        by_cases q : j = k
        · rw [if_pos ⟨rfl, q⟩, q]
        · rw [if_neg (fun z => q z.2)]; exact hv j (by omega)
    · obtain ⟨z1, z2⟩ := z
      obtain ⟨e1, hf, hv⟩ := hz
      dsimp only at e1 hf hv
      subst e1
      refine ⟨z2, ?_, hf, hv⟩
      show Md_law_l110 (nI u) z2 = _
      unfold Md_law_l110
      rw [hf 166 10 (by decide), o0 166 10 (by decide), h10, if_pos (Int32.le_refl _)]
  -- the clauses
  obtain ⟨r2, m1, m2, m3⟩ : ∃ r2, Md_law_L138 (0, r) = some r2 ∧ Fx (fun b _ => 178 ≤ b ∧ b ≤ 181) r r2 ∧ ∀ k, k < l.length → r2.1 178 k = τ.1 173 k ∧ r2.1 179 k = τ.1 174 k ∧ r2.1 180 k = τ.1 175 k ∧ r2.1 181 k = τ.1 176 k := by
    refine itr_n l.length (fun (k : Nat) (z : Int32 × MH) => z.1 = nI k ∧ Fx (fun b _ => 178 ≤ b ∧ b ≤ 181) r z.2 ∧ ∀ j, j < k → z.2.1 178 j = τ.1 173 j ∧ z.2.1 179 j = τ.1 174 j ∧ z.2.1 180 j = τ.1 175 j ∧ z.2.1 181 j = τ.1 176 j) _ ⟨rfl, Fx.rf, fun j hj => absurd hj (Nat.not_lt_zero j)⟩ (fun k z hk hz => ?_) (fun z hz => ?_) (by show l.length < 1000000; omega)
    · obtain ⟨z1, z2⟩ := z
      obtain ⟨e1, hf, hv⟩ := hz
      dsimp only at e1 hf hv
      subst e1
      obtain ⟨f1, f2, f3, f4⟩ := ix3 16 (show k < 16 by omega)
      have e173 : ∀ b, b = 173 ∨ b = 174 ∨ b = 175 ∨ b = 176 → z2.1 b k = τ.1 b k := fun b hb => by
        rw [hf b k (by omega), k2 b k (by omega), o0 b k (by omega)]
      refine Or.inl ⟨(nI (k + 1), sI (sI (sI (sI z2 178 k (τ.1 173 k)) 179 k (τ.1 174 k)) 180 k (τ.1 175 k)) 181 k (τ.1 176 k)), ?_, rfl, (((hf.tr (Fx_sI (by decide))).tr (Fx_sI (by decide))).tr (Fx_sI (by decide))).tr (Fx_sI (by decide)), fun j hj => ?_⟩
      · show Md_law_l138 (nI k) z2 = _
        unfold Md_law_l138
        rw [hf 166 12 (by decide), k2 166 12 (by decide), o0 166 12 (by decide), h12, if_neg (by rw [nI_leI (by omega) (by omega)]; omega), if_pos f2, f3, e173 173 (by decide), sI_obj (by decide), e173 174 (by decide), sI_obj (by decide), sI_obj (by decide), e173 175 (by decide), sI_obj (by decide), sI_obj (by decide), sI_obj (by decide), e173 176 (by decide), show nI k + 1 = nI (k + 1) from nI_1 _]
      · dsimp only
        by_cases q : j = k
        · subst q
          refine ⟨?_, ?_, ?_, ?_⟩
          · rw [sI_obj (by decide), sI_obj (by decide), sI_obj (by decide), sI_same]
          · rw [sI_obj (by decide), sI_obj (by decide), sI_same]
          · rw [sI_obj (by decide), sI_same]
          · rw [sI_same]
        · obtain ⟨h1, h2, h3, h4⟩ := hv j (by omega)
          refine ⟨?_, ?_, ?_, ?_⟩
          · rw [sI_obj (by decide), sI_obj (by decide), sI_obj (by decide), sI_fld q]; exact h1
          · rw [sI_obj (by decide), sI_obj (by decide), sI_fld q, sI_obj (by decide)]; exact h2
          · rw [sI_obj (by decide), sI_fld q, sI_obj (by decide), sI_obj (by decide)]; exact h3
          · rw [sI_fld q, sI_obj (by decide), sI_obj (by decide), sI_obj (by decide)]; exact h4
    · obtain ⟨z1, z2⟩ := z
      obtain ⟨e1, hf, hv⟩ := hz
      dsimp only at e1 hf hv
      subst e1
      refine ⟨z2, ?_, hf, hv⟩
      show Md_law_l138 (nI l.length) z2 = _
      unfold Md_law_l138
      rw [hf 166 12 (by decide), k2 166 12 (by decide), o0 166 12 (by decide), h12, if_pos (Int32.le_refl _)]
  have e12 : r2.1 166 12 = nI l.length := by rw [m2 166 12 (by decide), k2 166 12 (by decide), o0 166 12 (by decide), h12]
  refine ⟨r2, ?_, fun b k hb => ?_, ?_, ?_, fun m cl hm => ?_⟩
  · unfold Md_law_b86
    rw [if_neg (show ¬ (1 : Int32) = 0 by decide), hτ, k1, Option.bind_some, m1, Option.bind_some, e12]
  · rw [m2 b k (by omega), k2 b k (by omega), o0 b k (by omega)]
  · rw [m2 166 4 (by decide), k2 166 4 (by decide), t4]
  · rw [m2 166 13 (by decide), k2 166 13 (by decide), t13]
  · obtain ⟨a0, a, b, c, a1, a2, a3, a4, a5, a6⟩ := hL m cl hm
    obtain ⟨h1, h2, h3, h4⟩ := m3 m (List.getElem?_eq_some_iff.mp hm).1
    have e177 : ∀ k, k < u → r2.1 177 k = τ.1 171 k := fun k hk => by rw [m2 177 k (by show ¬ (178 ≤ 177 ∧ 177 ≤ 181); decide), k3 k hk]
    have h5 := a5.1
    exact ⟨h1.trans a0, a, b, c, h2.trans a1, h3.trans a2, h4.trans a3, MB_ext a4 (fun k _ hk => e177 k (by omega)), MB_ext a5 (fun k _ hk => e177 k (by omega)), by omega⟩
theorem pLaw_vc {tx : Nat → Nat} {n : Nat} (hn : n ≤ 240) : ∀ (g : Nat) (l : List CLs) (p : Nat) (l' : List CLs), pLaw tx n g l p = some (.inr l') → (∀ c, c ∈ l → VE c.2.1 ∧ VC c.2.2) → ∀ c, c ∈ l' → VE c.2.1 ∧ VC c.2.2
  | 0, l, p, l', h, _ => by cases h
  | g + 1, l, p, l', h, hl => by
    unfold pLaw at h
    cases hc : pCls tx n l.length p with
    | none => rw [hc] at h; cases h
    | some r1 =>
      rw [hc] at h
      cases r1 with
      | inl e => cases h
      | inr z =>
        obtain ⟨q, cl⟩ := z
        dsimp only at h
        obtain ⟨-, -, -, -, v1, v2⟩ := pCls_q hn hc
        have hl2 : ∀ c, c ∈ l ++ [cl] → VE c.2.1 ∧ VC c.2.2 := fun c hc => by
          rcases List.mem_append.mp hc with h | h
          · exact hl c h
          · rw [List.mem_singleton] at h
            rw [h]
            exact ⟨v1, v2⟩
        by_cases h1 : n ≤ q
        · rw [if_pos h1] at h
          cases h
          exact hl2
        · rw [if_neg h1] at h
          by_cases h2 : sN tx n q = 59
          · rw [if_pos h2] at h
            exact pLaw_vc hn g (l ++ [cl]) (q + 1) l' h hl2
          · rw [if_neg h2] at h
            cases h
theorem st_law (hI : Inv σ) (x : Int32) : ∃ (r r' : Int32) (σ1 : MH) (σ2 : MH), Pz_law x σ = some (r, σ1) ∧ Md_law x σ1 = some (r', σ2) ∧ r = r' ∧ Inv σ2 := by
  have no : Pz_law x σ = some (-1, σ) → Md_law x σ = some (-1, σ) → ∃ (r r' : Int32) (σ1 : MH) (σ2 : MH), Pz_law x σ = some (r, σ1) ∧ Md_law x σ1 = some (r', σ2) ∧ r = r' ∧ Inv σ2 := fun h1 h2 => ⟨-1, -1, σ, σ, h1, h2, rfl, hI⟩
  obtain ⟨t1, ⟨L, hL, t2⟩, -⟩ := hI.2.2.2.1
  have t4 : σ.1 166 4 = nI L := t1.symm.trans t2
  by_cases q1 : x < 1
  · refine no ?_ ?_
    · unfold Pz_law Pz_law0
      rw [if_pos q1]
    · unfold Md_law Md_law0
      rw [m_in, Option.bind_some, decide_eq_false (ne_of_lt32 q1), Bool.false_and, bI_f, if_pos rfl]
  · by_cases q2 : 240 < x
    · refine no ?_ ?_
      · unfold Pz_law Pz_law0
        rw [if_neg q1, if_pos q2]
      · unfold Md_law Md_law0
        rw [m_in, Option.bind_some, decide_eq_false (ne_of_lt32 q2), Bool.and_false, bI_f, if_pos rfl]
    · obtain ⟨n, hn1, hn, rfl⟩ : ∃ n, 1 ≤ n ∧ n ≤ 240 ∧ x = nI n := by
        rcases limN x 240 with ⟨w, hw, rfl⟩ | h
        · refine ⟨w, ?_, hw, rfl⟩
          have := mt (ltL 1 (show w < 2 ^ 31 by omega) (by decide)).mpr q1
          omega
        · exfalso
          rcases h with h | h
          · refine q1 ?_
            rw [ti_lt] at h ⊢
            have e0 : (0 : Int32).toInt = 0 := rfl
            have e1 : (1 : Int32).toInt = 1 := rfl
            omega
          · exact q2 h
      have hin : ∀ τ : MH, Md_in (nI n) 1 240 τ = some 1 := fun τ => by
        rw [m_in, decide_eq_true (Int32.not_lt.mp q1), decide_eq_true (Int32.not_lt.mp q2)]
        rfl
      by_cases hl : n ≤ L
      · have hB : TXb (b8 σ) n := ⟨hn, fun j hj => (b8_ok hI (by omega)).1⟩
        have hTc : TXC (b8 σ) n σ := fun j hj => (b8_ok hI (by omega)).2.1
        have hTm : ∀ τ : MH, (∀ j, τ.1 170 j = σ.1 170 j) → TXM (b8 σ) n τ := fun τ h j hj => by
          rw [h j, bytes_eq hI (by omega)]
          exact (b8_ok hI (by omega)).2.1
        obtain ⟨r, hr⟩ := pLaw_tot (tx := b8 σ) hn 17 [] 0 (by decide) (by decide)
        obtain ⟨x1, σ1, k1, k2⟩ := c_readLaw hB hTc hr
        have cl : Pz_law (nI n) σ = if x1 = 0 then some ((sI σ1 109 1 0).1 123 3, sI σ1 109 1 0) else ((Law_copyFrom (sI σ1 109 1 0)).bind fun σ5 => some (σ5.1 111 6, σ5)) := by
          unfold Pz_law Pz_law0
          rw [if_neg q1, if_neg q2, t2, if_pos ((nI_leI (by omega) (by omega)).mpr hl), k1, Option.bind_some]
        -- the reference, from a state that differs from the first by what the class has done
        have md : ∀ τ : MH, Fx (fun b k => (111 ≤ b ∧ b ≤ 123) ∨ (b = 109 ∧ k = 1)) σ τ → ∃ y τ0 τ', Fx (fun b k => b = 166 ∧ (k = 5 ∨ k = 6 ∨ k = 10 ∨ k = 12)) τ τ0 ∧ okLM n r τ0 y τ' ∧ Md_law (nI n) τ = Md_law_b86 y τ' := fun τ hf => by
          obtain ⟨τ0, hτ⟩ : ∃ τ0, sI (sI (sI (sI τ 166 5 0) 166 6 (nI n)) 166 10 0) 166 12 0 = τ0 := ⟨_, rfl⟩
          have F0 : Fx (fun b k => b = 166 ∧ (k = 5 ∨ k = 6 ∨ k = 10 ∨ k = 12)) τ τ0 := by
            rw [← hτ]
            exact (((Fx_sI ⟨rfl, Or.inl rfl⟩).tr (Fx_sI ⟨rfl, Or.inr (Or.inl rfl)⟩)).tr (Fx_sI ⟨rfl, Or.inr (Or.inr (Or.inl rfl))⟩)).tr (Fx_sI ⟨rfl, Or.inr (Or.inr (Or.inr rfl))⟩)
          have hT0 : TXM (b8 σ) n τ0 := hTm τ0 (fun j => (F0 170 j (by omega)).trans (hf 170 j (by omega)))
          have e6 : τ0.1 166 6 = nI n := by rw [← hτ, sI_fld (by decide), sI_fld (by decide), sI_same]
          have e5 : τ0.1 166 5 = nI 0 := by rw [← hτ, sI_fld (by decide), sI_fld (by decide), sI_fld (by decide), sI_same]; rfl
          have e10 : τ0.1 166 10 = nI 0 := by rw [← hτ, sI_fld (by decide), sI_same]; rfl
          have e12 : τ0.1 166 12 = nI 0 := by rw [← hτ, sI_same]; rfl
          obtain ⟨w, hw⟩ := nI_sur (τ0.1 166 11)
          obtain ⟨o, ho⟩ := nI_sur (τ0.1 166 9)
          obtain ⟨y, τ', m1, m2⟩ := m_lawL hB τ0 17 [] 0 0 w o FU τ0 r hr hT0 ⟨e6, e5, e10, hw, ho⟩ (Nat.zero_le _) (Nat.le_refl _) (by decide) (by show n + 1 < 1000000 + 0; omega) (fun m c hm => by cases hm) e12 Fx.rf
          refine ⟨y, τ0, τ', F0, m2, ?_⟩
          unfold Md_law Md_law0
          rw [hin, Option.bind_some, if_neg (show ¬ (1 : Int32) = 0 by decide), hf 166 4 (by omega), t4, if_pos ((nI_leI (by omega) (by omega)).mpr hl), hτ]
          cases hz : Md_readsClause τ0 with
          | none => rw [hz] at m1; cases m1
          | some z =>
            rw [hz, Option.bind_some] at m1
            rw [Option.bind_some]
            show (Md_law_L46 (z.1, z.2)).bind (fun z17 => Md_law_b86 z17.1 z17.2) = _
            rw [show Md_law_L46 (z.1, z.2) = some (y, τ') from m1]
            rfl
        have F1 : Fx (fun b k => (116 ≤ b ∧ b ≤ 123) ∨ (b = 109 ∧ k = 1)) σ (sI σ1 109 1 0) := (k2.1.mo (fun b k q => by unfold PL4 at q; omega)).tr (Fx_sI (Or.inr ⟨rfl, rfl⟩))
        have z1 : (sI σ1 109 1 0).1 109 1 = 0 := sI_same
        cases r with
        | inl e =>
          obtain ⟨-, rfl, k3⟩ := k2
          rw [if_pos rfl] at cl
          obtain ⟨y, τ0, τ', g1, ⟨g2, rfl, g3⟩, g4⟩ := md (sI σ1 109 1 0) (F1.mo (fun b k q => by omega))
          have e1 : (sI σ1 109 1 0).1 123 3 = e := by rw [sI_obj (by decide)]; exact k3
          have e2 : Md_law_b86 0 τ' = some (e, sI τ' 166 4 0) := by
            unfold Md_law_b86
            rw [if_pos rfl, sI_fld (by decide), g3]
          refine ⟨e, e, sI σ1 109 1 0, sI τ' 166 4 0, ?_, g4.trans e2, rfl, Inv_tp hI (((F1.mo (fun b k q => by unfold PX PC PQ; omega)).tr (g1.mo (fun b k q => by unfold PX PC PQ; omega))).tr ((g2.mo (fun b k q => by unfold PM6 PM5 at q; unfold PX PC PQ; omega)).tr (Fx_sI (Or.inr (Or.inr ⟨rfl, rfl⟩))))) ?_ sI_same⟩
          · rw [cl, e1]
          · rw [sI_obj (by decide), g2 109 1 (by unfold PM6 PM5; omega), g1 109 1 (by omega)]
            exact z1
        | inr l =>
          obtain ⟨-, rfl, u, k3, k4, k5, k6⟩ := k2
          rw [if_neg (show ¬ (1 : Int32) = 0 by decide)] at cl
          have hLs : LsC l u (sI σ1 109 1 0) := fun m c hm => by
            obtain ⟨a0, a, b, c', d, a1, a2, a3, a4, a5, a6, a7, a8⟩ := k4 m c hm
            have e : ∀ b, b ≠ 109 → (sI σ1 109 1 0).1 b = σ1.1 b := fun b hb => sI_objF hb
            unfold ClC
            rw [e 118 (by decide), e 119 (by decide), e 120 (by decide), e 121 (by decide)]
            exact ⟨a0, a, b, c', d, a1, a2, a3, a4, a5, a6, a7, a8⟩
          obtain ⟨σ5, c1, c2, c3, c4⟩ := c_copyL hLs (by rw [sI_obj (by decide)]; exact k5) k6 (by omega)
          rw [c1, Option.bind_some, c3] at cl
          have F5 : Fx (fun b k => (111 ≤ b ∧ b ≤ 123) ∨ (b = 109 ∧ k = 1)) σ σ5 := (F1.mo (fun b k q => by omega)).tr (c2.mo (fun b k q => by omega))
          obtain ⟨y, τ0, τ', g1, ⟨g2, rfl, u2, g3, g4, g5, g6, g7⟩, g8⟩ := md σ5 F5
          obtain ⟨τ2, m1, m2, m3, m4, m5⟩ := m_copyL g5 g4 g6 g7 (by omega)
          have hv := pLaw_vc hn 17 [] 0 l hr (fun c hc => by cases hc)
          have G : Fx (fun b k => (b = 166 ∧ k ≠ 46) ∨ (171 ≤ b ∧ b ≤ 181)) σ5 τ2 := (g1.mo (fun b k q => by omega)).tr ((g2.mo (fun b k q => by unfold PM6 PM5 at q; omega)).tr (m2.mo (fun b k q => by omega)))
          refine ⟨nI l.length, nI l.length, σ5, τ2, cl, g8.trans m1, rfl, Inv_lw hI ((F5.mo (fun b k q => by unfold PX PC PQ; omega)).tr (G.mo (fun b k q => by unfold PX PC PQ; omega))) ?_ m3 ⟨?_, LfV l, LfV_ok l hv, LawC_of (LawC_LfV k6 c3 c4 (fun c hc => (hv c hc).2)) (fun b k h1 h2 => G b k (by omega)), LawM_LfV k6 m4 m5 (fun c hc => (hv c hc).2)⟩⟩
          · rw [G 109 1 (by omega), c2 109 1 (by omega)]
            exact z1
          · rw [G 111 6 (by omega), c3, m4]
      · refine no ?_ ?_
        · unfold Pz_law Pz_law0
          rw [if_neg q1, if_neg q2, t2, if_neg (mt (nI_leI (by omega) (by omega)).mp hl)]
        · unfold Md_law Md_law0
          rw [hin, Option.bind_some, if_neg (show ¬ (1 : Int32) = 0 by decide), t4, if_neg (mt (nI_leI (by omega) (by omega)).mp hl)]
end STL
