/-! most, in the reference, and the call -/
section MMO
variable {L : LawF} {σ : MH} {A : Nat → Int32} {i j k n w s : Nat}
def PN (b _k : Nat) : Prop := b = 189
theorem Tab_PN (h : Tab L A σ) {σ' : MH} (hf : Fx PN σ σ') : Tab L A σ' := by
  obtain ⟨h1, h2, h3, h4⟩ := h
  refine ⟨(funext fun k => hf 167 k (by unfold PN; omega)).trans h1, LawM_of h2 (fun b k x y => hf b k (by unfold PN; omega)) (hf 166 13 (by unfold PN; omega)), fun i hi => (hf 186 i (by unfold PN; omega)).trans (h3 i hi), fun i j hi hj => ?_⟩
  rw [hf 187 _ (by unfold PN; omega), hf 188 _ (by unfold PN; omega)]
  exact h4 i j hi hj
abbrev tbF (s : Nat) : Nat → Bool := fun j => s.testBit j
theorem tbF_or (s j : Nat) : tbF (s ||| 2 ^ j) = stB (tbF s) j := by
  funext m
  exact tb_or s j m
theorem m_mayGet (h : Tab L A σ) (hi : i < 12) (hj : j < 12) : Md_mayGet (nI i) (nI j) (nI s) σ = some (bI (okM L A (tbF s) i j)) := by
  obtain ⟨hrow, hM, h6, h78⟩ := h
  obtain ⟨f1, f2, f3, f4⟩ := ix3 12 hi
  have b0 := ix0 hj
  unfold Md_mayGet Md_mayGet0 okM
  rw [if_pos f2, f3, h6 i hi, m_has, Option.bind_some, bt_fitOf hj, lit0k, if_pos b0.1, b0.2, hrow, m_has, Option.bind_some, bt_nI (by omega)]
  cases fpR L A i j
  · rfl
  · rw [bI_t, if_neg (show ¬ (1 : Int32) = 0 by decide)]
    by_cases q : A j = 1
    · rw [if_pos q, decide_eq_true q]
      show _ = some (bI (true && (true && !s.testBit j)))
      cases s.testBit j <;> rfl
    · rw [if_neg q, decide_eq_false q]
      rfl
def RM (L : LawF) (A : Nat → Int32) (i : Nat) (σ : MH) : Prop := ∀ s, s < 4096 → σ.1 189 (4096 * i + s) = nI (VM L A (frm A (12 - i)) (tbF s))
theorem ix_m (hi : i < 13) (hs : s < 4096) : (nI 4096 * nI i + nI s) = nI (4096 * i + s) ∧ inb (nI (4096 * i + s)) 53248 = true ∧ (nI (4096 * i + s)).toNatClampNeg = 4096 * i + s := by
  refine ⟨by rw [pk_mul, nI_add], inb_nI (by omega) (by decide), nI_clamp (by omega)⟩
theorem frm_len (A : Nat → Int32) : ∀ n, (frm A n).length ≤ n := fun n => by
  induction n with
  | zero => exact Nat.le_refl _
  | succ n ih =>
    show (if oneP A (11 - n) = true then (11 - n) :: frm A n else frm A n).length ≤ n + 1
    split
    · rw [List.length_cons]; omega
    · omega
theorem VM_bd (k : Nat) (hk : k ≤ 12) (T : Nat → Bool) : VM L A (frm A k) T ≤ 120000 := by
  have h1 := VM_le (L := L) (A := A) (frm A k) T
  have h2 := frm_len A k
  omega
theorem or12 {s j : Nat} (hs : s < 4096) (hj : j < 12) : s ||| 2 ^ j < 4096 := or_lt (n := 12) hs hj
/-- one pair: what 10000 - slack and the rest come to -/
theorem m_pair (wf : WF A) (h : Tab L A σ) (hi : i < 12) (hj : j < 12) (hs : s < 4096) (hR : RM L A (i + 1) σ) (ok : okM L A (tbF s) i j = true) : inb (nI 12 * nI i + nI j) 144 = true ∧ inb (nI 4096 * (nI i + 1) + (nI s ||| jshl 1 (nI j))) 53248 = true ∧ (nI 10000 - σ.1 187 (nI 12 * nI i + nI j).toNatClampNeg) + σ.1 189 (nI 4096 * (nI i + 1) + (nI s ||| jshl 1 (nI j))).toNatClampNeg = nI (bnd L A i j + VM L A (frm A (11 - i)) (stB (tbF s) j)) := by
  have hor := or12 hs hj
  obtain ⟨a1, a2, a3⟩ := ix_m (i := i + 1) (s := s ||| 2 ^ j) (by omega) hor
  have hfp := (ok_fp ok).1
  have b := bnd_sl wf hfp
  obtain ⟨s1, s2⟩ := sl_ok wf hfp
  have e1 : nI 12 * nI i + nI j = nI (12 * i + j) := by rw [pk_mul, nI_add]
  have e2 : nI 4096 * (nI i + 1) + (nI s ||| jshl 1 (nI j)) = nI (4096 * (i + 1) + (s ||| 2 ^ j)) := by
    rw [or_nI (by omega), show nI i + 1 = nI (i + 1) from nI_1 _]
    exact a1
  rw [e1, e2]
  refine ⟨inb_nI (by omega) (by decide), a2, ?_⟩
  rw [a3, nI_clamp (by omega), (h.2.2.2 i j hi hj).1, hR _ hor, s1, pk_sub (by omega), nI_add, tbF_or, show 12 - (i + 1) = 11 - i by omega]
  rfl
theorem m_val (wf : WF A) (h : Tab L A σ) (hi : i < 12) (hs : s < 4096) (hR : RM L A (i + 1) σ) : Md_laysMost_L60 (nI i) (nI s) σ (nI (VM L A (frm A (11 - i)) (tbF s)), 0) = some (nI (VM L A (frm A (12 - i)) (tbF s))) := by
  have hv := fun T => VM_bd (L := L) (A := A) (11 - i) (by omega) T
  have key : ∃ r, Md_laysMost_L60 (nI i) (nI s) σ (nI (VM L A (frm A (11 - i)) (tbF s)), 0) = some r ∧ r = nI (VM L A (frm A (12 - i)) (tbF s)) := by
    rw [frm_at hi]
    by_cases o : oneP A i = true
    · rw [if_pos o]
      have e : VM L A (i :: frm A (11 - i)) (tbF s) = fo (fun j m => if okM L A (tbF s) i j = true then max m (bnd L A i j + VM L A (frm A (11 - i)) (stB (tbF s) j)) else m) 12 (VM L A (frm A (11 - i)) (tbF s)) := rfl
      rw [e]
      refine itr_n 12 (fun (j : Nat) (z : Int32 × Int32) => ∃ m, m ≤ 130000 ∧ m = fo (fun j m => if okM L A (tbF s) i j = true then max m (bnd L A i j + VM L A (frm A (11 - i)) (stB (tbF s) j)) else m) j (VM L A (frm A (11 - i)) (tbF s)) ∧ z = (nI m, nI j)) _ ⟨_, Nat.le_trans (hv _) (by decide), rfl, rfl⟩ (fun j z hj hz => ?_) (fun z hz => ?_)
      · obtain ⟨m, hm, hm2, rfl⟩ := hz
        obtain ⟨g1, g2, g3, g4⟩ := ix3 12 hj
        have hs' : fo (fun j m => if okM L A (tbF s) i j = true then max m (bnd L A i j + VM L A (frm A (11 - i)) (stB (tbF s) j)) else m) (j + 1) (VM L A (frm A (11 - i)) (tbF s)) = if okM L A (tbF s) i j = true then max m (bnd L A i j + VM L A (frm A (11 - i)) (stB (tbF s) j)) else m := by
          rw [hm2]; rfl
        left
        refine ⟨(nI (if okM L A (tbF s) i j = true then max m (bnd L A i j + VM L A (frm A (11 - i)) (stB (tbF s) j)) else m), nI (j + 1)), ?_, _, ?_, hs'.symm, rfl⟩
        · show Md_laysMost_l60 (nI i) (nI s) _ (nI j) σ = _
          unfold Md_laysMost_l60 Md_laysMost_b128
          rw [if_neg g1, m_isOne hi, Option.bind_some, h.1, one_is, o, bI_t, if_neg (show ¬ (1 : Int32) = 0 by decide), m_mayGet h hi hj, Option.bind_some, show nI j + 1 = nI (j + 1) from nI_1 _]
          by_cases ok : okM L A (tbF s) i j = true
          · obtain ⟨c1, c2, c3⟩ := m_pair wf h hi hj hs hR ok
            have hb : bnd L A i j ≤ 10000 := by unfold bnd; omega
            have hv' := hv (stB (tbF s) j)
            rw [ok, bI_t, if_neg (show ¬ (1 : Int32) = 0 by decide), lit_nI 12, lit_nI 4096, lit_nI 10000, if_pos c1, if_pos c2, c3, if_pos rfl]
            unfold Md_max Md_max0
            by_cases q : m ≤ bnd L A i j + VM L A (frm A (11 - i)) (stB (tbF s) j)
            · rw [if_pos ((nI_leI (by omega) (by omega)).mpr q), Nat.max_eq_right q]; rfl
            · rw [if_neg (fun z => q ((nI_leI (by omega) (by omega)).mp z)), Nat.max_eq_left (by omega)]; rfl
          · rw [Bool.eq_false_iff.mpr ok, bI_f, if_pos rfl, if_neg (by decide)]
        · have hb : bnd L A i j ≤ 10000 := by unfold bnd; omega
          have hv' := hv (stB (tbF s) j)
          split <;> omega
      · obtain ⟨m, hm, hm2, rfl⟩ := hz
        refine ⟨nI m, ?_, by rw [hm2]⟩
        show Md_laysMost_l60 (nI i) (nI s) _ (nI 12) σ = _
        unfold Md_laysMost_l60
        rw [if_pos (by decide)]
    · rw [if_neg o]
      refine itr_n 12 (fun (j : Nat) (z : Int32 × Int32) => j = 0 ∧ z = (nI (VM L A (frm A (11 - i)) (tbF s)), 0)) _ ⟨rfl, rfl⟩ (fun j z hj hz => ?_) (fun z hz => by omega)
      obtain ⟨rfl, rfl⟩ := hz
      right
      refine ⟨_, ?_, rfl⟩
      show Md_laysMost_l60 (nI i) (nI s) _ 0 σ = _
      unfold Md_laysMost_l60
      rw [if_neg (by decide), m_isOne hi, Option.bind_some, h.1, one_is, Bool.eq_false_iff.mpr o, bI_f, if_pos rfl]
  obtain ⟨r, e, hr⟩ := key
  rw [e, hr]
theorem m_row (wf : WF A) (h : Tab L A σ) (hi : i < 12) (hR : RM L A (i + 1) σ) : ∃ σ', Md_laysMost_L35 (nI i) (0, σ) = some σ' ∧ Fx (fun b k => b = 189 ∧ 4096 * i ≤ k ∧ k < 4096 * (i + 1)) σ σ' ∧ RM L A i σ' := by
  refine itr_n 4096 (fun (k : Nat) (z : Int32 × MH) => z.1 = nI k ∧ Fx (fun b k => b = 189 ∧ 4096 * i ≤ k ∧ k < 4096 * (i + 1)) σ z.2 ∧ ∀ s, s < k → z.2.1 189 (4096 * i + s) = nI (VM L A (frm A (12 - i)) (tbF s))) _ ⟨rfl, Fx.rf, fun t ht => by omega⟩ (fun k z hk hz => ?_) (fun z hz => ?_)
  · obtain ⟨z1, z2⟩ := z
    obtain ⟨rfl, hf, hv⟩ := hz
    dsimp only at hf hv
    have hT := Tab_PN h (hf.mo (fun b k q => q.1))
    have hRz : RM L A (i + 1) z2 := fun s hs => by
      rw [hf 189 _ (by omega)]; exact hR s hs
    obtain ⟨a1, a2, a3⟩ := ix_m (i := i + 1) (s := k) (by omega) hk
    obtain ⟨b1, b2, b3⟩ := ix_m (i := i) (s := k) (by omega) hk
    left
    refine ⟨(nI (k + 1), sI z2 189 (4096 * i + k) (nI (VM L A (frm A (12 - i)) (tbF k)))), ?_, rfl, hf.tr (Fx_sI ⟨rfl, by omega, by omega⟩), fun s hs => ?_⟩
    · show Md_laysMost_l35 (nI i) (nI k) z2 = _
      unfold Md_laysMost_l35 Md_laysMost_b134
      rw [if_neg (mt (leR 4096 (by omega) (by decide)).mp (by omega)), lit_nI 4096, show nI i + 1 = nI (i + 1) from nI_1 _, a1, if_pos a2, a3, hRz k hk, show 12 - (i + 1) = 11 - i by omega, m_val wf hT hi hk hRz, Option.bind_some, b1, if_pos b2, b3, show nI k + 1 = nI (k + 1) from nI_1 _]
    · dsimp only
      by_cases e : s = k
      · rw [e, sI_same]
      · rw [sI_ne (by omega)]
        exact hv s (by omega)
  · obtain ⟨z1, z2⟩ := z
    obtain ⟨rfl, hf, hv⟩ := hz
    refine ⟨z2, ?_, hf, hv⟩
    show Md_laysMost_l35 (nI i) (nI 4096) z2 = _
    unfold Md_laysMost_l35
    rw [if_pos (by decide)]
theorem m_laysMost (wf : WF A) (h : Tab L A σ) : ∃ σ', Md_laysMost σ = some σ' ∧ Fx PN σ σ' ∧ ∀ i, i ≤ 12 → RM L A i σ' := by
  obtain ⟨σ1, e1, p1, r1⟩ : ∃ σ', Md_laysMost_L2 (0, σ) = some σ' ∧ Fx PN σ σ' ∧ RM L A 12 σ' := by
    refine itr_n 4096 (fun (k : Nat) (z : Int32 × MH) => z.1 = nI k ∧ Fx PN σ z.2 ∧ ∀ s, s < k → z.2.1 189 (4096 * 12 + s) = 0) _ ⟨rfl, Fx.rf, fun t ht => by omega⟩ (fun k z hk hz => ?_) (fun z hz => ?_)
    · obtain ⟨z1, z2⟩ := z
      obtain ⟨rfl, hf, hv⟩ := hz
      dsimp only at hf hv
      left
      refine ⟨(nI (k + 1), sI z2 189 (4096 * 12 + k) 0), ?_, rfl, hf.tr (Fx_sI rfl), fun s hs => ?_⟩
      · show Md_laysMost_l2 (nI k) z2 = _
        unfold Md_laysMost_l2
        rw [if_neg (mt (leR 4096 (by omega) (by decide)).mp (by omega)), lit_nI 49152, nI_add, if_pos (inb_nI (by omega) (by decide)), nI_clamp (by omega), show nI k + 1 = nI (k + 1) from nI_1 _]
      · dsimp only
        by_cases e : s = k
        · rw [e, sI_same]
        · rw [sI_ne (by omega)]
          exact hv s (by omega)
    · obtain ⟨z1, z2⟩ := z
      obtain ⟨rfl, hf, hv⟩ := hz
      refine ⟨z2, ?_, hf, hv⟩
      show Md_laysMost_l2 (nI 4096) z2 = _
      unfold Md_laysMost_l2
      rw [if_pos (by decide)]
  have hT1 := Tab_PN h p1
  obtain ⟨σ2, e2, p2, r2⟩ : ∃ σ', Md_laysMost_L29 (nI 11, σ1) = some σ' ∧ Fx PN σ1 σ' ∧ ∀ i, i ≤ 12 → RM L A i σ' := by
    refine itr_n 12 (fun (k : Nat) (z : Int32 × MH) => z.1 = nI (12 - k) + -1 ∧ Fx PN σ1 z.2 ∧ ∀ i, 12 - k ≤ i → i ≤ 12 → RM L A i z.2) _ ⟨show nI 11 = nI (12 - 0) + -1 by decide, Fx.rf, fun i a b => by rw [show i = 12 by omega]; exact r1⟩ (fun k z hk hz => ?_) (fun z hz => ?_)
    · obtain ⟨z1, z2⟩ := z
      obtain ⟨e0, hf, hv⟩ := hz
      dsimp only at e0 hf hv
      subst e0
      obtain ⟨σ', g1, g2, g3⟩ := m_row wf (Tab_PN hT1 hf) (show 11 - k < 12 by omega) (hv _ (by omega) (by omega))
      have e6 : nI (12 - k) + -1 = nI (11 - k) := by
        have := subL (a := 12 - k) 1 (by omega)
        rw [show 11 - k = 12 - k - 1 by omega, ← this]
        exact (Int32.sub_eq_add_neg _ _).symm
      left
      refine ⟨(nI (12 - (k + 1)) + -1, σ'), ?_, rfl, hf.tr (g2.mo (fun b k q => q.1)), fun i a b => ?_⟩
      · show Md_laysMost_l29 _ z2 = _
        unfold Md_laysMost_l29
        rw [e6, if_neg (nI_pos (by omega)), g1, Option.bind_some, show 12 - (k + 1) = 11 - k by omega]
      · by_cases c : i = 11 - k
        · rw [c]
          exact g3
        · intro s hs
          dsimp only
          rw [g2 189 _ (by omega)]
          exact hv i (by omega) b s hs
    · obtain ⟨z1, z2⟩ := z
      obtain ⟨e0, hf, hv⟩ := hz
      dsimp only at e0 hf hv
      subst e0
      refine ⟨z2, ?_, hf, fun i hi => hv i (by omega) hi⟩
      show Md_laysMost_l29 _ z2 = _
      unfold Md_laysMost_l29
      rw [Nat.sub_self, if_pos (show nI 0 + -1 < 0 by decide)]
  refine ⟨σ2, ?_, p1.tr p2, r2⟩
  unfold Md_laysMost Md_laysMost0
  rw [e1, Option.bind_some]
  show (Md_laysMost_L29 (nI 11, σ1)).bind _ = _
  rw [e2]
  rfl
theorem m_pick (wf : WF A) (h : Tab L A σ) (hi : i < 12) (o : oneP A i = true) (hs : s < 4096) (hR : ∀ i, i ≤ 12 → RM L A i σ) (v1 : Int32) : Md_getsBy_L44 v1 (nI s) (nI i) (nI (VM L A (frm A (12 - i)) (tbF s))) σ 0 = some (nI (chM L A i (frm A (11 - i)) (tbF s))) := by
  have key : ∃ r, Md_getsBy_L44 v1 (nI s) (nI i) (nI (VM L A (frm A (12 - i)) (tbF s))) σ 0 = some r ∧ r = nI (chM L A i (frm A (11 - i)) (tbF s)) := by
    rw [frm_at hi, if_pos o]
    refine itr_n 12 (fun (j : Nat) (z : Int32) => z = nI j ∧ ∀ k, k < j → hitM L A i (frm A (11 - i)) (tbF s) k = false) _ ⟨rfl, fun k hk => by omega⟩ (fun j z hj hz => ?_) (fun z hz => ?_)
    · obtain ⟨rfl, hno⟩ := hz
      obtain ⟨g1, g2, g3, g4⟩ := ix3 12 hj
      have v1' := VM_bd (L := L) (A := A) (11 - i) (by omega) (stB (tbF s) j)
      have v2' := VM_bd (L := L) (A := A) (12 - i) (by omega) (tbF s)
      rw [frm_at hi, if_pos o] at v2'
      have hb : bnd L A i j ≤ 10000 := by unfold bnd; omega
      have e9 : nI j + 1 = nI (j + 1) := nI_1 _
      by_cases hh : hitM L A i (frm A (11 - i)) (tbF s) j = true
      · right
        refine ⟨nI j, ?_, by unfold chM; rw [fsP_hit hj hh hno]⟩
        unfold hitM at hh
        simp only [Bool.and_eq_true, decide_eq_true_eq] at hh
        obtain ⟨ok, he⟩ := hh
        obtain ⟨c1, c2, c3⟩ := m_pair wf h hi hj hs (hR _ (by omega)) ok
        show Md_getsBy_l44 v1 (nI s) (nI i) _ (nI j) σ = _
        unfold Md_getsBy_l44
        rw [if_neg g1, m_mayGet h hi hj, Option.bind_some, ok, bI_t, if_neg (show ¬ (1 : Int32) = 0 by decide), lit_nI 12, lit_nI 4096, lit_nI 10000, if_pos c1, if_pos c2, c3, he, if_pos rfl]
      · left
        refine ⟨nI (j + 1), ?_, rfl, fun k hk => ?_⟩
        · show Md_getsBy_l44 v1 (nI s) (nI i) _ (nI j) σ = _
          unfold Md_getsBy_l44 Md_getsBy_b102
          rw [if_neg g1, m_mayGet h hi hj, Option.bind_some, e9]
          by_cases ok : okM L A (tbF s) i j = true
          · obtain ⟨c1, c2, c3⟩ := m_pair wf h hi hj hs (hR _ (by omega)) ok
            rw [ok, bI_t, if_neg (show ¬ (1 : Int32) = 0 by decide), lit_nI 12, lit_nI 4096, lit_nI 10000, if_pos c1, if_pos c2, c3, if_neg (fun z => hh (by
              unfold hitM
              rw [ok, Bool.true_and]
              exact decide_eq_true ((nI_eq (by omega) (by omega)).mp z)))]
          · rw [Bool.eq_false_iff.mpr ok, bI_f, if_pos rfl]
        · by_cases c : k = j
          · rw [c]; exact Bool.eq_false_iff.mpr hh
          · exact hno k (by omega)
    · obtain ⟨rfl, hno⟩ := hz
      refine ⟨nI 12, ?_, by unfold chM; rw [fsP_no hno]⟩
      show Md_getsBy_l44 v1 (nI s) (nI i) _ (nI 12) σ = _
      unfold Md_getsBy_l44
      rw [if_pos (by decide)]
  obtain ⟨r, e, hr⟩ := key
  rw [e, hr]
theorem m_getsBy (wf : WF A) (h : Tab L A σ) (hi : i < 12) (o : oneP A i = true) (hR : ∀ i, i ≤ 12 → RM L A i σ) : Md_getsBy (nI i) σ = some (mostG L A i) := by
  have key : ∃ r, Md_getsBy_L8 (nI i) σ (0, 12, 0) = some r ∧ r = nI (gtM L A i) := by
    refine itr_n (i + 1) (fun (k : Nat) (z : Int32 × Int32 × Int32) => z.2.2 = nI k ∧ (∃ s, s < 4096 ∧ z.1 = nI s ∧ tbF s = (stM L A k).1) ∧ (k = i + 1 → z.2.1 = nI (gtM L A i))) _ ⟨rfl, ⟨0, by decide, rfl, funext fun m => Nat.zero_testBit m⟩, fun q => by omega⟩ (fun k z hk hz => ?_) (fun z hz => ?_) (by show i + 1 < 1000000; omega)
    · obtain ⟨z1, z2, z3⟩ := z
      obtain ⟨e3, ⟨s, hs, e1, hT⟩, -⟩ := hz
      dsimp only at e1 e3
      subst e1; subst e3
      left
      have e9 : nI k + 1 = nI (k + 1) := nI_1 _
      have hk12 : k < 12 := by omega
      show ∃ z', Md_getsBy_l8 (nI i) (nI s) z2 (nI k) σ = _ ∧ _
      unfold Md_getsBy_l8 Md_getsBy_b109 Md_getsBy_b124 Md_getsBy_b125
      rw [if_neg (by rw [nI_ltI (by omega) (by omega)]; omega), m_isOne hk12, Option.bind_some, h.1, one_is, e9, stM_s]
      by_cases ok : oneP A k = true
      · obtain ⟨b1, b2, b3⟩ := ix_m (i := k) (s := s) (by omega) hs
        rw [ok, bI_t, if_neg (show ¬ (1 : Int32) = 0 by decide), lit_nI 4096, b1, if_pos b2, b3, hR k (by omega) s hs, m_pick wf h hk12 ok hs hR, Option.bind_some, if_pos rfl]
        have hg : chM L A k (frm A (11 - k)) (tbF s) = gtM L A k := by rw [hT]; rfl
        unfold sgM
        rw [← hT, hg]
        rcases fsP_ok (hitM L A k (frm A (11 - k)) (stM L A k).1) 12 with ⟨a, -⟩ | ⟨a, -, -⟩
        · have a' : gtM L A k = 12 := a
          rw [a', if_pos rfl]
          refine ⟨_, rfl, rfl, ⟨s, hs, rfl, ?_⟩, fun q => ?_⟩
          · exact hT
          · rw [show i = k by omega, a']
        · have a' : gtM L A k < 12 := a
          rw [if_neg (mt (eqL 12 (by omega) (by decide)).mp (by omega)), or_nI (by omega)]
          refine ⟨_, rfl, rfl, ⟨s ||| 2 ^ gtM L A k, or12 hs a', rfl, ?_⟩, fun q => ?_⟩
          · rw [if_neg (by omega), tbF_or]
          · rw [show i = k by omega]
      · rw [Bool.eq_false_iff.mpr ok, bI_f, if_pos rfl, if_neg (by decide)]
        refine ⟨_, rfl, rfl, ⟨s, hs, rfl, hT⟩, fun q => ?_⟩
        rw [show i = k by omega] at o
        exact absurd o ok
    · obtain ⟨z1, z2, z3⟩ := z
      obtain ⟨e3, -, e2⟩ := hz
      dsimp only at e2 e3
      subst e3
      refine ⟨z2, ?_, e2 rfl⟩
      show Md_getsBy_l8 (nI i) z1 z2 (nI (i + 1)) σ = _
      unfold Md_getsBy_l8
      rw [if_pos (by rw [nI_ltI (by omega) (by omega)]; omega)]
  obtain ⟨r, e, rfl⟩ := key
  unfold Md_getsBy Md_getsBy0 mostG
  rw [e, Option.bind_some]
  rcases fsP_ok (hitM L A i (frm A (11 - i)) (stM L A i).1) 12 with ⟨a, -⟩ | ⟨a, -, -⟩
  · have a' : gtM L A i = 12 := a
    rw [a', if_pos rfl, if_pos (show nI 12 = 12 from rfl)]
  · have a' : gtM L A i < 12 := a
    rw [if_neg (show ¬ gtM L A i = 12 by omega), if_neg (mt (eqL 12 (by omega) (by decide)).mp (by omega))]
theorem div_ok {v c s : Nat} (h : v + s = 10000 * c) (h1 : s ≤ 144 * c) (h2 : c ≤ 12) : (nI v + 9999) / 10000 = nI c ∧ 10000 * ((nI v + 9999) / 10000) - nI v = nI s := by
  have e : (nI v + 9999) / 10000 = nI c := by
    rw [lit_nI 9999, nI_add, ti_eq, Int32.toInt_div, nI_toInt (by omega), nI_toInt (by omega), show (OfNat.ofNat 10000 : Int32).toInt = 10000 from rfl]
    have d : ((v + 9999 : Nat) : Int).tdiv 10000 = ((c : Nat) : Int) := by
      rw [show (10000 : Int) = ((10000 : Nat) : Int) from rfl, ← Int.ofNat_tdiv, show (v + 9999) / 10000 = c by omega]
    rw [d]
    have : c = 0 ∨ c = 1 ∨ c = 2 ∨ c = 3 ∨ c = 4 ∨ c = 5 ∨ c = 6 ∨ c = 7 ∨ c = 8 ∨ c = 9 ∨ c = 10 ∨ c = 11 ∨ c = 12 := by omega
    rcases this with z | z | z | z | z | z | z | z | z | z | z | z | z <;> rw [z] <;> rfl
  refine ⟨e, ?_⟩
  rw [e, lit_nI 10000, pk_mul, pk_sub (by omega), show 10000 * c - v = s by omega]
theorem m_most22 (wf : WF (σ.1 167)) (hL : LawOK L) (hM : LawM L σ) : ∃ σ', Fx (fun b k => PT b k ∨ PN b k) σ σ' ∧ (Md_most_b22 20 σ = some (nI (stM L (σ.1 167) 12).2.1, σ')) ∧ (Md_most_b22 21 σ = some (nI (stM L (σ.1 167) 12).2.2, σ')) ∧ ∀ i, i < 12 → oneP (σ.1 167) i = true → Md_most_b22 (nI i) σ = some (mostG L (σ.1 167) i, σ') := by
  obtain ⟨τ, e1, p1, h6, h78⟩ := m_laysFits hL hM
  have hT : Tab L (σ.1 167) τ := ⟨row_PT p1, LawM_PT hM p1, h6, h78⟩
  obtain ⟨σ2, e2, p2, hR⟩ := m_laysMost wf hT
  have hT2 := Tab_PN hT p2
  have v0 : σ2.1 189 0 = nI (VM L (σ.1 167) (onesL (σ.1 167)) (fun _ => false)) := by
    have := hR 0 (by omega) 0 (by decide)
    rw [show 12 - 0 = 12 from rfl, show tbF 0 = fun _ => false from funext fun m => Nat.zero_testBit m] at this
    rw [lst_frm (A := σ.1 167) 12 (Nat.le_refl _)]
    exact this
  obtain ⟨s1, s2, s3⟩ := st_all (L := L) wf
  obtain ⟨d1, d2⟩ := div_ok s1 s2 s3
  refine ⟨σ2, (p1.mo (fun b k q => Or.inl q)).tr (p2.mo (fun b k q => Or.inr q)), ?_, ?_, fun i hi o => ?_⟩
  · unfold Md_most_b22
    rw [e1, Option.bind_some, e2, Option.bind_some, if_pos rfl, v0, d1]
  · unfold Md_most_b22
    rw [e1, Option.bind_some, e2, Option.bind_some, if_neg (by decide), if_pos rfl, v0, d2]
  · unfold Md_most_b22
    rw [e1, Option.bind_some, e2, Option.bind_some, if_neg (mt (eqL 20 (by omega) (by decide)).mp (by omega)), if_neg (mt (eqL 21 (by omega) (by decide)).mp (by omega)), m_getsBy wf hT2 hi o hR]
    rfl
theorem st_most (hI : Inv σ) (x : Int32) : ∃ (r r' : Int32) (σ1 : MH) (σ2 : MH), Pz_most x σ = some (r, σ1) ∧ Md_most x σ1 = some (r', σ2) ∧ r = r' ∧ Inv σ2 := by
  obtain ⟨-, L, hL, hC, hM⟩ := hI.2.2.2.2
  obtain ⟨σ1, e1, p1, v2, v3, hv⟩ := c_findMost hI.1 hI.2.1 hL hC
  have hJ : Inv σ1 := Inv_q hI (PG_PX p1)
  have rt : σ1.1 167 = σ.1 167 := row_PX (PG_PX p1)
  have hM1 : LawM L σ1 := LawM_of hM (fun b k a c => p1 b k (by unfold PG; omega)) (p1 166 13 (by unfold PG; omega))
  obtain ⟨σ2, p2, m20, m21, mi⟩ := m_most22 (σ := σ1) (by rw [rt]; exact hI.2.1) hL hM1
  rw [rt] at m20 m21 mi
  have hK : Inv σ2 := Inv_q hJ (p2.mo (fun b k q => by unfold PT PN at q; unfold PX PC PQ; omega))
  have b47 : ∀ y v, Pz_most_b47 y v σ = if y = 20 then some (σ1.1 129 2, σ1) else (if y = 21 then some (σ1.1 129 3, σ1) else (if v = 0 then some (-1, σ1) else (if inb y 12 = true then some (σ1.1 130 y.toNatClampNeg, σ1) else none))) := fun y v => by
    unfold Pz_most_b47
    rw [e1, Option.bind_some]
  rcases tw_ix x with ⟨i, hi, rfl⟩ | h
  · have n20 : ¬ nI i = 20 := mt (eqL 20 (by omega) (by decide)).mp (by omega)
    have n21 : ¬ nI i = 21 := mt (eqL 21 (by omega) (by decide)).mp (by omega)
    obtain ⟨f1, f2, f3, f4⟩ := ix3 12 hi
    have hin : ∀ τ : MH, Md_in (nI i) 20 21 τ = some 0 := fun τ => by
      rw [lit_nI 20, lit_nI 21, m_in_n (by decide) (by decide) (by omega), decide_eq_false (show ¬ 20 ≤ i by omega)]
      rfl
    have hc : Pz_most (nI i) σ = Pz_most_b28 (nI i) (bI (oneP (σ.1 167) i)) σ := by
      unfold Pz_most Pz_most0 Pz_most_b27 oneP
      rw [c_isAlive hI.1 hI.2.1 hi, Option.bind_some, if_pos f2, f3, (hI.1.2.1 i hi).1]
      cases hl : liveR (σ.1 167) i
      · rfl
      · rw [bI_t, if_neg (show ¬ (1 : Int32) = 0 by decide)]
        by_cases q : σ.1 167 i = 0
        · rw [if_pos q, decide_eq_true q]; rfl
        · rw [if_neg q, decide_eq_false q]; rfl
    by_cases o : oneP (σ.1 167) i = true
    · refine ⟨σ1.1 130 i, mostG L (σ.1 167) i, σ1, σ2, ?_, ?_, hv i (lstP_mem2 hi o), hK⟩
      · rw [hc, o, bI_t]
        unfold Pz_most_b28
        rw [if_neg n20, if_neg n21, if_neg (show ¬ (1 : Int32) = 0 by decide), b47, if_neg n20, if_neg n21, if_neg (show ¬ (1 : Int32) = 0 by decide), if_pos f2, f3]
      · unfold Md_most Md_most0
        rw [hin, Option.bind_some, if_pos rfl, m_isOne hi, Option.bind_some, one_is, rt, o, bI_t, if_neg (show ¬ (1 : Int32) = 0 by decide), mi i hi o]
    · have o' := Bool.eq_false_iff.mpr o
      refine ⟨-1, -1, σ, σ, ?_, ?_, rfl, hI⟩
      · rw [hc, o', bI_f]
        unfold Pz_most_b28
        rw [if_neg n20, if_neg n21, if_pos rfl]
      · unfold Md_most Md_most0
        rw [hin, Option.bind_some, if_pos rfl, m_isOne hi, Option.bind_some, one_is, o', bI_f, if_pos rfl]
  · have hc : Pz_most x σ = Pz_most_b28 x 0 σ := by
      unfold Pz_most Pz_most0 Pz_most_b27
      rw [c_isAliveF h, Option.bind_some, if_pos rfl]
    have hin1 : ∀ τ : MH, Md_in 20 20 21 τ = some 1 := fun τ => by
      rw [lit_nI 20, lit_nI 21, m_in_n (by decide) (by decide) (by decide)]; rfl
    have hin2 : ∀ τ : MH, Md_in 21 20 21 τ = some 1 := fun τ => by
      rw [lit_nI 20, lit_nI 21, m_in_n (by decide) (by decide) (by decide)]; rfl
    by_cases q : x = 20
    · subst q
      refine ⟨σ1.1 129 2, nI (stM L (σ.1 167) 12).2.1, σ1, σ2, ?_, ?_, v2, hK⟩
      · rw [hc]
        unfold Pz_most_b28
        rw [if_pos rfl, b47, if_pos rfl]
      · unfold Md_most Md_most0
        rw [hin1, Option.bind_some, if_neg (by decide), m20]
    · by_cases q2 : x = 21
      · subst q2
        refine ⟨σ1.1 129 3, nI (stM L (σ.1 167) 12).2.2, σ1, σ2, ?_, ?_, v3, hK⟩
        · rw [hc]
          unfold Pz_most_b28
          rw [if_neg (by decide), if_pos rfl, b47, if_neg (by decide), if_pos rfl]
        · unfold Md_most Md_most0
          rw [hin2, Option.bind_some, if_neg (by decide), m21]
      · refine ⟨-1, -1, σ, σ, ?_, ?_, rfl, hI⟩
        · rw [hc]
          unfold Pz_most_b28
          rw [if_neg q, if_neg q2, if_pos rfl]
        · have hin : Md_in x 20 21 σ = some 0 := by
            unfold Md_in Md_in0
            by_cases c1 : x < 20
            · rw [if_pos c1]; rfl
            · rw [if_neg c1]
              by_cases c2 : 21 < x
              · rw [if_pos c2]; rfl
              · exfalso
                rw [ti_lt] at c1 c2
                rw [ti_eq] at q q2
                rw [show (20 : Int32).toInt = 20 from rfl] at c1 q
                rw [show (21 : Int32).toInt = 21 from rfl] at c2 q2
                omega
          unfold Md_most Md_most0
          rw [hin, Option.bind_some, if_pos rfl, m_isOneF h, Option.bind_some, if_pos rfl]
end MMO
