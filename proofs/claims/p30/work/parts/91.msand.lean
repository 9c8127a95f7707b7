/-! sanding, in the reference -/
section MSA
variable {σ : MH} {A : Nat → Int32} {i j k n w h p r s a R S : Nat} {b : Option Nat}
def S1o (b : Option Nat) : Nat := match b with
  | none => 0
  | some _ => 60
def b45 (b : Option Nat) : Int32 := match b with
  | none => -1
  | some c => nI c
def CtxM (A : Nat → Int32) (k a : Nat) (b : Option Nat) (σ : MH) : Prop := σ.1 167 = A ∧ σ.1 166 43 = nI k ∧ σ.1 166 44 = nI a ∧ σ.1 166 45 = b45 b
theorem CtxM.row (h : CtxM A k a b σ) : σ.1 167 = A := h.1
theorem CtxM.c43 (h : CtxM A k a b σ) : σ.1 166 43 = nI k := h.2.1
theorem CtxM.c44 (h : CtxM A k a b σ) : σ.1 166 44 = nI a := h.2.2.1
theorem CtxM.c45 (h : CtxM A k a b σ) : σ.1 166 45 = b45 b := h.2.2.2
theorem CtxM.of {σ' : MH} (h : CtxM A k a b σ) (hf : Fx (fun b _ => b = 193 ∨ b = 194) σ σ') : CtxM A k a b σ' := ⟨(funext fun m => hf 167 m (by omega)).trans h.row, (hf 166 43 (by omega)).trans h.c43, (hf 166 44 (by omega)).trans h.c44, (hf 166 45 (by omega)).trans h.c45⟩
theorem S1_le : S1o b ≤ 60 := by
  cases b with
  | none => exact Nat.zero_le _
  | some c => exact Nat.le_refl _
def RowW (A : Nat → Int32) (k a : Nat) (b : Option Nat) (n : Nat) (σ : MH) : Prop := ∀ r s, r ≤ 60 → s ≤ S1o b → σ.1 193 (3721 * (8 - n) + 61 * r + s) = nI (MF (G1A A a) (G2A A b) (C0A A k) n r s)
theorem m_workAt (hh : h ≤ 8) (hr : r ≤ 60) (hs : s ≤ 60) : Md_workAt (nI h) (nI r) (nI s) σ = some (σ.1 193 (3721 * h + 61 * r + s)) := by
  unfold Md_workAt Md_workAt0
  rw [lit_nI 3721, lit_nI 61, pk_mul, pk_mul, nI_add, nI_add, if_pos (inb_nI (by omega) (by decide)), nI_clamp (by omega)]
theorem c0_18 (A : Nat → Int32) (k : Nat) : ∀ h p, C0A A k h p ≤ 18 := fun h p => by unfold C0A cz; omega
theorem big_lit : (1000000000 : Int32) = nI BIG := rfl
theorem m_wb54 (wf : WF A) (hk : k < 12) (hX : CtxM A k a b σ) (hn : n ≤ 7) (hp : p < 19) {r' s' : Nat} (hr : r' ≤ 60) (hs : s' ≤ S1o b) (hR : RowW A k a b n σ) : Md_workBy_b54 (nI (7 - n)) (nI p - 9) (nI r') (nI s') σ = some (nI (if MF (G1A A a) (G2A A b) (C0A A k) n r' s' ≠ BIG then MF (G1A A a) (G2A A b) (C0A A k) n r' s' + C0A A k (7 - n) p else BIG)) := by
  have hS := S1_le (b := b)
  have hM := MF_big (G1 := G1A A a) (G2 := G2A A b) (C0 := C0A A k) (n := n) (r := r') (s := s')
  have hB : BIG = 1000000000 := rfl
  unfold Md_workBy_b54
  rw [if_neg (nI_pos (by omega)), if_pos ((leR 0 (by omega) (by decide)).mpr (Nat.zero_le _)), show nI (7 - n) + 1 = nI (7 - n + 1) from nI_1 _, m_workAt (by omega) hr (by omega), show 7 - n + 1 = 8 - n by omega, hR _ _ hr hs, Option.bind_some, hX.c43, m_heightOf hk (by omega), Option.bind_some, m_size, Option.bind_some, hX.row, cz_is (b9_of wf hk (by omega)) hp, big_lit]
  by_cases q : MF (G1A A a) (G2A A b) (C0A A k) n r' s' = BIG
  · rw [if_pos (by rw [q]), if_neg (fun z => z q)]
  · rw [if_neg (fun z => q ((nI_eq (by omega) (by omega)).mp z)), if_pos q, nI_add]
    rfl
theorem m_workBy (wf : WF A) (hk : k < 12) (ha : a < 12) (hb : ∀ c, b = some c → c < 12) (hX : CtxM A k a b σ) (hn : n ≤ 7) (hp : p < 19) (hr : r ≤ 60) (hs : s ≤ S1o b) (hR : RowW A k a b n σ) : Md_workBy (nI (7 - n)) (nI p - 9) (nI r) (nI s) σ = some (nI (wbF (G1A A a) (G2A A b) (C0A A k) (MF (G1A A a) (G2A A b) (C0A A k) n) (7 - n) p r s)) := by
  have hS := S1_le (b := b)
  have e7 : (7 : Int32) - nI (7 - n) = nI (7 - (7 - n)) := by rw [lit_nI 7, pk_sub (show 7 - n ≤ 7 by omega)]
  have g1 := gz_is (b9_of (h := 7 - (7 - n)) wf ha (by omega)) hp
  have eG1 : G1A A a (7 - n) p = gz (hgR A a (7 - (7 - n))) p := rfl
  unfold Md_workBy Md_workBy0
  rw [e7, hX.c44, m_heightOf ha (by omega), Option.bind_some, m_size, Option.bind_some, hX.row, g1.1, hX.c45]
  unfold wbF
  cases b with
  | none =>
    have e0 : s = 0 := by
      have : s ≤ 0 := hs
      omega
    rw [show b45 none = -1 from rfl, if_pos rfl]
    by_cases q : G1A A a (7 - n) p ≤ r
    · rw [← eG1, pk_sub q, m_wb54 wf hk hX hn hp (by omega) hs hR]
      show _ = some (nI (if G1A A a (7 - n) p ≤ r ∧ 0 ≤ s ∧ MF (G1A A a) (G2A A none) (C0A A k) n (r - G1A A a (7 - n) p) (s - 0) ≠ BIG then _ else BIG))
      rw [Nat.sub_zero]
      by_cases y : MF (G1A A a) (G2A A none) (C0A A k) n (r - G1A A a (7 - n) p) s = BIG
      · rw [if_neg (fun z => z y), if_neg (fun z => z.2.2 y)]
      · rw [if_pos y, if_pos ⟨q, Nat.zero_le _, y⟩]
        rfl
    · rw [if_neg (fun z => q z.1)]
      unfold Md_workBy_b54
      rw [← eG1, if_pos (sub_neg (by omega) (by omega) (by omega))]
      rfl
  | some c =>
    have hc := hb c rfl
    have g2 := gz_is (b9_of (h := 7 - (7 - n)) wf hc (by omega)) hp
    have eG2 : G2A A (some c) (7 - n) p = gz (hgR A c (7 - (7 - n))) p := rfl
    rw [show b45 (some c) = nI c from rfl, if_neg (nI_m1 (by omega)), m_heightOf hc (by omega), Option.bind_some, m_size, Option.bind_some, hX.row, g2.1]
    by_cases q : G1A A a (7 - n) p ≤ r
    · by_cases q2 : G2A A (some c) (7 - n) p ≤ s
      · rw [← eG1, ← eG2, pk_sub q, pk_sub q2, m_wb54 wf hk hX hn hp (by omega) (by omega) hR]
        by_cases y : MF (G1A A a) (G2A A (some c)) (C0A A k) n (r - G1A A a (7 - n) p) (s - G2A A (some c) (7 - n) p) = BIG
        · rw [if_neg (fun z => z y), if_neg (fun z => z.2.2 y)]
        · rw [if_pos y, if_pos ⟨q, q2, y⟩]
      · rw [if_neg (fun z => q2 z.2.1)]
        unfold Md_workBy_b54
        have h1 : nI s - nI (gz (hgR A c (7 - (7 - n))) p) < 0 := sub_neg (by omega) (by omega) (by rw [← eG2]; omega)
        rw [if_neg (show ¬ (0 : Int32) ≤ nI s - nI (gz (hgR A c (7 - (7 - n))) p) from ne_of_lt32 h1)]
        split <;> rfl
    · rw [if_neg (fun z => q z.1)]
      unfold Md_workBy_b54
      rw [← eG1, if_pos (sub_neg (by omega) (by omega) (by omega))]
      rfl
theorem jmin_nI {a b : Nat} (ha : a < 2 ^ 31) (hb : b < 2 ^ 31) : jmin (nI a) (nI b) = nI (min a b) := by
  unfold jmin
  by_cases h : b < a
  · rw [if_pos ((nI_ltI hb ha).mpr h), Nat.min_eq_right (by omega)]
  · rw [if_neg (fun z => h ((nI_ltI hb ha).mp z)), Nat.min_eq_left (by omega)]
theorem wb_le {M : Nat → Nat → Nat} {G1 G2 C0 : Nat → Nat → Nat} (hC : ∀ h p, C0 h p ≤ 18) (hM : ∀ r s, M r s ≤ BIG) : wbF G1 G2 C0 M h p r s ≤ BIG + 18 := by
  unfold wbF
  have := hM (r - G1 h p) (s - G2 h p)
  have := hC h p
  split <;> omega
theorem m_minAll (wf : WF A) (hk : k < 12) (ha : a < 12) (hb : ∀ c, b = some c → c < 12) (hX : CtxM A k a b σ) (hn : n ≤ 7) (hr : r ≤ 60) (hs : s ≤ S1o b) (hR : RowW A k a b n σ) (v1 : Int32) : Md_laysWork_L75 v1 (nI (7 - n)) (nI r) (nI s) σ (1000000000, -9) = some (nI (MF (G1A A a) (G2A A b) (C0A A k) (n + 1) r s)) := by
  have hB : BIG = 1000000000 := rfl
  have hw : ∀ p, wbF (G1A A a) (G2A A b) (C0A A k) (MF (G1A A a) (G2A A b) (C0A A k) n) (7 - n) p r s ≤ BIG + 18 := fun p => wb_le (c0_18 A k) (fun _ _ => MF_big)
  have key : ∃ x, Md_laysWork_L75 v1 (nI (7 - n)) (nI r) (nI s) σ (1000000000, -9) = some x ∧ x = nI (MF (G1A A a) (G2A A b) (C0A A k) (n + 1) r s) := by
    rw [MF_s]
    refine itr_n 19 (fun (p : Nat) (z : Int32 × Int32) => ∃ m, m = mnF (fun p => wbF (G1A A a) (G2A A b) (C0A A k) (MF (G1A A a) (G2A A b) (C0A A k) n) (7 - n) p r s) p ∧ z = (nI m, nI p - 9)) _ ⟨_, rfl, rfl⟩ (fun p z hp hz => ?_) (fun z hz => ?_)
    · obtain ⟨m, hm, rfl⟩ := hz
      obtain ⟨u1, u2⟩ := up_go hp
      have hm1 : m ≤ BIG := by rw [hm]; exact (mn_ok _ p).1
      have hw1 := hw p
      refine Or.inl ⟨(nI (min m (wbF (G1A A a) (G2A A b) (C0A A k) (MF (G1A A a) (G2A A b) (C0A A k) n) (7 - n) p r s)), nI (p + 1) - 9), ?_, _, ?_, rfl⟩
      · show Md_laysWork_l75 v1 (nI (7 - n)) (nI r) (nI s) _ (nI p - 9) σ = _
        unfold Md_laysWork_l75
        rw [if_neg u1, m_workBy wf hk ha hb hX hn hp hr hs hR, Option.bind_some, m_min, Option.bind_some, u2, jmin_nI (by omega) (by omega)]
      · rw [hm]
        rfl
    · obtain ⟨m, hm, rfl⟩ := hz
      refine ⟨nI m, ?_, by rw [hm]⟩
      show Md_laysWork_l75 v1 (nI (7 - n)) (nI r) (nI s) _ (nI 19 - 9) σ = _
      unfold Md_laysWork_l75
      rw [if_pos (by decide)]
  obtain ⟨x, e, hx⟩ := key
  rw [e, hx]
theorem RowW.of {σ' : MH} (h : RowW A k a b n σ) (e : ∀ m, 3721 * (8 - n) ≤ m → m < 3721 * (8 - n) + 3721 → σ'.1 193 m = σ.1 193 m) : RowW A k a b n σ' := fun r s hr hs => by
  have := S1_le (b := b)
  rw [e _ (by omega) (by omega)]
  exact h r s hr hs
theorem m_workRow (wf : WF A) (hk : k < 12) (ha : a < 12) (hb : ∀ c, b = some c → c < 12) (hX : CtxM A k a b σ) (hn : n ≤ 7) (hR : RowW A k a b n σ) : ∃ σ', Md_laysWork_L52 (nI (S1o b)) (nI (7 - n)) (0, σ) = some σ' ∧ Fx (fun b m => b = 193 ∧ 3721 * (7 - n) ≤ m ∧ m < 3721 * (7 - n) + 3721) σ σ' ∧ RowW A k a b (n + 1) σ' := by
  have hS := S1_le (b := b)
  have inner : ∀ (τ : MH) (r : Nat), r ≤ 60 → Fx (fun b m => b = 193 ∧ 3721 * (7 - n) ≤ m ∧ m < 3721 * (7 - n) + 3721) σ τ → ∃ x, Md_laysWork_L61 (nI (S1o b)) (nI (7 - n)) (nI r) (0, τ) = some x ∧ Fx (fun b m => b = 193 ∧ 3721 * (7 - n) + 61 * r ≤ m ∧ m < 3721 * (7 - n) + 61 * r + 61) τ x ∧ ∀ s, s ≤ S1o b → x.1 193 (3721 * (7 - n) + 61 * r + s) = nI (MF (G1A A a) (G2A A b) (C0A A k) (n + 1) r s) := by
    intro τ r hr hτ
    obtain ⟨x, e, x1, x2⟩ : ∃ x, Md_laysWork_L61 (nI (S1o b)) (nI (7 - n)) (nI r) (0, τ) = some x ∧ Fx (fun b m => b = 193 ∧ 3721 * (7 - n) + 61 * r ≤ m ∧ m < 3721 * (7 - n) + 61 * r + 61) τ x ∧ ∀ s, s < S1o b + 1 → x.1 193 (3721 * (7 - n) + 61 * r + s) = nI (MF (G1A A a) (G2A A b) (C0A A k) (n + 1) r s) := by
      refine itr_n (S1o b + 1) (fun (s : Nat) (z : Int32 × MH) => z.1 = nI s ∧ Fx (fun b m => b = 193 ∧ 3721 * (7 - n) + 61 * r ≤ m ∧ m < 3721 * (7 - n) + 61 * r + 61) τ z.2 ∧ ∀ s', s' < s → z.2.1 193 (3721 * (7 - n) + 61 * r + s') = nI (MF (G1A A a) (G2A A b) (C0A A k) (n + 1) r s')) _ ⟨rfl, Fx.rf, fun s' h => by omega⟩ (fun s z hs hz => ?_) (fun z hz => ?_) (by show S1o b + 1 < 1000000; omega)
      · obtain ⟨z1, z2⟩ := z
        obtain ⟨rfl, hf, hv⟩ := hz
        dsimp only at hf hv
        have F1 : Fx (fun b m => b = 193 ∧ 3721 * (7 - n) ≤ m ∧ m < 3721 * (7 - n) + 3721) σ z2 := hτ.tr (hf.mo (fun b m q => by omega))
        have hXz : CtxM A k a b z2 := hX.of (F1.mo (fun b m q => Or.inl q.1))
        have hRz : RowW A k a b n z2 := hR.of (fun m h1 h2 => F1 193 m (by omega))
        refine Or.inl ⟨(nI (s + 1), sI z2 193 (3721 * (7 - n) + 61 * r + s) (nI (MF (G1A A a) (G2A A b) (C0A A k) (n + 1) r s))), ?_, rfl, hf.tr (Fx_sI ⟨rfl, by omega, by omega⟩), fun s' hs' => ?_⟩
        · show Md_laysWork_l61 (nI (S1o b)) (nI (7 - n)) (nI r) (nI s) z2 = _
          unfold Md_laysWork_l61
          rw [if_neg (by rw [nI_ltI (by omega) (by omega)]; omega), m_minAll wf hk ha hb hXz hn hr (by omega) hRz, Option.bind_some, lit_nI 3721, lit_nI 61, pk_mul, pk_mul, nI_add, nI_add, if_pos (inb_nI (by omega) (by decide)), nI_clamp (by omega), show nI s + 1 = nI (s + 1) from nI_1 _]
        · dsimp only
          by_cases c : s' = s
          · rw [c, sI_same]
          · rw [sI_ne (by omega)]; exact hv s' (by omega)
      · obtain ⟨z1, z2⟩ := z
        obtain ⟨rfl, hz⟩ := hz
        refine ⟨z2, ?_, hz⟩
        show Md_laysWork_l61 (nI (S1o b)) (nI (7 - n)) (nI r) (nI (S1o b + 1)) z2 = _
        unfold Md_laysWork_l61
        rw [if_pos (by rw [nI_ltI (by omega) (by omega)]; omega)]
    exact ⟨x, e, x1, fun s hs => x2 s (by omega)⟩
  obtain ⟨x, e, x1, x2⟩ : ∃ x, Md_laysWork_L52 (nI (S1o b)) (nI (7 - n)) (0, σ) = some x ∧ Fx (fun b m => b = 193 ∧ 3721 * (7 - n) ≤ m ∧ m < 3721 * (7 - n) + 3721) σ x ∧ ∀ r s, r < 61 → s ≤ S1o b → x.1 193 (3721 * (7 - n) + 61 * r + s) = nI (MF (G1A A a) (G2A A b) (C0A A k) (n + 1) r s) := by
    refine itr_n 61 (fun (r : Nat) (z : Int32 × MH) => z.1 = nI r ∧ Fx (fun b m => b = 193 ∧ 3721 * (7 - n) ≤ m ∧ m < 3721 * (7 - n) + 3721) σ z.2 ∧ ∀ r' s, r' < r → s ≤ S1o b → z.2.1 193 (3721 * (7 - n) + 61 * r' + s) = nI (MF (G1A A a) (G2A A b) (C0A A k) (n + 1) r' s)) _ ⟨rfl, Fx.rf, fun r' s h => by omega⟩ (fun r z hr hz => ?_) (fun z hz => ?_)
    · obtain ⟨z1, z2⟩ := z
      obtain ⟨rfl, hf, hv⟩ := hz
      dsimp only at hf hv
      obtain ⟨x, e, x1, x2⟩ := inner z2 r (by omega) hf
      refine Or.inl ⟨(nI (r + 1), x), ?_, rfl, hf.tr (x1.mo (fun b m q => by omega)), fun r' s hr' hs => ?_⟩
      · show Md_laysWork_l52 (nI (S1o b)) (nI (7 - n)) (nI r) z2 = _
        unfold Md_laysWork_l52
        rw [if_neg (mt (ltR 60 (by omega) (by decide)).mp (by omega)), e, Option.bind_some, show nI r + 1 = nI (r + 1) from nI_1 _]
      · dsimp only
        by_cases c : r' = r
        · rw [c]; exact x2 s hs
        · rw [x1 193 _ (by omega)]; exact hv r' s (by omega) hs
    · obtain ⟨z1, z2⟩ := z
      obtain ⟨rfl, hz⟩ := hz
      refine ⟨z2, ?_, hz⟩
      show Md_laysWork_l52 (nI (S1o b)) (nI (7 - n)) (nI 61) z2 = _
      unfold Md_laysWork_l52
      rw [if_pos (by decide)]
  refine ⟨x, e, x1, fun r s hr hs => ?_⟩
  rw [show 8 - (n + 1) = 7 - n by omega]
  exact x2 r s (by omega) hs
theorem m_laysWork (wf : WF A) (hk : k < 12) (ha : a < 12) (hb : ∀ c, b = some c → c < 12) (hX : CtxM A k a b σ) : ∃ σ', Md_laysWork (nI (S1o b)) σ = some σ' ∧ Fx (fun b _ => b = 193) σ σ' ∧ ∀ n, n ≤ 8 → RowW A k a b n σ' := by
  have hS := S1_le (b := b)
  obtain ⟨σ1, e1, p1, r1⟩ : ∃ x, Md_laysWork_L2 (nI (S1o b)) (0, σ) = some x ∧ Fx (fun b _ => b = 193) σ x ∧ RowW A k a b 0 x := by
    have inner : ∀ (τ : MH) (r : Nat), r ≤ 60 → ∃ x, Md_laysWork_L10 (nI (S1o b)) (nI r) (0, τ) = some x ∧ Fx (fun b m => b = 193 ∧ 29768 + 61 * r ≤ m ∧ m < 29768 + 61 * r + 61) τ x ∧ ∀ s, s < S1o b + 1 → x.1 193 (29768 + 61 * r + s) = 0 := by
      intro τ r hr
      refine itr_n (S1o b + 1) (fun (s : Nat) (z : Int32 × MH) => z.1 = nI s ∧ Fx (fun b m => b = 193 ∧ 29768 + 61 * r ≤ m ∧ m < 29768 + 61 * r + 61) τ z.2 ∧ ∀ s', s' < s → z.2.1 193 (29768 + 61 * r + s') = 0) _ ⟨rfl, Fx.rf, fun s' h => by omega⟩ (fun s z hs hz => ?_) (fun z hz => ?_) (by show S1o b + 1 < 1000000; omega)
      · obtain ⟨z1, z2⟩ := z
        obtain ⟨rfl, hf, hv⟩ := hz
        dsimp only at hf hv
        refine Or.inl ⟨(nI (s + 1), sI z2 193 (29768 + 61 * r + s) 0), ?_, rfl, hf.tr (Fx_sI ⟨rfl, by omega, by omega⟩), fun s' hs' => ?_⟩
        · show Md_laysWork_l10 (nI (S1o b)) (nI r) (nI s) z2 = _
          unfold Md_laysWork_l10
          rw [if_neg (by rw [nI_ltI (by omega) (by omega)]; omega), lit_nI 29768, lit_nI 61, pk_mul, nI_add, nI_add, if_pos (inb_nI (by omega) (by decide)), nI_clamp (by omega), show nI s + 1 = nI (s + 1) from nI_1 _]
        · dsimp only
          by_cases c : s' = s
          · rw [c, sI_same]
          · rw [sI_ne (by omega)]; exact hv s' (by omega)
      · obtain ⟨z1, z2⟩ := z
        obtain ⟨rfl, hz⟩ := hz
        refine ⟨z2, ?_, hz⟩
        show Md_laysWork_l10 (nI (S1o b)) (nI r) (nI (S1o b + 1)) z2 = _
        unfold Md_laysWork_l10
        rw [if_pos (by rw [nI_ltI (by omega) (by omega)]; omega)]
    obtain ⟨x, e, x1, x2⟩ : ∃ x, Md_laysWork_L2 (nI (S1o b)) (0, σ) = some x ∧ Fx (fun b _ => b = 193) σ x ∧ ∀ r s, r < 61 → s ≤ S1o b → x.1 193 (29768 + 61 * r + s) = 0 := by
      refine itr_n 61 (fun (r : Nat) (z : Int32 × MH) => z.1 = nI r ∧ Fx (fun b _ => b = 193) σ z.2 ∧ ∀ r' s, r' < r → s ≤ S1o b → z.2.1 193 (29768 + 61 * r' + s) = 0) _ ⟨rfl, Fx.rf, fun r' s h => by omega⟩ (fun r z hr hz => ?_) (fun z hz => ?_)
      · obtain ⟨z1, z2⟩ := z
        obtain ⟨rfl, hf, hv⟩ := hz
        dsimp only at hf hv
        obtain ⟨x, e, x1, x2⟩ := inner z2 r (by omega)
        refine Or.inl ⟨(nI (r + 1), x), ?_, rfl, hf.tr (x1.mo (fun b m q => q.1)), fun r' s hr' hs => ?_⟩
        · show Md_laysWork_l2 (nI (S1o b)) (nI r) z2 = _
          unfold Md_laysWork_l2
          rw [if_neg (mt (ltR 60 (by omega) (by decide)).mp (by omega)), e, Option.bind_some, show nI r + 1 = nI (r + 1) from nI_1 _]
        · dsimp only
          by_cases c : r' = r
          · rw [c]; exact x2 s (by omega)
          · rw [x1 193 _ (by omega)]; exact hv r' s (by omega) hs
      · obtain ⟨z1, z2⟩ := z
        obtain ⟨rfl, hz⟩ := hz
        refine ⟨z2, ?_, hz⟩
        show Md_laysWork_l2 (nI (S1o b)) (nI 61) z2 = _
        unfold Md_laysWork_l2
        rw [if_pos (by decide)]
    exact ⟨x, e, x1, fun r s hr hs => x2 r s (by omega) hs⟩
  obtain ⟨σ2, e2, p2, r2⟩ : ∃ x, Md_laysWork_L46 (nI (S1o b)) (nI (8 - 0) + -1, σ1) = some x ∧ Fx (fun b _ => b = 193) σ1 x ∧ ∀ n, n ≤ 8 → RowW A k a b n x := by
    refine itr_n 8 (fun (m : Nat) (z : Int32 × MH) => z.1 = nI (8 - m) + -1 ∧ Fx (fun b _ => b = 193) σ1 z.2 ∧ ∀ n, n ≤ m → RowW A k a b n z.2) _ ⟨rfl, Fx.rf, fun n hn => by rw [show n = 0 by omega]; exact r1⟩ (fun m z hm hz => ?_) (fun z hz => ?_)
    · obtain ⟨z1, z2⟩ := z
      obtain ⟨e0, hf, hv⟩ := hz
      dsimp only at e0 hf hv
      subst e0
      have hXz : CtxM A k a b z2 := hX.of ((p1.tr hf).mo (fun b m q => Or.inl q))
      obtain ⟨x, e, x1, x2⟩ := m_workRow wf hk ha hb hXz (show m ≤ 7 by omega) (hv m (Nat.le_refl _))
      refine Or.inl ⟨(nI (8 - (m + 1)) + -1, x), ?_, rfl, hf.tr (x1.mo (fun b m q => q.1)), fun n hn => ?_⟩
      · show Md_laysWork_l46 (nI (S1o b)) _ z2 = _
        unfold Md_laysWork_l46
        rw [show nI (8 - m) + -1 = nI (7 - m) from dn1 (show m ≤ 7 by omega), if_neg (nI_pos (by omega)), e, Option.bind_some, show 8 - (m + 1) = 7 - m by omega]
      · dsimp only
        by_cases c : n = m + 1
        · rw [c]; exact x2
        · exact (hv n (by omega)).of (fun q h1 h2 => x1 193 q (by omega))
    · obtain ⟨z1, z2⟩ := z
      obtain ⟨e0, hf, hv⟩ := hz
      dsimp only at e0 hf hv
      subst e0
      refine ⟨z2, ?_, hf, hv⟩
      show Md_laysWork_l46 (nI (S1o b)) _ z2 = _
      unfold Md_laysWork_l46
      rw [Nat.sub_self, if_pos (show nI 0 + -1 < 0 by decide)]
  refine ⟨σ2, ?_, p1.tr p2, r2⟩
  unfold Md_laysWork Md_laysWork0
  rw [e1, Option.bind_some, show (7 : Int32) = nI (8 - 0) + -1 from by decide, e2]
  rfl
/-- the least edge of the least work -/
theorem m_firstV (wf : WF A) (hk : k < 12) (ha : a < 12) (hb : ∀ c, b = some c → c < 12) (hX : CtxM A k a b σ) (hh : h < 8) (hr : r ≤ 60) (hs : s ≤ S1o b) (hR : ∀ n, n ≤ 8 → RowW A k a b n σ) (h0 : MF (G1A A a) (G2A A b) (C0A A k) (8 - h) r s ≠ BIG) : Md_laysSanded_L19 (nI r) (nI s) (nI h) σ (-9) = some (nI (chF (G1A A a) (G2A A b) (C0A A k) (7 - h) r s) - 9) := by
  have hB : BIG = 1000000000 := rfl
  have hS := S1_le (b := b)
  have h0' : MF (G1A A a) (G2A A b) (C0A A k) (7 - h + 1) r s ≠ BIG := by rw [show 7 - h + 1 = 8 - h by omega]; exact h0
  obtain ⟨c1, c2, c3⟩ := ch_ok h0'
  have key : ∃ x, Md_laysSanded_L19 (nI r) (nI s) (nI h) σ (nI 0 - 9) = some x ∧ x = nI (chF (G1A A a) (G2A A b) (C0A A k) (7 - h) r s) - 9 := by
    refine itr_n 19 (fun (p : Nat) (z : Int32) => z = nI p - 9 ∧ p ≤ chF (G1A A a) (G2A A b) (C0A A k) (7 - h) r s) _ ⟨rfl, Nat.zero_le _⟩ (fun p z hp hz => ?_) (fun z hz => by omega)
    obtain ⟨rfl, hp2⟩ := hz
    have hw := wb_le (M := MF (G1A A a) (G2A A b) (C0A A k) (7 - h)) (G1 := G1A A a) (G2 := G2A A b) (h := 7 - (7 - h)) (p := p) (r := r) (s := s) (c0_18 A k) (fun _ _ => MF_big)
    have hm := MF_big (G1 := G1A A a) (G2 := G2A A b) (C0 := C0A A k) (n := 7 - h + 1) (r := r) (s := s)
    have e1 := m_workBy wf hk ha hb hX (show 7 - h ≤ 7 by omega) hp hr hs (hR (7 - h) (by omega))
    rw [show 7 - (7 - h) = h by omega] at e1 hw
    have e2 : Md_workAt (nI h) (nI r) (nI s) σ = some (nI (MF (G1A A a) (G2A A b) (C0A A k) (7 - h + 1) r s)) := by
      rw [m_workAt (by omega) hr (by omega)]
      have := hR (7 - h + 1) (by omega) r s hr hs
      rw [show 8 - (7 - h + 1) = h by omega] at this
      rw [this]
    rw [show 7 - (7 - h) = h by omega] at c2 c3
    by_cases q : p = chF (G1A A a) (G2A A b) (C0A A k) (7 - h) r s
    · right
      refine ⟨nI p - 9, ?_, by rw [q]⟩
      show Md_laysSanded_l19 (nI r) (nI s) (nI h) (nI p - 9) σ = _
      unfold Md_laysSanded_l19
      rw [e1, Option.bind_some, e2, Option.bind_some, if_pos (by rw [q, c2])]
    · left
      refine ⟨nI (p + 1) - 9, ?_, rfl, by omega⟩
      show Md_laysSanded_l19 (nI r) (nI s) (nI h) (nI p - 9) σ = _
      unfold Md_laysSanded_l19
      rw [e1, Option.bind_some, e2, Option.bind_some, if_neg (fun z => c3 p (by omega) ((nI_eq (by omega) (by omega)).mp z)), (up_go hp).2]
  obtain ⟨x, e, hx⟩ := key
  rw [show (-9 : Int32) = nI 0 - 9 from by decide, e, hx]
theorem RS_le : ∀ h, (RSF (G1A A a) (G2A A b) (C0A A k) R S h).1 ≤ R ∧ (RSF (G1A A a) (G2A A b) (C0A A k) R S h).2 ≤ S := fun h => by
  induction h with
  | zero => exact ⟨Nat.le_refl _, Nat.le_refl _⟩
  | succ h ih =>
    exact ⟨Nat.le_trans (Nat.sub_le _ _) ih.1, Nat.le_trans (Nat.sub_le _ _) ih.2⟩
theorem m_laysSanded (wf : WF A) (hk : k < 12) (ha : a < 12) (hb : ∀ c, b = some c → c < 12) (hX : CtxM A k a b σ) (hR : R ≤ 60) (hS : S ≤ S1o b) (hW : ∀ n, n ≤ 8 → RowW A k a b n σ) (h0 : MF (G1A A a) (G2A A b) (C0A A k) 8 R S ≠ BIG) : ∃ σ', Md_laysSanded (nI R) (nI S) σ = some σ' ∧ Fx (fun b _ => b = 194) σ σ' ∧ ∀ h, h < 8 → σ'.1 194 h = nI (plF (G1A A a) (G2A A b) (C0A A k) R S h) - 9 := by
  have hS60 := S1_le (b := b)
  obtain ⟨x, e, x1, x2⟩ : ∃ x, Md_laysSanded_L8 (nI R, nI S, 0, σ) = some x ∧ Fx (fun b _ => b = 194) σ x ∧ ∀ h, h < 8 → x.1 194 h = nI (plF (G1A A a) (G2A A b) (C0A A k) R S h) - 9 := by
    refine itr_n 8 (fun (h : Nat) (z : Int32 × Int32 × Int32 × MH) => z.1 = nI (RSF (G1A A a) (G2A A b) (C0A A k) R S h).1 ∧ z.2.1 = nI (RSF (G1A A a) (G2A A b) (C0A A k) R S h).2 ∧ z.2.2.1 = nI h ∧ Fx (fun b _ => b = 194) σ z.2.2.2 ∧ ∀ h', h' < h → z.2.2.2.1 194 h' = nI (plF (G1A A a) (G2A A b) (C0A A k) R S h') - 9) _ ⟨rfl, rfl, rfl, Fx.rf, fun h' hh => by omega⟩ (fun h z hh hz => ?_) (fun z hz => ?_)
    · obtain ⟨z1, z2, z3, z4⟩ := z
      obtain ⟨e1, e2, e3, hf, hv⟩ := hz
      dsimp only at e1 e2 e3 hf hv
      subst e1; subst e2; subst e3
      obtain ⟨b1, b2⟩ := RS_le (A := A) (a := a) (b := b) (k := k) (R := R) (S := S) h
      obtain ⟨f1, f2, f3, f4⟩ := ix3 8 hh
      have hok := RS_ok h0 h (by omega)
      have hXz : CtxM A k a b z4 := hX.of (hf.mo (fun b m q => Or.inr q))
      have hWz : ∀ n, n ≤ 8 → RowW A k a b n z4 := fun n hn => (hW n hn).of (fun m _ _ => hf 193 m (by omega))
      have ef := m_firstV wf hk ha hb hXz hh (show (RSF (G1A A a) (G2A A b) (C0A A k) R S h).1 ≤ 60 by omega) (show (RSF (G1A A a) (G2A A b) (C0A A k) R S h).2 ≤ S1o b by omega) hWz hok
      have hpl : chF (G1A A a) (G2A A b) (C0A A k) (7 - h) (RSF (G1A A a) (G2A A b) (C0A A k) R S h).1 (RSF (G1A A a) (G2A A b) (C0A A k) R S h).2 = plF (G1A A a) (G2A A b) (C0A A k) R S h := rfl
      have hp := pl_lt h0 hh
      have hok' : MF (G1A A a) (G2A A b) (C0A A k) ((7 - h) + 1) (RSF (G1A A a) (G2A A b) (C0A A k) R S h).1 (RSF (G1A A a) (G2A A b) (C0A A k) R S h).2 ≠ BIG := by rw [show 7 - h + 1 = 8 - h by omega]; exact hok
      obtain ⟨n1, n2, -, -⟩ := ch_next hok'
      rw [show 7 - (7 - h) = h by omega, hpl] at n1 n2
      rw [hpl] at ef
      have eR1 : (RSF (G1A A a) (G2A A b) (C0A A k) R S (h + 1)).1 = (RSF (G1A A a) (G2A A b) (C0A A k) R S h).1 - G1A A a h (plF (G1A A a) (G2A A b) (C0A A k) R S h) := rfl
      have eR2 : (RSF (G1A A a) (G2A A b) (C0A A k) R S (h + 1)).2 = (RSF (G1A A a) (G2A A b) (C0A A k) R S h).2 - G2A A b h (plF (G1A A a) (G2A A b) (C0A A k) R S h) := rfl
      rw [eR1, eR2]
      have F2 : Fx (fun b _ => b = 194) z4 (sI z4 194 h (nI (plF (G1A A a) (G2A A b) (C0A A k) R S h) - 9)) := Fx_sI rfl
      have hX2 : CtxM A k a b (sI z4 194 h (nI (plF (G1A A a) (G2A A b) (C0A A k) R S h) - 9)) := hXz.of (F2.mo (fun b m q => Or.inr q))
      have hv2 : ∀ h', h' < h + 1 → (sI z4 194 h (nI (plF (G1A A a) (G2A A b) (C0A A k) R S h) - 9)).1 194 h' = nI (plF (G1A A a) (G2A A b) (C0A A k) R S h') - 9 := fun h' hh' => by
        by_cases c : h' = h
        · rw [c, sI_same]
        · rw [sI_ne (by omega)]; exact hv h' (by omega)
      left
      show ∃ s', Md_laysSanded_l8 _ _ (nI h) z4 = _ ∧ _
      unfold Md_laysSanded_l8 Md_laysSanded_b117
      rw [if_neg f1, ef, Option.bind_some, if_pos f2, f3]
      generalize sI z4 194 h (nI (plF (G1A A a) (G2A A b) (C0A A k) R S h) - 9) = z5 at F2 hX2 hv2
      generalize plF (G1A A a) (G2A A b) (C0A A k) R S h = p at hp n1 n2
      rw [hX2.c44, lit_nI 7, pk_sub (show h ≤ 7 by omega), m_heightOf ha (by omega), Option.bind_some, m_size, Option.bind_some, hX2.row, (gz_is (b9_of wf ha (by omega)) hp).1, hX2.c45, show gz (hgR A a (7 - h)) p = G1A A a h p from rfl, pk_sub n1, show nI h + 1 = nI (h + 1) from nI_1 _]
      cases b with
      | none =>
        rw [show b45 none = -1 from rfl, if_pos rfl]
        exact ⟨_, rfl, rfl, rfl, rfl, hf.tr F2, hv2⟩
      | some c =>
        rw [show b45 (some c) = nI c from rfl, if_neg (nI_m1 (by have := hb c rfl; omega)), m_heightOf (hb c rfl) (by omega), Option.bind_some, m_size, Option.bind_some, hX2.row, (gz_is (b9_of wf (hb c rfl) (by omega)) hp).1, show gz (hgR A c (7 - h)) p = G2A A (some c) h p from rfl, pk_sub n2]
        exact ⟨_, rfl, rfl, rfl, rfl, hf.tr F2, hv2⟩
    · obtain ⟨z1, z2, z3, z4⟩ := z
      obtain ⟨e1, e2, e3, hz⟩ := hz
      dsimp only at e1 e2 e3
      subst e3
      refine ⟨z4, ?_, hz⟩
      show Md_laysSanded_l8 _ _ (nI 8) z4 = _
      unfold Md_laysSanded_l8
      rw [if_pos (by decide)]
  refine ⟨x, ?_, x1, x2⟩
  unfold Md_laysSanded Md_laysSanded0
  rw [e]
  rfl
end MSA
