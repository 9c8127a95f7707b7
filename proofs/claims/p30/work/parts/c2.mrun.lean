/-! THE LAW RUN, IN THE REFERENCE: what a piece of code comes to -/
section MRN
variable {σ : MH} {cd : Nat → Int32} {u w x h hb k l to op : Nat} {v v1 v2 : VL}
def FRm (to : Nat) (s : Int32 × Int32 × MH) : Option (((Int32 × Int32 × MH) ⊕ ((MH) ⊕ (Int32 × MH)))) := Md_comesTo_l16 (nI to) 0 s.1 s.2.1 s.2.2
theorem m_one {h u to N : Nat} {σ : MH} {s' : Int32 × Int32 × MH} (es : Md_comesTo_l16 (nI to) 0 (nI h) (nI u) σ = some (.inl s')) : itr (FRm to) (N + 1) (nI h, nI u, σ) = itr (FRm to) N s' := itr_one (f := FRm to) (s := (nI h, nI u, σ)) es
theorem m_fin {h u to N : Nat} {σ : MH} {r : MH ⊕ (Int32 × MH)} (es : Md_comesTo_l16 (nI to) 0 (nI h) (nI u) σ = some (.inr r)) : itr (FRm to) (N + 1) (nI h, nI u, σ) = some r := itr_end (f := FRm to) (s := (nI h, nI u, σ)) es
def P182 (b _k : Nat) : Prop := b = 182
def mop (c : Nat) : Nat := if c = 43 then 2 else if c = 45 then 3 else if c = 42 then 4 else if c = 47 then 5 else if c = 37 then 6 else if c = 60 then 7 else if c = 62 then 8 else 9
theorem cw_div {o q : Nat} (ho : o < 16) (hq : q < 1048576) : nI (1048576 * o + q) / 1048576 = nI o ∧ jrem (nI (1048576 * o + q)) 1048576 = nI q := by
  have e1 : nI (1048576 * o + q) / nI 1048576 = nI ((1048576 * o + q) / 1048576) := pk_div (by omega) (by decide) (by decide)
  have e2 : jrem (nI (1048576 * o + q)) (nI 1048576) = nI ((1048576 * o + q) % 1048576) := jrem_nI (by omega) (by decide) (by decide)
  rw [show (1048576 * o + q) / 1048576 = o by omega] at e1
  rw [show (1048576 * o + q) % 1048576 = q by omega] at e2
  exact ⟨e1, e2⟩
/-- where the machine stands upon an instruction -/
theorem l16_at {o q : Nat} (ho : o < 16) (hq : q < 1048576) (hk : u < to) (ht : to ≤ 260) (e : σ.1 177 u = nI (1048576 * o + q)) (v3 : Int32) : Md_comesTo_l16 (nI to) 0 v3 (nI u) σ = (if nI o = 0 then (Md_comesTo_b63 (nI to) v3 0 (nI (u + 1)) (nI o) (nI q) σ) else (if nI o = 1 then (Md_comesTo_b63 (nI to) v3 0 (nI (u + 1)) (nI o) (nI q) σ) else (if nI o = 10 then (if inb (v3 - 1) 260 = true then Md_comesTo_b230 (nI to) v3 0 (nI (u + 1)) (sI σ 182 (v3 - 1).toNatClampNeg (1 - (σ.1 182 (v3 - 1).toNatClampNeg))) else none) else (if nI o = 11 then (Md_comesTo_b135 (nI to) v3 0 (nI (u + 1)) (nI o) (nI q) σ) else (if nI o = 12 then (Md_comesTo_b135 (nI to) v3 0 (nI (u + 1)) (nI o) (nI q) σ) else (if nI o = 5 then (Md_comesTo_b192 (nI to) (v3 - 1) 0 (nI (u + 1)) (nI o) σ) else (if nI o = 6 then (Md_comesTo_b192 (nI to) (v3 - 1) 0 (nI (u + 1)) (nI o) σ) else (Md_comesTo_b203 (nI to) (v3 - 1) 0 (nI (u + 1)) (nI o) σ)))))))) := by
  obtain ⟨f1, f2, f3, f4⟩ := ix3 260 (show u < 260 by omega)
  obtain ⟨d1, d2⟩ := cw_div ho hq
  unfold Md_comesTo_l16
  rw [if_neg (by rw [nI_leI (by omega) (by omega)]; omega), if_pos f2, f3, e, d1, d2, show nI u + 1 = nI (u + 1) from nI_1 _]
theorem l16_num (hk : u < to) (ht : to ≤ 260) (hh : h < 260) (hq : k < 1048576) (e : σ.1 177 u = nI k) : Md_comesTo_l16 (nI to) 0 (nI h) (nI u) σ = some (.inl (nI (h + 1), nI (u + 1), sI σ 182 h (nI k))) := by
  obtain ⟨g1, g2, g3, g4⟩ := ix3 260 hh
  rw [l16_at (o := 0) (q := k) (by decide) hq hk ht (by rw [e, Nat.mul_zero, Nat.zero_add]), if_pos (show nI 0 = 0 from rfl)]
  unfold Md_comesTo_b63 Md_comesTo_b85 Md_comesTo_b230
  rw [if_pos (show nI 0 = 0 from rfl), if_pos g2, g3, show nI h + 1 = nI (h + 1) from nI_1 _]
theorem l16_let (hk : u < to) (ht : to ≤ 260) (hh : h < 260) (hl : l < 11) (e : σ.1 177 u = nI (1048576 * 1 + l)) : Md_comesTo_l16 (nI to) 0 (nI h) (nI u) σ = some (.inl (nI (h + 1), nI (u + 1), sI σ 182 h (σ.1 183 l))) := by
  obtain ⟨g1, g2, g3, g4⟩ := ix3 260 hh
  obtain ⟨k1, k2, k3, k4⟩ := ix3 11 hl
  rw [l16_at (o := 1) (q := l) (by decide) (by omega) hk ht e, if_neg (by decide), if_pos (by decide)]
  unfold Md_comesTo_b63 Md_comesTo_b85 Md_comesTo_b230
  rw [if_neg (by decide), if_pos k2, k3, if_pos g2, g3, show nI h + 1 = nI (h + 1) from nI_1 _]
theorem l16_not (hk : u < to) (ht : to ≤ 260) (hh : h < 260) (e : σ.1 177 u = nI (1048576 * 10 + 0)) : Md_comesTo_l16 (nI to) 0 (nI (h + 1)) (nI u) σ = some (.inl (nI (h + 1), nI (u + 1), sI σ 182 h (1 - σ.1 182 h))) := by
  obtain ⟨g1, g2, g3, g4⟩ := ix3 260 hh
  rw [l16_at (o := 10) (q := 0) (by decide) (by omega) hk ht e, if_neg (by decide), if_neg (by decide), if_pos (by decide), nI_s, if_pos g2, g3]
  rfl
theorem l16_and (hk : u < to) (ht : to ≤ 260) (hh : h < 260) (hx : x < 1048576) (e : σ.1 177 u = nI (1048576 * 11 + x)) : Md_comesTo_l16 (nI to) 0 (nI (h + 1)) (nI u) σ = if σ.1 182 h = 0 then some (.inl (nI (h + 1), nI x, σ)) else some (.inl (nI h, nI (u + 1), σ)) := by
  obtain ⟨g1, g2, g3, g4⟩ := ix3 260 hh
  rw [l16_at (o := 11) (q := x) (by decide) hx hk ht e, if_neg (by decide), if_neg (by decide), if_neg (by decide), if_pos (by decide)]
  unfold Md_comesTo_b135 Md_comesTo_b155 Md_comesTo_b230
  rw [nI_s, if_pos g2, g3, if_neg (by decide), lit0k]
theorem l16_or (hk : u < to) (ht : to ≤ 260) (hh : h < 260) (hx : x < 1048576) (e : σ.1 177 u = nI (1048576 * 12 + x)) : Md_comesTo_l16 (nI to) 0 (nI (h + 1)) (nI u) σ = if σ.1 182 h = 1 then some (.inl (nI (h + 1), nI x, σ)) else some (.inl (nI h, nI (u + 1), σ)) := by
  obtain ⟨g1, g2, g3, g4⟩ := ix3 260 hh
  rw [l16_at (o := 12) (q := x) (by decide) hx hk ht e, if_neg (by decide), if_neg (by decide), if_neg (by decide), if_neg (by decide), if_pos (by decide)]
  unfold Md_comesTo_b135 Md_comesTo_b155 Md_comesTo_b230
  rw [nI_s, if_pos g2, g3, if_pos (by decide), lit0k]
theorem m_reckon {op : Nat} (ho : isOp op = true) (a b : Int32) (hz : ¬ ((op = 47 ∨ op = 37) ∧ b = 0)) : Md_reckon (nI (mop op)) a b σ = some (rkV op a b) := by
  have hb : (op = 47 ∨ op = 37) → (b != 0) = true := fun h => bne_iff_ne.mpr (fun z => hz ⟨h, z⟩)
  unfold Md_reckon Md_reckon0 rkV mop
  rcases isOp_is ho with rfl | rfl | rfl | rfl | rfl | rfl | rfl | rfl
  · rfl
  · rw [if_neg (by decide), if_neg (by decide), if_neg (by decide), if_pos (by decide), if_pos (hb (Or.inl rfl))]
    rfl
  · rw [if_neg (by decide), if_neg (by decide), if_neg (by decide), if_neg (by decide), if_pos (by decide), if_pos (hb (Or.inr rfl))]
    rfl
  · rfl
  · rfl
  · show (if b ≤ a then some 0 else some 1) = some (if b ≤ a then 0 else 1)
    split <;> rfl
  · show (if a ≤ b then some 0 else some 1) = some (if a ≤ b then 0 else 1)
    split <;> rfl
  · show (if a = b then some 1 else some 0) = some (if a = b then 1 else 0)
    split <;> rfl
theorem mop_ne {op : Nat} (ho : isOp op = true) : (¬ nI (mop op) = 0) ∧ (¬ nI (mop op) = 1) ∧ (¬ nI (mop op) = 10) ∧ (¬ nI (mop op) = 11) ∧ (¬ nI (mop op) = 12) ∧ (nI (mop op) = 5 ↔ op = 47) ∧ (nI (mop op) = 6 ↔ op = 37) ∧ mop op < 10 := by
  rcases isOp_is ho with rfl | rfl | rfl | rfl | rfl | rfl | rfl | rfl <;> decide
theorem l16_op {op : Nat} (ho : isOp op = true) (hk : u < to) (ht : to ≤ 260) (hh : h + 1 < 260) (e : σ.1 177 u = nI (1048576 * mop op + 0)) : Md_comesTo_l16 (nI to) 0 (nI (h + 1 + 1)) (nI u) σ = if (op = 47 ∨ op = 37) ∧ σ.1 182 (h + 1) = 0 then some (.inr (.inr (0, σ))) else some (.inl (nI (h + 1), nI (u + 1), sI σ 182 h (rkV op (σ.1 182 h) (σ.1 182 (h + 1))))) := by
  obtain ⟨g1, g2, g3, g4⟩ := ix3 260 hh
  obtain ⟨k1, k2, k3, k4⟩ := ix3 260 (show h < 260 by omega)
  obtain ⟨n0, n1, n10, n11, n12, n5, n6, nlt⟩ := mop_ne ho
  have b203 : ¬ ((op = 47 ∨ op = 37) ∧ σ.1 182 (h + 1) = 0) → Md_comesTo_b203 (nI to) (nI (h + 1)) 0 (nI (u + 1)) (nI (mop op)) σ = some (.inl (nI (h + 1), nI (u + 1), sI σ 182 h (rkV op (σ.1 182 h) (σ.1 182 (h + 1))))) := fun hz => by
    unfold Md_comesTo_b203 Md_comesTo_b230
    rw [nI_s, if_pos k2, if_pos g2, k3, g3, m_reckon ho _ _ hz, Option.bind_some]
  have b192 : (op = 47 ∨ op = 37) → Md_comesTo_b192 (nI to) (nI (h + 1)) 0 (nI (u + 1)) (nI (mop op)) σ = if (op = 47 ∨ op = 37) ∧ σ.1 182 (h + 1) = 0 then some (.inr (.inr (0, σ))) else some (.inl (nI (h + 1), nI (u + 1), sI σ 182 h (rkV op (σ.1 182 h) (σ.1 182 (h + 1))))) := fun hz => by
    unfold Md_comesTo_b192
    rw [if_pos g2, g3]
    by_cases q : σ.1 182 (h + 1) = 0
    · rw [if_pos q, if_pos ⟨hz, q⟩]
    · rw [if_neg q, if_neg (fun z => q z.2), b203 (fun z => q z.2)]
  rw [l16_at (by omega) (by decide) hk ht e, if_neg n0, if_neg n1, if_neg n10, if_neg n11, if_neg n12, nI_s]
  by_cases q1 : op = 47
  · rw [if_pos (n5.mpr q1)]
    exact b192 (Or.inl q1)
  · rw [if_neg (mt n5.mp q1)]
    by_cases q2 : op = 37
    · rw [if_pos (n6.mpr q2)]
      exact b192 (Or.inr q2)
    · rw [if_neg (mt n6.mp q2), if_neg (fun z => z.1.elim q1 q2), b203 (fun z => z.1.elim q1 q2)]
theorem l16_end (to : Nat) (v3 : Int32) : Md_comesTo_l16 (nI to) 0 v3 (nI to) σ = some (.inr (.inl σ)) := by
  unfold Md_comesTo_l16
  rw [if_pos (Int32.le_refl _)]
/-- the code from u on to w comes to v, upon a stack of at most hb -/
def MB (cd : Nat → Int32) (u w hb : Nat) (v : VL) : Prop := u ≤ w ∧ ∀ (σ : MH) (h to N : Nat), (∀ k, u ≤ k → k < w → σ.1 177 k = cd k) → h ≤ hb → w ≤ to → to ≤ 260 → w < N + u →
  (v (σ.1 183) = none → ∃ σ', itr (FRm to) N (nI h, nI u, σ) = some (.inr (0, σ')) ∧ Fx P182 σ σ') ∧
  ∀ a, v (σ.1 183) = some a → ∃ (σ' : MH) (N' : Nat), itr (FRm to) N (nI h, nI u, σ) = itr (FRm to) N' (nI (h + 1), nI w, σ') ∧ Fx P182 σ σ' ∧ σ'.1 182 h = a ∧ (∀ k, k < h → σ'.1 182 k = σ.1 182 k) ∧ N + u ≤ N' + w
theorem MB_ext {cd' : Nat → Int32} (H : MB cd u w hb v) (e : ∀ k, u ≤ k → k < w → cd' k = cd k) : MB cd' u w hb v := ⟨H.1, fun σ h to N hc => H.2 σ h to N (fun k h1 h2 => (hc k h1 h2).trans (e k h1 h2))⟩
theorem MB_mono {hb' : Nat} (H : MB cd u w hb v) (e : hb' ≤ hb) : MB cd u w hb' v := ⟨H.1, fun σ h to N hc hh => H.2 σ h to N hc (Nat.le_trans hh e)⟩
theorem MB_num (e : cd u = nI k) (hk : k < 1048576) (hh : hb < 260) : MB cd u (u + 1) hb (numV k) := by
  refine ⟨by omega, fun σ h to N hc h1 hw hto hN => ⟨fun z => (by cases z), fun a ha => ?_⟩⟩
  cases ha
  obtain ⟨M, rfl⟩ : ∃ M, N = M + 1 := ⟨N - 1, by omega⟩
  refine ⟨sI σ 182 h (nI k), M, m_one (s' := (nI (h + 1), nI (u + 1), sI σ 182 h (nI k))) (l16_num (by omega) hto (by omega) hk ((hc u (by omega) (by omega)).trans e)), Fx_sI rfl, sI_same, fun k hk => sI_fld (by omega), by omega⟩
theorem MB_let (hl : l < 11) (e : cd u = nI (1048576 * 1 + l)) (hh : hb < 260) : MB cd u (u + 1) hb (letV l) := by
  refine ⟨by omega, fun σ h to N hc h1 hw hto hN => ⟨fun z => (by cases z), fun a ha => ?_⟩⟩
  cases ha
  obtain ⟨M, rfl⟩ : ∃ M, N = M + 1 := ⟨N - 1, by omega⟩
  refine ⟨sI σ 182 h (σ.1 183 l), M, m_one (s' := (nI (h + 1), nI (u + 1), sI σ 182 h (σ.1 183 l))) (l16_let (by omega) hto (by omega) hl ((hc u (by omega) (by omega)).trans e)), Fx_sI rfl, sI_same, fun k hk => sI_fld (by omega), by omega⟩
theorem code_Q {σ' : MH} (hf : Fx P182 σ σ') (k : Nat) : σ'.1 177 k = σ.1 177 k := hf 177 k (by unfold P182; decide)
theorem let_Q {σ' : MH} (hf : Fx P182 σ σ') : σ'.1 183 = σ.1 183 := funext fun k => hf 183 k (by unfold P182; decide)
theorem MB_not (V1 : VB v) (H : MB cd u w hb v) (e : cd w = nI (1048576 * 10 + 0)) (hh : hb < 260) : MB cd u (w + 1) hb (notV v) := by
  refine ⟨by have := H.1; omega, fun σ h to N hc h1 hw hto hN => ?_⟩
  have h0 := H.1
  obtain ⟨A, B⟩ := H.2 σ h to N (fun k a b => hc k a (by omega)) h1 (by omega) hto (by omega)
  unfold notV
  cases hv : v (σ.1 183) with
  | none => exact ⟨fun _ => A hv, fun a ha => by cases ha⟩
  | some a =>
    refine ⟨fun z => (by cases z), fun b hb' => ?_⟩
    cases hb'
    obtain ⟨σ1, N1, e1, f1, t1, s1, q2⟩ := B a hv
    obtain ⟨M, rfl⟩ : ∃ M, N1 = M + 1 := ⟨N1 - 1, by omega⟩
    have es := l16_not (σ := σ1) (u := w) (to := to) (h := h) (by omega) hto (by omega) ((code_Q f1 w).trans ((hc w (by omega) (by omega)).trans e))
    rw [t1] at es
    refine ⟨_, M, e1.trans (m_one es), f1.tr (Fx_sI rfl), ?_, fun k hk => ?_, by omega⟩
    · rw [sI_same]
      rcases V1 _ _ hv with rfl | rfl <;> decide
    · rw [sI_fld (by omega)]
      exact s1 k hk
theorem MB_op {op : Nat} (ho : isOp op = true) (H1 : MB cd u w hb v1) (H2 : MB cd w x (hb + 1) v2) (e : cd x = nI (1048576 * mop op + 0)) (hh : hb + 1 < 260) : MB cd u (x + 1) hb (opV op v1 v2) := by
  have a0 := H1.1
  have b0 := H2.1
  refine ⟨by omega, fun σ h to N hc h1 hw hto hN => ?_⟩
  obtain ⟨A, B⟩ := H1.2 σ h to N (fun k a b => hc k a (by omega)) h1 (by omega) hto (by omega)
  unfold opV
  cases hv : v1 (σ.1 183) with
  | none => exact ⟨fun _ => A hv, fun a ha => by cases ha⟩
  | some a =>
    obtain ⟨σ1, N1, e1, f1, t1, s1, q2⟩ := B a hv
    obtain ⟨A2, B2⟩ := H2.2 σ1 (h + 1) to N1 (fun k a b => (code_Q f1 k).trans (hc k (by omega) (by omega))) (by omega) (by omega) hto (by omega)
    rw [let_Q f1] at A2 B2
    dsimp only
    cases hv2 : v2 (σ.1 183) with
    | none =>
      refine ⟨fun _ => ?_, fun a ha => by cases ha⟩
      obtain ⟨σ2, e2, f2⟩ := A2 hv2
      exact ⟨σ2, e1.trans e2, f1.tr f2⟩
    | some b =>
      obtain ⟨σ2, N2, e2, f2, t2, s2, q4⟩ := B2 b hv2
      obtain ⟨M, rfl⟩ : ∃ M, N2 = M + 1 := ⟨N2 - 1, by omega⟩
      have es := l16_op (σ := σ2) (u := x) (to := to) (h := h) ho (by omega) hto (by omega) ((code_Q (f1.tr f2) x).trans ((hc x (by omega) (by omega)).trans e))
      rw [t2, s2 h (by omega), t1] at es
      dsimp only
      by_cases z : (op = 47 ∨ op = 37) ∧ b = 0
      · rw [if_pos z] at es ⊢
        exact ⟨fun _ => ⟨σ2, e1.trans (e2.trans (m_fin es)), f1.tr f2⟩, fun a ha => by cases ha⟩
      · rw [if_neg z] at es ⊢
        refine ⟨fun y => (by cases y), fun c hc' => ?_⟩
        cases hc'
        refine ⟨_, M, e1.trans (e2.trans (m_one es)), (f1.tr f2).tr (Fx_sI rfl), sI_same, fun k hk => ?_, by omega⟩
        rw [sI_fld (by omega), s2 k (by omega)]
        exact s1 k hk
theorem MB_and (H1 : MB cd u w hb v1) (hx : x < 1048576) (e : cd w = nI (1048576 * 11 + x)) (H2 : MB cd (w + 1) x hb v2) (hh : hb < 260) : MB cd u x hb (andV v1 v2) := by
  have a0 := H1.1
  have b0 := H2.1
  refine ⟨by omega, fun σ h to N hc h1 hw hto hN => ?_⟩
  obtain ⟨A, B⟩ := H1.2 σ h to N (fun k a b => hc k a (by omega)) h1 (by omega) hto (by omega)
  unfold andV
  cases hv : v1 (σ.1 183) with
  | none => exact ⟨fun _ => A hv, fun a ha => by cases ha⟩
  | some a =>
    obtain ⟨σ1, N1, e1, f1, t1, s1, q2⟩ := B a hv
    obtain ⟨M, rfl⟩ : ∃ M, N1 = M + 1 := ⟨N1 - 1, by omega⟩
    have es := l16_and (σ := σ1) (u := w) (to := to) (h := h) (by omega) hto (by omega) hx ((code_Q f1 w).trans ((hc w (by omega) (by omega)).trans e))
    rw [t1] at es
    dsimp only
    by_cases z : a = 0
    · rw [if_pos z] at es ⊢
      refine ⟨fun y => (by cases y), fun c hc' => ?_⟩
      cases hc'
      exact ⟨σ1, M, e1.trans (m_one es), f1, t1.trans z, s1, by omega⟩
    · rw [if_neg z] at es ⊢
      obtain ⟨A2, B2⟩ := H2.2 σ1 h to M (fun k a b => (code_Q f1 k).trans (hc k (by omega) (by omega))) h1 (by omega) hto (by omega)
      rw [let_Q f1] at A2 B2
      refine ⟨fun y => ?_, fun b hb' => ?_⟩
      · obtain ⟨σ2, e3, f2⟩ := A2 y
        exact ⟨σ2, e1.trans ((m_one es).trans e3), f1.tr f2⟩
      · obtain ⟨σ2, N2, e3, f2, t2, s2, q4⟩ := B2 b hb'
        exact ⟨σ2, N2, e1.trans ((m_one es).trans e3), f1.tr f2, t2, fun k hk => (s2 k hk).trans (s1 k hk), by omega⟩
theorem MB_or (V1 : VB v1) (H1 : MB cd u w hb v1) (hx : x < 1048576) (e : cd w = nI (1048576 * 12 + x)) (H2 : MB cd (w + 1) x hb v2) (hh : hb < 260) : MB cd u x hb (orV v1 v2) := by
  have a0 := H1.1
  have b0 := H2.1
  refine ⟨by omega, fun σ h to N hc h1 hw hto hN => ?_⟩
  obtain ⟨A, B⟩ := H1.2 σ h to N (fun k a b => hc k a (by omega)) h1 (by omega) hto (by omega)
  unfold orV
  cases hv : v1 (σ.1 183) with
  | none => exact ⟨fun _ => A hv, fun a ha => by cases ha⟩
  | some a =>
    obtain ⟨σ1, N1, e1, f1, t1, s1, q2⟩ := B a hv
    obtain ⟨M, rfl⟩ : ∃ M, N1 = M + 1 := ⟨N1 - 1, by omega⟩
    have es := l16_or (σ := σ1) (u := w) (to := to) (h := h) (by omega) hto (by omega) hx ((code_Q f1 w).trans ((hc w (by omega) (by omega)).trans e))
    rw [t1] at es
    dsimp only
    have ha := V1 _ _ hv
    by_cases z : a = 0
    · rw [if_neg (by rw [z]; decide)] at es
      rw [if_pos z]
      obtain ⟨A2, B2⟩ := H2.2 σ1 h to M (fun k a b => (code_Q f1 k).trans (hc k (by omega) (by omega))) h1 (by omega) hto (by omega)
      rw [let_Q f1] at A2 B2
      refine ⟨fun y => ?_, fun b hb' => ?_⟩
      · obtain ⟨σ2, e3, f2⟩ := A2 y
        exact ⟨σ2, e1.trans ((m_one es).trans e3), f1.tr f2⟩
      · obtain ⟨σ2, N2, e3, f2, t2, s2, q4⟩ := B2 b hb'
        exact ⟨σ2, N2, e1.trans ((m_one es).trans e3), f1.tr f2, t2, fun k hk => (s2 k hk).trans (s1 k hk), by omega⟩
    · rw [if_pos (ha.resolve_left z)] at es
      rw [if_neg z]
      refine ⟨fun y => (by cases y), fun c hc' => ?_⟩
      cases hc'
      exact ⟨σ1, M, e1.trans (m_one es), f1, t1.trans (ha.resolve_left z), s1, by omega⟩
theorem m_run (H : MB cd u w hb v) (hc : ∀ k, u ≤ k → k < w → σ.1 177 k = cd k) (hw : w ≤ 260) (hu : u < 260) : ∃ σ', Md_comesTo (nI u) (nI w) σ = some (valO (v (σ.1 183)), σ') ∧ Fx P182 σ σ' := by
  have a0 := H.1
  obtain ⟨A, B⟩ := H.2 σ 0 w FU hc (Nat.zero_le _) (Nat.le_refl _) hw (by show w < 1000000 + u; omega)
  have e0 : (260 : Int32) * (nI u / 260) = 0 := by
    have e1 : nI u / nI 260 = nI (u / 260) := pk_div (by omega) (by decide) (by decide)
    rw [show u / 260 = 0 by omega] at e1
    rw [show (260 : Int32) = nI 260 from rfl, e1]
    decide
  unfold Md_comesTo Md_comesTo0
  rw [e0]
  cases hv : v (σ.1 183) with
  | none =>
    obtain ⟨σ1, e1, f1⟩ := A hv
    refine ⟨σ1, ?_, f1⟩
    rw [show Md_comesTo_L16 (nI w) 0 (0, nI u, σ) = some (.inr (0, σ1)) from e1, Option.bind_some]
    rfl
  | some a =>
    obtain ⟨σ1, N1, e1, f1, t1, s1, q2⟩ := B a hv
    obtain ⟨M, rfl⟩ : ∃ M, N1 = M + 1 := ⟨N1 - 1, by
      have : 1000000 + u ≤ N1 + w := q2
      omega⟩
    have es := l16_end (σ := σ1) w (nI (0 + 1))
    refine ⟨σ1, ?_, f1⟩
    rw [show Md_comesTo_L16 (nI w) 0 (0, nI u, σ) = some (.inl σ1) from e1.trans (m_fin es), Option.bind_some]
    dsimp only
    rw [t1]
    rfl
end MRN
