/-! THE LAW RUN, IN THE CLASS: what a piece of code comes to -/
section CRN
variable {σ : MH} {cd : Nat → Int32} {u w x h st hb k l : Nat} {v v1 v2 : VL}
def FRc (s : Int32 × Int32 × Int32 × MH) : Option (((Int32 × Int32 × Int32 × MH) ⊕ ((Int32 × MH) ⊕ (Int32 × MH) ⊕ (Int32 × MH)))) := Law_run_l8 127 s.1 s.2.1 s.2.2.1 s.2.2.2
theorem c_one {h u st N : Nat} {σ : MH} {s' : Int32 × Int32 × Int32 × MH} (es : Law_run_l8 127 (nI h) (nI u) (nI st) σ = some (.inl s')) : itr FRc (N + 1) (nI h, nI u, nI st, σ) = itr FRc N s' := itr_one (f := FRc) (s := (nI h, nI u, nI st, σ)) es
theorem c_fin {h u st N : Nat} {σ : MH} {r : (Int32 × MH) ⊕ (Int32 × MH) ⊕ (Int32 × MH)} (es : Law_run_l8 127 (nI h) (nI u) (nI st) σ = some (.inr r)) : itr FRc (N + 1) (nI h, nI u, nI st, σ) = some r := itr_end (f := FRc) (s := (nI h, nI u, nI st, σ)) es
def P116 (b _k : Nat) : Prop := b = 116
def isOp (c : Nat) : Bool := isMul c || (isAdd c || isCmp c)
theorem isOp_is {c : Nat} (h : isOp c = true) : c = 42 ∨ c = 47 ∨ c = 37 ∨ c = 43 ∨ c = 45 ∨ c = 60 ∨ c = 62 ∨ c = 61 := by
  unfold isOp isMul isAdd isCmp at h
  simp only [Bool.or_eq_true, decide_eq_true_eq] at h
  omega
/-- where the machine stands upon code -/
theorem l8_at (hu : u + 1 < 512) (hs : st < 512) (v3 : Int32) : Law_run_l8 127 v3 (nI u) (nI st) σ = (if σ.1 112 u = 0 then some (.inr (.inr (.inl (v3, σ)))) else (if σ.1 112 u = 1 then (Law_run_b76 127 v3 (nI u) (nI st) (σ.1 112 u) (σ.1 112 (u + 1)) σ) else (if σ.1 112 u = 2 then (Law_run_b76 127 v3 (nI u) (nI st) (σ.1 112 u) (σ.1 112 (u + 1)) σ) else (if v3 = 0 then some (.inr (.inr (.inr (0, σ)))) else (if σ.1 112 u = 33 then (if inb (v3 - 1) 64 = true then if σ.1 116 (v3 - 1).toNatClampNeg = 0 then (Law_run_b152 127 v3 (nI u) (nI st) 1 (v3 - 1) σ) else (Law_run_b152 127 v3 (nI u) (nI st) 0 (v3 - 1) σ) else none) else (if σ.1 112 u = 124 then (Law_run_b173 127 v3 (nI u) (nI st) (σ.1 112 u) (σ.1 112 (u + 1)) σ) else (if σ.1 112 u = 38 then (Law_run_b173 127 v3 (nI u) (nI st) (σ.1 112 u) (σ.1 112 (u + 1)) σ) else (if inb (v3 - 1) 64 = true then if v3 < 2 then some (.inr (.inr (.inr (0, σ)))) else (if σ.1 116 (v3 - 1).toNatClampNeg = 0 then (if σ.1 112 u = 47 then some (.inr (.inr (.inr (0, σ)))) else (if σ.1 112 u = 37 then some (.inr (.inr (.inr (0, σ)))) else (Law_run_b279 127 v3 (nI u) (nI st) (σ.1 112 u) (σ.1 116 (v3 - 1).toNatClampNeg) σ))) else (Law_run_b279 127 v3 (nI u) (nI st) (σ.1 112 u) (σ.1 116 (v3 - 1).toNatClampNeg) σ)) else none)))))))) := by
  obtain ⟨f1, f2, f3, f4⟩ := ix3 512 (show u < 512 by omega)
  obtain ⟨g1, g2, g3, g4⟩ := ix3 512 hu
  unfold Law_run_l8
  rw [if_neg (mt (leR 512 (by omega) (by decide)).mp (by omega)), if_neg f4, show nI u + 1 = nI (u + 1) from nI_1 _, if_neg g1, if_pos f2, f3, if_pos g2, g3]
theorem st_1 (s : Nat) : nI s + 1 = nI (s + 1) := nI_1 s
theorem st_2 (s : Nat) : nI s + 2 = nI (s + 2) := nI_add s 2
theorem l8_num (hu : u + 1 < 512) (hs : st < 512) (hh : h < 64) (e : σ.1 112 u = 1) (e2 : σ.1 112 (u + 1) = nI k) : Law_run_l8 127 (nI h) (nI u) (nI st) σ = some (.inl (nI (h + 1), nI (u + 2), nI (st + 1), sI σ 116 h (nI k))) := by
  obtain ⟨g1, g2, g3, g4⟩ := ix3 64 hh
  rw [l8_at hu hs, e, if_neg (show ¬ (1 : Int32) = 0 by decide), if_pos rfl]
  unfold Law_run_b76 Law_run_b106 Law_run_b308
  rw [if_pos ((ltL 64 (by omega) (by decide)).mpr hh), if_pos rfl, if_pos g2, g3, e2, st_1, st_1, st_2]
theorem l8_let (hu : u + 1 < 512) (hs : st < 512) (hh : h < 64) (hl : l < 11) (e : σ.1 112 u = 2) (e2 : σ.1 112 (u + 1) = nI l) : Law_run_l8 127 (nI h) (nI u) (nI st) σ = some (.inl (nI (h + 1), nI (u + 2), nI (st + 1), sI σ 116 h (σ.1 127 l))) := by
  obtain ⟨g1, g2, g3, g4⟩ := ix3 64 hh
  obtain ⟨k1, k2, k3, k4⟩ := ix3 11 hl
  rw [l8_at hu hs, e, if_neg (show ¬ (2 : Int32) = 0 by decide), if_neg (show ¬ (2 : Int32) = 1 by decide), if_pos rfl]
  unfold Law_run_b76 Law_run_b106 Law_run_b308 Law_valueOf Law_valueOf0
  rw [if_pos ((ltL 64 (by omega) (by decide)).mpr hh), if_neg (show ¬ (2 : Int32) = 1 by decide), e2, if_neg k4, if_neg k1, if_pos k2, k3, Option.bind_some, if_pos g2, g3, st_1, st_1, st_2]
theorem nI_s (k : Nat) : nI (k + 1) - 1 = nI k := nI_pred k
theorem nz {k : Nat} (hk : k + 1 < 2 ^ 31) : ¬ nI (k + 1) = 0 := nI_ne0 (Nat.succ_pos k) hk
theorem l8_not (hu : u + 1 < 512) (hs : st < 512) (hh : h < 64) (e : σ.1 112 u = 33) : Law_run_l8 127 (nI (h + 1)) (nI u) (nI st) σ = some (.inl (nI (h + 1), nI (u + 1), nI (st + 1), sI σ 116 h (if σ.1 116 h = 0 then 1 else 0))) := by
  obtain ⟨g1, g2, g3, g4⟩ := ix3 64 hh
  rw [l8_at hu hs, e, if_neg (show ¬ (33 : Int32) = 0 by decide), if_neg (show ¬ (33 : Int32) = 1 by decide), if_neg (show ¬ (33 : Int32) = 2 by decide), if_neg (nz (by omega)), if_pos rfl, nI_s, if_pos g2, g3]
  unfold Law_run_b152 Law_run_b308
  rw [if_pos g2, g3, st_1, st_1]
  split <;> rfl
theorem l8_or (hu : u + 1 < 512) (hs : st < 512) (hh : h < 64) (e : σ.1 112 u = 124) (e2 : σ.1 112 (u + 1) = nI x) : Law_run_l8 127 (nI (h + 1)) (nI u) (nI st) σ = if σ.1 116 h = 0 then some (.inl (nI h, nI (u + 2), nI (st + 1), σ)) else some (.inl (nI (h + 1), nI x, nI (st + 1), σ)) := by
  obtain ⟨g1, g2, g3, g4⟩ := ix3 64 hh
  rw [l8_at hu hs, e, if_neg (show ¬ (124 : Int32) = 0 by decide), if_neg (show ¬ (124 : Int32) = 1 by decide), if_neg (show ¬ (124 : Int32) = 2 by decide), if_neg (nz (by omega)), if_neg (show ¬ (124 : Int32) = 33 by decide), if_pos rfl]
  unfold Law_run_b173 Law_run_b189 Law_run_b201 Law_run_b209 Law_run_b222 Law_run_b238 Law_run_b308
  rw [nI_s, if_pos g2, g3, e2, st_1, st_2]
  by_cases q : σ.1 116 h = 0
  · rw [if_pos q, if_pos q, if_pos rfl, if_neg (show ¬ (0 : Int32) = 1 by decide), if_pos rfl, if_pos rfl]
  · rw [if_neg q, if_neg q, if_pos rfl, if_pos rfl, if_neg (show ¬ (1 : Int32) = 0 by decide), if_neg (show ¬ (1 : Int32) = 0 by decide), Int32.sub_zero]
theorem l8_and (hu : u + 1 < 512) (hs : st < 512) (hh : h < 64) (e : σ.1 112 u = 38) (e2 : σ.1 112 (u + 1) = nI x) : Law_run_l8 127 (nI (h + 1)) (nI u) (nI st) σ = if σ.1 116 h = 0 then some (.inl (nI (h + 1), nI x, nI (st + 1), σ)) else some (.inl (nI h, nI (u + 2), nI (st + 1), σ)) := by
  obtain ⟨g1, g2, g3, g4⟩ := ix3 64 hh
  rw [l8_at hu hs, e, if_neg (show ¬ (38 : Int32) = 0 by decide), if_neg (show ¬ (38 : Int32) = 1 by decide), if_neg (show ¬ (38 : Int32) = 2 by decide), if_neg (nz (by omega)), if_neg (show ¬ (38 : Int32) = 33 by decide), if_neg (show ¬ (38 : Int32) = 124 by decide), if_pos rfl]
  unfold Law_run_b173 Law_run_b189 Law_run_b201 Law_run_b209 Law_run_b222 Law_run_b238 Law_run_b308
  rw [nI_s, if_pos g2, g3, e2, st_1, st_2]
  by_cases q : σ.1 116 h = 0
  · rw [if_pos q, if_pos q, if_neg (show ¬ (38 : Int32) = 124 by decide), if_pos rfl, if_neg (show ¬ (1 : Int32) = 0 by decide), if_neg (show ¬ (1 : Int32) = 0 by decide), Int32.sub_zero]
  · rw [if_neg q, if_neg q, if_neg (show ¬ (38 : Int32) = 124 by decide), if_neg (show ¬ (1 : Int32) = 0 by decide), if_pos rfl, if_pos rfl]
theorem c_reckon {op : Nat} (ho : isOp op = true) (a b : Int32) (hz : ¬ ((op = 47 ∨ op = 37) ∧ b = 0)) : Law_reckon (nI op) a b σ = some (rkV op a b) := by
  have hb : (op = 47 ∨ op = 37) → ¬ b = 0 ∧ (b != 0) = true := fun h => ⟨fun z => hz ⟨h, z⟩, bne_iff_ne.mpr (fun z => hz ⟨h, z⟩)⟩
  unfold Law_reckon Law_reckon0 rkV
  rcases isOp_is ho with rfl | rfl | rfl | rfl | rfl | rfl | rfl | rfl
  · rfl
  · obtain ⟨h1, h2⟩ := hb (Or.inl rfl)
    rw [if_neg (by decide), if_neg (by decide), if_neg (by decide), if_neg (by decide), if_pos (by decide), if_neg h1, if_pos h2]
    rfl
  · obtain ⟨h1, h2⟩ := hb (Or.inr rfl)
    rw [if_pos (by decide), if_neg h1, if_pos h2]
    rfl
  · rfl
  · rfl
  · show (if b ≤ a then some 0 else some 1) = some (if b ≤ a then 0 else 1)
    split <;> rfl
  · show (if a ≤ b then some 0 else some 1) = some (if a ≤ b then 0 else 1)
    split <;> rfl
  · show (if a = b then some 1 else some 0) = some (if a = b then 1 else 0)
    split <;> rfl
theorem op_ne {op : Nat} (ho : isOp op = true) : (¬ nI op = 0) ∧ (¬ nI op = 1) ∧ (¬ nI op = 2) ∧ (¬ nI op = 33) ∧ (¬ nI op = 124) ∧ (¬ nI op = 38) ∧ (nI op = 47 ↔ op = 47) ∧ (nI op = 37 ↔ op = 37) := by
  rcases isOp_is ho with rfl | rfl | rfl | rfl | rfl | rfl | rfl | rfl <;> decide
theorem l8_op {op : Nat} (ho : isOp op = true) (hu : u + 1 < 512) (hs : st < 512) (hh : h + 1 < 64) (e : σ.1 112 u = nI op) : Law_run_l8 127 (nI (h + 1 + 1)) (nI u) (nI st) σ = if (op = 47 ∨ op = 37) ∧ σ.1 116 (h + 1) = 0 then some (.inr (.inr (.inr (0, σ)))) else some (.inl (nI (h + 1), nI (u + 1), nI (st + 1), sI σ 116 h (rkV op (σ.1 116 h) (σ.1 116 (h + 1))))) := by
  obtain ⟨g1, g2, g3, g4⟩ := ix3 64 hh
  obtain ⟨k1, k2, k3, k4⟩ := ix3 64 (show h < 64 by omega)
  obtain ⟨n0, n1, n2, n33, n124, n38, n47, n37⟩ := op_ne ho
  have b279 : ¬ ((op = 47 ∨ op = 37) ∧ σ.1 116 (h + 1) = 0) → Law_run_b279 127 (nI (h + 1 + 1)) (nI u) (nI st) (nI op) (σ.1 116 (h + 1)) σ = some (.inl (nI (h + 1), nI (u + 1), nI (st + 1), sI σ 116 h (rkV op (σ.1 116 h) (σ.1 116 (h + 1))))) := fun hz => by
    unfold Law_run_b279 Law_run_b308
    rw [show nI (h + 1 + 1) + -1 = nI (h + 1) from pk_m1 _, nI_s, if_pos k2, k3, c_reckon ho _ _ hz, Option.bind_some, st_1, st_1]
  rw [l8_at hu hs, e, if_neg n0, if_neg n1, if_neg n2, if_neg (nz (by omega)), if_neg n33, if_neg n124, if_neg n38, nI_s, if_pos g2, g3, if_neg (mt (ltL 2 (by omega) (by decide)).mp (by omega))]
  by_cases q : σ.1 116 (h + 1) = 0
  · rw [if_pos q]
    by_cases q1 : op = 47
    · rw [if_pos (n47.mpr q1), if_pos ⟨Or.inl q1, q⟩]
    · rw [if_neg (mt n47.mp q1)]
      by_cases q2 : op = 37
      · rw [if_pos (n37.mpr q2), if_pos ⟨Or.inr q2, q⟩]
      · rw [if_neg (mt n37.mp q2), if_neg (fun z => z.1.elim q1 q2), b279 (fun z => z.1.elim q1 q2)]
  · rw [if_neg q, if_neg (fun z => q z.2), b279 (fun z => q z.2)]
theorem l8_end (hu : u + 1 < 512) (hs : st < 512) (v3 : Int32) (e : σ.1 112 u = 0) : Law_run_l8 127 v3 (nI u) (nI st) σ = some (.inr (.inr (.inl (v3, σ)))) := by
  rw [l8_at hu hs, if_pos e]
/-- the code from u on to w comes to v, upon a stack of at most hb -/
def CB (cd : Nat → Int32) (u w hb : Nat) (v : VL) : Prop := u ≤ w ∧ ∀ (σ : MH) (h st N : Nat), (∀ k, u ≤ k → k < w → σ.1 112 k = cd k) → h ≤ hb → st ≤ u → w < 512 → w < N + u →
  (v (σ.1 127) = none → ∃ σ', itr FRc N (nI h, nI u, nI st, σ) = some (.inr (.inr (0, σ'))) ∧ Fx P116 σ σ') ∧
  ∀ a, v (σ.1 127) = some a → ∃ (σ' : MH) (st' N' : Nat), itr FRc N (nI h, nI u, nI st, σ) = itr FRc N' (nI (h + 1), nI w, nI st', σ') ∧ Fx P116 σ σ' ∧ σ'.1 116 h = a ∧ (∀ k, k < h → σ'.1 116 k = σ.1 116 k) ∧ st' ≤ w ∧ N + u ≤ N' + w
theorem CB_ext {cd' : Nat → Int32} (H : CB cd u w hb v) (e : ∀ k, u ≤ k → k < w → cd' k = cd k) : CB cd' u w hb v := ⟨H.1, fun σ h st N hc => H.2 σ h st N (fun k h1 h2 => (hc k h1 h2).trans (e k h1 h2))⟩
theorem CB_mono {hb' : Nat} (H : CB cd u w hb v) (e : hb' ≤ hb) : CB cd u w hb' v := ⟨H.1, fun σ h st N hc hh => H.2 σ h st N hc (Nat.le_trans hh e)⟩
theorem CB_num (e : cd u = 1) (e2 : cd (u + 1) = nI k) (hh : hb < 64) : CB cd u (u + 2) hb (numV k) := by
  refine ⟨by omega, fun σ h st N hc h1 hs hw hN => ⟨fun z => (by cases z), fun a ha => ?_⟩⟩
  cases ha
  obtain ⟨M, rfl⟩ : ∃ M, N = M + 1 := ⟨N - 1, by omega⟩
  refine ⟨sI σ 116 h (nI k), st + 1, M, c_one (s' := (nI (h + 1), nI (u + 2), nI (st + 1), sI σ 116 h (nI k))) (l8_num (by omega) (by omega) (by omega) ((hc u (by omega) (by omega)).trans e) ((hc (u + 1) (by omega) (by omega)).trans e2)), Fx_sI rfl, sI_same, fun k hk => sI_fld (by omega), by omega, by omega⟩
theorem CB_let (hl : l < 11) (e : cd u = 2) (e2 : cd (u + 1) = nI l) (hh : hb < 64) : CB cd u (u + 2) hb (letV l) := by
  refine ⟨by omega, fun σ h st N hc h1 hs hw hN => ⟨fun z => (by cases z), fun a ha => ?_⟩⟩
  cases ha
  obtain ⟨M, rfl⟩ : ∃ M, N = M + 1 := ⟨N - 1, by omega⟩
  refine ⟨sI σ 116 h (σ.1 127 l), st + 1, M, c_one (s' := (nI (h + 1), nI (u + 2), nI (st + 1), sI σ 116 h (σ.1 127 l))) (l8_let (by omega) (by omega) (by omega) hl ((hc u (by omega) (by omega)).trans e) ((hc (u + 1) (by omega) (by omega)).trans e2)), Fx_sI rfl, sI_same, fun k hk => sI_fld (by omega), by omega, by omega⟩
theorem code_P {σ' : MH} (hf : Fx P116 σ σ') (k : Nat) : σ'.1 112 k = σ.1 112 k := hf 112 k (by unfold P116; decide)
theorem let_P {σ' : MH} (hf : Fx P116 σ σ') : σ'.1 127 = σ.1 127 := funext fun k => hf 127 k (by unfold P116; decide)
theorem CB_not (H : CB cd u w hb v) (e : cd w = 33) (hh : hb < 64) : CB cd u (w + 1) hb (notV v) := by
  refine ⟨by have := H.1; omega, fun σ h st N hc h1 hs hw hN => ?_⟩
  have h0 := H.1
  obtain ⟨A, B⟩ := H.2 σ h st N (fun k a b => hc k a (by omega)) h1 hs (by omega) (by omega)
  unfold notV
  cases hv : v (σ.1 127) with
  | none => exact ⟨fun _ => A hv, fun a ha => by cases ha⟩
  | some a =>
    refine ⟨fun z => (by cases z), fun b hb' => ?_⟩
    cases hb'
    obtain ⟨σ1, st1, N1, e1, f1, t1, s1, q1, q2⟩ := B a hv
    obtain ⟨M, rfl⟩ : ∃ M, N1 = M + 1 := ⟨N1 - 1, by omega⟩
    have es := l8_not (σ := σ1) (u := w) (st := st1) (h := h) (by omega) (by omega) (by omega) ((code_P f1 w).trans ((hc w (by omega) (by omega)).trans e))
    rw [t1] at es
    refine ⟨_, st1 + 1, M, e1.trans (c_one es), f1.tr (Fx_sI rfl), sI_same, fun k hk => ?_, by omega, by omega⟩
    rw [sI_fld (by omega)]
    exact s1 k hk
theorem CB_op {op : Nat} (ho : isOp op = true) (H1 : CB cd u w hb v1) (H2 : CB cd w x (hb + 1) v2) (e : cd x = nI op) (hh : hb + 1 < 64) : CB cd u (x + 1) hb (opV op v1 v2) := by
  have a0 := H1.1
  have b0 := H2.1
  refine ⟨by omega, fun σ h st N hc h1 hs hw hN => ?_⟩
  obtain ⟨A, B⟩ := H1.2 σ h st N (fun k a b => hc k a (by omega)) h1 hs (by omega) (by omega)
  unfold opV
  cases hv : v1 (σ.1 127) with
  | none => exact ⟨fun _ => A hv, fun a ha => by cases ha⟩
  | some a =>
    obtain ⟨σ1, st1, N1, e1, f1, t1, s1, q1, q2⟩ := B a hv
    obtain ⟨A2, B2⟩ := H2.2 σ1 (h + 1) st1 N1 (fun k a b => (code_P f1 k).trans (hc k (by omega) (by omega))) (by omega) q1 (by omega) (by omega)
    rw [let_P f1] at A2 B2
    dsimp only
    cases hv2 : v2 (σ.1 127) with
    | none =>
      refine ⟨fun _ => ?_, fun a ha => by cases ha⟩
      obtain ⟨σ2, e2, f2⟩ := A2 hv2
      exact ⟨σ2, e1.trans e2, f1.tr f2⟩
    | some b =>
      obtain ⟨σ2, st2, N2, e2, f2, t2, s2, q3, q4⟩ := B2 b hv2
      obtain ⟨M, rfl⟩ : ∃ M, N2 = M + 1 := ⟨N2 - 1, by omega⟩
      have es := l8_op (σ := σ2) (u := x) (st := st2) (h := h) ho (by omega) (by omega) (by omega) ((code_P (f1.tr f2) x).trans ((hc x (by omega) (by omega)).trans e))
      rw [t2, s2 h (by omega), t1] at es
      dsimp only
      by_cases z : (op = 47 ∨ op = 37) ∧ b = 0
      · rw [if_pos z] at es ⊢
        exact ⟨fun _ => ⟨σ2, e1.trans (e2.trans (c_fin es)), f1.tr f2⟩, fun a ha => by cases ha⟩
      · rw [if_neg z] at es ⊢
        refine ⟨fun y => (by cases y), fun c hc' => ?_⟩
        cases hc'
        refine ⟨_, st2 + 1, M, e1.trans (e2.trans (c_one es)), (f1.tr f2).tr (Fx_sI rfl), sI_same, fun k hk => ?_, by omega, by omega⟩
        rw [sI_fld (by omega), s2 k (by omega)]
        exact s1 k hk
theorem CB_and (H1 : CB cd u w hb v1) (e : cd w = 38) (e2 : cd (w + 1) = nI x) (H2 : CB cd (w + 2) x hb v2) (hh : hb < 64) : CB cd u x hb (andV v1 v2) := by
  have a0 := H1.1
  have b0 := H2.1
  refine ⟨by omega, fun σ h st N hc h1 hs hw hN => ?_⟩
  obtain ⟨A, B⟩ := H1.2 σ h st N (fun k a b => hc k a (by omega)) h1 hs (by omega) (by omega)
  unfold andV
  cases hv : v1 (σ.1 127) with
  | none => exact ⟨fun _ => A hv, fun a ha => by cases ha⟩
  | some a =>
    obtain ⟨σ1, st1, N1, e1, f1, t1, s1, q1, q2⟩ := B a hv
    obtain ⟨M, rfl⟩ : ∃ M, N1 = M + 1 := ⟨N1 - 1, by omega⟩
    have es := l8_and (σ := σ1) (u := w) (st := st1) (h := h) (by omega) (by omega) (by omega) ((code_P f1 w).trans ((hc w (by omega) (by omega)).trans e)) ((code_P f1 (w + 1)).trans ((hc (w + 1) (by omega) (by omega)).trans e2))
    rw [t1] at es
    dsimp only
    by_cases z : a = 0
    · rw [if_pos z] at es ⊢
      refine ⟨fun y => (by cases y), fun c hc' => ?_⟩
      cases hc'
      exact ⟨σ1, st1 + 1, M, e1.trans (c_one es), f1, t1.trans z, s1, by omega, by omega⟩
    · rw [if_neg z] at es ⊢
      obtain ⟨A2, B2⟩ := H2.2 σ1 h (st1 + 1) M (fun k a b => (code_P f1 k).trans (hc k (by omega) (by omega))) h1 (by omega) (by omega) (by omega)
      rw [let_P f1] at A2 B2
      refine ⟨fun y => ?_, fun b hb' => ?_⟩
      · obtain ⟨σ2, e3, f2⟩ := A2 y
        exact ⟨σ2, e1.trans ((c_one es).trans e3), f1.tr f2⟩
      · obtain ⟨σ2, st2, N2, e3, f2, t2, s2, q3, q4⟩ := B2 b hb'
        exact ⟨σ2, st2, N2, e1.trans ((c_one es).trans e3), f1.tr f2, t2, fun k hk => (s2 k hk).trans (s1 k hk), q3, by omega⟩
theorem CB_or (V1 : VB v1) (H1 : CB cd u w hb v1) (e : cd w = 124) (e2 : cd (w + 1) = nI x) (H2 : CB cd (w + 2) x hb v2) (hh : hb < 64) : CB cd u x hb (orV v1 v2) := by
  have a0 := H1.1
  have b0 := H2.1
  refine ⟨by omega, fun σ h st N hc h1 hs hw hN => ?_⟩
  obtain ⟨A, B⟩ := H1.2 σ h st N (fun k a b => hc k a (by omega)) h1 hs (by omega) (by omega)
  unfold orV
  cases hv : v1 (σ.1 127) with
  | none => exact ⟨fun _ => A hv, fun a ha => by cases ha⟩
  | some a =>
    obtain ⟨σ1, st1, N1, e1, f1, t1, s1, q1, q2⟩ := B a hv
    obtain ⟨M, rfl⟩ : ∃ M, N1 = M + 1 := ⟨N1 - 1, by omega⟩
    have es := l8_or (σ := σ1) (u := w) (st := st1) (h := h) (by omega) (by omega) (by omega) ((code_P f1 w).trans ((hc w (by omega) (by omega)).trans e)) ((code_P f1 (w + 1)).trans ((hc (w + 1) (by omega) (by omega)).trans e2))
    rw [t1] at es
    dsimp only
    by_cases z : a = 0
    · rw [if_pos z] at es ⊢
      obtain ⟨A2, B2⟩ := H2.2 σ1 h (st1 + 1) M (fun k a b => (code_P f1 k).trans (hc k (by omega) (by omega))) h1 (by omega) (by omega) (by omega)
      rw [let_P f1] at A2 B2
      refine ⟨fun y => ?_, fun b hb' => ?_⟩
      · obtain ⟨σ2, e3, f2⟩ := A2 y
        exact ⟨σ2, e1.trans ((c_one es).trans e3), f1.tr f2⟩
      · obtain ⟨σ2, st2, N2, e3, f2, t2, s2, q3, q4⟩ := B2 b hb'
        exact ⟨σ2, st2, N2, e1.trans ((c_one es).trans e3), f1.tr f2, t2, fun k hk => (s2 k hk).trans (s1 k hk), q3, by omega⟩
    · rw [if_neg z] at es ⊢
      refine ⟨fun y => (by cases y), fun c hc' => ?_⟩
      cases hc'
      exact ⟨σ1, st1 + 1, M, e1.trans (c_one es), f1, t1.trans ((V1 _ _ hv).resolve_left z), s1, by omega, by omega⟩
/-- a whole E or C run -/
def valO (o : Option Int32) : Int32 := match o with
  | none => 0
  | some a => a
theorem c_run (H : CB cd u w hb v) (hc : ∀ k, u ≤ k → k < w → σ.1 112 k = cd k) (he : σ.1 112 w = 0) (hw : w + 1 < 512) : ∃ σ', Law_run (nI u) 127 σ = some (valO (v (σ.1 127)), σ') ∧ Fx P116 σ σ' := by
  have a0 := H.1
  obtain ⟨A, B⟩ := H.2 σ 0 0 FU hc (Nat.zero_le _) (Nat.zero_le _) (by omega) (by show w < 1000000 + u; omega)
  unfold Law_run Law_run0
  cases hv : v (σ.1 127) with
  | none =>
    obtain ⟨σ1, e1, f1⟩ := A hv
    refine ⟨σ1, ?_, f1⟩
    rw [show Law_run_L8 127 (0, nI u, 0, σ) = some (.inr (.inr (0, σ1))) from e1, Option.bind_some]
    rfl
  | some a =>
    obtain ⟨σ1, st1, N1, e1, f1, t1, s1, q1, q2⟩ := B a hv
    obtain ⟨M, rfl⟩ : ∃ M, N1 = M + 1 := ⟨N1 - 1, by
      have : 1000000 + u ≤ N1 + w := q2
      omega⟩
    have es := l8_end (σ := σ1) (u := w) (st := st1) hw (by omega) (nI (0 + 1)) ((code_P f1 w).trans he)
    refine ⟨σ1, ?_, f1⟩
    rw [show Law_run_L8 127 (0, nI u, 0, σ) = some (.inr (.inl (nI (0 + 1), σ1))) from e1.trans (c_fin es), Option.bind_some]
    show Law_run_b314 (nI (0 + 1)) σ1 = _
    unfold Law_run_b314
    rw [if_neg (by decide), t1]
    rfl
end CRN
