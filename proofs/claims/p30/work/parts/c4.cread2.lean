/-! THE LAW READ, IN THE CLASS: sums, tests, conditions -/
section CR2
variable {tx : Nat → Nat} {n : Nat}
theorem P_ite {T : Type} (hB : TXb tx n) (p : Nat) {c : Nat} (hc : c < 256) (a b : T) : (if sgX tx n p = (OfNat.ofNat c : Int32) then a else b) = if sN tx n p = c then a else b := by
  by_cases h : sN tx n p = c
  · rw [if_pos ((sg_eq hB p hc).mpr h), if_pos h]
  · rw [if_neg (mt (sg_eq hB p hc).mp h), if_neg h]
theorem sg_nI (hB : TXb tx n) {p : Nat} (h : p < n) : sgX tx n p = nI (sN tx n p) := by
  rcases sg_cases hB p with ⟨a, e, e2, h⟩ | ⟨a, e, e2⟩
  · rw [e, e2]
  · omega
theorem K_prd (hB : TXb tx n) {rec : Nat → Int32 → Int32 → MH → Option (Int32 × MH)} {o hb : Nat} (hh : hb + 1 < 64) {fac : Nat → Option PRs} (hT : Tt tx n VE fac) (K : KC tx n (hb + 1) fac (fun σ => rec 2 (nI o) 0 σ)) : KC tx n hb (pPrd tx n fac) (fun σ => LawReader_readProduct rec (nI o) σ) := by
  refine c_ops (body := fun v2 v3 σ => LawReader_readProduct_l4 rec (nI o) v2 v3 σ) (b34 := fun v3 σ => LawReader_readProduct_b34 rec (nI o) v3 σ) hB (by decide) (by decide) (fun c h => by unfold isOp; rw [h]; rfl) hT K hh (fun v2 v3 σ x σ2 hl hr => ?_) (fun c p u σ hT hp hR => ?_) (fun σ y σ' he hy => ?_)
  · show LawReader_readProduct_l4 rec (nI o) v2 v3 σ = _
    unfold LawReader_readProduct_l4
    rw [if_neg hl, show rec 2 (nI o) 0 σ = some (x, σ2) from hr, Option.bind_some]
  · have hn := hB.1
    show LawReader_readProduct_b34 rec (nI o) (nI c) σ = _
    unfold LawReader_readProduct_b34 LawReader_readProduct_b59
    rw [c_sign3 hB hT hR (by omega), Option.bind_some, hR.2.1, show nI p + 1 = nI (p + 1) from nI_1 _, show nI c + 1 = nI (c + 1) from nI_1 _]
    rw [P_ite hB p (c := 42) (by decide), P_ite hB p (c := 47) (by decide), P_ite hB p (c := 37) (by decide)]
    unfold isMul
    by_cases h1 : sN tx n p = 42
    · rw [if_pos h1, sg_nI hB (sN_lt h1 (by decide)), decide_eq_true h1, Bool.true_or, if_pos rfl]
    · by_cases h2 : sN tx n p = 47
      · rw [if_neg h1, if_pos h2, sg_nI hB (sN_lt h2 (by decide)), decide_eq_true h2, Bool.true_or, Bool.or_true, if_pos rfl]
      · by_cases h3 : sN tx n p = 37
        · rw [if_neg h1, if_neg h2, if_pos h3, sg_nI hB (sN_lt h3 (by decide)), decide_eq_true h3, Bool.or_true, Bool.or_true, if_pos rfl]
        · rw [if_neg h1, if_neg h2, if_neg h3, decide_eq_false h1, decide_eq_false h2, decide_eq_false h3, if_neg (by decide)]
  · show LawReader_readProduct rec (nI o) σ = _
    unfold LawReader_readProduct LawReader_readProduct0
    rw [show LawReader_readProduct_L4 rec (nI o) (0, 0, σ) = some (.inr (y, σ')) from he, Option.bind_some]
    exact bzo_01 hy
theorem K_sm (hB : TXb tx n) {rec : Nat → Int32 → Int32 → MH → Option (Int32 × MH)} {o hb : Nat} (hh : hb + 1 < 64) {fac : Nat → Option PRs} (hT : Tt tx n VE (pPrd tx n fac)) (K : KC tx n (hb + 1) (pPrd tx n fac) (fun σ => rec 1 (nI o) 0 σ)) : KC tx n hb (pSm tx n fac) (fun σ => LawReader_readSum rec (nI o) σ) := by
  refine c_ops (body := fun v2 v3 σ => LawReader_readSum_l4 rec (nI o) v2 v3 σ) (b34 := fun v3 σ => LawReader_readSum_b34 rec (nI o) v3 σ) hB (by decide) (by decide) (fun c h => by unfold isOp; rw [h, Bool.true_or, Bool.or_true]) hT K hh (fun v2 v3 σ x σ2 hl hr => ?_) (fun c p u σ hT hp hR => ?_) (fun σ y σ' he hy => ?_)
  · show LawReader_readSum_l4 rec (nI o) v2 v3 σ = _
    unfold LawReader_readSum_l4
    rw [if_neg hl, show rec 1 (nI o) 0 σ = some (x, σ2) from hr, Option.bind_some]
  · have hn := hB.1
    show LawReader_readSum_b34 rec (nI o) (nI c) σ = _
    unfold LawReader_readSum_b34 LawReader_readSum_b53
    rw [c_sign3 hB hT hR (by omega), Option.bind_some, hR.2.1, show nI p + 1 = nI (p + 1) from nI_1 _, show nI c + 1 = nI (c + 1) from nI_1 _]
    rw [P_ite hB p (c := 43) (by decide), P_ite hB p (c := 45) (by decide)]
    unfold isAdd
    by_cases h1 : sN tx n p = 43
    · rw [if_pos h1, sg_nI hB (sN_lt h1 (by decide)), decide_eq_true h1, Bool.true_or, if_pos rfl]
    · by_cases h2 : sN tx n p = 45
      · rw [if_neg h1, if_pos h2, sg_nI hB (sN_lt h2 (by decide)), decide_eq_true h2, Bool.or_true, if_pos rfl]
      · rw [if_neg h1, if_neg h2, decide_eq_false h1, decide_eq_false h2, if_neg (by decide)]
  · show LawReader_readSum rec (nI o) σ = _
    unfold LawReader_readSum LawReader_readSum0
    rw [show LawReader_readSum_L4 rec (nI o) (0, 0, σ) = some (.inr (y, σ')) from he, Option.bind_some]
    exact bzo_01 hy
/-- sums, whatever is open -/
theorem K_sum (hB : TXb tx n) : ∀ (f o m : Nat), f + 1 + o = 7 → 3 * (f + 1) ≤ m → KC tx n (2 * o + 1) (pSum tx n (f + 1) o) (fun σ => LRn m 0 (nI o) 0 σ) := by
  intro f
  induction f with
  | zero =>
    intro o m h1 h2
    obtain ⟨k, rfl⟩ : ∃ k, m = k + 1 + 1 + 1 := ⟨m - 3, by omega⟩
    have hTf : Tt tx n VE (pFac tx n (pSum tx n 0 (o + 1)) o) := Tt_fac (fun h => by omega)
    exact K_sm (rec := LRn (k + 1 + 1)) (o := o) hB (by omega) (Tt_prd hB.1 hTf) (K_prd (rec := LRn (k + 1)) (o := o) (hb := 2 * o + 2) hB (by omega) hTf (K_fac (rec := LRn k) hB (by omega) (fun h => by omega)))
  | succ f ih =>
    intro o m h1 h2
    obtain ⟨k, rfl⟩ : ∃ k, m = k + 1 + 1 + 1 := ⟨m - 3, by omega⟩
    have hTf : Tt tx n VE (pFac tx n (pSum tx n (f + 1) (o + 1)) o) := Tt_fac (fun h => Tt_sum hB.1 (f + 1) (o + 1) (by omega) (by omega))
    exact K_sm (rec := LRn (k + 1 + 1)) (o := o) hB (by omega) (Tt_prd hB.1 hTf) (K_prd (rec := LRn (k + 1)) (o := o) (hb := 2 * o + 2) hB (by omega) hTf (K_fac (rec := LRn k) hB (by omega) (fun h => ⟨Tt_sum hB.1 (f + 1) (o + 1) (by omega) (by omega), ih (o + 1) k (by omega) (by omega)⟩)))
/-! jumps -/
section JMP
variable {C : Nat} {h : Nat → VL → VL → VL}
/-- what a jump by C does with two values -/
def JH (C : Nat) (h : Nat → VL → VL → VL) : Prop := (∀ (cd : Nat → Int32) (u w x : Nat) (v1 v2 : VL), VB v1 → CB cd u w 0 v1 → cd w = nI C → cd (w + 1) = nI x → CB cd (w + 2) x 0 v2 → CB cd u x 0 (h C v1 v2)) ∧ ∀ v w, VB w → VB (h C v w)
theorem JH_and : JH 38 hAnd := ⟨fun cd u w x v1 v2 _ h1 h2 h3 h4 => CB_and h1 h2 h3 h4 (by decide), fun v w b => VB_and b⟩
theorem JH_or : JH 124 hOr := ⟨fun cd u w x v1 v2 hb h1 h2 h3 h4 => CB_or hb h1 h2 h3 h4 (by decide), fun v w b => VB_or b⟩
/-- a jump that waits for its place, or none -/
def PDj (C : Nat) (h : Nat → VL → VL → VL) (cd : Nat → Int32) (u0 u : Nat) (x : VL) (v2 : Int32) : Prop := (v2 = -1 ∧ CB cd u0 u 0 x) ∨ ∃ y w z, v2 = nI (w + 1) ∧ u0 ≤ w ∧ w + 2 ≤ u ∧ CB cd u0 w 0 y ∧ cd w = nI C ∧ CB cd (w + 2) u 0 z ∧ x = h C y z ∧ VB y
theorem c_land (hJ : JH C h) {σ : MH} {p u0 u : Nat} {x : VL} {v2 : Int32} (hP : PDj C h (σ.1 118) u0 u x v2) (hR : CRd n p u σ) (hu : u < 512) : ∃ σ', LawReader_land v2 σ = some σ' ∧ Fx PL3 σ σ' ∧ CRd n p u σ' ∧ (∀ k, k < u0 ∨ u ≤ k → σ'.1 118 k = σ.1 118 k) ∧ CB (σ'.1 118) u0 u 0 x := by
  unfold LawReader_land LawReader_land0
  rcases hP with ⟨rfl, h1⟩ | ⟨y, w, z, rfl, a1, a2, a3, a4, a5, rfl, a7⟩
  · rw [if_pos (by decide)]
    exact ⟨σ, rfl, Fx.rf, hR, fun _ _ => rfl, h1⟩
  · obtain ⟨f1, f2, f3, f4⟩ := ix3 512 (show w + 1 < 512 by omega)
    have e : ∀ k, k ≠ w + 1 → (sI σ 118 (w + 1) (nI u)).1 118 k = σ.1 118 k := fun k hk => sI_fld hk
    refine ⟨sI σ 118 (w + 1) (nI u), ?_, Fx_sI (Or.inr (Or.inl rfl)), ⟨?_, ?_, ?_⟩, fun k hk => e k (by omega), hJ.1 _ _ w _ _ _ a7 (CB_ext a3 (fun k _ hk => e k (by omega))) ((e w (by omega)).trans a4) sI_same (CB_ext a5 (fun k hk _ => e k (by omega)))⟩
    · rw [if_neg f4, if_neg f1, if_pos f2, f3, hR.2.2]
    · rw [sI_obj (by decide)]; exact hR.1
    · rw [sI_obj (by decide)]; exact hR.2.1
    · rw [sI_obj (by decide)]; exact hR.2.2
theorem c_emitJump (hJ : JH C h) {σ : MH} {p u0 u : Nat} {x : VL} {v2 : Int32} (hP : PDj C h (σ.1 118) u0 u x v2) (hR : CRd n p u σ) (hu : u + 2 < 512) (hu0 : u0 ≤ u) : ∃ σ', LawReader_emitJump (nI C) v2 σ = some (nI (u + 1), σ') ∧ Fx PL3 σ σ' ∧ CRd n p (u + 2) σ' ∧ (∀ k, k < u0 → σ'.1 118 k = σ.1 118 k) ∧ CB (σ'.1 118) u0 u 0 x ∧ σ'.1 118 u = nI C := by
  obtain ⟨σ1, e1, f1, g1, k1, b1⟩ := c_land hJ hP hR (by omega)
  obtain ⟨m1, m2, m3⟩ := em2 (σ := σ1) (u := u) (x := nI C) (y := 0)
  have r2 := em_rd (x := 0) (em_rd (x := nI C) g1)
  refine ⟨_, ?_, (f1.tr em_fx).tr em_fx, r2, fun k hk => (m3 k (by omega)).trans (k1 k (Or.inl hk)), CB_ext b1 (fun k _ hk => m3 k hk), m1⟩
  unfold LawReader_emitJump LawReader_emitJump0
  rw [e1, Option.bind_some, c_emit g1.2.2 (by omega), Option.bind_some, c_emit (em_rd (x := nI C) g1).2.2 (by omega), Option.bind_some, r2.2.2, nI_s]
variable {one : Nat → Option PRs} {rd : MH → Option (Int32 × MH)} {body : Int32 → Int32 → MH → Option ((Int32 × Int32 × MH) ⊕ ((Int32 × MH) ⊕ (Int32 × MH) ⊕ (Int32 × MH)))}
/-- one that stops for want of a further sign lands what waits -/
def lnd (z : (Int32 × MH) ⊕ (Int32 × MH) ⊕ (Int32 × MH)) : Option (Int32 × MH) := match z with
  | .inl z => (LawReader_land z.1 z.2).bind fun σ16 => some (1, σ16)
  | .inr (.inl z) => (LawReader_land z.1 z.2).bind fun σ16 => some (1, σ16)
  | .inr (.inr z) => some (z.1, z.2)
theorem c_jmpL (hB : TXb tx n) (hC : 0 < C ∧ C < 256) (hJ : JH C h) (hT1 : Tt tx n VC one) (K : KC tx n 0 one rd) (h1 : ∀ c v2 v3 σ x σ2 p u, ¬ σ.1 123 1 < v3 → rd σ = some (x, σ2) → (x = 0 → body v2 v3 σ = some (.inr (.inr (.inr (0, σ2))))) ∧ (x = 1 → v3 = nI c → TXC tx n σ2 → p ≤ n → CRd n p u σ2 → body v2 v3 σ = if sN tx n p = C then (LawReader_emitJump (nI C) v2 σ2).bind fun z => some (.inl (z.1, nI (c + 1), sI z.2 123 2 (z.2.1 123 2 + 1))) else some (.inr (.inr (.inl (v2, σ2)))))) (p0 u0 : Nat) (σ0 : MH) : ∀ (g c p u N : Nat) (σ σb : MH) (v2 : Int32) (x : VL) (r : PRs), pLst tx n (fun c => decide (c = C)) h one g x p = some r → TXC tx n σ → CRd n p u σ → p ≤ n → u0 ≤ u → u + 2 * p0 ≤ u0 + 2 * p → u ≤ 2 * p → c ≤ p → n < N + p → PDj C h (σ.1 118) u0 u x v2 → VB x → (∀ k, k < u0 → σ.1 118 k = σ0.1 118 k) → Fx PL3 σ0 σ → (body v2 (nI c) σb = if sN tx n p = C then (LawReader_emitJump (nI C) v2 σ).bind fun z => some (.inl (z.1, nI (c + 1), sI z.2 123 2 (z.2.1 123 2 + 1))) else some (.inr (.inr (.inl (v2, σ))))) → ∃ z y σ', contI (fun s : Int32 × Int32 × MH => body s.1 s.2.1 s.2.2) N (body v2 (nI c) σb) = some z ∧ lnd z = some (y, σ') ∧ okC p0 u0 0 n r σ0 y σ' := by
  have hn := hB.1
  intro g
  induction g with
  | zero => intro c p u N σ σb v2 x r hr; cases hr
  | succ g ih =>
    intro c p u N σ σb v2 x r hr hT hR hp hu0 hgr hu hc hN hPD hVB hk hF hbd
    unfold pLst at hr
    rw [hbd]
    by_cases hq : sN tx n p = C
    · rw [if_pos (decide_eq_true hq)] at hr
      rw [if_pos hq]
      have hl := sN_lt hq hC.2
      obtain ⟨M, rfl⟩ : ∃ M, N = M + 1 := ⟨N - 1, by omega⟩
      obtain ⟨σ1, e1, f1, r1, k1, b1, c1⟩ := c_emitJump hJ hPD hR (by omega) hu0
      rw [e1, Option.bind_some, r1.2.1, show nI p + 1 = nI (p + 1) from nI_1 _]
      have hR1 := at_rd r1
      have F1 := f1.tr (at_fx (x := nI (p + 1)))
      have hT1' := TXC_3 hT F1
      have e118 : (sI σ1 123 2 (nI (p + 1))).1 118 = σ1.1 118 := sI_objF (by decide)
      dsimp only
      show ∃ z y σ', itr (fun s : Int32 × Int32 × MH => body s.1 s.2.1 s.2.2) (M + 1) (nI (u + 1), nI (c + 1), sI σ1 123 2 (nI (p + 1))) = some z ∧ _
      rw [itr_contI]
      dsimp only
      cases hm : one (p + 1) with
      | none => rw [hm] at hr; cases hr
      | some r1' =>
        rw [hm] at hr
        obtain ⟨x1, σ2, k1', k2⟩ := K (p + 1) (u + 2) _ hT1' (by omega) (by omega) hR1 r1' hm
        have hlen : ¬ (sI σ1 123 2 (nI (p + 1))).1 123 1 < nI (c + 1) := by rw [hR1.1, nI_ltI (by omega) (by omega)]; omega
        have k0 := k2.1
        have F2 := (hF.tr F1).tr k0
        cases r1' with
        | inl e =>
          cases hr
          obtain ⟨-, k3, k4⟩ := k2
          rw [(h1 0 (nI (u + 1)) (nI (c + 1)) _ x1 σ2 0 0 hlen k1').1 k3]
          exact ⟨_, 0, σ2, rfl, rfl, F2, rfl, k4⟩
        | inr w =>
          obtain ⟨q, v⟩ := w
          dsimp only at hr
          obtain ⟨-, k3, u2, g1, g2, g3, g4, g5⟩ := k2
          obtain ⟨t1, t2, t3⟩ := Tt_q hT1 hm q v rfl
          have hT2 := TXC_3 hT1' k0
          have e4 : ∀ k, k < u + 2 → σ2.1 118 k = σ1.1 118 k := fun k hk => (g4 k hk).trans (by rw [e118])
          refine ih (c + 1) q u2 M σ2 _ (nI (u + 1)) _ r hr hT2 g1 t2 (by omega) (by omega) (by omega) (by omega) (by omega) ?_ ?_ (fun k hk' => ?_) F2 ((h1 (c + 1) (nI (u + 1)) (nI (c + 1)) _ x1 σ2 q u2 hlen k1').2 k3 rfl hT2 t2 g1)
          · exact Or.inr ⟨x, u, v, rfl, hu0, g2, CB_ext b1 (fun k _ hk => e4 k (by omega)), (e4 u (by omega)).trans c1, g5, by rw [hq], hVB⟩
          · rw [hq]
            exact hJ.2 x v t3.2
          · exact (e4 k (by omega)).trans ((k1 k hk').trans (hk k hk'))
    · rw [if_neg (by rw [decide_eq_false hq]; decide)] at hr
      rw [if_neg hq]
      cases hr
      obtain ⟨σ1, e1, f1, r1, k1, b1⟩ := c_land hJ hPD hR (by omega)
      refine ⟨_, 1, σ1, rfl, ?_, hF.tr f1, rfl, u, r1, hu0, hgr, fun k hk' => (k1 k (Or.inl hk')).trans (hk k hk'), b1⟩
      show (LawReader_land v2 σ).bind (fun σ16 => some ((1 : Int32), σ16)) = _
      rw [e1]
      rfl
theorem c_jmp (hB : TXb tx n) (hC : 0 < C ∧ C < 256) (hJ : JH C h) (hT1 : Tt tx n VC one) (K : KC tx n 0 one rd) (h1 : ∀ c v2 v3 σ x σ2 p u, ¬ σ.1 123 1 < v3 → rd σ = some (x, σ2) → (x = 0 → body v2 v3 σ = some (.inr (.inr (.inr (0, σ2))))) ∧ (x = 1 → v3 = nI c → TXC tx n σ2 → p ≤ n → CRd n p u σ2 → body v2 v3 σ = if sN tx n p = C then (LawReader_emitJump (nI C) v2 σ2).bind fun z => some (.inl (z.1, nI (c + 1), sI z.2 123 2 (z.2.1 123 2 + 1))) else some (.inr (.inr (.inl (v2, σ2)))))) {f : MH → Option (Int32 × MH)} (hf : ∀ σ z y σ', itr (fun s : Int32 × Int32 × MH => body s.1 s.2.1 s.2.2) FU (-1, 0, σ) = some z → lnd z = some (y, σ') → (y = 0 ∨ y = 1) → f σ = some (y, σ')) : KC tx n 0 (pAll tx n (fun c => decide (c = C)) h one) f := by
  intro p u σ hT hp hu hR r hr
  have hn := hB.1
  unfold pAll at hr
  cases hm : one p with
  | none => rw [hm] at hr; cases hr
  | some r1 =>
    rw [hm] at hr
    obtain ⟨x1, σ2, k1, k2⟩ := K p u σ hT hp hu hR r1 hm
    have hlen : ¬ σ.1 123 1 < 0 := by rw [hR.1]; exact mt (nI_ltI (b := 0) (by omega) (by omega)).mp (by omega)
    have es : itr (fun s : Int32 × Int32 × MH => body s.1 s.2.1 s.2.2) FU (-1, 0, σ) = contI (fun s : Int32 × Int32 × MH => body s.1 s.2.1 s.2.2) (FU - 1) (body (-1) (nI 0) σ) := itr_contI _ 999999 _
    have F2 := k2.1
    cases r1 with
    | inl e =>
      cases hr
      obtain ⟨-, k3, k4⟩ := k2
      rw [(h1 0 (-1) (nI 0) σ x1 σ2 0 0 hlen k1).1 k3] at es
      exact ⟨0, σ2, hf σ _ 0 σ2 es rfl (Or.inl rfl), F2, rfl, k4⟩
    | inr w =>
      obtain ⟨q, v⟩ := w
      dsimp only at hr
      obtain ⟨-, k3, u2, g1, g2, g3, g4, g5⟩ := k2
      obtain ⟨t1, t2, t3⟩ := Tt_q hT1 hm q v rfl
      have hT2 := TXC_3 hT F2
      obtain ⟨z, y, σ', m1, m2, m3⟩ := c_jmpL (body := body) hB hC hJ hT1 K h1 p u σ 300 0 q u2 (FU - 1) σ2 σ (-1) v r hr hT2 g1 t2 g2 g3 (by omega) (by omega) (by show n < 999999 + q; omega) (Or.inl ⟨rfl, g5⟩) t3.2 g4 F2 ((h1 0 (-1) (nI 0) σ x1 σ2 q u2 hlen k1).2 k3 rfl hT2 t2 g1)
      exact ⟨y, σ', hf σ z y σ' (es.trans m1) m2 (okC_01 m3), m3⟩
end JMP
theorem K_both (hB : TXb tx n) {rec : Nat → Int32 → Int32 → MH → Option (Int32 × MH)} {o : Nat} {one : Nat → Option PRs} (hT : Tt tx n VC one) (K : KC tx n 0 one (fun σ => rec 5 (nI o) 0 σ)) : KC tx n 0 (pBoth tx n one) (fun σ => LawReader_readBoth rec (nI o) σ) := by
  refine c_jmp (C := 38) (h := hAnd) (body := fun v2 v3 σ => LawReader_readBoth_l4 rec (nI o) v2 v3 σ) hB (by decide) JH_and hT K (fun c v2 v3 σ x σ2 p u hl hr => ⟨fun hx => ?_, fun hx hv hT hp hR => ?_⟩) (fun σ z y σ' he hz hy => ?_)
  · show LawReader_readBoth_l4 rec (nI o) v2 v3 σ = _
    unfold LawReader_readBoth_l4
    rw [if_neg hl, show rec 5 (nI o) 0 σ = some (x, σ2) from hr, Option.bind_some]
    dsimp only
    rw [if_pos hx]
  · have hn := hB.1
    subst hv
    show LawReader_readBoth_l4 rec (nI o) v2 (nI c) σ = _
    unfold LawReader_readBoth_l4
    rw [if_neg hl, show rec 5 (nI o) 0 σ = some (x, σ2) from hr, Option.bind_some]
    dsimp only
    rw [if_neg (by rw [hx]; decide), c_sign3 hB hT hR (by omega), Option.bind_some, P_ite hB p (c := 38) (by decide), show nI c + 1 = nI (c + 1) from nI_1 _]
    rfl
  · show LawReader_readBoth rec (nI o) σ = _
    unfold LawReader_readBoth LawReader_readBoth0
    rw [show LawReader_readBoth_L4 rec (nI o) (-1, 0, σ) = some z from he, Option.bind_some]
    rcases z with z | z | z
    · show bzo (lnd (.inl z)) = _
      rw [hz]; exact bzo_01 hy
    · show bzo (lnd (.inr (.inl z))) = _
      rw [hz]; exact bzo_01 hy
    · show bzo (lnd (.inr (.inr z))) = _
      rw [hz]; exact bzo_01 hy
theorem K_eith (hB : TXb tx n) {rec : Nat → Int32 → Int32 → MH → Option (Int32 × MH)} {o : Nat} {one : Nat → Option PRs} (hT : Tt tx n VC (pBoth tx n one)) (K : KC tx n 0 (pBoth tx n one) (fun σ => rec 4 (nI o) 0 σ)) : KC tx n 0 (pEith tx n one) (fun σ => LawReader_readEither rec (nI o) σ) := by
  refine c_jmp (C := 124) (h := hOr) (body := fun v2 v3 σ => LawReader_readEither_l4 rec (nI o) v2 v3 σ) hB (by decide) JH_or hT K (fun c v2 v3 σ x σ2 p u hl hr => ⟨fun hx => ?_, fun hx hv hT hp hR => ?_⟩) (fun σ z y σ' he hz hy => ?_)
  · show LawReader_readEither_l4 rec (nI o) v2 v3 σ = _
    unfold LawReader_readEither_l4
    rw [if_neg hl, show rec 4 (nI o) 0 σ = some (x, σ2) from hr, Option.bind_some]
    dsimp only
    rw [if_pos hx]
  · have hn := hB.1
    subst hv
    show LawReader_readEither_l4 rec (nI o) v2 (nI c) σ = _
    unfold LawReader_readEither_l4
    rw [if_neg hl, show rec 4 (nI o) 0 σ = some (x, σ2) from hr, Option.bind_some]
    dsimp only
    rw [if_neg (by rw [hx]; decide), c_sign3 hB hT hR (by omega), Option.bind_some, P_ite hB p (c := 124) (by decide), show nI c + 1 = nI (c + 1) from nI_1 _]
    rfl
  · show LawReader_readEither rec (nI o) σ = _
    unfold LawReader_readEither LawReader_readEither0
    rw [show LawReader_readEither_L4 rec (nI o) (-1, 0, σ) = some z from he, Option.bind_some]
    rcases z with z | z | z
    · show bzo (lnd (.inl z)) = _
      rw [hz]; exact bzo_01 hy
    · show bzo (lnd (.inr (.inl z))) = _
      rw [hz]; exact bzo_01 hy
    · show bzo (lnd (.inr (.inr z))) = _
      rw [hz]; exact bzo_01 hy
/-! a test -/
theorem c_inner (hB : TXb tx n) {rec : Nat → Int32 → Int32 → MH → Option (Int32 × MH)} {o : Nat} (ho : o ≤ 6) {inner : Nat → Option PRs} (hT1 : o < 6 → Tt tx n VC inner) (K5 : o < 6 → KC tx n 0 inner (fun σ => rec 5 (nI (o + 1)) 0 σ)) (K3 : o < 6 → KC tx n 0 (pEith tx n inner) (fun σ => rec 3 (nI (o + 1)) 0 σ)) {sum : Nat → Option PRs} {p u : Nat} {σ : MH} (hT : TXC tx n σ) (hp : p ≤ n) (hu : u ≤ 2 * p) (hR : CRd n p u σ) (hs : sN tx n p = 33 ∨ sN tx n p = 40) {r : PRs} (hr : pTst tx n sum inner o p = some r) : ∃ x σ', LawReader_readInner rec (sgX tx n p) (nI o) σ = some (x, σ') ∧ okC p u 0 n r σ x σ' := by
  have hn := hB.1
  have hl : p < n := by rcases hs with h | h <;> exact sN_lt h (by decide)
  unfold LawReader_readInner LawReader_readInner0
  unfold pTst at hr
  by_cases h6 : o < 6
  · rw [if_pos ((ltL 6 (by omega) (by decide)).mpr h6), P_ite hB p (c := 40) (by decide), hR.2.1, show nI p + 1 = nI (p + 1) from nI_1 _, show nI o + 1 = nI (o + 1) from nI_1 _]
    rcases hs with h | h
    · rw [if_pos h, if_pos h6] at hr
      rw [if_neg (by omega)]
      cases hm : inner (p + 1) with
      | none => rw [hm] at hr; cases hr
      | some r1 =>
        rw [hm] at hr
        obtain ⟨x, σ1, k1, k2⟩ := K5 h6 (p + 1) u _ (TXC_3 hT at_fx) (by omega) (by omega) (at_rd hR) r1 hm
        rw [show rec 5 (nI (o + 1)) 0 (sI σ 123 2 (nI (p + 1))) = some (x, σ1) from k1, Option.bind_some]
        dsimp only
        cases r1 with
        | inl e =>
          cases hr
          obtain ⟨F, k3, k4⟩ := k2
          rw [if_pos k3]
          exact ⟨0, σ1, rfl, at_fx.tr F, rfl, k4⟩
        | inr w =>
          obtain ⟨q, v⟩ := w
          cases hr
          obtain ⟨F, k3, u2, g1, g2, g3, g4, g5⟩ := k2
          obtain ⟨t1, t2, t3⟩ := Tt_q (hT1 h6) hm q v rfl
          rw [k3, if_neg (show ¬ (1 : Int32) = 0 by decide), c_emit g1.2.2 (by omega), Option.bind_some]
          have e3 : ∀ k, k < u2 → (em σ1 u2 33).1 118 k = σ1.1 118 k := fun k hk => by rw [em_cd, if_neg (by omega)]
          refine ⟨1, _, rfl, (at_fx.tr F).tr em_fx, rfl, u2 + 1, em_rd g1, by omega, by omega, fun k hk => (e3 k (by omega)).trans ((g4 k hk).trans (by rw [sI_obj (by decide)])), CB_not (CB_ext g5 (fun k _ b => e3 k b)) (by rw [em_cd, if_pos rfl]) (by decide)⟩
    · rw [if_neg (by omega), if_pos h, if_pos h6] at hr
      rw [if_pos h]
      cases hm : pEith tx n inner (p + 1) with
      | none => rw [hm] at hr; cases hr
      | some r1 =>
        rw [hm] at hr
        obtain ⟨x, σ1, k1, k2⟩ := K3 h6 (p + 1) u _ (TXC_3 hT at_fx) (by omega) (by omega) (at_rd hR) r1 hm
        obtain ⟨y, σ2, k3, k4⟩ := c_cls hB hT (c := 41) (by decide) (fun q v e => (Tt_q (Tt_eith hn (hT1 h6)) hm q v e).2.1) (okC_at k2) hr
        refine ⟨y, σ2, ?_, k4⟩
        rw [show rec 3 (nI (o + 1)) 0 (sI σ 123 2 (nI (p + 1))) = some (x, σ1) from k1, Option.bind_some]
        show bzo (if x = 0 then some (0, σ1) else ((LawReader_pass (OfNat.ofNat 41) σ1).bind fun z => if z.1 = 0 then some (0, z.2) else some (1, z.2))) = _
        rw [k3]
        exact bzo_01 (okC_01 k4)
  · rw [if_neg (mt (ltL 6 (by omega) (by decide)).mp h6)]
    have hr' : r = .inl (flt 5 p) := by
      rcases hs with h | h
      · rw [if_pos h, if_neg h6] at hr; cases hr; rfl
      · rw [if_neg (by omega), if_pos h, if_neg h6] at hr; cases hr; rfl
    subst hr'
    refine ⟨0, sI σ 123 3 (flt 5 p), ?_, Fx_sI (Or.inl rfl), rfl, sI_same⟩
    rw [show (5 : Int32) = nI 5 from rfl, c_fail3 5 hR]
    rfl
theorem K_tst (hB : TXb tx n) {rec : Nat → Int32 → Int32 → MH → Option (Int32 × MH)} {o : Nat} (ho : o ≤ 6) {sum inner : Nat → Option PRs} (hTs : Tt tx n VE sum) (Ks : KC tx n 1 sum (fun σ => rec 0 (nI o) 0 σ)) (Ki : ∀ p u σ, TXC tx n σ → p ≤ n → u ≤ 2 * p → CRd n p u σ → (sN tx n p = 33 ∨ sN tx n p = 40) → ∀ r, pTst tx n sum inner o p = some r → ∃ x σ', rec 6 (sgX tx n p) (nI o) σ = some (x, σ') ∧ okC p u 0 n r σ x σ') : KC tx n 0 (pTst tx n sum inner o) (fun σ => LawReader_readTest rec (nI o) σ) := by
  intro p u σ hT hp hu hR r hr
  have hn := hB.1
  show ∃ x σ', LawReader_readTest rec (nI o) σ = some (x, σ') ∧ _
  unfold LawReader_readTest LawReader_readTest0
  rw [c_sign3 hB hT hR (by omega), Option.bind_some, P_ite hB p (c := 33) (by decide), P_ite hB p (c := 40) (by decide)]
  by_cases hs : sN tx n p = 33 ∨ sN tx n p = 40
  · obtain ⟨x, σ', k1, k2⟩ := Ki p u σ hT hp hu hR hs r hr
    refine ⟨x, σ', ?_, k2⟩
    have : LawReader_readTest_b17 rec (nI o) (sgX tx n p) σ = some (x, σ') := by
      unfold LawReader_readTest_b17
      rw [k1]
      rfl
    rw [this]
    rcases hs with h | h
    · rw [if_pos h]; exact bzo_01 (okC_01 k2)
    · rw [if_neg (by omega), if_pos h]; exact bzo_01 (okC_01 k2)
  · have h33 := mt Or.inl hs
    have h40 := mt Or.inr hs
    rw [if_neg h33, if_neg h40]
    unfold pTst at hr
    rw [if_neg h33, if_neg h40] at hr
    cases hm : sum p with
    | none => rw [hm] at hr; cases hr
    | some r1 =>
      rw [hm] at hr
      obtain ⟨x, σ1, k1, k2⟩ := Ks p u σ hT hp hu hR r1 hm
      rw [show rec 0 (nI o) 0 σ = some (x, σ1) from k1, Option.bind_some]
      dsimp only
      cases r1 with
      | inl e =>
        cases hr
        obtain ⟨F, k3, k4⟩ := k2
        rw [if_pos k3]
        exact ⟨0, σ1, rfl, F, rfl, k4⟩
      | inr w =>
        obtain ⟨q, v⟩ := w
        obtain ⟨F, k3, u2, g1, g2, g3, g4, g5⟩ := k2
        obtain ⟨t1, t2, t3⟩ := Tt_q hTs hm q v rfl
        have hT1 := TXC_3 hT F
        rw [k3, if_neg (show ¬ (1 : Int32) = 0 by decide), c_sign3 hB hT1 g1 (by omega), Option.bind_some, P_ite hB q (c := 60) (by decide), P_ite hB q (c := 62) (by decide), P_ite hB q (c := 61) (by decide)]
        unfold cmpP at hr
        dsimp only at hr
        by_cases hc : isCmp (sN tx n q) = true
        · rw [if_pos hc] at hr
          have hl := P_lt (P := isCmp) (by decide) hc
          have hc' := isCmp_is hc
          have hgo : ∀ T : Type, ∀ a b : T, (if sN tx n q = 60 then a else (if sN tx n q = 62 then a else (if sN tx n q = 61 then a else b))) = a := fun T a b => by
            rcases hc' with h | h | h
            · rw [if_pos h]
            · rw [if_pos h]; split <;> rfl
            · rw [if_pos h]; split <;> (try split) <;> rfl
          rw [hgo, sg_nI hB hl]
          unfold LawReader_readTest_b63
          rw [g1.2.1, show nI q + 1 = nI (q + 1) from nI_1 _]
          cases hm2 : sum (q + 1) with
          | none => rw [hm2] at hr; cases hr
          | some r2 =>
            rw [hm2] at hr
            obtain ⟨x2, σ2, j1, j2⟩ := Ks (q + 1) u2 _ (TXC_3 hT1 at_fx) (by omega) (by omega) (at_rd g1) r2 hm2
            rw [show rec 0 (nI o) 0 (sI σ1 123 2 (nI (q + 1))) = some (x2, σ2) from j1, Option.bind_some]
            dsimp only
            cases r2 with
            | inl e =>
              cases hr
              obtain ⟨F2, k5, k6⟩ := j2
              rw [if_pos k5]
              exact ⟨0, σ2, rfl, F.tr (at_fx.tr F2), rfl, k6⟩
            | inr w2 =>
              obtain ⟨q2, v2⟩ := w2
              cases hr
              obtain ⟨F2, k5, u3, i1, i2, i3, i4, i5⟩ := j2
              obtain ⟨s1, s2, s3⟩ := Tt_q hTs hm2 q2 v2 rfl
              rw [k5, if_neg (show ¬ (1 : Int32) = 0 by decide), c_emit i1.2.2 (by omega), Option.bind_some]
              have e3 : ∀ k, k < u3 → (em σ2 u3 (nI (sN tx n q))).1 118 k = σ2.1 118 k := fun k hk => by rw [em_cd, if_neg (by omega)]
              have i4 : ∀ k, k < u2 → σ2.1 118 k = σ1.1 118 k := fun k hk => (i4 k hk).trans (by rw [sI_obj (by decide)])
              refine ⟨1, _, rfl, (F.tr (at_fx.tr F2)).tr em_fx, rfl, u3 + 1, em_rd i1, by omega, by omega, fun k hk => (e3 k (by omega)).trans ((i4 k (by omega)).trans (g4 k hk)), ?_⟩
              exact CB_op (by unfold isOp; rw [hc, Bool.or_true, Bool.or_true]) (CB_mono (CB_ext g5 (fun k a b => (e3 k (by omega)).trans (i4 k b))) (by decide)) (CB_ext i5 (fun k a b => e3 k b)) (by rw [em_cd, if_pos rfl]) (by decide)
        · rw [if_neg hc] at hr
          cases hr
          have hc' : ¬ (sN tx n q = 60) ∧ ¬ (sN tx n q = 62) ∧ ¬ (sN tx n q = 61) := by
            unfold isCmp at hc
            rw [Bool.or_eq_true, Bool.or_eq_true, decide_eq_true_eq, decide_eq_true_eq, decide_eq_true_eq] at hc
            omega
          rw [if_neg hc'.1, if_neg hc'.2.1, if_neg hc'.2.2, show (1 : Int32) = nI 1 from rfl, c_fail3 1 g1]
          exact ⟨0, _, rfl, F.tr (Fx_sI (Or.inl rfl)), rfl, sI_same⟩
/-- tests and what lies between ( and ), whatever is open -/
theorem K_eithOf (hB : TXb tx n) {f o m : Nat} (h1 : f + 1 + o = 7) (K : ∀ m, 4 * (f + 1) ≤ m → KC tx n 0 (pTest tx n (f + 1) o) (fun σ => LRn m 5 (nI o) 0 σ)) (hm : 4 * (f + 1) + 2 ≤ m) : KC tx n 0 (pEith tx n (pTest tx n (f + 1) o)) (fun σ => LRn m 3 (nI o) 0 σ) := by
  obtain ⟨k, rfl⟩ : ∃ k, m = k + 1 + 1 := ⟨m - 2, by omega⟩
  have hTt := Tt_test (tx := tx) hB.1 (f + 1) o (by omega) (by omega)
  exact K_eith (rec := LRn (k + 1)) hB (Tt_both hB.1 hTt) (K_both (rec := LRn k) hB hTt (K k (by omega)))
theorem K_test (hB : TXb tx n) : ∀ (f o m : Nat), f + 1 + o = 7 → 4 * (f + 1) ≤ m → KC tx n 0 (pTest tx n (f + 1) o) (fun σ => LRn m 5 (nI o) 0 σ) := by
  intro f
  induction f with
  | zero =>
    intro o m h1 h2
    obtain ⟨k, rfl⟩ : ∃ k, m = k + 1 + 1 := ⟨m - 2, by omega⟩
    refine K_tst (rec := LRn (k + 1)) (o := o) hB (by omega) (Tt_sum hB.1 1 o (by omega) (by omega)) (fun p u σ a b c d r hr => ?_) (fun p u σ hT hp hu hR hs r hr => ?_)
    · obtain ⟨x, σ', k1, k2⟩ := K_sum hB 0 o (k + 1) (by omega) (by omega) p u σ a b c d r hr
      refine ⟨x, σ', k1, ?_⟩
      obtain ⟨k3, k4⟩ := k2
      refine ⟨k3, ?_⟩
      cases r with
      | inl e => exact k4
      | inr w =>
        obtain ⟨q, v⟩ := w
        obtain ⟨a1, u', a2, a3, a4, a5, a6⟩ := k4
        exact ⟨a1, u', a2, a3, a4, a5, CB_mono a6 (by omega)⟩
    · exact c_inner (rec := LRn k) hB (by omega) (fun h => by omega) (fun h => by omega) (fun h => by omega) hT hp hu hR hs hr
  | succ f ih =>
    intro o m h1 h2
    obtain ⟨k, rfl⟩ : ∃ k, m = k + 1 + 1 := ⟨m - 2, by omega⟩
    refine K_tst (rec := LRn (k + 1)) (o := o) hB (by omega) (Tt_sum hB.1 (f + 1 + 1) o (by omega) (by omega)) (fun p u σ a b c d r hr => ?_) (fun p u σ hT hp hu hR hs r hr => ?_)
    · obtain ⟨x, σ', k1, k2⟩ := K_sum hB (f + 1) o (k + 1) (by omega) (by omega) p u σ a b c d r hr
      refine ⟨x, σ', k1, ?_⟩
      obtain ⟨k3, k4⟩ := k2
      refine ⟨k3, ?_⟩
      cases r with
      | inl e => exact k4
      | inr w =>
        obtain ⟨q, v⟩ := w
        obtain ⟨a1, u', a2, a3, a4, a5, a6⟩ := k4
        exact ⟨a1, u', a2, a3, a4, a5, CB_mono a6 (by omega)⟩
    · exact c_inner (rec := LRn k) hB (by omega) (fun h => Tt_test hB.1 (f + 1) (o + 1) (by omega) (by omega)) (fun h => ih (o + 1) k (by omega) (by omega)) (fun h => K_eithOf hB (by omega) (fun m hm => ih (o + 1) m (by omega) hm) (by omega)) hT hp hu hR hs hr
end CR2
