/-! THE LAW READ, IN THE CLASS -/
section CRD
variable {tx : Nat → Nat} {n : Nat}
/-- the class's reader: at place p, so many words in the draft -/
def CRd (n p u : Nat) (σ : MH) : Prop := σ.1 123 1 = nI n ∧ σ.1 123 2 = nI p ∧ σ.1 117 5 = nI u
def PL3 (b k : Nat) : Prop := b = 123 ∨ b = 118 ∨ (b = 117 ∧ k = 5)
theorem TXC_3 {σ σ' : MH} (h : TXC tx n σ) (hf : Fx PL3 σ σ') : TXC tx n σ' := fun j hj => (hf 110 j (by unfold PL3; omega)).trans (h j hj)
theorem c_sign3 {σ : MH} {p u : Nat} (hb : TXb tx n) (hT : TXC tx n σ) (h : CRd n p u σ) (hp : p < 300) : Reader_sign σ = some (sgX tx n p) := by
  have hn := hb.1
  obtain ⟨h1, h2, -⟩ := h
  unfold Reader_sign Reader_sign0 sgX
  rw [h1, h2, if_neg (nI_pos (by omega))]
  by_cases h : p < n
  · obtain ⟨f1, f2, f3, f4⟩ := ix3 260 (show p < 260 by omega)
    rw [if_neg (by rw [nI_leI (by omega) (by omega)]; omega), if_neg f1, if_pos f2, f3, hT p h, if_pos h]
  · rw [if_pos (by rw [nI_leI (by omega) (by omega)]; omega), if_neg h]
theorem c_isEnd3 {σ : MH} {p u : Nat} (h : CRd n p u σ) (hn : n < 300) (hp : p < 300) : Reader_isEnd σ = some (bI (decide (n ≤ p))) := by
  obtain ⟨h1, h2, -⟩ := h
  unfold Reader_isEnd Reader_isEnd0
  rw [h1, h2]
  by_cases h : p < n
  · rw [if_pos ((nI_ltI (by omega) (by omega)).mpr h), decide_eq_false (by omega)]; rfl
  · rw [if_neg (fun z => h ((nI_ltI (by omega) (by omega)).mp z)), decide_eq_true (by omega)]; rfl
theorem c_fail3 {σ : MH} {p u : Nat} (k : Nat) (h : CRd n p u σ) : Reader_fail (nI k) σ = some (0, sI σ 123 3 (flt k p)) := by
  unfold Reader_fail Reader_fail0
  rw [h.2.1]
  rfl
/-- what a reader of the class has to give, by what the text spells -/
def okC (p u hb n : Nat) (r : PRs) (σ : MH) (x : Int32) (σ' : MH) : Prop := Fx PL3 σ σ' ∧ match r with
  | .inl e => x = 0 ∧ σ'.1 123 3 = e
  | .inr (q, v) => x = 1 ∧ ∃ u', CRd n q u' σ' ∧ u ≤ u' ∧ u' + 2 * p ≤ u + 2 * q ∧ (∀ k, k < u → σ'.1 118 k = σ.1 118 k) ∧ CB (σ'.1 118) u u' hb v
def KC (tx : Nat → Nat) (n hb : Nat) (one : Nat → Option PRs) (rd : MH → Option (Int32 × MH)) : Prop := ∀ (p u : Nat) (σ : MH), TXC tx n σ → p ≤ n → u ≤ 2 * p → CRd n p u σ → ∀ r, one p = some r → ∃ x σ', rd σ = some (x, σ') ∧ okC p u hb n r σ x σ'
theorem c_fl {σ τ : MH} {p u p0 u0 hb : Nat} (k : Nat) (hf : Fx PL3 σ τ) (h : CRd n p u τ) : ∃ x σ', Reader_fail (nI k) τ = some (x, σ') ∧ okC p0 u0 hb n (.inl (flt k p)) σ x σ' := ⟨0, _, c_fail3 k h, hf.tr (Fx_sI (Or.inl rfl)), rfl, sI_same⟩
/-- one word more -/
def em (σ : MH) (u : Nat) (x : Int32) : MH := sI (sI σ 118 u x) 117 5 (nI (u + 1))
theorem c_emit {σ : MH} {u : Nat} (h : σ.1 117 5 = nI u) (hu : u < 512) (x : Int32) : Law_emit x σ = some (em σ u x) := by
  obtain ⟨f1, f2, f3, f4⟩ := ix3 512 hu
  unfold Law_emit Law_emit0 em
  rw [h, if_neg f4, if_neg f1, if_pos f2, f3, sI_obj (by decide), h, show nI u + 1 = nI (u + 1) from nI_1 _]
theorem em_fx {σ : MH} {u : Nat} {x : Int32} : Fx PL3 σ (em σ u x) := (Fx_sI (Or.inr (Or.inl rfl))).tr (Fx_sI (Or.inr (Or.inr ⟨rfl, rfl⟩)))
theorem em_rd {σ : MH} {p u : Nat} {x : Int32} (h : CRd n p u σ) : CRd n p (u + 1) (em σ u x) := by
  obtain ⟨h1, h2, -⟩ := h
  refine ⟨?_, ?_, sI_same⟩
  · unfold em; rw [sI_obj (by decide), sI_obj (by decide)]; exact h1
  · unfold em; rw [sI_obj (by decide), sI_obj (by decide)]; exact h2
theorem em_cd {σ : MH} {u : Nat} {x : Int32} (k : Nat) : (em σ u x).1 118 k = if k = u then x else σ.1 118 k := by
  unfold em
  rw [sI_obj (by decide), sI_at]
  by_cases q : k = u
  · rw [if_pos ⟨rfl, q⟩, if_pos q]
  · rw [if_neg (fun z => q z.2), if_neg q]
/-- one place further -/
theorem at_rd {σ : MH} {p u : Nat} (h : CRd n p u σ) : CRd n (p + 1) u (sI σ 123 2 (nI (p + 1))) := by
  obtain ⟨h1, h2, h3⟩ := h
  refine ⟨?_, sI_same, ?_⟩
  · rw [sI_fld (by decide)]; exact h1
  · rw [sI_obj (by decide)]; exact h3
theorem at_fx {σ : MH} {x : Int32} : Fx PL3 σ (sI σ 123 2 x) := Fx_sI (Or.inl rfl)
theorem dg_ite2 {T : Type} (hb : TXb tx n) (p : Nat) {lo hi : Nat} (hl : lo < 256) (hh : hi < 256) (a b : T) : (if sgX tx n p < (OfNat.ofNat lo : Int32) then b else if (OfNat.ofNat hi : Int32) < sgX tx n p then b else a) = if dg lo hi (sN tx n p) = true then a else b := by
  rw [← dg_ite hb p hl hh a b]
  by_cases h1 : sgX tx n p < (OfNat.ofNat lo : Int32)
  · rw [if_pos h1, if_pos h1]
  · rw [if_neg h1, if_neg h1]
    by_cases h2 : (OfNat.ofNat hi : Int32) < sgX tx n p
    · rw [if_pos h2, if_neg (ne_of_lt32 h2)]
    · rw [if_neg h2, if_pos (Int32.not_lt.mp h2)]
/-! a number -/
theorem dg_t (hb : TXb tx n) {p lo hi : Nat} (hl : lo < 256) (hh : hi < 256) (h : dg lo hi (sN tx n p) = true) : (¬ sgX tx n p < (OfNat.ofNat lo : Int32)) ∧ sgX tx n p ≤ (OfNat.ofNat hi : Int32) := by
  have := sg_in hb p hl hh
  rw [h, Bool.and_eq_true, decide_eq_true_eq, decide_eq_true_eq] at this
  exact ⟨fun z => ne_of_lt32 z this.1, this.2⟩
theorem dg_f (hb : TXb tx n) {p lo hi : Nat} (hl : lo < 256) (hh : hi < 256) (h : ¬ dg lo hi (sN tx n p) = true) (h2 : ¬ sgX tx n p < (OfNat.ofNat lo : Int32)) : ¬ sgX tx n p ≤ (OfNat.ofNat hi : Int32) := fun h3 => by
  have := sg_in hb p hl hh
  rw [decide_eq_true (Int32.not_lt.mp h2), decide_eq_true h3] at this
  exact h this.symm
theorem c_digits (hb : TXb tx n) : ∀ (k p a u N : Nat) (σ : MH), k ≤ 5 → p ≤ n → k < N → TXC tx n σ → CRd n p u σ → ∃ z, itr (fun s : Int32 × Int32 × MH => LawReader_readNumber_l4 s.1 s.2.1 s.2.2) N (nI a, nI (5 - k), σ) = some z ∧ match nmS tx n k p a with
    | .inl e => ∃ σ' q, z = .inr (.inr σ') ∧ e = flt 2 q ∧ CRd n q u σ' ∧ Fx PL3 σ σ'
    | .inr (q, b) => ∃ σ', (z = .inl (nI b, σ') ∨ z = .inr (.inl (nI b, σ'))) ∧ CRd n q u σ' ∧ Fx PL3 σ σ' ∧ σ'.1 118 = σ.1 118
  | 0, p, a, u, N, σ, hk, hp, hN, hT, hR => by
    have hn := hb.1
    obtain ⟨M, rfl⟩ : ∃ M, N = M + 1 := ⟨N - 1, by omega⟩
    have hs := c_sign3 hb hT hR (by omega)
    have e : LawReader_readNumber_l4 (nI a) (nI (5 - 0)) σ = (if sgX tx n p < 48 then some (.inr (.inl (nI a, σ))) else if sgX tx n p ≤ 57 then some (.inr (.inr (.inr σ))) else some (.inr (.inr (.inl (nI a, σ))))) := by
      unfold LawReader_readNumber_l4
      rw [if_neg (show ¬ (5 : Int32) < nI (5 - 0) by decide), hs, Option.bind_some, if_pos (show nI (5 - 0) = 5 by decide)]
    unfold nmS
    by_cases h : dg 48 57 (sN tx n p) = true
    · obtain ⟨d1, d2⟩ := dg_t hb (show 48 < 256 by decide) (show 57 < 256 by decide) h
      rw [if_neg d1, if_pos d2] at e
      rw [if_pos h]
      exact ⟨_, itr_end e, σ, p, rfl, rfl, hR, Fx.rf⟩
    · rw [if_neg h]
      by_cases d1 : sgX tx n p < 48
      · rw [if_pos d1] at e
        exact ⟨_, itr_end e, σ, Or.inl rfl, hR, Fx.rf, rfl⟩
      · rw [if_neg d1, if_neg (dg_f hb (show 48 < 256 by decide) (show 57 < 256 by decide) h d1)] at e
        exact ⟨_, itr_end e, σ, Or.inr rfl, hR, Fx.rf, rfl⟩
  | k + 1, p, a, u, N, σ, hk, hp, hN, hT, hR => by
    have hn := hb.1
    obtain ⟨M, rfl⟩ : ∃ M, N = M + 1 := ⟨N - 1, by omega⟩
    have hs := c_sign3 hb hT hR (by omega)
    have e : LawReader_readNumber_l4 (nI a) (nI (5 - (k + 1))) σ = (if sgX tx n p < 48 then some (.inr (.inl (nI a, σ))) else if sgX tx n p ≤ 57 then some (.inl (nI a * 10 + sgX tx n p - 48, nI (5 - k), sI σ 123 2 (nI (p + 1)))) else some (.inr (.inr (.inl (nI a, σ))))) := by
      unfold LawReader_readNumber_l4
      rw [if_neg (mt (ltR 5 (by omega) (by decide)).mp (by omega)), hs, Option.bind_some, if_neg (mt (eqL 5 (by omega) (by decide)).mp (by omega)), hR.2.1, show nI p + 1 = nI (p + 1) from nI_1 _, show nI (5 - (k + 1)) + 1 = nI (5 - k) by rw [show 5 - k = 5 - (k + 1) + 1 by omega]; exact nI_1 _]
    unfold nmS
    by_cases h : dg 48 57 (sN tx n p) = true
    · have hy := dg_yes hb (by decide) h
      obtain ⟨d1, d2⟩ := dg_t hb (show 48 < 256 by decide) (show 57 < 256 by decide) h
      rw [if_neg d1, if_pos d2] at e
      rw [if_pos h]
      have ev : nI a * 10 + sgX tx n p - 48 = nI (10 * a + (sN tx n p - 48)) := by
        rw [hy.2.1, show nI a * 10 = nI (a * 10) from pk_mul a 10, nI_add, show nI (a * 10 + sN tx n p) - 48 = nI (a * 10 + sN tx n p - 48) from subL 48 (by omega)]
        congr 1
        omega
      rw [ev] at e
      obtain ⟨z, z1, z2⟩ := c_digits hb k (p + 1) (10 * a + (sN tx n p - 48)) u M (sI σ 123 2 (nI (p + 1))) (by omega) (by omega) (by omega) (TXC_3 hT at_fx) (at_rd hR)
      refine ⟨z, (itr_one e).trans z1, ?_⟩
      cases hm : nmS tx n k (p + 1) (10 * a + (sN tx n p - 48)) with
      | inl e =>
        rw [hm] at z2
        obtain ⟨σ', q, a1, a2, a3, a4⟩ := z2
        exact ⟨σ', q, a1, a2, a3, at_fx.tr a4⟩
      | inr w =>
        rw [hm] at z2
        obtain ⟨σ', a1, a2, a3, a4⟩ := z2
        refine ⟨σ', a1, a2, at_fx.tr a3, a4.trans ?_⟩
        rw [sI_objF (by decide)]
    · rw [if_neg h]
      by_cases d1 : sgX tx n p < 48
      · rw [if_pos d1] at e
        exact ⟨_, itr_end e, σ, Or.inl rfl, hR, Fx.rf, rfl⟩
      · rw [if_neg d1, if_neg (dg_f hb (show 48 < 256 by decide) (show 57 < 256 by decide) h d1)] at e
        exact ⟨_, itr_end e, σ, Or.inr rfl, hR, Fx.rf, rfl⟩
theorem em2 {σ : MH} {u : Nat} {x y : Int32} : (em (em σ u x) (u + 1) y).1 118 u = x ∧ (em (em σ u x) (u + 1) y).1 118 (u + 1) = y ∧ ∀ k, k < u → (em (em σ u x) (u + 1) y).1 118 k = σ.1 118 k := by
  refine ⟨?_, ?_, fun k hk => ?_⟩
  · rw [em_cd, if_neg (by omega), em_cd, if_pos rfl]
  · rw [em_cd, if_pos rfl]
  · rw [em_cd, if_neg (by omega), em_cd, if_neg (by omega)]
theorem c_number {σ : MH} {p u hb : Nat} (hB : TXb tx n) (hT : TXC tx n σ) (hp : p ≤ n) (hu : u ≤ 2 * p) (hR : CRd n p u σ) (hd : dg 48 57 (sN tx n p) = true) (hh : hb < 64) : ∃ x σ', LawReader_readNumber σ = some (x, σ') ∧ okC p u hb n (toPR (nmS tx n 5 p 0)) σ x σ' := by
  have hn := hB.1
  obtain ⟨z, z1, z2⟩ := c_digits hB 5 p 0 u FU σ (by decide) hp (by decide) hT hR
  unfold LawReader_readNumber LawReader_readNumber0
  rw [show LawReader_readNumber_L4 (0, 0, σ) = some z from z1, Option.bind_some]
  cases hm : nmS tx n 5 p 0 with
  | inl e =>
    rw [hm] at z2
    obtain ⟨σ', q, rfl, rfl, a3, a4⟩ := z2
    refine ⟨0, sI σ' 123 3 (flt 2 q), ?_, a4.tr (Fx_sI (Or.inl rfl)), rfl, sI_same⟩
    show bzo ((Reader_fail (nI 2) σ').bind fun w => some (w.1, w.2)) = _
    rw [c_fail3 2 a3]
    rfl
  | inr w =>
    obtain ⟨q, b⟩ := w
    rw [hm] at z2
    obtain ⟨σ', hz, a3, a4, a5⟩ := z2
    rcases nm_first hd with ⟨e, h⟩ | ⟨q', b', h, q1, q2, q3⟩
    · rw [hm] at h; cases h
    · rw [hm] at h
      cases h
      have e2 : LawReader_readNumber_b66 (nI b) σ' = some (1, em (em σ' u 1) (u + 1) (nI b)) := by
        unfold LawReader_readNumber_b66
        rw [c_emit a3.2.2 (by omega), Option.bind_some, c_emit (em_rd (x := 1) a3).2.2 (by omega), Option.bind_some]
      obtain ⟨m1, m2, m3⟩ := em2 (σ := σ') (u := u) (x := 1) (y := nI b)
      refine ⟨1, _, ?_, (a4.tr em_fx).tr em_fx, rfl, u + 2, em_rd (em_rd a3), by omega, by omega, fun k hk => (m3 k hk).trans (by rw [a5]), CB_num m1 m2 hh⟩
      rcases hz with rfl | rfl
      · show bzo (LawReader_readNumber_b66 (nI b) σ') = _
        rw [e2]
        rfl
      · show bzo (LawReader_readNumber_b66 (nI b) σ') = _
        rw [e2]
        rfl
/-! a factor -/
theorem c_letter (σ : MH) {c : Nat} (hc : c < 256) : String_indexOf_i_t1 (jc (nI c)) σ = some (if letN c < 11 then nI (letN c) else -1) := by
  have : ∀ c, c < 256 → String_indexOf_i_t1 (jc (nI c)) (fun _ _ => 0, fun _ _ => 0) = some (if letN c < 11 then nI (letN c) else -1) := by decide +kernel
  exact this c hc
theorem c_pas {σ : MH} {q u c : Nat} (hB : TXb tx n) (hT : TXC tx n σ) (hR : CRd n q u σ) (hq : q ≤ n) (hc : c < 256) : LawReader_pass (OfNat.ofNat c) σ = if sN tx n q = c then some (1, sI σ 123 2 (nI (q + 1))) else some (0, sI σ 123 3 (flt 1 q)) := by
  have hn := hB.1
  unfold LawReader_pass LawReader_pass0
  rw [c_sign3 hB hT hR (by omega), Option.bind_some, hR.2.1, show nI q + 1 = nI (q + 1) from nI_1 _]
  by_cases h : sN tx n q = c
  · rw [if_pos ((sg_eq hB q hc).mpr h), if_pos h]
    rfl
  · rw [if_neg (mt (sg_eq hB q hc).mp h), if_neg h, show (1 : Int32) = nI 1 from rfl, c_fail3 1 hR]
    rfl
theorem okC_at {σ σ' : MH} {p u hb : Nat} {r : PRs} {x y : Int32} (h : okC (p + 1) u hb n r (sI σ 123 2 y) x σ') : okC p u hb n r σ x σ' := by
  obtain ⟨h1, h2⟩ := h
  refine ⟨at_fx.tr h1, ?_⟩
  cases r with
  | inl e => exact h2
  | inr w =>
    obtain ⟨q, v⟩ := w
    obtain ⟨a1, u', a2, a3, a4, a5, a6⟩ := h2
    exact ⟨a1, u', a2, a3, by omega, fun k hk => (a5 k hk).trans (by rw [sI_obj (by decide)]), a6⟩
/-- what must be closed: the reader, then the sign -/
theorem c_cls {σ σ1 : MH} {p u hb c : Nat} (hB : TXb tx n) (hT : TXC tx n σ) (hc : c < 256) {r1 : PRs} {x : Int32} (hq : ∀ q v, r1 = .inr (q, v) → q ≤ n) (h : okC p u hb n r1 σ x σ1) {r : PRs} (hr : clsP tx n c (some r1) = some r) : ∃ y σ2, (if x = 0 then some (0, σ1) else ((LawReader_pass (OfNat.ofNat c) σ1).bind fun z => if z.1 = 0 then some (0, z.2) else some (1, z.2))) = some (y, σ2) ∧ okC p u hb n r σ y σ2 := by
  cases r1 with
  | inl e =>
    cases hr
    obtain ⟨h1, h2, h3⟩ := h
    exact ⟨0, σ1, by rw [if_pos h2], h1, rfl, h3⟩
  | inr w =>
    obtain ⟨q, v⟩ := w
    obtain ⟨h1, h2, u', a2, a3, a4, a5, a6⟩ := h
    have hr' : (if sN tx n q = c then some (.inr (q + 1, v)) else some (.inl (flt 1 q))) = some r := hr
    rw [h2, if_neg (show ¬ (1 : Int32) = 0 by decide), c_pas hB (TXC_3 hT h1) a2 (hq q v rfl) hc]
    by_cases h : sN tx n q = c
    · rw [if_pos h] at hr' ⊢
      cases hr'
      refine ⟨1, _, rfl, h1.tr at_fx, rfl, u', at_rd a2, a3, by omega, fun k hk => ?_, CB_ext a6 (fun k _ _ => ?_)⟩
      · rw [sI_obj (by decide)]; exact a5 k hk
      · rw [sI_obj (by decide)]
    · rw [if_neg h] at hr' ⊢
      cases hr'
      exact ⟨0, _, rfl, h1.tr (Fx_sI (Or.inl rfl)), rfl, sI_same⟩
theorem Tt_q {P : VL → Prop} {one : Nat → Option PRs} (h : Tt tx n P one) {p : Nat} {r : PRs} (e : one p = some r) : ∀ q v, r = .inr (q, v) → p < q ∧ q ≤ n ∧ P v := fun q v hr => by
  subst hr
  rcases h p with ⟨e', h1⟩ | ⟨h0, q', v', h1, h2, h3, h4⟩
  · rw [e] at h1; cases h1
  · rw [e] at h1; cases h1; exact ⟨h2, h3, h4⟩
theorem K_fac (hB : TXb tx n) {rec : Nat → Int32 → Int32 → MH → Option (Int32 × MH)} {o : Nat} (ho : o ≤ 6) {sum : Nat → Option PRs} (hs : o < 6 → Tt tx n VE sum ∧ KC tx n (2 * o + 3) sum (fun σ => rec 0 (nI (o + 1)) 0 σ)) : KC tx n (2 * o + 3) (pFac tx n sum o) (fun σ => LawReader_readFactor rec (nI o) σ) := by
  intro p u σ hT hp hu hR r hr
  have hn := hB.1
  unfold pFac at hr
  show ∃ x σ', LawReader_readFactor rec (nI o) σ = some (x, σ') ∧ _
  unfold LawReader_readFactor LawReader_readFactor0
  rw [c_sign3 hB hT hR (by omega), Option.bind_some]
  by_cases h1 : sN tx n p = 91
  · have hl := sN_lt h1 (by decide)
    rw [if_pos h1] at hr
    rw [if_pos ((sg_eq hB p (k := 91) (by decide)).mpr h1)]
    by_cases h2 : o < 6
    · rw [if_pos h2] at hr
      obtain ⟨hT', K⟩ := hs h2
      rw [if_pos ((ltL 6 (by omega) (by decide)).mpr h2), hR.2.1, show nI p + 1 = nI (p + 1) from nI_1 _, show nI o + 1 = nI (o + 1) from nI_1 _]
      cases hm : sum (p + 1) with
      | none => rw [hm] at hr; cases hr
      | some r1 =>
        rw [hm] at hr
        obtain ⟨x, σ1, k1, k2⟩ := K (p + 1) u _ (TXC_3 hT at_fx) (by omega) (by omega) (at_rd hR) r1 hm
        obtain ⟨y, σ2, k3, k4⟩ := c_cls hB hT (c := 93) (by decide) (fun q v e => (Tt_q hT' hm q v e).2.1) (okC_at k2) hr
        refine ⟨y, σ2, ?_, k4⟩
        have hy : y = 0 ∨ y = 1 := by
          obtain ⟨-, k5⟩ := k4
          cases r with
          | inl e => exact Or.inl k5.1
          | inr w => exact Or.inr k5.1
        rw [show rec 0 (nI (o + 1)) 0 (sI σ 123 2 (nI (p + 1))) = some (x, σ1) from k1, Option.bind_some]
        show bzo (if x = 0 then some (0, σ1) else ((LawReader_pass (OfNat.ofNat 93) σ1).bind fun z => if z.1 = 0 then some (0, z.2) else some (1, z.2))) = _
        rw [k3]
        rcases hy with rfl | rfl <;> rfl
    · rw [if_neg h2] at hr
      cases hr
      rw [if_neg (mt (ltL 6 (by omega) (by decide)).mp h2)]
      refine ⟨0, sI σ 123 3 (flt 5 p), ?_, Fx_sI (Or.inl rfl), rfl, sI_same⟩
      rw [show (5 : Int32) = nI 5 from rfl, c_fail3 5 hR]
      rfl
  · rw [if_neg h1] at hr
    rw [if_neg (mt (sg_eq hB p (k := 91) (by decide)).mp h1)]
    rw [dg_ite2 hB p (show 48 < 256 by decide) (show 57 < 256 by decide)]
    by_cases h2 : dg 48 57 (sN tx n p) = true
    · rw [if_pos h2] at hr ⊢
      obtain ⟨x, σ', k1, k2⟩ := c_number (hb := 2 * o + 3) hB hT hp hu hR h2 (by omega)
      cases hr
      refine ⟨x, σ', ?_, k2⟩
      have hy : x = 0 ∨ x = 1 := by
        obtain ⟨-, k5⟩ := k2
        cases hq : toPR (nmS tx n 5 p 0) with
        | inl e => rw [hq] at k5; exact Or.inl k5.1
        | inr w => rw [hq] at k5; exact Or.inr k5.1
      rw [k1, Option.bind_some]
      rcases hy with rfl | rfl <;> rfl
    · rw [if_neg h2] at hr ⊢
      have bad : ¬ letN (sN tx n p) < 11 → LawReader_readFactor_b75 rec (sgX tx n p) σ = some (0, sI σ 123 3 (flt 1 p)) := fun h3 => by
        have b93 : LawReader_readFactor_b93 rec (-1) σ = some (0, sI σ 123 3 (flt 1 p)) := by
          unfold LawReader_readFactor_b93
          rw [if_neg (by decide), show (1 : Int32) = nI 1 from rfl, c_fail3 1 hR]
          rfl
        unfold LawReader_readFactor_b75
        rw [c_isEnd3 hR (by omega) (by omega), Option.bind_some]
        rcases sg_cases hB p with ⟨a, e, e2, h⟩ | ⟨a, e, e2⟩
        · rw [decide_eq_false (by omega), bI_f, if_pos rfl, e, c_letter σ h, Option.bind_some]
          rw [e2] at h3
          rw [if_neg h3, b93]
        · rw [decide_eq_true a, bI_t, if_neg (show ¬ (1 : Int32) = 0 by decide), b93]
      by_cases h3 : letN (sN tx n p) < 11
      · rw [if_pos h3] at hr
        cases hr
        have hl := letN_lt h3
        have e2 : LawReader_readFactor_b75 rec (sgX tx n p) σ = some (1, sI (em (em σ u 2) (u + 1) (nI (letN (sN tx n p)))) 123 2 (nI (p + 1))) := by
          unfold LawReader_readFactor_b75
          rw [c_isEnd3 hR (by omega) (by omega), Option.bind_some]
          rcases sg_cases hB p with ⟨a, e, e2, h⟩ | ⟨a, e, e2⟩
          · rw [e2] at h3 ⊢
            rw [decide_eq_false (by omega), bI_f, if_pos rfl, e, c_letter σ h, Option.bind_some, if_pos h3]
            unfold LawReader_readFactor_b93
            rw [if_pos (nI_pos' (by omega)), c_emit hR.2.2 (by omega), Option.bind_some, c_emit (em_rd (x := 2) hR).2.2 (by omega), Option.bind_some, (em_rd (em_rd hR)).2.1, show nI p + 1 = nI (p + 1) from nI_1 _]
          · omega
        obtain ⟨m1, m2, m3⟩ := em2 (σ := σ) (u := u) (x := 2) (y := nI (letN (sN tx n p)))
        refine ⟨1, _, by rw [e2]; rfl, (em_fx.tr em_fx).tr at_fx, rfl, u + 2, at_rd (em_rd (em_rd hR)), by omega, by omega, fun k hk => ?_, CB_let h3 ?_ ?_ (by omega)⟩
        · rw [sI_obj (by decide)]; exact m3 k hk
        · rw [sI_obj (by decide)]; exact m1
        · rw [sI_obj (by decide)]; exact m2
      · rw [if_neg h3] at hr
        cases hr
        exact ⟨0, _, by rw [bad h3]; rfl, Fx_sI (Or.inl rfl), rfl, sI_same⟩
/-! sums and products -/
def contI {S R : Type} (f : S → Option (S ⊕ R)) (N : Nat) (o : Option (S ⊕ R)) : Option R := match o with
  | none => none
  | some (.inl s') => itr f N s'
  | some (.inr r) => some r
theorem itr_contI {S R : Type} (f : S → Option (S ⊕ R)) (N : Nat) (s : S) : itr f (N + 1) s = contI f N (f s) := rfl
theorem okC_01 {σ σ' : MH} {p u hb : Nat} {r : PRs} {x : Int32} (h : okC p u hb n r σ x σ') : x = 0 ∨ x = 1 := by
  obtain ⟨-, k5⟩ := h
  cases r with
  | inl e => exact Or.inl k5.1
  | inr w => exact Or.inr k5.1
theorem bzo_01 {x : Int32} {σ : MH} (h : x = 0 ∨ x = 1) : bzo (some (x, σ)) = some (x, σ) := by
  rcases h with rfl | rfl <;> rfl
section OPS
variable {P : Nat → Bool} {hb : Nat} {one : Nat → Option PRs} {rd : MH → Option (Int32 × MH)} {body : Int32 → Int32 → MH → Option ((Int32 × Int32 × MH) ⊕ (MH ⊕ (Int32 × MH)))} {b34 : Int32 → MH → Option ((Int32 × Int32 × MH) ⊕ (MH ⊕ (Int32 × MH)))}
theorem c_opsL (hB : TXb tx n) (hP : P 256 = false) (hP0 : P 0 = false) (hPo : ∀ c, P c = true → isOp c = true) (hT1 : Tt tx n VE one) (K : KC tx n (hb + 1) one rd) (hh : hb + 1 < 64) (h1 : ∀ v2 v3 σ x σ2, ¬ σ.1 123 1 < v3 → rd σ = some (x, σ2) → body v2 v3 σ = if x = 0 then some (.inr (.inr (0, σ2))) else if v2 = 0 then b34 v3 σ2 else (Law_emit v2 σ2).bind fun σ10 => b34 v3 σ10) (h2 : ∀ c p u σ, TXC tx n σ → p ≤ n → CRd n p u σ → b34 (nI c) σ = if P (sN tx n p) = true then some (.inl (nI (sN tx n p), nI (c + 1), sI σ 123 2 (nI (p + 1)))) else some (.inr (.inr (1, σ)))) (p0 u0 : Nat) (σ0 : MH) : ∀ (g c p u N : Nat) (σ : MH) (x : VL) (r : PRs), pLst tx n P opV one g x p = some r → TXC tx n σ → CRd n p u σ → p ≤ n → u0 ≤ u → u + 2 * p0 ≤ u0 + 2 * p → u ≤ 2 * p → c ≤ p → n < N + p → CB (σ.1 118) u0 u hb x → (∀ k, k < u0 → σ.1 118 k = σ0.1 118 k) → Fx PL3 σ0 σ → ∃ y σ', contI (fun s : Int32 × Int32 × MH => body s.1 s.2.1 s.2.2) N (b34 (nI c) σ) = some (.inr (y, σ')) ∧ okC p0 u0 hb n r σ0 y σ' := by
  have hn := hB.1
  intro g
  induction g with
  | zero => intro c p u N σ x r hr; cases hr
  | succ g ih =>
    intro c p u N σ x r hr hT hR hp hu0 hgr hu hc hN hCB hk hF
    unfold pLst at hr
    rw [h2 c p u σ hT hp hR]
    by_cases hq : P (sN tx n p) = true
    · rw [if_pos hq] at hr ⊢
      have hl := P_lt hP hq
      obtain ⟨M, rfl⟩ : ∃ M, N = M + 1 := ⟨N - 1, by omega⟩
      have hR1 := at_rd hR
      have hT1' := TXC_3 (tx := tx) (n := n) hT (at_fx (x := nI (p + 1)))
      show ∃ y σ', itr (fun s : Int32 × Int32 × MH => body s.1 s.2.1 s.2.2) (M + 1) (nI (sN tx n p), nI (c + 1), sI σ 123 2 (nI (p + 1))) = some (.inr (y, σ')) ∧ _
      rw [itr_contI]
      dsimp only
      cases hm : one (p + 1) with
      | none => rw [hm] at hr; cases hr
      | some r1 =>
        rw [hm] at hr
        obtain ⟨x1, σ2, k1, k2⟩ := K (p + 1) u _ hT1' (by omega) (by omega) hR1 r1 hm
        rw [h1 _ _ _ x1 σ2 (by rw [hR1.1, nI_ltI (by omega) (by omega)]; omega) k1]
        have k0 := k2.1
        have F2 := (hF.tr at_fx).tr k0
        cases r1 with
        | inl e =>
          cases hr
          obtain ⟨-, k3, k4⟩ := k2
          rw [if_pos k3]
          exact ⟨0, σ2, rfl, F2, rfl, k4⟩
        | inr w =>
          obtain ⟨q, v⟩ := w
          dsimp only at hr
          obtain ⟨-, k3, u2, g1, g2, g3, g4, g5⟩ := k2
          obtain ⟨t1, t2, t3⟩ := Tt_q hT1 hm q v rfl
          have c256 : sN tx n p < 256 := by
            rcases sg_cases hB p with ⟨a, e, e2, h⟩ | ⟨a, e, e2⟩
            · rw [e2]; exact h
            · omega
          have ne0 : ¬ nI (sN tx n p) = 0 := fun z => by
            have : sN tx n p = 0 := (nI_eq (by omega) (by decide)).mp z
            rw [this, hP0] at hq
            cases hq
          rw [k3, if_neg (show ¬ (1 : Int32) = 0 by decide), if_neg ne0, c_emit g1.2.2 (by omega), Option.bind_some]
          have e3 : ∀ k, k < u2 → (em σ2 u2 (nI (sN tx n p))).1 118 k = σ2.1 118 k := fun k hk => by rw [em_cd, if_neg (by omega)]
          have e4 : ∀ k, k < u → σ2.1 118 k = σ.1 118 k := fun k hk => (g4 k hk).trans (by rw [sI_obj (by decide)])
          refine ih (c + 1) q (u2 + 1) M (em σ2 u2 (nI (sN tx n p))) _ r hr (TXC_3 hT1' (k0.tr em_fx)) (em_rd g1) t2 (by omega) (by omega) (by omega) (by omega) (by omega) ?_ (fun k hk' => ?_) (F2.tr em_fx)
          · exact CB_op (hPo _ hq) (CB_ext hCB (fun k a b => (e3 k (by omega)).trans (e4 k b))) (CB_ext g5 (fun k a b => e3 k b)) (by rw [em_cd, if_pos rfl]) hh
          · exact (e3 k (by omega)).trans ((e4 k (by omega)).trans (hk k hk'))
    · rw [if_neg hq] at hr ⊢
      cases hr
      exact ⟨1, σ, rfl, hF, rfl, u, hR, hu0, hgr, hk, hCB⟩
theorem c_ops (hB : TXb tx n) (hP : P 256 = false) (hP0 : P 0 = false) (hPo : ∀ c, P c = true → isOp c = true) (hT1 : Tt tx n VE one) (K : KC tx n (hb + 1) one rd) (hh : hb + 1 < 64) (h1 : ∀ v2 v3 σ x σ2, ¬ σ.1 123 1 < v3 → rd σ = some (x, σ2) → body v2 v3 σ = if x = 0 then some (.inr (.inr (0, σ2))) else if v2 = 0 then b34 v3 σ2 else (Law_emit v2 σ2).bind fun σ10 => b34 v3 σ10) (h2 : ∀ c p u σ, TXC tx n σ → p ≤ n → CRd n p u σ → b34 (nI c) σ = if P (sN tx n p) = true then some (.inl (nI (sN tx n p), nI (c + 1), sI σ 123 2 (nI (p + 1)))) else some (.inr (.inr (1, σ)))) {f : MH → Option (Int32 × MH)} (hf : ∀ σ y σ', itr (fun s : Int32 × Int32 × MH => body s.1 s.2.1 s.2.2) FU (0, 0, σ) = some (.inr (y, σ')) → (y = 0 ∨ y = 1) → f σ = some (y, σ')) : KC tx n hb (pAll tx n P opV one) f := by
  intro p u σ hT hp hu hR r hr
  have hn := hB.1
  unfold pAll at hr
  cases hm : one p with
  | none => rw [hm] at hr; cases hr
  | some r1 =>
    rw [hm] at hr
    obtain ⟨x1, σ2, k1, k2⟩ := K p u σ hT hp hu hR r1 hm
    have eb := h1 0 0 σ x1 σ2 (by rw [hR.1]; exact mt (nI_ltI (b := 0) (by omega) (by omega)).mp (by omega)) k1
    have F2 := k2.1
    have es : itr (fun s : Int32 × Int32 × MH => body s.1 s.2.1 s.2.2) FU (0, 0, σ) = contI (fun s : Int32 × Int32 × MH => body s.1 s.2.1 s.2.2) (FU - 1) (body 0 0 σ) := itr_contI _ 999999 _
    rw [eb] at es
    cases r1 with
    | inl e =>
      cases hr
      obtain ⟨-, k3, k4⟩ := k2
      rw [if_pos k3] at es
      exact ⟨0, σ2, hf σ 0 σ2 es (Or.inl rfl), F2, rfl, k4⟩
    | inr w =>
      obtain ⟨q, v⟩ := w
      dsimp only at hr
      obtain ⟨-, k3, u2, g1, g2, g3, g4, g5⟩ := k2
      obtain ⟨t1, t2, t3⟩ := Tt_q hT1 hm q v rfl
      rw [k3, if_neg (show ¬ (1 : Int32) = 0 by decide), if_pos rfl] at es
      obtain ⟨y, σ', m1, m2⟩ := c_opsL (body := body) (b34 := b34) hB hP hP0 hPo hT1 K hh h1 h2 p u σ 300 0 q u2 (FU - 1) σ2 v r hr (TXC_3 hT F2) g1 t2 g2 g3 (by omega) (by omega) (by show n < 999999 + q; omega) (CB_mono g5 (by omega)) g4 F2
      exact ⟨y, σ', hf σ y σ' (es.trans m1) (okC_01 m2), m2⟩
end OPS
end CRD
