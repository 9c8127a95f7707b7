/-! THE LAW READ, IN THE REFERENCE: sums -/
section MRD
variable {tx : Nat → Nat} {n : Nat}
/-- the reference's reader: at place p, so many instructions, so many that wait, so many open -/
def MRe (n p u w o : Nat) (σ : MH) : Prop := σ.1 166 6 = nI n ∧ σ.1 166 5 = nI p ∧ σ.1 166 10 = nI u ∧ σ.1 166 11 = nI w ∧ σ.1 166 9 = nI o
def PM5 (b k : Nat) : Prop := (b = 166 ∧ 5 ≤ k ∧ k ≤ 11 ∧ k ≠ 6) ∨ b = 171 ∨ b = 172
theorem TXM_5 {σ σ' : MH} (h : TXM tx n σ) (hf : Fx PM5 σ σ') : TXM tx n σ' := fun j hj => by
  rw [hf 170 j (by unfold PM5; omega)]
  exact h j hj
theorem m_hr {σ : MH} {p u w o : Nat} (hB : TXb tx n) (hT : TXM tx n σ) (h : MRe n p u w o σ) (hp : p < 300) : Md_here σ = some (sgX tx n p) := m_here hB hT h.1 h.2.1 hp
theorem f66 {k : Nat} (h : 5 ≤ k) (h2 : k ≤ 11) (h3 : k ≠ 6) : PM5 166 k := Or.inl ⟨rfl, h, h2, h3⟩
/-- one instruction more -/
def nt (σ : MH) (u : Nat) (x : Int32) : MH := sI (sI σ 171 u x) 166 10 (nI (u + 1))
theorem m_notes {σ : MH} {u : Nat} (h : σ.1 166 10 = nI u) (hu : u < 260) (a b : Nat) : Md_notes (nI a) (nI b) σ = some (nt σ u (nI (1048576 * a + b))) := by
  obtain ⟨f1, f2, f3, f4⟩ := ix3 260 hu
  unfold Md_notes Md_notes0 nt
  rw [h, if_pos f2, f3, sI_obj (by decide), h, show nI u + 1 = nI (u + 1) from nI_1 _, show (1048576 : Int32) * nI a + nI b = nI (1048576 * a + b) by rw [show (1048576 : Int32) * nI a = nI (1048576 * a) from pk_mul 1048576 a, nI_add]]
theorem nt_fx {σ : MH} {u : Nat} {x : Int32} : Fx PM5 σ (nt σ u x) := (Fx_sI (Or.inr (Or.inl rfl))).tr (Fx_sI (f66 (by decide) (by decide) (by decide)))
theorem nt_rd {σ : MH} {p u w o : Nat} {x : Int32} (h : MRe n p u w o σ) : MRe n p (u + 1) w o (nt σ u x) := by
  obtain ⟨h1, h2, h3, h4, h5⟩ := h
  unfold nt
  refine ⟨?_, ?_, sI_same, ?_, ?_⟩
  · rw [sI_fld (by decide), sI_obj (by decide)]; exact h1
  · rw [sI_fld (by decide), sI_obj (by decide)]; exact h2
  · rw [sI_fld (by decide), sI_obj (by decide)]; exact h4
  · rw [sI_fld (by decide), sI_obj (by decide)]; exact h5
theorem nt_cd {σ : MH} {u : Nat} {x : Int32} (k : Nat) : (nt σ u x).1 171 k = if k = u then x else σ.1 171 k := by
  unfold nt
  rw [sI_obj (by decide), sI_at]
  by_cases q : k = u
  · rw [if_pos ⟨rfl, q⟩, if_pos q]
  · rw [if_neg (fun z => q z.2), if_neg q]
theorem nt_wt {σ : MH} {u : Nat} {x : Int32} (k : Nat) : (nt σ u x).1 172 k = σ.1 172 k := by
  unfold nt
  rw [sI_obj (by decide), sI_obj (by decide)]
/-- one that waits gone -/
theorem pop_rd {σ : MH} {p u w w' o : Nat} (h : MRe n p u w o σ) : MRe n p u w' o (sI σ 166 11 (nI w')) := by
  obtain ⟨h1, h2, h3, h4, h5⟩ := h
  refine ⟨?_, ?_, ?_, sI_same, ?_⟩
  · rw [sI_fld (by decide)]; exact h1
  · rw [sI_fld (by decide)]; exact h2
  · rw [sI_fld (by decide)]; exact h3
  · rw [sI_fld (by decide)]; exact h5
theorem opn_rd {σ : MH} {p u w o o' : Nat} (h : MRe n p u w o σ) : MRe n p u w o' (sI σ 166 9 (nI o')) := by
  obtain ⟨h1, h2, h3, h4, h5⟩ := h
  refine ⟨?_, ?_, ?_, ?_, sI_same⟩
  · rw [sI_fld (by decide)]; exact h1
  · rw [sI_fld (by decide)]; exact h2
  · rw [sI_fld (by decide)]; exact h3
  · rw [sI_fld (by decide)]; exact h4
theorem plc_rd {σ : MH} {p p' u w o : Nat} (h : MRe n p u w o σ) : MRe n p' u w o (sI σ 166 5 (nI p')) := by
  obtain ⟨h1, h2, h3, h4, h5⟩ := h
  refine ⟨?_, sI_same, ?_, ?_, ?_⟩
  · rw [sI_fld (by decide)]; exact h1
  · rw [sI_fld (by decide)]; exact h3
  · rw [sI_fld (by decide)]; exact h4
  · rw [sI_fld (by decide)]; exact h5
theorem wt_rd {σ : MH} {p u w o k : Nat} {x : Int32} (h : MRe n p u w o σ) : MRe n p u w o (sI σ 172 k x) := by
  obtain ⟨h1, h2, h3, h4, h5⟩ := h
  refine ⟨?_, ?_, ?_, ?_, ?_⟩
  · rw [sI_obj (by decide)]; exact h1
  · rw [sI_obj (by decide)]; exact h2
  · rw [sI_obj (by decide)]; exact h3
  · rw [sI_obj (by decide)]; exact h4
  · rw [sI_obj (by decide)]; exact h5
theorem m_wrong {σ : MH} {p u w o : Nat} (k : Nat) (h : MRe n p u w o σ) : Md_wrongAt (nI k) (σ.1 166 5) σ = some (0, sI σ 166 7 (flt k p)) := by
  rw [h.2.1]
  rfl
theorem m_top0 {σ : MH} {p u o : Nat} (h : MRe n p u 0 o σ) : Md_waitTop σ = some (-1) := by
  unfold Md_waitTop Md_waitTop0
  rw [h.2.2.2.1, if_pos (show nI 0 = 0 from rfl)]
theorem m_top {σ : MH} {p u w o a b : Nat} (h : MRe n p u (w + 1) o σ) (hw : w < 260) (ha : a < 16) (hb : b < 1048576) (e : σ.1 172 w = nI (1048576 * a + b)) : Md_waitTop σ = some (nI a) := by
  obtain ⟨f1, f2, f3, f4⟩ := ix3 260 hw
  unfold Md_waitTop Md_waitTop0
  rw [h.2.2.2.1, if_neg (nz (by omega)), nI_s, if_pos f2, f3, e, (cw_div ha hb).1]
/-- what waits below is no sign of a sum -/
def Bel (w : Nat) (σ : MH) : Prop := w = 0 ∨ ∃ k a b, w = k + 1 ∧ 10 ≤ a ∧ a < 16 ∧ b < 1048576 ∧ σ.1 172 k = nI (1048576 * a + b)
theorem m_belTop {σ : MH} {p u w o : Nat} (h : MRe n p u w o σ) (hw : w < 260) (hb : Bel w σ) : ∃ t, Md_waitTop σ = some t ∧ (t < 4 ∨ ¬ t ≤ 6) ∧ ¬ t = 2 ∧ ¬ t = 3 := by
  rcases hb with rfl | ⟨k, a, b, rfl, h1, h2, h3, h4⟩
  · exact ⟨-1, m_top0 h, Or.inl (by decide), by decide, by decide⟩
  · refine ⟨nI a, m_top h (by omega) h2 h3 h4, Or.inr (mt (leL 6 (by omega) (by decide)).mp (by omega)), mt (eqL 2 (by omega) (by decide)).mp (by omega), mt (eqL 3 (by omega) (by decide)).mp (by omega)⟩
theorem cs_out {σ : MH} (v1 : Int32) {t : Int32} (h : Md_waitTop σ = some t) (h1 : t < 4 ∨ ¬ t ≤ 6) (h2 : v1 = 0 ∨ (¬ t = 2 ∧ ¬ t = 3)) : Md_closesSums_l0 v1 σ = some (.inr σ) := by
  have b17 : Md_closesSums_b17 v1 σ = some (.inr σ) := by
    unfold Md_closesSums_b17
    by_cases c : v1 = 0
    · rw [if_pos c]
    · obtain ⟨h3, h4⟩ := h2.resolve_left c
      rw [if_neg c, h, Option.bind_some, if_neg h3, Option.bind_some, if_neg h4]
  unfold Md_closesSums_l0
  rw [h, Option.bind_some, b17]
  rcases h1 with h1 | h1
  · rw [if_pos h1]
  · by_cases c : t < 4
    · rw [if_pos c]
    · rw [if_neg c, Option.bind_some, if_neg h1]
theorem cs_in {σ : MH} {p u w o a : Nat} (v1 : Int32) (h : MRe n p u (w + 1) o σ) (hw : w < 260) (hu : u < 260) (e : σ.1 172 w = nI (1048576 * a + 0)) (ha : (4 ≤ a ∧ a ≤ 6) ∨ (v1 = 1 ∧ (a = 2 ∨ a = 3))) : Md_closesSums_l0 v1 σ = some (.inl (sI (nt σ u (nI (1048576 * a + 0))) 166 11 (nI w))) := by
  have ht := m_top h hw (show a < 16 by omega) (by decide) e
  have b37 : Md_closesSums_b37 v1 σ = some (.inl (sI (nt σ u (nI (1048576 * a + 0))) 166 11 (nI w))) := by
    unfold Md_closesSums_b37
    rw [ht, Option.bind_some, show (0 : Int32) = nI 0 from rfl, m_notes h.2.2.1 hu a 0, Option.bind_some, (nt_rd h).2.2.2.1, nI_s]
  unfold Md_closesSums_l0
  rw [ht, Option.bind_some]
  rcases ha with ⟨h1, h2⟩ | ⟨rfl, h1⟩
  · rw [if_neg (mt (ltL 4 (by omega) (by decide)).mp (by omega)), Option.bind_some, if_pos ((leL 6 (by omega) (by decide)).mpr h2), b37]
  · rw [if_pos ((ltL 4 (by omega) (by decide)).mpr (by omega))]
    unfold Md_closesSums_b17
    rw [if_neg (show ¬ (1 : Int32) = 0 by decide), ht, Option.bind_some]
    by_cases c : a = 2
    · rw [if_pos ((eqL 2 (by omega) (by decide)).mpr c), b37]
    · rw [if_neg (mt (eqL 2 (by omega) (by decide)).mp c), Option.bind_some, if_pos ((eqL 3 (by omega) (by decide)).mpr (by omega)), b37]
/-! what waits of a sum -/
def ct (a : Option (Nat × VL)) : Nat := match a with
  | none => 0
  | some _ => 1
def addA (a : Option (Nat × VL)) (x : VL) : VL := match a with
  | none => x
  | some (op, y) => opV op y x
def Pend (P : Nat → Bool) (σ : MH) (k u0 u1 hb : Nat) (a : Option (Nat × VL)) : Prop := match a with
  | none => u1 = u0
  | some (op, y) => P op = true ∧ σ.1 172 k = nI (1048576 * mop op + 0) ∧ MB (σ.1 171) u0 u1 hb y
theorem Pend_le {P : Nat → Bool} {σ : MH} {k u0 u1 hb : Nat} {a : Option (Nat × VL)} (h : Pend P σ k u0 u1 hb a) : u0 ≤ u1 := by
  cases a with
  | none => exact Nat.le_of_eq (Eq.symm h)
  | some z => exact h.2.2.1
theorem Pend_of {P : Nat → Bool} {σ σ' : MH} {k u0 u1 hb : Nat} {a : Option (Nat × VL)} (h : Pend P σ k u0 u1 hb a) (e1 : a ≠ none → σ'.1 172 k = σ.1 172 k) (e2 : ∀ j, u0 ≤ j → j < u1 → σ'.1 171 j = σ.1 171 j) : Pend P σ' k u0 u1 hb a := by
  cases a with
  | none => exact h
  | some z => exact ⟨h.1, (e1 (fun q => by cases q)).trans h.2.1, MB_ext h.2.2 e2⟩
theorem isMul_mop {op : Nat} (h : isMul op = true) : 4 ≤ mop op ∧ mop op ≤ 6 ∧ isOp op = true := by
  have : op = 42 ∨ op = 47 ∨ op = 37 := by
    unfold isMul at h
    rw [Bool.or_eq_true, Bool.or_eq_true, decide_eq_true_eq, decide_eq_true_eq, decide_eq_true_eq] at h
    exact h
  rcases this with rfl | rfl | rfl <;> decide
theorem isAdd_mop {op : Nat} (h : isAdd op = true) : (mop op = 2 ∨ mop op = 3) ∧ isOp op = true := by
  have : op = 43 ∨ op = 45 := by
    unfold isAdd at h
    rw [Bool.or_eq_true, decide_eq_true_eq, decide_eq_true_eq] at h
    exact h
  rcases this with rfl | rfl <;> decide
/-- at the head of a sum's loop: what waits of it, and what was read last -/
def SH (n p u0 u w o hb : Nat) (a m : Option (Nat × VL)) (x : VL) (σ : MH) : Prop := ∃ u1 u2, MRe n p u (w + ct a + ct m) o σ ∧ Pend isAdd σ w u0 u1 hb a ∧ Pend isMul σ (w + ct a) u1 u2 (hb + 1) m ∧ MB (σ.1 171) u2 u (hb + 2) x ∧ Bel w σ
/-- nothing below has changed -/
def Low (u w : Nat) (σ σ' : MH) : Prop := (∀ k, k < u → σ'.1 171 k = σ.1 171 k) ∧ ∀ k, k < w → σ'.1 172 k = σ.1 172 k
theorem Low.rf {u w : Nat} {σ : MH} : Low u w σ σ := ⟨fun _ _ => rfl, fun _ _ => rfl⟩
theorem Low.tr {u w u' w' : Nat} {σ σ1 σ2 : MH} (h1 : Low u w σ σ1) (h2 : Low u' w' σ1 σ2) (hu : u ≤ u') (hw : w ≤ w') : Low u w σ σ2 := ⟨fun k hk => (h2.1 k (by omega)).trans (h1.1 k hk), fun k hk => (h2.2 k (by omega)).trans (h1.2 k hk)⟩
theorem Bel_of {w u : Nat} {σ σ' : MH} (h : Bel w σ) (hl : Low u w σ σ') : Bel w σ' := by
  rcases h with h | ⟨k, a, b, e, h1, h2, h3, h4⟩
  · exact Or.inl h
  · exact Or.inr ⟨k, a, b, e, h1, h2, h3, (hl.2 k (by omega)).trans h4⟩
theorem wt_st {σ : MH} {w u : Nat} {x : Int32} (k : Nat) : (sI (nt σ u x) 166 11 (nI w)).1 172 k = σ.1 172 k := by
  rw [sI_obj (by decide), nt_wt]
theorem cd_st {σ : MH} {w u : Nat} {x : Int32} (k : Nat) : (sI (nt σ u x) 166 11 (nI w)).1 171 k = if k = u then x else σ.1 171 k := by
  rw [sI_obj (by decide), nt_cd]
theorem fx_st {σ : MH} {w u : Nat} {x : Int32} : Fx PM5 σ (sI (nt σ u x) 166 11 (nI w)) := nt_fx.tr (Fx_sI (f66 (by decide) (by decide) (by decide)))
/-- the product closed -/
theorem m_close0 {p u0 u w o hb : Nat} {a m : Option (Nat × VL)} {x : VL} {σ : MH} (h : SH n p u0 u w o hb a m x σ) (hu : u < 259) (hw : w + 2 < 259) (hh : hb + 2 < 64) : ∃ σ' u1 u', Md_closesSums 0 σ = some σ' ∧ Fx PM5 σ σ' ∧ MRe n p u' (w + ct a) o σ' ∧ u ≤ u' ∧ u' ≤ u + ct m ∧ Pend isAdd σ' w u0 u1 hb a ∧ MB (σ'.1 171) u1 u' (hb + 1) (addA m x) ∧ Low u0 w σ σ' ∧ Bel w σ' := by
  obtain ⟨u1, u2, hR, hA, hM, hX, hbel⟩ := h
  have l1 := Pend_le hA
  have l2 := Pend_le hM
  have l3 := hX.1
  -- out
  have out : ∀ (N : Nat) (τ : MH) (v : Nat), MRe n p v (w + ct a) o τ → Pend isAdd τ w u0 u1 hb a → Bel w τ → itr (fun s : MH => Md_closesSums_l0 0 s) (N + 1) τ = some τ := fun N τ v hR hA hb => by
    refine itr_end ?_
    cases a with
    | none =>
      obtain ⟨t, t1, t2, t3⟩ := m_belTop hR (by show w + 0 < 260; omega) hb
      exact cs_out 0 t1 t2 (Or.inl rfl)
    | some z =>
      obtain ⟨z1, z2, z3⟩ := hA
      have hz := isAdd_mop z1
      exact cs_out 0 (m_top hR (by omega) (by omega) (by decide) z2) (Or.inl ((ltL 4 (by omega) (by decide)).mpr (by omega))) (Or.inl rfl)
  unfold Md_closesSums Md_closesSums0
  cases m with
  | none =>
    have hM : u2 = u1 := hM
    subst hM
    refine ⟨σ, u2, u, ?_, Fx.rf, hR, Nat.le_refl _, Nat.le_refl _, hA, MB_mono hX (by omega), Low.rf, hbel⟩
    rw [show Md_closesSums_L0 0 σ = some σ from out 999999 σ u hR hA hbel]
    rfl
  | some z =>
    obtain ⟨op, y⟩ := z
    obtain ⟨z1, z2, z3⟩ := hM
    obtain ⟨a4, a6, aop⟩ := isMul_mop z1
    have e1 := cs_in (v1 := 0) hR (by cases a <;> (show _ < _; simp only [ct]; omega)) (by omega) z2 (Or.inl ⟨a4, a6⟩)
    have low : Low u0 w σ (sI (nt σ u (nI (1048576 * mop op + 0))) 166 11 (nI (w + ct a))) := ⟨fun k hk => by rw [cd_st, if_neg (by omega)], fun k _ => wt_st k⟩
    have hA' : Pend isAdd (sI (nt σ u (nI (1048576 * mop op + 0))) 166 11 (nI (w + ct a))) w u0 u1 hb a := Pend_of hA (fun _ => wt_st w) (fun j _ hj => by rw [cd_st, if_neg (by omega)])
    have hR' : MRe n p (u + 1) (w + ct a) o (sI (nt σ u (nI (1048576 * mop op + 0))) 166 11 (nI (w + ct a))) := pop_rd (nt_rd hR)
    refine ⟨_, u1, u + 1, ?_, fx_st, hR', by omega, Nat.le_refl _, hA', ?_, low, Bel_of hbel low⟩
    · rw [show Md_closesSums_L0 0 σ = some _ from (itr_one e1).trans (out 999998 _ _ hR' hA' (Bel_of hbel low))]
      rfl
    · refine MB_op aop (MB_ext z3 (fun k _ hk => by rw [cd_st, if_neg (by omega)])) (MB_ext hX (fun k _ hk => by rw [cd_st, if_neg (by omega)])) (by rw [cd_st, if_pos rfl]) (by omega)
/-- the sum closed -/
theorem m_close1 {p u0 u w o hb : Nat} {a m : Option (Nat × VL)} {x : VL} {σ : MH} (h : SH n p u0 u w o hb a m x σ) (hu : u < 258) (hw : w + 2 < 259) (hh : hb + 2 < 64) : ∃ σ' u', Md_closesSums 1 σ = some σ' ∧ Fx PM5 σ σ' ∧ MRe n p u' w o σ' ∧ u ≤ u' ∧ u' ≤ u + ct a + ct m ∧ MB (σ'.1 171) u0 u' hb (addA a (addA m x)) ∧ Low u0 w σ σ' ∧ Bel w σ' := by
  obtain ⟨u1, u2, hR, hA, hM, hX, hbel⟩ := h
  have l1 := Pend_le hA
  have l2 := Pend_le hM
  have l3 := hX.1
  have stop : ∀ (N : Nat) (τ : MH) (v : Nat), MRe n p v w o τ → Bel w τ → itr (fun s : MH => Md_closesSums_l0 1 s) (N + 1) τ = some τ := fun N τ v hR hb => by
    obtain ⟨t, t1, t2, t3⟩ := m_belTop hR (by omega) hb
    exact itr_end (cs_out 1 t1 t2 (Or.inr t3))
  -- from the product on
  have fin : ∀ (N : Nat) (τ : MH) (v : Nat), N > 0 → v < 260 → MRe n p v (w + ct a) o τ → Pend isAdd τ w u0 u1 hb a → MB (τ.1 171) u1 v (hb + 1) (addA m x) → Bel w τ → ∃ σ' u', itr (fun s : MH => Md_closesSums_l0 1 s) (N + 1) τ = some σ' ∧ Fx PM5 τ σ' ∧ MRe n p u' w o σ' ∧ v ≤ u' ∧ u' ≤ v + ct a ∧ MB (σ'.1 171) u0 u' hb (addA a (addA m x)) ∧ Low u0 w τ σ' := by
    intro N τ v hN hv hR hA hX hb
    have l4 := hX.1
    cases a with
    | none =>
      have hA : u1 = u0 := hA
      subst hA
      exact ⟨τ, v, stop N τ v hR hb, Fx.rf, hR, Nat.le_refl _, Nat.le_refl _, MB_mono hX (by omega), Low.rf⟩
    | some z =>
      obtain ⟨op, y⟩ := z
      obtain ⟨z1, z2, z3⟩ := hA
      obtain ⟨a2, aop⟩ := isAdd_mop z1
      obtain ⟨M, rfl⟩ : ∃ M, N = M + 1 := ⟨N - 1, by omega⟩
      have e1 := cs_in (v1 := 1) hR (by omega) hv z2 (Or.inr ⟨rfl, a2⟩)
      have low : Low u0 w τ (sI (nt τ v (nI (1048576 * mop op + 0))) 166 11 (nI w)) := ⟨fun k hk => by rw [cd_st, if_neg (by omega)], fun k _ => wt_st k⟩
      have hR' : MRe n p (v + 1) w o (sI (nt τ v (nI (1048576 * mop op + 0))) 166 11 (nI w)) := pop_rd (nt_rd hR)
      refine ⟨_, v + 1, (itr_one e1).trans (stop M _ _ hR' (Bel_of hb low)), fx_st, hR', by omega, Nat.le_refl _, ?_, low⟩
      exact MB_op aop (MB_ext z3 (fun k _ hk => by rw [cd_st, if_neg (by omega)])) (MB_ext hX (fun k _ hk => by rw [cd_st, if_neg (by omega)])) (by rw [cd_st, if_pos rfl]) (by omega)
  unfold Md_closesSums Md_closesSums0
  cases m with
  | none =>
    have hM : u2 = u1 := hM
    subst hM
    obtain ⟨σ', u', k1, k2, k3, k4, k5, k6, k7⟩ := fin 999999 σ u (by decide) (by omega) hR hA (MB_mono hX (by omega)) hbel
    refine ⟨σ', u', ?_, k2, k3, k4, k5, k6, k7, Bel_of hbel k7⟩
    rw [show Md_closesSums_L0 1 σ = some σ' from k1]
    rfl
  | some z =>
    obtain ⟨op, y⟩ := z
    obtain ⟨z1, z2, z3⟩ := hM
    obtain ⟨a4, a6, aop⟩ := isMul_mop z1
    have e1 := cs_in (v1 := 1) hR (by cases a <;> (show _ < _; simp only [ct]; omega)) (by omega) z2 (Or.inl ⟨a4, a6⟩)
    have low : Low u0 w σ (sI (nt σ u (nI (1048576 * mop op + 0))) 166 11 (nI (w + ct a))) := ⟨fun k hk => by rw [cd_st, if_neg (by omega)], fun k _ => wt_st k⟩
    have hA' : Pend isAdd (sI (nt σ u (nI (1048576 * mop op + 0))) 166 11 (nI (w + ct a))) w u0 u1 hb a := Pend_of hA (fun _ => wt_st w) (fun j _ hj => by rw [cd_st, if_neg (by omega)])
    have hR' : MRe n p (u + 1) (w + ct a) o (sI (nt σ u (nI (1048576 * mop op + 0))) 166 11 (nI (w + ct a))) := pop_rd (nt_rd hR)
    have hX' : MB ((sI (nt σ u (nI (1048576 * mop op + 0))) 166 11 (nI (w + ct a))).1 171) u1 (u + 1) (hb + 1) (addA (some (op, y)) x) := MB_op aop (MB_ext z3 (fun k _ hk => by rw [cd_st, if_neg (by omega)])) (MB_ext hX (fun k _ hk => by rw [cd_st, if_neg (by omega)])) (by rw [cd_st, if_pos rfl]) (by omega)
    obtain ⟨σ', u', k1, k2, k3, k4, k5, k6, k7⟩ := fin 999998 _ (u + 1) (by decide) (by omega) hR' hA' hX' (Bel_of hbel low)
    have lw := Low.tr low k7 (Nat.le_refl _) (Nat.le_refl _)
    refine ⟨σ', u', ?_, fx_st.tr k2, k3, by omega, by show u' ≤ u + ct a + 1; omega, k6, lw, Bel_of hbel lw⟩
    rw [show Md_closesSums_L0 1 σ = some σ' from (itr_one e1).trans k1]
    rfl
end MRD
