/-! THE LAW READ, IN THE REFERENCE: tests and conditions -/
section MCD
variable {tx : Nat → Nat} {n : Nat}
def rst (z35 : MH ⊕ (Int32 × MH)) : Option (MH ⊕ (MH ⊕ (Int32 × MH))) := match z35 with
  | .inl z35a => (Md_here z35a).bind fun x37 => if x37 = (38 : Int32) then (Md_readsCondition_b180 z35a) else ((Md_here z35a).bind fun x54 => if x54 = (124 : Int32) then (Md_readsCondition_b180 z35a) else some (.inr (.inl (z35a))))
  | .inr z35b => some (.inr (.inr (z35b.1, z35b.2)))
/-- the loop of a condition -/
def Lc (M : Nat) (σ : MH) : Option (MH ⊕ (Int32 × MH)) := itr (fun s : MH => Md_readsCondition_l40 s) M σ
/-- behind a test -/
def aft (E M N : Nat) (σ : MH) : Option (MH ⊕ (Int32 × MH)) := contI (fun s : MH => Md_readsCondition_l40 s) M (((itr (fun s : MH => Md_endsPiece_l0 s) E σ).bind fun s => itr (fun s : MH => Md_readsCondition_l92 s) N s).bind rst)
/-- the NOT that waits on top said -/
def noS (σ : MH) (u w o : Nat) : MH := sI (sI (nt σ u (nI (1048576 * 10 + 0))) 166 11 (nI w)) 166 9 (nI o)
theorem noS_rd {σ : MH} {p u w o w' o' : Nat} (h : MRe n p u w' o' σ) : MRe n p (u + 1) w o (noS σ u w o) := opn_rd (pop_rd (nt_rd h))
theorem noS_fx {σ : MH} {u w o : Nat} : Fx PM5 σ (noS σ u w o) := (nt_fx.tr (Fx_sI (f66 (by decide) (by decide) (by decide)))).tr (Fx_sI (f66 (by decide) (by decide) (by decide)))
theorem noS_cd {σ : MH} {u w o : Nat} (k : Nat) : (noS σ u w o).1 171 k = if k = u then nI (1048576 * 10 + 0) else σ.1 171 k := by
  unfold noS
  rw [sI_obj (by decide), sI_obj (by decide), nt_cd]
theorem noS_wt {σ : MH} {u w o : Nat} (k : Nat) : (noS σ u w o).1 172 k = σ.1 172 k := by
  unfold noS
  rw [sI_obj (by decide), sI_obj (by decide), nt_wt]
theorem ep_not {σ : MH} {p u w o : Nat} (hR : MRe n p u (w + 1) (o + 1) σ) (hw : w < 260) (hu : u < 260) (e : σ.1 172 w = nI (1048576 * 10 + 0)) : Md_endsPiece_l0 σ = some (.inl (noS σ u w o)) := by
  have ht := m_top hR hw (show 10 < 16 by decide) (show 0 < 1048576 by decide) e
  unfold Md_endsPiece_l0
  rw [ht, Option.bind_some, if_pos (show nI 10 = 10 from rfl), show (10 : Int32) = nI 10 from rfl, show (0 : Int32) = nI 0 from rfl, m_notes hR.2.2.1 hu 10 0, Option.bind_some, (nt_rd hR).2.2.2.1, nI_s]
  have e9 : (sI (nt σ u (nI (1048576 * 10 + 0))) 166 11 (nI w)).1 166 9 - 1 = nI o := by rw [sI_fld (by decide), (nt_rd hR).2.2.2.2, nI_s]
  rw [e9]
  rfl
theorem ep_no {σ : MH} {p u w o a b : Nat} (hR : MRe n p u (w + 1) o σ) (hw : w < 260) (ha : a < 16) (hb : b < 1048576) (h10 : a ≠ 10) (e : σ.1 172 w = nI (1048576 * a + b)) : Md_endsPiece_l0 σ = some (.inr σ) := by
  have ht := m_top hR hw ha hb e
  unfold Md_endsPiece_l0
  rw [ht, Option.bind_some, if_neg (mt (eqL 10 (by omega) (by decide)).mp h10)]
theorem aft_not {σ : MH} {p u w o E M N : Nat} (hR : MRe n p u (w + 1) (o + 1) σ) (hw : w < 260) (hu : u < 260) (e : σ.1 172 w = nI (1048576 * 10 + 0)) : aft (E + 1) M N σ = aft E M N (noS σ u w o) := by
  unfold aft
  rw [itr_one (ep_not hR hw hu e)]
theorem aft_no {σ : MH} {p u w o a b E M N : Nat} (hR : MRe n p u (w + 1) o σ) (hw : w < 260) (ha : a < 16) (hb : b < 1048576) (h10 : a ≠ 10) (e : σ.1 172 w = nI (1048576 * a + b)) : aft (E + 1) M N σ = contI (fun s : MH => Md_readsCondition_l40 s) M ((itr (fun s : MH => Md_readsCondition_l92 s) N σ).bind rst) := by
  unfold aft
  rw [itr_end (ep_no hR hw ha hb h10 e), Option.bind_some]
theorem l92_no {σ : MH} {p u w o : Nat} (hB : TXb tx n) (hT : TXM tx n σ) (hR : MRe n p u w o σ) (hp : p < 300) (h : ¬ sN tx n p = 41) : Md_readsCondition_l92 σ = some (.inr (.inl σ)) := by
  unfold Md_readsCondition_l92
  rw [m_hr hB hT hR hp, Option.bind_some, P_ite hB p (c := 41) (by decide), if_neg h]
/-- a jump that waits gets its place -/
def ldS (σ : MH) (j u w c : Nat) : MH := sI (sI σ 171 j (nI (1048576 * c + u))) 166 11 (nI w)
theorem ldS_rd {σ : MH} {p u w w' o j c : Nat} (h : MRe n p u w' o σ) : MRe n p u w o (ldS σ j u w c) := by
  obtain ⟨h1, h2, h3, h4, h5⟩ := h
  unfold ldS
  refine ⟨?_, ?_, ?_, sI_same, ?_⟩
  · rw [sI_fld (by decide), sI_obj (by decide)]; exact h1
  · rw [sI_fld (by decide), sI_obj (by decide)]; exact h2
  · rw [sI_fld (by decide), sI_obj (by decide)]; exact h3
  · rw [sI_fld (by decide), sI_obj (by decide)]; exact h5
theorem ldS_fx {σ : MH} {j u w c : Nat} : Fx PM5 σ (ldS σ j u w c) := (Fx_sI (Or.inr (Or.inl rfl))).tr (Fx_sI (f66 (by decide) (by decide) (by decide)))
theorem ldS_cd {σ : MH} {j u w c : Nat} (k : Nat) : (ldS σ j u w c).1 171 k = if k = j then nI (1048576 * c + u) else σ.1 171 k := by
  unfold ldS
  rw [sI_obj (by decide), sI_at]
  by_cases q : k = j
  · rw [if_pos ⟨rfl, q⟩, if_pos q]
  · rw [if_neg (fun z => q z.2), if_neg q]
theorem ldS_wt {σ : MH} {j u w c : Nat} (k : Nat) : (ldS σ j u w c).1 172 k = σ.1 172 k := by
  unfold ldS
  rw [sI_obj (by decide), sI_obj (by decide)]
theorem ld_in {σ : MH} {p u w o c j t : Nat} (v1 : Int32) (hR : MRe n p u (w + 1) o σ) (hw : w < 260) (hj : j < 260) (ht : t < 1048576) (hc : c = 11 ∨ (c = 12 ∧ v1 = 1)) (e : σ.1 172 w = nI (1048576 * c + j)) (e2 : σ.1 171 j = nI (1048576 * c + t)) : Md_lands_l0 v1 σ = some (.inl (ldS σ j u w c)) := by
  have hc16 : c < 16 := by omega
  have htop := m_top hR hw hc16 (show j < 1048576 by omega) e
  have b22 : Md_lands_b22 v1 σ = some (.inl (ldS σ j u w c)) := by
    obtain ⟨f1, f2, f3, f4⟩ := ix3 260 hw
    obtain ⟨g1, g2, g3, g4⟩ := ix3 260 hj
    unfold Md_lands_b22 ldS
    rw [hR.2.2.2.1, nI_s, if_pos f2, f3, e, (cw_div hc16 (show j < 1048576 by omega)).2, if_pos g2, g3, e2, (cw_div hc16 ht).1, hR.2.2.1, show (1048576 : Int32) * nI c + nI u = nI (1048576 * c + u) by rw [show (1048576 : Int32) * nI c = nI (1048576 * c) from pk_mul 1048576 c, nI_add], sI_obj (by decide), hR.2.2.2.1, nI_s]
  unfold Md_lands_l0
  rw [htop, Option.bind_some, b22]
  rcases hc with rfl | ⟨rfl, rfl⟩
  · rw [if_pos (show nI 11 = 11 from rfl)]
  · rw [if_neg (by decide), if_neg (show ¬ (1 : Int32) = 0 by decide), Option.bind_some, if_pos (show nI 12 = 12 from rfl)]
theorem ld_out {σ : MH} {p u w o a b : Nat} (v1 : Int32) (hR : MRe n p u (w + 1) o σ) (hw : w < 260) (ha : a < 16) (hb : b < 1048576) (h11 : a ≠ 11) (h12 : v1 = 0 ∨ a ≠ 12) (e : σ.1 172 w = nI (1048576 * a + b)) : Md_lands_l0 v1 σ = some (.inr σ) := by
  have htop := m_top hR hw ha hb e
  unfold Md_lands_l0
  rw [htop, Option.bind_some, if_neg (mt (eqL 11 (by omega) (by decide)).mp h11)]
  by_cases c : v1 = 0
  · rw [if_pos c]
  · rw [if_neg c, Option.bind_some, if_neg (mt (eqL 12 (by omega) (by decide)).mp (h12.resolve_left c))]
/-! what waits of a condition -/
def cj (a : Option (VL × Nat)) : Nat := match a with
  | none => 0
  | some _ => 1
def hJ (h : VL → VL → VL) (a : Option (VL × Nat)) (x : VL) : VL := match a with
  | none => x
  | some (y, _) => h y x
theorem cj_le (a : Option (VL × Nat)) : cj a ≤ 1 := by cases a <;> simp [cj]
def PJm (c : Nat) (σ : MH) (k u0 s : Nat) (a : Option (VL × Nat)) : Prop := match a with
  | none => s = u0
  | some (y, j) => s = j + 1 ∧ σ.1 172 k = nI (1048576 * c + j) ∧ (∃ t, t < 1048576 ∧ σ.1 171 j = nI (1048576 * c + t)) ∧ MB (σ.1 171) u0 j 0 y ∧ VB y
theorem PJm_le {c : Nat} {σ : MH} {k u0 s : Nat} {a : Option (VL × Nat)} (h : PJm c σ k u0 s a) : u0 + cj a ≤ s := by
  cases a with
  | none => exact Nat.le_of_eq (Eq.symm h)
  | some z =>
    have h1 := h.1
    have h2 := h.2.2.2.1.1
    show u0 + 1 ≤ s
    omega
theorem PJm_of {c : Nat} {σ σ' : MH} {k u0 s : Nat} {a : Option (VL × Nat)} (h : PJm c σ k u0 s a) (e1 : a ≠ none → σ'.1 172 k = σ.1 172 k) (e2 : ∀ j, u0 ≤ j → j < s → σ'.1 171 j = σ.1 171 j) : PJm c σ' k u0 s a := by
  cases a with
  | none => exact h
  | some z =>
    obtain ⟨h1, h2, ⟨t, t1, t2⟩, h3, h4⟩ := h
    have := h3.1
    exact ⟨h1, (e1 (fun q => by cases q)).trans h2, ⟨t, t1, (e2 z.2 this (by omega)).trans t2⟩, MB_ext h3 (fun j a b => e2 j a (by omega)), h4⟩
/-- the entry below is a jump's or an opening's, no NOT's -/
def Und (w : Nat) (lo : Nat) (σ : MH) : Prop := ∃ k a b, w = k + 1 ∧ lo ≤ a ∧ a ≤ 13 ∧ b < 1048576 ∧ σ.1 172 k = nI (1048576 * a + b)
theorem Und_of {w u lo : Nat} {σ σ' : MH} (h : Und w lo σ) (hl : Low u w σ σ') : Und w lo σ' := by
  obtain ⟨k, a, b, e, h1, h2, h3, h4⟩ := h
  exact ⟨k, a, b, e, h1, h2, h3, (hl.2 k (by omega)).trans h4⟩
theorem Und_bel {w lo : Nat} {σ : MH} (h : Und w lo σ) (hlo : 10 ≤ lo) : Bel w σ := by
  obtain ⟨k, a, b, e, h1, h2, h3, h4⟩ := h
  exact Or.inr ⟨k, a, b, e, by omega, by omega, h3, h4⟩
/-- and-jumps landed -/
theorem m_lands0 {p u0 u w o : Nat} {b : Option (VL × Nat)} {x : VL} {s : Nat} {σ : MH} (hR : MRe n p u (w + cj b) o σ) (hP : PJm 11 σ w u0 s b) (hX : MB (σ.1 171) s u 0 x) (hU : Und w 12 σ) (hu : u < 260) (hw : w < 259) : ∃ σ', Md_lands 0 σ = some σ' ∧ Fx PM5 σ σ' ∧ MRe n p u w o σ' ∧ MB (σ'.1 171) u0 u 0 (hJ andV b x) ∧ Low u0 w σ σ' := by
  obtain ⟨k, a, b', rfl, h1, h2, h3, h4⟩ := hU
  have l1 := PJm_le hP
  have l2 := hX.1
  have out : ∀ (N : Nat) (τ : MH) (v : Nat), MRe n p v (k + 1) o τ → τ.1 172 k = σ.1 172 k → itr (fun s : MH => Md_lands_l0 0 s) (N + 1) τ = some τ := fun N τ v hR e => itr_end (ld_out 0 hR (by omega) (by omega) h3 (by omega) (Or.inl rfl) (e.trans h4))
  unfold Md_lands Md_lands0
  cases b with
  | none =>
    have hP : s = u0 := hP
    subst hP
    refine ⟨σ, ?_, Fx.rf, hR, hX, Low.rf⟩
    rw [show Md_lands_L0 0 σ = some σ from out 999999 σ u hR rfl]
    rfl
  | some z =>
    obtain ⟨y, j⟩ := z
    obtain ⟨z1, z2, ⟨t, t1, t2⟩, z3, z4⟩ := hP
    have l3 := z3.1
    have e1 := ld_in (v1 := 0) hR (by omega) (show j < 260 by omega) t1 (Or.inl rfl) z2 t2
    have hR' : MRe n p u (k + 1) o (ldS σ j u (k + 1) 11) := ldS_rd hR
    refine ⟨ldS σ j u (k + 1) 11, ?_, ldS_fx, hR', ?_, fun i hi => ?_, fun i _ => ldS_wt i⟩
    · rw [show Md_lands_L0 0 σ = some _ from (itr_one e1).trans (out 999998 _ _ hR' (ldS_wt k))]
      rfl
    · exact MB_and (MB_ext z3 (fun i _ hi => by rw [ldS_cd, if_neg (by omega)])) (by omega) (by rw [ldS_cd, if_pos rfl]) (MB_ext (by rw [← z1]; exact hX) (fun i hi _ => by rw [ldS_cd, if_neg (by omega)])) (by decide)
    · rw [ldS_cd, if_neg (by omega)]
/-- all jumps landed -/
theorem m_lands1 {p u0 u w o : Nat} {e b : Option (VL × Nat)} {x : VL} {s1 s2 : Nat} {σ : MH} (hR : MRe n p u (w + cj e + cj b) o σ) (hE : PJm 12 σ w u0 s1 e) (hP : PJm 11 σ (w + cj e) s1 s2 b) (hX : MB (σ.1 171) s2 u 0 x) (hU : Und w 13 σ) (hu : u < 260) (hw : w < 258) : ∃ σ', Md_lands 1 σ = some σ' ∧ Fx PM5 σ σ' ∧ MRe n p u w o σ' ∧ MB (σ'.1 171) u0 u 0 (hJ orV e (hJ andV b x)) ∧ Low u0 w σ σ' := by
  obtain ⟨k, a, b', rfl, h1, h2, h3, h4⟩ := hU
  have l0 := PJm_le hE
  have l1 := PJm_le hP
  have l2 := hX.1
  have out : ∀ (N : Nat) (τ : MH) (v : Nat), MRe n p v (k + 1) o τ → τ.1 172 k = σ.1 172 k → itr (fun s : MH => Md_lands_l0 1 s) (N + 1) τ = some τ := fun N τ v hR e => itr_end (ld_out 1 hR (by omega) (by omega) h3 (by omega) (Or.inr (by omega)) (e.trans h4))
  -- the or-jump
  have fin : ∀ (N : Nat) (τ : MH), N > 0 → MRe n p u (k + 1 + cj e) o τ → PJm 12 τ (k + 1) u0 s1 e → MB (τ.1 171) s1 u 0 (hJ andV b x) → τ.1 172 k = σ.1 172 k → ∃ σ', itr (fun s : MH => Md_lands_l0 1 s) (N + 1) τ = some σ' ∧ Fx PM5 τ σ' ∧ MRe n p u (k + 1) o σ' ∧ MB (σ'.1 171) u0 u 0 (hJ orV e (hJ andV b x)) ∧ Low u0 (k + 1) τ σ' := by
    intro N τ hN hR hE hX hk
    have l5 := hX.1
    cases e with
    | none =>
      have hE : s1 = u0 := hE
      subst hE
      exact ⟨τ, out N τ u hR hk, Fx.rf, hR, hX, Low.rf⟩
    | some z =>
      obtain ⟨y, j⟩ := z
      obtain ⟨z1, z2, ⟨t, t1, t2⟩, z3, z4⟩ := hE
      have l3 := z3.1
      obtain ⟨M, rfl⟩ : ∃ M, N = M + 1 := ⟨N - 1, by omega⟩
      have e1 := ld_in (v1 := 1) hR (by omega) (show j < 260 by omega) t1 (Or.inr ⟨rfl, rfl⟩) z2 t2
      have hR' : MRe n p u (k + 1) o (ldS τ j u (k + 1) 12) := ldS_rd hR
      refine ⟨ldS τ j u (k + 1) 12, (itr_one e1).trans (out M _ _ hR' ((ldS_wt k).trans hk)), ldS_fx, hR', ?_, fun i hi => ?_, fun i _ => ldS_wt i⟩
      · exact MB_or z4 (MB_ext z3 (fun i _ hi => by rw [ldS_cd, if_neg (by omega)])) (by omega) (by rw [ldS_cd, if_pos rfl]) (MB_ext (by rw [← z1]; exact hX) (fun i hi _ => by rw [ldS_cd, if_neg (by omega)])) (by decide)
      · rw [ldS_cd, if_neg (by omega)]
  have ce := cj_le e
  unfold Md_lands Md_lands0
  cases b with
  | none =>
    have hP : s2 = s1 := hP
    subst hP
    obtain ⟨σ', k1, k2, k3, k4, k5⟩ := fin 999999 σ (by decide) hR hE hX rfl
    refine ⟨σ', ?_, k2, k3, k4, k5⟩
    rw [show Md_lands_L0 1 σ = some σ' from k1]
    rfl
  | some z =>
    obtain ⟨y, j⟩ := z
    obtain ⟨z1, z2, ⟨t, t1, t2⟩, z3, z4⟩ := hP
    have l3 := z3.1
    have e1 := ld_in (v1 := 1) (w := k + 1 + cj e) hR (by omega) (show j < 260 by omega) t1 (Or.inl rfl) z2 t2
    have hR' : MRe n p u (k + 1 + cj e) o (ldS σ j u (k + 1 + cj e) 11) := ldS_rd hR
    obtain ⟨σ', k1, k2, k3, k4, k5⟩ := fin 999998 _ (by decide) hR' (PJm_of hE (fun _ => ldS_wt _) (fun i _ hi => by rw [ldS_cd, if_neg (by omega)])) (MB_and (MB_ext z3 (fun i _ hi => by rw [ldS_cd, if_neg (by omega)])) (by omega) (by rw [ldS_cd, if_pos rfl]) (MB_ext (by rw [← z1]; exact hX) (fun i hi _ => by rw [ldS_cd, if_neg (by omega)])) (by decide)) (ldS_wt k)
    refine ⟨σ', ?_, ldS_fx.tr k2, k3, k4, fun i hi => ?_, fun i hi => ?_⟩
    · rw [show Md_lands_L0 1 σ = some σ' from (itr_one e1).trans k1]
      rfl
    · rw [k5.1 i hi, ldS_cd, if_neg (by omega)]
    · rw [k5.2 i hi, ldS_wt]
/-- a jump said, waiting for its place -/
def jpS (σ : MH) (p u w c : Nat) : MH := sI (nt (sI (sI σ 172 w (nI (1048576 * c + u))) 166 11 (nI (w + 1))) u (nI (1048576 * c + 0))) 166 5 (nI (p + 1))
theorem m_jumps {σ : MH} {p u w o : Nat} (hR : MRe n p u w o σ) (hw : w < 260) (hu : u < 260) (c : Nat) : Md_jumps (nI c) σ = some (jpS σ p u w c) := by
  obtain ⟨f1, f2, f3, f4⟩ := ix3 260 hw
  unfold Md_jumps Md_jumps0 jpS
  rw [hR.2.2.2.1, if_pos f2, f3, hR.2.2.1, show (1048576 : Int32) * nI c + nI u = nI (1048576 * c + u) by rw [show (1048576 : Int32) * nI c = nI (1048576 * c) from pk_mul 1048576 c, nI_add]]
  have e1 : (sI σ 172 w (nI (1048576 * c + u))).1 166 11 + 1 = nI (w + 1) := by rw [sI_obj (by decide), hR.2.2.2.1]; exact nI_1 _
  have hR1 : MRe n p u (w + 1) o (sI (sI σ 172 w (nI (1048576 * c + u))) 166 11 (nI (w + 1))) := pop_rd (wt_rd hR)
  rw [e1, show (0 : Int32) = nI 0 from rfl, m_notes hR1.2.2.1 hu c 0, Option.bind_some, (nt_rd hR1).2.1, show nI p + 1 = nI (p + 1) from nI_1 _]
theorem jpS_rd {σ : MH} {p u w o c : Nat} (hR : MRe n p u w o σ) : MRe n (p + 1) (u + 1) (w + 1) o (jpS σ p u w c) := plc_rd (nt_rd (pop_rd (wt_rd hR)))
theorem jpS_fx {σ : MH} {p u w c : Nat} : Fx PM5 σ (jpS σ p u w c) := (((Fx_sI (Or.inr (Or.inr rfl))).tr (Fx_sI (f66 (by decide) (by decide) (by decide)))).tr nt_fx).tr (Fx_sI (f66 (by decide) (by decide) (by decide)))
theorem jpS_cd {σ : MH} {p u w c : Nat} (k : Nat) : (jpS σ p u w c).1 171 k = if k = u then nI (1048576 * c + 0) else σ.1 171 k := by
  unfold jpS
  rw [sI_obj (by decide), nt_cd, sI_obj (by decide), sI_obj (by decide)]
theorem jpS_wt {σ : MH} {p u w c : Nat} (k : Nat) : (jpS σ p u w c).1 172 k = if k = w then nI (1048576 * c + u) else σ.1 172 k := by
  unfold jpS
  rw [sI_obj (by decide), nt_wt, sI_obj (by decide), sI_at]
  by_cases q : k = w
  · rw [if_pos ⟨rfl, q⟩, if_pos q]
  · rw [if_neg (fun z => q z.2), if_neg q]
theorem b180_and {σ σ1 : MH} {p u w o : Nat} (hB : TXb tx n) (hT : TXM tx n σ) {w' : Nat} {u' : Nat} (hR : MRe n p u' w' o σ) (hp : p < 300) (h : sN tx n p = 38) (hl : Md_lands 0 σ = some σ1) (hT1 : TXM tx n σ1) (hR1 : MRe n p u w o σ1) (hw : w < 260) (hu : u < 260) : Md_readsCondition_b180 σ = some (.inl (jpS σ1 p u w 11)) := by
  unfold Md_readsCondition_b180 Md_readsCondition_b195 Md_readsCondition_b215
  rw [m_hr hB hT hR hp, Option.bind_some, P_ite hB p (c := 124) (by decide), if_neg (by omega), hl, Option.bind_some, m_hr hB hT1 hR1 hp, Option.bind_some, P_ite hB p (c := 38) (by decide), if_pos h, show (11 : Int32) = nI 11 from rfl, m_jumps hR1 hw hu 11, Option.bind_some]
theorem b180_or {σ σ1 : MH} {p u w o : Nat} (hB : TXb tx n) (hT : TXM tx n σ) {w' : Nat} {u' : Nat} (hR : MRe n p u' w' o σ) (hp : p < 300) (h : sN tx n p = 124) (hl : Md_lands 1 σ = some σ1) (hT1 : TXM tx n σ1) (hR1 : MRe n p u w o σ1) (hw : w < 260) (hu : u < 260) : Md_readsCondition_b180 σ = some (.inl (jpS σ1 p u w 12)) := by
  unfold Md_readsCondition_b180 Md_readsCondition_b195 Md_readsCondition_b215
  rw [m_hr hB hT hR hp, Option.bind_some, P_ite hB p (c := 124) (by decide), if_pos h, hl, Option.bind_some, m_hr hB hT1 hR1 hp, Option.bind_some, P_ite hB p (c := 38) (by decide), if_neg (by omega), show (12 : Int32) = nI 12 from rfl, m_jumps hR1 hw hu 12, Option.bind_some]
end MCD
