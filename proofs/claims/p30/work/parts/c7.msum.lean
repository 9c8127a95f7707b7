/-! THE LAW READ, IN THE REFERENCE: factors and sums -/
section MSM
variable {tx : Nat → Nat} {n : Nat}
theorem m_isDig {σ : MH} {p u w o : Nat} (hB : TXb tx n) (hT : TXM tx n σ) (h : MRe n p u w o σ) (hp : p < 300) : Md_isDigit σ = some (bI (dg 48 57 (sN tx n p))) := by
  unfold Md_isDigit Md_isDigit0
  rw [m_hr hB hT h hp, Option.bind_some, Option.bind_some, dg_ite2 hB p (show 48 < 256 by decide) (show 57 < 256 by decide)]
  cases dg 48 57 (sN tx n p) <;> rfl
def PNm (b k : Nat) : Prop := b = 166 ∧ (k = 5 ∨ k = 8)
theorem PNm_5 {σ σ' : MH} (h : Fx PNm σ σ') : Fx PM5 σ σ' := h.mo (fun b k q => by unfold PNm at q; unfold PM5; omega)
theorem m_digits (hB : TXb tx n) {p0 u w o : Nat} : ∀ (k p a N : Nat) (σ : MH), k ≤ 5 → p ≤ n → p0 + (5 - k) = p → k < N → TXM tx n σ → MRe n p u w o σ → σ.1 166 8 = nI a → ∃ z, itr (fun s : MH => Md_readsNumber_l10 (nI p0) s) N σ = some z ∧ match nmS tx n k p a with
    | .inl e => ∃ σ' q, z = .inl σ' ∧ e = flt 2 q ∧ MRe n q u w o σ' ∧ Fx PNm σ σ'
    | .inr (q, b) => ∃ σ', z = .inr (1, σ') ∧ σ'.1 166 8 = nI b ∧ MRe n q u w o σ' ∧ Fx PNm σ σ'
  | 0, p, a, N, σ, hk, hp, h0, hN, hT, hR, h8 => by
    have hn := hB.1
    obtain ⟨M, rfl⟩ : ∃ M, N = M + 1 := ⟨N - 1, by omega⟩
    have e : Md_readsNumber_l10 (nI p0) σ = if dg 48 57 (sN tx n p) = true then some (.inr (.inl σ)) else some (.inr (.inr (1, σ))) := by
      unfold Md_readsNumber_l10
      rw [m_isDig hB hT hR (by omega), Option.bind_some]
      cases dg 48 57 (sN tx n p)
      · rw [bI_f, if_pos rfl, if_neg (by decide)]
      · rw [bI_t, if_neg (show ¬ (1 : Int32) = 0 by decide), hR.2.1, if_pos (by rw [← h0]; exact (nI_add p0 5).symm), if_pos rfl]
    unfold nmS
    by_cases h : dg 48 57 (sN tx n p) = true
    · rw [if_pos h] at e ⊢
      exact ⟨_, itr_end e, σ, p, rfl, rfl, hR, Fx.rf⟩
    · rw [if_neg h] at e ⊢
      exact ⟨_, itr_end e, σ, rfl, h8, hR, Fx.rf⟩
  | k + 1, p, a, N, σ, hk, hp, h0, hN, hT, hR, h8 => by
    have hn := hB.1
    obtain ⟨M, rfl⟩ : ∃ M, N = M + 1 := ⟨N - 1, by omega⟩
    have e : Md_readsNumber_l10 (nI p0) σ = if dg 48 57 (sN tx n p) = true then some (.inl (sI (sI σ 166 8 (10 * nI a + sgX tx n p - 48)) 166 5 (nI (p + 1)))) else some (.inr (.inr (1, σ))) := by
      unfold Md_readsNumber_l10
      rw [m_isDig hB hT hR (by omega), Option.bind_some]
      cases dg 48 57 (sN tx n p)
      · rw [bI_f, if_pos rfl, if_neg (by decide)]
      · rw [bI_t, if_neg (show ¬ (1 : Int32) = 0 by decide), if_pos rfl, hR.2.1, show nI p0 + 5 = nI (p0 + 5) from nI_add p0 5, if_neg (fun z => by
          have := (nI_eq (by omega) (by omega)).mp z
          omega), m_hr hB hT hR (by omega), Option.bind_some, h8, sI_fld (by decide), hR.2.1, show nI p + 1 = nI (p + 1) from nI_1 _]
    unfold nmS
    by_cases h : dg 48 57 (sN tx n p) = true
    · have hy := dg_yes hB (by decide) h
      rw [if_pos h] at e ⊢
      have ev : 10 * nI a + sgX tx n p - 48 = nI (10 * a + (sN tx n p - 48)) := by
        rw [hy.2.1, show (10 : Int32) * nI a = nI (10 * a) from pk_mul 10 a, nI_add, show nI (10 * a + sN tx n p) - 48 = nI (10 * a + sN tx n p - 48) from subL 48 (by omega)]
        congr 1
        omega
      rw [ev] at e
      have F : Fx PNm σ (sI (sI σ 166 8 (nI (10 * a + (sN tx n p - 48)))) 166 5 (nI (p + 1))) := (Fx_sI ⟨rfl, Or.inr rfl⟩).tr (Fx_sI ⟨rfl, Or.inl rfl⟩)
      have hR' : MRe n (p + 1) u w o (sI (sI σ 166 8 (nI (10 * a + (sN tx n p - 48)))) 166 5 (nI (p + 1))) := by
        obtain ⟨h1, h2, h3, h4, h5⟩ := hR
        refine ⟨?_, sI_same, ?_, ?_, ?_⟩
        · rw [sI_fld (by decide), sI_fld (by decide)]; exact h1
        · rw [sI_fld (by decide), sI_fld (by decide)]; exact h3
        · rw [sI_fld (by decide), sI_fld (by decide)]; exact h4
        · rw [sI_fld (by decide), sI_fld (by decide)]; exact h5
      obtain ⟨z, z1, z2⟩ := m_digits hB (p0 := p0) k (p + 1) (10 * a + (sN tx n p - 48)) M _ (by omega) (by omega) (by omega) (by omega) (TXM_5 hT (PNm_5 F)) hR' (by rw [sI_fld (by decide), sI_same])
      refine ⟨z, (itr_one e).trans z1, ?_⟩
      cases hm : nmS tx n k (p + 1) (10 * a + (sN tx n p - 48)) with
      | inl e =>
        rw [hm] at z2
        obtain ⟨σ', q, a1, a2, a3, a4⟩ := z2
        exact ⟨σ', q, a1, a2, a3, F.tr a4⟩
      | inr w =>
        rw [hm] at z2
        obtain ⟨σ', a1, a2, a3, a4⟩ := z2
        exact ⟨σ', a1, a2, a3, F.tr a4⟩
    · rw [if_neg h] at e ⊢
      exact ⟨_, itr_end e, σ, rfl, h8, hR, Fx.rf⟩
/-- what is left of a factor once no [ stands there -/
def gF (z9 : MH ⊕ (Int32 × MH)) : Option (Int32 × MH) := (match z9 with | .inl z9a => (Md_isDigit z9a).bind fun x11 => if x11 = (0 : Int32) then ((Md_here z9a).bind fun x14 => (Md_factOf x14 z9a).bind fun x17 => if x17 = (-1 : Int32) then ((Md_wrongAt (1 : Int32) (z9a.1 166 5) z9a).bind fun (x23, σ24) => some (x23, σ24)) else ((Md_notes (1 : Int32) x17 z9a).bind fun σ21 => some ((1 : Int32), sI σ21 166 5 ((σ21.1 166 5) + (1 : Int32))))) else ((Md_readsNumber z9a).bind fun (x27, σ28) => if x27 = (0 : Int32) then some ((0 : Int32), σ28) else ((Md_notes (0 : Int32) (σ28.1 166 8) σ28).bind fun σ31 => some ((1 : Int32), σ31))) | .inr z9b => some (z9b.1, z9b.2))
def rf (M : Nat) (σ : MH) : Option (Int32 × MH) := bzo ((itr (fun s : MH => Md_readsFactor_l0 s) M σ).bind gF)
theorem rf_eq (σ : MH) : Md_readsFactor σ = rf FU σ := rfl
def pst (b : Int32) (z : MH ⊕ (Int32 × MH)) : Option (Int32 × MH) := match z with
  | .inl z31a => Md_readsSum_b138 b z31a
  | .inr z31b => some (z31b.1, z31b.2)
def Kl (b : Int32) (N : Nat) (σ : MH) : Option (Int32 × MH) := (itr (fun s : MH => Md_readsSum_l14 b s) N σ).bind (pst b)
def Kf (b : Int32) (M N : Nat) (σ : MH) : Option (Int32 × MH) := (rf M σ).bind fun z => if z.1 = 0 then some (0, z.2) else Kl b N z.2
/-- what a reader of the reference has to give -/
def okMM (p u w o hb n : Nat) (r : PRs) (σ : MH) (x : Int32) (σ' : MH) : Prop := Fx PM5 σ σ' ∧ match r with
  | .inl e => x = 0 ∧ σ'.1 166 7 = e
  | .inr (q, v) => x = 1 ∧ ∃ u', MRe n q u' w o σ' ∧ u ≤ u' ∧ u' + p ≤ u + q ∧ MB (σ'.1 171) u u' hb v ∧ Low u w σ σ'
def nmE (z : MH ⊕ (Int32 × MH)) : Option (Int32 × MH) := match z with
  | .inl z9a => (Md_wrongAt 2 (z9a.1 166 5) z9a).bind fun (x11, σ12) => some (x11, σ12)
  | .inr z9b => some (z9b.1, z9b.2)
/-- a factor that is no [ -/
theorem m_plain {σ : MH} {p u w o hb : Nat} (hB : TXb tx n) (hT : TXM tx n σ) (hR : MRe n p u w o σ) (hp : p ≤ n) (hu : u ≤ p) (h91 : ¬ sN tx n p = 91) (hh : hb < 260) {r : PRs} (hr : (if dg 48 57 (sN tx n p) = true then some (toPR (nmS tx n 5 p 0)) else if letN (sN tx n p) < 11 then some (.inr (p + 1, letV (letN (sN tx n p)))) else some (.inl (flt 1 p))) = some r) : ∃ x σ', gF (.inl σ) = some (x, σ') ∧ okMM p u w o hb n r σ x σ' := by
  have hn := hB.1
  unfold gF
  dsimp only
  rw [m_isDig hB hT hR (by omega), Option.bind_some]
  by_cases hd : dg 48 57 (sN tx n p) = true
  · rw [if_pos hd] at hr
    rw [hd, bI_t, if_neg (show ¬ (1 : Int32) = 0 by decide)]
    cases hr
    have F0 : Fx PNm σ (sI σ 166 8 0) := Fx_sI ⟨rfl, Or.inr rfl⟩
    have hR0 : MRe n p u w o (sI σ 166 8 0) := by
      obtain ⟨h1, h2, h3, h4, h5⟩ := hR
      refine ⟨?_, ?_, ?_, ?_, ?_⟩
      · rw [sI_fld (by decide)]; exact h1
      · rw [sI_fld (by decide)]; exact h2
      · rw [sI_fld (by decide)]; exact h3
      · rw [sI_fld (by decide)]; exact h4
      · rw [sI_fld (by decide)]; exact h5
    obtain ⟨z, z1, z2⟩ := m_digits hB (p0 := p) 5 p 0 FU (sI σ 166 8 0) (by decide) hp (by omega) (by decide) (TXM_5 hT (PNm_5 F0)) hR0 sI_same
    have er : Md_readsNumber σ = bzo (nmE z) := by
      unfold Md_readsNumber Md_readsNumber0
      rw [hR.2.1, show Md_readsNumber_L10 (nI p) (sI σ 166 8 0) = some z from z1, Option.bind_some]
      rfl
    rcases nm_first hd with ⟨e, h⟩ | ⟨q, b, h, q1, q2, q3⟩
    · rw [h] at z2 ⊢
      obtain ⟨σ', q, rfl, rfl, a3, a4⟩ := z2
      rw [er]
      unfold nmE
      dsimp only
      rw [show (2 : Int32) = nI 2 from rfl, m_wrong 2 a3]
      exact ⟨0, _, rfl, (PNm_5 (F0.tr a4)).tr (Fx_sI (f66 (by decide) (by decide) (by decide))), rfl, sI_same⟩
    · rw [h] at z2 ⊢
      obtain ⟨σ', rfl, a2, a3, a4⟩ := z2
      rw [er]
      have F1 := F0.tr a4
      refine ⟨1, nt σ' u (nI (1048576 * 0 + b)), ?_, (PNm_5 F1).tr nt_fx, rfl, u + 1, nt_rd a3, by omega, by omega, ?_, fun k hk => ?_, fun k _ => ?_⟩
      · show (Md_notes 0 (σ'.1 166 8) σ').bind (fun σ31 => some ((1 : Int32), σ31)) = _
        rw [a2, show (0 : Int32) = nI 0 from rfl, m_notes a3.2.2.1 (by omega) 0 b]
        rfl
      · exact MB_num (by rw [nt_cd, if_pos rfl, Nat.mul_zero, Nat.zero_add]) (by omega) hh
      · rw [nt_cd, if_neg (by omega), F1 171 k (by unfold PNm; omega)]
      · rw [nt_wt, F1 172 k (by unfold PNm; omega)]
  · rw [if_neg hd] at hr
    rw [Bool.not_eq_true] at hd
    rw [hd, bI_f, if_pos rfl, m_hr hB hT hR (by omega), Option.bind_some]
    have hf : ∀ c, c < 256 → Md_factOf (nI c) σ = some (if letN c < 11 then nI (letN c) else -1) := fun c hc => by
      have : ∀ c, c < 256 → Md_factOf (nI c) (fun _ _ => 0, fun _ _ => 0) = some (if letN c < 11 then nI (letN c) else -1) := by decide +kernel
      exact this c hc
    have hf' : Md_factOf (sgX tx n p) σ = some (if letN (sN tx n p) < 11 then nI (letN (sN tx n p)) else -1) := by
      rcases sg_cases hB p with ⟨a, e, e2, h⟩ | ⟨a, e, e2⟩
      · rw [e, e2]; exact hf _ h
      · rw [e, e2]
        rfl
    rw [hf', Option.bind_some]
    by_cases hl : letN (sN tx n p) < 11
    · rw [if_pos hl] at hr ⊢
      cases hr
      have hlt := letN_lt hl
      rw [if_neg (nI_m1 (show letN (sN tx n p) < 2 ^ 31 by omega)), show (1 : Int32) = nI 1 from rfl, m_notes hR.2.2.1 (by omega) 1 (letN (sN tx n p)), Option.bind_some, (nt_rd hR).2.1, show nI p + nI 1 = nI (p + 1) from nI_add p 1]
      refine ⟨1, _, rfl, nt_fx.tr (Fx_sI (f66 (by decide) (by decide) (by decide))), rfl, u + 1, plc_rd (nt_rd hR), by omega, by omega, ?_, fun k hk => ?_, fun k _ => ?_⟩
      · refine MB_let hl ?_ hh
        rw [sI_obj (by decide), nt_cd, if_pos rfl]
      · rw [sI_obj (by decide), nt_cd, if_neg (by omega)]
      · rw [sI_obj (by decide), nt_wt]
    · rw [if_neg hl] at hr ⊢
      cases hr
      rw [if_pos rfl, show (1 : Int32) = nI 1 from rfl, m_wrong 1 hR]
      exact ⟨0, _, rfl, Fx_sI (f66 (by decide) (by decide) (by decide)), rfl, sI_same⟩
/-- something is opened -/
def opS (σ : MH) (p w o what : Nat) : MH := sI (sI (sI (sI σ 166 9 (nI (o + 1))) 172 w (nI (1048576 * what + 0))) 166 11 (nI (w + 1))) 166 5 (nI (p + 1))
theorem m_opens {σ : MH} {p u w o : Nat} (hR : MRe n p u w o σ) (hw : w < 260) (ho : o ≤ 6) (what : Nat) : Md_opens (nI what) σ = if o = 6 then some (0, sI σ 166 7 (flt 5 p)) else some (1, opS σ p w o what) := by
  obtain ⟨f1, f2, f3, f4⟩ := ix3 260 hw
  unfold Md_opens Md_opens0 opS
  rw [hR.2.2.2.2]
  by_cases h : o = 6
  · rw [if_pos ((eqL 6 (by omega) (by decide)).mpr h), if_pos h, show (5 : Int32) = nI 5 from rfl, m_wrong 5 hR]
    rfl
  · rw [if_neg (mt (eqL 6 (by omega) (by decide)).mp h), if_neg h, show nI o + 1 = nI (o + 1) from nI_1 _]
    have e1 : (sI σ 166 9 (nI (o + 1))).1 166 11 = nI w := by rw [sI_fld (by decide)]; exact hR.2.2.2.1
    rw [e1, if_pos f2, f3, show (1048576 : Int32) * nI what = nI (1048576 * what + 0) from pk_mul 1048576 what]
    have e2 : (sI (sI σ 166 9 (nI (o + 1))) 172 w (nI (1048576 * what + 0))).1 166 11 + 1 = nI (w + 1) := by rw [sI_obj (by decide), e1]; exact nI_1 _
    rw [e2]
    have e3 : (sI (sI (sI σ 166 9 (nI (o + 1))) 172 w (nI (1048576 * what + 0))) 166 11 (nI (w + 1))).1 166 5 + 1 = nI (p + 1) := by rw [sI_fld (by decide), sI_obj (by decide), sI_fld (by decide), hR.2.1]; exact nI_1 _
    rw [e3]
    rfl
theorem opS_rd {σ : MH} {p u w o what : Nat} (hR : MRe n p u w o σ) : MRe n (p + 1) u (w + 1) (o + 1) (opS σ p w o what) := plc_rd (pop_rd (wt_rd (opn_rd hR)))
theorem opS_fx {σ : MH} {p w o what : Nat} : Fx PM5 σ (opS σ p w o what) := (((Fx_sI (f66 (by decide) (by decide) (by decide))).tr (Fx_sI (Or.inr (Or.inr rfl)))).tr (Fx_sI (f66 (by decide) (by decide) (by decide)))).tr (Fx_sI (f66 (by decide) (by decide) (by decide)))
theorem opS_wt {σ : MH} {p w o what : Nat} (k : Nat) : (opS σ p w o what).1 172 k = if k = w then nI (1048576 * what + 0) else σ.1 172 k := by
  unfold opS
  rw [sI_obj (by decide), sI_obj (by decide), sI_at]
  by_cases q : k = w
  · rw [if_pos ⟨rfl, q⟩, if_pos q]
  · rw [if_neg (fun z => q z.2), if_neg q, sI_obj (by decide)]
theorem opS_cd {σ : MH} {p w o what : Nat} (k : Nat) : (opS σ p w o what).1 171 k = σ.1 171 k := by
  unfold opS
  rw [sI_obj (by decide), sI_obj (by decide), sI_obj (by decide), sI_obj (by decide)]
theorem opS_low {σ : MH} {u p w o what : Nat} : Low u w σ (opS σ p w o what) := ⟨fun k _ => opS_cd k, fun k hk => by rw [opS_wt, if_neg (by omega)]⟩
theorem opS_bel {σ : MH} {p w o what : Nat} (h1 : 10 ≤ what) (h2 : what < 16) : Bel (w + 1) (opS σ p w o what) := Or.inr ⟨w, what, 0, rfl, h1, h2, by decide, by rw [opS_wt, if_pos rfl]⟩
/-- an open [ among those that wait -/
theorem m_open1 {σ : MH} {p u w o b0 w' : Nat} (hR : MRe n p u w' o σ) (h1 : b0 ≤ w) (h2 : w < w') (h3 : w' < 260) (e : σ.1 172 w = nI (1048576 * 14 + 0)) : Md_hasOpenSum (nI b0) σ = some 1 := by
  obtain ⟨r, k1, k2⟩ : ∃ r, Md_hasOpenSum_L2 σ (nI b0) = some r ∧ r = 1 := by
    refine itr_h (fun (i : Nat) (z : Int32) => z = nI (b0 + i)) (fun r => r = 1) (N := w - b0) (w - b0) 0 FU (nI b0) (by omega) rfl (fun i z hi hz => ?_) (fun z hz => ?_) (by show w - b0 < 1000000; omega)
    · subst hz
      obtain ⟨f1, f2, f3, f4⟩ := ix3 260 (show b0 + i < 260 by omega)
      have hb : Md_hasOpenSum_l2 (nI (b0 + i)) σ = if σ.1 172 (b0 + i) / 1048576 = 14 then some (.inr 1) else some (.inl (nI (b0 + (i + 1)))) := by
        unfold Md_hasOpenSum_l2
        rw [hR.2.2.2.1, if_neg (by rw [nI_leI (by omega) (by omega)]; omega), if_pos f2, f3, show nI (b0 + i) + 1 = nI (b0 + (i + 1)) from nI_1 _]
      rw [hb]
      by_cases q : σ.1 172 (b0 + i) / 1048576 = 14
      · rw [if_pos q]; exact Or.inr ⟨1, rfl, rfl⟩
      · rw [if_neg q]; exact Or.inl ⟨_, rfl, rfl⟩
    · subst hz
      rw [show b0 + (w - b0) = w by omega]
      obtain ⟨f1, f2, f3, f4⟩ := ix3 260 (show w < 260 by omega)
      refine ⟨1, ?_, rfl⟩
      unfold Md_hasOpenSum_l2
      rw [hR.2.2.2.1, if_neg (by rw [nI_leI (by omega) (by omega)]; omega), if_pos f2, f3, e, (cw_div (by decide) (by decide)).1, if_pos (by decide)]
  unfold Md_hasOpenSum Md_hasOpenSum0
  rw [k1, k2]
  rfl
theorem m_open0 {σ : MH} {p u w o w' : Nat} (hR : MRe n p u w' o σ) (h2 : w ≤ w') (h3 : w' < 260) (e : ∀ k, w ≤ k → k < w' → ∃ a, a < 14 ∧ σ.1 172 k = nI (1048576 * a + 0)) : Md_hasOpenSum (nI w) σ = some 0 := by
  obtain ⟨r, k1, k2⟩ : ∃ r, Md_hasOpenSum_L2 σ (nI w) = some r ∧ r = 0 := by
    refine itr_h (fun (i : Nat) (z : Int32) => z = nI (w + i)) (fun r => r = 0) (N := w' - w) (w' - w) 0 FU (nI w) (by omega) rfl (fun i z hi hz => ?_) (fun z hz => ?_) (by show w' - w < 1000000; omega)
    · subst hz
      obtain ⟨f1, f2, f3, f4⟩ := ix3 260 (show w + i < 260 by omega)
      obtain ⟨a, a1, a2⟩ := e (w + i) (by omega) (by omega)
      refine Or.inl ⟨nI (w + (i + 1)), ?_, rfl⟩
      unfold Md_hasOpenSum_l2
      rw [hR.2.2.2.1, if_neg (by rw [nI_leI (by omega) (by omega)]; omega), if_pos f2, f3, a2, (cw_div (by omega) (by decide)).1, if_neg (mt (eqL 14 (by omega) (by decide)).mp (by omega)), show nI (w + i) + 1 = nI (w + (i + 1)) from nI_1 _]
    · subst hz
      rw [show w + (w' - w) = w' by omega]
      refine ⟨0, ?_, rfl⟩
      unfold Md_hasOpenSum_l2
      rw [hR.2.2.2.1, if_pos (Int32.le_refl _)]
  unfold Md_hasOpenSum Md_hasOpenSum0
  rw [k1, k2]
  rfl
theorem m_sumSign (hB : TXb tx n) (σ : MH) (p : Nat) : Md_sumSign (sgX tx n p) σ = some (if (isMul (sN tx n p) || isAdd (sN tx n p)) = true then nI (mop (sN tx n p)) else -1) := by
  have h : ∀ c, c < 256 → Md_sumSign (nI c) (fun _ _ => 0, fun _ _ => 0) = some (if (isMul c || isAdd c) = true then nI (mop c) else -1) := by decide +kernel
  rcases sg_cases hB p with ⟨a, e, e2, h1⟩ | ⟨a, e, e2⟩
  · rw [e, e2]; exact h _ h1
  · rw [e, e2]; rfl
/-- behind a sum: what follows is no ] of it -/
theorem l14_out {σ : MH} {p u w o b0 : Nat} (hB : TXb tx n) (hT : TXM tx n σ) (hR : MRe n p u w o σ) (hp : p < 300) (h1 : isMul (sN tx n p) = false) (h2 : isAdd (sN tx n p) = false) (h3 : sN tx n p ≠ 93 ∨ Md_hasOpenSum (nI b0) σ = some 0) : Md_readsSum_l14 (nI b0) σ = some (.inr (.inl σ)) := by
  unfold Md_readsSum_l14
  rw [m_hr hB hT hR hp, Option.bind_some, m_sumSign hB, Option.bind_some, h1, h2, if_neg (show ¬ (false || false) = true by decide), if_pos rfl, Option.bind_some, P_ite hB p (c := 93) (by decide)]
  by_cases q : sN tx n p = 93
  · rw [if_pos q, h3.resolve_left (fun z => z q), Option.bind_some, if_pos rfl]
  · rw [if_neg q]
end MSM
