/-! THE LAW READ, IN THE REFERENCE: sums within sums -/
section MS2
variable {tx : Nat → Nat} {n : Nat}
theorem Kf_step (b : Int32) (N : Nat) (σp : MH) : (contI (fun s : MH => Md_readsSum_l14 b s) N ((Md_readsFactor σp).bind fun z => if z.1 = 0 then some (.inr (.inr (0, z.2))) else some (.inl z.2))).bind (pst b) = Kf b FU N σp := by
  unfold Kf
  rw [← rf_eq]
  cases Md_readsFactor σp with
  | none => rfl
  | some z =>
    rw [Option.bind_some, Option.bind_some]
    by_cases c : z.1 = 0
    · rw [if_pos c, if_pos c]; rfl
    · rw [if_neg c, if_neg c]; rfl
/-- an operator taken: it waits, the place goes on -/
def psh (σ : MH) (w p op : Nat) : MH := sI (sI (sI σ 172 w (nI (1048576 * mop op + 0))) 166 11 (nI (w + 1))) 166 5 (nI (p + 1))
theorem psh_rd {σ : MH} {p u w o op : Nat} (hR : MRe n p u w o σ) : MRe n (p + 1) u (w + 1) o (psh σ w p op) := plc_rd (pop_rd (wt_rd hR))
theorem psh_fx {σ : MH} {p w op : Nat} : Fx PM5 σ (psh σ w p op) := ((Fx_sI (Or.inr (Or.inr rfl))).tr (Fx_sI (f66 (by decide) (by decide) (by decide)))).tr (Fx_sI (f66 (by decide) (by decide) (by decide)))
theorem psh_wt {σ : MH} {p w op : Nat} (k : Nat) : (psh σ w p op).1 172 k = if k = w then nI (1048576 * mop op + 0) else σ.1 172 k := by
  unfold psh
  rw [sI_obj (by decide), sI_obj (by decide), sI_at]
  by_cases q : k = w
  · rw [if_pos ⟨rfl, q⟩, if_pos q]
  · rw [if_neg (fun z => q z.2), if_neg q]
theorem psh_cd {σ : MH} {p w op : Nat} (k : Nat) : (psh σ w p op).1 171 k = σ.1 171 k := by
  unfold psh
  rw [sI_obj (by decide), sI_obj (by decide), sI_obj (by decide)]
theorem m_b38 {σ σ1 : MH} {p u w o op : Nat} (b s0 : Int32) (hc : Md_closesSums s0 σ = some σ1) (hR : MRe n p u w o σ1) (hw : w < 260) : Md_readsSum_b38 b (nI (mop op)) s0 σ = (Md_readsFactor (psh σ1 w p op)).bind fun z => if z.1 = 0 then some (.inr (.inr (0, z.2))) else some (.inl z.2) := by
  obtain ⟨f1, f2, f3, f4⟩ := ix3 260 hw
  unfold Md_readsSum_b38 Md_readsSum_b163 psh
  rw [hc, Option.bind_some, hR.2.2.2.1, if_pos f2, f3, show (1048576 : Int32) * nI (mop op) = nI (1048576 * mop op + 0) from pk_mul 1048576 _]
  have e2 : (sI σ1 172 w (nI (1048576 * mop op + 0))).1 166 11 + 1 = nI (w + 1) := by rw [sI_obj (by decide), hR.2.2.2.1]; exact nI_1 _
  rw [e2]
  have e3 : (sI (sI σ1 172 w (nI (1048576 * mop op + 0))) 166 11 (nI (w + 1))).1 166 5 + 1 = nI (p + 1) := by rw [sI_fld (by decide), sI_obj (by decide), hR.2.1]; exact nI_1 _
  rw [e3]
def restS (tx : Nat → Nat) (n : Nat) (fac : Nat → Option PRs) (g g' : Nat) (a : Option (Nat × VL)) (y : VL) (q : Nat) : Option PRs := match pLst tx n isMul opV fac g y q with
  | none => none
  | some (.inl e) => some (.inl e)
  | some (.inr (q', z)) => pLst tx n isAdd opV (pPrd tx n fac) g' (addA a z) q'
theorem pLst_t {P : Nat → Bool} {H : Nat → VL → VL → VL} {one : Nat → Option PRs} {g q : Nat} {a : VL} (h : P (sN tx n q) = true) : pLst tx n P H one (g + 1) a q = (match one (q + 1) with
    | none => none
    | some (.inl e) => some (.inl e)
    | some (.inr (q', w)) => pLst tx n P H one g (H (sN tx n q) a w) q') := by
  show (if P (sN tx n q) = true then _ else _) = _
  rw [if_pos h]
  cases one (q + 1) with
  | none => rfl
  | some r => cases r with
    | inl e => rfl
    | inr z => rfl
theorem pLst_f {P : Nat → Bool} {H : Nat → VL → VL → VL} {one : Nat → Option PRs} {g q : Nat} {a : VL} (h : P (sN tx n q) = false) : pLst tx n P H one (g + 1) a q = some (.inr (q, a)) := by
  show (if P (sN tx n q) = true then _ else _) = _
  rw [if_neg (by rw [h]; decide)]
theorem rest_mul {fac : Nat → Option PRs} {g g' q : Nat} {a : Option (Nat × VL)} {y : VL} (h : isMul (sN tx n q) = true) : restS tx n fac (g + 1) g' a y q = (match fac (q + 1) with
    | none => none
    | some (.inl e) => some (.inl e)
    | some (.inr (q', w)) => restS tx n fac g g' a (opV (sN tx n q) y w) q') := by
  unfold restS
  rw [pLst_t h]
  cases fac (q + 1) with
  | none => rfl
  | some r => cases r with
    | inl e => rfl
    | inr z => rfl
theorem rest_add {fac : Nat → Option PRs} {g g' q : Nat} {a : Option (Nat × VL)} {y : VL} (h1 : isMul (sN tx n q) = false) (h : isAdd (sN tx n q) = true) : restS tx n fac (g + 1) (g' + 1) a y q = (match fac (q + 1) with
    | none => none
    | some (.inl e) => some (.inl e)
    | some (.inr (q', w)) => restS tx n fac 300 g' (some (sN tx n q, addA a y)) w q') := by
  unfold restS
  rw [pLst_f h1]
  dsimp only
  rw [pLst_t h]
  unfold pPrd pAll
  cases fac (q + 1) with
  | none => rfl
  | some r => cases r with
    | inl e => rfl
    | inr z =>
      dsimp only
      cases pLst tx n isMul opV fac 300 z.2 z.1 with
      | none => rfl
      | some r3 => cases r3 with
        | inl e => rfl
        | inr z3 => rfl
theorem rest_end {fac : Nat → Option PRs} {g g' q : Nat} {a : Option (Nat × VL)} {y : VL} (h1 : isMul (sN tx n q) = false) (h : isAdd (sN tx n q) = false) : restS tx n fac (g + 1) (g' + 1) a y q = some (.inr (q, addA a y)) := by
  unfold restS
  rw [pLst_f h1]
  dsimp only
  rw [pLst_f h]
theorem rest_00 {fac : Nat → Option PRs} {g q : Nat} {a : Option (Nat × VL)} {y : VL} (h1 : isMul (sN tx n q) = false) : restS tx n fac (g + 1) 0 a y q = none := by
  unfold restS
  rw [pLst_f h1]
  rfl
/-- what a sum's reading comes to, from a state in it -/
def SE (n b0 p0 u0 w o hb : Nat) (tx : Nat → Nat) (K : Option (Int32 × MH)) (σ : MH) (r : PRs) : Prop := match r with
  | .inl e => ∃ σ', K = some (0, σ') ∧ Fx PM5 σ σ' ∧ σ'.1 166 7 = e
  | .inr (q, v) => ∃ σ' N' u' a m x, K = Kl (nI b0) N' σ' ∧ n < N' + q ∧ Fx PM5 σ σ' ∧ SH n q u0 u' w o hb a m x σ' ∧ addA a (addA m x) = v ∧ u' + ct a + ct m + p0 ≤ u0 + q ∧ w + ct a + ct m ≤ q ∧ Low u0 w σ σ' ∧ isMul (sN tx n q) = false ∧ isAdd (sN tx n q) = false
/-- what a factor's reading comes to -/
def FE (n b0 p u w o hb : Nat) (K : Option (Int32 × MH)) (σ : MH) (r : PRs) : Prop := match r with
  | .inl e => ∃ σ', K = some (0, σ') ∧ Fx PM5 σ σ' ∧ σ'.1 166 7 = e
  | .inr (q, v) => ∃ σ' N' u', K = Kl (nI b0) N' σ' ∧ n < N' + q ∧ Fx PM5 σ σ' ∧ MRe n q u' w o σ' ∧ u' + p ≤ u + q ∧ u ≤ u' ∧ MB (σ'.1 171) u u' hb v ∧ Low u w σ σ'
def FC (tx : Nat → Nat) (n o : Nat) (fac : Nat → Option PRs) : Prop := ∀ (p u w M N b0 : Nat) (σ : MH), TXM tx n σ → MRe n p u w o σ → p ≤ n → u ≤ p → w ≤ p → b0 ≤ w → n < M + p → n < N + p → ∀ r, fac p = some r → FE n b0 p u w o (2 * o + 3) (Kf (nI b0) M N σ) σ r
def SC (tx : Nat → Nat) (n o : Nat) (sm : Nat → Option PRs) : Prop := ∀ (p u w M N b0 : Nat) (σ : MH), TXM tx n σ → MRe n p u w o σ → p ≤ n → u ≤ p → w ≤ p → b0 ≤ w → n < M + p → n < N + p → Bel w σ → ∀ r, sm p = some r → SE n b0 p u w o (2 * o + 1) tx (Kf (nI b0) M N σ) σ r
theorem SE_of {b0 p0 u0 w o hb : Nat} {K : Option (Int32 × MH)} {σ σ1 : MH} {r : PRs} (h : SE n b0 p0 u0 w o hb tx K σ1 r) (hf : Fx PM5 σ σ1) (hl : Low u0 w σ σ1) : SE n b0 p0 u0 w o hb tx K σ r := by
  cases r with
  | inl e =>
    obtain ⟨σ', h1, h2, h3⟩ := h
    exact ⟨σ', h1, hf.tr h2, h3⟩
  | inr z =>
    obtain ⟨q, v⟩ := z
    obtain ⟨σ', N', u', a, m, x, h1, h2, h3, h4, h5, h6, h7, h8, h9, h10⟩ := h
    exact ⟨σ', N', u', a, m, x, h1, h2, hf.tr h3, h4, h5, h6, h7, Low.tr hl h8 (Nat.le_refl _) (Nat.le_refl _), h9, h10⟩
theorem ct_le (a : Option (Nat × VL)) : ct a ≤ 1 := by cases a <;> simp [ct]
theorem m_rest (hB : TXb tx n) {o : Nat} (ho : o ≤ 6) {fac : Nat → Option PRs} (hTf : Tt tx n VE fac) (HF : FC tx n o fac) (b0 p0 u0 w : Nat) (hb0 : b0 ≤ w) : ∀ (d q u g g' N : Nat) (a m : Option (Nat × VL)) (x : VL) (σ : MH) (r : PRs), n - q ≤ d → restS tx n fac g g' a (addA m x) q = some r → TXM tx n σ → SH n q u0 u w o (2 * o + 1) a m x σ → q ≤ n → u + ct a + ct m + p0 ≤ u0 + q → w + ct a + ct m ≤ q → u0 ≤ p0 → n < N + q → SE n b0 p0 u0 w o (2 * o + 1) tx (Kl (nI b0) N σ) σ r := by
  have hn := hB.1
  intro d
  induction d with
  | zero =>
    intro q u g g' N a m x σ r hd hr hT hS hq hgr hw hu0 hN
    have hqn : q = n := by omega
    have m1 : isMul (sN tx n q) = false := by
      cases h : isMul (sN tx n q) with
      | false => rfl
      | true => have := P_lt (P := isMul) (by decide) h; omega
    have m2 : isAdd (sN tx n q) = false := by
      cases h : isAdd (sN tx n q) with
      | false => rfl
      | true => have := P_lt (P := isAdd) (by decide) h; omega
    cases g with
    | zero => cases hr
    | succ g =>
      cases g' with
      | zero => rw [rest_00 m1] at hr; cases hr
      | succ g' =>
        rw [rest_end m1 m2] at hr
        cases hr
        exact ⟨σ, N, u, a, m, x, rfl, hN, Fx.rf, hS, rfl, hgr, hw, Low.rf, m1, m2⟩
  | succ d ih =>
    intro q u g g' N a m x σ r hd hr hT hS hq hgr hw hu0 hN
    have ca := ct_le a
    have cm := ct_le m
    cases g with
    | zero => cases hr
    | succ g =>
      have hR := hS.choose_spec.choose_spec.1
      by_cases m1 : isMul (sN tx n q) = true
      · have hl := P_lt (P := isMul) (by decide) m1
        rw [rest_mul m1] at hr
        obtain ⟨M, rfl⟩ : ∃ M, N = M + 1 := ⟨N - 1, by omega⟩
        obtain ⟨σ1, u1, u', c1, c2, c3, c4, c5, c6, c7, c8, c9⟩ := m_close0 hS (by omega) (by omega) (by omega)
        have ek : Kl (nI b0) (M + 1) σ = Kf (nI b0) FU M (psh σ1 (w + ct a) q (sN tx n q)) := by
          rw [← Kf_step]
          show (contI (fun s : MH => Md_readsSum_l14 (nI b0) s) M (Md_readsSum_l14 (nI b0) σ)).bind (pst (nI b0)) = _
          congr 2
          unfold Md_readsSum_l14
          rw [m_hr hB hT hR (by omega), Option.bind_some, m_sumSign hB, Option.bind_some, m1, Bool.true_or, if_pos rfl, if_neg (nI_m1 (show mop (sN tx n q) < 2 ^ 31 by have := isMul_mop m1; omega)), if_pos ((leR 4 (by have := isMul_mop m1; omega) (by decide)).mpr (isMul_mop m1).1)]
          exact m_b38 (nI b0) 0 c1 c3 (by omega)
        rw [ek]
        have hT1 := TXM_5 hT (c2.tr (psh_fx (p := q) (w := w + ct a) (op := sN tx n q)))
        cases hm : fac (q + 1) with
        | none => rw [hm] at hr; cases hr
        | some r1 =>
          rw [hm] at hr
          have hfe := HF (q + 1) u' (w + ct a + 1) FU M b0 _ hT1 (psh_rd c3) (by omega) (by omega) (by omega) (by omega) (by show n < 1000000 + (q + 1); omega) (by omega) r1 hm
          cases r1 with
          | inl e =>
            cases hr
            obtain ⟨σ2, e1, e2, e3⟩ := hfe
            exact ⟨σ2, e1, (c2.tr psh_fx).tr e2, e3⟩
          | inr z =>
            obtain ⟨q1, v⟩ := z
            obtain ⟨t1, t2, t3⟩ := Tt_q hTf hm q1 v rfl
            obtain ⟨σ2, N2, u2, e1, e2, e3, e4, e5, e6, e7, e8⟩ := hfe
            rw [e1]
            have hS2 : SH n q1 u0 u2 w o (2 * o + 1) a (some (sN tx n q, addA m x)) v σ2 := by
              refine ⟨u1, u', e4, Pend_of c6 (fun h => ?_) (fun j _ hj => ?_), ⟨m1, ?_, MB_ext c7 (fun j _ hj => ?_)⟩, e7, ?_⟩
              · rw [e8.2 w (by omega), psh_wt, if_neg (by
                  cases a with
                  | none => exact absurd rfl h
                  | some z => show ¬ w = w + 1; omega)]
              · have := c7.1
                rw [e8.1 j (by omega), psh_cd]
              · rw [e8.2 _ (by omega), psh_wt, if_pos rfl]
              · rw [e8.1 j hj, psh_cd]
              · refine Bel_of c9 (u := 0) ⟨fun k hk => by omega, fun k hk => ?_⟩
                rw [e8.2 k (by omega), psh_wt, if_neg (by omega)]
            have hl0 : Low u0 w σ σ2 := by
              have h7 := c7.1
              have h6 := Pend_le c6
              refine ⟨fun k hk => ?_, fun k hk => ?_⟩
              · rw [e8.1 k (by omega), psh_cd, c8.1 k hk]
              · rw [e8.2 k (by omega), psh_wt, if_neg (by omega), c8.2 k hk]
            refine SE_of (ih q1 u2 g g' N2 a (some (sN tx n q, addA m x)) v σ2 r (by omega) hr (TXM_5 hT1 e3) hS2 t2 ?_ ?_ hu0 e2) ((c2.tr psh_fx).tr e3) hl0
            · show u2 + ct a + 1 + p0 ≤ u0 + q1
              omega
            · show w + ct a + 1 ≤ q1
              omega
      · have m1' : isMul (sN tx n q) = false := by
          cases h : isMul (sN tx n q) with
          | false => rfl
          | true => exact absurd h m1
        cases g' with
        | zero => rw [rest_00 m1'] at hr; cases hr
        | succ g' =>
          by_cases m2 : isAdd (sN tx n q) = true
          · have hl := P_lt (P := isAdd) (by decide) m2
            rw [rest_add m1' m2] at hr
            obtain ⟨M, rfl⟩ : ∃ M, N = M + 1 := ⟨N - 1, by omega⟩
            obtain ⟨σ1, u', c1, c2, c3, c4, c5, c6, c7, c8⟩ := m_close1 hS (by omega) (by omega) (by omega)
            have ek : Kl (nI b0) (M + 1) σ = Kf (nI b0) FU M (psh σ1 w q (sN tx n q)) := by
              rw [← Kf_step]
              show (contI (fun s : MH => Md_readsSum_l14 (nI b0) s) M (Md_readsSum_l14 (nI b0) σ)).bind (pst (nI b0)) = _
              congr 2
              unfold Md_readsSum_l14
              rw [m_hr hB hT hR (by omega), Option.bind_some, m_sumSign hB, Option.bind_some, m2, Bool.or_true, if_pos rfl, if_neg (nI_m1 (show mop (sN tx n q) < 2 ^ 31 by have := isAdd_mop m2; omega)), if_neg (mt (leR 4 (by have := isAdd_mop m2; omega) (by decide)).mp (by have := isAdd_mop m2; omega))]
              exact m_b38 (nI b0) 1 c1 c3 (by omega)
            rw [ek]
            have hT1 := TXM_5 hT (c2.tr (psh_fx (p := q) (w := w) (op := sN tx n q)))
            cases hm : fac (q + 1) with
            | none => rw [hm] at hr; cases hr
            | some r1 =>
              rw [hm] at hr
              have hfe := HF (q + 1) u' (w + 1) FU M b0 _ hT1 (psh_rd c3) (by omega) (by omega) (by omega) (by omega) (by show n < 1000000 + (q + 1); omega) (by omega) r1 hm
              cases r1 with
              | inl e =>
                cases hr
                obtain ⟨σ2, e1, e2, e3⟩ := hfe
                exact ⟨σ2, e1, (c2.tr psh_fx).tr e2, e3⟩
              | inr z =>
                obtain ⟨q1, v⟩ := z
                obtain ⟨t1, t2, t3⟩ := Tt_q hTf hm q1 v rfl
                obtain ⟨σ2, N2, u2, e1, e2, e3, e4, e5, e6, e7, e8⟩ := hfe
                rw [e1]
                have hr' : restS tx n fac 300 g' (some (sN tx n q, addA a (addA m x))) (addA none v) q1 = some r := hr
                have h6 := c6.1
                have hS2 : SH n q1 u0 u2 w o (2 * o + 1) (some (sN tx n q, addA a (addA m x))) none v σ2 := by
                  refine ⟨u', u', e4, ⟨m2, ?_, MB_ext c6 (fun j _ hj => ?_)⟩, rfl, MB_mono e7 (by omega), ?_⟩
                  · rw [e8.2 _ (by omega), psh_wt, if_pos rfl]
                  · rw [e8.1 j hj, psh_cd]
                  · refine Bel_of c8 (u := 0) ⟨fun k hk => by omega, fun k hk => ?_⟩
                    rw [e8.2 k (by omega), psh_wt, if_neg (by omega)]
                have hl0 : Low u0 w σ σ2 := by
                  refine ⟨fun k hk => ?_, fun k hk => ?_⟩
                  · rw [e8.1 k (by omega), psh_cd, c7.1 k hk]
                  · rw [e8.2 k (by omega), psh_wt, if_neg (by omega), c7.2 k hk]
                refine SE_of (ih q1 u2 300 g' N2 (some (sN tx n q, addA a (addA m x))) none v σ2 r (by omega) hr' (TXM_5 hT1 e3) hS2 t2 ?_ ?_ hu0 e2) ((c2.tr psh_fx).tr e3) hl0
                · show u2 + 1 + 0 + p0 ≤ u0 + q1
                  omega
                · show w + 1 + 0 ≤ q1
                  omega
          · have m2' : isAdd (sN tx n q) = false := by
              cases h : isAdd (sN tx n q) with
              | false => rfl
              | true => exact absurd h m2
            rw [rest_end m1' m2'] at hr
            cases hr
            exact ⟨σ, N, u, a, m, x, rfl, hN, Fx.rf, hS, rfl, hgr, hw, Low.rf, m1', m2'⟩
theorem SC_of (hB : TXb tx n) {o : Nat} (ho : o ≤ 6) {fac : Nat → Option PRs} (hTf : Tt tx n VE fac) (HF : FC tx n o fac) : SC tx n o (pSm tx n fac) := by
  intro p u w M N b0 σ hT hR hp hu hw hb0 hM hN hbel r hr
  unfold pSm pAll pPrd pAll at hr
  cases hm : fac p with
  | none => rw [hm] at hr; cases hr
  | some r1 =>
    rw [hm] at hr
    have hfe := HF p u w M N b0 σ hT hR hp hu hw hb0 hM hN r1 hm
    cases r1 with
    | inl e =>
      cases hr
      exact hfe
    | inr z =>
      obtain ⟨q1, v⟩ := z
      obtain ⟨t1, t2, t3⟩ := Tt_q hTf hm q1 v rfl
      obtain ⟨σ2, N2, u2, e1, e2, e3, e4, e5, e6, e7, e8⟩ := hfe
      rw [e1]
      have hr' : restS tx n fac 300 300 none (addA none v) q1 = some r := by
        unfold restS
        dsimp only at hr
        show (match pLst tx n isMul opV fac 300 v q1 with
          | none => none
          | some (.inl e) => some (.inl e)
          | some (.inr (q', z)) => pLst tx n isAdd opV (pPrd tx n fac) 300 z q') = some r
        cases hx : pLst tx n isMul opV fac 300 v q1 with
        | none => rw [hx] at hr; exact hr
        | some r3 =>
          rw [hx] at hr
          cases r3 with
          | inl e => exact hr
          | inr z3 => exact hr
      refine SE_of (m_rest hB ho hTf HF b0 p u w hb0 n q1 u2 300 300 N2 none none v σ2 r (by omega) hr' (TXM_5 hT e3) ⟨u, u, e4, rfl, rfl, e7, Bel_of hbel e8⟩ t2 ?_ ?_ hu e2) e3 e8
      · show u2 + 0 + 0 + p ≤ u + q1
        omega
      · show w + 0 + 0 ≤ q1
        omega
theorem rf_1 {σ : MH} (hB : TXb tx n) (hT : TXM tx n σ) {p u w o : Nat} (hR : MRe n p u w o σ) (hp : p ≤ n) (h : ¬ sN tx n p = 91) (M : Nat) : rf (M + 1) σ = bzo (gF (.inl σ)) := by
  have hn := hB.1
  unfold rf
  rw [itr_end (r := .inl σ) (by
    unfold Md_readsFactor_l0
    rw [m_hr hB hT hR (by omega), Option.bind_some, P_ite hB p (c := 91) (by decide), if_neg h]), Option.bind_some]
theorem rf_2 {σ : MH} (hB : TXb tx n) (hT : TXM tx n σ) {p u w o : Nat} (hR : MRe n p u w o σ) (hp : p ≤ n) (hw : w < 260) (ho : o ≤ 6) (h : sN tx n p = 91) (M : Nat) : rf (M + 1) σ = if o = 6 then some (0, sI σ 166 7 (flt 5 p)) else rf M (opS σ p w o 14) := by
  have hn := hB.1
  have e : Md_readsFactor_l0 σ = if o = 6 then some (.inr (.inr (0, sI σ 166 7 (flt 5 p)))) else some (.inl (opS σ p w o 14)) := by
    unfold Md_readsFactor_l0
    rw [m_hr hB hT hR (by omega), Option.bind_some, P_ite hB p (c := 91) (by decide), if_pos h, show (14 : Int32) = nI 14 from rfl, m_opens hR hw ho 14]
    by_cases c : o = 6
    · rw [if_pos c, if_pos c]; rfl
    · rw [if_neg c, if_neg c]; rfl
  unfold rf
  by_cases c : o = 6
  · rw [if_pos c] at e ⊢
    rw [itr_end e]
    rfl
  · rw [if_neg c] at e ⊢
    rw [itr_one e]
theorem FC_of (hB : TXb tx n) {o : Nat} (ho : o ≤ 6) {sum : Nat → Option PRs} (hTs : o < 6 → Tt tx n VE sum) (HS : o < 6 → SC tx n (o + 1) sum) : FC tx n o (pFac tx n sum o) := by
  intro p u w M N b0 σ hT hR hp hu hw hb0 hM hN r hr
  have hn := hB.1
  unfold pFac at hr
  obtain ⟨M, rfl⟩ : ∃ K, M = K + 1 := ⟨M - 1, by
    rcases Nat.eq_zero_or_pos M with h | h
    · exfalso
      subst h
      omega
    · omega⟩
  by_cases h91 : sN tx n p = 91
  · have hl := sN_lt h91 (by decide)
    rw [if_pos h91] at hr
    unfold Kf
    rw [rf_2 hB hT hR hp (by omega) ho h91]
    by_cases h6 : o < 6
    · rw [if_pos h6] at hr
      rw [if_neg (by omega)]
      have hT1 := TXM_5 hT (opS_fx (p := p) (w := w) (o := o) (what := 14))
      cases hm : sum (p + 1) with
      | none => rw [hm] at hr; cases hr
      | some r1 =>
        rw [hm] at hr
        have hse := HS h6 (p + 1) u (w + 1) M N b0 _ hT1 (opS_rd hR) (by omega) (by omega) (by omega) (by omega) (by omega) (by omega) (opS_bel (by decide) (by decide)) r1 hm
        unfold Kf at hse
        cases r1 with
        | inl e =>
          cases hr
          obtain ⟨σ', h1, h2, h3⟩ := hse
          exact ⟨σ', h1, opS_fx.tr h2, h3⟩
        | inr z =>
          obtain ⟨q, v⟩ := z
          obtain ⟨t1, t2, t3⟩ := Tt_q (hTs h6) hm q v rfl
          obtain ⟨σ', N', u', a, m, x, h1, h2, h3, h4, rfl, h6', h7, h8, h9, h10⟩ := hse
          have hr' : (if sN tx n q = 93 then some (.inr (q + 1, addA a (addA m x))) else some (.inl (flt 1 q))) = some r := hr
          have ca := ct_le a
          have cm := ct_le m
          have hR' := h4.choose_spec.choose_spec.1
          have hT' := TXM_5 hT1 h3
          have e14 : σ'.1 172 w = nI (1048576 * 14 + 0) := by rw [h8.2 w (by omega), opS_wt, if_pos rfl]
          have hop : Md_hasOpenSum (nI b0) σ' = some 1 := m_open1 hR' hb0 (by omega) (by omega) e14
          obtain ⟨K, rfl⟩ : ∃ K, N' = K + 1 := ⟨N' - 1, by omega⟩
          show FE n b0 p u w o (2 * o + 3) ((rf M (opS σ p w o 14)).bind fun z => if z.1 = 0 then some (0, z.2) else Kl (nI b0) N z.2) σ r
          rw [h1]
          by_cases h93 : sN tx n q = 93
          · have hlq := sN_lt h93 (by decide)
            rw [if_pos h93] at hr'
            cases hr'
            obtain ⟨σ1, u1, c1, c2, c3, c4, c5, c6, c7, c8⟩ := m_close1 h4 (by omega) (by omega) (by omega)
            have e : Md_readsSum_l14 (nI b0) σ' = some (.inl (sI (sI (sI σ1 166 11 (nI w)) 166 9 (nI o)) 166 5 (nI (q + 1)))) := by
              unfold Md_readsSum_l14 Md_readsSum_b163
              rw [m_hr hB hT' hR' (by omega), Option.bind_some, m_sumSign hB, Option.bind_some, h9, h10, if_neg (show ¬ (false || false) = true by decide), if_pos rfl, Option.bind_some, P_ite hB q (c := 93) (by decide), if_pos h93, hop, Option.bind_some, if_neg (show ¬ (1 : Int32) = 0 by decide), c1, Option.bind_some, c3.2.2.2.1, nI_s]
              have e9 : (sI σ1 166 11 (nI w)).1 166 9 - 1 = nI o := by rw [sI_fld (by decide), c3.2.2.2.2, nI_s]
              rw [e9]
              have e5 : (sI (sI σ1 166 11 (nI w)) 166 9 (nI o)).1 166 5 + 1 = nI (q + 1) := by rw [sI_fld (by decide), sI_fld (by decide), c3.2.1]; exact nI_1 _
              rw [e5]
            refine ⟨_, K, u1, ?_, by omega, ((opS_fx.tr h3).tr c2).tr (((Fx_sI (f66 (by decide) (by decide) (by decide))).tr (Fx_sI (f66 (by decide) (by decide) (by decide)))).tr (Fx_sI (f66 (by decide) (by decide) (by decide)))), plc_rd (opn_rd (pop_rd c3)), by omega, ?_, ?_, fun k hk => ?_, fun k hk => ?_⟩
            · unfold Kl
              rw [itr_one e]
            · have := c6.1; omega
            · refine MB_ext c6 (fun k _ _ => ?_)
              rw [sI_obj (by decide), sI_obj (by decide), sI_obj (by decide)]
            · rw [sI_obj (by decide), sI_obj (by decide), sI_obj (by decide), c7.1 k hk, h8.1 k hk, opS_cd]
            · rw [sI_obj (by decide), sI_obj (by decide), sI_obj (by decide), c7.2 k (by omega), h8.2 k (by omega), opS_wt, if_neg (by omega)]
          · rw [if_neg h93] at hr'
            cases hr'
            have e := l14_out (b0 := b0) hB hT' hR' (by omega) h9 h10 (Or.inl h93)
            refine ⟨sI σ' 166 7 (flt 1 q), ?_, (opS_fx.tr h3).tr (Fx_sI (f66 (by decide) (by decide) (by decide))), sI_same⟩
            unfold Kl
            rw [itr_end e, Option.bind_some]
            show Md_readsSum_b138 (nI b0) σ' = _
            unfold Md_readsSum_b138
            rw [hop, Option.bind_some, if_neg (show ¬ (1 : Int32) = 0 by decide), show (1 : Int32) = nI 1 from rfl, m_wrong 1 hR']
            rfl
    · rw [if_neg h6] at hr
      cases hr
      rw [if_pos (by omega)]
      exact ⟨_, rfl, Fx_sI (f66 (by decide) (by decide) (by decide)), sI_same⟩
  · rw [if_neg h91] at hr
    unfold Kf
    rw [rf_1 hB hT hR hp h91]
    obtain ⟨x, σ', k1, k2, k3⟩ := m_plain (hb := 2 * o + 3) hB hT hR hp hu h91 (by omega) hr
    rw [k1]
    cases r with
    | inl e =>
      obtain ⟨rfl, k4⟩ := k3
      exact ⟨σ', rfl, k2, k4⟩
    | inr z =>
      obtain ⟨q, v⟩ := z
      obtain ⟨rfl, u', k4, k5, k6, k7, k8⟩ := k3
      exact ⟨σ', N, u', rfl, by omega, k2, k4, k6, k5, k7, k8⟩
theorem SC_sum (hB : TXb tx n) : ∀ f o, f + 1 + o = 7 → SC tx n o (pSum tx n (f + 1) o) := by
  intro f
  induction f with
  | zero =>
    intro o h
    exact SC_of hB (by omega) (Tt_fac (fun h => by omega)) (FC_of hB (by omega) (fun h => by omega) (fun h => by omega))
  | succ f ih =>
    intro o h
    exact SC_of hB (by omega) (Tt_fac (fun h => Tt_sum hB.1 (f + 1) (o + 1) (by omega) (by omega))) (FC_of hB (by omega) (fun h => Tt_sum hB.1 (f + 1) (o + 1) (by omega) (by omega)) (fun h => ih (o + 1) (by omega)))
theorem m_readsSum (hB : TXb tx n) {f o p u w : Nat} {σ : MH} (h7 : f + 1 + o = 7) (hT : TXM tx n σ) (hR : MRe n p u w o σ) (hp : p ≤ n) (hu : u ≤ p) (hw : w ≤ p) (hbel : Bel w σ) {r : PRs} (hr : pSum tx n (f + 1) o p = some r) : ∃ x σ', Md_readsSum σ = some (x, σ') ∧ okMM p u w o (2 * o + 1) n r σ x σ' := by
  have hn := hB.1
  have hse := SC_sum hB f o h7 p u w FU FU w σ hT hR hp hu hw (Nat.le_refl _) (by show n < 1000000 + p; omega) (by show n < 1000000 + p; omega) hbel r hr
  have e0 : Md_readsSum0 σ = Kf (nI w) FU FU σ := by
    unfold Md_readsSum0 Kf
    rw [rf_eq, hR.2.2.2.1]
    rfl
  unfold Md_readsSum
  rw [e0]
  cases r with
  | inl e =>
    obtain ⟨σ', h1, h2, h3⟩ := hse
    rw [h1]
    exact ⟨0, σ', rfl, h2, rfl, h3⟩
  | inr z =>
    obtain ⟨q, v⟩ := z
    obtain ⟨σ', N', u', a, m, x, h1, h2, h3, h4, rfl, h6, h7, h8, h9, h10⟩ := hse
    obtain ⟨t1, t2, t3⟩ := Tt_q (Tt_sum hn (f + 1) o (by omega) (by omega)) hr q _ rfl
    have ca := ct_le a
    have cm := ct_le m
    have hR' := h4.choose_spec.choose_spec.1
    have hT' := TXM_5 hT h3
    have hop : Md_hasOpenSum (nI w) σ' = some 0 := by
      obtain ⟨u1, u2, -, hA, hM, -, -⟩ := h4
      refine m_open0 hR' (by omega) (by omega) (fun k k1 k2 => ?_)
      cases a with
      | none =>
        cases m with
        | none => exact absurd k2 (by show ¬ k < w + 0 + 0; omega)
        | some z =>
          obtain ⟨z1, z2, z3⟩ := hM
          have : k = w + ct none := by show k = w + 0; have : k < w + 0 + 1 := k2; omega
          exact ⟨mop z.1, by have := isMul_mop z1; omega, by rw [this]; exact z2⟩
      | some y =>
        obtain ⟨y1, y2, y3⟩ := hA
        by_cases hk : k = w
        · exact ⟨mop y.1, by have := isAdd_mop y1; omega, by rw [hk]; exact y2⟩
        · cases m with
          | none => exact absurd k2 (by show ¬ k < w + 1 + 0; omega)
          | some z =>
            obtain ⟨z1, z2, z3⟩ := hM
            have : k = w + ct (some y) := by show k = w + 1; have : k < w + 1 + 1 := k2; omega
            exact ⟨mop z.1, by have := isMul_mop z1; omega, by rw [this]; exact z2⟩
    obtain ⟨K, rfl⟩ : ∃ K, N' = K + 1 := ⟨N' - 1, by omega⟩
    obtain ⟨σ1, u1, c1, c2, c3, c4, c5, c6, c7, c8⟩ := m_close1 h4 (by omega) (by omega) (by omega)
    have e := l14_out (b0 := w) hB hT' hR' (by omega) h9 h10 (Or.inr hop)
    refine ⟨1, σ1, ?_, h3.tr c2, rfl, u1, c3, c6.1, by omega, c6, Low.tr h8 c7 (Nat.le_refl _) (Nat.le_refl _)⟩
    rw [h1]
    unfold Kl
    rw [itr_end e, Option.bind_some]
    show bzo (Md_readsSum_b138 (nI w) σ') = _
    unfold Md_readsSum_b138
    rw [hop, Option.bind_some, if_pos rfl, c1]
    rfl
end MS2
