/-! journey -/
section JRN
variable {σ : MH} {A : Nat → Int32} {tx : Nat → Nat} {n p f k c i : Nat} {v : Nat → Int32}
abbrev WJ : Type := Int32 ⊕ (Nat × (Nat → Int32))
def stW (tx : Nat → Nat) (n : Nat) (last : Bool) (p f : Nat) (v : Nat → Int32) : PrS :=
  if dg 48 57 (sN tx n p) = true then
    (if last = true then .inl (flt 4 p) else
      (if sN tx n p ≤ 53 then
        (if sN tx n (p + 1) = 42 then
          (if dg 50 57 (sN tx n (p + 2)) = true then .inr (p + 3, f + (sN tx n (p + 2) - 48), upV f (sN tx n (p + 2) - 48) v (nI (sN tx n p - 48))) else .inl (flt 1 (p + 2)))
        else .inr (p + 1, f + 1, upV f 1 v (nI (sN tx n p - 48))))
      else .inl (flt 3 p)))
  else .inl (flt 1 p)
def contW (go : Nat → Nat → (Nat → Int32) → WJ) (tx : Nat → Nat) (n : Nat) (p f : Nat) (v : Nat → Int32) : WJ :=
  if n ≤ p then .inr (f, v) else if sN tx n p = 44 then go (p + 1) f v else .inl (flt 1 p)
def wayS (tx : Nat → Nat) (n : Nat) : Nat → Nat → Nat → (Nat → Int32) → WJ
  | 0, p, f, v => (match stW tx n true p f v with
    | .inl e => .inl e
    | .inr _ => .inl 0)
  | k + 1, p, f, v => match stW tx n false p f v with
    | .inl e => .inl e
    | .inr q => contW (wayS tx n k) tx n q.1 q.2.1 q.2.2
theorem wayS_s : wayS tx n (k + 1) p f v = (match stW tx n false p f v with
    | .inl e => (Sum.inl e : WJ)
    | .inr q => contW (wayS tx n k) tx n q.1 q.2.1 q.2.2) := rfl
def v6 (f : Nat) (v : Nat → Int32) : Prop := ∀ j, j < f → ∃ u, u < 6 ∧ v j = nI u
theorem st_ok (hb : TXb tx n) {last : Bool} {p' f' : Nat} {v' : Nat → Int32} (h : stW tx n last p f v = .inr (p', f', v')) (hv : v6 f v) : last = false ∧ p < p' ∧ p' ≤ n ∧ f < f' ∧ f' ≤ f + 9 ∧ v6 f' v' := by
  unfold stW at h
  by_cases h1 : dg 48 57 (sN tx n p) = true
  · rw [if_pos h1] at h
    have d1 := dg_yes hb (by decide) h1
    by_cases hl : last = true
    · rw [if_pos hl] at h; cases h
    · rw [if_neg hl] at h
      refine ⟨Bool.eq_false_iff.mpr hl, ?_⟩
      by_cases h2 : sN tx n p ≤ 53
      · rw [if_pos h2] at h
        have up : ∀ t, v6 (f + t) (upV f t v (nI (sN tx n p - 48))) := fun t j hj => by
          unfold upV
          by_cases c : f ≤ j ∧ j < f + t
          · rw [if_pos c]; exact ⟨_, by omega, rfl⟩
          · rw [if_neg c]; exact hv j (by omega)
        by_cases h3 : sN tx n (p + 1) = 42
        · rw [if_pos h3] at h
          by_cases h4 : dg 50 57 (sN tx n (p + 2)) = true
          · rw [if_pos h4] at h
            have d4 := dg_yes hb (by decide) h4
            cases h
            exact ⟨by omega, by omega, by omega, by omega, up _⟩
          · rw [if_neg h4] at h; cases h
        · rw [if_neg h3] at h
          cases h
          exact ⟨by omega, by omega, by omega, by omega, up _⟩
      · rw [if_neg h2] at h; cases h
  · rw [if_neg h1] at h; cases h
/-! the class -/
def finW (z : MH ⊕ MH ⊕ MH ⊕ MH ⊕ MH ⊕ (Int32 × MH)) : Option (Int32 × MH) := (match z with | .inl z27a => (Reader_fail_2 1 z27a).bind fun (x29, σ30) => some (x29, σ30) | .inr z27r => (match z27r with | .inl z27b => ListReader_readWay_b35 z27b | .inr z27rr => (match z27rr with | .inl z27c => (Reader_fail_2 4 z27c).bind fun (x35, σ36) => some (x35, σ36) | .inr z27rrr => (match z27rrr with | .inl z27d => (Reader_fail_2 3 z27d).bind fun (x38, σ39) => some (x38, σ39) | .inr z27rrrr => (match z27rrrr with | .inl z27e => (Reader_fail_2 1 z27e).bind fun (x41, σ42) => some (x41, σ42) | .inr z27f => some (z27f.1, z27f.2))))))
def okW (R : WJ) : Bool := match R with
  | .inl _ => false
  | .inr _ => true
def resW (R : WJ) (σ : MH) (z : MH ⊕ MH ⊕ MH ⊕ MH ⊕ MH ⊕ (Int32 × MH)) : Prop := ∃ σ', finW z = some (bI (okW R), σ') ∧ Fx PE σ σ' ∧ (∀ e, R = .inl e → σ'.1 124 3 = e) ∧ ∀ q, R = .inr q → q.1 ≤ 144 ∧ v6 q.1 q.2 ∧ σ'.1 124 5 = nI q.1 ∧ ∀ j, j < q.1 → σ'.1 125 j = q.2 j
theorem resW_fail {R : WJ} (kk : Nat) {z : MH ⊕ MH ⊕ MH ⊕ MH ⊕ MH ⊕ (Int32 × MH)} {τ : MH} (hR : R = .inl (flt kk p)) (hf : Fx PE σ τ) (hz : finW z = some (0, sI τ 124 3 (flt kk p))) : resW R σ z := by
  subst hR
  exact ⟨_, hz, hf.tr (Fx_sI (Or.inl rfl)), fun e h => sI_same.trans (Sum.inl.inj h), fun q h => by cases h⟩
theorem c_w12 (hb : TXb tx n) (hT : TXC tx n σ) (hc : c ≤ 16) (hp : p ≤ n) (hf9 : f ≤ 9 * c) (hv : v6 f v) (hE : ER n p f v σ) (go : Nat → Nat → (Nat → Int32) → WJ) {R : WJ} (hR : R = (match stW tx n (decide (c = 16)) p f v with
    | .inl e => .inl e
    | .inr q => contW go tx n q.1 q.2.1 q.2.2)) : (∃ p' f' v' σ', ListReader_readWay_l12 (nI c) σ = some (.inl (nI (c + 1), σ')) ∧ c < 16 ∧ ER n p' f' v' σ' ∧ R = go p' f' v' ∧ p' ≤ n ∧ f' ≤ 9 * (c + 1) ∧ v6 f' v' ∧ Fx PE σ σ') ∨ ∃ z, ListReader_readWay_l12 (nI c) σ = some (.inr z) ∧ resW R σ z := by
  have hn := hb.1
  obtain ⟨e1, e2, e5, ev⟩ := hE
  have hs := c_sign2 hb hT e1 e2 (by omega)
  have hpo := fun p' f' v' h => st_ok (p' := p') (f' := f') (v' := v') (last := decide (c = 16)) hb (show stW tx n (decide (c = 16)) p f v = .inr (p', f', v') from h) hv
  have fl : ∀ (kk p : Nat) (τ : MH), τ.1 124 2 = nI p → Reader_fail_2 (nI kk) τ = some (0, sI τ 124 3 (flt kk p)) := fun kk p τ h => c_fail2 kk h
  unfold ListReader_readWay_l12
  rw [if_neg (mt (ltR 16 (by omega) (by decide)).mp (by omega)), hs, Option.bind_some]
  rw [dg_ite hb p (show 48 < 256 by decide) (show 57 < 256 by decide)]
  unfold stW at hR hpo
  by_cases h1 : dg 48 57 (sN tx n p) = true
  · have d1 := dg_yes hb (by decide) h1
    rw [if_pos h1]
    rw [if_pos h1] at hR
    have hpo1 := fun p' f' v' h => hpo p' f' v' ((if_pos h1).trans h)
    by_cases h16 : c = 16
    · rw [if_pos ((eqL 16 (by omega) (by decide)).mpr h16)]
      rw [if_pos (decide_eq_true h16)] at hR
      refine Or.inr ⟨_, rfl, resW_fail 4 hR Fx.rf ?_⟩
      unfold finW
      dsimp only
      rw [show (4 : Int32) = nI 4 from rfl, fl 4 p σ e2]
      rfl
    · rw [if_neg (mt (eqL 16 (by omega) (by decide)).mp h16)]
      have hcf : ¬ decide (c = 16) = true := by rw [decide_eq_false h16]; decide
      rw [if_neg hcf] at hR
      have hpo2 := fun p' f' v' h => hpo1 p' f' v' ((if_neg hcf).trans h)
      by_cases h53 : sN tx n p ≤ 53
      · rw [d1.2.1, if_pos ((leL 53 (by omega) (by decide)).mpr h53), subL 48 (by omega)]
        rw [if_pos h53] at hR
        have hpo3 := fun p' f' v' h => hpo2 p' f' v' ((if_pos h53).trans h)
        have E1 : (sI σ 124 6 (nI (sN tx n p - 48))).1 124 2 + 1 = nI (p + 1) := by rw [sI_fld (by decide), e2]; exact nI_1 _
        rw [E1]
        have F1 : Fx PE σ (sI (sI σ 124 6 (nI (sN tx n p - 48))) 124 2 (nI (p + 1))) := (Fx_sI (P := PE) (Or.inl rfl)).tr (Fx_sI (Or.inl rfl))
        have hE1 : ER n (p + 1) f v (sI (sI σ 124 6 (nI (sN tx n p - 48))) 124 2 (nI (p + 1))) := ⟨by rw [sI_fld (by decide), sI_fld (by decide)]; exact e1, sI_same, by rw [sI_fld (by decide), sI_fld (by decide)]; exact e5, fun j hj => by rw [sI_obj (by decide), sI_obj (by decide)]; exact ev j hj⟩
        obtain ⟨σ2, er, p2, k6, m1, m2⟩ := c_readTimes (most := 57) hb (TXC_of hT F1) (show p + 1 ≤ n by omega) hE1 (by decide)
        have k6' : σ2.1 124 6 = nI (sN tx n p - 48) := by rw [k6, sI_fld (by decide), sI_same]
        have F2 := F1.tr p2
        rw [show (57 : Int32) = (OfNat.ofNat 57 : Int32) from rfl, er, Option.bind_some]
        dsimp only
        have fin : ∀ t p3, p3 ≤ n → f + t ≤ 9 * (c + 1) → ER n p3 f v σ2 → σ2.1 124 7 = nI t → R = contW go tx n p3 (f + t) (upV f t v (nI (sN tx n p - 48))) → v6 (f + t) (upV f t v (nI (sN tx n p - 48))) → (∃ p' f' v' σ', ((ListReader_put σ2).bind fun σ11 => (Reader_isEnd_2 σ11).bind fun x13 => if x13 = (0 : Int32) then ((Reader_sign_2 σ11).bind fun x16 => if x16 = (44 : Int32) then some (.inl (nI c + (1 : Int32), sI σ11 124 2 ((σ11.1 124 2) + (1 : Int32)))) else some (.inr (.inr (.inr (.inr (.inr (.inl (σ11)))))))) else some (.inr (.inr (.inr (.inr (.inr (.inr ((1 : Int32), σ11)))))))) = (some (.inl (nI (c + 1), σ')) : Option (((Int32 × MH) ⊕ (MH ⊕ MH ⊕ MH ⊕ MH ⊕ MH ⊕ (Int32 × MH))))) ∧ c < 16 ∧ ER n p' f' v' σ' ∧ R = go p' f' v' ∧ p' ≤ n ∧ f' ≤ 9 * (c + 1) ∧ v6 f' v' ∧ Fx PE σ σ') ∨ ∃ z, ((ListReader_put σ2).bind fun σ11 => (Reader_isEnd_2 σ11).bind fun x13 => if x13 = (0 : Int32) then ((Reader_sign_2 σ11).bind fun x16 => if x16 = (44 : Int32) then some (.inl (nI c + (1 : Int32), sI σ11 124 2 ((σ11.1 124 2) + (1 : Int32)))) else some (.inr (.inr (.inr (.inr (.inr (.inl (σ11)))))))) else some (.inr (.inr (.inr (.inr (.inr (.inr ((1 : Int32), σ11)))))))) = (some (.inr z) : Option (((Int32 × MH) ⊕ (MH ⊕ MH ⊕ MH ⊕ MH ⊕ MH ⊕ (Int32 × MH))))) ∧ resW R σ z := by
          intro t p3 hp3 ht hE2 h7 hR2 hv2
          obtain ⟨σ3, e3, p3', hE3⟩ := c_put hE2 h7 k6' (by omega)
          have F3 := F2.tr p3'
          rw [e3, Option.bind_some, c_isEnd2 hE3.1 hE3.2.1 (by omega) (by omega), Option.bind_some]
          unfold contW at hR2
          by_cases hend : n ≤ p3
          · rw [if_pos hend] at hR2
            rw [decide_eq_true hend, bI_t, if_neg (show ¬ (1 : Int32) = 0 by decide)]
            refine Or.inr ⟨_, rfl, ?_⟩
            subst hR2
            refine ⟨σ3, rfl, F3, fun e h => (by cases h), fun q h => ?_⟩
            have hq := Sum.inr.inj h
            subst hq
            exact ⟨by omega, hv2, hE3.2.2.1, hE3.2.2.2⟩
          · rw [if_neg hend] at hR2
            rw [decide_eq_false hend, bI_f, if_pos rfl, c_sign2 hb (TXC_of hT F3) hE3.1 hE3.2.1 (by omega), Option.bind_some]
            by_cases h44 : sN tx n p3 = 44
            · rw [if_pos h44] at hR2
              rw [if_pos ((sg_eq hb p3 (k := 44) (by decide)).mpr h44), hE3.2.1, show nI p3 + 1 = nI (p3 + 1) from nI_1 _, show nI c + 1 = nI (c + 1) from nI_1 _]
              refine Or.inl ⟨p3 + 1, f + t, upV f t v (nI (sN tx n p - 48)), _, rfl, by omega, ⟨?_, sI_same, ?_, fun j hj => ?_⟩, hR2, by omega, ht, hv2, F3.tr (Fx_sI (Or.inl rfl))⟩
              · rw [sI_fld (by decide)]; exact hE3.1
              · rw [sI_fld (by decide)]; exact hE3.2.2.1
              · rw [sI_obj (by decide)]; exact hE3.2.2.2 j hj
            · rw [if_neg h44] at hR2
              rw [if_neg (fun z => h44 ((sg_eq hb p3 (k := 44) (by decide)).mp z))]
              refine Or.inr ⟨_, rfl, resW_fail 1 hR2 F3 ?_⟩
              unfold finW
              dsimp only
              rw [show (1 : Int32) = nI 1 from rfl, fl 1 p3 σ3 hE3.2.1]
              rfl
        by_cases h42 : sN tx n (p + 1) = 42
        · rw [if_pos h42] at m1 m2 hR
          rw [if_pos h42]
          have hpo4 := fun p' f' v' h => hpo3 p' f' v' ((if_pos h42).trans h)
          cases hd2 : dg 50 57 (sN tx n (p + 1 + 1))
          · rw [show p + 2 = p + 1 + 1 from rfl, hd2, if_neg (by decide)] at hR
            rw [bI_f, if_pos rfl]
            refine Or.inr ⟨_, rfl, ?_⟩
            subst hR
            exact ⟨σ2, rfl, F2, fun e h => (m1 hd2).trans (Sum.inl.inj h), fun q h => by cases h⟩
          · have d2 := dg_yes hb (by decide) hd2
            obtain ⟨hE2, h7⟩ := m2 hd2
            rw [if_pos h42] at hE2 h7
            rw [show p + 2 = p + 1 + 1 from rfl, hd2, if_pos rfl] at hR
            rw [bI_t, if_neg (show ¬ (1 : Int32) = 0 by decide)]
            have hx := hpo4 _ _ _ (if_pos hd2)
            exact fin _ _ (by omega) (by omega) hE2 h7 hR hx.2.2.2.2.2
        · rw [if_neg h42] at m1 m2 hR
          rw [if_neg h42, bI_t, if_neg (show ¬ (1 : Int32) = 0 by decide)]
          obtain ⟨hE2, h7⟩ := m2 rfl
          rw [if_neg h42] at hE2 h7
          have hx := hpo3 _ _ _ (if_neg h42)
          exact fin 1 (p + 1) (by omega) (by omega) hE2 h7 hR hx.2.2.2.2.2
      · rw [d1.2.1, if_neg (mt (leL 53 (by omega) (by decide)).mp h53)]
        rw [if_neg h53] at hR
        refine Or.inr ⟨_, rfl, resW_fail 3 hR Fx.rf ?_⟩
        unfold finW
        dsimp only
        rw [show (3 : Int32) = nI 3 from rfl, fl 3 p σ e2]
        rfl
  · rw [if_neg h1]
    rw [if_neg h1] at hR
    refine Or.inr ⟨_, rfl, resW_fail 1 hR Fx.rf ?_⟩
    unfold finW ListReader_readWay_b35
    dsimp only
    rw [show (1 : Int32) = nI 1 from rfl, fl 1 p σ e2]
    rfl
theorem c_readWay (hb : TXb tx n) (hT : TXC tx n σ) : ∃ σ', ListReader_readWay (nI n) σ = some (bI (okW (wayS tx n 16 0 0 v)), σ') ∧ Fx PE σ σ' ∧ (∀ e, wayS tx n 16 0 0 v = .inl e → σ'.1 124 3 = e) ∧ ∀ q, wayS tx n 16 0 0 v = .inr q → q.1 ≤ 144 ∧ v6 q.1 q.2 ∧ σ'.1 124 5 = nI q.1 ∧ ∀ j, j < q.1 → σ'.1 125 j = q.2 j := by
  have hn := hb.1
  generalize hR : wayS tx n 16 0 0 v = R
  have F0 : Fx PE σ (sI (sI (sI (sI σ 124 1 (nI n)) 124 2 0) 124 3 0) 124 5 0) := (((Fx_sI (P := PE) (Or.inl rfl)).tr (Fx_sI (Or.inl rfl))).tr (Fx_sI (Or.inl rfl))).tr (Fx_sI (Or.inl rfl))
  have E0 : ER n 0 0 v (sI (sI (sI (sI σ 124 1 (nI n)) 124 2 0) 124 3 0) 124 5 0) := ⟨by rw [sI_fld (by decide), sI_fld (by decide), sI_fld (by decide), sI_same], by rw [sI_fld (by decide), sI_fld (by decide), sI_same]; rfl, sI_same, fun j hj => by omega⟩
  have hbeg : ListReader_readWay0 (nI n) σ = (ListReader_readWay_L12 (0, sI (sI (sI (sI σ 124 1 (nI n)) 124 2 0) 124 3 0) 124 5 0)).bind finW := rfl
  generalize sI (sI (sI (sI σ 124 1 (nI n)) 124 2 0) 124 3 0) 124 5 0 = σ0 at F0 E0 hbeg
  obtain ⟨z, e, σ', h1, h2, h3⟩ : ∃ z, ListReader_readWay_L12 (0, σ0) = some z ∧ resW R σ0 z := by
    refine itr_n 17 (fun (c : Nat) (z : Int32 × MH) => z.1 = nI c ∧ c ≤ 16 ∧ ∃ p f v, ER n p f v z.2 ∧ wayS tx n (16 - c) p f v = R ∧ p ≤ n ∧ f ≤ 9 * c ∧ v6 f v ∧ Fx PE σ0 z.2) _ ⟨rfl, by omega, 0, 0, v, E0, hR, by omega, by omega, fun j hj => by omega, Fx.rf⟩ (fun c z hc hz => ?_) (fun z hz => ?_)
    · obtain ⟨z1, z2⟩ := z
      obtain ⟨rfl, hc16, p, f, v, hE, hRR, hp, hf, hv, hF⟩ := hz
      dsimp only at hE hF
      have step : ∀ (go : Nat → Nat → (Nat → Int32) → WJ), R = (match stW tx n (decide (c = 16)) p f v with
          | .inl e => .inl e
          | .inr q => contW go tx n q.1 q.2.1 q.2.2) → (c < 16 → go = wayS tx n (16 - (c + 1))) → (∃ s', ListReader_readWay_l12 (nI c) z2 = some (.inl s') ∧ s'.1 = nI (c + 1) ∧ c + 1 ≤ 16 ∧ ∃ p f v, ER n p f v s'.2 ∧ wayS tx n (16 - (c + 1)) p f v = R ∧ p ≤ n ∧ f ≤ 9 * (c + 1) ∧ v6 f v ∧ Fx PE σ0 s'.2) ∨ ∃ z, ListReader_readWay_l12 (nI c) z2 = some (.inr z) ∧ resW R σ0 z := by
        intro go hgo hg2
        rcases c_w12 hb (TXC_of hT (F0.tr hF)) hc16 hp hf hv hE go hgo with ⟨p', f', v', σ', a1, a0, a2, a3, a5, a6, a7, a8⟩ | ⟨z, a1, σ', a2, a3, a4⟩
        · refine Or.inl ⟨_, a1, rfl, a0, p', f', v', a2, ?_, a5, a6, a7, hF.tr a8⟩
          rw [a3, hg2 a0]
        · exact Or.inr ⟨z, a1, σ', a2, hF.tr a3, a4⟩
      by_cases h16 : c = 16
      · subst h16
        refine step (fun _ _ _ => .inl 0) ?_ (fun h => by omega)
        rw [← hRR, Nat.sub_self, decide_eq_true rfl]
        show (match stW tx n true p f v with
          | .inl e => (Sum.inl e : WJ)
          | .inr _ => .inl 0) = _
        cases hs : stW tx n true p f v with
        | inl e => rfl
        | inr q => exact absurd (st_ok hb hs hv).1 (by decide)
      · refine step (wayS tx n (16 - (c + 1))) ?_ (fun _ => rfl)
        rw [← hRR, show 16 - c = (16 - (c + 1)) + 1 by omega, wayS_s, decide_eq_false h16]
    · obtain ⟨z1, z2⟩ := z
      obtain ⟨-, h, -⟩ := hz
      omega
  refine ⟨σ', ?_, F0.tr h2, h3⟩
  unfold ListReader_readWay
  rw [hbeg, e, Option.bind_some, h1]
  unfold bzo
  rw [Option.bind_some]
  cases okW R <;> rfl
end JRN
