/-! edge -/
section EDG
variable {σ : MH} {A : Nat → Int32} {tx : Nat → Nat} {n p f k c : Nat} {v : Nat → Int32}
def finE (z : MH ⊕ (Int32 × MH) ⊕ MH ⊕ MH ⊕ (Int32 × MH)) : Option (Int32 × MH) := (match z with | .inl z25a => (Reader_fail_2 1 z25a).bind fun (x27, σ28) => some (x27, σ28) | .inr z25r => (match z25r with | .inl z25b => (Reader_failAt_2 6 z25b.1 z25b.2).bind fun (x30, σ31) => some (x30, σ31) | .inr z25rr => (match z25rr with | .inl z25c => if z25c.1 124 5 = (8 : Int32) then (ListReader_readEdge_b90 z25c) else ((Reader_fail_2 1 z25c).bind fun (x33, σ34) => if x33 = (0 : Int32) then some ((0 : Int32), σ34) else (ListReader_readEdge_b90 σ34)) | .inr z25rrr => (match z25rrr with | .inl z25d => (Reader_fail_2 1 z25d).bind fun (x38, σ39) => some (x38, σ39) | .inr z25e => some (z25e.1, z25e.2)))))
abbrev ES : Type := Int32 ⊕ (Nat → Int32)
def okR2 (R : ES) : Bool := match R with
  | .inl _ => false
  | .inr _ => true
def resE (R : ES) (σ : MH) (z : MH ⊕ (Int32 × MH) ⊕ MH ⊕ MH ⊕ (Int32 × MH)) : Prop := ∃ σ', finE z = some (bI (okR2 R), σ') ∧ Fx PE σ σ' ∧ (∀ e, R = .inl e → σ'.1 124 3 = e) ∧ ∀ v, R = .inr v → v9 8 v ∧ ∀ j, j < 8 → σ'.1 125 j = v j
theorem c_isEnd2 (h1 : σ.1 124 1 = nI n) (h2 : σ.1 124 2 = nI p) (hn : n < 300) (hp : p < 300) : Reader_isEnd_2 σ = some (bI (decide (n ≤ p))) := by
  unfold Reader_isEnd_2 Reader_isEnd_20
  rw [h1, h2]
  by_cases h : p < n
  · rw [if_pos ((nI_ltI (by omega) (by omega)).mpr h), decide_eq_false (by omega)]; rfl
  · rw [if_neg (fun z => h ((nI_ltI (by omega) (by omega)).mp z)), decide_eq_true (by omega)]; rfl
theorem res_fail {R : ES} {τ : MH} {e : Int32} (hR : R = .inl e) (hf : Fx PE σ τ) (h3 : τ.1 124 3 = e) : resE R σ (.inr (.inr (.inr (.inr (0, τ))))) := by
  subst hR
  exact ⟨τ, rfl, hf, fun e' h => (by cases h; exact h3), fun v h => by cases h⟩
theorem c_l12 (hb : TXb tx n) (hT : TXC tx n σ) (hc : c < n) (hp : p ≤ n) (hf8 : f ≤ 8) (hv : v9 f v) (hE : ER n p f v σ) (go : Nat → Nat → (Nat → Int32) → ES) {R : ES} (hR : R = match parS tx n p f v with
    | .inl e => .inl e
    | .inr q => contS go tx n q.1 q.2.1 q.2.2) : (∃ p' f' v' σ', ListReader_readEdge_l12 (nI n) (nI c) σ = some (.inl (nI (c + 1), σ')) ∧ ER n p' f' v' σ' ∧ R = go p' f' v' ∧ p < p' ∧ p' ≤ n ∧ f' ≤ 8 ∧ v9 f' v' ∧ Fx PE σ σ') ∨ ∃ z, ListReader_readEdge_l12 (nI n) (nI c) σ = some (.inr z) ∧ resE R σ z := by
  have hn := hb.1
  have hq := q1_le (tx := tx) (n := n) (p := p)
  obtain ⟨σ1, e1, p1, g1, g2⟩ := c_readHeight hb hT hp hE
  have hpo := fun p' f' v' h => par_ok (p' := p') (f' := f') (v' := v') hb (show parS tx n p f v = .inr (p', f', v') from h) hv
  unfold ListReader_readEdge_l12
  rw [if_neg (by rw [nI_leI (by omega) (by omega)]; omega), e1, Option.bind_some]
  dsimp only
  unfold parS at hR hpo
  cases hd : dg (if sN tx n p = 45 then 49 else 48) 57 (sN tx n (q1 tx n p))
  · rw [hd, if_neg (by decide)] at hR
    rw [bI_f, if_pos rfl]
    exact Or.inr ⟨_, rfl, res_fail hR p1 (g1 hd)⟩
  · have d1 := dg_yes hb (by decide) hd
    obtain ⟨hE1, h6⟩ := g2 hd
    rw [hd, if_pos rfl] at hR
    rw [hd] at hpo
    have hpo' := fun p' f' v' h => hpo p' f' v' ((if_pos rfl).trans h)
    rw [bI_t, if_neg (show ¬ (1 : Int32) = 0 by decide)]
    have hT1 := TXC_of hT p1
    obtain ⟨σ2, e2, p2, k6, m1, m2⟩ := c_readTimes (most := 56) hb hT1 (show q1 tx n p + 1 ≤ n by omega) hE1 (by decide)
    rw [show (56 : Int32) = (OfNat.ofNat 56 : Int32) from rfl, e2, Option.bind_some]
    dsimp only
    have F2 := p1.tr p2
    -- the end of a part
    have fin : ∀ t p3, p3 ≤ n → t ≤ 8 → ER n p3 f v σ2 → σ2.1 124 7 = nI t → R = (match finS p f v (valS tx n p) t p3 with
        | .inl e => .inl e
        | .inr q => contS go tx n q.1 q.2.1 q.2.2) → (∀ p' f' v', finS p f v (valS tx n p) t p3 = .inr (p', f', v') → p < p' ∧ p' ≤ n ∧ f' ≤ 8 ∧ v9 f' v') → (∃ p' f' v' σ', (if (σ2.1 124 5) + (σ2.1 124 7) ≤ (8 : Int32) then ((ListReader_put σ2).bind fun σ11 => (Reader_isEnd_2 σ11).bind fun x13 => if x13 = (0 : Int32) then ((Reader_sign_2 σ11).bind fun x16 => if x16 = (44 : Int32) then some (.inl (nI c + (1 : Int32), sI σ11 124 2 ((σ11.1 124 2) + (1 : Int32)))) else some (.inr (.inr (.inr (.inr (.inl (σ11))))))) else some (.inr (.inr (.inr (.inl (σ11)))))) else some (.inr (.inr (.inl (σ.1 124 2, σ2))))) = (some (.inl (nI (c + 1), σ')) : Option (((Int32 × MH) ⊕ (MH ⊕ (Int32 × MH) ⊕ MH ⊕ MH ⊕ (Int32 × MH))))) ∧ ER n p' f' v' σ' ∧ R = go p' f' v' ∧ p < p' ∧ p' ≤ n ∧ f' ≤ 8 ∧ v9 f' v' ∧ Fx PE σ σ') ∨ ∃ z, (if (σ2.1 124 5) + (σ2.1 124 7) ≤ (8 : Int32) then ((ListReader_put σ2).bind fun σ11 => (Reader_isEnd_2 σ11).bind fun x13 => if x13 = (0 : Int32) then ((Reader_sign_2 σ11).bind fun x16 => if x16 = (44 : Int32) then some (.inl (nI c + (1 : Int32), sI σ11 124 2 ((σ11.1 124 2) + (1 : Int32)))) else some (.inr (.inr (.inr (.inr (.inl (σ11))))))) else some (.inr (.inr (.inr (.inl (σ11)))))) else some (.inr (.inr (.inl (σ.1 124 2, σ2))))) = (some (.inr z) : Option (((Int32 × MH) ⊕ (MH ⊕ (Int32 × MH) ⊕ MH ⊕ MH ⊕ (Int32 × MH))))) ∧ resE R σ z := by
      intro t p3 hp3 ht hE2 h7 hR2 hpp
      unfold finS at hR2 hpp
      rw [hE2.2.2.1, h7, nI_add]
      by_cases hft : f + t ≤ 8
      · rw [if_pos hft] at hR2
        dsimp only at hR2
        obtain ⟨b1, b2, b3, b4⟩ := hpp _ _ _ (if_pos hft)
        rw [if_pos ((leL 8 (by omega) (by decide)).mpr hft)]
        obtain ⟨σ3, e3, p3', hE3⟩ := c_put hE2 h7 (k6.trans h6) (by omega)
        have F3 := F2.tr p3'
        rw [e3, Option.bind_some, c_isEnd2 hE3.1 hE3.2.1 (by omega) (by omega), Option.bind_some]
        unfold contS at hR2
        by_cases hend : n ≤ p3
        · rw [if_pos hend] at hR2
          rw [decide_eq_true hend, bI_t, if_neg (show ¬ (1 : Int32) = 0 by decide)]
          refine Or.inr ⟨_, rfl, ?_⟩
          unfold resE finE ListReader_readEdge_b90
          dsimp only
          rw [hE3.2.2.1]
          by_cases h8 : f + t = 8
          · rw [if_pos h8] at hR2
            subst hR2
            rw [if_pos ((eqL 8 (by omega) (by decide)).mpr h8)]
            refine ⟨σ3, rfl, F3, fun e h => (by cases h), fun w h => ?_⟩
            cases h
            rw [h8] at b4 hE3
            exact ⟨b4, fun j hj => hE3.2.2.2 j hj⟩
          · rw [if_neg h8] at hR2
            subst hR2
            rw [if_neg (mt (eqL 8 (by omega) (by decide)).mp h8), show (1 : Int32) = nI 1 from rfl, c_fail2 1 hE3.2.1]
            refine ⟨_, rfl, F3.tr (Fx_sI (Or.inl rfl)), fun e h => ?_, fun w h => (by cases h)⟩
            exact sI_same.trans (Sum.inl.inj h)
        · rw [if_neg hend] at hR2
          rw [decide_eq_false hend, bI_f, if_pos rfl, c_sign2 hb (TXC_of hT F3) hE3.1 hE3.2.1 (by omega), Option.bind_some]
          by_cases h44 : sN tx n p3 = 44
          · rw [if_pos h44] at hR2
            rw [if_pos ((sg_eq hb p3 (k := 44) (by decide)).mpr h44), hE3.2.1, show nI p3 + 1 = nI (p3 + 1) from nI_1 _, show nI c + 1 = nI (c + 1) from nI_1 _]
            refine Or.inl ⟨p3 + 1, f + t, upV f t v (valS tx n p), _, rfl, ⟨?_, sI_same, ?_, fun j hj => ?_⟩, hR2, by omega, by omega, b3, b4, F3.tr (Fx_sI (Or.inl rfl))⟩
            · rw [sI_fld (by decide)]; exact hE3.1
            · rw [sI_fld (by decide)]; exact hE3.2.2.1
            · rw [sI_obj (by decide)]; exact hE3.2.2.2 j hj
          · rw [if_neg h44] at hR2
            subst hR2
            rw [if_neg (fun z => h44 ((sg_eq hb p3 (k := 44) (by decide)).mp z))]
            refine Or.inr ⟨_, rfl, ?_⟩
            unfold resE finE
            dsimp only
            rw [show (1 : Int32) = nI 1 from rfl, c_fail2 1 hE3.2.1]
            refine ⟨_, rfl, F3.tr (Fx_sI (Or.inl rfl)), fun e h => ?_, fun w h => (by cases h)⟩
            exact sI_same.trans (Sum.inl.inj h)
      · rw [if_neg hft] at hR2
        dsimp only at hR2
        subst hR2
        rw [if_neg (mt (leL 8 (by omega) (by decide)).mp hft), hE.2.1]
        refine Or.inr ⟨_, rfl, ?_⟩
        unfold resE finE
        dsimp only
        rw [show (6 : Int32) = nI 6 from rfl, c_failAt2]
        refine ⟨_, rfl, F2.tr (Fx_sI (Or.inl rfl)), fun e h => ?_, fun w h => (by cases h)⟩
        exact sI_same.trans (Sum.inl.inj h)
    by_cases h42 : sN tx n (q1 tx n p + 1) = 42
    · rw [if_pos h42] at m1 m2 hR
      rw [if_pos h42]
      cases hd2 : dg 50 56 (sN tx n (q1 tx n p + 1 + 1))
      · rw [show q1 tx n p + 2 = q1 tx n p + 1 + 1 from rfl, hd2, if_neg (by decide)] at hR
        rw [bI_f, if_pos rfl]
        exact Or.inr ⟨_, rfl, res_fail hR F2 (m1 hd2)⟩
      · have d2 := dg_yes hb (by decide) hd2
        obtain ⟨hE2, h7⟩ := m2 hd2
        rw [if_pos h42] at hE2 h7
        rw [show q1 tx n p + 2 = q1 tx n p + 1 + 1 from rfl, hd2, if_pos rfl] at hR
        rw [bI_t, if_neg (show ¬ (1 : Int32) = 0 by decide)]
        refine fin _ _ (by omega) (by omega) hE2 h7 hR (fun p' f' v' h => hpo' p' f' v' ?_)
        rw [if_pos h42, show q1 tx n p + 2 = q1 tx n p + 1 + 1 from rfl, hd2, if_pos rfl]
        exact h
    · rw [if_neg h42] at m1 m2 hR
      rw [if_neg h42, bI_t, if_neg (show ¬ (1 : Int32) = 0 by decide)]
      obtain ⟨hE2, h7⟩ := m2 rfl
      rw [if_neg h42] at hE2 h7
      refine fin _ _ (by omega) (by omega) hE2 h7 hR (fun p' f' v' h => hpo' p' f' v' ?_)
      rw [if_neg h42]
      exact h
theorem c_readEdge (hb : TXb tx n) (hT : TXC tx n σ) : ∃ σ', ListReader_readEdge (nI n) σ = some (bI (okR2 (edgeS tx n n 0 0 v)), σ') ∧ Fx PE σ σ' ∧ (∀ e, edgeS tx n n 0 0 v = .inl e → σ'.1 124 3 = e) ∧ ∀ w, edgeS tx n n 0 0 v = .inr w → v9 8 w ∧ ∀ j, j < 8 → σ'.1 125 j = w j := by
  have hn := hb.1
  generalize hR : edgeS tx n n 0 0 v = R
  have F0 : Fx PE σ (sI (sI (sI (sI σ 124 1 (nI n)) 124 2 0) 124 3 0) 124 5 0) := (((Fx_sI (P := PE) (Or.inl rfl)).tr (Fx_sI (Or.inl rfl))).tr (Fx_sI (Or.inl rfl))).tr (Fx_sI (Or.inl rfl))
  have E0 : ER n 0 0 v (sI (sI (sI (sI σ 124 1 (nI n)) 124 2 0) 124 3 0) 124 5 0) := ⟨by rw [sI_fld (by decide), sI_fld (by decide), sI_fld (by decide), sI_same], by rw [sI_fld (by decide), sI_fld (by decide), sI_same]; rfl, sI_same, fun j hj => by omega⟩
  have hbeg : ListReader_readEdge0 (nI n) σ = (ListReader_readEdge_L12 (nI n) (0, sI (sI (sI (sI σ 124 1 (nI n)) 124 2 0) 124 3 0) 124 5 0)).bind finE := rfl
  generalize sI (sI (sI (sI σ 124 1 (nI n)) 124 2 0) 124 3 0) 124 5 0 = σ0 at F0 E0 hbeg
  obtain ⟨z, e, σ', h1, h2, h3⟩ : ∃ z, ListReader_readEdge_L12 (nI n) (0, σ0) = some z ∧ resE R σ0 z := by
    refine itr_n n (fun (c : Nat) (z : Int32 × MH) => z.1 = nI c ∧ ∃ p f v, ER n p f v z.2 ∧ edgeS tx n (n - c) p f v = R ∧ p ≤ n ∧ f ≤ 8 ∧ v9 f v ∧ Fx PE σ0 z.2) _ ⟨rfl, 0, 0, v, E0, hR, by omega, by omega, fun j hj => by omega, Fx.rf⟩ (fun c z hc hz => ?_) (fun z hz => ?_) (by show n < 1000000; omega)
    · obtain ⟨z1, z2⟩ := z
      obtain ⟨rfl, p, f, v, hE, hRR, hp, hf, hv, hF⟩ := hz
      dsimp only at hE hF
      have he : edgeS tx n (n - c) p f v = match parS tx n p f v with
          | .inl e => .inl e
          | .inr q => contS (edgeS tx n (n - (c + 1))) tx n q.1 q.2.1 q.2.2 := by
        rw [show n - c = (n - (c + 1)) + 1 by omega]
        rfl
      rcases c_l12 hb (TXC_of hT (F0.tr hF)) hc hp hf hv hE (edgeS tx n (n - (c + 1))) (hRR.symm.trans he) with ⟨p', f', v', σ', a1, a2, a3, a4, a5, a6, a7, a8⟩ | ⟨z, a1, σ', a2, a3, a4⟩
      · exact Or.inl ⟨_, a1, rfl, p', f', v', a2, a3.symm, a5, a6, a7, hF.tr a8⟩
      · exact Or.inr ⟨z, a1, σ', a2, hF.tr a3, a4⟩
    · obtain ⟨z1, z2⟩ := z
      obtain ⟨rfl, p, f, v, hE, hRR, hp, hf, hv, hF⟩ := hz
      dsimp only at hE hF
      rw [Nat.sub_self] at hRR
      refine ⟨.inl z2, ?_, sI z2 124 3 (flt 1 p), ?_, hF.tr (Fx_sI (Or.inl rfl)), fun e h => ?_, fun w h => ?_⟩
      · show ListReader_readEdge_l12 (nI n) (nI n) z2 = _
        unfold ListReader_readEdge_l12
        rw [if_pos (Int32.le_refl _)]
      · unfold finE
        dsimp only
        rw [show (1 : Int32) = nI 1 from rfl, c_fail2 1 hE.2.1, ← hRR]
        rfl
      · rw [← hRR] at h
        exact sI_same.trans (Sum.inl.inj (show (Sum.inl (flt 1 p) : ES) = .inl e from h))
      · rw [← hRR] at h
        exact absurd (show (Sum.inl (flt 1 p) : ES) = .inr w from h) (by intro q; cases q)
  refine ⟨σ', ?_, F0.tr h2, h3⟩
  unfold ListReader_readEdge
  rw [hbeg, e, Option.bind_some, h1]
  unfold bzo
  rw [Option.bind_some]
  cases okR2 R <;> rfl
end EDG
