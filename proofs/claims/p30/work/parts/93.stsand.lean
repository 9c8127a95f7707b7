/-! sanding, the call -/
section STS
variable {σ : MH} {A : Nat → Int32} {i j k n h p r s a c R S q : Nat} {x y b1 z b2 w more : Int32}
theorem c_sno (h : Pz_canSand x y b1 σ = some 0) : Pz_sanding x y b1 z b2 w more σ = some (-1, σ) := by
  unfold Pz_sanding Pz_sanding0 Pz_sanding_b12 Pz_sanding_b26 Pz_sanding_b31
  simp only [h, Option.bind_some, if_true, ite_self]
theorem c_smore (h : more < 0 ∨ 99 < more) : Pz_sanding x y b1 z b2 w more σ = some (-1, σ) := by
  unfold Pz_sanding Pz_sanding0 Pz_sanding_b12 Pz_sanding_b26 Pz_sanding_b31
  rcases h with h | h
  · simp only [h, if_true, ite_self]
  · simp only [h, if_true, ite_self]
theorem w_kinds (w : Int32) : (∃ q, w = nI q ∧ (q < 8 ∨ q = 10 ∨ q = 11)) ∨ ((w < 0 ∨ 8 ≤ w) ∧ w ≠ 10 ∧ w ≠ 11) := by
  rcases limN w 11 with ⟨q, hq, rfl⟩ | h
  · by_cases c : q < 8 ∨ q = 10 ∨ q = 11
    · exact Or.inl ⟨q, rfl, c⟩
    · right
      refine ⟨Or.inr ((leR 8 (by omega) (by decide)).mpr (by omega)), mt (eqL 10 (by omega) (by decide)).mp (by omega), mt (eqL 11 (by omega) (by decide)).mp (by omega)⟩
  · right
    rw [ti_lt, ti_lt, show (0 : Int32).toInt = 0 from rfl, show (OfNat.ofNat 11 : Int32).toInt = 11 from rfl] at h
    rw [ti_lt, ti_le, show (0 : Int32).toInt = 0 from rfl, show (8 : Int32).toInt = 8 from rfl]
    refine ⟨by omega, fun e => ?_, fun e => ?_⟩
    · rw [e, show (10 : Int32).toInt = 10 from rfl] at h; omega
    · rw [e, show (11 : Int32).toInt = 11 from rfl] at h; omega
theorem c_swhat (h : (w < 0 ∨ 8 ≤ w) ∧ w ≠ 10 ∧ w ≠ 11) : Pz_sanding x y b1 z b2 w more σ = some (-1, σ) := by
  obtain ⟨h1, h2, h3⟩ := h
  unfold Pz_sanding Pz_sanding0 Pz_sanding_b12 Pz_sanding_b31
  rw [if_neg h2, if_neg h3, if_pos rfl]
  rcases h1 with h1 | h1
  · rw [if_pos h1]
  · rw [if_neg (show ¬ w < 8 from fun e => ne_of_lt32 e h1)]
    split <;> rfl
theorem c_sgo (hq : q < 8 ∨ q = 10 ∨ q = 11) {m : Nat} (hm : m ≤ 99) : Pz_sanding x y b1 z b2 (nI q) (nI m) σ = ((Pz_canSand x y b1 σ).bind fun x1 => if x1 = 0 then some (-1, σ) else (if z = -1 then (Pz_sanding_b88 x y b1 z b2 (nI q) (nI m) σ) else (if z = y then some (-1, σ) else ((Pz_canSand x z b2 σ).bind fun x24 => if x24 = 0 then some (-1, σ) else (Pz_sanding_b88 x y b1 z b2 (nI q) (nI m) σ))))) := by
  obtain ⟨m1, m2, m3, m4⟩ := limN_y 99 hm (by decide) σ
  have e : Pz_sanding_b26 x y b1 z b2 (nI q) (nI m) σ = ((Pz_canSand x y b1 σ).bind fun x1 => if x1 = 0 then some (-1, σ) else (if z = -1 then (Pz_sanding_b88 x y b1 z b2 (nI q) (nI m) σ) else (if z = y then some (-1, σ) else ((Pz_canSand x z b2 σ).bind fun x24 => if x24 = 0 then some (-1, σ) else (Pz_sanding_b88 x y b1 z b2 (nI q) (nI m) σ))))) := by
    unfold Pz_sanding_b26 Pz_sanding_b31
    rw [if_neg (show ¬ (1 : Int32) = 0 by decide), if_neg m2, if_neg m4]
  rw [← e]
  unfold Pz_sanding Pz_sanding0 Pz_sanding_b12
  rw [if_neg (nI_pos (by omega))]
  by_cases c : q < 8
  · rw [if_pos ((ltL 8 (by omega) (by decide)).mpr c)]
  · rw [if_neg (mt (ltL 8 (by omega) (by decide)).mp c)]
    by_cases d : q = 10
    · rw [if_pos ((eqL 10 (by omega) (by decide)).mpr d)]
    · rw [if_neg (mt (eqL 10 (by omega) (by decide)).mp d), if_pos ((eqL 11 (by omega) (by decide)).mpr (by omega))]
theorem m_tw (v : Int32) : Md_isTwelve v σ = some (if v < 0 then 0 else if 12 ≤ v then 0 else 1) := by
  unfold Md_isTwelve Md_isTwelve0
  split
  · rfl
  · split <;> rfl
theorem m_s56 (h : Md_sanding_b56 x y b1 z b2 w more σ = some (-1, σ)) : Md_sanding x y b1 z b2 w more σ = some (-1, σ) := by
  unfold Md_sanding Md_sanding0
  simp only [m_tw, Option.bind_some, h, ite_self]
theorem m_s79 (h : Md_sanding_b79 x y b1 z b2 w more σ = some (-1, σ)) : Md_sanding_b56 x y b1 z b2 w more σ = some (-1, σ) := by
  unfold Md_sanding_b56
  simp only [m_in, Option.bind_some, h, ite_self]
theorem m_swhat (h : (w < 0 ∨ 8 ≤ w) ∧ w ≠ 10 ∧ w ≠ 11) : Md_sanding x y b1 z b2 w more σ = some (-1, σ) := by
  refine m_s56 ?_
  obtain ⟨h1, h2, h3⟩ := h
  unfold Md_sanding_b56
  rw [m_in, m_in, Option.bind_some, Option.bind_some]
  rw [ti_lt, ti_le, show (0 : Int32).toInt = 0 from rfl, show (8 : Int32).toInt = 8 from rfl] at h1
  have a1 : (decide ((0 : Int32) ≤ w) && decide (w ≤ 7)) = false := by
    rw [Bool.and_eq_false_iff, decide_eq_false_iff_not, decide_eq_false_iff_not, ti_le, ti_le, show (0 : Int32).toInt = 0 from rfl, show (7 : Int32).toInt = 7 from rfl]
    omega
  have a2 : (decide ((10 : Int32) ≤ w) && decide (w ≤ 11)) = false := by
    rw [Ne, ti_eq, show (10 : Int32).toInt = 10 from rfl] at h2
    rw [Ne, ti_eq, show (11 : Int32).toInt = 11 from rfl] at h3
    rw [Bool.and_eq_false_iff, decide_eq_false_iff_not, decide_eq_false_iff_not, ti_le, ti_le, show (10 : Int32).toInt = 10 from rfl, show (11 : Int32).toInt = 11 from rfl]
    omega
  rw [a1, a2, bI_f, if_pos rfl, if_pos rfl]
theorem m_smore (h : more < 0 ∨ 99 < more) : Md_sanding x y b1 z b2 w more σ = some (-1, σ) := by
  refine m_s56 (m_s79 ?_)
  unfold Md_sanding_b79
  have e : Md_in more 0 99 σ = some 0 := limN_n h σ
  rw [e, Option.bind_some, if_pos rfl]
theorem m_s60 (h : 60 < b1) : Md_sanding x y b1 z b2 w more σ = some (-1, σ) := by
  refine m_s56 (m_s79 ?_)
  unfold Md_sanding_b79
  rw [m_in, Option.bind_some, if_pos h]
  simp only [ite_self]
theorem m_sgo (hk : k < 12) (ha : a < 12) (hka : nI k ≠ nI a) {u : Nat} (hu : u ≤ 60) (hq : q < 8 ∨ q = 10 ∨ q = 11) {m : Nat} (hm : m ≤ 99) : Md_sanding (nI k) (nI a) (nI u) z b2 (nI q) (nI m) σ = (if z = -1 then Md_sanding_b79 (nI k) (nI a) (nI u) z b2 (nI q) (nI m) σ else ((Md_isTwelve z σ).bind fun x57 => if x57 = 0 then some (-1, σ) else (if z = nI a then some (-1, σ) else (if z = nI k then some (-1, σ) else (if 0 ≤ b2 then Md_sanding_b79 (nI k) (nI a) (nI u) z b2 (nI q) (nI m) σ else some (-1, σ)))))) := by
  have e : Md_sanding_b56 (nI k) (nI a) (nI u) z b2 (nI q) (nI m) σ = Md_sanding_b79 (nI k) (nI a) (nI u) z b2 (nI q) (nI m) σ := by
    unfold Md_sanding_b56
    rw [lit_nI 0, lit_nI 7, lit_nI 10, lit_nI 11, m_in_n (by decide) (by decide) (by omega), m_in_n (by decide) (by decide) (by omega), Option.bind_some, Option.bind_some]
    by_cases c : q < 8
    · rw [decide_eq_true (show 0 ≤ q by omega), decide_eq_true (show q ≤ 7 by omega)]
      rfl
    · rw [decide_eq_true (show 0 ≤ q by omega), decide_eq_false (show ¬ q ≤ 7 by omega), decide_eq_true (show 10 ≤ q by omega), decide_eq_true (show q ≤ 11 by omega)]
      rfl
  unfold Md_sanding Md_sanding0
  rw [m_isTwelve hk, Option.bind_some, if_neg (by decide), m_isTwelve ha, Option.bind_some, if_neg (by decide), if_neg hka, if_neg (nI_pos (by omega)), e]
theorem m_b79 (hk : k < 12) (ha : a < 12) {u v1 v2 : Nat} (hu : u ≤ 60) (h1 : v1 ≤ 99) (h2 : v2 ≤ 99) (e1 : σ.1 167 (72 + k) = nI v1) (e2 : σ.1 167 (72 + a) = nI v2) {m : Nat} (hm : m ≤ 99) : Md_sanding_b79 (nI k) (nI a) (nI u) z b2 w (nI m) σ = if 60 < u + v1 + v2 then some (-1, σ) else (if z = -1 then Md_sanding_b167 (nI k) (nI a) (nI u) z b2 w (nI m) σ else (if 60 < b2 then some (-1, σ) else (if inb (72 + z) 1936 = true then if (b2 + (σ.1 167 (72 + k))) + (σ.1 167 (72 + z).toNatClampNeg) ≤ 60 then (Md_sanding_b167 (nI k) (nI a) (nI u) z b2 w (nI m) σ) else some (-1, σ) else none))) := by
  have c1 := ixc (c := 72) hk (by decide)
  have c2 := ixc (c := 72) ha (by decide)
  have e : Md_in (nI m) 0 99 σ = some 1 := (limN_y 99 hm (by decide) σ).1
  unfold Md_sanding_b79
  rw [e, Option.bind_some, if_neg (by decide), if_neg (mt (ltR 60 (by omega) (by decide)).mp (by omega)), lit_nI 72, if_pos c1.1, if_pos c2.1, c1.2, c2.2, e1, e2, nI_add, nI_add]
  by_cases q : 60 < u + v1 + v2
  · rw [if_pos q, if_pos ((ltR 60 (by omega) (by decide)).mpr q)]
  · rw [if_neg q, if_neg (mt (ltR 60 (by omega) (by decide)).mp q)]
theorem hm99 {m : Nat} (hm : m ≤ 99) : 0 ≤ (nI m).toInt ∧ (nI m).toInt ≤ 99 := by rw [nI_toInt (by omega)]; omega
def sX (σ : MH) (k a : Nat) (z : Int32) : MH := sI (sI (sI σ 166 43 (nI k)) 166 44 (nI a)) 166 45 z
theorem sX_row : (sX σ k a z).1 167 = σ.1 167 := by
  unfold sX
  rw [sI_objF (by decide), sI_objF (by decide), sI_objF (by decide)]
theorem sX_ctx {b : Option Nat} (hb : z = b45 b) : CtxM (σ.1 167) k a b (sX σ k a z) := by
  refine ⟨sX_row, ?_, ?_, ?_⟩
  · unfold sX
    rw [sI_fld (by decide), sI_fld (by decide), sI_same]
  · unfold sX
    rw [sI_fld (by decide), sI_same]
  · unfold sX
    rw [sI_same, hb]
theorem sX_fx : Fx PQ σ (sX σ k a z) := ((Fx_sI (P := PQ) (by unfold PQ; omega)).tr (Fx_sI (by unfold PQ; omega))).tr (Fx_sI (by unfold PQ; omega))
/-- of one only -/
theorem m_167a (hk : k < 12) (ha : a < 12) {u v1 v2 : Nat} (h1 : u + v1 + v2 ≤ 60) (e1 : σ.1 167 (72 + k) = nI v1) (e2 : σ.1 167 (72 + a) = nI v2) {m : Nat} (hm : m ≤ 99) (wf : WF (σ.1 167)) (hq : q < 8 ∨ q = 10 ∨ q = 11) : ∃ σ', Md_sanding_b167 (nI k) (nI a) (nI u) (-1) b2 (nI q) (nI m) σ = some (ansS (σ.1 167) k a none (u + v1 + v2) 0 q (nI m), σ') ∧ Fx PQ σ σ' := by
  have c1 := ixc (c := 72) hk (by decide)
  have c2 := ixc (c := 72) ha (by decide)
  obtain ⟨σ', e, p⟩ := m_254 (R := u + v1 + v2) (S := 0) (q := q) (more := nI m) (b := none) wf hk ha (fun c h => by cases h) (sX_ctx (σ := σ) (k := k) (a := a) (z := -1) rfl) h1 (Nat.le_refl _) hq (hm99 hm)
  refine ⟨σ', ?_, sX_fx.tr (p.mo (fun b m q => by unfold PQ; omega))⟩
  unfold Md_sanding_b167 Md_sanding_b239
  rw [lit_nI 72, if_pos c1.1, if_pos c2.1, if_pos rfl, if_pos rfl, c1.2, c2.2, show sI (sI (sI σ 166 43 (nI k)) 166 44 (nI a)) 166 45 (-1) = sX σ k a (-1) from rfl, sX_row, e1, e2, nI_add, nI_add]
  exact e
theorem m_167b (hk : k < 12) (ha : a < 12) (hc : c < 12) {u v1 v2 u2 v3 : Nat} (h1 : u + v1 + v2 ≤ 60) (h2 : u2 + v1 + v3 ≤ 60) (e1 : σ.1 167 (72 + k) = nI v1) (e2 : σ.1 167 (72 + a) = nI v2) (e3 : σ.1 167 (72 + c) = nI v3) {m : Nat} (hm : m ≤ 99) (wf : WF (σ.1 167)) (hq : q < 8 ∨ q = 10 ∨ q = 11) : ∃ σ', Md_sanding_b167 (nI k) (nI a) (nI u) (nI c) (nI u2) (nI q) (nI m) σ = some (ansS (σ.1 167) k a (some c) (u + v1 + v2) (u2 + v1 + v3) q (nI m), σ') ∧ Fx PQ σ σ' := by
  have c1 := ixc (c := 72) hk (by decide)
  have c2 := ixc (c := 72) ha (by decide)
  have c3 := ixc (c := 72) hc (by decide)
  have hn : nI c ≠ -1 := nI_m1 (by omega)
  obtain ⟨σ', e, p⟩ := m_254 (R := u + v1 + v2) (S := u2 + v1 + v3) (q := q) (more := nI m) (b := some c) wf hk ha (fun x h => by cases h; exact hc) (sX_ctx (σ := σ) (k := k) (a := a) (z := nI c) rfl) h1 h2 hq (hm99 hm)
  refine ⟨σ', ?_, sX_fx.tr (p.mo (fun b m q => by unfold PQ; omega))⟩
  unfold Md_sanding_b167 Md_sanding_b239
  rw [lit_nI 72, if_pos c1.1, if_pos c2.1, if_neg hn, if_pos c3.1, if_neg hn, c1.2, c2.2, c3.2, show sI (sI (sI σ 166 43 (nI k)) 166 44 (nI a)) 166 45 (nI c) = sX σ k a (nI c) from rfl, sX_row, e1, e2, e3, nI_add, nI_add, nI_add, nI_add]
  exact e
theorem c_88a (hD : LD 1 A σ) (wf : WF A) (hk : k < 12) (ha : a < 12) {u v1 v2 : Nat} (h1 : u + v1 + v2 ≤ 60) (e1 : A (72 + k) = nI v1) (e2 : A (72 + a) = nI v2) (hq : q < 8 ∨ q = 10 ∨ q = 11) : ∃ σ', Pz_sanding_b88 (nI k) (nI a) (nI u) (-1) b2 (nI q) more σ = some (ansS A k a none (u + v1 + v2) 0 q more, σ') ∧ Fx PC σ σ' := by
  obtain ⟨f1, f2, f3, f4⟩ := ix3 12 hk
  obtain ⟨g1, g2, g3, g4⟩ := ix3 12 ha
  obtain ⟨σ1, e, p, d⟩ := c_sand1 (σ := σ) (R := u + v1 + v2) hD wf hk ha h1
  have hD1 : LD 1 A σ1 := LD_of hD (fun b m s t => p b m (by omega))
  refine ⟨σ1, ?_, p.mo (fun b m q => by unfold PC; omega)⟩
  unfold Pz_sanding_b88
  rw [if_pos f2, if_pos g2, f3, g3, rf9 hk, rf9 ha, v_isNumberF (Or.inl (by decide)), Option.bind_some, if_pos rfl, show σ.1 8 k = A (72 + k) from (hD.2.1 k hk).2.2.2.2.2.1, show σ.1 8 a = A (72 + a) from (hD.2.1 a ha).2.2.2.2.2.1, e1, e2, nI_add, nI_add, e, Option.bind_some, c_215 hD1 hk d hq]
theorem c_88b (hD : LD 1 A σ) (wf : WF A) (hk : k < 12) (ha : a < 12) (hc : c < 12) {u v1 v2 u2 v3 : Nat} (h1 : u + v1 + v2 ≤ 60) (h2 : u2 + v1 + v3 ≤ 60) (e1 : A (72 + k) = nI v1) (e2 : A (72 + a) = nI v2) (e3 : A (72 + c) = nI v3) (hq : q < 8 ∨ q = 10 ∨ q = 11) : ∃ σ', Pz_sanding_b88 (nI k) (nI a) (nI u) (nI c) (nI u2) (nI q) more σ = some (ansS A k a (some c) (u + v1 + v2) (u2 + v1 + v3) q more, σ') ∧ Fx PC σ σ' := by
  obtain ⟨f1, f2, f3, f4⟩ := ix3 12 hk
  obtain ⟨g1, g2, g3, g4⟩ := ix3 12 ha
  obtain ⟨k1, k2, k3, k4⟩ := ix3 12 hc
  obtain ⟨σ1, e, p, d⟩ := c_sand2 (σ := σ) (R := u + v1 + v2) (S := u2 + v1 + v3) hD wf hk ha hc h1 h2
  have hD1 : LD 1 A σ1 := LD_of hD (fun b m s t => p b m (by omega))
  refine ⟨σ1, ?_, p.mo (fun b m q => by unfold PC; omega)⟩
  unfold Pz_sanding_b88
  rw [if_pos f2, if_pos g2, f3, g3, rf9 hk, rf9 ha, v_isNumber hc, Option.bind_some, if_neg (by decide), if_pos k2, k3, rf9 hc, show σ.1 8 k = A (72 + k) from (hD.2.1 k hk).2.2.2.2.2.1, show σ.1 8 a = A (72 + a) from (hD.2.1 a ha).2.2.2.2.2.1, show σ.1 8 c = A (72 + c) from (hD.2.1 c hc).2.2.2.2.2.1, e1, e2, e3, nI_add, nI_add, nI_add, nI_add, e, Option.bind_some, c_215 hD1 hk d hq]
theorem st_sanding (hI : Inv σ) (x y b1 z b2 w more : Int32) : ∃ (r r' : Int32) (σ1 : MH) (σ2 : MH), Pz_sanding x y b1 z b2 w more σ = some (r, σ1) ∧ Md_sanding x y b1 z b2 w more σ1 = some (r', σ2) ∧ r = r' ∧ Inv σ2 := by
  have no : Pz_sanding x y b1 z b2 w more σ = some (-1, σ) → Md_sanding x y b1 z b2 w more σ = some (-1, σ) → ∃ (r r' : Int32) (σ1 : MH) (σ2 : MH), Pz_sanding x y b1 z b2 w more σ = some (r, σ1) ∧ Md_sanding x y b1 z b2 w more σ1 = some (r', σ2) ∧ r = r' ∧ Inv σ2 := fun h1 h2 => ⟨-1, -1, σ, σ, h1, h2, rfl, hI⟩
  rcases w_kinds w with ⟨q, rfl, hq⟩ | hw
  · rcases limN more 99 with ⟨m, hm, rfl⟩ | hm
    · rcases tw_ix x with ⟨k, hk, rfl⟩ | hx
      · rcases tw_ix y with ⟨a, ha, rfl⟩ | hy
        · by_cases hka : nI k = nI a
          · refine no (c_sno (c_canN (Or.inr (Or.inr (Or.inl hka))))) ?_
            unfold Md_sanding Md_sanding0
            rw [m_isTwelve hk, Option.bind_some, if_neg (by decide), m_isTwelve ha, Option.bind_some, if_neg (by decide), if_pos hka]
          · rcases limN b1 60 with ⟨u, hu, rfl⟩ | hb1
            · obtain ⟨v1, g1, e1⟩ := wear_nI hI.2.1 hk
              obtain ⟨v2, g2, e2⟩ := wear_nI hI.2.1 ha
              have hcan := c_canY hI.1 hk ha hka hu g1 g2 e1 e2
              have hmg := m_sgo (σ := σ) (z := z) (b2 := b2) hk ha hka hu hq hm
              have hb79 := m_b79 (σ := σ) (z := z) (b2 := b2) (w := nI q) hk ha hu g1 g2 e1 e2 hm
              by_cases hs : u + v1 + v2 ≤ 60
              · rw [decide_eq_true hs] at hcan
                rw [if_neg (show ¬ 60 < u + v1 + v2 by omega)] at hb79
                by_cases hz : z = -1
                · subst hz
                  rw [if_pos rfl] at hb79 hmg
                  obtain ⟨σ1, c1, p1⟩ := c_88a (b2 := b2) (more := nI m) hI.1 hI.2.1 hk ha hs e1 e2 hq
                  have p1' : Fx PX σ σ1 := p1.mo (fun b k q => Or.inl q)
                  have hJ : Inv σ1 := Inv_q hI p1'
                  have rt := row_PX p1'
                  obtain ⟨σ2, c2, p2⟩ := m_167a (σ := σ1) (b2 := b2) hk ha hs (by rw [rt]; exact e1) (by rw [rt]; exact e2) hm hJ.2.1 hq
                  rw [rt] at c2
                  have hmg1 := m_sgo (σ := σ1) (z := -1) (b2 := b2) hk ha hka hu hq hm
                  have hb791 := m_b79 (σ := σ1) (z := -1) (b2 := b2) (w := nI q) hk ha hu g1 g2 (by rw [rt]; exact e1) (by rw [rt]; exact e2) hm
                  rw [if_neg (show ¬ 60 < u + v1 + v2 by omega), if_pos rfl] at hb791
                  rw [if_pos rfl] at hmg1
                  refine ⟨_, _, σ1, σ2, Eq.trans ?_ c1, Eq.trans ?_ c2, rfl, Inv_q hJ (p2.mo (fun b k q => Or.inr q))⟩
                  · rw [c_sgo hq hm, hcan, Option.bind_some, bI_t, if_neg (show ¬ (1 : Int32) = 0 by decide), if_pos rfl]
                  · rw [hmg1, hb791]
                · rw [if_neg hz] at hb79 hmg
                  rcases tw_ix z with ⟨c, hc, rfl⟩ | hz12
                  · rw [m_isTwelve hc, Option.bind_some, if_neg (by decide)] at hmg
                    by_cases hca : nI c = nI a
                    · rw [if_pos hca] at hmg
                      refine no ?_ hmg
                      rw [c_sgo hq hm, hcan, Option.bind_some, bI_t, if_neg (show ¬ (1 : Int32) = 0 by decide), if_neg hz, if_pos hca]
                    · rw [if_neg hca] at hmg
                      have hcl : Pz_sanding (nI k) (nI a) (nI u) (nI c) b2 (nI q) (nI m) σ = ((Pz_canSand (nI k) (nI c) b2 σ).bind fun x24 => if x24 = 0 then some (-1, σ) else (Pz_sanding_b88 (nI k) (nI a) (nI u) (nI c) b2 (nI q) (nI m) σ)) := by
                        rw [c_sgo hq hm, hcan, Option.bind_some, bI_t, if_neg (show ¬ (1 : Int32) = 0 by decide), if_neg hz, if_neg hca]
                      by_cases hck : nI c = nI k
                      · rw [if_pos hck] at hmg
                        refine no ?_ hmg
                        rw [hcl, c_canN (Or.inr (Or.inr (Or.inl hck.symm)))]
                        rfl
                      · rw [if_neg hck] at hmg
                        rcases limN b2 60 with ⟨u2, hu2, rfl⟩ | hb2
                        · obtain ⟨v3, g3, e3⟩ := wear_nI hI.2.1 hc
                          have cc := ixc (c := 72) hc (by decide)
                          rw [if_pos ((leR 0 (by omega) (by decide)).mpr (Nat.zero_le _))] at hmg
                          rw [if_neg (mt (ltR 60 (by omega) (by decide)).mp (by omega)), lit_nI 72, if_pos cc.1, cc.2, e1, e3, nI_add, nI_add] at hb79
                          have hcan2 := c_canY hI.1 hk hc (fun e => hck e.symm) hu2 g1 g3 e1 e3
                          by_cases hs2 : u2 + v1 + v3 ≤ 60
                          · rw [decide_eq_true hs2] at hcan2
                            obtain ⟨σ1, c1, p1⟩ := c_88b (more := nI m) hI.1 hI.2.1 hk ha hc hs hs2 e1 e2 e3 hq
                            have p1' : Fx PX σ σ1 := p1.mo (fun b k q => Or.inl q)
                            have hJ : Inv σ1 := Inv_q hI p1'
                            have rt := row_PX p1'
                            obtain ⟨σ2, c2, p2⟩ := m_167b (σ := σ1) hk ha hc hs hs2 (by rw [rt]; exact e1) (by rw [rt]; exact e2) (by rw [rt]; exact e3) hm hJ.2.1 hq
                            rw [rt] at c2
                            have hmg1 := m_sgo (σ := σ1) (z := nI c) (b2 := nI u2) hk ha hka hu hq hm
                            have hb791 := m_b79 (σ := σ1) (z := nI c) (b2 := nI u2) (w := nI q) hk ha hu g1 g2 (by rw [rt]; exact e1) (by rw [rt]; exact e2) hm
                            rw [if_neg (show ¬ 60 < u + v1 + v2 by omega), if_neg hz, if_neg (mt (ltR 60 (by omega) (by decide)).mp (by omega)), lit_nI 72, if_pos cc.1, cc.2, rt, e1, e3, nI_add, nI_add, if_pos ((leL 60 (by omega) (by decide)).mpr hs2)] at hb791
                            rw [if_neg hz, m_isTwelve hc, Option.bind_some, if_neg (by decide), if_neg hca, if_neg hck, if_pos ((leR 0 (by omega) (by decide)).mpr (Nat.zero_le _))] at hmg1
                            refine ⟨_, _, σ1, σ2, Eq.trans ?_ c1, Eq.trans ?_ c2, rfl, Inv_q hJ (p2.mo (fun b k q => Or.inr q))⟩
                            · rw [hcl, hcan2, Option.bind_some, bI_t, if_neg (show ¬ (1 : Int32) = 0 by decide)]
                            · rw [hmg1, hb791]
                          · rw [decide_eq_false hs2] at hcan2
                            rw [if_neg (mt (leL 60 (by omega) (by decide)).mp hs2)] at hb79
                            rw [hb79] at hmg
                            refine no ?_ hmg
                            rw [hcl, hcan2]
                            rfl
                        · have hcan2 : Pz_canSand (nI k) (nI c) b2 σ = some 0 := c_canN (Or.inr (Or.inr (Or.inr hb2)))
                          have hc0 : Pz_sanding (nI k) (nI a) (nI u) (nI c) b2 (nI q) (nI m) σ = some (-1, σ) := by
                            rw [hcl, hcan2]
                            rfl
                          refine no hc0 ?_
                          rw [hmg]
                          rcases hb2 with hb2 | hb2
                          · rw [if_neg (ne_of_lt32 hb2)]
                          · rw [hb79, if_pos hb2]
                            split <;> rfl
                  · have hne : z ≠ nI a := fun e => by
                      obtain ⟨f1, f2, f3, f4⟩ := ix3 12 ha
                      rw [e] at hz12
                      rcases hz12 with h | h
                      · exact f4 h
                      · exact f1 h
                    rw [m_isTwelveF hz12, Option.bind_some, if_pos rfl] at hmg
                    refine no ?_ hmg
                    rw [c_sgo hq hm, hcan, Option.bind_some, bI_t, if_neg (show ¬ (1 : Int32) = 0 by decide), if_neg hz, if_neg hne, c_canN (Or.inr (Or.inl hz12))]
                    rfl
              · rw [decide_eq_false hs] at hcan
                rw [if_pos (show 60 < u + v1 + v2 by omega)] at hb79
                refine no (c_sno hcan) ?_
                rw [hmg, hb79]
                simp only [m_tw, Option.bind_some, ite_self]
            · refine no (c_sno (c_canN (Or.inr (Or.inr (Or.inr hb1))))) ?_
              rcases hb1 with hb1 | hb1
              · unfold Md_sanding Md_sanding0
                rw [m_isTwelve hk, Option.bind_some, if_neg (by decide), m_isTwelve ha, Option.bind_some, if_neg (by decide), if_neg hka, if_pos hb1]
              · exact m_s60 hb1
        · refine no (c_sno (c_canN (Or.inr (Or.inl hy)))) ?_
          unfold Md_sanding Md_sanding0
          rw [m_isTwelve hk, Option.bind_some, if_neg (by decide), m_isTwelveF hy, Option.bind_some, if_pos rfl]
      · refine no (c_sno (c_canN (Or.inl hx))) ?_
        unfold Md_sanding Md_sanding0
        rw [m_isTwelveF hx, Option.bind_some, if_pos rfl]
    · exact no (c_smore hm) (m_smore hm)
  · exact no (c_swhat hw) (m_swhat hw)
end STS
