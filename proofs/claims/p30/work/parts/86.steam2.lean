/-! steaming, the reference's loops and the call -/
section ST2
variable {σ : MH} {A : Nat → Int32} {i j k n w t r : Nat} {S : Option (Nat × Nat)}
theorem hg_bd (wf : WF A) (hi : i < 12) : ∀ h, h < 8 → -9 ≤ hgR A i h ∧ hgR A i h ≤ 9 := fun h hh => by
  have := (wf.2.2.2.2 i hi).2.2.2.2.2.2.2.1 h hh
  exact this
theorem md_bd (t : Nat) (y : Int32) (h : Nat) : -9 ≤ mdR A i t y h ∧ mdR A i t y h ≤ 9 := by
  unfold mdR
  generalize hgR A i ((h + t) % 8) + y = x
  unfold jmax jmin
  grind
theorem room_eq {g a b by_ : Int32} (hg : 0 ≤ g.toInt ∧ g.toInt ≤ 144) (ha : 0 ≤ a.toInt ∧ a.toInt ≤ 99) (hb : 0 ≤ b.toInt ∧ b.toInt ≤ 99) (hy : 0 ≤ by_.toInt ∧ by_.toInt ≤ 99) : (jmax 0 (g - a - b) ≤ by_) ↔ (g ≤ (by_ + a) + b) := by
  have e1 : (g - a).toInt = g.toInt - a.toInt := ti_sub (by omega) (by omega)
  have e2 : (g - a - b).toInt = g.toInt - a.toInt - b.toInt := by rw [ti_sub (by omega) (by omega), e1]
  have e3 : (by_ + a).toInt = by_.toInt + a.toInt := ti_add (by omega) (by omega)
  have e4 : (by_ + a + b).toInt = by_.toInt + a.toInt + b.toInt := by rw [ti_add (by omega) (by omega), e3]
  have e0 : (0 : Int32).toInt = 0 := rfl
  unfold jmax
  rw [ti_le (x := g), e4]
  by_cases q : (0 : Int32) < g - a - b
  · rw [if_pos q, ti_le, e2]
    rw [ti_lt, e2, e0] at q
    omega
  · rw [if_neg q, ti_le, e0]
    rw [ti_lt, e2, e0] at q
    omega
theorem wear_ti (wf : WF A) (hi : i < 12) : 0 ≤ (A (72 + i)).toInt ∧ (A (72 + i)).toInt ≤ 99 := by
  have := w_wear wf i hi
  rw [ti_le, ti_le] at this
  exact this
theorem m_steam1 (wf : WF (σ.1 167)) (hi : i < 12) (hj : j < 12) (ht : t < 8) (hr : r < 19) {b : Int32} (hb : 0 ≤ b.toInt ∧ b.toInt ≤ 99) (hS : okS S) (v4 : Int32) : Md_steaming_l62 (nI i) (nI j) b v4 (nI t) (eM S).1 (eM S).2 (nI r - 9) σ = some (.inl ((eM (stS (hitS (σ.1 167) i j ((b + σ.1 167 (72 + i)) + σ.1 167 (72 + j))) t r S)).1, (eM (stS (hitS (σ.1 167) i j ((b + σ.1 167 (72 + i)) + σ.1 167 (72 + j))) t r S)).2, nI (r + 1) - 9)) := by
  obtain ⟨u1, u2⟩ := up_go hr
  have hw := wk_le ht hr
  have ew : nI t + nI (upS r) = nI (wkS t r) := by rw [nI_add]; rfl
  have hit : (jmax 0 (gapR (mdR (σ.1 167) i t (nI r - 9)) (hgR (σ.1 167) j) - σ.1 167 (72 + i) - σ.1 167 (72 + j)) ≤ b) ↔ hitS (σ.1 167) i j ((b + σ.1 167 (72 + i)) + σ.1 167 (72 + j)) t r = true := by
    unfold hitS
    rw [decide_eq_true_iff]
    exact room_eq (gapR_bd (fun k _ => md_bd t _ k) (hg_bd wf hj)) (wear_ti wf hi) (wear_ti wf hj) hb
  have e20 : ((20 * nI t) + (nI r - 9)) + 10 = nI (20 * t + r + 1) := by
    have h1 : (20 : Int32) * nI t = nI (20 * t) := by rw [lit_nI 20, pk_mul]
    rw [h1]
    have h2 : nI (20 * t) + (nI r - 9) + 10 = nI (20 * t) + nI r + 1 := by grind
    rw [h2, nI_add]
    exact nI_1 _
  have hlt : ((eM S).2 ≤ nI (wkS t r)) ↔ ltS S (wkS t r) = false := by
    cases S with
    | none =>
      have : (eM none).2 = nI 1000000000 := rfl
      rw [this, nI_leI (by decide) (by omega)]
      constructor
      · intro h; omega
      · intro h; cases h
    | some q =>
      obtain ⟨a, c⟩ := q
      obtain ⟨ha, hc⟩ := hS a c rfl
      have hw2 := wk_le ha hc
      have e1 : (eM (some (a, c))).2 = nI (wkS a c) := rfl
      have e2 : ltS (some (a, c)) (wkS t r) = decide (wkS t r < wkS a c) := rfl
      rw [e1, e2, nI_leI (by omega) (by omega)]
      by_cases q : wkS t r < wkS a c
      · rw [decide_eq_true q]
        exact ⟨fun h => by omega, fun h => by cases h⟩
      · rw [decide_eq_false q]
        exact ⟨fun _ => rfl, fun _ => by omega⟩
  unfold Md_steaming_l62 Md_steaming_b122 stS
  rw [if_neg u1, m_size, Option.bind_some, up_is hr, ew, u2, m_slackSteamed hi hj ht, Option.bind_some, Option.bind_some, e20]
  cases hl : ltS S (wkS t r)
  · rw [if_pos (hlt.mpr hl), if_neg (by decide)]
  · rw [if_neg (fun z => by rw [hlt.mp z] at hl; cases hl), if_pos rfl]
    by_cases h : hitS (σ.1 167) i j ((b + σ.1 167 (72 + i)) + σ.1 167 (72 + j)) t r = true
    · rw [if_pos (hit.mpr h), if_pos h, ew]
      rfl
    · rw [if_neg (fun z => h (hit.mp z)), if_neg h]
theorem m_steam (wf : WF (σ.1 167)) (hi : i < 12) (hj : j < 12) {b : Int32} (hb : 0 ≤ b.toInt ∧ b.toInt ≤ 99) (v4 : Int32) : Md_steaming_L51 (nI i) (nI j) b v4 σ (-1, 1000000000, 0) = some (eM (allS (hitS (σ.1 167) i j ((b + σ.1 167 (72 + i)) + σ.1 167 (72 + j))) 8)) := by
  have inner : ∀ (t : Nat) (S : Option (Nat × Nat)), t < 8 → okS S → Md_steaming_L62 (nI i) (nI j) b v4 (nI t) σ ((eM S).1, (eM S).2, -9) = some (eM (rowS (hitS (σ.1 167) i j ((b + σ.1 167 (72 + i)) + σ.1 167 (72 + j))) t 19 S)) := by
    intro t S ht hS
    have key : ∃ r, Md_steaming_L62 (nI i) (nI j) b v4 (nI t) σ ((eM S).1, (eM S).2, -9) = some r ∧ r = eM (rowS (hitS (σ.1 167) i j ((b + σ.1 167 (72 + i)) + σ.1 167 (72 + j))) t 19 S) := by
      refine itr_n 19 (fun (k : Nat) (z : Int32 × Int32 × Int32) => ∃ U, U = rowS (hitS (σ.1 167) i j ((b + σ.1 167 (72 + i)) + σ.1 167 (72 + j))) t k S ∧ z = ((eM U).1, (eM U).2, nI k - 9)) _ ⟨S, rfl, rfl⟩ (fun k z hk hz => ?_) (fun z hz => ?_)
      · obtain ⟨U, hU, rfl⟩ := hz
        refine Or.inl ⟨_, m_steam1 wf hi hj ht hk hb (by rw [hU]; exact ok_row hS ht k (by omega)) v4, _, ?_, rfl⟩
        rw [hU]
        rfl
      · obtain ⟨U, hU, rfl⟩ := hz
        refine ⟨eM U, ?_, by rw [hU]⟩
        show Md_steaming_l62 (nI i) (nI j) b v4 (nI t) (eM U).1 (eM U).2 (nI 19 - 9) σ = _
        unfold Md_steaming_l62
        rw [if_pos (by decide)]
    obtain ⟨r, e, hr⟩ := key
    rw [e, hr]
  have key : ∃ r, Md_steaming_L51 (nI i) (nI j) b v4 σ (-1, 1000000000, 0) = some r ∧ r = eM (allS (hitS (σ.1 167) i j ((b + σ.1 167 (72 + i)) + σ.1 167 (72 + j))) 8) := by
    refine itr_n 8 (fun (k : Nat) (z : Int32 × Int32 × Int32) => ∃ U, U = allS (hitS (σ.1 167) i j ((b + σ.1 167 (72 + i)) + σ.1 167 (72 + j))) k ∧ z = ((eM U).1, (eM U).2, nI k)) _ ⟨none, rfl, rfl⟩ (fun k z hk hz => ?_) (fun z hz => ?_)
    · obtain ⟨U, hU, rfl⟩ := hz
      obtain ⟨f1, f2, f3, f4⟩ := ix3 8 hk
      refine Or.inl ⟨((eM (rowS (hitS (σ.1 167) i j ((b + σ.1 167 (72 + i)) + σ.1 167 (72 + j))) k 19 U)).1, (eM (rowS (hitS (σ.1 167) i j ((b + σ.1 167 (72 + i)) + σ.1 167 (72 + j))) k 19 U)).2, nI (k + 1)), ?_, _, ?_, rfl⟩
      · show Md_steaming_l51 (nI i) (nI j) b v4 (eM U).1 (eM U).2 (nI k) σ = _
        unfold Md_steaming_l51
        rw [if_neg f1, inner k U hk (by rw [hU]; exact ok_all k (by omega)), Option.bind_some, show nI k + 1 = nI (k + 1) from nI_1 _]
      · rw [hU]
        rfl
    · obtain ⟨U, hU, rfl⟩ := hz
      refine ⟨eM U, ?_, by rw [hU]⟩
      show Md_steaming_l51 (nI i) (nI j) b v4 (eM U).1 (eM U).2 (nI 8) σ = _
      unfold Md_steaming_l51
      rw [if_pos (by decide)]
  obtain ⟨r, e, hr⟩ := key
  rw [e, hr]
theorem div20 {t r : Nat} (ht : t < 8) (hr : r < 19) : nI (20 * t + r + 1) / 20 = nI t ∧ jrem (nI (20 * t + r + 1)) 20 = nI (r + 1) ∧ nI r - 9 + 10 = nI (r + 1) ∧ nI (20 * t + r + 1) ≠ -1 := by
  have : ∀ t, t < 8 → ∀ r, r < 19 → nI (20 * t + r + 1) / 20 = nI t ∧ jrem (nI (20 * t + r + 1)) 20 = nI (r + 1) ∧ nI r - 9 + 10 = nI (r + 1) ∧ nI (20 * t + r + 1) ≠ -1 := by decide +kernel
  exact this t ht r hr
theorem st_steaming (hI : Inv σ) (x y b w : Int32) : ∃ (r r' : Int32) (σ1 : MH), Pz_steaming x y b w σ = some (r, σ1) ∧ Md_steaming x y b w σ1 = some r' ∧ r = r' ∧ Inv σ1 := by
  have no : Pz_steaming x y b w σ = some (-1, σ) ∧ Md_steaming x y b w σ = some (-1) → ∃ (r r' : Int32) (σ1 : MH), Pz_steaming x y b w σ = some (r, σ1) ∧ Md_steaming x y b w σ1 = some r' ∧ r = r' ∧ Inv σ1 := fun h => ⟨-1, -1, σ, h.1, h.2, rfl, hI⟩
  rcases tw_ix x with ⟨i, hi, rfl⟩ | h
  · rcases tw_ix y with ⟨j, hj, rfl⟩ | h
    · by_cases hij : nI i = nI j
      · refine no ⟨?_, ?_⟩
        · unfold Pz_steaming Pz_steaming0
          rw [v_isNumber hi, v_isNumber hj, Option.bind_some, Option.bind_some, if_neg (by decide), if_neg (by decide), if_pos hij]
        · unfold Md_steaming Md_steaming0
          rw [m_isTwelve hi, m_isTwelve hj, Option.bind_some, Option.bind_some, if_neg (by decide), if_neg (by decide), if_pos hij]
      · rcases limN b 99 with ⟨bb, hbb, rfl⟩ | hb
        · obtain ⟨b1, b2, b3, b4⟩ := limN_y 99 hbb (by decide) σ
          rcases limN w 2 with ⟨ww, hww, rfl⟩ | hw
          · obtain ⟨w1, w2, w3, w4⟩ := limN_y 2 hww (by decide) σ
            obtain ⟨f1, f2, f3, f4⟩ := ix3 12 hi
            obtain ⟨g1, g2, g3, g4⟩ := ix3 12 hj
            have hbt : 0 ≤ (nI bb).toInt ∧ (nI bb).toInt ≤ 99 := by rw [nI_toInt (by omega)]; omega
            have ea : σ.1 8 i = σ.1 167 (72 + i) := (hI.1.2.1 i hi).2.2.2.2.2.1
            have eb : σ.1 8 j = σ.1 167 (72 + j) := (hI.1.2.1 j hj).2.2.2.2.2.1
            obtain ⟨σ1, e1, p1, he⟩ := c_steam hI.1 hi hj ((nI bb + σ.1 167 (72 + i)) + σ.1 167 (72 + j))
            have hJ : Inv σ1 := Inv_q hI (p1.mo (fun b k q => by unfold PX PC PQ; omega))
            have rt : σ1.1 167 = σ.1 167 := funext fun k => p1 167 k (by omega)
            have hm := m_steam (σ := σ1) (b := nI bb) (by rw [rt]; exact hI.2.1) hi hj hbt (nI ww)
            rw [rt] at hm
            have hok : okS (allS (hitS (σ.1 167) i j ((nI bb + σ.1 167 (72 + i)) + σ.1 167 (72 + j))) 8) := ok_all 8 (Nat.le_refl _)
            obtain ⟨b1', -⟩ := limN_y 99 hbb (by decide) σ1
            obtain ⟨w1', -⟩ := limN_y 2 hww (by decide) σ1
            have c1 : Pz_steaming (nI i) (nI j) (nI bb) (nI ww) σ = (if σ1.1 159 1 = 0 then some (-2, σ1) else (if nI ww = 0 then some (σ1.1 159 2, σ1) else (if nI ww = 1 then some (σ1.1 159 3, σ1) else some ((σ1.1 159 4) + 10, σ1)))) := by
              unfold Pz_steaming Pz_steaming0
              rw [v_isNumber hi, Option.bind_some, v_isNumber hj, Option.bind_some, if_neg (by decide), if_neg (by decide), if_neg hij, if_neg b2, if_pos b3, if_neg w2, if_pos w3, if_pos f2, if_pos g2, f3, g3, rf9 hi, rf9 hj, ea, eb, e1, Option.bind_some]
            have c2 : Md_steaming (nI i) (nI j) (nI bb) (nI ww) σ1 = (if (eM (allS (hitS (σ.1 167) i j ((nI bb + σ.1 167 (72 + i)) + σ.1 167 (72 + j))) 8)).1 = -1 then some (-2) else (if nI ww = 0 then some ((eM (allS (hitS (σ.1 167) i j ((nI bb + σ.1 167 (72 + i)) + σ.1 167 (72 + j))) 8)).2) else (if nI ww = 1 then some ((eM (allS (hitS (σ.1 167) i j ((nI bb + σ.1 167 (72 + i)) + σ.1 167 (72 + j))) 8)).1 / 20) else some (jrem (eM (allS (hitS (σ.1 167) i j ((nI bb + σ.1 167 (72 + i)) + σ.1 167 (72 + j))) 8)).1 20)))) := by
              unfold Md_steaming Md_steaming0
              rw [m_isTwelve hi, Option.bind_some, m_isTwelve hj, Option.bind_some, if_neg (by decide), if_neg (by decide), if_neg hij]
              rw [show (OfNat.ofNat 99 : Int32) = 99 from rfl] at b1'
              rw [show (OfNat.ofNat 2 : Int32) = 2 from rfl] at w1'
              rw [b1', Option.bind_some, if_neg (by decide), w1', Option.bind_some, if_neg (by decide), hm, Option.bind_some]
            rw [c1]
            generalize allS (hitS (σ.1 167) i j ((nI bb + σ.1 167 (72 + i)) + σ.1 167 (72 + j))) 8 = S at he hok c2
            cases S with
            | none =>
              rw [if_pos (he.1 rfl)]
              exact ⟨-2, -2, σ1, rfl, c2, rfl, hJ⟩
            | some q =>
              obtain ⟨a, c⟩ := q
              obtain ⟨z1, z2, z3, z4⟩ := he.2 a c rfl
              obtain ⟨ha, hc⟩ := hok a c rfl
              obtain ⟨d1, d2, d3, d4⟩ := div20 ha hc
              have m1 : (eM (some (a, c))).1 = nI (20 * a + c + 1) := rfl
              have m2 : (eM (some (a, c))).2 = nI (wkS a c) := rfl
              rw [m1, m2, if_neg d4, d1, d2] at c2
              rw [z1, if_neg (show ¬ (1 : Int32) = 0 by decide), z2, z3, z4, d3]
              by_cases q0 : nI ww = 0
              · rw [if_pos q0] at c2 ⊢
                exact ⟨_, _, σ1, rfl, c2, rfl, hJ⟩
              · rw [if_neg q0] at c2 ⊢
                by_cases q1 : nI ww = 1
                · rw [if_pos q1] at c2 ⊢
                  exact ⟨_, _, σ1, rfl, c2, rfl, hJ⟩
                · rw [if_neg q1] at c2 ⊢
                  exact ⟨_, _, σ1, rfl, c2, rfl, hJ⟩
          · refine no ⟨?_, ?_⟩
            · unfold Pz_steaming Pz_steaming0
              rw [v_isNumber hi, v_isNumber hj, Option.bind_some, Option.bind_some, if_neg (by decide), if_neg (by decide), if_neg hij, if_neg b2, if_pos b3]
              rcases hw with hw | hw
              · rw [if_pos hw]
              · rw [if_neg (show ¬ w ≤ 2 from fun z => ne_of_lt32 hw z)]
                split <;> rfl
            · unfold Md_steaming Md_steaming0
              rw [m_isTwelve hi, m_isTwelve hj, Option.bind_some, Option.bind_some, if_neg (by decide), if_neg (by decide), if_neg hij]
              rw [show (OfNat.ofNat 99 : Int32) = 99 from rfl] at b1
              rw [b1, Option.bind_some, if_neg (by decide), limN_n hw, Option.bind_some, if_pos rfl]
        · refine no ⟨?_, ?_⟩
          · unfold Pz_steaming Pz_steaming0
            rw [v_isNumber hi, v_isNumber hj, Option.bind_some, Option.bind_some, if_neg (by decide), if_neg (by decide), if_neg hij]
            rcases hb with hb | hb
            · rw [if_pos hb]
            · rw [if_neg (show ¬ b ≤ 99 from fun z => ne_of_lt32 hb z)]
              split <;> rfl
          · unfold Md_steaming Md_steaming0
            rw [m_isTwelve hi, m_isTwelve hj, Option.bind_some, Option.bind_some, if_neg (by decide), if_neg (by decide), if_neg hij, limN_n hb, Option.bind_some, if_pos rfl]
    · refine no ⟨?_, ?_⟩
      · unfold Pz_steaming Pz_steaming0
        rw [v_isNumber hi, v_isNumberF h, Option.bind_some, Option.bind_some, if_neg (by decide), if_pos rfl]
      · unfold Md_steaming Md_steaming0
        rw [m_isTwelve hi, m_isTwelveF h, Option.bind_some, Option.bind_some, if_neg (by decide), if_pos rfl]
  · refine no ⟨?_, ?_⟩
    · unfold Pz_steaming Pz_steaming0
      rw [v_isNumberF h, Option.bind_some, if_pos rfl]
    · unfold Md_steaming Md_steaming0
      rw [m_isTwelveF h, Option.bind_some, if_pos rfl]
end ST2
