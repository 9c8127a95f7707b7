/-! tried -/
theorem ltL {a : Nat} (b : Nat) (ha : a < 2 ^ 31) (hb : b < 2 ^ 31) : (nI a < (OfNat.ofNat b : Int32)) ↔ a < b := nI_ltI ha hb
theorem ltR {a : Nat} (b : Nat) (ha : a < 2 ^ 31) (hb : b < 2 ^ 31) : ((OfNat.ofNat b : Int32) < nI a) ↔ b < a := nI_ltI hb ha
theorem leL {a : Nat} (b : Nat) (ha : a < 2 ^ 31) (hb : b < 2 ^ 31) : (nI a ≤ (OfNat.ofNat b : Int32)) ↔ a ≤ b := nI_leI ha hb
theorem leR {a : Nat} (b : Nat) (ha : a < 2 ^ 31) (hb : b < 2 ^ 31) : ((OfNat.ofNat b : Int32) ≤ nI a) ↔ b ≤ a := nI_leI hb ha
theorem eqL {a : Nat} (b : Nat) (ha : a < 2 ^ 31) (hb : b < 2 ^ 31) : (nI a = (OfNat.ofNat b : Int32)) ↔ a = b := nI_eq ha hb
theorem subL {a : Nat} (b : Nat) (h : b ≤ a) : nI a - (OfNat.ofNat b : Int32) = nI (a - b) := pk_sub h
theorem addL {a : Nat} (b : Nat) : (OfNat.ofNat b : Int32) + nI a = nI (b + a) := nI_add b a
theorem what_kinds (x : Int32) : (∃ w, w ≤ 3 ∧ x = nI w) ∨ (∃ i, i < 12 ∧ x = nI (10 + i)) ∨ (∃ k, k < 12 ∧ x = nI (30 + k)) ∨ ((x < 0 ∨ 3 < x) ∧ (x < 10 ∨ 21 < x) ∧ (x < 30 ∨ 41 < x)) := by
  by_cases h : x < 0
  · exact Or.inr (Or.inr (Or.inr ⟨Or.inl h, Or.inl (by grind), Or.inl (by grind)⟩))
  · obtain ⟨n, hn, rfl⟩ := nI_of h
    rw [ltR 3 hn (by decide), ltL 10 hn (by decide), ltR 21 hn (by decide), ltL 30 hn (by decide), ltR 41 hn (by decide)]
    by_cases h1 : n ≤ 3
    · exact Or.inl ⟨n, h1, rfl⟩
    · by_cases h2 : 10 ≤ n ∧ n ≤ 21
      · exact Or.inr (Or.inl ⟨n - 10, by omega, by rw [show 10 + (n - 10) = n by omega]⟩)
      · by_cases h3 : 30 ≤ n ∧ n ≤ 41
        · exact Or.inr (Or.inr (Or.inl ⟨n - 30, by omega, by rw [show 30 + (n - 30) = n by omega]⟩))
        · refine Or.inr (Or.inr (Or.inr ⟨Or.inr ?_, ?_, ?_⟩))
          · omega
          · omega
          · omega
section CALLS
variable {L : LawF} {σ : MH} {A : Nat → Int32} {t i j k n : Nat}
/-- what is asked, after the days of the trial -/
def askR (S : RS) (w : Nat) : Int32 := if w = 0 then S.2.1 else if w = 1 then S.2.2.1 else if w = 2 then S.2.2.2 else if w = 3 then twosR S.1 else if w < 30 then S.1 (24 + (w - 10)) else S.1 (72 + (w - 30))
theorem c_tried_go (hI : Inv σ) (hL : LawOK L) (hC : LawC L σ) (h2 : n ≤ 60) : ∃ σ1 σ2, Land_copyFrom 73 1 σ = some σ1 ∧ Course_pass 73 (nI n) σ1 = some σ2 ∧ CR L 73 (daysR L n (σ.1 167)) σ2 ∧ Fx PX σ σ2 := by
  obtain ⟨σ1, e1, c1, f1⟩ := c_copyFrom (t := 73) (u := 1) (by omega) σ
  obtain ⟨σ2, e2, c2, f2⟩ := c_pass ld73 hL (LD_CP hI.1 c1) hI.2.1 (LawC_of hC (fun b k a c => f1 b k (by omega))) h2
  exact ⟨σ1, σ2, e1, e2, c2, (f1.mo (fun b k q => by unfold PX PC PQ; omega)).tr (f2.mo (fun b k q => by unfold PD at q; unfold PX PC PQ; omega))⟩
theorem c_b94 (hI : Inv σ) (hL : LawOK L) (hC : LawC L σ) (h2 : n ≤ 60) {w : Nat} {v3 v4 : Int32} (hw : (w ≤ 3 ∧ v3 = 0 ∧ v4 = 0) ∨ (10 ≤ w ∧ w ≤ 21 ∧ v3 = 1) ∨ (30 ≤ w ∧ w ≤ 41 ∧ v3 = 0 ∧ v4 = 1)) : ∃ σ2, Pz_tried_b94 (nI n) (nI w) v3 v4 σ = some (askR (daysR L n (σ.1 167)) w, σ2) ∧ Fx PX σ σ2 := by
  obtain ⟨σ1, σ2, e1, e2, c2, f2⟩ := c_tried_go hI hL hC h2
  refine ⟨σ2, ?_, f2⟩
  unfold Pz_tried_b94
  rw [e1, Option.bind_some, e2, Option.bind_some, c_countTwos ld73 c2.1, c2.2.2.2.1, c2.2.2.2.2.1, c2.2.2.2.2.2]
  unfold askR
  rcases hw with ⟨h, rfl, rfl⟩ | ⟨h1, h2, rfl⟩ | ⟨h1, h2, rfl, rfl⟩
  · match w, h with
    | 0, _ => rfl
    | 1, _ => rfl
    | 2, _ => rfl
    | 3, _ => rfl
  · rw [if_neg (by decide), subL 10 h1, if_pos (inb_nI (by omega) (by decide)), nI_clamp (by omega), if_neg (by omega), if_neg (by omega), if_neg (by omega), if_neg (by omega), if_pos (by omega)]
    have := (c2.1.2.1 (w - 10) (by omega)).2.2.1
    rw [← this]
  · rw [if_pos rfl, if_neg (by decide), subL 30 h1, if_pos (inb_nI (by omega) (by decide)), nI_clamp (by omega), if_neg (by omega), if_neg (by omega), if_neg (by omega), if_neg (by omega), if_neg (by omega)]
    have := (c2.1.2.1 (w - 30) (by omega)).2.2.2.2.2.1
    rw [← this]
theorem c_tried (hI : Inv σ) (hL : LawOK L) (hC : LawC L σ) (h1 : 1 ≤ n) (h2 : n ≤ 60) {w : Nat} (hw : w ≤ 3 ∨ (10 ≤ w ∧ w ≤ 21 ∧ toldR (σ.1 167) (w - 10) = true) ∨ (30 ≤ w ∧ w ≤ 41)) : ∃ σ2, Pz_tried (nI n) (nI w) σ = some (askR (daysR L n (σ.1 167)) w, σ2) ∧ Fx PX σ σ2 := by
  obtain ⟨y1, y2, y3, y4⟩ := lim60_y (σ := σ) h1 h2
  unfold Pz_tried Pz_tried0 Pz_tried_b30 Pz_tried_b31 Pz_tried_b48 Pz_tried_b49 Pz_tried_b64 Pz_tried_b65
  rcases hw with h | ⟨h3, h4, h5⟩ | ⟨h3, h4⟩
  · obtain ⟨σ2, e, f⟩ := c_b94 (w := w) (v3 := 0) (v4 := 0) hI hL hC h2 (Or.inl ⟨h, rfl, rfl⟩)
    refine ⟨σ2, ?_, f⟩
    rw [if_pos ((ltL 10 (by omega) (by decide)).mpr (by omega)), if_pos ((ltL 30 (by omega) (by decide)).mpr (by omega)), if_neg (nI_pos (show w < 2 ^ 31 by omega)), if_neg (mt (ltR 3 (by omega) (by decide)).mp (by omega)), if_neg y2, if_neg y4, if_pos rfl, if_pos rfl, if_neg (by decide)]
    exact e
  · obtain ⟨σ2, e, f⟩ := c_b94 (w := w) (v3 := 1) (v4 := 0) hI hL hC h2 (Or.inr (Or.inl ⟨h3, h4, rfl⟩))
    refine ⟨σ2, ?_, f⟩
    rw [if_neg (mt (ltL 10 (by omega) (by decide)).mp (by omega)), if_neg (mt (leR 22 (by omega) (by decide)).mp (by omega)), subL 10 h3, c_isTold hI.1 (show w - 10 < 12 by omega), Option.bind_some, h5, bI_t, if_neg (by decide), if_pos ((ltL 30 (by omega) (by decide)).mpr (by omega)), if_neg (nI_pos (show w < 2 ^ 31 by omega)), if_pos ((ltR 3 (by omega) (by decide)).mpr (by omega)), if_neg y2, if_neg y4, if_neg (by decide)]
    exact e
  · obtain ⟨σ2, e, f⟩ := c_b94 (w := w) (v3 := 0) (v4 := 1) hI hL hC h2 (Or.inr (Or.inr ⟨h3, h4, rfl, rfl⟩))
    refine ⟨σ2, ?_, f⟩
    rw [if_neg (mt (ltL 10 (by omega) (by decide)).mp (by omega)), if_pos ((leR 22 (by omega) (by decide)).mpr (by omega)), if_neg (mt (ltL 30 (by omega) (by decide)).mp (by omega)), if_neg (mt (leR 42 (by omega) (by decide)).mp (by omega)), if_neg (nI_pos (show w < 2 ^ 31 by omega)), if_pos ((ltR 3 (by omega) (by decide)).mpr (by omega)), if_neg y2, if_neg y4, if_pos rfl, if_neg (by decide)]
    exact e
/-- what the reference answers, and that the row is as it was -/
theorem m_b47 (hL : LawOK L) (hM : LawM L σ) (w : WF (σ.1 167)) (h1 : 1 ≤ n) (h2 : n ≤ 60) {q : Nat} (hw : q ≤ 3 ∨ (10 ≤ q ∧ q ≤ 21) ∨ (30 ≤ q ∧ q ≤ 41)) : ∃ σ2, Md_tried_b47 (nI n) (nI q) 1 σ = some (askR (daysR L n (σ.1 167)) q, σ2) ∧ Fx (fun b k => b = 167 ∨ b = 168 ∨ PM b k) σ σ2 ∧ ∀ k, k < 1936 → σ2.1 167 k = σ.1 167 k := by
  unfold Md_tried_b47
  rw [(lim60_y (σ := σ) h1 h2).1, Option.bind_some, if_neg (by decide), if_neg (by decide), m_copiesRow (by decide), Option.bind_some]
  have F1 : Fx (fun b k => b = 167 ∨ b = 168 ∨ PM b k) σ (sR σ 168 (fun m => if m < 1936 then σ.1 167 m else σ.1 168 m)) := Fx_row (fun _ => Or.inr (Or.inl rfl))
  have r1 : (sR σ 168 (fun m => if m < 1936 then σ.1 167 m else σ.1 168 m)).1 167 = σ.1 167 := sR_ne _ _ (by decide)
  have r8 : (sR σ 168 (fun m => if m < 1936 then σ.1 167 m else σ.1 168 m)).1 168 = fun m => if m < 1936 then σ.1 167 m else σ.1 168 m := sR_at _ _ _
  have hM1 : LawM L (sR σ 168 (fun m => if m < 1936 then σ.1 167 m else σ.1 168 m)) := LawM_of hM (fun b k a c => by rw [sR_ne _ _ (by omega)]) (by rw [sR_ne _ _ (by omega)])
  generalize sR σ 168 (fun m => if m < 1936 then σ.1 167 m else σ.1 168 m) = σ1 at F1 r1 r8 hM1 ⊢
  obtain ⟨σ2, e2, c2, f2⟩ := m_daysGo hL hM1 (by rw [r1]; exact w) h2
  rw [r1] at c2
  rw [e2, Option.bind_some]
  have F2 := F1.tr (f2.mo (fun b k q => Or.inr (Or.inr q)))
  have r9 : σ2.1 168 = fun m => if m < 1936 then σ.1 167 m else σ.1 168 m := by
    rw [← r8]
    exact funext fun k => f2 168 k (by unfold PM; omega)
  have e3 : ∀ s, Md_tried_b160 s σ2 = some (s, sR σ2 167 (fun m => if m < 1936 then σ2.1 168 m else σ2.1 167 m)) := fun s => by
    unfold Md_tried_b160
    rw [m_copiesRow (by decide)]
    rfl
  refine ⟨sR σ2 167 (fun m => if m < 1936 then σ2.1 168 m else σ2.1 167 m), ?_, F2.tr (Fx_row (fun _ => Or.inl rfl)), fun k hk => ?_⟩
  · rw [m_wedTwos, Option.bind_some]
    simp only [e3]
    rw [c2.1, c2.2.2.1, c2.2.2.2.1, c2.2.2.2.2]
    unfold askR
    rcases hw with h | ⟨h1, h2⟩ | ⟨h1, h2⟩
    · match q, h with
      | 0, _ => rfl
      | 1, _ => rfl
      | 2, _ => rfl
      | 3, _ => rfl
    · rw [if_neg (mt (eqL 0 (by omega) (by decide)).mp (by omega)), if_neg (mt (eqL 1 (by omega) (by decide)).mp (by omega)), if_neg (mt (eqL 2 (by omega) (by decide)).mp (by omega)), if_neg (mt (eqL 3 (by omega) (by decide)).mp (by omega)), if_neg (mt (leR 30 (by omega) (by decide)).mp (by omega)), addL 24, subL 10 (by omega), if_pos (inb_nI (by omega) (by decide)), nI_clamp (by omega), if_neg (by omega), if_neg (by omega), if_neg (by omega), if_neg (by omega), if_pos (by omega), show 24 + q - 10 = 24 + (q - 10) by omega]
    · rw [if_neg (mt (eqL 0 (by omega) (by decide)).mp (by omega)), if_neg (mt (eqL 1 (by omega) (by decide)).mp (by omega)), if_neg (mt (eqL 2 (by omega) (by decide)).mp (by omega)), if_neg (mt (eqL 3 (by omega) (by decide)).mp (by omega)), if_pos ((leR 30 (by omega) (by decide)).mpr (by omega)), addL 72, subL 30 (by omega), if_pos (inb_nI (by omega) (by decide)), nI_clamp (by omega), if_neg (by omega), if_neg (by omega), if_neg (by omega), if_neg (by omega), if_neg (by omega), show 72 + q - 30 = 72 + (q - 30) by omega]
  · rw [sR_at]
    show (if k < 1936 then σ2.1 168 k else σ2.1 167 k) = _
    rw [if_pos hk, r9]
    exact if_pos hk
theorem m_in_n {a b q : Nat} (ha : a < 2 ^ 31) (hb : b < 2 ^ 31) (hq : q < 2 ^ 31) : Md_in (nI q) (nI a) (nI b) σ = some (bI (decide (a ≤ q) && decide (q ≤ b))) := by
  rw [m_in]
  simp only [nI_leI ha hq, nI_leI hq hb]
theorem m_tried (hL : LawOK L) (hM : LawM L σ) (w : WF (σ.1 167)) (h1 : 1 ≤ n) (h2 : n ≤ 60) {q : Nat} (hw : q ≤ 3 ∨ (10 ≤ q ∧ q ≤ 21 ∧ toldR (σ.1 167) (q - 10) = true) ∨ (30 ≤ q ∧ q ≤ 41)) : ∃ σ2, Md_tried (nI n) (nI q) σ = some (askR (daysR L n (σ.1 167)) q, σ2) ∧ Fx (fun b k => b = 167 ∨ b = 168 ∨ PM b k) σ σ2 ∧ ∀ k, k < 1936 → σ2.1 167 k = σ.1 167 k := by
  obtain ⟨σ2, e, f⟩ := m_b47 hL hM w h1 h2 (q := q) (by omega)
  refine ⟨σ2, ?_, f⟩
  unfold Md_tried Md_tried0 Md_tried_b31 Md_tried_b42
  rw [lit_nI 0, lit_nI 3, lit_nI 10, lit_nI 21, lit_nI 30, lit_nI 41, m_in_n (by decide) (by decide) (by omega), m_in_n (by decide) (by decide) (by omega), m_in_n (by decide) (by decide) (by omega), Option.bind_some, Option.bind_some, Option.bind_some]
  rcases hw with h | ⟨h3, h4, h5⟩ | ⟨h3, h4⟩
  · rw [decide_eq_true (show 0 ≤ q by omega), decide_eq_true h]
    exact e
  · rw [decide_eq_false (show ¬ q ≤ 3 by omega), decide_eq_true h3, decide_eq_true h4, pk_sub h3, m_isPerson (show q - 10 < 12 by omega), Option.bind_some, h5, Bool.and_false]
    exact e
  · rw [decide_eq_false (show ¬ q ≤ 3 by omega), decide_eq_false (show ¬ q ≤ 21 by omega), decide_eq_true h3, decide_eq_true h4, Bool.and_false, Bool.and_false]
    exact e
/-- what is not known -/
theorem c_triedF (hD : LD 1 A σ) {x y : Int32} (h : (x < 1 ∨ 60 < x) ∨ ((y < 0 ∨ 3 < y) ∧ (y < 30 ∨ 41 < y) ∧ ((y < 10 ∨ 21 < y) ∨ ∃ i, i < 12 ∧ y = nI (10 + i) ∧ toldR A i = false))) : Pz_tried x y σ = some (-1, σ) := by
  have hT : ∀ z, ∃ b, (b = 0 ∨ b = 1) ∧ Land_isTold 1 z σ = some b := fun z => by
    rcases tw_ix z with ⟨i, hi, rfl⟩ | hz
    · exact ⟨_, by cases toldR A i <;> simp [bI], c_isTold hD hi⟩
    · exact ⟨0, Or.inl rfl, c_isToldF hz⟩
  obtain ⟨b, hb, eb⟩ := hT (y - 10)
  unfold Pz_tried Pz_tried0 Pz_tried_b30 Pz_tried_b31 Pz_tried_b48 Pz_tried_b49 Pz_tried_b64 Pz_tried_b65
  rw [eb, Option.bind_some]
  rcases h with h | ⟨h1, h2, h3⟩
  · clear eb hT
    grind
  · rcases h3 with h3 | ⟨i, hi, rfl, h3⟩
    · clear eb hT
      grind
    · rw [subL 10 (by omega), show 10 + i - 10 = i by omega, c_isTold hD hi, h3] at eb
      cases eb
      rw [bI_f]
      clear hT
      grind
theorem m_triedF {x y : Int32} (h : (x < 1 ∨ 60 < x) ∨ ((y < 0 ∨ 3 < y) ∧ (y < 30 ∨ 41 < y) ∧ ((y < 10 ∨ 21 < y) ∨ ∃ i, i < 12 ∧ y = nI (10 + i) ∧ toldR (σ.1 167) i = false))) : Md_tried x y σ = some (-1, σ) := by
  have hP : ∀ z, ∃ b, (b = 0 ∨ b = 1) ∧ Md_isPerson z σ = some b := fun z => by
    rcases tw_ix z with ⟨i, hi, rfl⟩ | hz
    · exact ⟨_, by cases toldR (σ.1 167) i <;> simp [bI], m_isPerson hi σ⟩
    · exact ⟨0, Or.inl rfl, m_isPersonF hz σ⟩
  obtain ⟨b, hb, eb⟩ := hP (y - 10)
  have key : (x < 1 ∨ 60 < x) → ∀ s, Md_tried_b47 x y s σ = some (-1, σ) := fun hx s => by
    unfold Md_tried_b47
    rw [lim60_m hx]; rfl
  have key0 : Md_tried_b47 x y 0 σ = some (-1, σ) := by
    unfold Md_tried_b47
    rw [m_in, Option.bind_some, if_pos rfl]
    split <;> rfl
  unfold Md_tried Md_tried0 Md_tried_b31 Md_tried_b42
  rw [m_in, m_in, m_in, Option.bind_some, Option.bind_some, Option.bind_some, eb, Option.bind_some, key0]
  rcases h with h | ⟨h1, h2, h3⟩
  · rw [key h]
    simp only [ite_self]
  · have a1 : (decide ((0 : Int32) ≤ y) && decide (y ≤ 3)) = false := by
      rcases h1 with h1 | h1
      · rw [decide_eq_false (ne_of_lt32 h1)]; rfl
      · rw [decide_eq_false (ne_of_lt32 h1), Bool.and_false]
    have a2 : (decide ((30 : Int32) ≤ y) && decide (y ≤ 41)) = false := by
      rcases h2 with h1 | h1
      · rw [decide_eq_false (ne_of_lt32 h1)]; rfl
      · rw [decide_eq_false (ne_of_lt32 h1), Bool.and_false]
    rw [a1, a2, bI_f, if_pos rfl, if_pos rfl]
    rcases h3 with h3 | ⟨i, hi, rfl, h3⟩
    · have a3 : (decide ((10 : Int32) ≤ y) && decide (y ≤ 21)) = false := by
        rcases h3 with h1 | h1
        · rw [decide_eq_false (ne_of_lt32 h1)]; rfl
        · rw [decide_eq_false (ne_of_lt32 h1), Bool.and_false]
      rw [a3, bI_f, if_pos rfl]
    · rw [subL 10 (by omega), show 10 + i - 10 = i by omega, m_isPerson hi, h3] at eb
      cases eb
      rw [bI_f, if_pos rfl]
      split <;> rfl
theorem st_tried (hI : Inv σ) (x y : Int32) : ∃ (r r' : Int32) (σ1 : MH) (σ2 : MH), Pz_tried x y σ = some (r, σ1) ∧ Md_tried x y σ1 = some (r', σ2) ∧ r = r' ∧ Inv σ2 := by
  have no : ((x < 1 ∨ 60 < x) ∨ ((y < 0 ∨ 3 < y) ∧ (y < 30 ∨ 41 < y) ∧ ((y < 10 ∨ 21 < y) ∨ ∃ i, i < 12 ∧ y = nI (10 + i) ∧ toldR (σ.1 167) i = false))) → ∃ (r r' : Int32) (σ1 : MH) (σ2 : MH), Pz_tried x y σ = some (r, σ1) ∧ Md_tried x y σ1 = some (r', σ2) ∧ r = r' ∧ Inv σ2 := fun h => ⟨-1, -1, σ, σ, c_triedF hI.1 h, m_triedF h, rfl, hI⟩
  rcases lim60 x with ⟨n, n1, n2, rfl⟩ | h
  · have yes : ∀ q, y = nI q → (q ≤ 3 ∨ (10 ≤ q ∧ q ≤ 21 ∧ toldR (σ.1 167) (q - 10) = true) ∨ (30 ≤ q ∧ q ≤ 41)) → ∃ (r r' : Int32) (σ1 : MH) (σ2 : MH), Pz_tried (nI n) y σ = some (r, σ1) ∧ Md_tried (nI n) y σ1 = some (r', σ2) ∧ r = r' ∧ Inv σ2 := by
      rintro q rfl hq
      obtain ⟨-, L, hL, hC, hM⟩ := hI.2.2.2.2
      obtain ⟨σ1, e1, f1⟩ := c_tried hI hL hC n1 n2 hq
      have hJ : Inv σ1 := Inv_q hI f1
      have hM1 : LawM L σ1 := LawM_of hM (fun b k a c => f1 b k (by unfold PX PC PQ; omega)) (f1 166 13 (by unfold PX PC PQ; omega))
      obtain ⟨σ2, e2, f2, g2⟩ := m_tried hL hM1 hJ.2.1 n1 n2 (q := q) (by rw [row_PX f1]; exact hq)
      refine ⟨_, _, σ1, σ2, e1, e2, by rw [row_PX f1], ?_⟩
      refine Inv_land hJ (f2.mo (fun b k q => by unfold PM at q; unfold PLd PX PC PQ; omega)) ?_ (WF_agree hJ.2.1 g2)
      exact LD_agree (LD_of hJ.1 (fun b k a c => f2 b k (by unfold PM; omega))) g2
    rcases what_kinds y with ⟨w, hw, rfl⟩ | ⟨i, hi, rfl⟩ | ⟨k, hk, rfl⟩ | ⟨a, b, c⟩
    · exact yes w rfl (Or.inl hw)
    · cases hT : toldR (σ.1 167) i
      · refine no (Or.inr ⟨Or.inr ?_, Or.inl ?_, Or.inr ⟨i, hi, rfl, hT⟩⟩)
        · rw [ltR 3 (by omega) (by decide)]; omega
        · rw [ltL 30 (by omega) (by decide)]; omega
      · exact yes (10 + i) rfl (Or.inr (Or.inl ⟨by omega, by omega, by rw [show 10 + i - 10 = i by omega]; exact hT⟩))
    · exact yes (30 + k) rfl (Or.inr (Or.inr ⟨by omega, by omega⟩))
    · exact no (Or.inr ⟨a, c, Or.inl b⟩)
  · exact no (Or.inl h)
end CALLS
