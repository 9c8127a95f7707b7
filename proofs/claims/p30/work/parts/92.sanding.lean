/-! sanding, the answers -/
section SAN
variable {σ : MH} {A : Nat → Int32} {i j k n w h p r s a R S q : Nat} {b : Option Nat}
def othO (A : Nat → Int32) (k : Nat) (f : Nat → Int32) (more : Int32) (m : Nat) : Bool := !decide (m = k) && (toldR A m && decide (gapR f (hgR A m) - A (72 + k) - A (72 + m) ≤ more))
theorem c_fitOthers (hD : LD 1 A σ) (hk : k < 12) (more : Int32) : Pz_fitOthers (nI k) 160 more σ = some (nI (cnN (othO A k (σ.1 160) more) 12)) := by
  obtain ⟨f1, f2, f3, f4⟩ := ix3 12 hk
  have ek : σ.1 8 k = A (72 + k) := (hD.2.1 k hk).2.2.2.2.2.1
  have key : ∃ x, Pz_fitOthers_L6 (nI k) 160 more σ (0, 0) = some x ∧ x = nI (cnN (othO A k (σ.1 160) more) 12) := by
    refine itr_n 12 (fun (m : Nat) (z : Int32 × Int32) => z = (nI (cnN (othO A k (σ.1 160) more) m), nI m)) _ rfl (fun m z hm hz => ?_) (fun z hz => ?_)
    · subst hz
      obtain ⟨g1, g2, g3, g4⟩ := ix3 12 hm
      have em : σ.1 8 m = A (72 + m) := (hD.2.1 m hm).2.2.2.2.2.1
      have hgap : gapR (σ.1 160) (σ.1 (10 + m)) = gapR (σ.1 160) (hgR A m) := gapR_ext (fun _ _ => rfl) (fun h hh => hD.2.2.1 m h hm hh)
      refine Or.inl ⟨_, ?_, rfl⟩
      show Pz_fitOthers_l6 (nI k) 160 more _ (nI m) σ = _
      have e9 : nI m + 1 = nI (m + 1) := nI_1 _
      unfold Pz_fitOthers_l6 Pz_fitOthers_b81 Pz_fitOthers_b84
      rw [if_neg g1, c_isTold hD hm, Option.bind_some, if_pos g2, g3, rf9 hm, c_gap, Option.bind_some, if_pos f2, f3, ek, em, hgap, e9, cnN_s]
      unfold othO
      by_cases q : m = k
      · rw [if_pos ((nI_eq (by omega) (by omega)).mpr q), decide_eq_true q]
        rfl
      · rw [if_neg (fun z => q ((nI_eq (by omega) (by omega)).mp z)), decide_eq_false q]
        cases toldR A m
        · rfl
        · rw [bI_t, if_neg (show ¬ (1 : Int32) = 0 by decide)]
          by_cases c : more < gapR (σ.1 160) (hgR A m) - A (72 + k) - A (72 + m)
          · rw [if_pos c, decide_eq_false (ne_of_lt32 c), Int32.add_zero]
            rfl
          · rw [if_neg c, decide_eq_true (Int32.not_lt.mp c), show nI _ + 1 = nI (_ + 1) from nI_1 _]
            rfl
    · subst hz
      refine ⟨_, ?_, rfl⟩
      show Pz_fitOthers_l6 (nI k) 160 more _ (nI 12) σ = _
      unfold Pz_fitOthers_l6
      rw [if_pos (by decide)]
  obtain ⟨x, e, hx⟩ := key
  unfold Pz_fitOthers Pz_fitOthers0
  rw [e, hx]
  rfl
theorem m_slackOfSanded (hX : CtxM A k a b σ) (hk : k < 12) (hj : j < 12) : Md_slackOfSanded (nI j) σ = some (jmax 0 (gapR (σ.1 194) (hgR A j) - A (72 + j) - A (72 + k))) := by
  have e : Md_slackOfSanded_L4 (nI j) σ (0, 0) = some (gapR (σ.1 194) (hgR A j)) := by
    refine itr_acc 8 (fun h s hh => ?_) (fun s => ?_)
    · show Md_slackOfSanded_l4 (nI j) s (nI h) σ = _
      obtain ⟨f1, f2, f3, f4⟩ := ix3 8 hh
      unfold Md_slackOfSanded_l4
      rw [if_neg f1, if_pos f2, f3, lit_nI 7, pk_sub (show h ≤ 7 by omega), m_heightOf hj (by omega), Option.bind_some, m_size, Option.bind_some, hX.row, show nI h + 1 = nI (h + 1) from nI_1 _]
    · show Md_slackOfSanded_l4 (nI j) s (nI 8) σ = _
      unfold Md_slackOfSanded_l4
      rw [if_pos (by decide)]
  have b1 := ixc (c := 72) hk (by decide)
  have b2 := ixc (c := 72) hj (by decide)
  unfold Md_slackOfSanded Md_slackOfSanded0
  rw [e, Option.bind_some, hX.c43, lit_nI 72, if_pos b2.1, if_pos b1.1, b1.2, b2.2, m_max, Option.bind_some, hX.row]
theorem more_eq {g x y m : Int32} (hg : 0 ≤ g.toInt ∧ g.toInt ≤ 144) (hx : 0 ≤ x.toInt ∧ x.toInt ≤ 99) (hy : 0 ≤ y.toInt ∧ y.toInt ≤ 99) (hm : 0 ≤ m.toInt ∧ m.toInt ≤ 99) : (jmax 0 (g - y - x) ≤ m) ↔ (g - x - y ≤ m) := by
  rw [room_eq hg hy hx hm]
  have e1 : (g - x).toInt = g.toInt - x.toInt := ti_sub (by omega) (by omega)
  have e2 : (g - x - y).toInt = g.toInt - x.toInt - y.toInt := by rw [ti_sub (by omega) (by omega), e1]
  have e3 : (m + y).toInt = m.toInt + y.toInt := ti_add (by omega) (by omega)
  have e4 : (m + y + x).toInt = m.toInt + y.toInt + x.toInt := by rw [ti_add (by omega) (by omega), e3]
  rw [ti_le, ti_le, e2, e4]
  omega
theorem m_others (hX : CtxM A k a b σ) (wf : WF A) (hk : k < 12) {more : Int32} (hm : 0 ≤ more.toInt ∧ more.toInt ≤ 99) (hf : ∀ h, h < 8 → -9 ≤ σ.1 194 h ∧ σ.1 194 h ≤ 9) : Md_sanding_L320 (nI k) more σ (0, 0) = some (nI (cnN (othO A k (σ.1 194) more) 12)) := by
  have key : ∃ x, Md_sanding_L320 (nI k) more σ (0, 0) = some x ∧ x = nI (cnN (othO A k (σ.1 194) more) 12) := by
    refine itr_n 12 (fun (m : Nat) (z : Int32 × Int32) => z = (nI (cnN (othO A k (σ.1 194) more) m), nI m)) _ rfl (fun m z hmm hz => ?_) (fun z hz => ?_)
    · subst hz
      obtain ⟨g1, g2, g3, g4⟩ := ix3 12 hmm
      have e9 : nI m + 1 = nI (m + 1) := nI_1 _
      have hq := more_eq (gapR_bd hf (hg_bd wf hmm)) (wear_ti wf hk) (wear_ti wf hmm) hm
      refine Or.inl ⟨_, ?_, rfl⟩
      show Md_sanding_l320 (nI k) more _ (nI m) σ = _
      unfold Md_sanding_l320 Md_sanding_b359
      rw [if_neg g1, m_isPerson hmm, Option.bind_some, m_slackOfSanded hX hk hmm, Option.bind_some, hX.row, e9, cnN_s]
      unfold othO
      cases toldR A m
      · rw [Bool.false_and, Bool.and_false, bI_f, if_pos rfl]
        rfl
      · rw [bI_t, if_neg (show ¬ (1 : Int32) = 0 by decide)]
        by_cases q : m = k
        · rw [if_pos ((nI_eq (by omega) (by omega)).mpr q), decide_eq_true q]
          rfl
        · rw [if_neg (fun z => q ((nI_eq (by omega) (by omega)).mp z)), decide_eq_false q]
          by_cases c : gapR (σ.1 194) (hgR A m) - A (72 + k) - A (72 + m) ≤ more
          · rw [if_neg (fun z => ne_of_lt32 z (hq.mpr c)), decide_eq_true c, show nI _ + 1 = nI (_ + 1) from nI_1 _]
            rfl
          · rw [if_pos (Int32.not_le.mp (fun z => c (hq.mp z))), decide_eq_false c]
            rfl
    · subst hz
      refine ⟨_, ?_, rfl⟩
      show Md_sanding_l320 (nI k) more _ (nI 12) σ = _
      unfold Md_sanding_l320
      rw [if_pos (by decide)]
  obtain ⟨x, e, hx⟩ := key
  rw [e, hx]
/-- what sanding answers -/
def ansS (A : Nat → Int32) (k a : Nat) (b : Option Nat) (R S q : Nat) (more : Int32) : Int32 := if MF (G1A A a) (G2A A b) (C0A A k) 8 R S = BIG then -2 else if q = 10 then nI (MF (G1A A a) (G2A A b) (C0A A k) 8 R S) else if q = 11 then nI (cnN (othO A k (fun h => nI (plF (G1A A a) (G2A A b) (C0A A k) R S h) - 9) more) 12) else nI (plF (G1A A a) (G2A A b) (C0A A k) R S q) - 9 + 10
theorem oth_ext {f g : Nat → Int32} (h : ∀ m, m < 8 → f m = g m) (more : Int32) : othO A k f more = othO A k g more := by
  funext m
  unfold othO
  rw [gapR_ext h (fun _ _ => rfl)]
theorem pl_b9 (h0 : MF (G1A A a) (G2A A b) (C0A A k) 8 R S ≠ BIG) (hh : h < 8) : -9 ≤ nI (plF (G1A A a) (G2A A b) (C0A A k) R S h) - 9 ∧ nI (plF (G1A A a) (G2A A b) (C0A A k) R S h) - 9 ≤ 9 := by
  have hp := pl_lt h0 hh
  rw [ti_le, ti_le, nI9 hp]
  show (-9 : Int) ≤ _ ∧ _ ≤ (9 : Int)
  omega
theorem c_215 (hD : LD 1 A σ) (hk : k < 12) (hd : DoneA A k a b R S σ) (hq : q < 8 ∨ q = 10 ∨ q = 11) (more : Int32) : Pz_sanding_b215 (nI k) (nI q) more σ = some (ansS A k a b R S q more, σ) := by
  unfold Pz_sanding_b215 ansS
  rw [c_fitOthers hD hk, Option.bind_some]
  by_cases z : MF (G1A A a) (G2A A b) (C0A A k) 8 R S = BIG
  · rw [if_pos (hd.1 z), if_pos z]
  · obtain ⟨d1, d2, d3⟩ := hd.2 z
    rw [d1, if_neg (show ¬ (1 : Int32) = 0 by decide), if_neg z, d2, oth_ext d3]
    by_cases q10 : q = 10
    · subst q10
      rw [if_pos (show nI 10 = 10 from rfl), if_pos rfl]
    · rw [if_neg (mt (eqL 10 (by omega) (by decide)).mp q10), if_neg q10]
      by_cases q11 : q = 11
      · subst q11
        rw [if_pos (show nI 11 = 11 from rfl), if_pos rfl]
      · have q8 : q < 8 := by omega
        obtain ⟨f1, f2, f3, f4⟩ := ix3 8 q8
        rw [if_neg (mt (eqL 11 (by omega) (by decide)).mp q11), if_neg q11, if_pos f2, f3, d3 q q8]
theorem m_254 (wf : WF A) (hk : k < 12) (ha : a < 12) (hb : ∀ c, b = some c → c < 12) (hX : CtxM A k a b σ) (hR : R ≤ 60) (hS : S ≤ S1o b) (hq : q < 8 ∨ q = 10 ∨ q = 11) {more : Int32} (hm : 0 ≤ more.toInt ∧ more.toInt ≤ 99) : ∃ σ', Md_sanding_b254 (nI k) (nI q) more (nI R) (nI S) (nI (S1o b)) σ = some (ansS A k a b R S q more, σ') ∧ Fx (fun b _ => b = 193 ∨ b = 194) σ σ' := by
  have hB : BIG = 1000000000 := rfl
  have hS60 := S1_le (b := b)
  obtain ⟨σ1, e1, p1, r1⟩ := m_laysWork wf hk ha hb hX
  have hX1 : CtxM A k a b σ1 := hX.of (p1.mo (fun b m q => Or.inl q))
  have hM := MF_big (G1 := G1A A a) (G2 := G2A A b) (C0 := C0A A k) (n := 8) (r := R) (s := S)
  have hw : Md_workAt 0 (nI R) (nI S) σ1 = some (nI (MF (G1A A a) (G2A A b) (C0A A k) 8 R S)) := by
    have := m_workAt (σ := σ1) (h := 0) (r := R) (s := S) (by omega) hR (by omega)
    rw [show (0 : Int32) = nI 0 from rfl, this]
    have h8 := r1 8 (Nat.le_refl _) R S hR hS
    rw [show 8 - 8 = 0 from rfl] at h8
    rw [h8]
  unfold Md_sanding_b254 ansS
  rw [e1, Option.bind_some, hw, Option.bind_some, big_lit]
  by_cases z : MF (G1A A a) (G2A A b) (C0A A k) 8 R S = BIG
  · rw [if_pos (by rw [z]), if_pos z]
    exact ⟨σ1, rfl, p1.mo (fun b m q => Or.inl q)⟩
  · rw [if_neg (fun y => z ((nI_eq (by omega) (by omega)).mp y)), if_neg z]
    by_cases q10 : q = 10
    · subst q10
      rw [if_pos (show nI 10 = 10 from rfl), if_pos rfl]
      exact ⟨σ1, rfl, p1.mo (fun b m q => Or.inl q)⟩
    · rw [if_neg (mt (eqL 10 (by omega) (by decide)).mp q10), if_neg q10]
      obtain ⟨σ2, e2, p2, r2⟩ := m_laysSanded wf hk ha hb hX1 hR hS r1 z
      have hX2 : CtxM A k a b σ2 := hX1.of (p2.mo (fun b m q => Or.inr q))
      rw [e2, Option.bind_some, m_others hX2 wf hk hm (fun h hh => by rw [r2 h hh]; exact pl_b9 z hh), Option.bind_some, oth_ext r2]
      refine ⟨σ2, ?_, (p1.mo (fun b m q => Or.inl q)).tr (p2.mo (fun b m q => Or.inr q))⟩
      by_cases q11 : q = 11
      · subst q11
        rw [if_pos (by decide), if_pos rfl]
      · have q8 : q < 8 := by omega
        obtain ⟨f1, f2, f3, f4⟩ := ix3 8 q8
        rw [if_neg f1, if_neg q11, if_pos f2, f3, r2 q q8]
/-! who may be sanded -/
theorem wear_nI (wf : WF A) (hi : i < 12) : ∃ w, w ≤ 99 ∧ A (72 + i) = nI w := by
  have h := w_wear wf i hi
  rcases limN (A (72 + i)) 99 with ⟨w, h1, h2⟩ | h2
  · exact ⟨w, h1, h2⟩
  · exfalso
    rcases h2 with h2 | h2
    · exact ne_of_lt32 h2 h.1
    · exact ne_of_lt32 h2 h.2
theorem c_canY (hD : LD 1 A σ) (hk : k < 12) (ha : a < 12) (hka : nI k ≠ nI a) {x u v : Nat} (hx : x ≤ 60) (hu : u ≤ 99) (hv : v ≤ 99) (eu : A (72 + k) = nI u) (ev : A (72 + a) = nI v) : Pz_canSand (nI k) (nI a) (nI x) σ = some (bI (decide (x + u + v ≤ 60))) := by
  obtain ⟨f1, f2, f3, f4⟩ := ix3 12 hk
  obtain ⟨g1, g2, g3, g4⟩ := ix3 12 ha
  unfold Pz_canSand Pz_canSand0
  rw [v_isNumber hk, Option.bind_some, if_neg (by decide), v_isNumber ha, Option.bind_some, if_neg (by decide), if_neg hka, if_neg (nI_pos (by omega)), if_pos ((leL 60 (by omega) (by decide)).mpr hx), if_pos f2, if_pos g2, f3, g3, show σ.1 8 k = A (72 + k) from (hD.2.1 k hk).2.2.2.2.2.1, show σ.1 8 a = A (72 + a) from (hD.2.1 a ha).2.2.2.2.2.1, eu, ev, nI_add, nI_add]
  by_cases q : x + u + v ≤ 60
  · rw [if_neg (mt (ltR 60 (by omega) (by decide)).mp (by omega)), decide_eq_true q]
    rfl
  · rw [if_pos ((ltR 60 (by omega) (by decide)).mpr (by omega)), decide_eq_false q]
    rfl
theorem c_canN {x y z : Int32} (h : (x < 0 ∨ 12 ≤ x) ∨ (y < 0 ∨ 12 ≤ y) ∨ x = y ∨ z < 0 ∨ 60 < z) : Pz_canSand x y z σ = some 0 := by
  unfold Pz_canSand Pz_canSand0
  rcases tw_ix x with ⟨i, hi, rfl⟩ | h1
  · rw [v_isNumber hi, Option.bind_some, if_neg (by decide)]
    rcases tw_ix y with ⟨j, hj, rfl⟩ | h2
    · rw [v_isNumber hj, Option.bind_some, if_neg (by decide)]
      obtain ⟨f1, f2, f3, f4⟩ := ix3 12 hi
      obtain ⟨g1, g2, g3, g4⟩ := ix3 12 hj
      rcases h with h | h | h | h | h
      · exact absurd h (by rintro (h | h); exact f4 h; exact f1 h)
      · exact absurd h (by rintro (h | h); exact g4 h; exact g1 h)
      · rw [if_pos h]; rfl
      · by_cases c : nI i = nI j
        · rw [if_pos c]; rfl
        · rw [if_neg c, if_pos h]; rfl
      · by_cases c : nI i = nI j
        · rw [if_pos c]; rfl
        · rw [if_neg c, if_neg (show ¬ z ≤ 60 from ne_of_lt32 h)]
          split <;> rfl
    · rw [v_isNumberF h2, Option.bind_some, if_pos rfl]; rfl
  · rw [v_isNumberF h1, Option.bind_some, if_pos rfl]; rfl
end SAN
