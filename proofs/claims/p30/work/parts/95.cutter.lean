/-! cutter -/
section CUT
variable {σ : MH} {A : Nat → Int32} {i j k n h m u t q : Nat} {v : Int32} {x y : Nat → Nat}
theorem rule_is (hu : u < 112) : nI u / 14 = nI (u / 14) ∧ jrem (nI u) 14 = nI (u % 14) ∧ (jrem (nI u) 14) / 7 = nI (u % 14 / 7) ∧ jrem (nI u) 7 = nI (u % 7) := by
  have : ∀ u, u < 112 → nI u / 14 = nI (u / 14) ∧ jrem (nI u) 14 = nI (u % 14) ∧ (jrem (nI u) 14) / 7 = nI (u % 14 / 7) ∧ jrem (nI u) 7 = nI (u % 7) := by decide +kernel
  exact this u hu
def sgR (u : Nat) (z : Int32) : Int32 := if u % 14 / 7 = 0 then z else -z
def mkV (A : Nat → Int32) (u k h : Nat) : Int32 := sgR u (hgR A k h) + (nI (u % 7) - 3)
def mkB (A : Nat → Int32) (u k j : Nat) : Bool := (List.range 8).all (fun h => decide (hgR A j ((h + u / 14) % 8) = mkV A u k h))
theorem mkB_iff : mkB A u k j = true ↔ ∀ h, h < 8 → hgR A j ((h + u / 14) % 8) = mkV A u k h := by
  unfold mkB
  rw [List.all_eq_true]
  constructor
  · intro H h hh
    exact of_decide_eq_true (H h (List.mem_range.mpr hh))
  · intro H h hh
    exact decide_eq_true (H h (List.mem_range.mp hh))
theorem c_cut (hD : LD 1 A σ) (hu : u < 112) (hk : k < 12) : ∃ σ', Pz_cut (nI u) (10 + k) σ = some σ' ∧ Fx (fun b _ => b = 165) σ σ' ∧ ∀ h, h < 8 → σ'.1 165 ((h + u / 14) % 8) = mkV A u k h := by
  obtain ⟨r1, r2, r3, r4⟩ := rule_is hu
  obtain ⟨r, e, p, g⟩ : ∃ r, Pz_cut_L25 (10 + k) (nI (u / 14)) (nI (u % 14 / 7)) (nI (u % 7) - 3) (0, σ) = some r ∧ Fx (fun b _ => b = 165) σ r ∧ ∀ h, h < 8 → r.1 165 ((h + u / 14) % 8) = mkV A u k h := by
    refine itr_n 8 (fun (n : Nat) (z : Int32 × MH) => z.1 = nI n ∧ Fx (fun b _ => b = 165) σ z.2 ∧ ∀ h, h < n → z.2.1 165 ((h + u / 14) % 8) = mkV A u k h) _ ⟨rfl, Fx.rf, fun h hh => by omega⟩ (fun n z hn hz => ?_) (fun z hz => ?_)
    · obtain ⟨z1, z2⟩ := z
      obtain ⟨rfl, hf, hv⟩ := hz
      dsimp only at hf hv
      obtain ⟨f1, f2, f3, f4⟩ := ix3 8 hn
      obtain ⟨g1, g2, g3, g4⟩ := ix3 8 (show (n + u / 14) % 8 < 8 by omega)
      have ev : z2.1 (10 + k) n = hgR A k n := (hf (10 + k) n (by omega)).trans (hD.2.2.1 k n hk hn)
      refine Or.inl ⟨(nI (n + 1), sI z2 165 ((n + u / 14) % 8) (mkV A u k n)), ?_, rfl, hf.tr (Fx_sI rfl), fun h hh => ?_⟩
      · show Pz_cut_l25 (10 + k) (nI (u / 14)) (nI (u % 14 / 7)) (nI (u % 7) - 3) (nI n) z2 = _
        unfold Pz_cut_l25 Pz_cut_b60
        rw [if_neg f1, if_pos f2, if_pos f2, f3, ev, (turn8 hn (show u / 14 < 8 by omega)).1, if_pos g2, if_pos g2, g3, show nI n + 1 = nI (n + 1) from nI_1 _]
        unfold mkV sgR
        by_cases c : u % 14 / 7 = 0
        · rw [if_pos ((eqL 0 (by omega) (by decide)).mpr c), if_pos c]
        · rw [if_neg (mt (eqL 0 (by omega) (by decide)).mp c), if_neg c]
      · dsimp only
        by_cases c : h = n
        · rw [c, sI_same]
        · rw [sI_ne (by omega)]; exact hv h (by omega)
    · obtain ⟨z1, z2⟩ := z
      obtain ⟨rfl, hz⟩ := hz
      refine ⟨z2, ?_, hz⟩
      show Pz_cut_l25 (10 + k) _ _ _ (nI 8) z2 = _
      unfold Pz_cut_l25
      rw [if_pos (by decide)]
  refine ⟨r, ?_, p, g⟩
  unfold Pz_cut Pz_cut0
  rw [r1, r3, r4, e]
  rfl
theorem c_cutSame (hD : LD 1 A σ) (hu : u < 112) (hj : j < 12) (hc : ∀ h, h < 8 → σ.1 165 ((h + u / 14) % 8) = mkV A u k h) : Pz_sameRow 165 (10 + j) σ = some (bI (mkB A u k j)) := by
  rw [c_sameRow]
  congr 2
  rw [Bool.eq_iff_iff, mkB_iff, List.all_eq_true]
  constructor
  · intro H h hh
    have h1 := of_decide_eq_true (H ((h + u / 14) % 8) (List.mem_range.mpr (by omega)))
    rw [← hc h hh, h1]
    exact (hD.2.2.1 j _ hj (by omega)).symm
  · intro H g hg
    have hg' := List.mem_range.mp hg
    have h1 := H ((g + 8 - u / 14) % 8) (by omega)
    have h2 := hc ((g + 8 - u / 14) % 8) (by omega)
    rw [show ((g + 8 - u / 14) % 8 + u / 14) % 8 = g by omega] at h1 h2
    refine decide_eq_true ?_
    rw [h2, ← h1]
    exact (hD.2.2.1 j g hj hg').symm
theorem m_makes (hu : u < 112) (hk : k < 12) (hj : j < 12) : Md_makes (nI u) (nI k) (nI j) σ = some (bI (mkB (σ.1 167) u k j)) := by
  obtain ⟨r1, r2, r3, r4⟩ := rule_is hu
  have lp : ∀ s0 : Int32, (s0 = 0 ↔ u % 14 / 7 = 0) → Md_makes_b20 (nI u) (nI k) (nI j) (nI (u / 14)) s0 σ = some (bI (mkB (σ.1 167) u k j)) := fun s0 hs => by
    have key : ∃ r, Md_makes_L33 (nI k) (nI j) (nI (u / 14)) s0 (nI (u % 7) - 3) σ 0 = some r ∧ r = bI (mkB (σ.1 167) u k j) := by
      refine itr_n 8 (fun (n : Nat) (z : Int32) => z = nI n ∧ ∀ h, h < n → hgR (σ.1 167) j ((h + u / 14) % 8) = mkV (σ.1 167) u k h) _ ⟨rfl, fun h hh => by omega⟩ (fun n z hn hz => ?_) (fun z hz => ?_)
      · obtain ⟨rfl, hv⟩ := hz
        obtain ⟨f1, f2, f3, f4⟩ := ix3 8 hn
        have step : Md_makes_l33 (nI k) (nI j) (nI (u / 14)) s0 (nI (u % 7) - 3) (nI n) σ = if hgR (σ.1 167) j ((n + u / 14) % 8) = mkV (σ.1 167) u k n then some (.inl (nI (n + 1))) else some (.inr 0) := by
          unfold Md_makes_l33 Md_makes_b76
          rw [if_neg f1, (turn8 hn (show u / 14 < 8 by omega)).2, m_heightOf hj (by omega), Option.bind_some, m_heightOf hk (by omega), Option.bind_some, Option.bind_some, show nI n + 1 = nI (n + 1) from nI_1 _]
          unfold mkV sgR
          by_cases c : u % 14 / 7 = 0
          · rw [if_pos (hs.mpr c), if_pos c]
          · rw [if_neg (fun z => c (hs.mp z)), if_neg c]
        by_cases c : hgR (σ.1 167) j ((n + u / 14) % 8) = mkV (σ.1 167) u k n
        · rw [if_pos c] at step
          refine Or.inl ⟨nI (n + 1), step, rfl, fun h hh => ?_⟩
          by_cases d : h = n
          · rw [d]; exact c
          · exact hv h (by omega)
        · rw [if_neg c] at step
          refine Or.inr ⟨0, step, ?_⟩
          have : mkB (σ.1 167) u k j = false := Bool.eq_false_iff.mpr (fun z => c (mkB_iff.mp z n hn))
          rw [this, bI_f]
      · obtain ⟨rfl, hv⟩ := hz
        refine ⟨1, ?_, ?_⟩
        · show Md_makes_l33 (nI k) (nI j) (nI (u / 14)) s0 (nI (u % 7) - 3) (nI 8) σ = _
          unfold Md_makes_l33
          rw [if_pos (by decide)]
        · rw [mkB_iff.mpr hv, bI_t]
    obtain ⟨r, e, hr⟩ := key
    unfold Md_makes_b20
    rw [r4, e, hr]
    rfl
  unfold Md_makes Md_makes0
  rw [r1, r2]
  by_cases c : u % 14 ≤ 6
  · rw [if_pos ((leL 6 (by omega) (by decide)).mpr c), lp 0 ⟨fun _ => by omega, fun _ => rfl⟩, bzp_bI]
  · rw [if_neg (mt (leL 6 (by omega) (by decide)).mp c), lp 1 ⟨fun z => absurd z (by decide), fun z => by omega⟩, bzp_bI]
/-! all pairs -/
def rlB (A : Nat → Int32) (x y : Nat → Nat) (n u : Nat) : Bool := (List.range n).all (fun t => mkB A u (x t) (y t))
theorem rlB_iff : rlB A x y n u = true ↔ ∀ t, t < n → mkB A u (x t) (y t) = true := by
  unfold rlB
  rw [List.all_eq_true]
  exact ⟨fun H t ht => H t (List.mem_range.mpr ht), fun H t ht => H t (List.mem_range.mp ht)⟩
def PrC (x y : Nat → Nat) (n : Nat) (σ : MH) : Prop := n ≤ 5 ∧ ∀ t, t < n → x t < 12 ∧ y t < 12 ∧ σ.1 110 (2 * t) = nI (x t) ∧ σ.1 110 (2 * t + 1) = nI (y t)
def PrM (x y : Nat → Nat) (n : Nat) (σ : MH) : Prop := n ≤ 5 ∧ ∀ t, t < n → x t < 12 ∧ y t < 12 ∧ σ.1 170 (2 * t) = nI (x t) ∧ σ.1 170 (2 * t + 1) = nI (y t)
theorem ix2 (ht : t < 5) : inb (2 * nI t) 260 = true ∧ (2 * nI t).toNatClampNeg = 2 * t ∧ inb (2 * nI t + 1) 260 = true ∧ (2 * nI t + 1).toNatClampNeg = 2 * t + 1 := by
  rw [lit_nI 2, pk_mul, show nI (2 * t) + 1 = nI (2 * t + 1) from nI_1 _]
  exact ⟨inb_nI (by omega) (by decide), nI_clamp (by omega), inb_nI (by omega) (by decide), nI_clamp (by omega)⟩
theorem c_rulesAll (hD : LD 1 A σ) (hu : u < 112) (hP : PrC x y n σ) : ∃ σ', Pz_rulesAll (nI u) (nI n) σ = some (bI (rlB A x y n u), σ') ∧ Fx (fun b _ => b = 165) σ σ' := by
  obtain ⟨hn, hP⟩ := hP
  obtain ⟨r, e, e1, p⟩ : ∃ r, Pz_rulesAll_L2 (nI u) (nI n) (0, σ) = some r ∧ r.1 = bI (rlB A x y n u) ∧ Fx (fun b _ => b = 165) σ r.2 := by
    refine itr_n n (fun (t : Nat) (z : Int32 × MH) => z.1 = nI t ∧ Fx (fun b _ => b = 165) σ z.2 ∧ ∀ s, s < t → mkB A u (x s) (y s) = true) _ ⟨rfl, Fx.rf, fun s hs => by omega⟩ (fun t z ht hz => ?_) (fun z hz => ?_) (by show n < 1000000; omega)
    · obtain ⟨z1, z2⟩ := z
      obtain ⟨rfl, hf, hv⟩ := hz
      dsimp only at hf hv
      obtain ⟨i1, i2, i3, i4⟩ := ix2 (show t < 5 by omega)
      obtain ⟨p1, p2, p3, p4⟩ := hP t ht
      obtain ⟨f1, f2, f3, f4⟩ := ix3 12 p1
      obtain ⟨g1, g2, g3, g4⟩ := ix3 12 p2
      have hDz : LD 1 A z2 := LD_of hD (fun b m s t => hf b m (by omega))
      obtain ⟨σ', ec, pc, gc⟩ := c_cut hDz hu p1
      have hD' : LD 1 A σ' := LD_of hDz (fun b m s t => pc b m (by omega))
      have step : Pz_rulesAll_l2 (nI u) (nI n) (nI t) z2 = if bI (mkB A u (x t) (y t)) = 0 then some (.inr (0, σ')) else some (.inl (nI (t + 1), σ')) := by
        unfold Pz_rulesAll_l2
        rw [if_neg (by rw [nI_leI (by omega) (by omega)]; omega), if_pos i1, if_pos i3, i2, i4, hf 110 _ (by omega), hf 110 _ (by omega), p3, p4, v_isNumber p1, Option.bind_some, if_neg (by decide), v_isNumber p2, Option.bind_some, if_neg (by decide), if_pos f2, f3, rf9 p1, ec, Option.bind_some, if_pos g2, g3, rf9 p2, c_cutSame hD' hu p2 gc, Option.bind_some, show nI t + 1 = nI (t + 1) from nI_1 _]
      cases hb : mkB A u (x t) (y t)
      · rw [hb, bI_f, if_pos rfl] at step
        refine Or.inr ⟨_, step, ?_, hf.tr pc⟩
        have : rlB A x y n u = false := Bool.eq_false_iff.mpr (fun z => by rw [rlB_iff.mp z t ht] at hb; cases hb)
        rw [this, bI_f]
      · rw [hb, bI_t, if_neg (show ¬ (1 : Int32) = 0 by decide)] at step
        refine Or.inl ⟨_, step, rfl, hf.tr pc, fun s hs => ?_⟩
        by_cases c : s = t
        · rw [c]; exact hb
        · exact hv s (by omega)
    · obtain ⟨z1, z2⟩ := z
      obtain ⟨rfl, hf, hv⟩ := hz
      refine ⟨(1, z2), ?_, ?_, hf⟩
      · show Pz_rulesAll_l2 (nI u) (nI n) (nI n) z2 = _
        unfold Pz_rulesAll_l2
        rw [if_pos (Int32.le_refl _)]
      · rw [rlB_iff.mpr hv, bI_t]
  refine ⟨r.2, ?_, p⟩
  unfold Pz_rulesAll Pz_rulesAll0
  rw [e, Option.bind_some, e1]
  cases rlB A x y n u <;> rfl
theorem m_makesAll (hu : u < 112) (hP : PrM x y n σ) : Md_makesAll (nI u) (nI n) σ = some (bI (rlB (σ.1 167) x y n u)) := by
  obtain ⟨hn, hP⟩ := hP
  obtain ⟨r, e, e1⟩ : ∃ r, Md_makesAll_L2 (nI u) (nI n) σ 0 = some r ∧ r = bI (rlB (σ.1 167) x y n u) := by
    refine itr_n n (fun (t : Nat) (z : Int32) => z = nI t ∧ ∀ s, s < t → mkB (σ.1 167) u (x s) (y s) = true) _ ⟨rfl, fun s hs => by omega⟩ (fun t z ht hz => ?_) (fun z hz => ?_) (by show n < 1000000; omega)
    · obtain ⟨rfl, hv⟩ := hz
      obtain ⟨i1, i2, i3, i4⟩ := ix2 (show t < 5 by omega)
      obtain ⟨p1, p2, p3, p4⟩ := hP t ht
      have step : Md_makesAll_l2 (nI u) (nI n) (nI t) σ = if bI (mkB (σ.1 167) u (x t) (y t)) = 0 then some (.inr 0) else some (.inl (nI (t + 1))) := by
        unfold Md_makesAll_l2
        rw [if_neg (by rw [nI_leI (by omega) (by omega)]; omega), if_pos i1, if_pos i3, i2, i4, p3, p4, m_makes hu p1 p2, Option.bind_some, show nI t + 1 = nI (t + 1) from nI_1 _]
      cases hb : mkB (σ.1 167) u (x t) (y t)
      · rw [hb, bI_f, if_pos rfl] at step
        refine Or.inr ⟨_, step, ?_⟩
        have : rlB (σ.1 167) x y n u = false := Bool.eq_false_iff.mpr (fun z => by rw [rlB_iff.mp z t ht] at hb; cases hb)
        rw [this, bI_f]
      · rw [hb, bI_t, if_neg (show ¬ (1 : Int32) = 0 by decide)] at step
        refine Or.inl ⟨_, step, rfl, fun s hs => ?_⟩
        by_cases c : s = t
        · rw [c]; exact hb
        · exact hv s (by omega)
    · obtain ⟨rfl, hv⟩ := hz
      refine ⟨1, ?_, ?_⟩
      · show Md_makesAll_l2 (nI u) (nI n) (nI n) σ = _
        unfold Md_makesAll_l2
        rw [if_pos (Int32.le_refl _)]
      · rw [rlB_iff.mpr hv, bI_t]
  unfold Md_makesAll Md_makesAll0
  rw [e, e1, Option.bind_some, bzp_bI]
/-! how many, and the first -/
def cuS (p : Nat → Bool) (n : Nat) : Nat × Nat := fo (fun u s => if p u = true then (s.1 + 1, if s.1 = 0 then u else s.2) else s) n (0, 0)
def frsC (s : Nat × Nat) : Int32 := if s.1 = 0 then -2 else nI s.2
theorem cuS_bd (p : Nat → Bool) : ∀ n, (cuS p n).1 ≤ n ∧ (0 < (cuS p n).1 → (cuS p n).2 < n) := fun n => by
  induction n with
  | zero => exact ⟨Nat.le_refl _, fun h => absurd h (Nat.lt_irrefl _)⟩
  | succ n ih =>
    have e : cuS p (n + 1) = if p n = true then ((cuS p n).1 + 1, if (cuS p n).1 = 0 then n else (cuS p n).2) else cuS p n := rfl
    rw [e]
    by_cases h : p n = true
    · rw [if_pos h]
      dsimp only
      refine ⟨by omega, fun _ => ?_⟩
      split
      · omega
      · have := ih.2 (by omega); omega
    · rw [if_neg h]
      exact ⟨by omega, fun z => by have := ih.2 z; omega⟩
theorem c_counts (hD : LD 1 A σ) (hP : PrC x y n σ) (v2 v3 : Int32) : ∃ σ', Pz_cutter_L157 (nI n) v2 v3 (0, -2, 0, σ) = some (nI (cuS (rlB A x y n) 112).1, frsC (cuS (rlB A x y n) 112), σ') ∧ Fx (fun b _ => b = 165) σ σ' := by
  obtain ⟨r, e, e1, e2, p⟩ : ∃ r, Pz_cutter_L157 (nI n) v2 v3 (0, -2, 0, σ) = some r ∧ r.1 = nI (cuS (rlB A x y n) 112).1 ∧ r.2.1 = frsC (cuS (rlB A x y n) 112) ∧ Fx (fun b _ => b = 165) σ r.2.2 := by
    refine itr_n 112 (fun (u : Nat) (z : Int32 × Int32 × Int32 × MH) => z.1 = nI (cuS (rlB A x y n) u).1 ∧ z.2.1 = frsC (cuS (rlB A x y n) u) ∧ z.2.2.1 = nI u ∧ Fx (fun b _ => b = 165) σ z.2.2.2) _ ⟨rfl, rfl, rfl, Fx.rf⟩ (fun u z hu hz => ?_) (fun z hz => ?_)
    · obtain ⟨z1, z2, z3, z4⟩ := z
      obtain ⟨e1, e2, e3, hf⟩ := hz
      dsimp only at e1 e2 e3 hf
      subst e1; subst e2; subst e3
      have hDz : LD 1 A z4 := LD_of hD (fun b m s t => hf b m (by omega))
      obtain ⟨σ', er, pr⟩ := c_rulesAll hDz hu (⟨hP.1, fun t ht => by rw [hf 110 _ (by omega), hf 110 _ (by omega)]; exact hP.2 t ht⟩ : PrC x y n z4)
      have hb := cuS_bd (rlB A x y n) u
      have es : cuS (rlB A x y n) (u + 1) = if rlB A x y n u = true then ((cuS (rlB A x y n) u).1 + 1, if (cuS (rlB A x y n) u).1 = 0 then u else (cuS (rlB A x y n) u).2) else cuS (rlB A x y n) u := rfl
      left
      rw [es]
      show ∃ s', Pz_cutter_l157 (nI n) v2 v3 _ _ (nI u) z4 = _ ∧ _
      unfold Pz_cutter_l157 Pz_cutter_b186 Pz_cutter_b191
      rw [if_neg (mt (leR 112 (by omega) (by decide)).mp (by omega)), er, Option.bind_some, show nI u + 1 = nI (u + 1) from nI_1 _]
      cases rlB A x y n u
      · dsimp only
        rw [bI_f, if_pos rfl, if_neg (by decide)]
        exact ⟨_, rfl, rfl, rfl, rfl, hf.tr pr⟩
      · dsimp only
        rw [bI_t, if_neg (show ¬ (1 : Int32) = 0 by decide), if_pos rfl, show nI (cuS (rlB A x y n) u).1 + 1 = nI ((cuS (rlB A x y n) u).1 + 1) from nI_1 _]
        by_cases c : (cuS (rlB A x y n) u).1 = 0
        · rw [if_pos ((eqL 0 (by omega) (by decide)).mpr c), if_pos c]
          refine ⟨_, rfl, rfl, ?_, rfl, hf.tr pr⟩
          unfold frsC
          rw [if_neg (show ¬ (cuS (rlB A x y n) u).1 + 1 = 0 by omega)]
        · rw [if_neg (mt (eqL 0 (by omega) (by decide)).mp c), if_neg c]
          refine ⟨_, rfl, rfl, ?_, rfl, hf.tr pr⟩
          unfold frsC
          rw [if_neg c, if_neg (show ¬ (cuS (rlB A x y n) u).1 + 1 = 0 by omega)]
    · obtain ⟨z1, z2, z3, z4⟩ := z
      obtain ⟨e1, e2, e3, hf⟩ := hz
      dsimp only at e1 e2 e3 hf
      subst e3
      refine ⟨(z1, z2, z4), ?_, e1, e2, hf⟩
      show Pz_cutter_l157 (nI n) v2 v3 _ _ (nI 112) z4 = _
      unfold Pz_cutter_l157
      rw [if_pos (by decide)]
  refine ⟨r.2.2, ?_, p⟩
  rw [e, ← e1, ← e2]
theorem m_counts (hP : PrM x y n σ) (v2 : Int32) : Md_cutter_L122 (nI n) v2 σ (0, -2, 0) = some (nI (cuS (rlB (σ.1 167) x y n) 112).1, frsC (cuS (rlB (σ.1 167) x y n) 112)) := by
  obtain ⟨r, e, e1⟩ : ∃ r, Md_cutter_L122 (nI n) v2 σ (0, -2, 0) = some r ∧ r = (nI (cuS (rlB (σ.1 167) x y n) 112).1, frsC (cuS (rlB (σ.1 167) x y n) 112)) := by
    refine itr_n 112 (fun (u : Nat) (z : Int32 × Int32 × Int32) => z = (nI (cuS (rlB (σ.1 167) x y n) u).1, frsC (cuS (rlB (σ.1 167) x y n) u), nI u)) _ rfl (fun u z hu hz => ?_) (fun z hz => ?_)
    · subst hz
      have hb := cuS_bd (rlB (σ.1 167) x y n) u
      have es : cuS (rlB (σ.1 167) x y n) (u + 1) = if rlB (σ.1 167) x y n u = true then ((cuS (rlB (σ.1 167) x y n) u).1 + 1, if (cuS (rlB (σ.1 167) x y n) u).1 = 0 then u else (cuS (rlB (σ.1 167) x y n) u).2) else cuS (rlB (σ.1 167) x y n) u := rfl
      left
      refine ⟨_, ?_, rfl⟩
      show Md_cutter_l122 (nI n) v2 _ _ (nI u) σ = _
      rw [es]
      unfold Md_cutter_l122 Md_cutter_b153 Md_cutter_b159
      rw [if_neg (mt (leR 112 (by omega) (by decide)).mp (by omega)), m_makesAll hu hP, Option.bind_some, show nI u + 1 = nI (u + 1) from nI_1 _]
      cases rlB (σ.1 167) x y n u
      · rw [bI_f, if_pos rfl, if_neg (by decide)]
      · rw [bI_t, if_neg (show ¬ (1 : Int32) = 0 by decide), if_pos rfl, show nI (cuS (rlB (σ.1 167) x y n) u).1 + 1 = nI ((cuS (rlB (σ.1 167) x y n) u).1 + 1) from nI_1 _]
        unfold frsC
        rw [if_neg (show ¬ (cuS (rlB (σ.1 167) x y n) u).1 + 1 = 0 by omega)]
        by_cases c : (cuS (rlB (σ.1 167) x y n) u).1 = 0
        · rw [if_pos ((eqL 0 (by omega) (by decide)).mpr c), if_pos c]
        · rw [if_neg (mt (eqL 0 (by omega) (by decide)).mp c), if_neg c, if_neg c]
    · subst hz
      refine ⟨_, ?_, rfl⟩
      show Md_cutter_l122 (nI n) v2 _ _ (nI 112) σ = _
      unfold Md_cutter_l122
      rw [if_pos (by decide)]
  rw [e, e1]
/-! what a rule makes of a piece -/
def made12 (A : Nat → Int32) (u k : Nat) : Int32 := if fsP (mkB A u k) 12 = 12 then -2 else nI (fsP (mkB A u k) 12)
theorem made_hit (hj : j < 12) (h : mkB A u k j = true) (h2 : ∀ i, i < j → mkB A u k i = false) : made12 A u k = nI j := by
  unfold made12
  rw [fsP_hit hj h h2, if_neg (by omega)]
theorem made_no (h : ∀ i, i < 12 → mkB A u k i = false) : made12 A u k = -2 := by
  unfold made12
  rw [fsP_no h, if_pos rfl]
theorem c_madeBy (hD : LD 1 A σ) (hu : u < 112) (hk : k < 12) : ∃ σ', Pz_madeBy (nI u) (nI k) σ = some (made12 A u k, σ') ∧ Fx (fun b _ => b = 165) σ σ' := by
  obtain ⟨f1, f2, f3, f4⟩ := ix3 12 hk
  obtain ⟨σ', ec, pc, gc⟩ := c_cut hD hu hk
  have hD' : LD 1 A σ' := LD_of hD (fun b m s t => pc b m (by omega))
  obtain ⟨r, e, hr⟩ : ∃ r, Pz_madeBy_L26 σ' 0 = some r ∧ r = made12 A u k := by
    refine itr_n 12 (fun (j : Nat) (z : Int32) => z = nI j ∧ ∀ i, i < j → mkB A u k i = false) _ ⟨rfl, fun i hi => by omega⟩ (fun j z hj hz => ?_) (fun z hz => ?_)
    · obtain ⟨rfl, hv⟩ := hz
      obtain ⟨g1, g2, g3, g4⟩ := ix3 12 hj
      have step : Pz_madeBy_l26 (nI j) σ' = if bI (mkB A u k j) = 0 then some (.inl (nI (j + 1))) else some (.inr (nI j)) := by
        unfold Pz_madeBy_l26
        rw [if_neg g1, if_pos g2, g3, rf9 hj, c_cutSame hD' hu hj gc, Option.bind_some, show nI j + 1 = nI (j + 1) from nI_1 _]
      cases hb : mkB A u k j
      · rw [hb, bI_f, if_pos rfl] at step
        refine Or.inl ⟨_, step, rfl, fun i hi => ?_⟩
        by_cases c : i = j
        · rw [c]; exact hb
        · exact hv i (by omega)
      · rw [hb, bI_t, if_neg (show ¬ (1 : Int32) = 0 by decide)] at step
        exact Or.inr ⟨_, step, (made_hit hj hb hv).symm⟩
    · obtain ⟨rfl, hv⟩ := hz
      refine ⟨-2, ?_, (made_no hv).symm⟩
      show Pz_madeBy_l26 (nI 12) σ' = _
      unfold Pz_madeBy_l26
      rw [if_pos (by decide)]
  refine ⟨σ', ?_, pc⟩
  unfold Pz_madeBy Pz_madeBy0
  rw [v_isNumber hk, Option.bind_some, if_neg (by decide), if_pos f2, f3, rf9 hk, ec, Option.bind_some, e, hr]
  rfl
theorem m_madeBy (hu : u < 112) (hk : k < 12) : Md_cutter_L184 (nI (10 + k)) (nI u) σ 0 = some (made12 (σ.1 167) u k) := by
  obtain ⟨r, e, hr⟩ : ∃ r, Md_cutter_L184 (nI (10 + k)) (nI u) σ 0 = some r ∧ r = made12 (σ.1 167) u k := by
    refine itr_n 12 (fun (j : Nat) (z : Int32) => z = nI j ∧ ∀ i, i < j → mkB (σ.1 167) u k i = false) _ ⟨rfl, fun i hi => by omega⟩ (fun j z hj hz => ?_) (fun z hz => ?_)
    · obtain ⟨rfl, hv⟩ := hz
      obtain ⟨g1, g2, g3, g4⟩ := ix3 12 hj
      have step : Md_cutter_l184 (nI (10 + k)) (nI u) (nI j) σ = if bI (mkB (σ.1 167) u k j) = 0 then some (.inl (nI (j + 1))) else some (.inr (nI j)) := by
        unfold Md_cutter_l184
        rw [if_neg g1, if_neg (nI_m2 (show u < 2 ^ 31 by omega)), subL 10 (by omega), show 10 + k - 10 = k by omega, m_makes hu hk hj, Option.bind_some, show nI j + 1 = nI (j + 1) from nI_1 _]
      cases hb : mkB (σ.1 167) u k j
      · rw [hb, bI_f, if_pos rfl] at step
        refine Or.inl ⟨_, step, rfl, fun i hi => ?_⟩
        by_cases c : i = j
        · rw [c]; exact hb
        · exact hv i (by omega)
      · rw [hb, bI_t, if_neg (show ¬ (1 : Int32) = 0 by decide)] at step
        exact Or.inr ⟨_, step, (made_hit hj hb hv).symm⟩
    · obtain ⟨rfl, hv⟩ := hz
      refine ⟨-2, ?_, (made_no hv).symm⟩
      show Md_cutter_l184 (nI (10 + k)) (nI u) (nI 12) σ = _
      unfold Md_cutter_l184
      rw [if_pos (by decide)]
  rw [e, hr]
theorem m_madeBy2 : Md_cutter_L184 (nI (10 + k)) (-2) σ 0 = some (-2) := by
  obtain ⟨r, e, hr⟩ : ∃ r, Md_cutter_L184 (nI (10 + k)) (-2) σ 0 = some r ∧ r = -2 := by
    refine itr_n 12 (fun (j : Nat) (z : Int32) => z = 0) _ rfl (fun j z hj hz => ?_) (fun z hz => ?_)
    · subst hz
      refine Or.inr ⟨-2, ?_, rfl⟩
      show Md_cutter_l184 (nI (10 + k)) (-2) 0 σ = _
      unfold Md_cutter_l184
      rw [if_neg (by decide), if_pos rfl]
    · subst hz
      exact ⟨-2, by
        show Md_cutter_l184 (nI (10 + k)) (-2) 0 σ = _
        unfold Md_cutter_l184
        rw [if_neg (by decide), if_pos rfl], rfl⟩
  rw [e, hr]
/-! the pairs as they stand on the tape -/
def b8 (σ : MH) (j : Nat) : Nat := (σ.1 110 j).toNatClampNeg
theorem b8_ok (hI : Inv σ) (hj : j < 260) : b8 σ j < 256 ∧ σ.1 110 j = nI (b8 σ j) ∧ σ.1 170 j = jb (nI (b8 σ j)) := by
  obtain ⟨b, hb, t1, t2⟩ := hI.2.2.2.1.2.2 j hj
  have : b8 σ j = b := by unfold b8; rw [t1, nI_clamp (by omega)]
  rw [this]
  exact ⟨hb, t1, t2⟩
theorem jb_12 {b : Nat} (hb : b < 256) : Md_isTwelve (jb (nI b)) σ = some (bI (decide (b < 12))) ∧ (b < 12 → jb (nI b) = nI b) := by
  have h1 : ∀ b, b < 256 → (if jb (nI b) < 0 then (0 : Int32) else if 12 ≤ jb (nI b) then 0 else 1) = bI (decide (b < 12)) ∧ (b < 12 → jb (nI b) = nI b) := by decide +kernel
  rw [m_tw, (h1 b hb).1]
  exact ⟨rfl, (h1 b hb).2⟩
theorem jb_inj {a b : Nat} (ha : a < 256) (hb : b < 256) : jb (nI a) = jb (nI b) ↔ a = b := by
  refine ⟨fun h => ?_, fun h => by rw [h]⟩
  have := congrArg (fun z => z &&& 255) h
  rw [jb_255 ha, jb_255 hb] at this
  exact (nI_eq (by omega) (by omega)).mp this
def okP (σ : MH) (t : Nat) : Bool := decide (b8 σ (2 * t) < 12) && (decide (b8 σ (2 * t + 1) < 12) && !decide (b8 σ (2 * t) = b8 σ (2 * t + 1)))
theorem c_pairs {τ : MH} (hI : Inv σ) (hn : n ≤ 5) (e110 : τ.1 110 = σ.1 110) (v2 v3 : Int32) : Pz_cutter_L67 (nI n) v2 v3 τ 0 = some (if (List.range n).all (okP σ) = true then .inl () else .inr (-3)) := by
  obtain ⟨r, e, hr⟩ : ∃ r, Pz_cutter_L67 (nI n) v2 v3 τ 0 = some r ∧ r = if (List.range n).all (okP σ) = true then .inl () else .inr (-3) := by
    refine itr_n n (fun (t : Nat) (z : Int32) => z = nI t ∧ ∀ s, s < t → okP σ s = true) _ ⟨rfl, fun s hs => by omega⟩ (fun t z ht hz => ?_) (fun z hz => ?_) (by show n < 1000000; omega)
    · obtain ⟨rfl, hv⟩ := hz
      obtain ⟨i1, i2, i3, i4⟩ := ix2 (show t < 5 by omega)
      obtain ⟨a1, a2, -⟩ := b8_ok hI (show 2 * t < 260 by omega)
      obtain ⟨b1, b2, -⟩ := b8_ok hI (show 2 * t + 1 < 260 by omega)
      have step : Pz_cutter_l67 (nI n) v2 v3 (nI t) τ = if okP σ t = true then some (.inl (nI (t + 1))) else some (.inr (.inr (-3))) := by
        unfold Pz_cutter_l67
        rw [if_neg (by rw [nI_leI (by omega) (by omega)]; omega), if_pos i1, if_pos i3, i2, i4, e110, a2, b2, show nI t + 1 = nI (t + 1) from nI_1 _]
        unfold okP
        by_cases c1 : b8 σ (2 * t) < 12
        · rw [if_neg (mt (leR 12 (by omega) (by decide)).mp (by omega)), decide_eq_true c1]
          by_cases c2 : b8 σ (2 * t + 1) < 12
          · rw [if_neg (mt (leR 12 (by omega) (by decide)).mp (by omega)), decide_eq_true c2]
            by_cases c3 : b8 σ (2 * t) = b8 σ (2 * t + 1)
            · rw [if_pos (by rw [c3]), decide_eq_true c3]
              rfl
            · rw [if_neg (fun z => c3 ((nI_eq (by omega) (by omega)).mp z)), decide_eq_false c3]
              rfl
          · rw [if_pos ((leR 12 (by omega) (by decide)).mpr (by omega)), decide_eq_false c2]
            rfl
        · rw [if_pos ((leR 12 (by omega) (by decide)).mpr (by omega)), decide_eq_false c1]
          rfl
      by_cases c : okP σ t = true
      · rw [if_pos c] at step
        refine Or.inl ⟨_, step, rfl, fun s hs => ?_⟩
        by_cases d : s = t
        · rw [d]; exact c
        · exact hv s (by omega)
      · rw [if_neg c] at step
        refine Or.inr ⟨_, step, ?_⟩
        rw [if_neg (fun z => c (List.all_eq_true.mp z t (List.mem_range.mpr ht)))]
    · obtain ⟨rfl, hv⟩ := hz
      refine ⟨.inl (), ?_, ?_⟩
      · show Pz_cutter_l67 (nI n) v2 v3 (nI n) τ = _
        unfold Pz_cutter_l67
        rw [if_pos (Int32.le_refl _)]
      · rw [if_pos (List.all_eq_true.mpr (fun t ht => hv t (List.mem_range.mp ht)))]
  rw [e, hr]
theorem m_pairs {τ : MH} (hI : Inv σ) (hn : n ≤ 5) (e170 : τ.1 170 = σ.1 170) (v2 : Int32) : Md_cutter_L48 (nI n) v2 τ 0 = some (if (List.range n).all (okP σ) = true then .inl () else .inr (-3)) := by
  obtain ⟨r, e, hr⟩ : ∃ r, Md_cutter_L48 (nI n) v2 τ 0 = some r ∧ r = if (List.range n).all (okP σ) = true then .inl () else .inr (-3) := by
    refine itr_n n (fun (t : Nat) (z : Int32) => z = nI t ∧ ∀ s, s < t → okP σ s = true) _ ⟨rfl, fun s hs => by omega⟩ (fun t z ht hz => ?_) (fun z hz => ?_) (by show n < 1000000; omega)
    · obtain ⟨rfl, hv⟩ := hz
      obtain ⟨i1, i2, i3, i4⟩ := ix2 (show t < 5 by omega)
      obtain ⟨a1, -, a2⟩ := b8_ok hI (show 2 * t < 260 by omega)
      obtain ⟨b1, -, b2⟩ := b8_ok hI (show 2 * t + 1 < 260 by omega)
      have step : Md_cutter_l48 (nI n) v2 (nI t) τ = if okP σ t = true then some (.inl (nI (t + 1))) else some (.inr (.inr (-3))) := by
        unfold Md_cutter_l48
        rw [if_neg (by rw [nI_leI (by omega) (by omega)]; omega), if_pos i1, if_pos i3, i2, i4, e170, a2, b2, (jb_12 a1).1, Option.bind_some, (jb_12 b1).1, Option.bind_some, show nI t + 1 = nI (t + 1) from nI_1 _]
        unfold okP
        by_cases c1 : b8 σ (2 * t) < 12
        · rw [decide_eq_true c1, bI_t, if_neg (show ¬ (1 : Int32) = 0 by decide)]
          by_cases c2 : b8 σ (2 * t + 1) < 12
          · rw [decide_eq_true c2, bI_t, if_neg (show ¬ (1 : Int32) = 0 by decide)]
            by_cases c3 : b8 σ (2 * t) = b8 σ (2 * t + 1)
            · rw [if_pos (by rw [c3]), decide_eq_true c3]
              rfl
            · rw [if_neg (fun z => c3 ((jb_inj a1 b1).mp z)), decide_eq_false c3]
              rfl
          · rw [decide_eq_false c2]
            rfl
        · rw [decide_eq_false c1]
          rfl
      by_cases c : okP σ t = true
      · rw [if_pos c] at step
        refine Or.inl ⟨_, step, rfl, fun s hs => ?_⟩
        by_cases d : s = t
        · rw [d]; exact c
        · exact hv s (by omega)
      · rw [if_neg c] at step
        refine Or.inr ⟨_, step, ?_⟩
        rw [if_neg (fun z => c (List.all_eq_true.mp z t (List.mem_range.mpr ht)))]
    · obtain ⟨rfl, hv⟩ := hz
      refine ⟨.inl (), ?_, ?_⟩
      · show Md_cutter_l48 (nI n) v2 (nI n) τ = _
        unfold Md_cutter_l48
        rw [if_pos (Int32.le_refl _)]
      · rw [if_pos (List.all_eq_true.mpr (fun t ht => hv t (List.mem_range.mp ht)))]
  rw [e, hr]
end CUT
section CUTC
variable {σ : MH} {n w : Nat}
def ansU (A : Nat → Int32) (s : Nat × Nat) (w : Nat) : Int32 := if w = 0 then nI s.1 else if w = 1 then frsC s else if s.1 = 0 then -2 else made12 A s.2 (w - 10)
theorem c_b56 (hI : Inv σ) (h1 : 1 ≤ n) (hn : n ≤ 5) (hw : (w ≤ 1) ∨ (10 ≤ w ∧ w ≤ 21)) {v3 : Int32} (h3 : v3 = bI (decide (10 ≤ w))) : ∃ σ', Pz_cutter_b56 (nI n) (nI w) v3 σ = some (if (List.range n).all (okP σ) = true then ansU (σ.1 167) (cuS (rlB (σ.1 167) (fun t => b8 σ (2 * t)) (fun t => b8 σ (2 * t + 1)) n) 112) w else -3, σ') ∧ Fx (fun b k => b = 165 ∨ (b = 109 ∧ k = 1)) σ σ' ∧ σ'.1 109 1 = 0 := by
  have e1 : (sI σ 109 1 0).1 110 = σ.1 110 := sI_objF (by decide)
  unfold Pz_cutter_b56
  rw [c_pairs hI hn e1, Option.bind_some]
  by_cases ha : (List.range n).all (okP σ) = true
  · rw [if_pos ha, if_pos ha]
    dsimp only
    have hD1 : LD 1 (σ.1 167) (sI σ 109 1 0) := LD_of hI.1 (fun b m s t => sI_obj (by omega))
    have hP : PrC (fun t => b8 σ (2 * t)) (fun t => b8 σ (2 * t + 1)) n (sI σ 109 1 0) := ⟨hn, fun t ht => by
      have := List.all_eq_true.mp ha t (List.mem_range.mpr ht)
      unfold okP at this
      simp only [Bool.and_eq_true, decide_eq_true_eq] at this
      rw [e1]
      exact ⟨this.1, this.2.1, (b8_ok hI (by omega)).2.1, (b8_ok hI (by omega)).2.1⟩⟩
    obtain ⟨σ2, ec, pc⟩ := c_counts hD1 hP (nI w) v3
    have F2 : Fx (fun b k => b = 165 ∨ (b = 109 ∧ k = 1)) σ σ2 := (Fx_sI (Or.inr ⟨rfl, rfl⟩)).tr (pc.mo (fun b k q => Or.inl q))
    have z2 : σ2.1 109 1 = 0 := (pc 109 1 (by omega)).trans sI_same
    rw [ec, Option.bind_some]
    dsimp only
    have hb := cuS_bd (rlB (σ.1 167) (fun t => b8 σ (2 * t)) (fun t => b8 σ (2 * t + 1)) n) 112
    generalize cuS (rlB (σ.1 167) (fun t => b8 σ (2 * t)) (fun t => b8 σ (2 * t + 1)) n) 112 = s at hb
    unfold ansU Pz_cutter_b226
    by_cases w0 : w = 0
    · rw [if_pos ((eqL 0 (by omega) (by decide)).mpr w0), if_pos w0]
      exact ⟨σ2, rfl, F2, z2⟩
    · rw [if_neg (mt (eqL 0 (by omega) (by decide)).mp w0), if_neg w0]
      by_cases w1 : w = 1
      · subst w1
        rw [h3, decide_eq_false (by omega), bI_f, if_pos rfl, if_pos rfl, if_pos rfl]
        exact ⟨σ2, rfl, F2, z2⟩
      · rw [h3, decide_eq_true (by omega), bI_t, if_neg (show ¬ (1 : Int32) = 0 by decide), if_neg w1]
        unfold frsC
        by_cases c : s.1 = 0
        · rw [if_pos c, if_pos (by decide), if_neg (show ¬ (1 : Int32) = 0 by decide), if_pos c]
          exact ⟨σ2, rfl, F2, z2⟩
        · have h112 := hb.2 (by omega)
          have hD2 : LD 1 (σ.1 167) σ2 := LD_of hD1 (fun b m s t => pc b m (by omega))
          obtain ⟨σ3, e3, p3⟩ := c_madeBy (u := s.2) (k := w - 10) hD2 h112 (by omega)
          rw [if_neg c, if_neg (nI_pos (by omega)), if_neg c, subL 10 (by omega), e3, Option.bind_some]
          dsimp only
          exact ⟨σ3, rfl, F2.tr (p3.mo (fun b k q => Or.inl q)), (p3 109 1 (by omega)).trans z2⟩
  · rw [if_neg ha, if_neg ha]
    exact ⟨sI σ 109 1 0, rfl, Fx_sI (Or.inr ⟨rfl, rfl⟩), sI_same⟩
theorem m_b29 (hI : Inv σ) {τ : MH} (h1 : 1 ≤ n) (hn : n ≤ 5) (hw : (w ≤ 1) ∨ (10 ≤ w ∧ w ≤ 21)) (hF : Fx (fun b k => b = 165 ∨ (b = 109 ∧ k = 1)) σ τ) (hl : 2 * nI n ≤ σ.1 166 4) : Md_cutter_b29 (nI n) (nI w) τ = some (if (List.range n).all (okP σ) = true then ansU (σ.1 167) (cuS (rlB (σ.1 167) (fun t => b8 σ (2 * t)) (fun t => b8 σ (2 * t + 1)) n) 112) w else -3, sI τ 166 4 0) := by
  have e1 : (sI τ 166 4 0).1 170 = σ.1 170 := by rw [sI_objF (by decide)]; exact funext fun k => hF 170 k (by omega)
  have e7 : (sI τ 166 4 0).1 167 = σ.1 167 := by rw [sI_objF (by decide)]; exact funext fun k => hF 167 k (by omega)
  unfold Md_cutter_b29
  rw [hF 166 4 (by omega), if_pos hl, m_pairs hI hn e1, Option.bind_some]
  by_cases ha : (List.range n).all (okP σ) = true
  · rw [if_pos ha, if_pos ha]
    dsimp only
    have hP : PrM (fun t => b8 σ (2 * t)) (fun t => b8 σ (2 * t + 1)) n (sI τ 166 4 0) := ⟨hn, fun t ht => by
      have := List.all_eq_true.mp ha t (List.mem_range.mpr ht)
      unfold okP at this
      simp only [Bool.and_eq_true, decide_eq_true_eq] at this
      obtain ⟨a1, -, a2⟩ := b8_ok hI (show 2 * t < 260 by omega)
      obtain ⟨b1, -, b2⟩ := b8_ok hI (show 2 * t + 1 < 260 by omega)
      rw [e1, a2, b2]
      exact ⟨this.1, this.2.1, (jb_12 (σ := σ) a1).2 this.1, (jb_12 (σ := σ) b1).2 this.2.1⟩⟩
    have ec := m_counts hP (nI w)
    rw [e7] at ec
    rw [ec, Option.bind_some]
    dsimp only
    have hb := cuS_bd (rlB (σ.1 167) (fun t => b8 σ (2 * t)) (fun t => b8 σ (2 * t + 1)) n) 112
    generalize cuS (rlB (σ.1 167) (fun t => b8 σ (2 * t)) (fun t => b8 σ (2 * t + 1)) n) 112 = s at hb
    unfold ansU
    by_cases w0 : w = 0
    · rw [if_neg (mt (leR 2 (by omega) (by decide)).mp (by omega)), if_pos ((eqL 0 (by omega) (by decide)).mpr w0), if_pos w0]
    · by_cases w1 : w = 1
      · rw [if_neg (mt (leR 2 (by omega) (by decide)).mp (by omega)), if_neg (mt (eqL 0 (by omega) (by decide)).mp w0), if_neg w0, if_pos w1]
      · rw [if_pos ((leR 2 (by omega) (by decide)).mpr (by omega)), if_neg w0, if_neg w1]
        obtain ⟨k, rfl⟩ : ∃ k, w = 10 + k := ⟨w - 10, by omega⟩
        rw [show 10 + k - 10 = k by omega]
        unfold frsC
        by_cases c : s.1 = 0
        · rw [if_pos c, if_pos c, m_madeBy2]
          rfl
        · have h112 := hb.2 (by omega)
          rw [if_neg c, if_neg c, m_madeBy h112 (by omega), e7]
          rfl
  · rw [if_neg ha, if_neg ha]
theorem Inv_tp {σ' : MH} (hI : Inv σ) (hF : Fx (fun b k => PX b k ∨ (b = 109 ∧ k = 1) ∨ (b = 166 ∧ k = 4)) σ σ') (h1 : σ'.1 109 1 = 0) (h2 : σ'.1 166 4 = 0) : Inv σ' := by
  obtain ⟨g1, g2, g3, ⟨t1, t2, t3⟩, g5⟩ := hI
  have er : σ'.1 167 = σ.1 167 := funext fun k => hF 167 k (by unfold PX PC PQ; omega)
  refine ⟨?_, by rw [er]; exact g2, InvK_of g3 (fun b k q => hF b k (by unfold PX PC PQ; omega)), ⟨by rw [h1, h2], ⟨0, by omega, h1⟩, fun j hj => ?_⟩, InvW_of g5 (fun b k q => hF b k (by unfold PX PC PQ; omega))⟩
  · rw [er]
    exact LD_of g1 (fun b k a c => hF b k (by unfold PX PC PQ; omega))
  · rw [hF 110 j (by unfold PX PC PQ; omega), hF 170 j (by unfold PX PC PQ; omega)]
    exact t3 j hj
theorem cw_kinds (w : Int32) : (∃ q, w = nI q ∧ (q ≤ 1 ∨ (10 ≤ q ∧ q ≤ 21))) ∨ ((w < 10 ∨ 22 ≤ w) ∧ w ≠ 0 ∧ w ≠ 1) := by
  rcases limN w 21 with ⟨q, hq, rfl⟩ | h
  · by_cases c : q ≤ 1 ∨ (10 ≤ q ∧ q ≤ 21)
    · exact Or.inl ⟨q, rfl, c⟩
    · right
      refine ⟨Or.inl ((ltL 10 (by omega) (by decide)).mpr (by omega)), mt (eqL 0 (by omega) (by decide)).mp (by omega), mt (eqL 1 (by omega) (by decide)).mp (by omega)⟩
  · right
    rw [ti_lt, ti_lt, show (0 : Int32).toInt = 0 from rfl, show (OfNat.ofNat 21 : Int32).toInt = 21 from rfl] at h
    rw [ti_lt, ti_le, show (10 : Int32).toInt = 10 from rfl, show (22 : Int32).toInt = 22 from rfl]
    refine ⟨by omega, fun e => ?_, fun e => ?_⟩
    · rw [e, show (0 : Int32).toInt = 0 from rfl] at h; omega
    · rw [e, show (1 : Int32).toInt = 1 from rfl] at h; omega
theorem st_cutter (hI : Inv σ) (x y : Int32) : ∃ (r r' : Int32) (σ1 : MH) (σ2 : MH), Pz_cutter x y σ = some (r, σ1) ∧ Md_cutter x y σ1 = some (r', σ2) ∧ r = r' ∧ Inv σ2 := by
  have no : Pz_cutter x y σ = some (-1, σ) → Md_cutter x y σ = some (-1, σ) → ∃ (r r' : Int32) (σ1 : MH) (σ2 : MH), Pz_cutter x y σ = some (r, σ1) ∧ Md_cutter x y σ1 = some (r', σ2) ∧ r = r' ∧ Inv σ2 := fun h1 h2 => ⟨-1, -1, σ, σ, h1, h2, rfl, hI⟩
  obtain ⟨t1, ⟨L, hL, t2⟩, -⟩ := hI.2.2.2.1
  have t4 : σ.1 166 4 = nI L := t1.symm.trans t2
  rcases cw_kinds y with ⟨w, rfl, hw⟩ | ⟨hw, w0, w1⟩
  · have hc : Pz_cutter x (nI w) σ = Pz_cutter_b17 x (nI w) (bI (decide (10 ≤ w))) σ := by
      unfold Pz_cutter Pz_cutter0 Pz_cutter_b16
      by_cases c : 10 ≤ w
      · rw [if_neg (mt (ltL 10 (by omega) (by decide)).mp (by omega)), if_neg (mt (leR 22 (by omega) (by decide)).mp (by omega)), decide_eq_true c, bI_t]
      · rw [if_pos ((ltL 10 (by omega) (by decide)).mpr (by omega)), decide_eq_false c, bI_f]
    have hm : ∀ τ : MH, Md_cutter x (nI w) τ = (Md_in x 1 5 τ).bind fun x1 => if x1 = 0 then some (-1, τ) else Md_cutter_b29 x (nI w) τ := fun τ => by
      unfold Md_cutter Md_cutter0
      rw [lit_nI 0, lit_nI 10, lit_nI 21, lit_nI 1, m_in_n (by decide) (by decide) (by omega), m_in_n (by decide) (by decide) (by omega), Option.bind_some, Option.bind_some]
      congr 1
      funext x1
      by_cases c : 10 ≤ w
      · rw [decide_eq_false (show ¬ w ≤ 1 by omega), Bool.and_false, bI_f, if_pos (show (0 : Int32) = nI 0 from rfl), decide_eq_true c, decide_eq_true (show w ≤ 21 by omega), Bool.and_self, bI_t, if_neg (show ¬ (1 : Int32) = nI 0 by decide)]
      · rw [decide_eq_true (show 0 ≤ w by omega), decide_eq_true (show w ≤ 1 by omega), Bool.and_self, bI_t, if_neg (show ¬ (1 : Int32) = nI 0 by decide)]
    rcases limN x 5 with ⟨n, hn, rfl⟩ | hx
    · have hin : ∀ τ : MH, Md_in (nI n) 1 5 τ = some (bI (decide (1 ≤ n) && decide (n ≤ 5))) := fun τ => m_in_n (by decide) (by decide) (by omega)
      by_cases h0 : n = 0
      · refine no ?_ ?_
        · rw [hc]
          unfold Pz_cutter_b17
          rw [if_pos ((ltL 1 (by omega) (by decide)).mpr (by omega))]
        · rw [hm, hin, decide_eq_false (show ¬ 1 ≤ n by omega)]
          rfl
      · have e2 : 2 * nI n = nI (2 * n) := by rw [lit_nI 2, pk_mul]
        by_cases hl : 2 * n ≤ L
        · obtain ⟨σ1, c1, p1, z1⟩ := c_b56 hI (show 1 ≤ n by omega) hn hw (v3 := bI (decide (10 ≤ w))) rfl
          have c2 := m_b29 hI (τ := σ1) (show 1 ≤ n by omega) hn hw p1 (by rw [e2, t4]; exact (nI_leI (by omega) (by omega)).mpr hl)
          refine ⟨_, _, σ1, sI σ1 166 4 0, Eq.trans ?_ c1, Eq.trans ?_ c2, rfl, ?_⟩
          · rw [hc]
            unfold Pz_cutter_b17
            rw [if_neg (mt (ltL 1 (by omega) (by decide)).mp (by omega)), if_neg (mt (ltR 5 (by omega) (by decide)).mp (by omega)), t2, e2, if_neg (by rw [nI_ltI (by omega) (by omega)]; omega)]
            by_cases a0 : nI w = 0
            · rw [if_pos a0]
            · rw [if_neg a0]
              by_cases a1 : nI w = 1
              · rw [if_pos a1]
              · rw [if_neg a1, decide_eq_true (show 10 ≤ w by
                  rcases hw with h | h
                  · exfalso
                    rcases (show w = 0 ∨ w = 1 by omega) with e | e
                    · exact a0 (by rw [e]; rfl)
                    · exact a1 (by rw [e]; rfl)
                  · exact h.1), bI_t, if_neg (show ¬ (1 : Int32) = 0 by decide)]
          · rw [hm, hin, decide_eq_true (show 1 ≤ n by omega), decide_eq_true hn]
            rfl
          · refine Inv_tp hI ((p1.mo (fun b k q => by unfold PX PC PQ; omega)).tr (Fx_sI (by unfold PX PC PQ; omega))) ?_ sI_same
            rw [sI_obj (by decide)]; exact z1
        · refine no ?_ ?_
          · rw [hc]
            unfold Pz_cutter_b17
            rw [if_neg (mt (ltL 1 (by omega) (by decide)).mp (by omega)), if_neg (mt (ltR 5 (by omega) (by decide)).mp (by omega)), t2, e2, if_pos (by rw [nI_ltI (by omega) (by omega)]; omega)]
          · rw [hm, hin, decide_eq_true (show 1 ≤ n by omega), decide_eq_true hn]
            show Md_cutter_b29 (nI n) (nI w) σ = _
            unfold Md_cutter_b29
            rw [e2, t4, if_neg (by rw [nI_leI (by omega) (by omega)]; omega)]
    · refine no ?_ ?_
      · rw [hc]
        unfold Pz_cutter_b17
        rcases hx with hx | hx
        · rw [if_pos (show x < 1 by
            rw [ti_lt] at hx ⊢
            rw [show (0 : Int32).toInt = 0 from rfl] at hx
            rw [show (1 : Int32).toInt = 1 from rfl]
            omega)]
        · rw [if_pos hx]
          split <;> rfl
      · rw [hm]
        have : Md_in x 1 5 σ = some 0 := by
          rw [m_in]
          rw [ti_lt, ti_lt, show (0 : Int32).toInt = 0 from rfl, show (OfNat.ofNat 5 : Int32).toInt = 5 from rfl] at hx
          have : (decide ((1 : Int32) ≤ x) && decide (x ≤ 5)) = false := by
            rw [Bool.and_eq_false_iff, decide_eq_false_iff_not, decide_eq_false_iff_not, ti_le, ti_le, show (1 : Int32).toInt = 1 from rfl, show (5 : Int32).toInt = 5 from rfl]
            omega
          rw [this, bI_f]
        rw [this]
        rfl
  · refine no ?_ ?_
    · unfold Pz_cutter Pz_cutter0 Pz_cutter_b16 Pz_cutter_b17
      rcases hw with h | h
      · rw [if_pos h, if_neg w0, if_neg w1, if_pos rfl]
        simp only [ite_self]
      · rw [if_pos h, if_neg w0, if_neg w1, if_pos rfl]
        have : ¬ y < 10 := by
          rw [ti_lt]
          rw [ti_le, show (22 : Int32).toInt = 22 from rfl] at h
          rw [show (10 : Int32).toInt = 10 from rfl]
          omega
        rw [if_neg this]
        simp only [ite_self]
    · have a1 : (decide ((0 : Int32) ≤ y) && decide (y ≤ 1)) = false := by
        rw [Bool.and_eq_false_iff, decide_eq_false_iff_not, decide_eq_false_iff_not, ti_le, ti_le, show (0 : Int32).toInt = 0 from rfl, show (1 : Int32).toInt = 1 from rfl]
        rw [Ne, ti_eq, show (0 : Int32).toInt = 0 from rfl] at w0
        rw [Ne, ti_eq, show (1 : Int32).toInt = 1 from rfl] at w1
        omega
      have a2 : (decide ((10 : Int32) ≤ y) && decide (y ≤ 21)) = false := by
        rw [Bool.and_eq_false_iff, decide_eq_false_iff_not, decide_eq_false_iff_not, ti_le, ti_le, show (10 : Int32).toInt = 10 from rfl, show (21 : Int32).toInt = 21 from rfl]
        rw [ti_lt, ti_le, show (10 : Int32).toInt = 10 from rfl, show (22 : Int32).toInt = 22 from rfl] at hw
        omega
      unfold Md_cutter Md_cutter0
      rw [m_in, Option.bind_some, m_in y 0 1, Option.bind_some, m_in y 10 21, Option.bind_some, a1, a2, bI_f, if_pos rfl, if_pos rfl]
      simp only [ite_self]
end CUTC
