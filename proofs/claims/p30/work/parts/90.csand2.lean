/-! sanding, in the class, to its end -/
section CS2
variable {σ : MH} {A : Nat → Int32} {i j k n w h p r s a R S : Nat} {b : Option Nat}
variable {G1 G2 C0 : Nat → Nat → Nat} {lo hi : Nat → Nat}
theorem dn1 {n k : Nat} (h : k ≤ n) : nI (n + 1 - k) + -1 = nI (n - k) := by
  have := subL (a := n + 1 - k) 1 (by omega)
  rw [show n - k = n + 1 - k - 1 by omega, ← this]
  exact (Int32.sub_eq_add_neg _ _).symm
theorem WG_of {σ' : MH} (h : WG G1 G2 C0 lo hi n σ) (e1 : σ'.1 = σ.1) (e2 : σ'.2 161 = σ.2 161) : WG G1 G2 C0 lo hi n σ' := by
  unfold WG at *
  rw [e1, e2]
  exact h
theorem c_cellrow (hN : NarF G1 G2 C0 lo hi) (hn : n ≤ 7) (hlo : lo (7 - n) < 19) (hhi : hi (7 - n) < 19) (hg : ∀ p, p < 19 → G1 (7 - n) p ≤ 18 ∧ G2 (7 - n) p ≤ 18) (hW : WG G1 G2 C0 lo hi n σ) (hR : R ≤ 60) (hS : S ≤ 60) (hr : r ≤ R) (hv : ∀ r' s', r' ≤ R → s' ≤ S → σ.2 164 (r' * 61 + s') = jI (if r < r' then valF G1 G2 C0 (n + 1) r' s' else valF G1 G2 C0 n r' s')) (v1 v2 v4 : Nat) (v6 v7 : Int32) (v8 : Int64) (v10 : Int32) : ∃ σ', Sander_sand_L112 v1 v2 v4 v6 v7 v8 v10 (nI r) (nI S, σ) = some σ' ∧ σ'.1 = σ.1 ∧ σ'.2 161 = σ.2 161 ∧ ∀ r' s', r' ≤ R → s' ≤ S → σ'.2 164 (r' * 61 + s') = jI (if r ≤ r' then valF G1 G2 C0 (n + 1) r' s' else valF G1 G2 C0 n r' s') := by
  have key : ∃ x, Sander_sand_L112 v1 v2 v4 v6 v7 v8 v10 (nI r) (nI (S + 1 - 0) + -1, σ) = some x ∧ x.1 = σ.1 ∧ x.2 161 = σ.2 161 ∧ ∀ r' s', r' ≤ R → s' ≤ S → x.2 164 (r' * 61 + s') = jI (if r < r' ∨ (r' = r ∧ S < s' + (S + 1)) then valF G1 G2 C0 (n + 1) r' s' else valF G1 G2 C0 n r' s') := by
    refine itr_n (S + 1) (fun (k : Nat) (z : Int32 × MH) => z.1 = nI (S + 1 - k) + -1 ∧ z.2.1 = σ.1 ∧ z.2.2 161 = σ.2 161 ∧ ∀ r' s', r' ≤ R → s' ≤ S → z.2.2 164 (r' * 61 + s') = jI (if r < r' ∨ (r' = r ∧ S < s' + k) then valF G1 G2 C0 (n + 1) r' s' else valF G1 G2 C0 n r' s')) _ ⟨rfl, rfl, rfl, fun r' s' a b => ?_⟩ (fun k z hk hz => ?_) (fun z hz => ?_) (by show S + 1 < 1000000; omega)
    · dsimp only
      rw [hv r' s' a b]
      by_cases q : r < r'
      · rw [if_pos q, if_pos (Or.inl q)]
      · rw [if_neg q, if_neg (by omega)]
    · obtain ⟨z1, z2⟩ := z
      obtain ⟨e1, e2, e3, hz⟩ := hz
      dsimp only at e1 e2 e3 hz
      subst e1
      have hb := c_bestHere (r := r) (s := S - k) hN hn hlo hhi hg (WG_of hW e2 e3) (by omega) (by omega) (fun r' s' a b => by
        rw [hz r' s' (by omega) (by omega), if_neg (by omega)])
      left
      refine ⟨(nI (S + 1 - (k + 1)) + -1, sJ z2 164 (r * 61 + (S - k)) (jI (valF G1 G2 C0 (n + 1) r (S - k)))), ?_, rfl, e2, ?_, fun r' s' a b => ?_⟩
      · show Sander_sand_l112 v1 v2 v4 v6 v7 v8 v10 (nI r) _ z2 = _
        unfold Sander_sand_l112
        rw [dn1 (by omega), if_neg (nI_pos (by omega)), hb, Option.bind_some, lit_nI 61, pk_mul, nI_add, if_pos (inb_nI (by omega) (by decide)), nI_clamp (by omega), show S + 1 - (k + 1) = S - k by omega]
      · dsimp only
        rw [← e3]
        exact funext fun m => sJ_ne (by omega)
      · dsimp only
        by_cases q : r' = r ∧ s' = S - k
        · obtain ⟨rfl, rfl⟩ := q
          rw [sJ_same, if_pos (Or.inr ⟨rfl, by omega⟩)]
        · rw [sJ_ne (by omega), hz r' s' a b]
          by_cases c : r < r' ∨ (r' = r ∧ S < s' + k)
          · rw [if_pos c, if_pos (by omega)]
          · rw [if_neg c, if_neg (by omega)]
    · obtain ⟨z1, z2⟩ := z
      obtain ⟨e1, e2, e3, hz⟩ := hz
      dsimp only at e1 e2 e3 hz
      subst e1
      refine ⟨z2, ?_, e2, e3, hz⟩
      show Sander_sand_l112 v1 v2 v4 v6 v7 v8 v10 (nI r) _ z2 = _
      unfold Sander_sand_l112
      rw [Nat.sub_self, if_pos (show nI 0 + -1 < 0 by decide)]
  obtain ⟨x, e, x1, x2, x3⟩ := key
  rw [dn1 (Nat.zero_le _), Nat.sub_zero] at e
  refine ⟨x, e, x1, x2, fun r' s' a b => ?_⟩
  rw [x3 r' s' a b]
  by_cases c : r ≤ r'
  · rw [if_pos c, if_pos (by omega)]
  · rw [if_neg c, if_neg (by omega)]
theorem c_cells (hN : NarF G1 G2 C0 lo hi) (hn : n ≤ 7) (hlo : lo (7 - n) < 19) (hhi : hi (7 - n) < 19) (hg : ∀ p, p < 19 → G1 (7 - n) p ≤ 18 ∧ G2 (7 - n) p ≤ 18) (hW : WG G1 G2 C0 lo hi n σ) (hR : R ≤ 60) (hS : S ≤ 60) (hv : ∀ r' s', r' ≤ R → s' ≤ S → σ.2 164 (r' * 61 + s') = jI (valF G1 G2 C0 n r' s')) (v1 v2 v4 : Nat) (v6 : Int32) (v8 : Int64) (v10 : Int32) : ∃ σ', Sander_sand_L103 v1 v2 v4 v6 (nI S) v8 v10 (nI R, σ) = some σ' ∧ σ'.1 = σ.1 ∧ ∀ r' s', r' ≤ R → s' ≤ S → σ'.2 164 (r' * 61 + s') = jI (valF G1 G2 C0 (n + 1) r' s') := by
  have key : ∃ x, Sander_sand_L103 v1 v2 v4 v6 (nI S) v8 v10 (nI (R + 1 - 0) + -1, σ) = some x ∧ x.1 = σ.1 ∧ ∀ r' s', r' ≤ R → s' ≤ S → x.2 164 (r' * 61 + s') = jI (if R < r' + (R + 1) then valF G1 G2 C0 (n + 1) r' s' else valF G1 G2 C0 n r' s') := by
    refine itr_n (R + 1) (fun (k : Nat) (z : Int32 × MH) => z.1 = nI (R + 1 - k) + -1 ∧ z.2.1 = σ.1 ∧ z.2.2 161 = σ.2 161 ∧ ∀ r' s', r' ≤ R → s' ≤ S → z.2.2 164 (r' * 61 + s') = jI (if R < r' + k then valF G1 G2 C0 (n + 1) r' s' else valF G1 G2 C0 n r' s')) _ ⟨rfl, rfl, rfl, fun r' s' a b => ?_⟩ (fun k z hk hz => ?_) (fun z hz => ?_) (by show R + 1 < 1000000; omega)
    · dsimp only
      rw [hv r' s' a b, if_neg (by omega)]
    · obtain ⟨z1, z2⟩ := z
      obtain ⟨e1, e2, e3, hz⟩ := hz
      dsimp only at e1 e2 e3 hz
      subst e1
      obtain ⟨σ', g1, g2, g3, g4⟩ := c_cellrow (r := R - k) (R := R) (S := S) (σ := z2) hN hn hlo hhi hg (WG_of hW e2 e3) hR hS (by omega) (fun r' s' a b => by
        rw [hz r' s' a b]
        by_cases c : R < r' + k
        · rw [if_pos c, if_pos (by omega)]
        · rw [if_neg c, if_neg (by omega)]) v1 v2 v4 v6 (nI S) v8 v10
      left
      refine ⟨(nI (R + 1 - (k + 1)) + -1, σ'), ?_, rfl, g2.trans e2, g3.trans e3, fun r' s' a b => ?_⟩
      · show Sander_sand_l103 v1 v2 v4 v6 (nI S) v8 v10 _ z2 = _
        unfold Sander_sand_l103
        rw [dn1 (by omega), if_neg (nI_pos (by omega)), g1, Option.bind_some, show R + 1 - (k + 1) = R - k by omega]
      · dsimp only
        rw [g4 r' s' a b]
        by_cases c : R - k ≤ r'
        · rw [if_pos c, if_pos (by omega)]
        · rw [if_neg c, if_neg (by omega)]
    · obtain ⟨z1, z2⟩ := z
      obtain ⟨e1, e2, e3, hz⟩ := hz
      dsimp only at e1 e2 e3 hz
      subst e1
      refine ⟨z2, ?_, e2, hz⟩
      show Sander_sand_l103 v1 v2 v4 v6 (nI S) v8 v10 _ z2 = _
      unfold Sander_sand_l103
      rw [Nat.sub_self, if_pos (show nI 0 + -1 < 0 by decide)]
  obtain ⟨x, e, x1, x3⟩ := key
  rw [dn1 (Nat.zero_le _), Nat.sub_zero] at e
  refine ⟨x, e, x1, fun r' s' a b => ?_⟩
  rw [x3 r' s' a b, if_pos (by omega)]
/-- one height -/
theorem G_le (wf : WF A) (ha : a < 12) (hb : ∀ c, b = some c → c < 12) (hh : h < 8) : ∀ p, p < 19 → G1A A a h p ≤ 18 ∧ G2A A b h p ≤ 18 := fun p hp => by
  refine ⟨(gz_is (b9_of wf ha (by omega)) hp).2.2, ?_⟩
  cases b with
  | none => exact Nat.zero_le _
  | some c => exact (gz_is (b9_of wf (hb c rfl) (by omega)) hp).2.2
theorem lohiA (wf : WF A) (hk : k < 12) (ha : a < 12) (hb : ∀ c, b = some c → c < 12) (hh : h < 8) : loA A k a b h < 19 ∧ hiA A k a b h < 19 := (lohi (b9_of wf hk hh) (b9_of wf ha (by omega)) (mt2_b9 wf ha hb hh)).2.2
def CVA (A : Nat → Int32) (k a : Nat) (b : Option Nat) (R S n : Nat) (σ : MH) : Prop := ∀ r' s', r' ≤ R → s' ≤ S → σ.2 164 (r' * 61 + s') = jI (valF (G1A A a) (G2A A b) (C0A A k) n r' s')
theorem c_height2 (hD : LD 1 A σ) (wf : WF A) (hk : k < 12) (ha : a < 12) {c : Nat} (hc : c < 12) (hn : n ≤ 7) (hR : R ≤ 60) (hS : S ≤ 60) (hV : CVA A k a (some c) R S n σ) : ∃ σ', Sander_sand_l40 (10 + k) (10 + a) (10 + c) (nI R) (nI S) (jI (19 ^ n)) (nI (8 - n) + -1) σ = some (.inl (jI (19 ^ (n + 1)), nI (8 - (n + 1)) + -1, σ')) ∧ Fx (fun b _ => b = 159 ∨ b = 162 ∨ b = 163) σ σ' ∧ CVA A k a (some c) R S (n + 1) σ' := by
  have hb : ∀ x, some c = some x → x < 12 := fun x e => by cases e; exact hc
  have hN := narA (k := k) (a := a) (b := some c) wf hk ha hb
  obtain ⟨l1, l2⟩ := lohiA (h := 7 - n) wf hk ha hb (by omega)
  obtain ⟨σ1, e1, p1, v1, w1, w2, w3⟩ := c_weigh (σ := σ) (hgR A k (7 - n)) (hgR A a (7 - (7 - n))) (hgR A c (7 - (7 - n))) (b9_of wf hk (by omega)) (b9_of wf ha (by omega)) (b9_of wf hc (by omega)) (19 ^ n)
  have hW : WG (G1A A a) (G2A A (some c)) (C0A A k) (loA A k a (some c)) (hiA A k a (some c)) n σ1 := ⟨w1, w2, w3⟩
  obtain ⟨σ2, e2, p2, g2⟩ := c_cells (R := R) (S := S) hN hn l1 l2 (G_le wf ha hb (by omega)) hW hR hS (fun r' s' x y => by rw [v1]; exact hV r' s' x y) (10 + k) (10 + a) (10 + c) (nI R) (jI (19 ^ n)) (nI (7 - n))
  refine ⟨σ2, ?_, fun b m hb' => by rw [p2]; exact p1 b m hb', g2⟩
  obtain ⟨f1, f2, f3, f4⟩ := ix3 8 (show 7 - n < 8 by omega)
  obtain ⟨g1', g2', g3, g4⟩ := ix3 8 (show 7 - (7 - n) < 8 by omega)
  have q : ∀ x h, x < 12 → h < 8 → σ.1 (10 + x) h = hgR A x h := fun x h hx hh => hD.2.2.1 x h hx hh
  unfold Sander_sand_l40
  rw [show nI (8 - n) + -1 = nI (7 - n) from dn1 hn, if_neg f4, if_pos f2, f3, lit_nI 7, pk_sub (show 7 - n ≤ 7 by omega), if_pos g2', g3, q k _ hk (by omega), q a _ ha (by omega), q c _ hc (by omega), e1, Option.bind_some, e2, Option.bind_some, litJ 19, jI_mul, ← Nat.pow_succ, show 8 - (n + 1) = 7 - n by omega]
theorem sn_112 (v1 v2 : Nat) (v6 v7 : Int32) (v8 : Int64) (v10 v12 : Int32) (s : Int32 × MH) : Sander_sand_n_L112 v1 v2 v6 v7 v8 v10 v12 s = Sander_sand_L112 v1 v2 0 v6 v7 v8 v10 v12 s := rfl
theorem sn_103 (v1 v2 : Nat) (v6 v7 : Int32) (v8 : Int64) (v10 : Int32) (s : Int32 × MH) : Sander_sand_n_L103 v1 v2 v6 v7 v8 v10 s = Sander_sand_L103 v1 v2 0 v6 v7 v8 v10 s := rfl
theorem c_fill2 : ∃ σ', Arrays_fill_ii_2 0 σ = some σ' ∧ Fx (fun b _ => b = 163) σ σ' ∧ σ'.2 = σ.2 ∧ ∀ p, p < 19 → σ'.1 163 p = 0 := by
  obtain ⟨r, e, h1, h2, h3⟩ : ∃ r, Arrays_fill_ii_2_L5 0 (0, σ) = some r ∧ Fx (fun b _ => b = 163) σ r ∧ r.2 = σ.2 ∧ ∀ p, p < 19 → r.1 163 p = 0 := by
    refine itr_n 19 (fun (k : Nat) (z : Int32 × MH) => z.1 = nI k ∧ Fx (fun b _ => b = 163) σ z.2 ∧ z.2.2 = σ.2 ∧ ∀ p, p < k → z.2.1 163 p = 0) _ ⟨rfl, Fx.rf, rfl, fun p hp => by omega⟩ (fun k z hk hz => ?_) (fun z hz => ?_)
    · obtain ⟨z1, z2⟩ := z
      obtain ⟨rfl, hf, h2, hv⟩ := hz
      dsimp only at hf h2 hv
      obtain ⟨f1, f2, f3, f4⟩ := ix3 19 hk
      refine Or.inl ⟨(nI (k + 1), sI z2 163 k 0), ?_, rfl, hf.tr (Fx_sI rfl), h2, fun p hp => ?_⟩
      · show Arrays_fill_ii_2_l5 0 (nI k) z2 = _
        unfold Arrays_fill_ii_2_l5
        rw [if_neg f1, if_pos f2, f3, show nI k + 1 = nI (k + 1) from nI_1 _]
      · dsimp only
        by_cases c : p = k
        · rw [c, sI_same]
        · rw [sI_ne (by omega)]; exact hv p (by omega)
    · obtain ⟨z1, z2⟩ := z
      obtain ⟨rfl, hz⟩ := hz
      refine ⟨z2, ?_, hz⟩
      show Arrays_fill_ii_2_l5 0 (nI 19) z2 = _
      unfold Arrays_fill_ii_2_l5
      rw [if_pos (by decide)]
  refine ⟨r, ?_, h1, h2, h3⟩
  unfold Arrays_fill_ii_2 Arrays_fill_ii_20
  rw [e]
  rfl
theorem c_height1 (hD : LD 1 A σ) (wf : WF A) (hk : k < 12) (ha : a < 12) (hn : n ≤ 7) (hR : R ≤ 60) (hS : S ≤ 60) (hV : CVA A k a none R S n σ) : ∃ σ', Sander_sand_n_l40 (10 + k) (10 + a) (nI R) (nI S) (jI (19 ^ n)) (nI (8 - n) + -1) σ = some (.inl (jI (19 ^ (n + 1)), nI (8 - (n + 1)) + -1, σ')) ∧ Fx (fun b _ => b = 159 ∨ b = 162 ∨ b = 163) σ σ' ∧ CVA A k a none R S (n + 1) σ' := by
  have hb : ∀ x, (none : Option Nat) = some x → x < 12 := fun x e => by cases e
  have hN := narA (k := k) (a := a) (b := none) wf hk ha hb
  obtain ⟨l1, l2⟩ := lohiA (h := 7 - n) wf hk ha hb (by omega)
  obtain ⟨σ1, e1, p1, v1, w1, w2, w3⟩ := c_weigh (σ := σ) (hgR A k (7 - n)) (hgR A a (7 - (7 - n))) (hgR A a (7 - (7 - n))) (b9_of wf hk (by omega)) (b9_of wf ha (by omega)) (b9_of wf ha (by omega)) (19 ^ n)
  obtain ⟨σ3, e3, p3, v3, w4⟩ := c_fill2 (σ := σ1)
  have hW : WG (G1A A a) (G2A A none) (C0A A k) (loA A k a none) (hiA A k a none) n σ3 := by
    refine ⟨(p3 159 9 (by omega)).trans w1, (p3 159 10 (by omega)).trans w2, fun p hp => ⟨?_, (p3 162 p (by omega)).trans (w3 p hp).2.1, w4 p hp⟩⟩
    rw [v3]
    exact (w3 p hp).1
  obtain ⟨σ2, e2, p2, g2⟩ := c_cells (R := R) (S := S) hN hn l1 l2 (G_le wf ha hb (by omega)) hW hR hS (fun r' s' x y => by rw [v3, v1]; exact hV r' s' x y) (10 + k) (10 + a) 0 (nI R) (jI (19 ^ n)) (nI (7 - n))
  refine ⟨σ2, ?_, fun b m hb' => by rw [p2]; exact (p3 b m (by omega)).trans (p1 b m hb'), g2⟩
  obtain ⟨f1, f2, f3, f4⟩ := ix3 8 (show 7 - n < 8 by omega)
  obtain ⟨g1', g2', g3, g4⟩ := ix3 8 (show 7 - (7 - n) < 8 by omega)
  have q : ∀ x h, x < 12 → h < 8 → σ.1 (10 + x) h = hgR A x h := fun x h hx hh => hD.2.2.1 x h hx hh
  unfold Sander_sand_n_l40
  rw [show nI (8 - n) + -1 = nI (7 - n) from dn1 hn, if_neg f4, if_pos f2, f3, lit_nI 7, pk_sub (show 7 - n ≤ 7 by omega), if_pos g2', g3, q k _ hk (by omega), q a _ ha (by omega), e1, Option.bind_some, e3, Option.bind_some, sn_103, e2, Option.bind_some, litJ 19, jI_mul, ← Nat.pow_succ, show 8 - (n + 1) = 7 - n by omega]
theorem c_fillJ : ∃ σ', Arrays_fill_ll 0 σ = some σ' ∧ σ'.1 = σ.1 ∧ ∀ p, p < 3721 → σ'.2 164 p = 0 := by
  obtain ⟨r, e, h1, h3⟩ : ∃ r, Arrays_fill_ll_L6 0 (0, σ) = some r ∧ r.1 = σ.1 ∧ ∀ p, p < 3721 → r.2 164 p = 0 := by
    refine itr_n 3721 (fun (k : Nat) (z : Int32 × MH) => z.1 = nI k ∧ z.2.1 = σ.1 ∧ ∀ p, p < k → z.2.2 164 p = 0) _ ⟨rfl, rfl, fun p hp => by omega⟩ (fun k z hk hz => ?_) (fun z hz => ?_)
    · obtain ⟨z1, z2⟩ := z
      obtain ⟨rfl, h2, hv⟩ := hz
      dsimp only at h2 hv
      obtain ⟨f1, f2, f3, f4⟩ := ix3 3721 hk
      refine Or.inl ⟨(nI (k + 1), sJ z2 164 k 0), ?_, rfl, h2, fun p hp => ?_⟩
      · show Arrays_fill_ll_l6 0 (nI k) z2 = _
        unfold Arrays_fill_ll_l6
        rw [if_neg f1, if_pos f2, f3, show nI k + 1 = nI (k + 1) from nI_1 _]
      · dsimp only
        by_cases c : p = k
        · rw [c, sJ_same]
        · rw [sJ_ne (by omega)]; exact hv p (by omega)
    · obtain ⟨z1, z2⟩ := z
      obtain ⟨rfl, hz⟩ := hz
      refine ⟨z2, ?_, hz⟩
      show Arrays_fill_ll_l6 0 (nI 3721) z2 = _
      unfold Arrays_fill_ll_l6
      rw [if_pos (by decide)]
  refine ⟨r, ?_, h1, h3⟩
  unfold Arrays_fill_ll Arrays_fill_ll0
  rw [e]
  rfl
theorem CVA_0 (hR : R ≤ 60) (hS : S ≤ 60) (h : ∀ p, p < 3721 → σ.2 164 p = 0) : CVA A k a b R S 0 σ := fun r' s' x y => by
  have e : valF (G1A A a) (G2A A b) (C0A A k) 0 r' s' = 0 := by
    rw [val_yes (show MF (G1A A a) (G2A A b) (C0A A k) 0 r' s' ≠ BIG from (by decide : (0 : Nat) ≠ BIG))]
    show 0 * CHG + 0 = 0
    rw [Nat.zero_mul]
  rw [h _ (by omega), e]
  rfl
/-- what is read off the least -/
def DoneA (A : Nat → Int32) (k a : Nat) (b : Option Nat) (R S : Nat) (σ : MH) : Prop := (MF (G1A A a) (G2A A b) (C0A A k) 8 R S = BIG → σ.1 159 1 = 0) ∧ (MF (G1A A a) (G2A A b) (C0A A k) 8 R S ≠ BIG → σ.1 159 1 = 1 ∧ σ.1 159 2 = nI (MF (G1A A a) (G2A A b) (C0A A k) 8 R S) ∧ ∀ h, h < 8 → σ.1 160 h = nI (plF (G1A A a) (G2A A b) (C0A A k) R S h) - 9)
theorem c_read0 : ∃ σ', Sander_read_b29 0 σ = some σ' ∧ Fx (fun b k => b = 160 ∨ (b = 159 ∧ k = 2)) σ σ' := by
  obtain ⟨r, e, h1⟩ : ∃ r, Sander_read_L34 (0, nI (8 - 0) + -1, σ) = some r ∧ Fx (fun b k => b = 160 ∨ (b = 159 ∧ k = 2)) σ r.2 := by
    refine itr_n 8 (fun (k : Nat) (z : Int64 × Int32 × MH) => z.2.1 = nI (8 - k) + -1 ∧ Fx (fun b k => b = 160 ∨ (b = 159 ∧ k = 2)) σ z.2.2) _ ⟨rfl, Fx.rf⟩ (fun k z hk hz => ?_) (fun z hz => ?_)
    · obtain ⟨z1, z2, z3⟩ := z
      obtain ⟨e1, hf⟩ := hz
      dsimp only at e1 hf
      subst e1
      obtain ⟨f1, f2, f3, f4⟩ := ix3 8 (show 7 - k < 8 by omega)
      refine Or.inl ⟨(z1 / 19, nI (8 - (k + 1)) + -1, sI z3 160 (7 - k) ((jlrem z1 19).toInt32 - 9)), ?_, rfl, hf.tr (Fx_sI (Or.inl rfl))⟩
      show Sander_read_l34 z1 _ z3 = _
      unfold Sander_read_l34
      rw [show nI (8 - k) + -1 = nI (7 - k) from dn1 (show k ≤ 7 by omega), if_neg f4, if_pos f2, f3, show 8 - (k + 1) = 7 - k by omega]
    · obtain ⟨z1, z2, z3⟩ := z
      obtain ⟨e1, hf⟩ := hz
      dsimp only at e1 hf
      subst e1
      refine ⟨(z1, z3), ?_, hf⟩
      show Sander_read_l34 z1 _ z3 = _
      unfold Sander_read_l34
      rw [Nat.sub_self, if_pos (show nI 0 + -1 < 0 by decide)]
  refine ⟨sI r.2 159 2 r.1.toInt32, ?_, h1.tr (Fx_sI (Or.inr ⟨rfl, rfl⟩))⟩
  unfold Sander_read_b29
  rw [show (7 : Int32) = nI (8 - 0) + -1 from by decide, e]
  rfl
theorem c_read1 (hN : NarF G1 G2 C0 lo hi) (h0 : MF G1 G2 C0 8 R S ≠ BIG) : ∃ σ', Sander_read_b29 (jI (valF G1 G2 C0 8 R S)) σ = some σ' ∧ Fx (fun b k => b = 160 ∨ (b = 159 ∧ k = 2)) σ σ' ∧ σ'.1 159 2 = nI (MF G1 G2 C0 8 R S) ∧ ∀ h, h < 8 → σ'.1 160 h = nI (plF G1 G2 C0 R S h) - 9 := by
  have hM := (MF_bd (G1 := G1) (G2 := G2) hN.1 8 R S).resolve_left h0
  have hlt := val_lt hN.1 (Nat.le_refl _) h0
  have hle : ∀ h, h ≤ 8 → hornF G1 G2 C0 R S h ≤ hornF G1 G2 C0 R S 8 := fun h hh => by
    have st : ∀ m, hornF G1 G2 C0 R S m ≤ hornF G1 G2 C0 R S (m + 1) := fun m => by
      show _ ≤ 19 * hornF G1 G2 C0 R S m + plF G1 G2 C0 R S m
      omega
    have : ∀ d, h + d ≤ 8 → hornF G1 G2 C0 R S h ≤ hornF G1 G2 C0 R S (h + d) := fun d => by
      induction d with
      | zero => intro _; exact Nat.le_refl _
      | succ d ih => intro hd; exact Nat.le_trans (ih (by omega)) (st _)
    have := this (8 - h) (by omega)
    rw [show h + (8 - h) = 8 by omega] at this
    exact this
  have h63 : ∀ h, h ≤ 8 → hornF G1 G2 C0 R S h < 2 ^ 63 := fun h hh => by
    have := hle h hh
    rw [horn_val h0] at this
    have : CHG = 16983563041 := rfl
    omega
  obtain ⟨r, e, h1, h2, h3⟩ : ∃ r, Sander_read_L34 (jI (hornF G1 G2 C0 R S (8 - 0)), nI (8 - 0) + -1, σ) = some r ∧ Fx (fun b k => b = 160 ∨ (b = 159 ∧ k = 2)) σ r.2 ∧ r.1 = jI (hornF G1 G2 C0 R S 0) ∧ ∀ h, h < 8 → r.2.1 160 h = nI (plF G1 G2 C0 R S h) - 9 := by
    refine itr_n 8 (fun (k : Nat) (z : Int64 × Int32 × MH) => z.1 = jI (hornF G1 G2 C0 R S (8 - k)) ∧ z.2.1 = nI (8 - k) + -1 ∧ Fx (fun b k => b = 160 ∨ (b = 159 ∧ k = 2)) σ z.2.2 ∧ ∀ h, 8 - k ≤ h → h < 8 → z.2.2.1 160 h = nI (plF G1 G2 C0 R S h) - 9) _ ⟨rfl, rfl, Fx.rf, fun h a b => by omega⟩ (fun k z hk hz => ?_) (fun z hz => ?_)
    · obtain ⟨z1, z2, z3⟩ := z
      obtain ⟨e0, e1, hf, hv⟩ := hz
      dsimp only at e0 e1 hf hv
      subst e0; subst e1
      obtain ⟨f1, f2, f3, f4⟩ := ix3 8 (show 7 - k < 8 by omega)
      have hh : hornF G1 G2 C0 R S (8 - k) = 19 * hornF G1 G2 C0 R S (7 - k) + plF G1 G2 C0 R S (7 - k) := by
        rw [show 8 - k = (7 - k) + 1 by omega]; rfl
      have hp := pl_lt h0 (show 7 - k < 8 by omega)
      have hx := h63 (8 - k) (by omega)
      have q1 : (19 * hornF G1 G2 C0 R S (7 - k) + plF G1 G2 C0 R S (7 - k)) / 19 = hornF G1 G2 C0 R S (7 - k) := by
        generalize hornF G1 G2 C0 R S (7 - k) = u
        generalize plF G1 G2 C0 R S (7 - k) = v at hp
        omega
      have q2 : (19 * hornF G1 G2 C0 R S (7 - k) + plF G1 G2 C0 R S (7 - k)) % 19 = plF G1 G2 C0 R S (7 - k) := by
        generalize hornF G1 G2 C0 R S (7 - k) = u
        generalize plF G1 G2 C0 R S (7 - k) = v at hp
        omega
      have d1 : jI (hornF G1 G2 C0 R S (8 - k)) / 19 = jI (hornF G1 G2 C0 R S (7 - k)) := by
        rw [litJ 19, jI_div hx 19 (by decide) (by decide), hh, q1]
      have d2 : jlrem (jI (hornF G1 G2 C0 R S (8 - k))) 19 = jI (plF G1 G2 C0 R S (7 - k)) := by
        rw [litJ 19, jI_rem hx 19 (by decide) (by decide), hh, q2]
      refine Or.inl ⟨(jI (hornF G1 G2 C0 R S (8 - (k + 1))), nI (8 - (k + 1)) + -1, sI z3 160 (7 - k) (nI (plF G1 G2 C0 R S (7 - k)) - 9)), ?_, rfl, rfl, hf.tr (Fx_sI (Or.inl rfl)), fun h a b => ?_⟩
      · show Sander_read_l34 _ _ z3 = _
        unfold Sander_read_l34
        rw [show nI (8 - k) + -1 = nI (7 - k) from dn1 (show k ≤ 7 by omega), if_neg f4, if_pos f2, f3, d1, d2, jI_to (by omega), show 8 - (k + 1) = 7 - k by omega]
      · dsimp only
        by_cases c : h = 7 - k
        · rw [c, sI_same]
        · rw [sI_ne (by omega)]; exact hv h (by omega) b
    · obtain ⟨z1, z2, z3⟩ := z
      obtain ⟨e0, e1, hf, hv⟩ := hz
      dsimp only at e0 e1 hf hv
      subst e0; subst e1
      refine ⟨(jI (hornF G1 G2 C0 R S 0), z3), ?_, hf, rfl, fun h hh => hv h (by omega) hh⟩
      show Sander_read_l34 _ _ z3 = _
      unfold Sander_read_l34
      rw [Nat.sub_self, if_pos (show nI 0 + -1 < 0 by decide)]
  rw [Nat.sub_zero, horn_val h0] at e
  refine ⟨sI r.2 159 2 r.1.toInt32, ?_, h1.tr (Fx_sI (Or.inr ⟨rfl, rfl⟩)), ?_, fun h hh => ?_⟩
  · unfold Sander_read_b29
    rw [show (7 : Int32) = nI 8 + -1 from by decide, e]
    rfl
  · rw [sI_same, h2]
    exact jI_to (show MF G1 G2 C0 8 R S < 2 ^ 31 by omega)
  · rw [sI_obj (by decide)]
    exact h3 h hh
theorem c_read (hN : NarF (G1A A a) (G2A A b) (C0A A k) lo hi) : ∃ σ', Sander_read (jI (valF (G1A A a) (G2A A b) (C0A A k) 8 R S)) σ = some σ' ∧ Fx (fun b _ => b = 159 ∨ b = 160) σ σ' ∧ DoneA A k a b R S σ' := by
  have nev63 : NEV < 2 ^ 63 := by decide
  have hv := val_nev (G1 := G1A A a) (G2 := G2A A b) (C0 := C0A A k) (n := 8) (r := R) (s := S) hN.1 (Nat.le_refl _)
  unfold Sander_read Sander_read0 Sander_read_b14
  rw [litJ 4611686018427387904, show jI 4611686018427387904 = jI NEV from rfl]
  by_cases q : MF (G1A A a) (G2A A b) (C0A A k) 8 R S = BIG
  · rw [if_pos ((lg_J (by omega) nev63).mpr (hv.2.mpr q)), if_pos (show bz 0 = true by decide), if_pos sI_same]
    obtain ⟨σ', e, p⟩ := c_read0 (σ := sI σ 159 1 0)
    refine ⟨σ', e, (Fx_sI (Or.inl rfl)).tr (p.mo (fun b k q => by omega)), fun _ => ?_, fun z => absurd q z⟩
    rw [p 159 1 (by omega), sI_same]
  · rw [if_neg (fun z => q (hv.2.mp ((lg_J (by omega) nev63).mp z))), if_pos (show bz 1 = true by decide), sI_same, if_neg (show ¬ (1 : Int32) = 0 by decide)]
    obtain ⟨σ', e, p, g1, g2⟩ := c_read1 (σ := sI σ 159 1 1) hN q
    refine ⟨σ', e, (Fx_sI (Or.inl rfl)).tr (p.mo (fun b k q => by omega)), fun z => absurd z q, fun _ => ⟨?_, g1, g2⟩⟩
    rw [p 159 1 (by omega), sI_same]
theorem room60 (h : R ≤ 60) : jmax 0 (jmin 60 (nI R)) = nI R := by
  have : ∀ R, R ≤ 60 → jmax 0 (jmin 60 (nI R)) = nI R := by decide +kernel
  exact this R h
theorem c_sand2 (hD : LD 1 A σ) (wf : WF A) (hk : k < 12) (ha : a < 12) {c : Nat} (hc : c < 12) (hR : R ≤ 60) (hS : S ≤ 60) : ∃ σ', Sander_sand (10 + k) (10 + a) (nI R) (10 + c) (nI S) σ = some σ' ∧ Fx (fun b _ => 159 ≤ b ∧ b ≤ 163) σ σ' ∧ DoneA A k a (some c) R S σ' := by
  have hb : ∀ x, some c = some x → x < 12 := fun x e => by cases e; exact hc
  have hN := narA (k := k) (a := a) (b := some c) wf hk ha hb
  obtain ⟨σ1, e1, p1, g1⟩ := c_fillJ (σ := σ)
  obtain ⟨σ2, e2, p2, g2⟩ : ∃ r, Sander_sand_L40 (10 + k) (10 + a) (10 + c) (nI R) (nI S) (jI (19 ^ 0), nI (8 - 0) + -1, σ1) = some r ∧ Fx (fun b _ => b = 159 ∨ b = 162 ∨ b = 163) σ1 r ∧ CVA A k a (some c) R S 8 r := by
    refine itr_n 8 (fun (n : Nat) (z : Int64 × Int32 × MH) => z.1 = jI (19 ^ n) ∧ z.2.1 = nI (8 - n) + -1 ∧ Fx (fun b _ => b = 159 ∨ b = 162 ∨ b = 163) σ1 z.2.2 ∧ CVA A k a (some c) R S n z.2.2) _ ⟨rfl, rfl, Fx.rf, CVA_0 hR hS g1⟩ (fun n z hn hz => ?_) (fun z hz => ?_)
    · obtain ⟨z1, z2, z3⟩ := z
      obtain ⟨e0, e1, hf, hv⟩ := hz
      dsimp only at e0 e1 hf hv
      subst e0; subst e1
      have hDz : LD 1 A z3 := LD_of hD (fun b m s t => by rw [hf b m (by omega), p1])
      obtain ⟨σ', f1, f2, f3⟩ := c_height2 hDz wf hk ha hc (show n ≤ 7 by omega) hR hS hv
      exact Or.inl ⟨_, f1, rfl, rfl, hf.tr f2, f3⟩
    · obtain ⟨z1, z2, z3⟩ := z
      obtain ⟨e0, e1, hf, hv⟩ := hz
      dsimp only at e0 e1 hf hv
      subst e0; subst e1
      refine ⟨z3, ?_, hf, hv⟩
      show Sander_sand_l40 (10 + k) (10 + a) (10 + c) (nI R) (nI S) _ _ z3 = _
      unfold Sander_sand_l40
      rw [Nat.sub_self, if_pos (show nI 0 + -1 < 0 by decide)]
  obtain ⟨σ3, e3, p3, g3⟩ := c_read (σ := σ2) (A := A) (k := k) (a := a) (b := some c) (R := R) (S := S) hN
  refine ⟨σ3, ?_, fun b m hb' => ?_, g3⟩
  · unfold Sander_sand Sander_sand0
    rw [e1, Option.bind_some, room60 hR, room60 hS, show (1 : Int64) = jI (19 ^ 0) from rfl, show (7 : Int32) = nI (8 - 0) + -1 from by decide, e2, Option.bind_some, c_leastOf hR hS, g2 R S (Nat.le_refl _) (Nat.le_refl _), Option.bind_some, e3]
    rfl
  · rw [p3 b m (by omega), p2 b m (by omega), p1]
theorem c_sand1 (hD : LD 1 A σ) (wf : WF A) (hk : k < 12) (ha : a < 12) (hR : R ≤ 60) : ∃ σ', Sander_sand_n (10 + k) (10 + a) (nI R) 0 σ = some σ' ∧ Fx (fun b _ => 159 ≤ b ∧ b ≤ 163) σ σ' ∧ DoneA A k a none R 0 σ' := by
  have hS : 0 ≤ 60 := by decide
  have hb : ∀ x, (none : Option Nat) = some x → x < 12 := fun x e => by cases e
  have hN := narA (k := k) (a := a) (b := none) wf hk ha hb
  obtain ⟨σ1, e1, p1, g1⟩ := c_fillJ (σ := σ)
  obtain ⟨σ2, e2, p2, g2⟩ : ∃ r, Sander_sand_n_L40 (10 + k) (10 + a) (nI R) (nI 0) (jI (19 ^ 0), nI (8 - 0) + -1, σ1) = some r ∧ Fx (fun b _ => b = 159 ∨ b = 162 ∨ b = 163) σ1 r ∧ CVA A k a none R 0 8 r := by
    refine itr_n 8 (fun (n : Nat) (z : Int64 × Int32 × MH) => z.1 = jI (19 ^ n) ∧ z.2.1 = nI (8 - n) + -1 ∧ Fx (fun b _ => b = 159 ∨ b = 162 ∨ b = 163) σ1 z.2.2 ∧ CVA A k a none R 0 n z.2.2) _ ⟨rfl, rfl, Fx.rf, CVA_0 hR hS g1⟩ (fun n z hn hz => ?_) (fun z hz => ?_)
    · obtain ⟨z1, z2, z3⟩ := z
      obtain ⟨e0, e1, hf, hv⟩ := hz
      dsimp only at e0 e1 hf hv
      subst e0; subst e1
      have hDz : LD 1 A z3 := LD_of hD (fun b m s t => by rw [hf b m (by omega), p1])
      obtain ⟨σ', f1, f2, f3⟩ := c_height1 hDz wf hk ha (show n ≤ 7 by omega) hR hS hv
      exact Or.inl ⟨_, f1, rfl, rfl, hf.tr f2, f3⟩
    · obtain ⟨z1, z2, z3⟩ := z
      obtain ⟨e0, e1, hf, hv⟩ := hz
      dsimp only at e0 e1 hf hv
      subst e0; subst e1
      refine ⟨z3, ?_, hf, hv⟩
      show Sander_sand_n_l40 (10 + k) (10 + a) (nI R) (nI 0) _ _ z3 = _
      unfold Sander_sand_n_l40
      rw [Nat.sub_self, if_pos (show nI 0 + -1 < 0 by decide)]
  obtain ⟨σ3, e3, p3, g3⟩ := c_read (σ := σ2) (A := A) (k := k) (a := a) (b := none) (R := R) (S := 0) hN
  refine ⟨σ3, ?_, fun b m hb' => ?_, g3⟩
  · unfold Sander_sand_n Sander_sand_n0
    rw [e1, Option.bind_some, room60 hR, show jmax 0 (jmin 60 0) = nI 0 from by decide, show (1 : Int64) = jI (19 ^ 0) from rfl, show (7 : Int32) = nI (8 - 0) + -1 from by decide, e2, Option.bind_some, c_leastOf hR hS, g2 R 0 (Nat.le_refl _) (Nat.le_refl _), Option.bind_some, e3]
    rfl
  · rw [p3 b m (by omega), p2 b m (by omega), p1]
end CS2
