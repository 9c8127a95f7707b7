/-! COPIES OF LANDS AND ROWS -/
theorem WF_agree {A B : Nat → Int32} (w : WF A) (e : ∀ k, k < 1936 → B k = A k) : WF B := by
  have hl : ∀ k, liveR B k = liveR A k := fun k => (lt_same (e 108 (by omega)) (e 109 (by omega))).1
  refine ⟨?_, ?_, ?_, ?_, fun i hi => ?_⟩
  · rw [e _ (by omega), e _ (by omega)]; exact w.1
  · rw [e _ (by omega), e _ (by omega)]; exact w.2.1
  · rw [e _ (by omega)]; exact w.2.2.1
  · rw [e _ (by omega)]; exact w.2.2.2.1
  · obtain ⟨p1, p2, p3, p4, p5, p6, ⟨g, m, q1, q2, q3, q4, q5⟩, p8, p9⟩ := w.2.2.2.2 i hi
    refine ⟨?_, ?_, ?_, ?_, ?_, ?_, ?_, ?_, ?_⟩
    · rw [e _ (by omega)]; exact p1
    · rw [e _ (by omega)]; exact p2
    · rw [e _ (by omega), hl]
      rcases p3 with q | ⟨j, a, b, c, d, f, g⟩
      · exact Or.inl q
      · exact Or.inr ⟨j, a, b, c, by rw [e _ (by omega)]; exact d, f, by rw [hl]; exact g⟩
    · rw [e _ (by omega)]; exact p4
    · rw [e _ (by omega)]; exact p5
    · rw [e _ (by omega)]; exact p6
    · exact ⟨g, m, q1, q2, by rw [e _ (by omega)]; exact q3, by rw [e _ (by omega)]; exact q4, fun j hj => by rw [e _ (by omega)]; exact q5 j hj⟩
    · intro h hh
      rw [e _ (by omega)]; exact p8 h hh
    · rw [hl, e _ (by omega)]; exact p9
theorem LD_agree {t : Nat} {A B : Nat → Int32} {σ : MH} (h : LD t A σ) (e : ∀ k, k < 1936 → B k = A k) : LD t B σ := by
  refine ⟨⟨?_, ?_, ?_, ?_⟩, fun i hi => ?_, fun m n hm hn => ?_, fun i j hi hj q => ?_, fun m hm => ?_⟩
  · rw [e _ (by omega)]; exact h.1.1
  · rw [e _ (by omega)]; exact h.1.2.1
  · rw [e _ (by omega)]; exact h.1.2.2.1
  · rw [e _ (by omega)]; exact h.1.2.2.2
  · rw [e _ (by omega), e _ (by omega), e _ (by omega), e _ (by omega), e _ (by omega), e _ (by omega), e _ (by omega), e _ (by omega)]
    exact h.2.1 i hi
  · rw [e _ (by omega)]; exact h.2.2.1 m n hm hn
  · rw [e _ (by omega)] at q
    rw [e _ (by omega)]; exact h.2.2.2.1 i j hi hj q
  · obtain ⟨h1, h2⟩ := h.2.2.2.2 m hm
    refine ⟨fun i hi => ?_, h2⟩
    rw [h1 i hi]
    unfold hldR toldR
    rw [e 108 (by omega), e _ (by omega)]
theorem fo_cp (v : Nat → Int32) (f0 : Nat → Int32) : ∀ n, fo (fun k f => upd f k (v k)) n f0 = fun m => if m < n then v m else f0 m
  | 0 => funext fun m => by rw [if_neg (by omega)]; rfl
  | n + 1 => by
    show upd (fo _ n f0) n (v n) = _
    rw [fo_cp v f0 n]
    funext m
    rw [upd_at]
    by_cases q : m = n
    · subst q
      rw [if_pos rfl, if_pos (by omega)]
    · rw [if_neg q]
      by_cases q2 : m < n
      · rw [if_pos q2, if_pos (by omega)]
      · rw [if_neg q2, if_neg (by omega)]
theorem m_copiesRow {a b : Nat} (hab : a ≠ b) (σ : MH) : Md_copiesRow a b σ = some (sR σ b (fun m => if m < 1936 then σ.1 a m else σ.1 b m)) := by
  have hl : Md_copiesRow_L2 a b (0, σ) = some (sR σ b (fo (fun k f => upd f k (σ.1 a k)) 1936 (σ.1 b))) := by
    have e0 : ((0 : Int32), σ) = ((fun (n : Nat) (f : Nat → Int32) => (nI n, sR σ b f)) 0 (σ.1 b)) := by
      show _ = (nI 0, sR σ b (σ.1 b))
      rw [sR_self]; rfl
    rw [e0]
    refine (itr_fo (f := fun s : Int32 × MH => Md_copiesRow_l2 a b s.1 s.2) (mk := fun (n : Nat) (f : Nat → Int32) => (nI n, sR σ b f)) (g := fun k f => upd f k (σ.1 a k)) (fin := fun f => sR σ b f) (P := fun _ _ => True) (N := 1936) (m := FU) (s0 := σ.1 b) trivial (fun k f hk _ => ⟨?_, trivial⟩) (fun f _ => ?_) (by decide)).1
    · show Md_copiesRow_l2 a b (nI k) (sR σ b f) = _
      obtain ⟨f1, f2, f3, f4⟩ := ix3 1936 hk
      unfold Md_copiesRow_l2
      rw [if_neg f1, if_pos f2, f3, sR_ne σ f hab, sI_sR, sR_sR, sR_at, lit_nI 1, nI_add]
    · show Md_copiesRow_l2 a b (nI 1936) (sR σ b f) = _
      unfold Md_copiesRow_l2
      rw [if_pos (by decide)]
  unfold Md_copiesRow Md_copiesRow0
  rw [hl, fo_cp]
  rfl
theorem sI_ne {σ : MH} {a b i k : Nat} {v : Int32} (h : ¬ (b = a ∧ k = i)) : (sI σ a i v).1 b k = σ.1 b k := by
  rw [sI_at, if_neg h]
theorem cpI_at {σ : MH} {a0 a1 N b k : Nat} : (cpI σ a0 a1 N).1 b k = if b = a1 ∧ k < N then σ.1 a0 k else σ.1 b k := by
  unfold cpI
  by_cases h : b = a1
  · subst h
    by_cases q : k < N <;> simp [q]
  · simp [h]
/-- the cells of a land in another one's place -/
def CP (t u n : Nat) (σ σ' : MH) : Prop := (σ'.1 t 0 = σ.1 u 0 ∧ σ'.1 t 1 = σ.1 u 1 ∧ σ'.1 t 13 = σ.1 u 13 ∧ σ'.1 t 14 = σ.1 u 14) ∧
  ∀ i, i < n → (σ'.1 (t + 1) i = σ.1 (u + 1) i ∧ σ'.1 (t + 2) i = σ.1 (u + 2) i ∧ σ'.1 (t + 3) i = σ.1 (u + 3) i ∧ σ'.1 (t + 4) i = σ.1 (u + 4) i ∧ σ'.1 (t + 5) i = σ.1 (u + 5) i ∧ σ'.1 (t + 6) i = σ.1 (u + 6) i ∧ σ'.1 (t + 7) i = σ.1 (u + 7) i ∧ σ'.1 (t + 34) i = σ.1 (u + 34) i ∧ σ'.1 (t + 35) i = σ.1 (u + 35) i) ∧ (∀ h, h < 8 → σ'.1 (t + 9 + i) h = σ.1 (u + 9 + i) h) ∧ (∀ j, j < 144 → σ'.1 (t + 22 + i) j = σ.1 (u + 22 + i) j)
theorem LD_CP {t u : Nat} {A : Nat → Int32} {σ σ' : MH} (h : LD u A σ) (c : CP t u 12 σ σ') : LD t A σ' := by
  obtain ⟨⟨a1, a2, a3, a4⟩, c⟩ := c
  refine ⟨⟨a1.trans h.1.1, a2.trans h.1.2.1, a3.trans h.1.2.2.1, a4.trans h.1.2.2.2⟩, fun i hi => ?_, fun m n hm hn => ?_, fun i j hi hj q => ?_, fun m hm => ?_⟩
  · obtain ⟨⟨b1, b2, b3, b4, b5, b6, b7, b8, b9⟩, -, -⟩ := c i hi
    rw [b1, b2, b3, b4, b5, b7, b8, b9]
    exact h.2.1 i hi
  · rw [(c m hm).2.1 n hn]; exact h.2.2.1 m n hm hn
  · rw [(c i hi).2.2 j hj]; exact h.2.2.2.1 i j hi hj q
  · rw [(c m hm).1.2.2.2.2.2.1]; exact h.2.2.2.2 m hm
def cpS (t u n : Nat) (σ z : MH) : MH := cpI (cpI (sI (sI (sI (sI (sI (sI (sI (sI (sI z (t + 1) n (σ.1 (u + 1) n)) (t + 2) n (σ.1 (u + 2) n)) (t + 3) n (σ.1 (u + 3) n)) (t + 4) n (σ.1 (u + 4) n)) (t + 5) n (σ.1 (u + 5) n)) (t + 6) n (σ.1 (u + 6) n)) (t + 7) n (σ.1 (u + 7) n)) (t + 34) n (σ.1 (u + 34) n)) (t + 35) n (σ.1 (u + 35) n)) (u + 9 + n) (t + 9 + n) 8) (u + 22 + n) (t + 22 + n) 144
set_option maxHeartbeats 4000000 in
theorem c_cp0 {t u n : Nat} (ht : isLd t) (hu : isLd u) (hn : n < 12) (hs : ∀ a b, a < 36 → b < 36 → u + a ≠ t + b) {σ z : MH} (rd : ∀ c k, c < 36 → z.1 (u + c) k = σ.1 (u + c) k) : Land_copyFrom_l39 t u (nI n) z = some (.inl (nI (n + 1), cpS t u n σ z)) := by
  obtain ⟨f1, f2, f3, f4⟩ := ix3 12 hn
  obtain ⟨r2, r3, r4, r5, r6, r7, r8, r9, r10, r11, r12⟩ := rf2 ht
  obtain ⟨s2, s3, s4, s5, s6, s7, s8, s9, s10, s11, s12⟩ := rf2 hu
  have ob : ∀ (τ : MH) (a b i k : Nat) (v : Int32), a < 36 → b < 36 → (sI τ (t + b) i v).1 (u + a) k = τ.1 (u + a) k := fun τ a b i k v ha hb => sI_obj (hs a b ha hb)
  unfold Land_copyFrom_l39 cpS
  rw [if_neg f1, if_pos f2, f3]
  simp only [r2, r3, r4, r5, r6, r7, r8, r9, r10, r11, r12, s2, s3, s4, s5, s6, s7, s8, s9, s10, s11, s12, rfH ht hn, rfH hu hn, rfW ht hn, rfW hu hn]
  rw [lit_nI 1, nI_add]
  simp (disch := decide) only [ob, rd]
set_option maxHeartbeats 4000000 in
theorem c_cp1 {t u : Nat} (h : (t = 37 ∧ u = 1) ∨ (t = 1 ∧ u = 37) ∨ (t = 73 ∧ u = 1)) {n : Nat} (hn : n < 12) {σ z : MH} (hc : CP t u n σ z) (hf : Fx (fun b _ => t ≤ b ∧ b < t + 36) σ z) : ∃ σ', Land_copyFrom_l39 t u (nI n) z = some (.inl (nI (n + 1), σ')) ∧ CP t u (n + 1) σ σ' ∧ Fx (fun b _ => t ≤ b ∧ b < t + 36) σ σ' := by
  obtain ⟨f1, f2, f3, f4⟩ := ix3 12 hn
  have htu : isLd t ∧ isLd u ∧ ∀ a b, a < 36 → b < 36 → u + a ≠ t + b := by
    rcases h with ⟨rfl, rfl⟩ | ⟨rfl, rfl⟩ | ⟨rfl, rfl⟩
    · exact ⟨ld37, ld1, fun a b _ _ => by omega⟩
    · exact ⟨ld1, ld37, fun a b _ _ => by omega⟩
    · exact ⟨ld73, ld1, fun a b _ _ => by omega⟩
  obtain ⟨ht, hu, hs⟩ := htu
  have rd : ∀ c k, c < 36 → z.1 (u + c) k = σ.1 (u + c) k := fun c k hc => hf _ _ (by
    intro q
    have := hs c (u + c - t) hc (by omega)
    omega)
  have ob : ∀ (τ : MH) (a b i k : Nat) (v : Int32), a < 36 → b < 36 → (sI τ (t + b) i v).1 (u + a) k = τ.1 (u + a) k := fun τ a b i k v ha hb => sI_obj (hs a b ha hb)
  have e := c_cp0 ht hu hn hs rd
  refine ⟨_, e, ?_, ?_⟩
  · obtain ⟨⟨a1, a2, a3, a4⟩, c⟩ := hc
    have hz : ∀ b k, (b = t ∨ k ≠ n ∧ (t + 1 ≤ b ∧ b < t + 9 ∨ t + 34 ≤ b ∧ b < t + 36) ∨ (t + 9 ≤ b ∧ b < t + 21 ∧ b ≠ t + 9 + n) ∨ (t + 22 ≤ b ∧ b < t + 34 ∧ b ≠ t + 22 + n)) → (cpS t u n σ z).1 b k = z.1 b k := fun b k q => by
      unfold cpS
      rw [cpI_at, if_neg (by omega), cpI_at, if_neg (by omega)]
      rw [sI_ne (by omega), sI_ne (by omega), sI_ne (by omega), sI_ne (by omega), sI_ne (by omega), sI_ne (by omega), sI_ne (by omega), sI_ne (by omega), sI_ne (by omega)]
    refine ⟨⟨?_, ?_, ?_, ?_⟩, fun i hi => ?_⟩
    · rw [hz _ _ (Or.inl rfl)]; exact a1
    · rw [hz _ _ (Or.inl rfl)]; exact a2
    · rw [hz _ _ (Or.inl rfl)]; exact a3
    · rw [hz _ _ (Or.inl rfl)]; exact a4
    · by_cases q : i < n
      · obtain ⟨⟨b1, b2, b3, b4, b5, b6, b7, b8, b9⟩, d1, d2⟩ := c i q
        refine ⟨⟨?_, ?_, ?_, ?_, ?_, ?_, ?_, ?_, ?_⟩, fun h hh => ?_, fun j hj => ?_⟩
        · rw [hz _ _ (by omega)]; exact b1
        · rw [hz _ _ (by omega)]; exact b2
        · rw [hz _ _ (by omega)]; exact b3
        · rw [hz _ _ (by omega)]; exact b4
        · rw [hz _ _ (by omega)]; exact b5
        · rw [hz _ _ (by omega)]; exact b6
        · rw [hz _ _ (by omega)]; exact b7
        · rw [hz _ _ (by omega)]; exact b8
        · rw [hz _ _ (by omega)]; exact b9
        · rw [hz _ _ (by omega)]; exact d1 h hh
        · rw [hz _ _ (by omega)]; exact d2 j hj
      · obtain rfl : i = n := by omega
        have x1 : ∀ c, c < 36 → c ≠ 9 + i → c ≠ 22 + i → ∀ v : Int32, ∀ τ : MH, (cpI (cpI τ (u + 9 + i) (t + 9 + i) 8) (u + 22 + i) (t + 22 + i) 144).1 (t + c) i = τ.1 (t + c) i := fun c h1 h2 h3 v τ => by
          rw [cpI_at, if_neg (by omega), cpI_at, if_neg (by omega)]
        have sk : ∀ (τ : MH) (a b : Nat) (v : Int32), a ≠ b → (sI τ (t + b) i v).1 (t + a) i = τ.1 (t + a) i := fun τ a b v hab => sI_obj (by omega)
        refine ⟨⟨?_, ?_, ?_, ?_, ?_, ?_, ?_, ?_, ?_⟩, fun h hh => ?_, fun j hj => ?_⟩
        · unfold cpS
          rw [x1 1 (by omega) (by omega) (by omega) 0, sk _ 1 35 _ (by decide), sk _ 1 34 _ (by decide), sk _ 1 7 _ (by decide), sk _ 1 6 _ (by decide), sk _ 1 5 _ (by decide), sk _ 1 4 _ (by decide), sk _ 1 3 _ (by decide), sk _ 1 2 _ (by decide), sI_same]
        · unfold cpS
          rw [x1 2 (by omega) (by omega) (by omega) 0, sk _ 2 35 _ (by decide), sk _ 2 34 _ (by decide), sk _ 2 7 _ (by decide), sk _ 2 6 _ (by decide), sk _ 2 5 _ (by decide), sk _ 2 4 _ (by decide), sk _ 2 3 _ (by decide), sI_same]
        · unfold cpS
          rw [x1 3 (by omega) (by omega) (by omega) 0, sk _ 3 35 _ (by decide), sk _ 3 34 _ (by decide), sk _ 3 7 _ (by decide), sk _ 3 6 _ (by decide), sk _ 3 5 _ (by decide), sk _ 3 4 _ (by decide), sI_same]
        · unfold cpS
          rw [x1 4 (by omega) (by omega) (by omega) 0, sk _ 4 35 _ (by decide), sk _ 4 34 _ (by decide), sk _ 4 7 _ (by decide), sk _ 4 6 _ (by decide), sk _ 4 5 _ (by decide), sI_same]
        · unfold cpS
          rw [x1 5 (by omega) (by omega) (by omega) 0, sk _ 5 35 _ (by decide), sk _ 5 34 _ (by decide), sk _ 5 7 _ (by decide), sk _ 5 6 _ (by decide), sI_same]
        · unfold cpS
          rw [x1 6 (by omega) (by omega) (by omega) 0, sk _ 6 35 _ (by decide), sk _ 6 34 _ (by decide), sk _ 6 7 _ (by decide), sI_same]
        · unfold cpS
          rw [x1 7 (by omega) (by omega) (by omega) 0, sk _ 7 35 _ (by decide), sk _ 7 34 _ (by decide), sI_same]
        · unfold cpS
          rw [x1 34 (by omega) (by omega) (by omega) 0, sk _ 34 35 _ (by decide), sI_same]
        · unfold cpS
          rw [x1 35 (by omega) (by omega) (by omega) 0, sI_same]
        · unfold cpS
          rw [cpI_at, if_neg (by omega), cpI_at, if_pos ⟨rfl, hh⟩, Nat.add_assoc u 9 i]
          simp (disch := omega) only [ob, rd]
        · unfold cpS
          rw [cpI_at, if_pos ⟨rfl, hj⟩, cpI_at, if_neg, Nat.add_assoc u 22 i]
          · simp (disch := omega) only [ob, rd]
          · intro q
            exact hs (22 + i) (9 + i) (by omega) (by omega) (by omega)
  · intro b k hb
    unfold cpS
    rw [cpI_at, if_neg (by omega), cpI_at, if_neg (by omega)]
    rw [sI_ne (by omega), sI_ne (by omega), sI_ne (by omega), sI_ne (by omega), sI_ne (by omega), sI_ne (by omega), sI_ne (by omega), sI_ne (by omega), sI_ne (by omega)]
    exact hf b k hb
theorem c_copyFrom {t u : Nat} (h : (t = 37 ∧ u = 1) ∨ (t = 1 ∧ u = 37) ∨ (t = 73 ∧ u = 1)) (σ : MH) : ∃ σ', Land_copyFrom t u σ = some σ' ∧ CP t u 12 σ σ' ∧ Fx (fun b _ => t ≤ b ∧ b < t + 36) σ σ' := by
  have htu : u ≠ t := by omega
  have e : Land_copyFrom t u σ = Land_copyFrom_L39 t u (0, sI (sI (sI (sI σ t 0 (σ.1 u 0)) t 1 (σ.1 u 1)) t 13 (σ.1 u 13)) t 14 (σ.1 u 14)) := by
    unfold Land_copyFrom Land_copyFrom0
    simp only [sI_obj htu]
    cases Land_copyFrom_L39 t u (0, sI (sI (sI (sI σ t 0 (σ.1 u 0)) t 1 (σ.1 u 1)) t 13 (σ.1 u 13)) t 14 (σ.1 u 14)) <;> rfl
  rw [e]
  refine itr_n 12 (fun (n : Nat) (z : Int32 × MH) => z.1 = nI n ∧ CP t u n σ z.2 ∧ Fx (fun b _ => t ≤ b ∧ b < t + 36) σ z.2) _ ⟨rfl, ⟨⟨?_, ?_, ?_, ?_⟩, fun i hi => by omega⟩, ?_⟩ (fun n z hn hz => ?_) (fun z hz => ?_)
  · rw [sI_fld (by decide), sI_fld (by decide), sI_fld (by decide), sI_same]
  · rw [sI_fld (by decide), sI_fld (by decide), sI_same]
  · rw [sI_fld (by decide), sI_same]
  · rw [sI_same]
  · intro b k hb
    have : b ≠ t := fun q => hb (by omega)
    dsimp only
    rw [sI_obj this, sI_obj this, sI_obj this, sI_obj this]
  · obtain ⟨z1, z2⟩ := z
    obtain ⟨rfl, hz2, hz3⟩ := hz
    obtain ⟨σ', e, a, b⟩ := c_cp1 h hn hz2 hz3
    exact Or.inl ⟨_, e, rfl, a, b⟩
  · obtain ⟨z1, z2⟩ := z
    obtain ⟨rfl, hz2, hz3⟩ := hz
    refine ⟨z2, ?_, hz2, hz3⟩
    show Land_copyFrom_l39 t u (nI 12) z2 = _
    unfold Land_copyFrom_l39
    rw [if_pos (by decide)]
