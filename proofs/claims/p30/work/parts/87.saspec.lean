/-! sanding: the least work, and the least edge of it -/
section SASP
variable {G1 G2 C0 : Nat → Nat → Nat} {lo hi : Nat → Nat} {n h p r s r' s' k : Nat}
def BIG : Nat := 1000000000
def NEV : Nat := 4611686018427387904
def CHG : Nat := 16983563041
def wbF (G1 G2 C0 : Nat → Nat → Nat) (M : Nat → Nat → Nat) (h p r s : Nat) : Nat := if G1 h p ≤ r ∧ G2 h p ≤ s ∧ M (r - G1 h p) (s - G2 h p) ≠ BIG then M (r - G1 h p) (s - G2 h p) + C0 h p else BIG
def mnF (f : Nat → Nat) (n : Nat) : Nat := fo (fun p m => min m (f p)) n BIG
def MF (G1 G2 C0 : Nat → Nat → Nat) : Nat → Nat → Nat → Nat
  | 0, _, _ => 0
  | n + 1, r, s => mnF (fun p => wbF G1 G2 C0 (MF G1 G2 C0 n) (7 - n) p r s) 19
theorem mn_ok (f : Nat → Nat) : ∀ n, mnF f n ≤ BIG ∧ (∀ p, p < n → mnF f n ≤ f p) ∧ (mnF f n = BIG ∨ ∃ p, p < n ∧ mnF f n = f p) := fun n => by
  induction n with
  | zero => exact ⟨Nat.le_refl _, fun p hp => by omega, Or.inl rfl⟩
  | succ n ih =>
    have e : mnF f (n + 1) = min (mnF f n) (f n) := rfl
    obtain ⟨h1, h2, h3⟩ := ih
    rw [e]
    refine ⟨by omega, fun p hp => ?_, ?_⟩
    · by_cases q : p = n
      · rw [q]; exact Nat.min_le_right _ _
      · have := h2 p (by omega)
        exact Nat.le_trans (Nat.min_le_left _ _) this
    · by_cases q : mnF f n ≤ f n
      · rw [Nat.min_eq_left q]
        rcases h3 with h3 | ⟨p, a, b⟩
        · exact Or.inl h3
        · exact Or.inr ⟨p, by omega, b⟩
      · rw [Nat.min_eq_right (by omega)]
        exact Or.inr ⟨n, by omega, rfl⟩
theorem MF_s : MF G1 G2 C0 (n + 1) r s = mnF (fun p => wbF G1 G2 C0 (MF G1 G2 C0 n) (7 - n) p r s) 19 := rfl
theorem MF_le (hp : p < 19) : MF G1 G2 C0 (n + 1) r s ≤ wbF G1 G2 C0 (MF G1 G2 C0 n) (7 - n) p r s := (mn_ok (fun p => wbF G1 G2 C0 (MF G1 G2 C0 n) (7 - n) p r s) 19).2.1 p hp
theorem MF_big : MF G1 G2 C0 n r s ≤ BIG := by
  cases n with
  | zero => exact Nat.zero_le _
  | succ n => exact (mn_ok (fun p => wbF G1 G2 C0 (MF G1 G2 C0 n) (7 - n) p r s) 19).1
theorem MF_at : MF G1 G2 C0 (n + 1) r s = BIG ∨ ∃ p, p < 19 ∧ MF G1 G2 C0 (n + 1) r s = wbF G1 G2 C0 (MF G1 G2 C0 n) (7 - n) p r s := (mn_ok (fun p => wbF G1 G2 C0 (MF G1 G2 C0 n) (7 - n) p r s) 19).2.2
theorem wb_yes (h : wbF G1 G2 C0 (MF G1 G2 C0 n) k p r s ≠ BIG) : G1 k p ≤ r ∧ G2 k p ≤ s ∧ MF G1 G2 C0 n (r - G1 k p) (s - G2 k p) ≠ BIG ∧ wbF G1 G2 C0 (MF G1 G2 C0 n) k p r s = MF G1 G2 C0 n (r - G1 k p) (s - G2 k p) + C0 k p := by
  unfold wbF at *
  split at h
  · rename_i q
    rw [if_pos q]
    exact ⟨q.1, q.2.1, q.2.2, rfl⟩
  · exact absurd rfl h
theorem MF_bd (hC : ∀ h p, C0 h p ≤ 18) : ∀ n r s, MF G1 G2 C0 n r s = BIG ∨ MF G1 G2 C0 n r s ≤ 18 * n := fun n => by
  induction n with
  | zero => intro r s; exact Or.inr (Nat.le_refl _)
  | succ n ih =>
    intro r s
    rcases MF_at (G1 := G1) (G2 := G2) (C0 := C0) (n := n) (r := r) (s := s) with e | ⟨p, hp, e⟩
    · exact Or.inl e
    · by_cases q : wbF G1 G2 C0 (MF G1 G2 C0 n) (7 - n) p r s = BIG
      · exact Or.inl (e.trans q)
      · obtain ⟨a, b, c, d⟩ := wb_yes q
        rw [e, d]
        have := (ih (r - G1 (7 - n) p) (s - G2 (7 - n) p)).resolve_left c
        have := hC (7 - n) p
        right
        omega
theorem MF_mono (hC : ∀ h p, C0 h p ≤ 18) : ∀ n, n ≤ 8 → ∀ r s r' s', r ≤ r' → s ≤ s' → MF G1 G2 C0 n r' s' ≤ MF G1 G2 C0 n r s := fun n => by
  induction n with
  | zero => intro _ r s r' s' _ _; exact Nat.le_refl _
  | succ n ih =>
    intro hn r s r' s' hr hs
    rcases MF_at (G1 := G1) (G2 := G2) (C0 := C0) (n := n) (r := r) (s := s) with e | ⟨p, hp, e⟩
    · rw [e]; exact MF_big
    · by_cases q : wbF G1 G2 C0 (MF G1 G2 C0 n) (7 - n) p r s = BIG
      · rw [e, q]; exact MF_big
      · obtain ⟨a, b, c, d⟩ := wb_yes q
        have hm := ih (by omega) (r - G1 (7 - n) p) (s - G2 (7 - n) p) (r' - G1 (7 - n) p) (s' - G2 (7 - n) p) (by omega) (by omega)
        have hb := (MF_bd (G1 := G1) (G2 := G2) hC n (r - G1 (7 - n) p) (s - G2 (7 - n) p)).resolve_left c
        have c' : MF G1 G2 C0 n (r' - G1 (7 - n) p) (s' - G2 (7 - n) p) ≠ BIG := by
          unfold BIG; omega
        refine Nat.le_trans (MF_le hp) ?_
        rw [e, d]
        unfold wbF
        rw [if_pos ⟨by omega, by omega, c'⟩]
        omega
def chF (G1 G2 C0 : Nat → Nat → Nat) (n r s : Nat) : Nat := fsP (fun p => decide (wbF G1 G2 C0 (MF G1 G2 C0 n) (7 - n) p r s = MF G1 G2 C0 (n + 1) r s)) 19
theorem ch_ok (h : MF G1 G2 C0 (n + 1) r s ≠ BIG) : chF G1 G2 C0 n r s < 19 ∧ wbF G1 G2 C0 (MF G1 G2 C0 n) (7 - n) (chF G1 G2 C0 n r s) r s = MF G1 G2 C0 (n + 1) r s ∧ ∀ p, p < chF G1 G2 C0 n r s → wbF G1 G2 C0 (MF G1 G2 C0 n) (7 - n) p r s ≠ MF G1 G2 C0 (n + 1) r s := by
  rcases fsP_ok (fun p => decide (wbF G1 G2 C0 (MF G1 G2 C0 n) (7 - n) p r s = MF G1 G2 C0 (n + 1) r s)) 19 with ⟨a, b⟩ | ⟨a, b, c⟩
  · rcases MF_at (G1 := G1) (G2 := G2) (C0 := C0) (n := n) (r := r) (s := s) with e | ⟨p, hp, e⟩
    · exact absurd e h
    · exact absurd e.symm (of_decide_eq_false (b p hp))
  · exact ⟨a, of_decide_eq_true b, fun p hp => of_decide_eq_false (c p hp)⟩
def EF (G1 G2 C0 : Nat → Nat → Nat) : Nat → Nat → Nat → Nat
  | 0, _, _ => 0
  | n + 1, r, s => chF G1 G2 C0 n r s * 19 ^ n + EF G1 G2 C0 n (r - G1 (7 - n) (chF G1 G2 C0 n r s)) (s - G2 (7 - n) (chF G1 G2 C0 n r s))
theorem ch_next (h : MF G1 G2 C0 (n + 1) r s ≠ BIG) : G1 (7 - n) (chF G1 G2 C0 n r s) ≤ r ∧ G2 (7 - n) (chF G1 G2 C0 n r s) ≤ s ∧ MF G1 G2 C0 n (r - G1 (7 - n) (chF G1 G2 C0 n r s)) (s - G2 (7 - n) (chF G1 G2 C0 n r s)) ≠ BIG ∧ MF G1 G2 C0 (n + 1) r s = MF G1 G2 C0 n (r - G1 (7 - n) (chF G1 G2 C0 n r s)) (s - G2 (7 - n) (chF G1 G2 C0 n r s)) + C0 (7 - n) (chF G1 G2 C0 n r s) := by
  obtain ⟨a, b, c⟩ := ch_ok h
  obtain ⟨d1, d2, d3, d4⟩ := wb_yes (show wbF G1 G2 C0 (MF G1 G2 C0 n) (7 - n) (chF G1 G2 C0 n r s) r s ≠ BIG by rw [b]; exact h)
  exact ⟨d1, d2, d3, by rw [← b]; exact d4⟩
theorem EF_lt : ∀ n r s, MF G1 G2 C0 n r s ≠ BIG → EF G1 G2 C0 n r s < 19 ^ n := fun n => by
  induction n with
  | zero => intro r s _; exact Nat.lt_succ_self 0
  | succ n ih =>
    intro r s h
    obtain ⟨a, -, -⟩ := ch_ok h
    obtain ⟨-, -, d3, -⟩ := ch_next h
    have hi := ih _ _ d3
    show chF G1 G2 C0 n r s * 19 ^ n + EF G1 G2 C0 n _ _ < 19 ^ (n + 1)
    have h2 : chF G1 G2 C0 n r s * 19 ^ n ≤ 18 * 19 ^ n := Nat.mul_le_mul_right _ (by omega)
    rw [Nat.pow_succ]
    omega
theorem pow19 (hn : n ≤ 8) : 19 ^ n ≤ CHG := Nat.le_trans (Nat.pow_le_pow_right (by decide) hn) (by decide)
def valF (G1 G2 C0 : Nat → Nat → Nat) (n r s : Nat) : Nat := if MF G1 G2 C0 n r s = BIG then NEV else MF G1 G2 C0 n r s * CHG + EF G1 G2 C0 n r s
theorem val_yes (h : MF G1 G2 C0 n r s ≠ BIG) : valF G1 G2 C0 n r s = MF G1 G2 C0 n r s * CHG + EF G1 G2 C0 n r s := if_neg h
theorem val_no (h : MF G1 G2 C0 n r s = BIG) : valF G1 G2 C0 n r s = NEV := if_pos h
theorem val_lt (hC : ∀ h p, C0 h p ≤ 18) (hn : n ≤ 8) (h : MF G1 G2 C0 n r s ≠ BIG) : valF G1 G2 C0 n r s < 145 * CHG := by
  rw [val_yes h]
  have h1 := (MF_bd (G1 := G1) (G2 := G2) hC n r s).resolve_left h
  have h2 := EF_lt n r s h
  have h3 := pow19 hn
  have h4 : MF G1 G2 C0 n r s * CHG ≤ 144 * CHG := Nat.mul_le_mul_right _ (by omega)
  have : CHG = 16983563041 := rfl
  omega
theorem big_nev : 145 * CHG < NEV := by decide
theorem val_nev (hC : ∀ h p, C0 h p ≤ 18) (hn : n ≤ 8) : valF G1 G2 C0 n r s ≤ NEV ∧ (valF G1 G2 C0 n r s = NEV ↔ MF G1 G2 C0 n r s = BIG) := by
  by_cases h : MF G1 G2 C0 n r s = BIG
  · rw [val_no h]
    exact ⟨Nat.le_refl _, fun _ => h, fun _ => rfl⟩
  · have h1 := val_lt hC hn h
    have h2 := big_nev
    exact ⟨by omega, fun z => by omega, fun z => absurd z h⟩
def candF (G1 G2 C0 : Nat → Nat → Nat) (n p r s : Nat) : Nat := if G1 (7 - n) p ≤ r ∧ G2 (7 - n) p ≤ s ∧ valF G1 G2 C0 n (r - G1 (7 - n) p) (s - G2 (7 - n) p) ≠ NEV then valF G1 G2 C0 n (r - G1 (7 - n) p) (s - G2 (7 - n) p) + (C0 (7 - n) p * CHG + p * 19 ^ n) else NEV
def NarF (G1 G2 C0 : Nat → Nat → Nat) (lo hi : Nat → Nat) : Prop := (∀ h p, C0 h p ≤ 18) ∧ (∀ h p, h < 8 → p < 19 → p < lo h → lo h < 19 ∧ G1 h (lo h) ≤ G1 h p ∧ G2 h (lo h) ≤ G2 h p ∧ C0 h (lo h) < C0 h p) ∧ (∀ h p, h < 8 → p < 19 → hi h < p → G1 h (hi h) ≤ G1 h p ∧ G2 h (hi h) ≤ G2 h p ∧ C0 h (hi h) < C0 h p)
theorem less_no (hC : ∀ h p, C0 h p ≤ 18) (hn : n ≤ 7) {q : Nat} (hq : q < 19) (h : MF G1 G2 C0 (n + 1) r s ≠ BIG) (g1 : G1 (7 - n) q ≤ G1 (7 - n) (chF G1 G2 C0 n r s)) (g2 : G2 (7 - n) q ≤ G2 (7 - n) (chF G1 G2 C0 n r s)) (c : C0 (7 - n) q < C0 (7 - n) (chF G1 G2 C0 n r s)) : False := by
  obtain ⟨d1, d2, d3, d4⟩ := ch_next h
  have hm := MF_mono (G1 := G1) (G2 := G2) hC n (by omega) (r - G1 (7 - n) (chF G1 G2 C0 n r s)) (s - G2 (7 - n) (chF G1 G2 C0 n r s)) (r - G1 (7 - n) q) (s - G2 (7 - n) q) (by omega) (by omega)
  have hb := (MF_bd (G1 := G1) (G2 := G2) hC n (r - G1 (7 - n) (chF G1 G2 C0 n r s)) (s - G2 (7 - n) (chF G1 G2 C0 n r s))).resolve_left d3
  have d3' : MF G1 G2 C0 n (r - G1 (7 - n) q) (s - G2 (7 - n) q) ≠ BIG := by unfold BIG; omega
  have := MF_le (G1 := G1) (G2 := G2) (C0 := C0) (n := n) (r := r) (s := s) hq
  unfold wbF at this
  rw [if_pos ⟨by omega, by omega, d3'⟩] at this
  omega
theorem ch_range (hN : NarF G1 G2 C0 lo hi) (hn : n ≤ 7) (h : MF G1 G2 C0 (n + 1) r s ≠ BIG) : lo (7 - n) ≤ chF G1 G2 C0 n r s ∧ chF G1 G2 C0 n r s ≤ hi (7 - n) := by
  obtain ⟨hC, hL, hH⟩ := hN
  obtain ⟨a, -, -⟩ := ch_ok h
  refine ⟨?_, ?_⟩
  · apply Classical.byContradiction
    intro q
    obtain ⟨b1, b2, b3, b4⟩ := hL (7 - n) _ (by omega) a (by omega)
    exact less_no hC hn b1 h b2 b3 b4
  · apply Classical.byContradiction
    intro q
    obtain ⟨b2, b3, b4⟩ := hH (7 - n) _ (by omega) a (by omega)
    exact less_no hC hn (by omega) h b2 b3 b4
theorem cand_le (hC : ∀ h p, C0 h p ≤ 18) (hn : n ≤ 7) (hp : p < 19) : valF G1 G2 C0 (n + 1) r s ≤ candF G1 G2 C0 n p r s := by
  unfold candF
  split
  · rename_i q
    obtain ⟨q1, q2, q3⟩ := q
    have m3 : MF G1 G2 C0 n (r - G1 (7 - n) p) (s - G2 (7 - n) p) ≠ BIG := fun z => q3 ((val_nev hC (by omega)).2.mpr z)
    have hw : wbF G1 G2 C0 (MF G1 G2 C0 n) (7 - n) p r s = MF G1 G2 C0 n (r - G1 (7 - n) p) (s - G2 (7 - n) p) + C0 (7 - n) p := if_pos ⟨q1, q2, m3⟩
    have hle := MF_le (G1 := G1) (G2 := G2) (C0 := C0) (n := n) (r := r) (s := s) hp
    have hb := (MF_bd (G1 := G1) (G2 := G2) hC n _ _).resolve_left m3
    have hc := hC (7 - n) p
    have mB : MF G1 G2 C0 (n + 1) r s ≠ BIG := by unfold BIG; omega
    obtain ⟨a, b, c⟩ := ch_ok mB
    obtain ⟨d1, d2, d3, d4⟩ := ch_next mB
    have e1 := EF_lt _ _ _ d3
    have e2 := EF_lt _ _ _ mB
    have hpow := pow19 (show n + 1 ≤ 8 by omega)
    rw [val_yes mB, val_yes m3]
    by_cases z : wbF G1 G2 C0 (MF G1 G2 C0 n) (7 - n) p r s = MF G1 G2 C0 (n + 1) r s
    · have hge : chF G1 G2 C0 n r s ≤ p := Nat.le_of_not_lt fun y => c p y z
      have e3 := EF_lt _ _ _ m3
      have hE : EF G1 G2 C0 (n + 1) r s = chF G1 G2 C0 n r s * 19 ^ n + EF G1 G2 C0 n (r - G1 (7 - n) (chF G1 G2 C0 n r s)) (s - G2 (7 - n) (chF G1 G2 C0 n r s)) := rfl
      have hM : MF G1 G2 C0 (n + 1) r s * CHG = MF G1 G2 C0 n (r - G1 (7 - n) p) (s - G2 (7 - n) p) * CHG + C0 (7 - n) p * CHG := by
        rw [← z, hw, Nat.add_mul]
      by_cases y : chF G1 G2 C0 n r s = p
      · rw [hE, y, hM]
        omega
      · have h2 : (chF G1 G2 C0 n r s + 1) * 19 ^ n ≤ p * 19 ^ n := Nat.mul_le_mul_right _ (by omega)
        rw [Nat.succ_mul] at h2
        rw [hE, hM]
        omega
    · have hlt : MF G1 G2 C0 (n + 1) r s + 1 ≤ MF G1 G2 C0 n (r - G1 (7 - n) p) (s - G2 (7 - n) p) + C0 (7 - n) p := by omega
      have h2 : (MF G1 G2 C0 (n + 1) r s + 1) * CHG ≤ (MF G1 G2 C0 n (r - G1 (7 - n) p) (s - G2 (7 - n) p) + C0 (7 - n) p) * CHG := Nat.mul_le_mul_right _ hlt
      rw [Nat.succ_mul, Nat.add_mul] at h2
      omega
  · exact (val_nev hC (by omega)).1
theorem cand_ch (hC : ∀ h p, C0 h p ≤ 18) (hn : n ≤ 7) (h : MF G1 G2 C0 (n + 1) r s ≠ BIG) : candF G1 G2 C0 n (chF G1 G2 C0 n r s) r s = valF G1 G2 C0 (n + 1) r s := by
  obtain ⟨d1, d2, d3, d4⟩ := ch_next h
  unfold candF
  rw [if_pos ⟨d1, d2, fun z => d3 ((val_nev hC (by omega)).2.mp z)⟩, val_yes h, val_yes d3, d4, Nat.add_mul]
  show _ = _ + (chF G1 G2 C0 n r s * 19 ^ n + EF G1 G2 C0 n (r - G1 (7 - n) (chF G1 G2 C0 n r s)) (s - G2 (7 - n) (chF G1 G2 C0 n r s)))
  omega
/-- the least of the narrow ones is the least of all -/
theorem least_is (hN : NarF G1 G2 C0 lo hi) (hn : n ≤ 7) {R : Nat} (hR : R ≤ NEV) (h1 : R = NEV ∨ ∃ p, p < 19 ∧ R = candF G1 G2 C0 n p r s) (h2 : ∀ p, lo (7 - n) ≤ p → p ≤ hi (7 - n) → p < 19 → R ≤ candF G1 G2 C0 n p r s) : R = valF G1 G2 C0 (n + 1) r s := by
  have hle : valF G1 G2 C0 (n + 1) r s ≤ R := by
    rcases h1 with e | ⟨p, hp, e⟩
    · rw [e]; exact (val_nev hN.1 (by omega)).1
    · rw [e]; exact cand_le hN.1 hn hp
  by_cases h : MF G1 G2 C0 (n + 1) r s = BIG
  · have := val_no h
    omega
  · obtain ⟨a, b⟩ := ch_range hN hn h
    obtain ⟨c, -, -⟩ := ch_ok h
    have := h2 _ a b c
    rw [cand_ch hN.1 hn h] at this
    omega
/-! the way through, from height 0 -/
def RSF (G1 G2 C0 : Nat → Nat → Nat) (r s : Nat) : Nat → Nat × Nat
  | 0 => (r, s)
  | h + 1 => ((RSF G1 G2 C0 r s h).1 - G1 h (chF G1 G2 C0 (7 - h) (RSF G1 G2 C0 r s h).1 (RSF G1 G2 C0 r s h).2), (RSF G1 G2 C0 r s h).2 - G2 h (chF G1 G2 C0 (7 - h) (RSF G1 G2 C0 r s h).1 (RSF G1 G2 C0 r s h).2))
def plF (G1 G2 C0 : Nat → Nat → Nat) (r s h : Nat) : Nat := chF G1 G2 C0 (7 - h) (RSF G1 G2 C0 r s h).1 (RSF G1 G2 C0 r s h).2
theorem RS_ok (h0 : MF G1 G2 C0 8 r s ≠ BIG) : ∀ h, h ≤ 8 → MF G1 G2 C0 (8 - h) (RSF G1 G2 C0 r s h).1 (RSF G1 G2 C0 r s h).2 ≠ BIG := fun h => by
  induction h with
  | zero => intro _; exact h0
  | succ h ih =>
    intro hh
    have e := ih (by omega)
    rw [show 8 - h = (7 - h) + 1 by omega] at e
    have d := (ch_next e).2.2.1
    rw [show 7 - (7 - h) = h by omega] at d
    rw [show 8 - (h + 1) = 7 - h by omega]
    exact d
theorem pl_lt (h0 : MF G1 G2 C0 8 r s ≠ BIG) (hh : h < 8) : plF G1 G2 C0 r s h < 19 := by
  have e := RS_ok h0 h (by omega)
  rw [show 8 - h = (7 - h) + 1 by omega] at e
  exact (ch_ok e).1
def hornF (G1 G2 C0 : Nat → Nat → Nat) (r s : Nat) : Nat → Nat
  | 0 => MF G1 G2 C0 8 r s
  | h + 1 => 19 * hornF G1 G2 C0 r s h + plF G1 G2 C0 r s h
theorem horn_ok : ∀ h, h ≤ 8 → hornF G1 G2 C0 r s h * 19 ^ (8 - h) + EF G1 G2 C0 (8 - h) (RSF G1 G2 C0 r s h).1 (RSF G1 G2 C0 r s h).2 = MF G1 G2 C0 8 r s * CHG + EF G1 G2 C0 8 r s := fun h => by
  induction h with
  | zero => intro _; rfl
  | succ h ih =>
    intro hh
    have e := ih (by omega)
    rw [← e, show 8 - h = (7 - h) + 1 by omega, show 8 - (h + 1) = 7 - h by omega]
    show (19 * hornF G1 G2 C0 r s h + plF G1 G2 C0 r s h) * 19 ^ (7 - h) + EF G1 G2 C0 (7 - h) ((RSF G1 G2 C0 r s h).1 - G1 h (plF G1 G2 C0 r s h)) ((RSF G1 G2 C0 r s h).2 - G2 h (plF G1 G2 C0 r s h)) = hornF G1 G2 C0 r s h * 19 ^ ((7 - h) + 1) + (plF G1 G2 C0 r s h * 19 ^ (7 - h) + EF G1 G2 C0 (7 - h) ((RSF G1 G2 C0 r s h).1 - G1 (7 - (7 - h)) (plF G1 G2 C0 r s h)) ((RSF G1 G2 C0 r s h).2 - G2 (7 - (7 - h)) (plF G1 G2 C0 r s h)))
    rw [show 7 - (7 - h) = h by omega, Nat.pow_succ]
    generalize 19 ^ (7 - h) = a
    generalize hornF G1 G2 C0 r s h = b
    generalize plF G1 G2 C0 r s h = c
    generalize EF G1 G2 C0 (7 - h) _ _ = d
    grind
theorem horn_val (h0 : MF G1 G2 C0 8 r s ≠ BIG) : hornF G1 G2 C0 r s 8 = valF G1 G2 C0 8 r s := by
  have := horn_ok (G1 := G1) (G2 := G2) (C0 := C0) (r := r) (s := s) 8 (Nat.le_refl _)
  rw [val_yes h0, ← this]
  show _ = _ * 1 + 0
  omega
end SASP
