/-! readers: a text and its signs -/
section RDR
variable {σ : MH} {tx : Nat → Nat} {n p f k c : Nat} {v : Nat → Int32}
/-- the sign at a place, 256 past the end -/
def sN (tx : Nat → Nat) (n p : Nat) : Nat := if p < n then tx p else 256
def sgX (tx : Nat → Nat) (n p : Nat) : Int32 := if p < n then nI (tx p) else -1
def TXb (tx : Nat → Nat) (n : Nat) : Prop := n ≤ 240 ∧ ∀ j, j < n → tx j < 256
def dg (lo hi c : Nat) : Bool := decide (lo ≤ c) && decide (c ≤ hi)
theorem sg_cases (hb : TXb tx n) (p : Nat) : (p < n ∧ sgX tx n p = nI (tx p) ∧ sN tx n p = tx p ∧ tx p < 256) ∨ (n ≤ p ∧ sgX tx n p = -1 ∧ sN tx n p = 256) := by
  unfold sgX sN
  by_cases h : p < n
  · rw [if_pos h, if_pos h]; exact Or.inl ⟨h, rfl, rfl, hb.2 p h⟩
  · rw [if_neg h, if_neg h]; exact Or.inr ⟨by omega, rfl, rfl⟩
theorem sg_eq (hb : TXb tx n) (p : Nat) {k : Nat} (hk : k < 256) : (sgX tx n p = (OfNat.ofNat k : Int32)) ↔ sN tx n p = k := by
  rcases sg_cases hb p with ⟨-, e, e2, h⟩ | ⟨-, e, e2⟩
  · rw [e, e2]; exact nI_eq (by omega) (by omega)
  · rw [e, e2]
    refine ⟨fun z => absurd z.symm (nI_m1 (show k < 2 ^ 31 by omega)), fun z => by omega⟩
theorem sg_dg (hb : TXb tx n) (p : Nat) {lo hi : Nat} (hh : hi < 256) : (decide ((OfNat.ofNat lo : Int32) ≤ sgX tx n p) && decide (sgX tx n p ≤ (OfNat.ofNat hi : Int32))) = dg lo hi (sN tx n p) ∨ 256 ≤ lo := by
  by_cases hl : 256 ≤ lo
  · exact Or.inr hl
  · left
    unfold dg
    rcases sg_cases hb p with ⟨-, e, e2, h⟩ | ⟨-, e, e2⟩
    · rw [e, e2]
      rw [decide_eq_decide.mpr (leR lo (show tx p < 2 ^ 31 by omega) (by omega)), decide_eq_decide.mpr (leL hi (show tx p < 2 ^ 31 by omega) (by omega))]
    · rw [e, e2, decide_eq_false (show ¬ 256 ≤ hi by omega), Bool.and_false]
      have : ¬ (OfNat.ofNat lo : Int32) ≤ -1 := by
        rw [ti_le]
        show ¬ (nI lo).toInt ≤ -1
        rw [nI_toInt (by omega)]
        omega
      rw [decide_eq_false this, Bool.false_and]
theorem sg_in (hb : TXb tx n) (p : Nat) {lo hi : Nat} (hl : lo < 256) (hh : hi < 256) : (decide ((OfNat.ofNat lo : Int32) ≤ sgX tx n p) && decide (sgX tx n p ≤ (OfNat.ofNat hi : Int32))) = dg lo hi (sN tx n p) := (sg_dg hb p hh).resolve_right (by omega)
theorem dg_yes (hb : TXb tx n) {lo hi : Nat} (hh : hi < 256) (h : dg lo hi (sN tx n p) = true) : p < n ∧ sgX tx n p = nI (sN tx n p) ∧ lo ≤ sN tx n p ∧ sN tx n p ≤ hi := by
  unfold dg at h
  simp only [Bool.and_eq_true, decide_eq_true_eq] at h
  rcases sg_cases hb p with ⟨a, e, e2, -⟩ | ⟨-, e, e2⟩
  · rw [e2] at h ⊢
    exact ⟨a, e, h.1, h.2⟩
  · rw [e2] at h
    omega
/-- an if over both ends of a range -/
theorem dg_ite {T : Type} (hb : TXb tx n) (p : Nat) {lo hi : Nat} (hl : lo < 256) (hh : hi < 256) (a b : T) : (if sgX tx n p < (OfNat.ofNat lo : Int32) then b else if sgX tx n p ≤ (OfNat.ofNat hi : Int32) then a else b) = if dg lo hi (sN tx n p) = true then a else b := by
  rw [← sg_in hb p hl hh]
  by_cases h1 : sgX tx n p < (OfNat.ofNat lo : Int32)
  · rw [if_pos h1, decide_eq_false (ne_of_lt32 h1), if_neg (by simp)]
  · rw [if_neg h1, decide_eq_true (Int32.not_lt.mp h1), Bool.true_and]
    by_cases h2 : sgX tx n p ≤ (OfNat.ofNat hi : Int32)
    · rw [if_pos h2, decide_eq_true h2, if_pos rfl]
    · rw [if_neg h2, decide_eq_false h2, if_neg (by decide)]
/-! the class's reader of lists: object 124 -/
def TXC (tx : Nat → Nat) (n : Nat) (σ : MH) : Prop := ∀ j, j < n → σ.1 110 j = nI (tx j)
def TXM (tx : Nat → Nat) (n : Nat) (σ : MH) : Prop := ∀ j, j < n → (σ.1 170 j) &&& 255 = nI (tx j)
theorem c_sign2 (hb : TXb tx n) (hT : TXC tx n σ) (h1 : σ.1 124 1 = nI n) (h2 : σ.1 124 2 = nI p) (hp : p < 300) : Reader_sign_2 σ = some (sgX tx n p) := by
  have hn := hb.1
  unfold Reader_sign_2 Reader_sign_20 sgX
  rw [h1, h2, if_neg (nI_pos (by omega))]
  by_cases h : p < n
  · obtain ⟨f1, f2, f3, f4⟩ := ix3 260 (show p < 260 by omega)
    rw [if_neg (by rw [nI_leI (by omega) (by omega)]; omega), if_neg f1, if_pos f2, f3, hT p h, if_pos h]
  · rw [if_pos (by rw [nI_leI (by omega) (by omega)]; omega), if_neg h]
theorem m_here (hb : TXb tx n) (hT : TXM tx n σ) (h1 : σ.1 166 6 = nI n) (h2 : σ.1 166 5 = nI p) (hp : p < 300) : Md_here σ = some (sgX tx n p) := by
  have hn := hb.1
  unfold Md_here Md_here0 sgX
  rw [h1, h2]
  by_cases h : p < n
  · obtain ⟨f1, f2, f3, f4⟩ := ix3 260 (show p < 260 by omega)
    rw [if_neg (by rw [nI_leI (by omega) (by omega)]; omega), if_pos f2, f3, hT p h, if_pos h]
  · rw [if_pos (by rw [nI_leI (by omega) (by omega)]; omega), if_neg h]
def flt (k p : Nat) : Int32 := (-1000 * nI k) - nI p
theorem c_failAt2 (k p : Nat) : Reader_failAt_2 (nI k) (nI p) σ = some (0, sI σ 124 3 (flt k p)) := rfl
theorem c_fail2 (k : Nat) (h2 : σ.1 124 2 = nI p) : Reader_fail_2 (nI k) σ = some (0, sI σ 124 3 (flt k p)) := by
  unfold Reader_fail_2 Reader_fail_20
  rw [h2, c_failAt2]
  rfl
theorem m_wrongAt (k p : Nat) : Md_wrongAt (nI k) (nI p) σ = some (0, sI σ 166 7 (flt k p)) := rfl
/-! one part of an edge -/
def q1 (tx : Nat → Nat) (n p : Nat) : Nat := if sN tx n p = 45 then p + 1 else p
def valS (tx : Nat → Nat) (n p : Nat) : Int32 := if sN tx n p = 45 then 48 - nI (sN tx n (q1 tx n p)) else nI (sN tx n (q1 tx n p)) - 48
def upV (f t : Nat) (v : Nat → Int32) (val : Int32) : Nat → Int32 := fun j => if f ≤ j ∧ j < f + t then val else v j
abbrev PrS : Type := Int32 ⊕ (Nat × Nat × (Nat → Int32))
def finS (p f : Nat) (v : Nat → Int32) (val : Int32) (t p3 : Nat) : PrS := if f + t ≤ 8 then .inr (p3, f + t, upV f t v val) else .inl (flt 6 p)
def parS (tx : Nat → Nat) (n p f : Nat) (v : Nat → Int32) : PrS :=
  if dg (if sN tx n p = 45 then 49 else 48) 57 (sN tx n (q1 tx n p)) = true then
    (if sN tx n (q1 tx n p + 1) = 42 then
      (if dg 50 56 (sN tx n (q1 tx n p + 2)) = true then finS p f v (valS tx n p) (sN tx n (q1 tx n p + 2) - 48) (q1 tx n p + 3) else .inl (flt 1 (q1 tx n p + 2)))
    else finS p f v (valS tx n p) 1 (q1 tx n p + 1))
  else .inl (flt 1 (q1 tx n p))
def contS (go : Nat → Nat → (Nat → Int32) → Int32 ⊕ (Nat → Int32)) (tx : Nat → Nat) (n : Nat) (p f : Nat) (v : Nat → Int32) : Int32 ⊕ (Nat → Int32) :=
  if n ≤ p then (if f = 8 then .inr v else .inl (flt 1 p)) else if sN tx n p = 44 then go (p + 1) f v else .inl (flt 1 p)
def edgeS (tx : Nat → Nat) (n : Nat) : Nat → Nat → Nat → (Nat → Int32) → Int32 ⊕ (Nat → Int32)
  | 0, p, _, _ => .inl (flt 1 p)
  | k + 1, p, f, v => match parS tx n p f v with
    | .inl e => .inl e
    | .inr q => contS (edgeS tx n k) tx n q.1 q.2.1 q.2.2
def v9 (f : Nat) (v : Nat → Int32) : Prop := ∀ j, j < f → -9 ≤ v j ∧ v j ≤ 9
theorem q1_le : q1 tx n p ≤ p + 1 ∧ p ≤ q1 tx n p := by unfold q1; split <;> omega
theorem val9 (h : dg (if sN tx n p = 45 then 49 else 48) 57 (sN tx n (q1 tx n p)) = true) : -9 ≤ valS tx n p ∧ valS tx n p ≤ 9 := by
  unfold dg at h
  simp only [Bool.and_eq_true, decide_eq_true_eq] at h
  unfold valS
  have h48 : 48 ≤ sN tx n (q1 tx n p) := by
    have := h.1
    split at this <;> omega
  obtain ⟨m, hm⟩ : ∃ m, sN tx n (q1 tx n p) = 48 + m := ⟨sN tx n (q1 tx n p) - 48, by omega⟩
  rw [hm] at h ⊢
  have hd : ∀ m, m < 10 → (-9 ≤ 48 - nI (48 + m) ∧ 48 - nI (48 + m) ≤ 9) ∧ (-9 ≤ nI (48 + m) - 48 ∧ nI (48 + m) - 48 ≤ 9) := by decide +kernel
  have := hd m (by omega)
  split
  · exact this.1
  · exact this.2
theorem par_ok (hb : TXb tx n) {p' f' : Nat} {v' : Nat → Int32} (h : parS tx n p f v = .inr (p', f', v')) (hv : v9 f v) : p < p' ∧ p' ≤ n ∧ f' ≤ 8 ∧ v9 f' v' := by
  unfold parS at h
  have hq := q1_le (tx := tx) (n := n) (p := p)
  by_cases h1 : dg (if sN tx n p = 45 then 49 else 48) 57 (sN tx n (q1 tx n p)) = true
  · rw [if_pos h1] at h
    have d1 := dg_yes hb (by decide) h1
    have d2 := val9 h1
    have fin : ∀ t p3, finS p f v (valS tx n p) t p3 = .inr (p', f', v') → p' = p3 ∧ f' ≤ 8 ∧ v9 f' v' := fun t p3 e => by
      unfold finS at e
      split at e
      · rename_i ht
        cases e
        refine ⟨rfl, ht, fun j hj => ?_⟩
        unfold upV
        split
        · exact d2
        · exact hv j (by omega)
      · cases e
    by_cases h2 : sN tx n (q1 tx n p + 1) = 42
    · rw [if_pos h2] at h
      by_cases h3 : dg 50 56 (sN tx n (q1 tx n p + 2)) = true
      · rw [if_pos h3] at h
        have d3 := dg_yes hb (by decide) h3
        obtain ⟨a, b, c⟩ := fin _ _ h
        exact ⟨by omega, by omega, b, c⟩
      · rw [if_neg h3] at h
        cases h
    · rw [if_neg h2] at h
      obtain ⟨a, b, c⟩ := fin _ _ h
      exact ⟨by omega, by omega, b, c⟩
  · rw [if_neg h1] at h
    cases h
/-! the class -/
def ER (n p f : Nat) (v : Nat → Int32) (σ : MH) : Prop := σ.1 124 1 = nI n ∧ σ.1 124 2 = nI p ∧ σ.1 124 5 = nI f ∧ ∀ j, j < f → σ.1 125 j = v j
def PE (b _k : Nat) : Prop := b = 124 ∨ b = 125
theorem TXC_of {σ' : MH} (h : TXC tx n σ) (hf : Fx PE σ σ') : TXC tx n σ' := fun j hj => (hf 110 j (by unfold PE; omega)).trans (h j hj)
theorem c_readHeight (hb : TXb tx n) (hT : TXC tx n σ) (hp : p ≤ n) (hE : ER n p f v σ) : ∃ σ', ListReader_readHeight σ = some (bI (dg (if sN tx n p = 45 then 49 else 48) 57 (sN tx n (q1 tx n p))), σ') ∧ Fx PE σ σ' ∧ (dg (if sN tx n p = 45 then 49 else 48) 57 (sN tx n (q1 tx n p)) = false → σ'.1 124 3 = flt 1 (q1 tx n p)) ∧ (dg (if sN tx n p = 45 then 49 else 48) 57 (sN tx n (q1 tx n p)) = true → ER n (q1 tx n p + 1) f v σ' ∧ σ'.1 124 6 = valS tx n p) := by
  obtain ⟨e1, e2, e5, ev⟩ := hE
  have hn := hb.1
  have hq := q1_le (tx := tx) (n := n) (p := p)
  -- after a sign below
  have key : ∀ τ : MH, ∀ w : Int32, Fx PE σ τ → ER n (q1 tx n p) f v τ → (w = if sN tx n p = 45 then 1 else 0) → ∃ σ', ListReader_readHeight_b29 w τ = some (bI (dg (if sN tx n p = 45 then 49 else 48) 57 (sN tx n (q1 tx n p))), σ') ∧ Fx PE σ σ' ∧ (dg (if sN tx n p = 45 then 49 else 48) 57 (sN tx n (q1 tx n p)) = false → σ'.1 124 3 = flt 1 (q1 tx n p)) ∧ (dg (if sN tx n p = 45 then 49 else 48) 57 (sN tx n (q1 tx n p)) = true → ER n (q1 tx n p + 1) f v σ' ∧ σ'.1 124 6 = valS tx n p) := by
    intro τ w hf hE' hw
    obtain ⟨g1, g2, g5, gv⟩ := hE'
    have hs := c_sign2 (p := q1 tx n p) hb (TXC_of hT hf) g1 g2 (by omega)
    have fail : ∃ σ', ListReader_readHeight_b55 τ = some (0, σ') ∧ Fx PE σ σ' ∧ σ'.1 124 3 = flt 1 (q1 tx n p) := by
      refine ⟨sI τ 124 3 (flt 1 (q1 tx n p)), ?_, hf.tr (Fx_sI (Or.inl rfl)), sI_same⟩
      unfold ListReader_readHeight_b55
      rw [show (1 : Int32) = nI 1 from rfl, c_fail2 1 g2]
      rfl
    have go : ∀ x : Int32, ∃ σ', ListReader_readHeight_b77 x τ = some (1, σ') ∧ Fx PE σ σ' ∧ ER n (q1 tx n p + 1) f v σ' ∧ σ'.1 124 6 = x := fun x => by
      refine ⟨sI (sI τ 124 6 x) 124 2 (nI (q1 tx n p + 1)), ?_, (hf.tr (Fx_sI (Or.inl rfl))).tr (Fx_sI (Or.inl rfl)), ⟨?_, sI_same, ?_, fun j hj => ?_⟩, ?_⟩
      · unfold ListReader_readHeight_b77
        rw [sI_fld (by decide), g2, show nI (q1 tx n p) + 1 = nI (q1 tx n p + 1) from nI_1 _]
      · rw [sI_fld (by decide), sI_fld (by decide)]; exact g1
      · rw [sI_fld (by decide), sI_fld (by decide)]; exact g5
      · rw [sI_obj (by decide), sI_obj (by decide)]; exact gv j hj
      · rw [sI_fld (by decide), sI_same]
    have all : ∀ lo, lo < 256 → ∀ x : Int32, (x = if w = 0 then sgX tx n (q1 tx n p) - 48 else 48 - sgX tx n (q1 tx n p)) → ListReader_readHeight_b46 w (sgX tx n (q1 tx n p)) (OfNat.ofNat lo) (sgX tx n (q1 tx n p)) τ = if dg lo 57 (sN tx n (q1 tx n p)) = true then ListReader_readHeight_b77 x τ else ListReader_readHeight_b55 τ := fun lo hlo x hx => by
      unfold ListReader_readHeight_b46
      rw [← dg_ite hb (q1 tx n p) hlo (show 57 < 256 by decide)]
      rw [hx]
      by_cases c : w = 0
      · rw [if_pos c, if_pos c]
      · rw [if_neg c, if_neg c]
    unfold ListReader_readHeight_b29
    rw [hs, Option.bind_some]
    by_cases hs45 : sN tx n p = 45
    · rw [if_pos hs45] at hw ⊢
      rw [hw, if_neg (show ¬ (1 : Int32) = 0 by decide), ← hw, show (49 : Int32) = (OfNat.ofNat 49 : Int32) from rfl, all 49 (by decide) _ rfl, hw, if_neg (show ¬ (1 : Int32) = 0 by decide)]
      cases hd : dg 49 57 (sN tx n (q1 tx n p))
      · rw [if_neg (by decide)]
        obtain ⟨σ', a, b, c⟩ := fail
        exact ⟨σ', a, b, fun _ => c, fun z => by cases z⟩
      · rw [if_pos rfl]
        obtain ⟨σ', a, b, c, d⟩ := go (48 - sgX tx n (q1 tx n p))
        have hy := dg_yes hb (by decide) hd
        refine ⟨σ', a, b, fun z => (by cases z), fun _ => ⟨c, ?_⟩⟩
        rw [d, hy.2.1]
        unfold valS
        rw [if_pos hs45]
    · rw [if_neg hs45] at hw ⊢
      rw [hw, if_pos rfl, ← hw, show (48 : Int32) = (OfNat.ofNat 48 : Int32) from rfl, all 48 (by decide) _ rfl, hw, if_pos rfl]
      cases hd : dg 48 57 (sN tx n (q1 tx n p))
      · rw [if_neg (by decide)]
        obtain ⟨σ', a, b, c⟩ := fail
        exact ⟨σ', a, b, fun _ => c, fun z => by cases z⟩
      · rw [if_pos rfl]
        obtain ⟨σ', a, b, c, d⟩ := go (sgX tx n (q1 tx n p) - 48)
        have hy := dg_yes hb (by decide) hd
        refine ⟨σ', a, b, fun z => (by cases z), fun _ => ⟨c, ?_⟩⟩
        rw [d, hy.2.1]
        unfold valS
        rw [if_neg hs45]
  have wrap : ∀ w τ, Fx PE σ τ → ER n (q1 tx n p) f v τ → (w = if sN tx n p = 45 then 1 else 0) → ListReader_readHeight0 σ = ListReader_readHeight_b29 w τ → ∃ σ', ListReader_readHeight σ = some (bI (dg (if sN tx n p = 45 then 49 else 48) 57 (sN tx n (q1 tx n p))), σ') ∧ Fx PE σ σ' ∧ (dg (if sN tx n p = 45 then 49 else 48) 57 (sN tx n (q1 tx n p)) = false → σ'.1 124 3 = flt 1 (q1 tx n p)) ∧ (dg (if sN tx n p = 45 then 49 else 48) 57 (sN tx n (q1 tx n p)) = true → ER n (q1 tx n p + 1) f v σ' ∧ σ'.1 124 6 = valS tx n p) := fun w τ hf hE' hw he => by
    obtain ⟨σ', a, b⟩ := key τ w hf hE' hw
    refine ⟨σ', ?_, b⟩
    unfold ListReader_readHeight
    rw [he, a]
    unfold bzo
    rw [Option.bind_some]
    cases dg (if sN tx n p = 45 then 49 else 48) 57 (sN tx n (q1 tx n p)) <;> rfl
  have hs := c_sign2 (p := p) hb hT e1 e2 (by omega)
  by_cases hs45 : sN tx n p = 45
  · have hq1 : q1 tx n p = p + 1 := by unfold q1; rw [if_pos hs45]
    refine wrap 1 (sI σ 124 2 (nI (p + 1))) (Fx_sI (Or.inl rfl)) ⟨?_, ?_, ?_, fun j hj => ?_⟩ (by rw [if_pos hs45]) ?_
    · rw [sI_fld (by decide)]; exact e1
    · rw [sI_same, hq1]
    · rw [sI_fld (by decide)]; exact e5
    · rw [sI_obj (by decide)]; exact ev j hj
    · unfold ListReader_readHeight0 ListReader_readHeight_b14
      rw [hs, Option.bind_some, if_pos ((sg_eq hb p (k := 45) (by decide)).mpr hs45), if_neg (show ¬ (1 : Int32) = 0 by decide), e2, show nI p + 1 = nI (p + 1) from nI_1 _]
  · have hq1 : q1 tx n p = p := by unfold q1; rw [if_neg hs45]
    refine wrap 0 σ Fx.rf ?_ (by rw [if_neg hs45]) ?_
    · rw [hq1]; exact ⟨e1, e2, e5, ev⟩
    · unfold ListReader_readHeight0 ListReader_readHeight_b14
      rw [hs, Option.bind_some, if_neg (fun z => hs45 ((sg_eq hb p (k := 45) (by decide)).mp z)), if_pos rfl]
/-- so many times -/
theorem c_readTimes (hb : TXb tx n) (hT : TXC tx n σ) (hp : p ≤ n) (hE : ER n p f v σ) {most : Nat} (hm : most < 256) : ∃ σ', ListReader_readTimes (OfNat.ofNat most) σ = some (bI (if sN tx n p = 42 then dg 50 most (sN tx n (p + 1)) else true), σ') ∧ Fx PE σ σ' ∧ σ'.1 124 6 = σ.1 124 6 ∧ ((if sN tx n p = 42 then dg 50 most (sN tx n (p + 1)) else true) = false → σ'.1 124 3 = flt 1 (p + 1)) ∧ ((if sN tx n p = 42 then dg 50 most (sN tx n (p + 1)) else true) = true → ER n (if sN tx n p = 42 then p + 2 else p) f v σ' ∧ σ'.1 124 7 = nI (if sN tx n p = 42 then sN tx n (p + 1) - 48 else 1)) := by
  obtain ⟨e1, e2, e5, ev⟩ := hE
  have hn := hb.1
  have F1 : Fx PE σ (sI σ 124 7 1) := Fx_sI (Or.inl rfl)
  have hs := c_sign2 (σ := sI σ 124 7 1) (p := p) hb (TXC_of hT F1) (by rw [sI_fld (by decide)]; exact e1) (by rw [sI_fld (by decide)]; exact e2) (by omega)
  unfold ListReader_readTimes ListReader_readTimes0 ListReader_readTimes_b42
  rw [hs, Option.bind_some]
  by_cases h42 : sN tx n p = 42
  · have E2 : (sI σ 124 7 1).1 124 2 + 1 = nI (p + 1) := by rw [sI_fld (by decide), e2]; exact nI_1 _
    have F2 : Fx PE σ (sI (sI σ 124 7 1) 124 2 (nI (p + 1))) := F1.tr (Fx_sI (Or.inl rfl))
    have hs2 := c_sign2 (σ := sI (sI σ 124 7 1) 124 2 (nI (p + 1))) (p := p + 1) hb (TXC_of hT F2) (by rw [sI_fld (by decide), sI_fld (by decide)]; exact e1) sI_same (by omega)
    rw [if_pos ((sg_eq hb p (k := 42) (by decide)).mpr h42), E2, hs2, Option.bind_some, if_pos h42, if_pos h42, if_pos h42]
    rw [dg_ite hb (p + 1) (show 50 < 256 by decide) hm]
    cases hd : dg 50 most (sN tx n (p + 1))
    · rw [if_neg (by decide), show (1 : Int32) = nI 1 from rfl, c_fail2 (p := p + 1) 1 sI_same]
      refine ⟨_, rfl, F2.tr (Fx_sI (Or.inl rfl)), ?_, fun _ => sI_same, fun z => by cases z⟩
      rw [sI_fld (by decide), sI_fld (by decide), sI_fld (by decide)]
    · have hy := dg_yes hb hm hd
      rw [if_pos rfl, sI_fld (by decide), sI_same, show nI (p + 1) + 1 = nI (p + 2) from nI_1 _, hy.2.1, subL 48 (by omega)]
      refine ⟨_, rfl, (F2.tr (Fx_sI (Or.inl rfl))).tr (Fx_sI (Or.inl rfl)), ?_, fun z => (by cases z), fun _ => ⟨⟨?_, ?_, ?_, fun j hj => ?_⟩, ?_⟩⟩
      · rw [sI_fld (by decide), sI_fld (by decide), sI_fld (by decide), sI_fld (by decide)]
      · rw [sI_fld (by decide), sI_fld (by decide), sI_fld (by decide), sI_fld (by decide)]; exact e1
      · exact sI_same
      · rw [sI_fld (by decide), sI_fld (by decide), sI_fld (by decide), sI_fld (by decide)]; exact e5
      · rw [sI_obj (by decide), sI_obj (by decide), sI_obj (by decide), sI_obj (by decide)]; exact ev j hj
      · rw [sI_fld (by decide), sI_same]
  · rw [if_neg (fun z => h42 ((sg_eq hb p (k := 42) (by decide)).mp z)), if_neg h42, if_neg h42, if_neg h42]
    refine ⟨_, rfl, F1, ?_, fun z => (by cases z), fun _ => ⟨⟨?_, ?_, ?_, fun j hj => ?_⟩, sI_same⟩⟩
    · rw [sI_fld (by decide)]
    · rw [sI_fld (by decide)]; exact e1
    · rw [sI_fld (by decide)]; exact e2
    · rw [sI_fld (by decide)]; exact e5
    · rw [sI_obj (by decide)]; exact ev j hj
theorem c_put {t : Nat} {val : Int32} (hE : ER n p f v σ) (h7 : σ.1 124 7 = nI t) (h6 : σ.1 124 6 = val) (hft : f + t ≤ 144) : ∃ σ', ListReader_put σ = some σ' ∧ Fx PE σ σ' ∧ ER n p (f + t) (upV f t v val) σ' := by
  obtain ⟨e1, e2, e5, ev⟩ := hE
  obtain ⟨r, e, pr, g⟩ : ∃ r, ListReader_put_L2 (0, σ) = some r ∧ Fx PE σ r ∧ ER n p (f + t) (upV f t v val) r := by
    refine itr_n t (fun (k : Nat) (z : Int32 × MH) => z.1 = nI k ∧ Fx PE σ z.2 ∧ z.2.1 124 6 = val ∧ z.2.1 124 7 = nI t ∧ ER n p (f + k) (upV f k v val) z.2) _ ⟨rfl, Fx.rf, h6, h7, e1, e2, e5, fun j hj => ?_⟩ (fun k z hk hz => ?_) (fun z hz => ?_) (by show t < 1000000; omega)
    · unfold upV
      rw [if_neg (by omega)]
      exact ev j (by omega)
    · obtain ⟨z1, z2⟩ := z
      obtain ⟨rfl, hf, k6, k7, g1, g2, g5, gv⟩ := hz
      dsimp only at hf k6 k7 g1 g2 g5 gv
      obtain ⟨f1, f2, f3, f4⟩ := ix3 144 (show f + k < 144 by omega)
      refine Or.inl ⟨(nI (k + 1), sI (sI z2 125 (f + k) val) 124 5 (nI (f + (k + 1)))), ?_, rfl, (hf.tr (Fx_sI (Or.inr rfl))).tr (Fx_sI (Or.inl rfl)), ?_, ?_, ?_, ?_, sI_same, fun j hj => ?_⟩
      · show ListReader_put_l2 (nI k) z2 = _
        unfold ListReader_put_l2 ListReader_put_b50
        rw [k7, if_neg (by rw [nI_leI (by omega) (by omega)]; omega), g5, if_neg f4, if_neg f1, if_pos f2, f3, k6, sI_obj (by decide), g5, show nI (f + k) + 1 = nI (f + (k + 1)) from nI_1 _, show nI k + 1 = nI (k + 1) from nI_1 _]
      · rw [sI_fld (by decide), sI_obj (by decide)]; exact k6
      · rw [sI_fld (by decide), sI_obj (by decide)]; exact k7
      · rw [sI_fld (by decide), sI_obj (by decide)]; exact g1
      · rw [sI_fld (by decide), sI_obj (by decide)]; exact g2
      · rw [sI_obj (by decide), sI_at]
        unfold upV
        by_cases c : j = f + k
        · rw [if_pos ⟨rfl, c⟩, if_pos (by omega)]
        · rw [if_neg (fun z => c z.2)]
          have := gv j (by omega)
          unfold upV at this
          rw [this]
          by_cases d : f ≤ j ∧ j < f + k
          · rw [if_pos d, if_pos (by omega)]
          · rw [if_neg d, if_neg (by omega)]
    · obtain ⟨z1, z2⟩ := z
      obtain ⟨rfl, hf, k6, k7, hz⟩ := hz
      refine ⟨z2, ?_, hf, hz⟩
      show ListReader_put_l2 (nI t) z2 = _
      unfold ListReader_put_l2
      rw [show z2.1 124 7 = nI t from k7, if_pos (Int32.le_refl _)]
  refine ⟨r, ?_, pr, g⟩
  unfold ListReader_put ListReader_put0
  rw [e]
  rfl
end RDR
