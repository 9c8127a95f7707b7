/-! THE REFERENCE'S SMALL METHODS: what they answer, by the row now (object 167) -/
theorem lit_nI (n : Nat) : (OfNat.ofNat n : Int32) = nI n := rfl
theorem m_isTwelve {k : Nat} (h : k < 12) (σ : MH) : Md_isTwelve (nI k) σ = some 1 := by
  have h1 : ¬ nI k < 0 := nI_pos (by omega)
  have h2 : ¬ (12 : Int32) ≤ nI k := nI_ge (a := k) (b := 12) h (by decide)
  unfold Md_isTwelve Md_isTwelve0
  rw [if_neg h1, if_neg h2]
  rfl
theorem m_isTwelveF {x : Int32} (h : x < 0 ∨ 12 ≤ x) (σ : MH) : Md_isTwelve x σ = some 0 := by
  unfold Md_isTwelve Md_isTwelve0
  rcases h with h | h
  · rw [if_pos h]; rfl
  · by_cases h0 : x < 0
    · rw [if_pos h0]; rfl
    · rw [if_neg h0, if_pos h]; rfl
def bI (b : Bool) : Int32 := if b = true then 1 else 0
theorem bI_t : bI true = 1 := rfl
theorem bI_f : bI false = 0 := rfl
theorem m_has (s : Int32) (k : Nat) (σ : MH) : Md_has s (nI k) σ = some (bI (bt s k)) := by
  unfold Md_has Md_has0 bt
  by_cases h : jshr s (nI k) &&& 1 = 1
  · rw [if_pos h, decide_eq_true h]; rfl
  · rw [if_neg h, decide_eq_false h]; rfl
/-- told, living, free, by the row -/
def toldR (A : Nat → Int32) (i : Nat) : Bool := bt (A 108) i
def liveR (A : Nat → Int32) (i : Nat) : Bool := bt (A 108) i && bt (A 109) i
def freeR (A : Nat → Int32) (i : Nat) : Bool := liveR A i && decide (A (24 + i) = (-2 : Int32))
theorem m_isPerson {k : Nat} (h : k < 12) (σ : MH) : Md_isPerson (nI k) σ = some (bI (toldR (σ.1 167) k)) := by
  unfold Md_isPerson Md_isPerson0 toldR
  rw [m_isTwelve h, Option.bind_some, if_neg (by decide), m_has, Option.bind_some]
  cases bt (σ.1 167 108) k <;> rfl
theorem m_isPersonF {x : Int32} (h : x < 0 ∨ 12 ≤ x) (σ : MH) : Md_isPerson x σ = some 0 := by
  unfold Md_isPerson Md_isPerson0
  rw [m_isTwelveF h, Option.bind_some, if_pos rfl]
  rfl
theorem m_lives {k : Nat} (h : k < 12) (σ : MH) : Md_lives (nI k) σ = some (bI (liveR (σ.1 167) k)) := by
  unfold Md_lives Md_lives0 liveR
  rw [m_isPerson h, Option.bind_some, m_has]
  unfold toldR
  cases bt (σ.1 167 108) k <;> cases bt (σ.1 167 109) k <;> rfl
theorem m_livesF {x : Int32} (h : x < 0 ∨ 12 ≤ x) (σ : MH) : Md_lives x σ = some 0 := by
  unfold Md_lives Md_lives0
  rw [m_isPersonF h, Option.bind_some, if_pos rfl]
  rfl
theorem ix_add {c k n : Nat} (h : c + k < n) (hn : n < 2 ^ 31) : inb (nI c + nI k) n = true ∧ (nI c + nI k).toNatClampNeg = c + k := by
  rw [nI_add]
  exact ⟨inb_nI h hn, nI_clamp (by omega)⟩
theorem m_isFree {k : Nat} (h : k < 12) (σ : MH) : Md_isFree (nI k) σ = some (bI (freeR (σ.1 167) k)) := by
  unfold Md_isFree Md_isFree0 freeR
  rw [m_lives h, Option.bind_some]
  cases hl : liveR (σ.1 167) k
  · rfl
  · rw [bI_t, if_neg (by decide), lit_nI 24, if_pos (ix_add (by omega) (by decide)).1, (ix_add (c := 24) (k := k) (n := 1936) (by omega) (by decide)).2]
    by_cases hw : σ.1 167 (24 + k) = (-2 : Int32)
    · rw [if_pos hw, decide_eq_true hw]; rfl
    · rw [if_neg hw, decide_eq_false hw]; rfl
theorem m_isFreeF {x : Int32} (h : x < 0 ∨ 12 ≤ x) (σ : MH) : Md_isFree x σ = some 0 := by
  unfold Md_isFree Md_isFree0
  rw [m_livesF h, Option.bind_some, if_pos rfl]
  rfl
theorem m_size (x : Int32) (σ : MH) : Md_size x σ = some (jabs x) := by
  unfold Md_size Md_size0 jabs
  by_cases h : 0 ≤ x
  · rw [if_pos h, if_pos h]
  · rw [if_neg h, if_neg h, Int32.zero_sub]
theorem m_max (x y : Int32) (σ : MH) : Md_max x y σ = some (jmax x y) := by
  unfold Md_max Md_max0 jmax
  by_cases h : x < y
  · rw [if_pos h, if_pos (Int32.le_of_lt h)]
  · by_cases h2 : x ≤ y
    · rw [if_pos h2, if_neg h]
      exact congrArg some (Int32.le_antisymm (Int32.not_lt.mp h) h2)
    · rw [if_neg h2, if_neg h]
theorem m_min (x y : Int32) (σ : MH) : Md_min x y σ = some (jmin x y) := by
  unfold Md_min Md_min0 jmin
  by_cases h : y < x
  · rw [if_pos h, if_pos (Int32.le_of_lt h)]
  · by_cases h2 : y ≤ x
    · rw [if_pos h2, if_neg h]
      exact congrArg some (Int32.le_antisymm h2 (Int32.not_lt.mp h))
    · rw [if_neg h2, if_neg h]
def hgR (A : Nat → Int32) (k h : Nat) : Int32 := A (112 + 8 * k + h)
theorem m_heightOf {k h : Nat} (hk : k < 12) (hh : h < 8) (σ : MH) : Md_heightOf (nI k) (nI h) σ = some (hgR (σ.1 167) k h) := by
  unfold Md_heightOf Md_heightOf0 hgR
  rw [lit_nI 112, lit_nI 8, pk_mul, nI_add, if_pos (ix_add (by omega) (by decide)).1, (ix_add (c := 112 + 8 * k) (k := h) (n := 1936) (by omega) (by decide)).2]
/-- the gap of two rows of heights -/
def gapR (f g : Nat → Int32) : Int32 := fo (fun h s => s + jabs (f h + g (7 - h))) 8 0
def slkR (A : Nat → Int32) (k q : Nat) : Int32 := jmax 0 (gapR (hgR A k) (hgR A q) - A (72 + k) - A (72 + q))
theorem m_slackOf {k q : Nat} (hk : k < 12) (hq : q < 12) (σ : MH) : Md_slackOf (nI k) (nI q) σ = some (slkR (σ.1 167) k q) := by
  have hl : Md_slackOf_L5 (nI k) (nI q) σ ((0 : Int32), (0 : Int32)) = some (gapR (hgR (σ.1 167) k) (hgR (σ.1 167) q)) := by
    refine (itr_fo (f := fun s : Int32 × Int32 => Md_slackOf_l5 (nI k) (nI q) s.1 s.2 σ) (mk := fun h s => (s, nI h)) (g := fun h s => s + jabs (hgR (σ.1 167) k h + hgR (σ.1 167) q (7 - h))) (fin := fun s => s) (P := fun _ _ => True) (N := 8) (m := FU) (s0 := (0 : Int32)) trivial (fun h s hh _ => ⟨?_, trivial⟩) (fun s _ => ?_) (by decide)).1
    · show Md_slackOf_l5 (nI k) (nI q) s (nI h) σ = _
      unfold Md_slackOf_l5
      rw [if_neg (show ¬ (8 : Int32) ≤ nI h from nI_ge (a := h) (b := 8) hh (by decide)), m_heightOf hk hh, Option.bind_some, lit_nI 7, pk_sub (by omega), m_heightOf hq (by omega), Option.bind_some, m_size, Option.bind_some, lit_nI 1, nI_add]
    · show Md_slackOf_l5 (nI k) (nI q) s (nI 8) σ = _
      unfold Md_slackOf_l5
      rw [if_pos (by decide)]
  unfold Md_slackOf Md_slackOf0
  rw [hl, Option.bind_some, lit_nI 72, if_pos (ix_add (by omega) (by decide)).1, if_pos (ix_add (by omega) (by decide)).1, (ix_add (c := 72) (k := k) (n := 1936) (by omega) (by decide)).2, (ix_add (c := 72) (k := q) (n := 1936) (by omega) (by decide)).2, m_max]
  rfl
