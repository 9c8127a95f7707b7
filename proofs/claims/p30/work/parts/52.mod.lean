/-! THE REFERENCE'S METHODS: people, pieces, facts -/
/-- another row of ints in an object's place -/
def sR (σ : MH) (a : Nat) (A : Nat → Int32) : MH := (fun b => if b = a then A else σ.1 b, σ.2)
theorem sI_sR (σ : MH) (a i : Nat) (v : Int32) : sI σ a i v = sR σ a (upd (σ.1 a) i v) := by
  unfold sI sR
  refine Prod.ext (funext fun b => ?_) rfl
  by_cases h : b = a
  · subst h; simp
  · simp [h]
theorem sR_at (σ : MH) (a : Nat) (A : Nat → Int32) : (sR σ a A).1 a = A := by simp [sR]
theorem sR_ne (σ : MH) {a b : Nat} (A : Nat → Int32) (h : b ≠ a) : (sR σ a A).1 b = σ.1 b := by simp [sR, h]
theorem sR_sR (σ : MH) (a : Nat) (A B : Nat → Int32) : sR (sR σ a A) a B = sR σ a B := by
  unfold sR
  refine Prod.ext (funext fun b => ?_) rfl
  by_cases h : b = a
  · subst h; simp
  · simp [h]
theorem sR_self (σ : MH) (a : Nat) : sR σ a (σ.1 a) = σ := by
  unfold sR
  refine Prod.ext (funext fun b => ?_) rfl
  by_cases h : b = a
  · subst h; simp
  · simp [h]
theorem Fr.sR {T : List Nat} {σ : MH} {a : Nat} {A : Nat → Int32} (h : a ∈ T) : Fr T σ (sR σ a A) := fun b hb => sR_ne σ A (fun q => hb (q ▸ h))
theorem m_in (v a b : Int32) (σ : MH) : Md_in v a b σ = some (bI (decide (a ≤ v) && decide (v ≤ b))) := by
  unfold Md_in Md_in0
  by_cases h1 : v < a
  · rw [if_pos h1, decide_eq_false (fun q => ne_of_lt32 h1 q)]; rfl
  · rw [if_neg h1, decide_eq_true (Int32.not_lt.mp h1)]
    by_cases h2 : b < v
    · rw [if_pos h2, decide_eq_false (fun q => ne_of_lt32 h2 q)]; rfl
    · rw [if_neg h2, decide_eq_true (Int32.not_lt.mp h2)]; rfl
theorem bI_eq0 {b : Bool} : bI b = (0 : Int32) ↔ b = false := by cases b <;> decide
theorem bz_bI (b : Bool) : bz (bI b) = true := by cases b <;> rfl
theorem bzo_bI {b : Bool} {x : Int32 × MH} (h : x.1 = bI b) : bzo (some x) = some x := by
  unfold bzo
  rw [Option.bind_some, h, if_pos (bz_bI b)]
def sh1 (i : Nat) : Int32 := jshl 1 (nI i)
def personRow (A : Nat → Int32) (i : Nat) (s t : Int32) : Nat → Int32 := upd (upd (upd (upd (upd A 108 (A 108 ||| sh1 i)) 109 (A 109 ||| sh1 i)) i s) (12 + i) t) (48 + i) (sh1 i)
def personOK (A : Nat → Int32) (i : Nat) (s t : Int32) : Bool := !toldR A i && (decide (0 ≤ s) && decide (s ≤ 1)) && (decide (0 ≤ t) && decide (t ≤ 5))
theorem m_person {k : Nat} (hk : k < 12) (s t : Int32) (σ : MH) : Md_person (nI k) s t σ = some (bI (personOK (σ.1 167) k s t), if personOK (σ.1 167) k s t = true then sR σ 167 (personRow (σ.1 167) k s t) else σ) := by
  unfold Md_person Md_person0 personOK
  rw [m_isTwelve hk, Option.bind_some, if_neg (by decide), m_isPerson hk, Option.bind_some]
  cases h1 : toldR (σ.1 167) k
  · rw [bI_f, if_pos rfl, m_in, Option.bind_some]
    cases h2 : (decide (0 ≤ s) && decide (s ≤ 1))
    · rfl
    · rw [bI_t, if_neg (by decide), m_in, Option.bind_some]
      cases h3 : (decide (0 ≤ t) && decide (t ≤ 5))
      · rfl
      · rw [bI_t, if_neg (by decide), lit_nI 0, lit_nI 12, lit_nI 48, if_pos (ix_add (by omega) (by decide)).1, if_pos (ix_add (by omega) (by decide)).1, if_pos (ix_add (by omega) (by decide)).1, (ix_add (c := 0) (k := k) (n := 1936) (by omega) (by decide)).2, (ix_add (c := 12) (k := k) (n := 1936) (by omega) (by decide)).2, (ix_add (c := 48) (k := k) (n := 1936) (by omega) (by decide)).2, bzo_bI (b := true) rfl]
        simp only [sI_sR, sR_sR, sR_at, Nat.zero_add]
        rfl
  · rw [bI_t, if_neg (by decide)]
    rfl
theorem m_personF {x : Int32} (h : x < 0 ∨ 12 ≤ x) (s t : Int32) (σ : MH) : Md_person x s t σ = some (0, σ) := by
  unfold Md_person Md_person0
  rw [m_isTwelveF h, Option.bind_some, if_pos rfl]
  rfl
theorem m_wear {k : Nat} (hk : k < 12) (n : Int32) (σ : MH) : Md_wear (nI k) n σ = some (bI (decide (0 ≤ n) && decide (n ≤ 99)), if (decide (0 ≤ n) && decide (n ≤ 99)) = true then sR σ 167 (upd (σ.1 167) (72 + k) n) else σ) := by
  unfold Md_wear Md_wear0
  rw [m_isTwelve hk, Option.bind_some, if_neg (by decide), m_in, Option.bind_some]
  cases h2 : (decide (0 ≤ n) && decide (n ≤ 99))
  · rfl
  · rw [bI_t, if_neg (by decide), lit_nI 72, if_pos (ix_add (by omega) (by decide)).1, (ix_add (c := 72) (k := k) (n := 1936) (by omega) (by decide)).2, bzo_bI (b := true) rfl, sI_sR]
    rfl
theorem m_wearF {x : Int32} (h : x < 0 ∨ 12 ≤ x) (n : Int32) (σ : MH) : Md_wear x n σ = some (0, σ) := by
  unfold Md_wear Md_wear0
  rw [m_isTwelveF h, Option.bind_some, if_pos rfl]
  rfl
/-- the number of bits -/
def cntR (s : Int32) : Int32 := fo (fun k n => n + ((jshr s (nI k)) &&& 1)) 12 0
theorem m_bits (s : Int32) (σ : MH) : Md_bits s σ = some (cntR s) := by
  have hl : Md_bits_L4 s σ ((0 : Int32), (0 : Int32)) = some (cntR s) := by
    refine (itr_fo (f := fun q : Int32 × Int32 => Md_bits_l4 s q.1 q.2 σ) (mk := fun h n => (n, nI h)) (g := fun k n => n + ((jshr s (nI k)) &&& 1)) (fin := fun n => n) (P := fun _ _ => True) (N := 12) (m := FU) (s0 := (0 : Int32)) trivial (fun h n hh _ => ⟨?_, trivial⟩) (fun n _ => ?_) (by decide)).1
    · show Md_bits_l4 s n (nI h) σ = _
      unfold Md_bits_l4
      rw [if_neg (show ¬ (12 : Int32) ≤ nI h from nI_ge (a := h) (b := 12) hh (by decide)), lit_nI 1, nI_add]
    · show Md_bits_l4 s n (nI 12) σ = _
      unfold Md_bits_l4
      rw [if_pos (by decide)]
  unfold Md_bits Md_bits0
  rw [hl]
  rfl
/-- the least slack of two that hold pieces: by the row -/
def holdR (A : Nat → Int32) (i k : Nat) : Bool := bt (A (48 + i)) k
def leastR (A : Nat → Int32) (i j : Nat) (F : Int32) : Int32 := fo (fun p l => fo (fun q l => if (holdR A i p && holdR A j q) = true then jmin l (slkR A p q) else l) 12 l) 12 F
def slackF (A : Nat → Int32) (i j : Nat) (F : Int32) : Int32 := if leastR A i j F = F then -1 else leastR A i j F
def slackR (A : Nat → Int32) (i j : Nat) : Int32 := slackF A i j 1000000000
theorem m_slackBy_in {i j : Nat} (hi : i < 12) (hj : j < 12) (σ : MH) : ∀ (p : Nat) (l : Int32), p < 12 → Md_slackBy_L16 (nI i) (nI j) (nI p) σ (l, (0 : Int32)) = some (fo (fun q l => if (holdR (σ.1 167) i p && holdR (σ.1 167) j q) = true then jmin l (slkR (σ.1 167) p q) else l) 12 l) := by
  intro p l hp
  refine (itr_fo (f := fun s : Int32 × Int32 => Md_slackBy_l16 (nI i) (nI j) (nI p) s.1 s.2 σ) (mk := fun q l => (l, nI q)) (g := fun q l => if (holdR (σ.1 167) i p && holdR (σ.1 167) j q) = true then jmin l (slkR (σ.1 167) p q) else l) (fin := fun l => l) (P := fun _ _ => True) (N := 12) (m := FU) (s0 := l) trivial (fun q l hq _ => ⟨?_, trivial⟩) (fun l _ => ?_) (by decide)).1
  · show Md_slackBy_l16 (nI i) (nI j) (nI p) l (nI q) σ = _
    unfold Md_slackBy_l16
    rw [if_neg (show ¬ (12 : Int32) ≤ nI q from nI_ge (a := q) (b := 12) hq (by decide)), lit_nI 48, if_pos (ix_add (by omega) (by decide)).1, (ix_add (c := 48) (k := i) (n := 1936) (by omega) (by decide)).2, m_has, Option.bind_some]
    unfold holdR
    cases bt (σ.1 167 (48 + i)) p
    · rw [bI_f, if_pos rfl]
      unfold Md_slackBy_b70
      rw [lit_nI 1, nI_add]
      simp only [Bool.false_and, Bool.false_eq_true, if_false]
    · rw [bI_t, if_neg (by decide), if_pos (ix_add (by omega) (by decide)).1, (ix_add (c := 48) (k := j) (n := 1936) (by omega) (by decide)).2, m_has, Option.bind_some]
      cases bt (σ.1 167 (48 + j)) q
      · rw [bI_f, if_pos rfl]
        unfold Md_slackBy_b70
        rw [lit_nI 1, nI_add]
        simp only [Bool.and_false, Bool.false_eq_true, if_false]
      · rw [bI_t, if_neg (by decide), m_slackOf hp hq, Option.bind_some, m_min, Option.bind_some]
        unfold Md_slackBy_b70
        rw [lit_nI 1, nI_add]
        simp only [Bool.and_self, if_true]
  · show Md_slackBy_l16 (nI i) (nI j) (nI p) l (nI 12) σ = _
    unfold Md_slackBy_l16
    rw [if_pos (by decide)]
theorem m_slackBy_l {i j : Nat} (hi : i < 12) (hj : j < 12) (σ : MH) : ∀ F : Int32, Md_slackBy_L6 (nI i) (nI j) σ (F, (0 : Int32)) = some (leastR (σ.1 167) i j F) := by
  intro F
  refine (itr_fo (f := fun s : Int32 × Int32 => Md_slackBy_l6 (nI i) (nI j) s.1 s.2 σ) (mk := fun p l => (l, nI p)) (g := fun p l => fo (fun q l => if (holdR (σ.1 167) i p && holdR (σ.1 167) j q) = true then jmin l (slkR (σ.1 167) p q) else l) 12 l) (fin := fun l => l) (P := fun _ _ => True) (N := 12) (m := FU) (s0 := F) trivial (fun p l hp _ => ⟨?_, trivial⟩) (fun l _ => ?_) (by decide)).1
  · show Md_slackBy_l6 (nI i) (nI j) l (nI p) σ = _
    unfold Md_slackBy_l6
    rw [if_neg (show ¬ (12 : Int32) ≤ nI p from nI_ge (a := p) (b := 12) hp (by decide)), m_slackBy_in hi hj σ p l hp, Option.bind_some, lit_nI 1, nI_add]
  · show Md_slackBy_l6 (nI i) (nI j) l (nI 12) σ = _
    unfold Md_slackBy_l6
    rw [if_pos (by decide)]
theorem m_slackBy {i j : Nat} (hi : i < 12) (hj : j < 12) (σ : MH) : Md_slackBy (nI i) (nI j) σ = some (slackR (σ.1 167) i j) := by
  show (Md_slackBy_L6 (nI i) (nI j) σ ((1000000000 : Int32), (0 : Int32))).bind (fun z21 => if z21 = (1000000000 : Int32) then some ((-1 : Int32)) else some (z21)) = some (slackF (σ.1 167) i j 1000000000)
  generalize (1000000000 : Int32) = F
  rw [m_slackBy_l hi hj σ F, Option.bind_some]
  unfold slackF
  by_cases h : leastR (σ.1 167) i j F = F
  · rw [if_pos h, if_pos h]
  · rw [if_neg h, if_neg h]
