/-! WHAT THE CALLS MUST ANSWER: both return; alike where E says so; what stood before the i-th call stands before the next -/
def ST0 (E : Prop) (N : Nat) (Inv : Nat → MH → Prop) : Prop := ∀ i σ, 8 * i + 8 ≤ N → Inv i σ → ∀ a0 a1 a2 : Int32, ∃ (r r' : Int32) (σ1 : MH) (σ2 : MH), Pz_person a0 a1 a2 σ = some (r, σ1) ∧ Md_person a0 a1 a2 σ1 = some (r', σ2) ∧ (E → r = r') ∧ Inv (i + 1) σ2
def ST1 (E : Prop) (N : Nat) (Inv : Nat → MH → Prop) : Prop := ∀ i σ, 8 * i + 8 ≤ N → Inv i σ → ∀ a0 a1 : Int32, ∃ (r r' : Int32) (σ1 : MH) (σ2 : MH), Pz_wear a0 a1 σ = some (r, σ1) ∧ Md_wear a0 a1 σ1 = some (r', σ2) ∧ (E → r = r') ∧ Inv (i + 1) σ2
def ST2 (E : Prop) (N : Nat) (Inv : Nat → MH → Prop) : Prop := ∀ i σ, 8 * i + 8 ≤ N → Inv i σ → ∀ a0 : Int32, ∃ (r r' : Int32) (σ1 : MH) (σ2 : MH), Pz_dies a0 σ = some (r, σ1) ∧ Md_dies a0 σ1 = some (r', σ2) ∧ (E → r = r') ∧ Inv (i + 1) σ2
def ST3 (E : Prop) (N : Nat) (Inv : Nat → MH → Prop) : Prop := ∀ i σ, 8 * i + 8 ≤ N → Inv i σ → ∀ a0 a1 : Int32, ∃ (r r' : Int32) (σ1 : MH) (σ2 : MH), Pz_weds a0 a1 σ = some (r, σ1) ∧ Md_weds a0 a1 σ1 = some (r', σ2) ∧ (E → r = r') ∧ Inv (i + 1) σ2
def ST4 (E : Prop) (N : Nat) (Inv : Nat → MH → Prop) : Prop := ∀ i σ, 8 * i + 8 ≤ N → Inv i σ → ∀ a0 a1 a2 a3 a4 : Int32, ∃ (r r' : Int32) (σ1 : MH) (σ2 : MH), Pz_feed a0 a1 a2 a3 a4 σ = some (r, σ1) ∧ Md_feed a0 a1 a2 a3 a4 σ1 = some (r', σ2) ∧ (E → r = r') ∧ Inv (i + 1) σ2
def ST5 (E : Prop) (N : Nat) (Inv : Nat → MH → Prop) : Prop := ∀ i σ, 8 * i + 8 ≤ N → Inv i σ → ∀ a0 : Int32, ∃ (r r' : Int32) (σ1 : MH) (σ2 : MH), Pz_law a0 σ = some (r, σ1) ∧ Md_law a0 σ1 = some (r', σ2) ∧ (E → r = r') ∧ Inv (i + 1) σ2
def ST6 (E : Prop) (N : Nat) (Inv : Nat → MH → Prop) : Prop := ∀ i σ, 8 * i + 8 ≤ N → Inv i σ → ∀ a0 a1 : Int32, ∃ (r r' : Int32) (σ1 : MH) (σ2 : MH), Pz_edge a0 a1 σ = some (r, σ1) ∧ Md_edge a0 a1 σ1 = some (r', σ2) ∧ (E → r = r') ∧ Inv (i + 1) σ2
def ST7 (E : Prop) (N : Nat) (Inv : Nat → MH → Prop) : Prop := ∀ i σ, 8 * i + 8 ≤ N → Inv i σ → ∀ a0 a1 : Int32, ∃ (r r' : Int32) (σ1 : MH) (σ2 : MH), Pz_journey a0 a1 σ = some (r, σ1) ∧ Md_journey a0 a1 σ1 = some (r', σ2) ∧ (E → r = r') ∧ Inv (i + 1) σ2
def ST8 (E : Prop) (N : Nat) (Inv : Nat → MH → Prop) : Prop := ∀ i σ, 8 * i + 8 ≤ N → Inv i σ → ∀ a0 : Int32, ∃ (r r' : Int32) (σ1 : MH) (σ2 : MH), Pz_days a0 σ = some (r, σ1) ∧ Md_days a0 σ1 = some (r', σ2) ∧ (E → r = r') ∧ Inv (i + 1) σ2
def ST9 (E : Prop) (N : Nat) (Inv : Nat → MH → Prop) : Prop := ∀ i σ, 8 * i + 8 ≤ N → Inv i σ → ∀ a0 a1 : Int32, ∃ (r r' : Int32) (σ1 : MH) (σ2 : MH), Pz_tried a0 a1 σ = some (r, σ1) ∧ Md_tried a0 a1 σ1 = some (r', σ2) ∧ (E → r = r') ∧ Inv (i + 1) σ2
def ST10 (E : Prop) (N : Nat) (Inv : Nat → MH → Prop) : Prop := ∀ i σ, 8 * i + 8 ≤ N → Inv i σ → ∀ a0 a1 : Int32, ∃ (r r' : Int32) (σ1 : MH) (σ2 : MH), Pz_personIs a0 a1 σ = some (r, σ1) ∧ Md_personIs a0 a1 σ1 = some (r', σ2) ∧ (E → r = r') ∧ Inv (i + 1) σ2
def ST11 (E : Prop) (N : Nat) (Inv : Nat → MH → Prop) : Prop := ∀ i σ, 8 * i + 8 ≤ N → Inv i σ → ∀ a0 a1 : Int32, ∃ (r r' : Int32), Pz_piece a0 a1 σ = some r ∧ Md_piece a0 a1 σ = some r' ∧ (E → r = r') ∧ Inv (i + 1) σ
def ST12 (E : Prop) (N : Nat) (Inv : Nat → MH → Prop) : Prop := ∀ i σ, 8 * i + 8 ≤ N → Inv i σ → ∀ a0 a1 a2 : Int32, ∃ (r r' : Int32) (σ1 : MH) (σ2 : MH), Pz_slack a0 a1 a2 σ = some (r, σ1) ∧ Md_slack a0 a1 a2 σ1 = some (r', σ2) ∧ (E → r = r') ∧ Inv (i + 1) σ2
def ST13 (E : Prop) (N : Nat) (Inv : Nat → MH → Prop) : Prop := ∀ i σ, 8 * i + 8 ≤ N → Inv i σ → ∀ a0 : Int32, ∃ (r r' : Int32) (σ1 : MH) (σ2 : MH), Pz_locks a0 σ = some (r, σ1) ∧ Md_locks a0 σ1 = some (r', σ2) ∧ (E → r = r') ∧ Inv (i + 1) σ2
def ST14 (E : Prop) (N : Nat) (Inv : Nat → MH → Prop) : Prop := ∀ i σ, 8 * i + 8 ≤ N → Inv i σ → ∀ a0 : Int32, ∃ (r r' : Int32) (σ1 : MH) (σ2 : MH), Pz_most a0 σ = some (r, σ1) ∧ Md_most a0 σ1 = some (r', σ2) ∧ (E → r = r') ∧ Inv (i + 1) σ2
def ST15 (E : Prop) (N : Nat) (Inv : Nat → MH → Prop) : Prop := ∀ i σ, 8 * i + 8 ≤ N → Inv i σ → ∀ a0 : Int32, ∃ (r r' : Int32) (σ1 : MH) (σ2 : MH), Pz_stable a0 σ = some (r, σ1) ∧ Md_stable a0 σ1 = some (r', σ2) ∧ (E → r = r') ∧ Inv (i + 1) σ2
def ST16 (E : Prop) (N : Nat) (Inv : Nat → MH → Prop) : Prop := ∀ i σ, 8 * i + 8 ≤ N → Inv i σ → ∀ a0 : Int32, ∃ (r r' : Int32) (σ1 : MH) (σ2 : MH), Pz_unrest a0 σ = some (r, σ1) ∧ Md_unrest a0 σ1 = some (r', σ2) ∧ (E → r = r') ∧ Inv (i + 1) σ2
def ST17 (E : Prop) (N : Nat) (Inv : Nat → MH → Prop) : Prop := ∀ i σ, 8 * i + 8 ≤ N → Inv i σ → ∀ a0 a1 : Int32, ∃ (r r' : Int32) (σ1 : MH) (σ2 : MH), Pz_search a0 a1 σ = some (r, σ1) ∧ Md_search a0 a1 σ1 = some (r', σ2) ∧ (E → r = r') ∧ Inv (i + 1) σ2
def ST18 (E : Prop) (N : Nat) (Inv : Nat → MH → Prop) : Prop := ∀ i σ, 8 * i + 8 ≤ N → Inv i σ → ∀ a0 a1 a2 a3 a4 a5 a6 : Int32, ∃ (r r' : Int32) (σ1 : MH) (σ2 : MH), Pz_sanding a0 a1 a2 a3 a4 a5 a6 σ = some (r, σ1) ∧ Md_sanding a0 a1 a2 a3 a4 a5 a6 σ1 = some (r', σ2) ∧ (E → r = r') ∧ Inv (i + 1) σ2
def ST19 (E : Prop) (N : Nat) (Inv : Nat → MH → Prop) : Prop := ∀ i σ, 8 * i + 8 ≤ N → Inv i σ → ∀ a0 a1 a2 a3 : Int32, ∃ (r r' : Int32) (σ1 : MH), Pz_steaming a0 a1 a2 a3 σ = some (r, σ1) ∧ Md_steaming a0 a1 a2 a3 σ1 = some r' ∧ (E → r = r') ∧ Inv (i + 1) σ1
def ST20 (E : Prop) (N : Nat) (Inv : Nat → MH → Prop) : Prop := ∀ i σ, 8 * i + 8 ≤ N → Inv i σ → ∀ a0 a1 : Int32, ∃ (r r' : Int32) (σ1 : MH) (σ2 : MH), Pz_worn a0 a1 σ = some (r, σ1) ∧ Md_worn a0 a1 σ1 = some (r', σ2) ∧ (E → r = r') ∧ Inv (i + 1) σ2
def ST21 (E : Prop) (N : Nat) (Inv : Nat → MH → Prop) : Prop := ∀ i σ, 8 * i + 8 ≤ N → Inv i σ → ∀ a0 a1 : Int32, ∃ (r r' : Int32) (σ1 : MH) (σ2 : MH), Pz_cutter a0 a1 σ = some (r, σ1) ∧ Md_cutter a0 a1 σ1 = some (r', σ2) ∧ (E → r = r') ∧ Inv (i + 1) σ2
def ST22 (E : Prop) (N : Nat) (Inv : Nat → MH → Prop) : Prop := ∀ i σ, 8 * i + 8 ≤ N → Inv i σ → ∀ a0 : Int32, ∃ (r r' : Int32), Pz_copies a0 σ = some r ∧ Md_copies a0 σ = some r' ∧ (E → r = r') ∧ Inv (i + 1) σ
def ST23 (E : Prop) (N : Nat) (Inv : Nat → MH → Prop) : Prop := ∀ i σ, 8 * i + 8 ≤ N → Inv i σ → ∀ a0 a1 : Int32, ∃ (r r' : Int32), Pz_mate a0 a1 σ = some r ∧ Md_mate a0 a1 σ = some r' ∧ (E → r = r') ∧ Inv (i + 1) σ
def ST24 (E : Prop) (N : Nat) (Inv : Nat → MH → Prop) : Prop := ∀ i σ, 8 * i + 8 ≤ N → Inv i σ → ∀ a0 : Int32, ∃ (r r' : Int32) (σ1 : MH) (σ2 : MH), Pz_seed a0 σ = some (r, σ1) ∧ Md_seed a0 σ1 = some (r', σ2) ∧ (E → r = r') ∧ Inv (i + 1) σ2
def ST25 (E : Prop) (N : Nat) (Inv : Nat → MH → Prop) : Prop := ∀ i σ, 8 * i + 8 ≤ N → Inv i σ → ∃ (r r' : Int32) (σ1 : MH) (σ2 : MH), Pz_keep σ = some (r, σ1) ∧ Md_keep σ1 = some (r', σ2) ∧ (E → r = r') ∧ Inv (i + 1) σ2
def ST26 (E : Prop) (N : Nat) (Inv : Nat → MH → Prop) : Prop := ∀ i σ, 8 * i + 8 ≤ N → Inv i σ → ∃ (r r' : Int32) (σ1 : MH) (σ2 : MH), Pz_undo σ = some (r, σ1) ∧ Md_undo σ1 = some (r', σ2) ∧ (E → r = r') ∧ Inv (i + 1) σ2
def ST27 (E : Prop) (N : Nat) (Inv : Nat → MH → Prop) : Prop := ∀ i σ, 8 * i + 8 ≤ N → Inv i σ → ∀ a0 a1 : Int32, ∃ (r r' : Int32) (σ1 : MH) (σ2 : MH), Pz_check a0 a1 σ = some (r, σ1) ∧ Md_check a0 a1 σ1 = some (r', σ2) ∧ (E → r = r') ∧ Inv (i + 1) σ2
def ST28 (E : Prop) (N : Nat) (Inv : Nat → MH → Prop) : Prop := ∀ i σ, 8 * i + 8 ≤ N → Inv i σ → ∀ a0 : Int32, ∃ (r r' : Int32), Pz_count a0 σ = some r ∧ Md_count a0 σ = some r' ∧ (E → r = r') ∧ Inv (i + 1) σ
def STEP (E : Nat → Prop) (N : Nat) (Inv : Nat → MH → Prop) : Prop := (∀ i σ, 8 * i + 8 ≤ N → Inv i σ → Inv (i + 1) σ) ∧ ST0 (E 0) N Inv ∧ ST1 (E 1) N Inv ∧ ST2 (E 2) N Inv ∧ ST3 (E 3) N Inv ∧ ST4 (E 4) N Inv ∧ ST5 (E 5) N Inv ∧ ST6 (E 6) N Inv ∧ ST7 (E 7) N Inv ∧ ST8 (E 8) N Inv ∧ ST9 (E 9) N Inv ∧ ST10 (E 10) N Inv ∧ ST11 (E 11) N Inv ∧ ST12 (E 12) N Inv ∧ ST13 (E 13) N Inv ∧ ST14 (E 14) N Inv ∧ ST15 (E 15) N Inv ∧ ST16 (E 16) N Inv ∧ ST17 (E 17) N Inv ∧ ST18 (E 18) N Inv ∧ ST19 (E 19) N Inv ∧ ST20 (E 20) N Inv ∧ ST21 (E 21) N Inv ∧ ST22 (E 22) N Inv ∧ ST23 (E 23) N Inv ∧ ST24 (E 24) N Inv ∧ ST25 (E 25) N Inv ∧ ST26 (E 26) N Inv ∧ ST27 (E 27) N Inv ∧ ST28 (E 28) N Inv
theorem ST0.mono {E E' : Prop} {N : Nat} {Inv : Nat → MH → Prop} (h : ST0 E N Inv) (he : E' → E) : ST0 E' N Inv := by
  intro i σ hi hI a0 a1 a2
  obtain ⟨r, r', σ1, σ2, h1, h2, h3, h4⟩ := h i σ hi hI a0 a1 a2
  exact ⟨r, r', σ1, σ2, h1, h2, fun z => h3 (he z), h4⟩
theorem ST1.mono {E E' : Prop} {N : Nat} {Inv : Nat → MH → Prop} (h : ST1 E N Inv) (he : E' → E) : ST1 E' N Inv := by
  intro i σ hi hI a0 a1
  obtain ⟨r, r', σ1, σ2, h1, h2, h3, h4⟩ := h i σ hi hI a0 a1
  exact ⟨r, r', σ1, σ2, h1, h2, fun z => h3 (he z), h4⟩
theorem ST2.mono {E E' : Prop} {N : Nat} {Inv : Nat → MH → Prop} (h : ST2 E N Inv) (he : E' → E) : ST2 E' N Inv := by
  intro i σ hi hI a0
  obtain ⟨r, r', σ1, σ2, h1, h2, h3, h4⟩ := h i σ hi hI a0
  exact ⟨r, r', σ1, σ2, h1, h2, fun z => h3 (he z), h4⟩
theorem ST3.mono {E E' : Prop} {N : Nat} {Inv : Nat → MH → Prop} (h : ST3 E N Inv) (he : E' → E) : ST3 E' N Inv := by
  intro i σ hi hI a0 a1
  obtain ⟨r, r', σ1, σ2, h1, h2, h3, h4⟩ := h i σ hi hI a0 a1
  exact ⟨r, r', σ1, σ2, h1, h2, fun z => h3 (he z), h4⟩
theorem ST4.mono {E E' : Prop} {N : Nat} {Inv : Nat → MH → Prop} (h : ST4 E N Inv) (he : E' → E) : ST4 E' N Inv := by
  intro i σ hi hI a0 a1 a2 a3 a4
  obtain ⟨r, r', σ1, σ2, h1, h2, h3, h4⟩ := h i σ hi hI a0 a1 a2 a3 a4
  exact ⟨r, r', σ1, σ2, h1, h2, fun z => h3 (he z), h4⟩
theorem ST5.mono {E E' : Prop} {N : Nat} {Inv : Nat → MH → Prop} (h : ST5 E N Inv) (he : E' → E) : ST5 E' N Inv := by
  intro i σ hi hI a0
  obtain ⟨r, r', σ1, σ2, h1, h2, h3, h4⟩ := h i σ hi hI a0
  exact ⟨r, r', σ1, σ2, h1, h2, fun z => h3 (he z), h4⟩
theorem ST6.mono {E E' : Prop} {N : Nat} {Inv : Nat → MH → Prop} (h : ST6 E N Inv) (he : E' → E) : ST6 E' N Inv := by
  intro i σ hi hI a0 a1
  obtain ⟨r, r', σ1, σ2, h1, h2, h3, h4⟩ := h i σ hi hI a0 a1
  exact ⟨r, r', σ1, σ2, h1, h2, fun z => h3 (he z), h4⟩
theorem ST7.mono {E E' : Prop} {N : Nat} {Inv : Nat → MH → Prop} (h : ST7 E N Inv) (he : E' → E) : ST7 E' N Inv := by
  intro i σ hi hI a0 a1
  obtain ⟨r, r', σ1, σ2, h1, h2, h3, h4⟩ := h i σ hi hI a0 a1
  exact ⟨r, r', σ1, σ2, h1, h2, fun z => h3 (he z), h4⟩
theorem ST8.mono {E E' : Prop} {N : Nat} {Inv : Nat → MH → Prop} (h : ST8 E N Inv) (he : E' → E) : ST8 E' N Inv := by
  intro i σ hi hI a0
  obtain ⟨r, r', σ1, σ2, h1, h2, h3, h4⟩ := h i σ hi hI a0
  exact ⟨r, r', σ1, σ2, h1, h2, fun z => h3 (he z), h4⟩
theorem ST9.mono {E E' : Prop} {N : Nat} {Inv : Nat → MH → Prop} (h : ST9 E N Inv) (he : E' → E) : ST9 E' N Inv := by
  intro i σ hi hI a0 a1
  obtain ⟨r, r', σ1, σ2, h1, h2, h3, h4⟩ := h i σ hi hI a0 a1
  exact ⟨r, r', σ1, σ2, h1, h2, fun z => h3 (he z), h4⟩
theorem ST10.mono {E E' : Prop} {N : Nat} {Inv : Nat → MH → Prop} (h : ST10 E N Inv) (he : E' → E) : ST10 E' N Inv := by
  intro i σ hi hI a0 a1
  obtain ⟨r, r', σ1, σ2, h1, h2, h3, h4⟩ := h i σ hi hI a0 a1
  exact ⟨r, r', σ1, σ2, h1, h2, fun z => h3 (he z), h4⟩
theorem ST11.mono {E E' : Prop} {N : Nat} {Inv : Nat → MH → Prop} (h : ST11 E N Inv) (he : E' → E) : ST11 E' N Inv := by
  intro i σ hi hI a0 a1
  obtain ⟨r, r', h1, h2, h3, h4⟩ := h i σ hi hI a0 a1
  exact ⟨r, r', h1, h2, fun z => h3 (he z), h4⟩
theorem ST12.mono {E E' : Prop} {N : Nat} {Inv : Nat → MH → Prop} (h : ST12 E N Inv) (he : E' → E) : ST12 E' N Inv := by
  intro i σ hi hI a0 a1 a2
  obtain ⟨r, r', σ1, σ2, h1, h2, h3, h4⟩ := h i σ hi hI a0 a1 a2
  exact ⟨r, r', σ1, σ2, h1, h2, fun z => h3 (he z), h4⟩
theorem ST13.mono {E E' : Prop} {N : Nat} {Inv : Nat → MH → Prop} (h : ST13 E N Inv) (he : E' → E) : ST13 E' N Inv := by
  intro i σ hi hI a0
  obtain ⟨r, r', σ1, σ2, h1, h2, h3, h4⟩ := h i σ hi hI a0
  exact ⟨r, r', σ1, σ2, h1, h2, fun z => h3 (he z), h4⟩
theorem ST14.mono {E E' : Prop} {N : Nat} {Inv : Nat → MH → Prop} (h : ST14 E N Inv) (he : E' → E) : ST14 E' N Inv := by
  intro i σ hi hI a0
  obtain ⟨r, r', σ1, σ2, h1, h2, h3, h4⟩ := h i σ hi hI a0
  exact ⟨r, r', σ1, σ2, h1, h2, fun z => h3 (he z), h4⟩
theorem ST15.mono {E E' : Prop} {N : Nat} {Inv : Nat → MH → Prop} (h : ST15 E N Inv) (he : E' → E) : ST15 E' N Inv := by
  intro i σ hi hI a0
  obtain ⟨r, r', σ1, σ2, h1, h2, h3, h4⟩ := h i σ hi hI a0
  exact ⟨r, r', σ1, σ2, h1, h2, fun z => h3 (he z), h4⟩
theorem ST16.mono {E E' : Prop} {N : Nat} {Inv : Nat → MH → Prop} (h : ST16 E N Inv) (he : E' → E) : ST16 E' N Inv := by
  intro i σ hi hI a0
  obtain ⟨r, r', σ1, σ2, h1, h2, h3, h4⟩ := h i σ hi hI a0
  exact ⟨r, r', σ1, σ2, h1, h2, fun z => h3 (he z), h4⟩
theorem ST17.mono {E E' : Prop} {N : Nat} {Inv : Nat → MH → Prop} (h : ST17 E N Inv) (he : E' → E) : ST17 E' N Inv := by
  intro i σ hi hI a0 a1
  obtain ⟨r, r', σ1, σ2, h1, h2, h3, h4⟩ := h i σ hi hI a0 a1
  exact ⟨r, r', σ1, σ2, h1, h2, fun z => h3 (he z), h4⟩
theorem ST18.mono {E E' : Prop} {N : Nat} {Inv : Nat → MH → Prop} (h : ST18 E N Inv) (he : E' → E) : ST18 E' N Inv := by
  intro i σ hi hI a0 a1 a2 a3 a4 a5 a6
  obtain ⟨r, r', σ1, σ2, h1, h2, h3, h4⟩ := h i σ hi hI a0 a1 a2 a3 a4 a5 a6
  exact ⟨r, r', σ1, σ2, h1, h2, fun z => h3 (he z), h4⟩
theorem ST19.mono {E E' : Prop} {N : Nat} {Inv : Nat → MH → Prop} (h : ST19 E N Inv) (he : E' → E) : ST19 E' N Inv := by
  intro i σ hi hI a0 a1 a2 a3
  obtain ⟨r, r', σ1, h1, h2, h3, h4⟩ := h i σ hi hI a0 a1 a2 a3
  exact ⟨r, r', σ1, h1, h2, fun z => h3 (he z), h4⟩
theorem ST20.mono {E E' : Prop} {N : Nat} {Inv : Nat → MH → Prop} (h : ST20 E N Inv) (he : E' → E) : ST20 E' N Inv := by
  intro i σ hi hI a0 a1
  obtain ⟨r, r', σ1, σ2, h1, h2, h3, h4⟩ := h i σ hi hI a0 a1
  exact ⟨r, r', σ1, σ2, h1, h2, fun z => h3 (he z), h4⟩
theorem ST21.mono {E E' : Prop} {N : Nat} {Inv : Nat → MH → Prop} (h : ST21 E N Inv) (he : E' → E) : ST21 E' N Inv := by
  intro i σ hi hI a0 a1
  obtain ⟨r, r', σ1, σ2, h1, h2, h3, h4⟩ := h i σ hi hI a0 a1
  exact ⟨r, r', σ1, σ2, h1, h2, fun z => h3 (he z), h4⟩
theorem ST22.mono {E E' : Prop} {N : Nat} {Inv : Nat → MH → Prop} (h : ST22 E N Inv) (he : E' → E) : ST22 E' N Inv := by
  intro i σ hi hI a0
  obtain ⟨r, r', h1, h2, h3, h4⟩ := h i σ hi hI a0
  exact ⟨r, r', h1, h2, fun z => h3 (he z), h4⟩
theorem ST23.mono {E E' : Prop} {N : Nat} {Inv : Nat → MH → Prop} (h : ST23 E N Inv) (he : E' → E) : ST23 E' N Inv := by
  intro i σ hi hI a0 a1
  obtain ⟨r, r', h1, h2, h3, h4⟩ := h i σ hi hI a0 a1
  exact ⟨r, r', h1, h2, fun z => h3 (he z), h4⟩
theorem ST24.mono {E E' : Prop} {N : Nat} {Inv : Nat → MH → Prop} (h : ST24 E N Inv) (he : E' → E) : ST24 E' N Inv := by
  intro i σ hi hI a0
  obtain ⟨r, r', σ1, σ2, h1, h2, h3, h4⟩ := h i σ hi hI a0
  exact ⟨r, r', σ1, σ2, h1, h2, fun z => h3 (he z), h4⟩
theorem ST25.mono {E E' : Prop} {N : Nat} {Inv : Nat → MH → Prop} (h : ST25 E N Inv) (he : E' → E) : ST25 E' N Inv := by
  intro i σ hi hI
  obtain ⟨r, r', σ1, σ2, h1, h2, h3, h4⟩ := h i σ hi hI
  exact ⟨r, r', σ1, σ2, h1, h2, fun z => h3 (he z), h4⟩
theorem ST26.mono {E E' : Prop} {N : Nat} {Inv : Nat → MH → Prop} (h : ST26 E N Inv) (he : E' → E) : ST26 E' N Inv := by
  intro i σ hi hI
  obtain ⟨r, r', σ1, σ2, h1, h2, h3, h4⟩ := h i σ hi hI
  exact ⟨r, r', σ1, σ2, h1, h2, fun z => h3 (he z), h4⟩
theorem ST27.mono {E E' : Prop} {N : Nat} {Inv : Nat → MH → Prop} (h : ST27 E N Inv) (he : E' → E) : ST27 E' N Inv := by
  intro i σ hi hI a0 a1
  obtain ⟨r, r', σ1, σ2, h1, h2, h3, h4⟩ := h i σ hi hI a0 a1
  exact ⟨r, r', σ1, σ2, h1, h2, fun z => h3 (he z), h4⟩
theorem ST28.mono {E E' : Prop} {N : Nat} {Inv : Nat → MH → Prop} (h : ST28 E N Inv) (he : E' → E) : ST28 E' N Inv := by
  intro i σ hi hI a0
  obtain ⟨r, r', h1, h2, h3, h4⟩ := h i σ hi hI a0
  exact ⟨r, r', h1, h2, fun z => h3 (he z), h4⟩
theorem STEP.mono {E E' : Nat → Prop} {N : Nat} {Inv : Nat → MH → Prop} (h : STEP E N Inv) (he : ∀ k, E' k → E k) : STEP E' N Inv := ⟨h.1, ST0.mono (h.2.1) (he 0), ST1.mono (h.2.2.1) (he 1), ST2.mono (h.2.2.2.1) (he 2), ST3.mono (h.2.2.2.2.1) (he 3), ST4.mono (h.2.2.2.2.2.1) (he 4), ST5.mono (h.2.2.2.2.2.2.1) (he 5), ST6.mono (h.2.2.2.2.2.2.2.1) (he 6), ST7.mono (h.2.2.2.2.2.2.2.2.1) (he 7), ST8.mono (h.2.2.2.2.2.2.2.2.2.1) (he 8), ST9.mono (h.2.2.2.2.2.2.2.2.2.2.1) (he 9), ST10.mono (h.2.2.2.2.2.2.2.2.2.2.2.1) (he 10), ST11.mono (h.2.2.2.2.2.2.2.2.2.2.2.2.1) (he 11), ST12.mono (h.2.2.2.2.2.2.2.2.2.2.2.2.2.1) (he 12), ST13.mono (h.2.2.2.2.2.2.2.2.2.2.2.2.2.2.1) (he 13), ST14.mono (h.2.2.2.2.2.2.2.2.2.2.2.2.2.2.2.1) (he 14), ST15.mono (h.2.2.2.2.2.2.2.2.2.2.2.2.2.2.2.2.1) (he 15), ST16.mono (h.2.2.2.2.2.2.2.2.2.2.2.2.2.2.2.2.2.1) (he 16), ST17.mono (h.2.2.2.2.2.2.2.2.2.2.2.2.2.2.2.2.2.2.1) (he 17), ST18.mono (h.2.2.2.2.2.2.2.2.2.2.2.2.2.2.2.2.2.2.2.1) (he 18), ST19.mono (h.2.2.2.2.2.2.2.2.2.2.2.2.2.2.2.2.2.2.2.2.1) (he 19), ST20.mono (h.2.2.2.2.2.2.2.2.2.2.2.2.2.2.2.2.2.2.2.2.2.1) (he 20), ST21.mono (h.2.2.2.2.2.2.2.2.2.2.2.2.2.2.2.2.2.2.2.2.2.2.1) (he 21), ST22.mono (h.2.2.2.2.2.2.2.2.2.2.2.2.2.2.2.2.2.2.2.2.2.2.2.1) (he 22), ST23.mono (h.2.2.2.2.2.2.2.2.2.2.2.2.2.2.2.2.2.2.2.2.2.2.2.2.1) (he 23), ST24.mono (h.2.2.2.2.2.2.2.2.2.2.2.2.2.2.2.2.2.2.2.2.2.2.2.2.2.1) (he 24), ST25.mono (h.2.2.2.2.2.2.2.2.2.2.2.2.2.2.2.2.2.2.2.2.2.2.2.2.2.2.1) (he 25), ST26.mono (h.2.2.2.2.2.2.2.2.2.2.2.2.2.2.2.2.2.2.2.2.2.2.2.2.2.2.2.1) (he 26), ST27.mono (h.2.2.2.2.2.2.2.2.2.2.2.2.2.2.2.2.2.2.2.2.2.2.2.2.2.2.2.2.1) (he 27), ST28.mono (h.2.2.2.2.2.2.2.2.2.2.2.2.2.2.2.2.2.2.2.2.2.2.2.2.2.2.2.2.2) (he 28)⟩
