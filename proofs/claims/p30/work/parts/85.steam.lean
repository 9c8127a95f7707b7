/-! steaming -/
section STEAM
variable {σ : MH} {A : Nat → Int32} {i j k n w t r : Nat} {S : Option (Nat × Nat)}
def upS (r : Nat) : Nat := if r ≤ 9 then 9 - r else r - 9
def wkS (t r : Nat) : Nat := t + upS r
theorem up_is (h : r < 19) : jabs (nI r - 9) = nI (upS r) := by
  have : ∀ r, r < 19 → jabs (nI r - 9) = nI (upS r) := by decide +kernel
  exact this r h
theorem up_le (h : r < 19) : upS r ≤ 9 := by unfold upS; split <;> omega
theorem up_go (h : r < 19) : ¬ (9 : Int32) < nI r - 9 ∧ nI r - 9 + 1 = nI (r + 1) - 9 := by
  have : ∀ r, r < 19 → ¬ (9 : Int32) < nI r - 9 ∧ nI r - 9 + 1 = nI (r + 1) - 9 := by decide +kernel
  exact this r h
theorem turn8 {h t : Nat} (hh : h < 8) (ht : t < 8) : (nI h + nI t) &&& 7 = nI ((h + t) % 8) ∧ jrem (nI h + nI t) 8 = nI ((h + t) % 8) := by
  have : ∀ h, h < 8 → ∀ t, t < 8 → (nI h + nI t) &&& 7 = nI ((h + t) % 8) ∧ jrem (nI h + nI t) 8 = nI ((h + t) % 8) := by decide +kernel
  exact this h hh t ht
def mdR (A : Nat → Int32) (i t : Nat) (y : Int32) : Nat → Int32 := fun h => jmax (-9) (jmin 9 (hgR A i ((h + t) % 8) + y))
def hitS (A : Nat → Int32) (i j : Nat) (room : Int32) (t r : Nat) : Bool := decide (gapR (mdR A i t (nI r - 9)) (hgR A j) ≤ room)
def ltS (S : Option (Nat × Nat)) (n : Nat) : Bool := match S with
  | none => true
  | some q => decide (n < wkS q.1 q.2)
def stS (p : Nat → Nat → Bool) (t r : Nat) (S : Option (Nat × Nat)) : Option (Nat × Nat) := if ltS S (wkS t r) = true then (if p t r = true then some (t, r) else S) else S
def rowS (p : Nat → Nat → Bool) (t n : Nat) (S : Option (Nat × Nat)) : Option (Nat × Nat) := fo (fun r S => stS p t r S) n S
def allS (p : Nat → Nat → Bool) (n : Nat) : Option (Nat × Nat) := fo (fun t S => rowS p t 19 S) n none
def okS (S : Option (Nat × Nat)) : Prop := ∀ a b, S = some (a, b) → a < 8 ∧ b < 19
theorem ok_st {p : Nat → Nat → Bool} (h : okS S) (ht : t < 8) (hr : r < 19) : okS (stS p t r S) := by
  unfold stS
  split
  · split
    · intro a b e
      cases e
      exact ⟨ht, hr⟩
    · exact h
  · exact h
theorem ok_row {p : Nat → Nat → Bool} (h : okS S) (ht : t < 8) : ∀ n, n ≤ 19 → okS (rowS p t n S) := fun n => by
  induction n with
  | zero => intro _; exact h
  | succ n ih => intro hn; exact ok_st (ih (by omega)) ht (by omega)
theorem ok_all {p : Nat → Nat → Bool} : ∀ n, n ≤ 8 → okS (allS p n) := fun n => by
  induction n with
  | zero => intro _ a b e; cases e
  | succ n ih => intro hn; exact ok_row (ih (by omega)) (by omega) 19 (Nat.le_refl _)
/-! the class -/
def eS (S : Option (Nat × Nat)) (σ : MH) : Prop := (S = none → σ.1 159 1 = 0) ∧ ∀ a b, S = some (a, b) → σ.1 159 1 = 1 ∧ σ.1 159 2 = nI (wkS a b) ∧ σ.1 159 3 = nI a ∧ σ.1 159 4 = nI b - 9
theorem eS_of {σ' : MH} (h : eS S σ) (e : ∀ k, σ'.1 159 k = σ.1 159 k) : eS S σ' := by
  refine ⟨fun q => (e 1).trans (h.1 q), fun a b q => ?_⟩
  rw [e, e, e, e]
  exact h.2 a b q
theorem wk_le (ht : t < 8) (hr : r < 19) : wkS t r ≤ 16 := by
  have := up_le hr
  unfold wkS
  omega
theorem c_steam_mk (hD : LD 1 A σ) (hi : i < 12) (ht : t < 8) (v2 : Nat) (v3 y v6 : Int32) : ∃ σ', Sander_steam_L58 (10 + i) v2 v3 (nI t) y v6 (0, σ) = some σ' ∧ Fx (fun b _ => b = 160) σ σ' ∧ ∀ h, h < 8 → σ'.1 160 h = mdR A i t y h := by
  refine itr_n 8 (fun (k : Nat) (z : Int32 × MH) => z.1 = nI k ∧ Fx (fun b _ => b = 160) σ z.2 ∧ ∀ h, h < k → z.2.1 160 h = mdR A i t y h) _ ⟨rfl, Fx.rf, fun h hh => by omega⟩ (fun k z hk hz => ?_) (fun z hz => ?_)
  · obtain ⟨z1, z2⟩ := z
    obtain ⟨rfl, hf, hv⟩ := hz
    dsimp only at hf hv
    obtain ⟨f1, f2, f3, f4⟩ := ix3 8 hk
    obtain ⟨g1, g2, g3, g4⟩ := ix3 8 (show (k + t) % 8 < 8 by omega)
    left
    refine ⟨(nI (k + 1), sI z2 160 k (mdR A i t y k)), ?_, rfl, hf.tr (Fx_sI rfl), fun h hh => ?_⟩
    · show Sander_steam_l58 (10 + i) v2 v3 (nI t) y v6 (nI k) z2 = _
      unfold Sander_steam_l58
      have e : z2.1 (10 + i) ((k + t) % 8) = hgR A i ((k + t) % 8) := (hf (10 + i) _ (by omega)).trans ((hD.2.2.1 i ((k + t) % 8) hi (by omega)))
      rw [if_neg f1, (turn8 hk ht).1, if_pos g2, if_pos f2, f3, g3, show nI k + 1 = nI (k + 1) from nI_1 _, e]
      rfl
    · dsimp only
      by_cases e : h = k
      · rw [e, sI_same]
      · rw [sI_ne (by omega)]
        exact hv h (by omega)
  · obtain ⟨z1, z2⟩ := z
    obtain ⟨rfl, hf, hv⟩ := hz
    refine ⟨z2, ?_, hf, hv⟩
    show Sander_steam_l58 (10 + i) v2 v3 (nI t) y v6 (nI 8) z2 = _
    unfold Sander_steam_l58
    rw [if_pos (by decide)]
theorem c_steam1 (hD : LD 1 A σ) (hi : i < 12) (hj : j < 12) (ht : t < 8) (hr : r < 19) (room : Int32) (hS : okS S) (he : eS S σ) : ∃ σ', Sander_steam_l19 (10 + i) (10 + j) room (nI t) (nI r - 9) σ = some (.inl (nI (r + 1) - 9, σ')) ∧ Fx (fun b _ => b = 159 ∨ b = 160) σ σ' ∧ eS (stS (hitS A i j room) t r S) σ' := by
  obtain ⟨u1, u2⟩ := up_go hr
  have hw := wk_le ht hr
  have ew : nI t + jabs (nI r - 9) = nI (wkS t r) := by rw [up_is hr, nI_add]; rfl
  obtain ⟨σ1, e1, p1, g1⟩ := c_steam_mk hD hi ht (10 + j) room (nI r - 9) (nI (wkS t r))
  have hgap : gapR (σ1.1 160) (σ1.1 (10 + j)) = gapR (mdR A i t (nI r - 9)) (hgR A j) := gapR_ext (fun k hk => g1 k hk) (fun k hk => (p1 (10 + j) k (by omega)).trans (hD.2.2.1 j k hj hk))
  have h55 : ltS S (wkS t r) = true → ∃ σ', Sander_steam_b55 (10 + i) (10 + j) room (nI t) (nI r - 9) (nI (wkS t r)) σ = some (.inl (nI (r + 1) - 9, σ')) ∧ Fx (fun b _ => b = 159 ∨ b = 160) σ σ' ∧ eS (stS (hitS A i j room) t r S) σ' := fun hlt => by
    unfold Sander_steam_b55 Sander_steam_b140 stS
    rw [if_pos hlt, e1, Option.bind_some, c_gap, Option.bind_some, hgap, u2]
    unfold hitS
    by_cases q : room < gapR (mdR A i t (nI r - 9)) (hgR A j)
    · rw [if_pos q, decide_eq_false (ne_of_lt32 q), if_neg (by decide)]
      exact ⟨σ1, rfl, p1.mo (fun b k q => Or.inr q), eS_of he (fun k => p1 159 k (by omega))⟩
    · rw [if_neg q, decide_eq_true (Int32.not_lt.mp q), if_pos rfl]
      have F1 : Fx (fun b _ => b = 159 ∨ b = 160) σ σ1 := p1.mo (fun b k q => Or.inr q)
      refine ⟨_, rfl, (((F1.tr (Fx_sI (Or.inl rfl))).tr (Fx_sI (Or.inl rfl))).tr (Fx_sI (Or.inl rfl))).tr (Fx_sI (Or.inl rfl)), ⟨fun q => (by cases q), fun a b q => ?_⟩⟩
      cases q
      refine ⟨?_, ?_, ?_, ?_⟩
      · rw [sI_fld (by decide), sI_fld (by decide), sI_fld (by decide), sI_same]
      · rw [sI_fld (by decide), sI_fld (by decide), sI_same]
      · rw [sI_fld (by decide), sI_same]
      · rw [sI_same]
  unfold Sander_steam_l19
  rw [if_neg u1, ew]
  cases S with
  | none =>
    have z : σ.1 159 1 = 0 := he.1 rfl
    rw [if_pos z]
    exact h55 rfl
  | some q =>
    obtain ⟨a, b⟩ := q
    obtain ⟨z1, z2, z3, z4⟩ := he.2 a b rfl
    obtain ⟨ha, hb⟩ := hS a b rfl
    have hw2 := wk_le ha hb
    have hl : ltS (some (a, b)) (wkS t r) = decide (wkS t r < wkS a b) := rfl
    rw [z1, if_neg (show ¬ (1 : Int32) = 0 by decide), z2]
    by_cases c : wkS t r < wkS a b
    · rw [if_pos ((nI_ltI (by omega) (by omega)).mpr c)]
      exact h55 (hl.trans (decide_eq_true c))
    · rw [if_neg (fun y => c ((nI_ltI (by omega) (by omega)).mp y))]
      unfold Sander_steam_b140 stS
      rw [u2, hl, decide_eq_false c, if_neg (by decide)]
      exact ⟨σ, rfl, Fx.rf, he⟩
theorem c_steam (hD : LD 1 A σ) (hi : i < 12) (hj : j < 12) (room : Int32) : ∃ σ', Sander_steam (10 + i) (10 + j) room σ = some σ' ∧ Fx (fun b _ => b = 159 ∨ b = 160) σ σ' ∧ eS (allS (hitS A i j room) 8) σ' := by
  have inner : ∀ (τ : MH) (t : Nat) (S : Option (Nat × Nat)), LD 1 A τ → t < 8 → okS S → eS S τ → ∃ r, Sander_steam_L19 (10 + i) (10 + j) room (nI t) (-9, τ) = some r ∧ Fx (fun b _ => b = 159 ∨ b = 160) τ r ∧ eS (rowS (hitS A i j room) t 19 S) r := by
    intro τ t S hDt ht hS he
    refine itr_n 19 (fun (k : Nat) (z : Int32 × MH) => z.1 = nI k - 9 ∧ Fx (fun b _ => b = 159 ∨ b = 160) τ z.2 ∧ eS (rowS (hitS A i j room) t k S) z.2) _ ⟨rfl, Fx.rf, he⟩ (fun k z hk hz => ?_) (fun z hz => ?_)
    · obtain ⟨z1, z2⟩ := z
      obtain ⟨rfl, hf, hv⟩ := hz
      dsimp only at hf hv
      obtain ⟨σ', e, p, g⟩ := c_steam1 (LD_of hDt (fun b m s t => hf b m (by omega))) hi hj ht hk room (ok_row hS ht k (by omega)) hv
      exact Or.inl ⟨_, e, rfl, hf.tr p, g⟩
    · obtain ⟨z1, z2⟩ := z
      obtain ⟨rfl, hf, hv⟩ := hz
      dsimp only at hf hv
      refine ⟨z2, ?_, hf, hv⟩
      show Sander_steam_l19 (10 + i) (10 + j) room (nI t) (nI 19 - 9) z2 = _
      unfold Sander_steam_l19
      rw [if_pos (by decide)]
  obtain ⟨r, e, p, g⟩ : ∃ r, Sander_steam_L8 (10 + i) (10 + j) room (0, sI σ 159 1 0) = some r ∧ Fx (fun b _ => b = 159 ∨ b = 160) σ r ∧ eS (allS (hitS A i j room) 8) r := by
    refine itr_n 8 (fun (k : Nat) (z : Int32 × MH) => z.1 = nI k ∧ Fx (fun b _ => b = 159 ∨ b = 160) σ z.2 ∧ eS (allS (hitS A i j room) k) z.2) _ ⟨rfl, Fx_sI (Or.inl rfl), ⟨fun _ => sI_same, fun a b q => (by cases q)⟩⟩ (fun k z hk hz => ?_) (fun z hz => ?_)
    · obtain ⟨z1, z2⟩ := z
      obtain ⟨rfl, hf, hv⟩ := hz
      dsimp only at hf hv
      obtain ⟨f1, f2, f3, f4⟩ := ix3 8 hk
      obtain ⟨σ', e, p, g⟩ := inner z2 k _ (LD_of hD (fun b m s t => hf b m (by omega))) hk (ok_all k (by omega)) hv
      refine Or.inl ⟨(nI (k + 1), σ'), ?_, rfl, hf.tr p, g⟩
      show Sander_steam_l8 (10 + i) (10 + j) room (nI k) z2 = _
      unfold Sander_steam_l8
      rw [if_neg f1, e, Option.bind_some, show nI k + 1 = nI (k + 1) from nI_1 _]
    · obtain ⟨z1, z2⟩ := z
      obtain ⟨rfl, hf, hv⟩ := hz
      dsimp only at hf hv
      refine ⟨z2, ?_, hf, hv⟩
      show Sander_steam_l8 (10 + i) (10 + j) room (nI 8) z2 = _
      unfold Sander_steam_l8
      rw [if_pos (by decide)]
  refine ⟨r, ?_, p, g⟩
  unfold Sander_steam Sander_steam0
  rw [e]
  rfl
/-! the reference -/
def eM (S : Option (Nat × Nat)) : Int32 × Int32 := match S with
  | none => (-1, 1000000000)
  | some q => (nI (20 * q.1 + q.2 + 1), nI (wkS q.1 q.2))
theorem m_slackSteamed (hi : i < 12) (hj : j < 12) (ht : t < 8) (y : Int32) : Md_slackSteamed (nI i) (nI j) (nI t) y σ = some (jmax 0 (gapR (mdR (σ.1 167) i t y) (hgR (σ.1 167) j) - σ.1 167 (72 + i) - σ.1 167 (72 + j))) := by
  have e : Md_slackSteamed_L6 (nI i) (nI j) (nI t) y σ (0, 0) = some (gapR (mdR (σ.1 167) i t y) (hgR (σ.1 167) j)) := by
    refine itr_acc 8 (fun h s hh => ?_) (fun s => ?_)
    · show Md_slackSteamed_l6 (nI i) (nI j) (nI t) y s (nI h) σ = _
      obtain ⟨f1, f2, f3, f4⟩ := ix3 8 hh
      unfold Md_slackSteamed_l6
      rw [if_neg f1, (turn8 hh ht).2, m_heightOf hi (by omega), Option.bind_some, m_min, Option.bind_some, m_max, Option.bind_some, lit_nI 7, pk_sub (show h ≤ 7 by omega), m_heightOf hj (by omega), Option.bind_some, m_size, Option.bind_some, show nI h + 1 = nI (h + 1) from nI_1 _]
      rfl
    · show Md_slackSteamed_l6 (nI i) (nI j) (nI t) y s (nI 8) σ = _
      unfold Md_slackSteamed_l6
      rw [if_pos (by decide)]
  have b1 := ixc (c := 72) hi (by decide)
  have b2 := ixc (c := 72) hj (by decide)
  unfold Md_slackSteamed Md_slackSteamed0
  rw [e, Option.bind_some, lit_nI 72, if_pos b1.1, if_pos b2.1, b1.2, b2.2, m_max, Option.bind_some]
end STEAM
